theorem dL_law_0 : decode cL_law 0 = .ok (.new 7, 3) := by decide +kernel
theorem dL_law_3 : decode cL_law 3 = .ok (.dup, 1) := by decide +kernel
theorem dL_law_4 : decode cL_law 4 = .ok (.invokespecial 9, 3) := by decide +kernel
theorem dL_law_7 : decode cL_law 7 = .ok (.astore_n 1, 1) := by decide +kernel
theorem dL_law_8 : decode cL_law 8 = .ok (.new 10, 3) := by decide +kernel
theorem dL_law_11 : decode cL_law 11 = .ok (.dup, 1) := by decide +kernel
theorem dL_law_12 : decode cL_law 12 = .ok (.invokespecial 12, 3) := by decide +kernel
theorem dL_law_15 : decode cL_law 15 = .ok (.astore_n 2, 1) := by decide +kernel
theorem dL_law_16 : decode cL_law 16 = .ok (.iconst 0, 1) := by decide +kernel
theorem dL_law_17 : decode cL_law 17 = .ok (.istore_n 3, 1) := by decide +kernel
theorem dL_law_18 : decode cL_law 18 = .ok (.iload_n 3, 1) := by decide +kernel
theorem dL_law_19 : decode cL_law 19 = .ok (.aload_n 0, 1) := by decide +kernel
theorem dL_law_20 : decode cL_law 20 = .ok (.arraylength, 1) := by decide +kernel
theorem dL_law_21 : decode cL_law 21 = .ok (.bipush 6, 2) := by decide +kernel
theorem dL_law_23 : decode cL_law 23 = .ok (.isub, 1) := by decide +kernel
theorem dL_law_24 : decode cL_law 24 = .ok (.if_icmp .gt 2040, 3) := by decide +kernel
theorem dL_law_27 : decode cL_law 27 = .ok (.aload_n 0, 1) := by decide +kernel
theorem dL_law_28 : decode cL_law 28 = .ok (.iload_n 3, 1) := by decide +kernel
theorem dL_law_29 : decode cL_law 29 = .ok (.iaload, 1) := by decide +kernel
theorem dL_law_30 : decode cL_law 30 = .ok (.bipush 63, 2) := by decide +kernel
theorem dL_law_32 : decode cL_law 32 = .ok (.iand, 1) := by decide +kernel
theorem dL_law_33 : decode cL_law 33 = .ok (.tableswitch 2025 0 44 #[195, 228, 301, 374, 447, 470, 503, 546, 589, 632, 685, 718, 752, 785, 829, 882, 936, 1019, 1052, 1085, 1118, 1151, 1194, 1227, 1250, 1283, 1316, 1359, 1402, 1435, 1468, 1501, 1534, 1567, 1600, 1653, 1676, 1709, 1763, 1826, 1859, 1903, 1966, 1989, 2012], 195) := by decide +kernel
theorem dL_law_228 : decode cL_law 228 = .ok (.aload_n 1, 1) := by decide +kernel
theorem dL_law_229 : decode cL_law 229 = .ok (.aload_n 0, 1) := by decide +kernel
theorem dL_law_230 : decode cL_law 230 = .ok (.iload_n 3, 1) := by decide +kernel
theorem dL_law_231 : decode cL_law 231 = .ok (.iconst 1, 1) := by decide +kernel
theorem dL_law_232 : decode cL_law 232 = .ok (.iadd, 1) := by decide +kernel
theorem dL_law_233 : decode cL_law 233 = .ok (.iaload, 1) := by decide +kernel
theorem dL_law_234 : decode cL_law 234 = .ok (.aload_n 0, 1) := by decide +kernel
theorem dL_law_235 : decode cL_law 235 = .ok (.iload_n 3, 1) := by decide +kernel
theorem dL_law_236 : decode cL_law 236 = .ok (.iconst 2, 1) := by decide +kernel
theorem dL_law_237 : decode cL_law 237 = .ok (.iadd, 1) := by decide +kernel
theorem dL_law_238 : decode cL_law 238 = .ok (.iaload, 1) := by decide +kernel
theorem dL_law_239 : decode cL_law 239 = .ok (.invokevirtual 13, 3) := by decide +kernel
theorem dL_law_242 : decode cL_law 242 = .ok (.aload_n 2, 1) := by decide +kernel
theorem dL_law_243 : decode cL_law 243 = .ok (.aload_n 0, 1) := by decide +kernel
theorem dL_law_244 : decode cL_law 244 = .ok (.iload_n 3, 1) := by decide +kernel
theorem dL_law_245 : decode cL_law 245 = .ok (.iconst 1, 1) := by decide +kernel
theorem dL_law_246 : decode cL_law 246 = .ok (.iadd, 1) := by decide +kernel
theorem dL_law_247 : decode cL_law 247 = .ok (.iaload, 1) := by decide +kernel
theorem dL_law_248 : decode cL_law 248 = .ok (.aload_n 0, 1) := by decide +kernel
theorem dL_law_249 : decode cL_law 249 = .ok (.iload_n 3, 1) := by decide +kernel
theorem dL_law_250 : decode cL_law 250 = .ok (.iconst 2, 1) := by decide +kernel
theorem dL_law_251 : decode cL_law 251 = .ok (.iadd, 1) := by decide +kernel
theorem dL_law_252 : decode cL_law 252 = .ok (.iaload, 1) := by decide +kernel
theorem dL_law_253 : decode cL_law 253 = .ok (.invokevirtual 17, 3) := by decide +kernel
theorem dL_law_256 : decode cL_law 256 = .ok (.if_icmp .eq 1802, 3) := by decide +kernel
theorem dL_law_259 : decode cL_law 259 = .ok (.iconst 0, 1) := by decide +kernel
theorem dL_law_260 : decode cL_law 260 = .ok (.ireturn, 1) := by decide +kernel
theorem dL_law_261 : decode cL_law 261 = .ok (.aload_n 1, 1) := by decide +kernel
theorem dL_law_262 : decode cL_law 262 = .ok (.aload_n 0, 1) := by decide +kernel
theorem dL_law_263 : decode cL_law 263 = .ok (.iload_n 3, 1) := by decide +kernel
theorem dL_law_264 : decode cL_law 264 = .ok (.iconst 1, 1) := by decide +kernel
theorem dL_law_265 : decode cL_law 265 = .ok (.iadd, 1) := by decide +kernel
theorem dL_law_266 : decode cL_law 266 = .ok (.iaload, 1) := by decide +kernel
theorem dL_law_267 : decode cL_law 267 = .ok (.aload_n 0, 1) := by decide +kernel
theorem dL_law_268 : decode cL_law 268 = .ok (.iload_n 3, 1) := by decide +kernel
theorem dL_law_269 : decode cL_law 269 = .ok (.iconst 2, 1) := by decide +kernel
theorem dL_law_270 : decode cL_law 270 = .ok (.iadd, 1) := by decide +kernel
theorem dL_law_271 : decode cL_law 271 = .ok (.iaload, 1) := by decide +kernel
theorem dL_law_272 : decode cL_law 272 = .ok (.aload_n 0, 1) := by decide +kernel
theorem dL_law_273 : decode cL_law 273 = .ok (.iload_n 3, 1) := by decide +kernel
theorem dL_law_274 : decode cL_law 274 = .ok (.iconst 3, 1) := by decide +kernel
theorem dL_law_275 : decode cL_law 275 = .ok (.iadd, 1) := by decide +kernel
theorem dL_law_276 : decode cL_law 276 = .ok (.iaload, 1) := by decide +kernel
theorem dL_law_277 : decode cL_law 277 = .ok (.i2l, 1) := by decide +kernel
theorem dL_law_278 : decode cL_law 278 = .ok (.bipush 32, 2) := by decide +kernel
theorem dL_law_280 : decode cL_law 280 = .ok (.lshl, 1) := by decide +kernel
theorem dL_law_281 : decode cL_law 281 = .ok (.aload_n 0, 1) := by decide +kernel
theorem dL_law_282 : decode cL_law 282 = .ok (.iload_n 3, 1) := by decide +kernel
theorem dL_law_283 : decode cL_law 283 = .ok (.iconst 4, 1) := by decide +kernel
theorem dL_law_284 : decode cL_law 284 = .ok (.iadd, 1) := by decide +kernel
theorem dL_law_285 : decode cL_law 285 = .ok (.iaload, 1) := by decide +kernel
theorem dL_law_286 : decode cL_law 286 = .ok (.i2l, 1) := by decide +kernel
theorem dL_law_287 : decode cL_law 287 = .ok (.ldc2_w 18, 3) := by decide +kernel
theorem dL_law_290 : decode cL_law 290 = .ok (.land, 1) := by decide +kernel
theorem dL_law_291 : decode cL_law 291 = .ok (.lor, 1) := by decide +kernel
theorem dL_law_292 : decode cL_law 292 = .ok (.invokevirtual 20, 3) := by decide +kernel
theorem dL_law_295 : decode cL_law 295 = .ok (.aload_n 2, 1) := by decide +kernel
theorem dL_law_296 : decode cL_law 296 = .ok (.aload_n 0, 1) := by decide +kernel
theorem dL_law_297 : decode cL_law 297 = .ok (.iload_n 3, 1) := by decide +kernel
theorem dL_law_298 : decode cL_law 298 = .ok (.iconst 1, 1) := by decide +kernel
theorem dL_law_299 : decode cL_law 299 = .ok (.iadd, 1) := by decide +kernel
theorem dL_law_300 : decode cL_law 300 = .ok (.iaload, 1) := by decide +kernel
theorem dL_law_301 : decode cL_law 301 = .ok (.aload_n 0, 1) := by decide +kernel
theorem dL_law_302 : decode cL_law 302 = .ok (.iload_n 3, 1) := by decide +kernel
theorem dL_law_303 : decode cL_law 303 = .ok (.iconst 2, 1) := by decide +kernel
theorem dL_law_304 : decode cL_law 304 = .ok (.iadd, 1) := by decide +kernel
theorem dL_law_305 : decode cL_law 305 = .ok (.iaload, 1) := by decide +kernel
theorem dL_law_306 : decode cL_law 306 = .ok (.aload_n 0, 1) := by decide +kernel
theorem dL_law_307 : decode cL_law 307 = .ok (.iload_n 3, 1) := by decide +kernel
theorem dL_law_308 : decode cL_law 308 = .ok (.iconst 3, 1) := by decide +kernel
theorem dL_law_309 : decode cL_law 309 = .ok (.iadd, 1) := by decide +kernel
theorem dL_law_310 : decode cL_law 310 = .ok (.iaload, 1) := by decide +kernel
theorem dL_law_311 : decode cL_law 311 = .ok (.i2l, 1) := by decide +kernel
theorem dL_law_312 : decode cL_law 312 = .ok (.bipush 32, 2) := by decide +kernel
theorem dL_law_314 : decode cL_law 314 = .ok (.lshl, 1) := by decide +kernel
theorem dL_law_315 : decode cL_law 315 = .ok (.aload_n 0, 1) := by decide +kernel
theorem dL_law_316 : decode cL_law 316 = .ok (.iload_n 3, 1) := by decide +kernel
theorem dL_law_317 : decode cL_law 317 = .ok (.iconst 4, 1) := by decide +kernel
theorem dL_law_318 : decode cL_law 318 = .ok (.iadd, 1) := by decide +kernel
theorem dL_law_319 : decode cL_law 319 = .ok (.iaload, 1) := by decide +kernel
theorem dL_law_320 : decode cL_law 320 = .ok (.i2l, 1) := by decide +kernel
theorem dL_law_321 : decode cL_law 321 = .ok (.ldc2_w 18, 3) := by decide +kernel
theorem dL_law_324 : decode cL_law 324 = .ok (.land, 1) := by decide +kernel
theorem dL_law_325 : decode cL_law 325 = .ok (.lor, 1) := by decide +kernel
theorem dL_law_326 : decode cL_law 326 = .ok (.invokevirtual 24, 3) := by decide +kernel
theorem dL_law_329 : decode cL_law 329 = .ok (.if_icmp .eq 1729, 3) := by decide +kernel
theorem dL_law_332 : decode cL_law 332 = .ok (.iconst 0, 1) := by decide +kernel
theorem dL_law_333 : decode cL_law 333 = .ok (.ireturn, 1) := by decide +kernel
theorem dL_law_334 : decode cL_law 334 = .ok (.aload_n 1, 1) := by decide +kernel
theorem dL_law_335 : decode cL_law 335 = .ok (.aload_n 0, 1) := by decide +kernel
theorem dL_law_336 : decode cL_law 336 = .ok (.iload_n 3, 1) := by decide +kernel
theorem dL_law_337 : decode cL_law 337 = .ok (.iconst 1, 1) := by decide +kernel
theorem dL_law_338 : decode cL_law 338 = .ok (.iadd, 1) := by decide +kernel
theorem dL_law_339 : decode cL_law 339 = .ok (.iaload, 1) := by decide +kernel
theorem dL_law_340 : decode cL_law 340 = .ok (.aload_n 0, 1) := by decide +kernel
theorem dL_law_341 : decode cL_law 341 = .ok (.iload_n 3, 1) := by decide +kernel
theorem dL_law_342 : decode cL_law 342 = .ok (.iconst 2, 1) := by decide +kernel
theorem dL_law_343 : decode cL_law 343 = .ok (.iadd, 1) := by decide +kernel
theorem dL_law_344 : decode cL_law 344 = .ok (.iaload, 1) := by decide +kernel
theorem dL_law_345 : decode cL_law 345 = .ok (.aload_n 0, 1) := by decide +kernel
theorem dL_law_346 : decode cL_law 346 = .ok (.iload_n 3, 1) := by decide +kernel
theorem dL_law_347 : decode cL_law 347 = .ok (.iconst 3, 1) := by decide +kernel
theorem dL_law_348 : decode cL_law 348 = .ok (.iadd, 1) := by decide +kernel
theorem dL_law_349 : decode cL_law 349 = .ok (.iaload, 1) := by decide +kernel
theorem dL_law_350 : decode cL_law 350 = .ok (.i2l, 1) := by decide +kernel
theorem dL_law_351 : decode cL_law 351 = .ok (.bipush 32, 2) := by decide +kernel
theorem dL_law_353 : decode cL_law 353 = .ok (.lshl, 1) := by decide +kernel
theorem dL_law_354 : decode cL_law 354 = .ok (.aload_n 0, 1) := by decide +kernel
theorem dL_law_355 : decode cL_law 355 = .ok (.iload_n 3, 1) := by decide +kernel
theorem dL_law_356 : decode cL_law 356 = .ok (.iconst 4, 1) := by decide +kernel
theorem dL_law_357 : decode cL_law 357 = .ok (.iadd, 1) := by decide +kernel
theorem dL_law_358 : decode cL_law 358 = .ok (.iaload, 1) := by decide +kernel
theorem dL_law_359 : decode cL_law 359 = .ok (.i2l, 1) := by decide +kernel
theorem dL_law_360 : decode cL_law 360 = .ok (.ldc2_w 18, 3) := by decide +kernel
theorem dL_law_363 : decode cL_law 363 = .ok (.land, 1) := by decide +kernel
theorem dL_law_364 : decode cL_law 364 = .ok (.lor, 1) := by decide +kernel
theorem dL_law_365 : decode cL_law 365 = .ok (.invokevirtual 25, 3) := by decide +kernel
theorem dL_law_368 : decode cL_law 368 = .ok (.aload_n 2, 1) := by decide +kernel
theorem dL_law_369 : decode cL_law 369 = .ok (.aload_n 0, 1) := by decide +kernel
theorem dL_law_370 : decode cL_law 370 = .ok (.iload_n 3, 1) := by decide +kernel
theorem dL_law_371 : decode cL_law 371 = .ok (.iconst 1, 1) := by decide +kernel
theorem dL_law_372 : decode cL_law 372 = .ok (.iadd, 1) := by decide +kernel
theorem dL_law_373 : decode cL_law 373 = .ok (.iaload, 1) := by decide +kernel
theorem dL_law_374 : decode cL_law 374 = .ok (.aload_n 0, 1) := by decide +kernel
theorem dL_law_375 : decode cL_law 375 = .ok (.iload_n 3, 1) := by decide +kernel
theorem dL_law_376 : decode cL_law 376 = .ok (.iconst 2, 1) := by decide +kernel
theorem dL_law_377 : decode cL_law 377 = .ok (.iadd, 1) := by decide +kernel
theorem dL_law_378 : decode cL_law 378 = .ok (.iaload, 1) := by decide +kernel
theorem dL_law_379 : decode cL_law 379 = .ok (.aload_n 0, 1) := by decide +kernel
theorem dL_law_380 : decode cL_law 380 = .ok (.iload_n 3, 1) := by decide +kernel
theorem dL_law_381 : decode cL_law 381 = .ok (.iconst 3, 1) := by decide +kernel
theorem dL_law_382 : decode cL_law 382 = .ok (.iadd, 1) := by decide +kernel
theorem dL_law_383 : decode cL_law 383 = .ok (.iaload, 1) := by decide +kernel
theorem dL_law_384 : decode cL_law 384 = .ok (.i2l, 1) := by decide +kernel
theorem dL_law_385 : decode cL_law 385 = .ok (.bipush 32, 2) := by decide +kernel
theorem dL_law_387 : decode cL_law 387 = .ok (.lshl, 1) := by decide +kernel
theorem dL_law_388 : decode cL_law 388 = .ok (.aload_n 0, 1) := by decide +kernel
theorem dL_law_389 : decode cL_law 389 = .ok (.iload_n 3, 1) := by decide +kernel
theorem dL_law_390 : decode cL_law 390 = .ok (.iconst 4, 1) := by decide +kernel
theorem dL_law_391 : decode cL_law 391 = .ok (.iadd, 1) := by decide +kernel
theorem dL_law_392 : decode cL_law 392 = .ok (.iaload, 1) := by decide +kernel
theorem dL_law_393 : decode cL_law 393 = .ok (.i2l, 1) := by decide +kernel
theorem dL_law_394 : decode cL_law 394 = .ok (.ldc2_w 18, 3) := by decide +kernel
theorem dL_law_397 : decode cL_law 397 = .ok (.land, 1) := by decide +kernel
theorem dL_law_398 : decode cL_law 398 = .ok (.lor, 1) := by decide +kernel
theorem dL_law_399 : decode cL_law 399 = .ok (.invokevirtual 28, 3) := by decide +kernel
theorem dL_law_402 : decode cL_law 402 = .ok (.if_icmp .eq 1656, 3) := by decide +kernel
theorem dL_law_405 : decode cL_law 405 = .ok (.iconst 0, 1) := by decide +kernel
theorem dL_law_406 : decode cL_law 406 = .ok (.ireturn, 1) := by decide +kernel
theorem dL_law_407 : decode cL_law 407 = .ok (.aload_n 1, 1) := by decide +kernel
theorem dL_law_408 : decode cL_law 408 = .ok (.aload_n 0, 1) := by decide +kernel
theorem dL_law_409 : decode cL_law 409 = .ok (.iload_n 3, 1) := by decide +kernel
theorem dL_law_410 : decode cL_law 410 = .ok (.iconst 1, 1) := by decide +kernel
theorem dL_law_411 : decode cL_law 411 = .ok (.iadd, 1) := by decide +kernel
theorem dL_law_412 : decode cL_law 412 = .ok (.iaload, 1) := by decide +kernel
theorem dL_law_413 : decode cL_law 413 = .ok (.aload_n 0, 1) := by decide +kernel
theorem dL_law_414 : decode cL_law 414 = .ok (.iload_n 3, 1) := by decide +kernel
theorem dL_law_415 : decode cL_law 415 = .ok (.iconst 2, 1) := by decide +kernel
theorem dL_law_416 : decode cL_law 416 = .ok (.iadd, 1) := by decide +kernel
theorem dL_law_417 : decode cL_law 417 = .ok (.iaload, 1) := by decide +kernel
theorem dL_law_418 : decode cL_law 418 = .ok (.aload_n 0, 1) := by decide +kernel
theorem dL_law_419 : decode cL_law 419 = .ok (.iload_n 3, 1) := by decide +kernel
theorem dL_law_420 : decode cL_law 420 = .ok (.iconst 3, 1) := by decide +kernel
theorem dL_law_421 : decode cL_law 421 = .ok (.iadd, 1) := by decide +kernel
theorem dL_law_422 : decode cL_law 422 = .ok (.iaload, 1) := by decide +kernel
theorem dL_law_423 : decode cL_law 423 = .ok (.i2l, 1) := by decide +kernel
theorem dL_law_424 : decode cL_law 424 = .ok (.bipush 32, 2) := by decide +kernel
theorem dL_law_426 : decode cL_law 426 = .ok (.lshl, 1) := by decide +kernel
theorem dL_law_427 : decode cL_law 427 = .ok (.aload_n 0, 1) := by decide +kernel
theorem dL_law_428 : decode cL_law 428 = .ok (.iload_n 3, 1) := by decide +kernel
theorem dL_law_429 : decode cL_law 429 = .ok (.iconst 4, 1) := by decide +kernel
theorem dL_law_430 : decode cL_law 430 = .ok (.iadd, 1) := by decide +kernel
theorem dL_law_431 : decode cL_law 431 = .ok (.iaload, 1) := by decide +kernel
theorem dL_law_432 : decode cL_law 432 = .ok (.i2l, 1) := by decide +kernel
theorem dL_law_433 : decode cL_law 433 = .ok (.ldc2_w 18, 3) := by decide +kernel
theorem dL_law_436 : decode cL_law 436 = .ok (.land, 1) := by decide +kernel
theorem dL_law_437 : decode cL_law 437 = .ok (.lor, 1) := by decide +kernel
theorem dL_law_438 : decode cL_law 438 = .ok (.invokevirtual 29, 3) := by decide +kernel
theorem dL_law_441 : decode cL_law 441 = .ok (.aload_n 2, 1) := by decide +kernel
theorem dL_law_442 : decode cL_law 442 = .ok (.aload_n 0, 1) := by decide +kernel
theorem dL_law_443 : decode cL_law 443 = .ok (.iload_n 3, 1) := by decide +kernel
theorem dL_law_444 : decode cL_law 444 = .ok (.iconst 1, 1) := by decide +kernel
theorem dL_law_445 : decode cL_law 445 = .ok (.iadd, 1) := by decide +kernel
theorem dL_law_446 : decode cL_law 446 = .ok (.iaload, 1) := by decide +kernel
theorem dL_law_447 : decode cL_law 447 = .ok (.aload_n 0, 1) := by decide +kernel
theorem dL_law_448 : decode cL_law 448 = .ok (.iload_n 3, 1) := by decide +kernel
theorem dL_law_449 : decode cL_law 449 = .ok (.iconst 2, 1) := by decide +kernel
theorem dL_law_450 : decode cL_law 450 = .ok (.iadd, 1) := by decide +kernel
theorem dL_law_451 : decode cL_law 451 = .ok (.iaload, 1) := by decide +kernel
theorem dL_law_452 : decode cL_law 452 = .ok (.aload_n 0, 1) := by decide +kernel
theorem dL_law_453 : decode cL_law 453 = .ok (.iload_n 3, 1) := by decide +kernel
theorem dL_law_454 : decode cL_law 454 = .ok (.iconst 3, 1) := by decide +kernel
theorem dL_law_455 : decode cL_law 455 = .ok (.iadd, 1) := by decide +kernel
theorem dL_law_456 : decode cL_law 456 = .ok (.iaload, 1) := by decide +kernel
theorem dL_law_457 : decode cL_law 457 = .ok (.i2l, 1) := by decide +kernel
theorem dL_law_458 : decode cL_law 458 = .ok (.bipush 32, 2) := by decide +kernel
theorem dL_law_460 : decode cL_law 460 = .ok (.lshl, 1) := by decide +kernel
theorem dL_law_461 : decode cL_law 461 = .ok (.aload_n 0, 1) := by decide +kernel
theorem dL_law_462 : decode cL_law 462 = .ok (.iload_n 3, 1) := by decide +kernel
theorem dL_law_463 : decode cL_law 463 = .ok (.iconst 4, 1) := by decide +kernel
theorem dL_law_464 : decode cL_law 464 = .ok (.iadd, 1) := by decide +kernel
theorem dL_law_465 : decode cL_law 465 = .ok (.iaload, 1) := by decide +kernel
theorem dL_law_466 : decode cL_law 466 = .ok (.i2l, 1) := by decide +kernel
theorem dL_law_467 : decode cL_law 467 = .ok (.ldc2_w 18, 3) := by decide +kernel
theorem dL_law_470 : decode cL_law 470 = .ok (.land, 1) := by decide +kernel
theorem dL_law_471 : decode cL_law 471 = .ok (.lor, 1) := by decide +kernel
theorem dL_law_472 : decode cL_law 472 = .ok (.invokevirtual 32, 3) := by decide +kernel
theorem dL_law_475 : decode cL_law 475 = .ok (.if_icmp .eq 1583, 3) := by decide +kernel
theorem dL_law_478 : decode cL_law 478 = .ok (.iconst 0, 1) := by decide +kernel
theorem dL_law_479 : decode cL_law 479 = .ok (.ireturn, 1) := by decide +kernel
theorem dL_law_480 : decode cL_law 480 = .ok (.aload_n 1, 1) := by decide +kernel
theorem dL_law_481 : decode cL_law 481 = .ok (.aload_n 0, 1) := by decide +kernel
theorem dL_law_482 : decode cL_law 482 = .ok (.iload_n 3, 1) := by decide +kernel
theorem dL_law_483 : decode cL_law 483 = .ok (.iconst 1, 1) := by decide +kernel
theorem dL_law_484 : decode cL_law 484 = .ok (.iadd, 1) := by decide +kernel
theorem dL_law_485 : decode cL_law 485 = .ok (.iaload, 1) := by decide +kernel
theorem dL_law_486 : decode cL_law 486 = .ok (.invokevirtual 33, 3) := by decide +kernel
theorem dL_law_489 : decode cL_law 489 = .ok (.aload_n 2, 1) := by decide +kernel
theorem dL_law_490 : decode cL_law 490 = .ok (.aload_n 0, 1) := by decide +kernel
theorem dL_law_491 : decode cL_law 491 = .ok (.iload_n 3, 1) := by decide +kernel
theorem dL_law_492 : decode cL_law 492 = .ok (.iconst 1, 1) := by decide +kernel
theorem dL_law_493 : decode cL_law 493 = .ok (.iadd, 1) := by decide +kernel
theorem dL_law_494 : decode cL_law 494 = .ok (.iaload, 1) := by decide +kernel
theorem dL_law_495 : decode cL_law 495 = .ok (.invokevirtual 37, 3) := by decide +kernel
theorem dL_law_498 : decode cL_law 498 = .ok (.if_icmp .eq 1560, 3) := by decide +kernel
theorem dL_law_501 : decode cL_law 501 = .ok (.iconst 0, 1) := by decide +kernel
theorem dL_law_502 : decode cL_law 502 = .ok (.ireturn, 1) := by decide +kernel
theorem dL_law_503 : decode cL_law 503 = .ok (.aload_n 1, 1) := by decide +kernel
theorem dL_law_504 : decode cL_law 504 = .ok (.aload_n 0, 1) := by decide +kernel
theorem dL_law_505 : decode cL_law 505 = .ok (.iload_n 3, 1) := by decide +kernel
theorem dL_law_506 : decode cL_law 506 = .ok (.iconst 1, 1) := by decide +kernel
theorem dL_law_507 : decode cL_law 507 = .ok (.iadd, 1) := by decide +kernel
theorem dL_law_508 : decode cL_law 508 = .ok (.iaload, 1) := by decide +kernel
theorem dL_law_509 : decode cL_law 509 = .ok (.aload_n 0, 1) := by decide +kernel
theorem dL_law_510 : decode cL_law 510 = .ok (.iload_n 3, 1) := by decide +kernel
theorem dL_law_511 : decode cL_law 511 = .ok (.iconst 2, 1) := by decide +kernel
theorem dL_law_512 : decode cL_law 512 = .ok (.iadd, 1) := by decide +kernel
theorem dL_law_513 : decode cL_law 513 = .ok (.iaload, 1) := by decide +kernel
theorem dL_law_514 : decode cL_law 514 = .ok (.invokevirtual 38, 3) := by decide +kernel
theorem dL_law_517 : decode cL_law 517 = .ok (.aload_n 2, 1) := by decide +kernel
theorem dL_law_518 : decode cL_law 518 = .ok (.aload_n 0, 1) := by decide +kernel
theorem dL_law_519 : decode cL_law 519 = .ok (.iload_n 3, 1) := by decide +kernel
theorem dL_law_520 : decode cL_law 520 = .ok (.iconst 1, 1) := by decide +kernel
theorem dL_law_521 : decode cL_law 521 = .ok (.iadd, 1) := by decide +kernel
theorem dL_law_522 : decode cL_law 522 = .ok (.iaload, 1) := by decide +kernel
theorem dL_law_523 : decode cL_law 523 = .ok (.aload_n 0, 1) := by decide +kernel
theorem dL_law_524 : decode cL_law 524 = .ok (.iload_n 3, 1) := by decide +kernel
theorem dL_law_525 : decode cL_law 525 = .ok (.iconst 2, 1) := by decide +kernel
theorem dL_law_526 : decode cL_law 526 = .ok (.iadd, 1) := by decide +kernel
theorem dL_law_527 : decode cL_law 527 = .ok (.iaload, 1) := by decide +kernel
theorem dL_law_528 : decode cL_law 528 = .ok (.invokevirtual 41, 3) := by decide +kernel
theorem dL_law_531 : decode cL_law 531 = .ok (.if_icmp .eq 1527, 3) := by decide +kernel
theorem dL_law_534 : decode cL_law 534 = .ok (.iconst 0, 1) := by decide +kernel
theorem dL_law_535 : decode cL_law 535 = .ok (.ireturn, 1) := by decide +kernel
theorem dL_law_536 : decode cL_law 536 = .ok (.aload_n 1, 1) := by decide +kernel
theorem dL_law_537 : decode cL_law 537 = .ok (.aload_n 0, 1) := by decide +kernel
theorem dL_law_538 : decode cL_law 538 = .ok (.iload_n 3, 1) := by decide +kernel
theorem dL_law_539 : decode cL_law 539 = .ok (.iconst 1, 1) := by decide +kernel
theorem dL_law_540 : decode cL_law 540 = .ok (.iadd, 1) := by decide +kernel
theorem dL_law_541 : decode cL_law 541 = .ok (.iaload, 1) := by decide +kernel
theorem dL_law_542 : decode cL_law 542 = .ok (.aload_n 0, 1) := by decide +kernel
theorem dL_law_543 : decode cL_law 543 = .ok (.iload_n 3, 1) := by decide +kernel
theorem dL_law_544 : decode cL_law 544 = .ok (.iconst 2, 1) := by decide +kernel
theorem dL_law_545 : decode cL_law 545 = .ok (.iadd, 1) := by decide +kernel
theorem dL_law_546 : decode cL_law 546 = .ok (.iaload, 1) := by decide +kernel
theorem dL_law_547 : decode cL_law 547 = .ok (.aload_n 0, 1) := by decide +kernel
theorem dL_law_548 : decode cL_law 548 = .ok (.iload_n 3, 1) := by decide +kernel
theorem dL_law_549 : decode cL_law 549 = .ok (.iconst 3, 1) := by decide +kernel
theorem dL_law_550 : decode cL_law 550 = .ok (.iadd, 1) := by decide +kernel
theorem dL_law_551 : decode cL_law 551 = .ok (.iaload, 1) := by decide +kernel
theorem dL_law_552 : decode cL_law 552 = .ok (.invokevirtual 42, 3) := by decide +kernel
theorem dL_law_555 : decode cL_law 555 = .ok (.aload_n 2, 1) := by decide +kernel
theorem dL_law_556 : decode cL_law 556 = .ok (.aload_n 0, 1) := by decide +kernel
theorem dL_law_557 : decode cL_law 557 = .ok (.iload_n 3, 1) := by decide +kernel
theorem dL_law_558 : decode cL_law 558 = .ok (.iconst 1, 1) := by decide +kernel
theorem dL_law_559 : decode cL_law 559 = .ok (.iadd, 1) := by decide +kernel
theorem dL_law_560 : decode cL_law 560 = .ok (.iaload, 1) := by decide +kernel
theorem dL_law_561 : decode cL_law 561 = .ok (.aload_n 0, 1) := by decide +kernel
theorem dL_law_562 : decode cL_law 562 = .ok (.iload_n 3, 1) := by decide +kernel
theorem dL_law_563 : decode cL_law 563 = .ok (.iconst 2, 1) := by decide +kernel
theorem dL_law_564 : decode cL_law 564 = .ok (.iadd, 1) := by decide +kernel
theorem dL_law_565 : decode cL_law 565 = .ok (.iaload, 1) := by decide +kernel
theorem dL_law_566 : decode cL_law 566 = .ok (.aload_n 0, 1) := by decide +kernel
theorem dL_law_567 : decode cL_law 567 = .ok (.iload_n 3, 1) := by decide +kernel
theorem dL_law_568 : decode cL_law 568 = .ok (.iconst 3, 1) := by decide +kernel
theorem dL_law_569 : decode cL_law 569 = .ok (.iadd, 1) := by decide +kernel
theorem dL_law_570 : decode cL_law 570 = .ok (.iaload, 1) := by decide +kernel
theorem dL_law_571 : decode cL_law 571 = .ok (.invokevirtual 46, 3) := by decide +kernel
theorem dL_law_574 : decode cL_law 574 = .ok (.if_icmp .eq 1484, 3) := by decide +kernel
theorem dL_law_577 : decode cL_law 577 = .ok (.iconst 0, 1) := by decide +kernel
theorem dL_law_578 : decode cL_law 578 = .ok (.ireturn, 1) := by decide +kernel
theorem dL_law_579 : decode cL_law 579 = .ok (.aload_n 1, 1) := by decide +kernel
theorem dL_law_580 : decode cL_law 580 = .ok (.aload_n 0, 1) := by decide +kernel
theorem dL_law_581 : decode cL_law 581 = .ok (.iload_n 3, 1) := by decide +kernel
theorem dL_law_582 : decode cL_law 582 = .ok (.iconst 1, 1) := by decide +kernel
theorem dL_law_583 : decode cL_law 583 = .ok (.iadd, 1) := by decide +kernel
theorem dL_law_584 : decode cL_law 584 = .ok (.iaload, 1) := by decide +kernel
theorem dL_law_585 : decode cL_law 585 = .ok (.aload_n 0, 1) := by decide +kernel
theorem dL_law_586 : decode cL_law 586 = .ok (.iload_n 3, 1) := by decide +kernel
theorem dL_law_587 : decode cL_law 587 = .ok (.iconst 2, 1) := by decide +kernel
theorem dL_law_588 : decode cL_law 588 = .ok (.iadd, 1) := by decide +kernel
theorem dL_law_589 : decode cL_law 589 = .ok (.iaload, 1) := by decide +kernel
theorem dL_law_590 : decode cL_law 590 = .ok (.aload_n 0, 1) := by decide +kernel
theorem dL_law_591 : decode cL_law 591 = .ok (.iload_n 3, 1) := by decide +kernel
theorem dL_law_592 : decode cL_law 592 = .ok (.iconst 3, 1) := by decide +kernel
theorem dL_law_593 : decode cL_law 593 = .ok (.iadd, 1) := by decide +kernel
theorem dL_law_594 : decode cL_law 594 = .ok (.iaload, 1) := by decide +kernel
theorem dL_law_595 : decode cL_law 595 = .ok (.invokevirtual 47, 3) := by decide +kernel
theorem dL_law_598 : decode cL_law 598 = .ok (.aload_n 2, 1) := by decide +kernel
theorem dL_law_599 : decode cL_law 599 = .ok (.aload_n 0, 1) := by decide +kernel
theorem dL_law_600 : decode cL_law 600 = .ok (.iload_n 3, 1) := by decide +kernel
theorem dL_law_601 : decode cL_law 601 = .ok (.iconst 1, 1) := by decide +kernel
theorem dL_law_602 : decode cL_law 602 = .ok (.iadd, 1) := by decide +kernel
theorem dL_law_603 : decode cL_law 603 = .ok (.iaload, 1) := by decide +kernel
theorem dL_law_604 : decode cL_law 604 = .ok (.aload_n 0, 1) := by decide +kernel
theorem dL_law_605 : decode cL_law 605 = .ok (.iload_n 3, 1) := by decide +kernel
theorem dL_law_606 : decode cL_law 606 = .ok (.iconst 2, 1) := by decide +kernel
theorem dL_law_607 : decode cL_law 607 = .ok (.iadd, 1) := by decide +kernel
theorem dL_law_608 : decode cL_law 608 = .ok (.iaload, 1) := by decide +kernel
theorem dL_law_609 : decode cL_law 609 = .ok (.aload_n 0, 1) := by decide +kernel
theorem dL_law_610 : decode cL_law 610 = .ok (.iload_n 3, 1) := by decide +kernel
theorem dL_law_611 : decode cL_law 611 = .ok (.iconst 3, 1) := by decide +kernel
theorem dL_law_612 : decode cL_law 612 = .ok (.iadd, 1) := by decide +kernel
theorem dL_law_613 : decode cL_law 613 = .ok (.iaload, 1) := by decide +kernel
theorem dL_law_614 : decode cL_law 614 = .ok (.invokevirtual 50, 3) := by decide +kernel
theorem dL_law_617 : decode cL_law 617 = .ok (.if_icmp .eq 1441, 3) := by decide +kernel
theorem dL_law_620 : decode cL_law 620 = .ok (.iconst 0, 1) := by decide +kernel
theorem dL_law_621 : decode cL_law 621 = .ok (.ireturn, 1) := by decide +kernel
theorem dL_law_622 : decode cL_law 622 = .ok (.aload_n 1, 1) := by decide +kernel
theorem dL_law_623 : decode cL_law 623 = .ok (.aload_n 0, 1) := by decide +kernel
theorem dL_law_624 : decode cL_law 624 = .ok (.iload_n 3, 1) := by decide +kernel
theorem dL_law_625 : decode cL_law 625 = .ok (.iconst 1, 1) := by decide +kernel
theorem dL_law_626 : decode cL_law 626 = .ok (.iadd, 1) := by decide +kernel
theorem dL_law_627 : decode cL_law 627 = .ok (.iaload, 1) := by decide +kernel
theorem dL_law_628 : decode cL_law 628 = .ok (.aload_n 0, 1) := by decide +kernel
theorem dL_law_629 : decode cL_law 629 = .ok (.iload_n 3, 1) := by decide +kernel
theorem dL_law_630 : decode cL_law 630 = .ok (.iconst 2, 1) := by decide +kernel
theorem dL_law_631 : decode cL_law 631 = .ok (.iadd, 1) := by decide +kernel
theorem dL_law_632 : decode cL_law 632 = .ok (.iaload, 1) := by decide +kernel
theorem dL_law_633 : decode cL_law 633 = .ok (.aload_n 0, 1) := by decide +kernel
theorem dL_law_634 : decode cL_law 634 = .ok (.iload_n 3, 1) := by decide +kernel
theorem dL_law_635 : decode cL_law 635 = .ok (.iconst 3, 1) := by decide +kernel
theorem dL_law_636 : decode cL_law 636 = .ok (.iadd, 1) := by decide +kernel
theorem dL_law_637 : decode cL_law 637 = .ok (.iaload, 1) := by decide +kernel
theorem dL_law_638 : decode cL_law 638 = .ok (.invokevirtual 51, 3) := by decide +kernel
theorem dL_law_641 : decode cL_law 641 = .ok (.aload_n 2, 1) := by decide +kernel
theorem dL_law_642 : decode cL_law 642 = .ok (.aload_n 0, 1) := by decide +kernel
theorem dL_law_643 : decode cL_law 643 = .ok (.iload_n 3, 1) := by decide +kernel
theorem dL_law_644 : decode cL_law 644 = .ok (.iconst 1, 1) := by decide +kernel
theorem dL_law_645 : decode cL_law 645 = .ok (.iadd, 1) := by decide +kernel
theorem dL_law_646 : decode cL_law 646 = .ok (.iaload, 1) := by decide +kernel
theorem dL_law_647 : decode cL_law 647 = .ok (.aload_n 0, 1) := by decide +kernel
theorem dL_law_648 : decode cL_law 648 = .ok (.iload_n 3, 1) := by decide +kernel
theorem dL_law_649 : decode cL_law 649 = .ok (.iconst 2, 1) := by decide +kernel
theorem dL_law_650 : decode cL_law 650 = .ok (.iadd, 1) := by decide +kernel
theorem dL_law_651 : decode cL_law 651 = .ok (.iaload, 1) := by decide +kernel
theorem dL_law_652 : decode cL_law 652 = .ok (.aload_n 0, 1) := by decide +kernel
theorem dL_law_653 : decode cL_law 653 = .ok (.iload_n 3, 1) := by decide +kernel
theorem dL_law_654 : decode cL_law 654 = .ok (.iconst 3, 1) := by decide +kernel
theorem dL_law_655 : decode cL_law 655 = .ok (.iadd, 1) := by decide +kernel
theorem dL_law_656 : decode cL_law 656 = .ok (.iaload, 1) := by decide +kernel
theorem dL_law_657 : decode cL_law 657 = .ok (.invokevirtual 54, 3) := by decide +kernel
theorem dL_law_660 : decode cL_law 660 = .ok (.if_icmp .eq 1398, 3) := by decide +kernel
theorem dL_law_663 : decode cL_law 663 = .ok (.iconst 0, 1) := by decide +kernel
theorem dL_law_664 : decode cL_law 664 = .ok (.ireturn, 1) := by decide +kernel
theorem dL_law_665 : decode cL_law 665 = .ok (.aload_n 1, 1) := by decide +kernel
theorem dL_law_666 : decode cL_law 666 = .ok (.aload_n 0, 1) := by decide +kernel
theorem dL_law_667 : decode cL_law 667 = .ok (.iload_n 3, 1) := by decide +kernel
theorem dL_law_668 : decode cL_law 668 = .ok (.iconst 1, 1) := by decide +kernel
theorem dL_law_669 : decode cL_law 669 = .ok (.iadd, 1) := by decide +kernel
theorem dL_law_670 : decode cL_law 670 = .ok (.iaload, 1) := by decide +kernel
theorem dL_law_671 : decode cL_law 671 = .ok (.aload_n 0, 1) := by decide +kernel
theorem dL_law_672 : decode cL_law 672 = .ok (.iload_n 3, 1) := by decide +kernel
theorem dL_law_673 : decode cL_law 673 = .ok (.iconst 2, 1) := by decide +kernel
theorem dL_law_674 : decode cL_law 674 = .ok (.iadd, 1) := by decide +kernel
theorem dL_law_675 : decode cL_law 675 = .ok (.iaload, 1) := by decide +kernel
theorem dL_law_676 : decode cL_law 676 = .ok (.aload_n 0, 1) := by decide +kernel
theorem dL_law_677 : decode cL_law 677 = .ok (.iload_n 3, 1) := by decide +kernel
theorem dL_law_678 : decode cL_law 678 = .ok (.iconst 3, 1) := by decide +kernel
theorem dL_law_679 : decode cL_law 679 = .ok (.iadd, 1) := by decide +kernel
theorem dL_law_680 : decode cL_law 680 = .ok (.iaload, 1) := by decide +kernel
theorem dL_law_681 : decode cL_law 681 = .ok (.aload_n 0, 1) := by decide +kernel
theorem dL_law_682 : decode cL_law 682 = .ok (.iload_n 3, 1) := by decide +kernel
theorem dL_law_683 : decode cL_law 683 = .ok (.iconst 4, 1) := by decide +kernel
theorem dL_law_684 : decode cL_law 684 = .ok (.iadd, 1) := by decide +kernel
theorem dL_law_685 : decode cL_law 685 = .ok (.iaload, 1) := by decide +kernel
theorem dL_law_686 : decode cL_law 686 = .ok (.invokevirtual 55, 3) := by decide +kernel
theorem dL_law_689 : decode cL_law 689 = .ok (.aload_n 2, 1) := by decide +kernel
theorem dL_law_690 : decode cL_law 690 = .ok (.aload_n 0, 1) := by decide +kernel
theorem dL_law_691 : decode cL_law 691 = .ok (.iload_n 3, 1) := by decide +kernel
theorem dL_law_692 : decode cL_law 692 = .ok (.iconst 1, 1) := by decide +kernel
theorem dL_law_693 : decode cL_law 693 = .ok (.iadd, 1) := by decide +kernel
theorem dL_law_694 : decode cL_law 694 = .ok (.iaload, 1) := by decide +kernel
theorem dL_law_695 : decode cL_law 695 = .ok (.aload_n 0, 1) := by decide +kernel
theorem dL_law_696 : decode cL_law 696 = .ok (.iload_n 3, 1) := by decide +kernel
theorem dL_law_697 : decode cL_law 697 = .ok (.iconst 2, 1) := by decide +kernel
theorem dL_law_698 : decode cL_law 698 = .ok (.iadd, 1) := by decide +kernel
theorem dL_law_699 : decode cL_law 699 = .ok (.iaload, 1) := by decide +kernel
theorem dL_law_700 : decode cL_law 700 = .ok (.aload_n 0, 1) := by decide +kernel
theorem dL_law_701 : decode cL_law 701 = .ok (.iload_n 3, 1) := by decide +kernel
theorem dL_law_702 : decode cL_law 702 = .ok (.iconst 3, 1) := by decide +kernel
theorem dL_law_703 : decode cL_law 703 = .ok (.iadd, 1) := by decide +kernel
theorem dL_law_704 : decode cL_law 704 = .ok (.iaload, 1) := by decide +kernel
theorem dL_law_705 : decode cL_law 705 = .ok (.aload_n 0, 1) := by decide +kernel
theorem dL_law_706 : decode cL_law 706 = .ok (.iload_n 3, 1) := by decide +kernel
theorem dL_law_707 : decode cL_law 707 = .ok (.iconst 4, 1) := by decide +kernel
theorem dL_law_708 : decode cL_law 708 = .ok (.iadd, 1) := by decide +kernel
theorem dL_law_709 : decode cL_law 709 = .ok (.iaload, 1) := by decide +kernel
theorem dL_law_710 : decode cL_law 710 = .ok (.invokevirtual 59, 3) := by decide +kernel
theorem dL_law_713 : decode cL_law 713 = .ok (.if_icmp .eq 1345, 3) := by decide +kernel
theorem dL_law_716 : decode cL_law 716 = .ok (.iconst 0, 1) := by decide +kernel
theorem dL_law_717 : decode cL_law 717 = .ok (.ireturn, 1) := by decide +kernel
theorem dL_law_718 : decode cL_law 718 = .ok (.aload_n 1, 1) := by decide +kernel
theorem dL_law_719 : decode cL_law 719 = .ok (.aload_n 0, 1) := by decide +kernel
theorem dL_law_720 : decode cL_law 720 = .ok (.iload_n 3, 1) := by decide +kernel
theorem dL_law_721 : decode cL_law 721 = .ok (.iconst 1, 1) := by decide +kernel
theorem dL_law_722 : decode cL_law 722 = .ok (.iadd, 1) := by decide +kernel
theorem dL_law_723 : decode cL_law 723 = .ok (.iaload, 1) := by decide +kernel
theorem dL_law_724 : decode cL_law 724 = .ok (.aload_n 0, 1) := by decide +kernel
theorem dL_law_725 : decode cL_law 725 = .ok (.iload_n 3, 1) := by decide +kernel
theorem dL_law_726 : decode cL_law 726 = .ok (.iconst 2, 1) := by decide +kernel
theorem dL_law_727 : decode cL_law 727 = .ok (.iadd, 1) := by decide +kernel
theorem dL_law_728 : decode cL_law 728 = .ok (.iaload, 1) := by decide +kernel
theorem dL_law_729 : decode cL_law 729 = .ok (.invokevirtual 60, 3) := by decide +kernel
theorem dL_law_732 : decode cL_law 732 = .ok (.aload_n 2, 1) := by decide +kernel
theorem dL_law_733 : decode cL_law 733 = .ok (.aload_n 0, 1) := by decide +kernel
theorem dL_law_734 : decode cL_law 734 = .ok (.iload_n 3, 1) := by decide +kernel
theorem dL_law_735 : decode cL_law 735 = .ok (.iconst 1, 1) := by decide +kernel
theorem dL_law_736 : decode cL_law 736 = .ok (.iadd, 1) := by decide +kernel
theorem dL_law_737 : decode cL_law 737 = .ok (.iaload, 1) := by decide +kernel
theorem dL_law_738 : decode cL_law 738 = .ok (.aload_n 0, 1) := by decide +kernel
theorem dL_law_739 : decode cL_law 739 = .ok (.iload_n 3, 1) := by decide +kernel
theorem dL_law_740 : decode cL_law 740 = .ok (.iconst 2, 1) := by decide +kernel
theorem dL_law_741 : decode cL_law 741 = .ok (.iadd, 1) := by decide +kernel
theorem dL_law_742 : decode cL_law 742 = .ok (.iaload, 1) := by decide +kernel
theorem dL_law_743 : decode cL_law 743 = .ok (.invokevirtual 63, 3) := by decide +kernel
theorem dL_law_746 : decode cL_law 746 = .ok (.if_icmp .eq 1312, 3) := by decide +kernel
theorem dL_law_749 : decode cL_law 749 = .ok (.iconst 0, 1) := by decide +kernel
theorem dL_law_750 : decode cL_law 750 = .ok (.ireturn, 1) := by decide +kernel
theorem dL_law_751 : decode cL_law 751 = .ok (.aload_n 1, 1) := by decide +kernel
theorem dL_law_752 : decode cL_law 752 = .ok (.aload_n 0, 1) := by decide +kernel
theorem dL_law_753 : decode cL_law 753 = .ok (.iload_n 3, 1) := by decide +kernel
theorem dL_law_754 : decode cL_law 754 = .ok (.iconst 1, 1) := by decide +kernel
theorem dL_law_755 : decode cL_law 755 = .ok (.iadd, 1) := by decide +kernel
theorem dL_law_756 : decode cL_law 756 = .ok (.iaload, 1) := by decide +kernel
theorem dL_law_757 : decode cL_law 757 = .ok (.aload_n 0, 1) := by decide +kernel
theorem dL_law_758 : decode cL_law 758 = .ok (.iload_n 3, 1) := by decide +kernel
theorem dL_law_759 : decode cL_law 759 = .ok (.iconst 2, 1) := by decide +kernel
theorem dL_law_760 : decode cL_law 760 = .ok (.iadd, 1) := by decide +kernel
theorem dL_law_761 : decode cL_law 761 = .ok (.iaload, 1) := by decide +kernel
theorem dL_law_762 : decode cL_law 762 = .ok (.invokevirtual 64, 3) := by decide +kernel
theorem dL_law_765 : decode cL_law 765 = .ok (.aload_n 2, 1) := by decide +kernel
theorem dL_law_766 : decode cL_law 766 = .ok (.aload_n 0, 1) := by decide +kernel
theorem dL_law_767 : decode cL_law 767 = .ok (.iload_n 3, 1) := by decide +kernel
theorem dL_law_768 : decode cL_law 768 = .ok (.iconst 1, 1) := by decide +kernel
theorem dL_law_769 : decode cL_law 769 = .ok (.iadd, 1) := by decide +kernel
theorem dL_law_770 : decode cL_law 770 = .ok (.iaload, 1) := by decide +kernel
theorem dL_law_771 : decode cL_law 771 = .ok (.aload_n 0, 1) := by decide +kernel
theorem dL_law_772 : decode cL_law 772 = .ok (.iload_n 3, 1) := by decide +kernel
theorem dL_law_773 : decode cL_law 773 = .ok (.iconst 2, 1) := by decide +kernel
theorem dL_law_774 : decode cL_law 774 = .ok (.iadd, 1) := by decide +kernel
theorem dL_law_775 : decode cL_law 775 = .ok (.iaload, 1) := by decide +kernel
theorem dL_law_776 : decode cL_law 776 = .ok (.invokevirtual 68, 3) := by decide +kernel
theorem dL_law_779 : decode cL_law 779 = .ok (.lcmp, 1) := by decide +kernel
theorem dL_law_780 : decode cL_law 780 = .ok (.ifCond .eq 1278, 3) := by decide +kernel
theorem dL_law_783 : decode cL_law 783 = .ok (.iconst 0, 1) := by decide +kernel
theorem dL_law_784 : decode cL_law 784 = .ok (.ireturn, 1) := by decide +kernel
theorem dL_law_785 : decode cL_law 785 = .ok (.aload_n 1, 1) := by decide +kernel
theorem dL_law_786 : decode cL_law 786 = .ok (.aload_n 0, 1) := by decide +kernel
theorem dL_law_787 : decode cL_law 787 = .ok (.iload_n 3, 1) := by decide +kernel
theorem dL_law_788 : decode cL_law 788 = .ok (.iconst 1, 1) := by decide +kernel
theorem dL_law_789 : decode cL_law 789 = .ok (.iadd, 1) := by decide +kernel
theorem dL_law_790 : decode cL_law 790 = .ok (.iaload, 1) := by decide +kernel
theorem dL_law_791 : decode cL_law 791 = .ok (.aload_n 0, 1) := by decide +kernel
theorem dL_law_792 : decode cL_law 792 = .ok (.iload_n 3, 1) := by decide +kernel
theorem dL_law_793 : decode cL_law 793 = .ok (.iconst 2, 1) := by decide +kernel
theorem dL_law_794 : decode cL_law 794 = .ok (.iadd, 1) := by decide +kernel
theorem dL_law_795 : decode cL_law 795 = .ok (.iaload, 1) := by decide +kernel
theorem dL_law_796 : decode cL_law 796 = .ok (.invokevirtual 69, 3) := by decide +kernel
theorem dL_law_799 : decode cL_law 799 = .ok (.aload_n 2, 1) := by decide +kernel
theorem dL_law_800 : decode cL_law 800 = .ok (.aload_n 0, 1) := by decide +kernel
theorem dL_law_801 : decode cL_law 801 = .ok (.iload_n 3, 1) := by decide +kernel
theorem dL_law_802 : decode cL_law 802 = .ok (.iconst 1, 1) := by decide +kernel
theorem dL_law_803 : decode cL_law 803 = .ok (.iadd, 1) := by decide +kernel
theorem dL_law_804 : decode cL_law 804 = .ok (.iaload, 1) := by decide +kernel
theorem dL_law_805 : decode cL_law 805 = .ok (.aload_n 0, 1) := by decide +kernel
theorem dL_law_806 : decode cL_law 806 = .ok (.iload_n 3, 1) := by decide +kernel
theorem dL_law_807 : decode cL_law 807 = .ok (.iconst 2, 1) := by decide +kernel
theorem dL_law_808 : decode cL_law 808 = .ok (.iadd, 1) := by decide +kernel
theorem dL_law_809 : decode cL_law 809 = .ok (.iaload, 1) := by decide +kernel
theorem dL_law_810 : decode cL_law 810 = .ok (.invokevirtual 72, 3) := by decide +kernel
theorem dL_law_813 : decode cL_law 813 = .ok (.if_icmp .eq 1245, 3) := by decide +kernel
theorem dL_law_816 : decode cL_law 816 = .ok (.iconst 0, 1) := by decide +kernel
theorem dL_law_817 : decode cL_law 817 = .ok (.ireturn, 1) := by decide +kernel
theorem dL_law_818 : decode cL_law 818 = .ok (.aload_n 1, 1) := by decide +kernel
theorem dL_law_819 : decode cL_law 819 = .ok (.aload_n 0, 1) := by decide +kernel
theorem dL_law_820 : decode cL_law 820 = .ok (.iload_n 3, 1) := by decide +kernel
theorem dL_law_821 : decode cL_law 821 = .ok (.iconst 1, 1) := by decide +kernel
theorem dL_law_822 : decode cL_law 822 = .ok (.iadd, 1) := by decide +kernel
theorem dL_law_823 : decode cL_law 823 = .ok (.iaload, 1) := by decide +kernel
theorem dL_law_824 : decode cL_law 824 = .ok (.aload_n 0, 1) := by decide +kernel
theorem dL_law_825 : decode cL_law 825 = .ok (.iload_n 3, 1) := by decide +kernel
theorem dL_law_826 : decode cL_law 826 = .ok (.iconst 2, 1) := by decide +kernel
theorem dL_law_827 : decode cL_law 827 = .ok (.iadd, 1) := by decide +kernel
theorem dL_law_828 : decode cL_law 828 = .ok (.iaload, 1) := by decide +kernel
theorem dL_law_829 : decode cL_law 829 = .ok (.aload_n 0, 1) := by decide +kernel
theorem dL_law_830 : decode cL_law 830 = .ok (.iload_n 3, 1) := by decide +kernel
theorem dL_law_831 : decode cL_law 831 = .ok (.iconst 3, 1) := by decide +kernel
theorem dL_law_832 : decode cL_law 832 = .ok (.iadd, 1) := by decide +kernel
theorem dL_law_833 : decode cL_law 833 = .ok (.iaload, 1) := by decide +kernel
theorem dL_law_834 : decode cL_law 834 = .ok (.invokevirtual 73, 3) := by decide +kernel
theorem dL_law_837 : decode cL_law 837 = .ok (.aload_n 2, 1) := by decide +kernel
theorem dL_law_838 : decode cL_law 838 = .ok (.aload_n 0, 1) := by decide +kernel
theorem dL_law_839 : decode cL_law 839 = .ok (.iload_n 3, 1) := by decide +kernel
theorem dL_law_840 : decode cL_law 840 = .ok (.iconst 1, 1) := by decide +kernel
theorem dL_law_841 : decode cL_law 841 = .ok (.iadd, 1) := by decide +kernel
theorem dL_law_842 : decode cL_law 842 = .ok (.iaload, 1) := by decide +kernel
theorem dL_law_843 : decode cL_law 843 = .ok (.aload_n 0, 1) := by decide +kernel
theorem dL_law_844 : decode cL_law 844 = .ok (.iload_n 3, 1) := by decide +kernel
theorem dL_law_845 : decode cL_law 845 = .ok (.iconst 2, 1) := by decide +kernel
theorem dL_law_846 : decode cL_law 846 = .ok (.iadd, 1) := by decide +kernel
theorem dL_law_847 : decode cL_law 847 = .ok (.iaload, 1) := by decide +kernel
theorem dL_law_848 : decode cL_law 848 = .ok (.aload_n 0, 1) := by decide +kernel
theorem dL_law_849 : decode cL_law 849 = .ok (.iload_n 3, 1) := by decide +kernel
theorem dL_law_850 : decode cL_law 850 = .ok (.iconst 3, 1) := by decide +kernel
theorem dL_law_851 : decode cL_law 851 = .ok (.iadd, 1) := by decide +kernel
theorem dL_law_852 : decode cL_law 852 = .ok (.iaload, 1) := by decide +kernel
theorem dL_law_853 : decode cL_law 853 = .ok (.invokevirtual 77, 3) := by decide +kernel
theorem dL_law_856 : decode cL_law 856 = .ok (.lcmp, 1) := by decide +kernel
theorem dL_law_857 : decode cL_law 857 = .ok (.ifCond .eq 1201, 3) := by decide +kernel
theorem dL_law_860 : decode cL_law 860 = .ok (.iconst 0, 1) := by decide +kernel
theorem dL_law_861 : decode cL_law 861 = .ok (.ireturn, 1) := by decide +kernel
theorem dL_law_862 : decode cL_law 862 = .ok (.aload_n 1, 1) := by decide +kernel
theorem dL_law_863 : decode cL_law 863 = .ok (.aload_n 0, 1) := by decide +kernel
theorem dL_law_864 : decode cL_law 864 = .ok (.iload_n 3, 1) := by decide +kernel
theorem dL_law_865 : decode cL_law 865 = .ok (.iconst 1, 1) := by decide +kernel
theorem dL_law_866 : decode cL_law 866 = .ok (.iadd, 1) := by decide +kernel
theorem dL_law_867 : decode cL_law 867 = .ok (.iaload, 1) := by decide +kernel
theorem dL_law_868 : decode cL_law 868 = .ok (.aload_n 0, 1) := by decide +kernel
theorem dL_law_869 : decode cL_law 869 = .ok (.iload_n 3, 1) := by decide +kernel
theorem dL_law_870 : decode cL_law 870 = .ok (.iconst 2, 1) := by decide +kernel
theorem dL_law_871 : decode cL_law 871 = .ok (.iadd, 1) := by decide +kernel
theorem dL_law_872 : decode cL_law 872 = .ok (.iaload, 1) := by decide +kernel
theorem dL_law_873 : decode cL_law 873 = .ok (.aload_n 0, 1) := by decide +kernel
theorem dL_law_874 : decode cL_law 874 = .ok (.iload_n 3, 1) := by decide +kernel
theorem dL_law_875 : decode cL_law 875 = .ok (.iconst 3, 1) := by decide +kernel
theorem dL_law_876 : decode cL_law 876 = .ok (.iadd, 1) := by decide +kernel
theorem dL_law_877 : decode cL_law 877 = .ok (.iaload, 1) := by decide +kernel
theorem dL_law_878 : decode cL_law 878 = .ok (.aload_n 0, 1) := by decide +kernel
theorem dL_law_879 : decode cL_law 879 = .ok (.iload_n 3, 1) := by decide +kernel
theorem dL_law_880 : decode cL_law 880 = .ok (.iconst 4, 1) := by decide +kernel
theorem dL_law_881 : decode cL_law 881 = .ok (.iadd, 1) := by decide +kernel
theorem dL_law_882 : decode cL_law 882 = .ok (.iaload, 1) := by decide +kernel
theorem dL_law_883 : decode cL_law 883 = .ok (.invokevirtual 78, 3) := by decide +kernel
theorem dL_law_886 : decode cL_law 886 = .ok (.aload_n 2, 1) := by decide +kernel
theorem dL_law_887 : decode cL_law 887 = .ok (.aload_n 0, 1) := by decide +kernel
theorem dL_law_888 : decode cL_law 888 = .ok (.iload_n 3, 1) := by decide +kernel
theorem dL_law_889 : decode cL_law 889 = .ok (.iconst 1, 1) := by decide +kernel
theorem dL_law_890 : decode cL_law 890 = .ok (.iadd, 1) := by decide +kernel
theorem dL_law_891 : decode cL_law 891 = .ok (.iaload, 1) := by decide +kernel
theorem dL_law_892 : decode cL_law 892 = .ok (.aload_n 0, 1) := by decide +kernel
theorem dL_law_893 : decode cL_law 893 = .ok (.iload_n 3, 1) := by decide +kernel
theorem dL_law_894 : decode cL_law 894 = .ok (.iconst 2, 1) := by decide +kernel
theorem dL_law_895 : decode cL_law 895 = .ok (.iadd, 1) := by decide +kernel
theorem dL_law_896 : decode cL_law 896 = .ok (.iaload, 1) := by decide +kernel
theorem dL_law_897 : decode cL_law 897 = .ok (.aload_n 0, 1) := by decide +kernel
theorem dL_law_898 : decode cL_law 898 = .ok (.iload_n 3, 1) := by decide +kernel
theorem dL_law_899 : decode cL_law 899 = .ok (.iconst 3, 1) := by decide +kernel
theorem dL_law_900 : decode cL_law 900 = .ok (.iadd, 1) := by decide +kernel
theorem dL_law_901 : decode cL_law 901 = .ok (.iaload, 1) := by decide +kernel
theorem dL_law_902 : decode cL_law 902 = .ok (.aload_n 0, 1) := by decide +kernel
theorem dL_law_903 : decode cL_law 903 = .ok (.iload_n 3, 1) := by decide +kernel
theorem dL_law_904 : decode cL_law 904 = .ok (.iconst 4, 1) := by decide +kernel
theorem dL_law_905 : decode cL_law 905 = .ok (.iadd, 1) := by decide +kernel
theorem dL_law_906 : decode cL_law 906 = .ok (.iaload, 1) := by decide +kernel
theorem dL_law_907 : decode cL_law 907 = .ok (.invokevirtual 81, 3) := by decide +kernel
theorem dL_law_910 : decode cL_law 910 = .ok (.if_icmp .eq 1148, 3) := by decide +kernel
theorem dL_law_913 : decode cL_law 913 = .ok (.iconst 0, 1) := by decide +kernel
theorem dL_law_914 : decode cL_law 914 = .ok (.ireturn, 1) := by decide +kernel
theorem dL_law_915 : decode cL_law 915 = .ok (.aload_n 1, 1) := by decide +kernel
theorem dL_law_916 : decode cL_law 916 = .ok (.aload_n 0, 1) := by decide +kernel
theorem dL_law_917 : decode cL_law 917 = .ok (.iload_n 3, 1) := by decide +kernel
theorem dL_law_918 : decode cL_law 918 = .ok (.iconst 1, 1) := by decide +kernel
theorem dL_law_919 : decode cL_law 919 = .ok (.iadd, 1) := by decide +kernel
theorem dL_law_920 : decode cL_law 920 = .ok (.iaload, 1) := by decide +kernel
theorem dL_law_921 : decode cL_law 921 = .ok (.aload_n 0, 1) := by decide +kernel
theorem dL_law_922 : decode cL_law 922 = .ok (.iload_n 3, 1) := by decide +kernel
theorem dL_law_923 : decode cL_law 923 = .ok (.iconst 2, 1) := by decide +kernel
theorem dL_law_924 : decode cL_law 924 = .ok (.iadd, 1) := by decide +kernel
theorem dL_law_925 : decode cL_law 925 = .ok (.iaload, 1) := by decide +kernel
theorem dL_law_926 : decode cL_law 926 = .ok (.aload_n 0, 1) := by decide +kernel
theorem dL_law_927 : decode cL_law 927 = .ok (.iload_n 3, 1) := by decide +kernel
theorem dL_law_928 : decode cL_law 928 = .ok (.iconst 3, 1) := by decide +kernel
theorem dL_law_929 : decode cL_law 929 = .ok (.iadd, 1) := by decide +kernel
theorem dL_law_930 : decode cL_law 930 = .ok (.iaload, 1) := by decide +kernel
theorem dL_law_931 : decode cL_law 931 = .ok (.aload_n 0, 1) := by decide +kernel
theorem dL_law_932 : decode cL_law 932 = .ok (.iload_n 3, 1) := by decide +kernel
theorem dL_law_933 : decode cL_law 933 = .ok (.iconst 4, 1) := by decide +kernel
theorem dL_law_934 : decode cL_law 934 = .ok (.iadd, 1) := by decide +kernel
theorem dL_law_935 : decode cL_law 935 = .ok (.iaload, 1) := by decide +kernel
theorem dL_law_936 : decode cL_law 936 = .ok (.invokevirtual 82, 3) := by decide +kernel
theorem dL_law_939 : decode cL_law 939 = .ok (.aload_n 2, 1) := by decide +kernel
theorem dL_law_940 : decode cL_law 940 = .ok (.aload_n 0, 1) := by decide +kernel
theorem dL_law_941 : decode cL_law 941 = .ok (.iload_n 3, 1) := by decide +kernel
theorem dL_law_942 : decode cL_law 942 = .ok (.iconst 1, 1) := by decide +kernel
theorem dL_law_943 : decode cL_law 943 = .ok (.iadd, 1) := by decide +kernel
theorem dL_law_944 : decode cL_law 944 = .ok (.iaload, 1) := by decide +kernel
theorem dL_law_945 : decode cL_law 945 = .ok (.aload_n 0, 1) := by decide +kernel
theorem dL_law_946 : decode cL_law 946 = .ok (.iload_n 3, 1) := by decide +kernel
theorem dL_law_947 : decode cL_law 947 = .ok (.iconst 2, 1) := by decide +kernel
theorem dL_law_948 : decode cL_law 948 = .ok (.iadd, 1) := by decide +kernel
theorem dL_law_949 : decode cL_law 949 = .ok (.iaload, 1) := by decide +kernel
theorem dL_law_950 : decode cL_law 950 = .ok (.aload_n 0, 1) := by decide +kernel
theorem dL_law_951 : decode cL_law 951 = .ok (.iload_n 3, 1) := by decide +kernel
theorem dL_law_952 : decode cL_law 952 = .ok (.iconst 3, 1) := by decide +kernel
theorem dL_law_953 : decode cL_law 953 = .ok (.iadd, 1) := by decide +kernel
theorem dL_law_954 : decode cL_law 954 = .ok (.iaload, 1) := by decide +kernel
theorem dL_law_955 : decode cL_law 955 = .ok (.aload_n 0, 1) := by decide +kernel
theorem dL_law_956 : decode cL_law 956 = .ok (.iload_n 3, 1) := by decide +kernel
theorem dL_law_957 : decode cL_law 957 = .ok (.iconst 4, 1) := by decide +kernel
theorem dL_law_958 : decode cL_law 958 = .ok (.iadd, 1) := by decide +kernel
theorem dL_law_959 : decode cL_law 959 = .ok (.iaload, 1) := by decide +kernel
theorem dL_law_960 : decode cL_law 960 = .ok (.invokevirtual 86, 3) := by decide +kernel
theorem dL_law_963 : decode cL_law 963 = .ok (.lcmp, 1) := by decide +kernel
theorem dL_law_964 : decode cL_law 964 = .ok (.ifCond .eq 1094, 3) := by decide +kernel
theorem dL_law_967 : decode cL_law 967 = .ok (.iconst 0, 1) := by decide +kernel
theorem dL_law_968 : decode cL_law 968 = .ok (.ireturn, 1) := by decide +kernel
theorem dL_law_969 : decode cL_law 969 = .ok (.aload_n 1, 1) := by decide +kernel
theorem dL_law_970 : decode cL_law 970 = .ok (.aload_n 0, 1) := by decide +kernel
theorem dL_law_971 : decode cL_law 971 = .ok (.iload_n 3, 1) := by decide +kernel
theorem dL_law_972 : decode cL_law 972 = .ok (.iconst 1, 1) := by decide +kernel
theorem dL_law_973 : decode cL_law 973 = .ok (.iadd, 1) := by decide +kernel
theorem dL_law_974 : decode cL_law 974 = .ok (.iaload, 1) := by decide +kernel
theorem dL_law_975 : decode cL_law 975 = .ok (.aload_n 0, 1) := by decide +kernel
theorem dL_law_976 : decode cL_law 976 = .ok (.iload_n 3, 1) := by decide +kernel
theorem dL_law_977 : decode cL_law 977 = .ok (.iconst 2, 1) := by decide +kernel
theorem dL_law_978 : decode cL_law 978 = .ok (.iadd, 1) := by decide +kernel
theorem dL_law_979 : decode cL_law 979 = .ok (.iaload, 1) := by decide +kernel
theorem dL_law_980 : decode cL_law 980 = .ok (.aload_n 0, 1) := by decide +kernel
theorem dL_law_981 : decode cL_law 981 = .ok (.iload_n 3, 1) := by decide +kernel
theorem dL_law_982 : decode cL_law 982 = .ok (.iconst 3, 1) := by decide +kernel
theorem dL_law_983 : decode cL_law 983 = .ok (.iadd, 1) := by decide +kernel
theorem dL_law_984 : decode cL_law 984 = .ok (.iaload, 1) := by decide +kernel
theorem dL_law_985 : decode cL_law 985 = .ok (.aload_n 0, 1) := by decide +kernel
theorem dL_law_986 : decode cL_law 986 = .ok (.iload_n 3, 1) := by decide +kernel
theorem dL_law_987 : decode cL_law 987 = .ok (.iconst 4, 1) := by decide +kernel
theorem dL_law_988 : decode cL_law 988 = .ok (.iadd, 1) := by decide +kernel
theorem dL_law_989 : decode cL_law 989 = .ok (.iaload, 1) := by decide +kernel
theorem dL_law_990 : decode cL_law 990 = .ok (.i2l, 1) := by decide +kernel
theorem dL_law_991 : decode cL_law 991 = .ok (.bipush 32, 2) := by decide +kernel
theorem dL_law_993 : decode cL_law 993 = .ok (.lshl, 1) := by decide +kernel
theorem dL_law_994 : decode cL_law 994 = .ok (.aload_n 0, 1) := by decide +kernel
theorem dL_law_995 : decode cL_law 995 = .ok (.iload_n 3, 1) := by decide +kernel
theorem dL_law_996 : decode cL_law 996 = .ok (.iconst 5, 1) := by decide +kernel
theorem dL_law_997 : decode cL_law 997 = .ok (.iadd, 1) := by decide +kernel
theorem dL_law_998 : decode cL_law 998 = .ok (.iaload, 1) := by decide +kernel
theorem dL_law_999 : decode cL_law 999 = .ok (.i2l, 1) := by decide +kernel
theorem dL_law_1000 : decode cL_law 1000 = .ok (.ldc2_w 18, 3) := by decide +kernel
theorem dL_law_1003 : decode cL_law 1003 = .ok (.land, 1) := by decide +kernel
theorem dL_law_1004 : decode cL_law 1004 = .ok (.lor, 1) := by decide +kernel
theorem dL_law_1005 : decode cL_law 1005 = .ok (.invokevirtual 87, 3) := by decide +kernel
theorem dL_law_1008 : decode cL_law 1008 = .ok (.aload_n 2, 1) := by decide +kernel
theorem dL_law_1009 : decode cL_law 1009 = .ok (.aload_n 0, 1) := by decide +kernel
theorem dL_law_1010 : decode cL_law 1010 = .ok (.iload_n 3, 1) := by decide +kernel
theorem dL_law_1011 : decode cL_law 1011 = .ok (.iconst 1, 1) := by decide +kernel
theorem dL_law_1012 : decode cL_law 1012 = .ok (.iadd, 1) := by decide +kernel
theorem dL_law_1013 : decode cL_law 1013 = .ok (.iaload, 1) := by decide +kernel
theorem dL_law_1014 : decode cL_law 1014 = .ok (.aload_n 0, 1) := by decide +kernel
theorem dL_law_1015 : decode cL_law 1015 = .ok (.iload_n 3, 1) := by decide +kernel
theorem dL_law_1016 : decode cL_law 1016 = .ok (.iconst 2, 1) := by decide +kernel
theorem dL_law_1017 : decode cL_law 1017 = .ok (.iadd, 1) := by decide +kernel
theorem dL_law_1018 : decode cL_law 1018 = .ok (.iaload, 1) := by decide +kernel
theorem dL_law_1019 : decode cL_law 1019 = .ok (.aload_n 0, 1) := by decide +kernel
theorem dL_law_1020 : decode cL_law 1020 = .ok (.iload_n 3, 1) := by decide +kernel
theorem dL_law_1021 : decode cL_law 1021 = .ok (.iconst 3, 1) := by decide +kernel
theorem dL_law_1022 : decode cL_law 1022 = .ok (.iadd, 1) := by decide +kernel
theorem dL_law_1023 : decode cL_law 1023 = .ok (.iaload, 1) := by decide +kernel
theorem dL_law_1024 : decode cL_law 1024 = .ok (.aload_n 0, 1) := by decide +kernel
theorem dL_law_1025 : decode cL_law 1025 = .ok (.iload_n 3, 1) := by decide +kernel
theorem dL_law_1026 : decode cL_law 1026 = .ok (.iconst 4, 1) := by decide +kernel
theorem dL_law_1027 : decode cL_law 1027 = .ok (.iadd, 1) := by decide +kernel
theorem dL_law_1028 : decode cL_law 1028 = .ok (.iaload, 1) := by decide +kernel
theorem dL_law_1029 : decode cL_law 1029 = .ok (.i2l, 1) := by decide +kernel
theorem dL_law_1030 : decode cL_law 1030 = .ok (.bipush 32, 2) := by decide +kernel
theorem dL_law_1032 : decode cL_law 1032 = .ok (.lshl, 1) := by decide +kernel
theorem dL_law_1033 : decode cL_law 1033 = .ok (.aload_n 0, 1) := by decide +kernel
theorem dL_law_1034 : decode cL_law 1034 = .ok (.iload_n 3, 1) := by decide +kernel
theorem dL_law_1035 : decode cL_law 1035 = .ok (.iconst 5, 1) := by decide +kernel
theorem dL_law_1036 : decode cL_law 1036 = .ok (.iadd, 1) := by decide +kernel
theorem dL_law_1037 : decode cL_law 1037 = .ok (.iaload, 1) := by decide +kernel
theorem dL_law_1038 : decode cL_law 1038 = .ok (.i2l, 1) := by decide +kernel
theorem dL_law_1039 : decode cL_law 1039 = .ok (.ldc2_w 18, 3) := by decide +kernel
theorem dL_law_1042 : decode cL_law 1042 = .ok (.land, 1) := by decide +kernel
theorem dL_law_1043 : decode cL_law 1043 = .ok (.lor, 1) := by decide +kernel
theorem dL_law_1044 : decode cL_law 1044 = .ok (.invokevirtual 91, 3) := by decide +kernel
theorem dL_law_1047 : decode cL_law 1047 = .ok (.if_icmp .eq 1011, 3) := by decide +kernel
theorem dL_law_1050 : decode cL_law 1050 = .ok (.iconst 0, 1) := by decide +kernel
theorem dL_law_1051 : decode cL_law 1051 = .ok (.ireturn, 1) := by decide +kernel
theorem dL_law_1052 : decode cL_law 1052 = .ok (.aload_n 1, 1) := by decide +kernel
theorem dL_law_1053 : decode cL_law 1053 = .ok (.aload_n 0, 1) := by decide +kernel
theorem dL_law_1054 : decode cL_law 1054 = .ok (.iload_n 3, 1) := by decide +kernel
theorem dL_law_1055 : decode cL_law 1055 = .ok (.iconst 1, 1) := by decide +kernel
theorem dL_law_1056 : decode cL_law 1056 = .ok (.iadd, 1) := by decide +kernel
theorem dL_law_1057 : decode cL_law 1057 = .ok (.iaload, 1) := by decide +kernel
theorem dL_law_1058 : decode cL_law 1058 = .ok (.aload_n 0, 1) := by decide +kernel
theorem dL_law_1059 : decode cL_law 1059 = .ok (.iload_n 3, 1) := by decide +kernel
theorem dL_law_1060 : decode cL_law 1060 = .ok (.iconst 2, 1) := by decide +kernel
theorem dL_law_1061 : decode cL_law 1061 = .ok (.iadd, 1) := by decide +kernel
theorem dL_law_1062 : decode cL_law 1062 = .ok (.iaload, 1) := by decide +kernel
theorem dL_law_1063 : decode cL_law 1063 = .ok (.invokevirtual 92, 3) := by decide +kernel
theorem dL_law_1066 : decode cL_law 1066 = .ok (.aload_n 2, 1) := by decide +kernel
theorem dL_law_1067 : decode cL_law 1067 = .ok (.aload_n 0, 1) := by decide +kernel
theorem dL_law_1068 : decode cL_law 1068 = .ok (.iload_n 3, 1) := by decide +kernel
theorem dL_law_1069 : decode cL_law 1069 = .ok (.iconst 1, 1) := by decide +kernel
theorem dL_law_1070 : decode cL_law 1070 = .ok (.iadd, 1) := by decide +kernel
theorem dL_law_1071 : decode cL_law 1071 = .ok (.iaload, 1) := by decide +kernel
theorem dL_law_1072 : decode cL_law 1072 = .ok (.aload_n 0, 1) := by decide +kernel
theorem dL_law_1073 : decode cL_law 1073 = .ok (.iload_n 3, 1) := by decide +kernel
theorem dL_law_1074 : decode cL_law 1074 = .ok (.iconst 2, 1) := by decide +kernel
theorem dL_law_1075 : decode cL_law 1075 = .ok (.iadd, 1) := by decide +kernel
theorem dL_law_1076 : decode cL_law 1076 = .ok (.iaload, 1) := by decide +kernel
theorem dL_law_1077 : decode cL_law 1077 = .ok (.invokevirtual 95, 3) := by decide +kernel
theorem dL_law_1080 : decode cL_law 1080 = .ok (.if_icmp .eq 978, 3) := by decide +kernel
theorem dL_law_1083 : decode cL_law 1083 = .ok (.iconst 0, 1) := by decide +kernel
theorem dL_law_1084 : decode cL_law 1084 = .ok (.ireturn, 1) := by decide +kernel
theorem dL_law_1085 : decode cL_law 1085 = .ok (.aload_n 1, 1) := by decide +kernel
theorem dL_law_1086 : decode cL_law 1086 = .ok (.aload_n 0, 1) := by decide +kernel
theorem dL_law_1087 : decode cL_law 1087 = .ok (.iload_n 3, 1) := by decide +kernel
theorem dL_law_1088 : decode cL_law 1088 = .ok (.iconst 1, 1) := by decide +kernel
theorem dL_law_1089 : decode cL_law 1089 = .ok (.iadd, 1) := by decide +kernel
theorem dL_law_1090 : decode cL_law 1090 = .ok (.iaload, 1) := by decide +kernel
theorem dL_law_1091 : decode cL_law 1091 = .ok (.aload_n 0, 1) := by decide +kernel
theorem dL_law_1092 : decode cL_law 1092 = .ok (.iload_n 3, 1) := by decide +kernel
theorem dL_law_1093 : decode cL_law 1093 = .ok (.iconst 2, 1) := by decide +kernel
theorem dL_law_1094 : decode cL_law 1094 = .ok (.iadd, 1) := by decide +kernel
theorem dL_law_1095 : decode cL_law 1095 = .ok (.iaload, 1) := by decide +kernel
theorem dL_law_1096 : decode cL_law 1096 = .ok (.invokevirtual 96, 3) := by decide +kernel
theorem dL_law_1099 : decode cL_law 1099 = .ok (.aload_n 2, 1) := by decide +kernel
theorem dL_law_1100 : decode cL_law 1100 = .ok (.aload_n 0, 1) := by decide +kernel
theorem dL_law_1101 : decode cL_law 1101 = .ok (.iload_n 3, 1) := by decide +kernel
theorem dL_law_1102 : decode cL_law 1102 = .ok (.iconst 1, 1) := by decide +kernel
theorem dL_law_1103 : decode cL_law 1103 = .ok (.iadd, 1) := by decide +kernel
theorem dL_law_1104 : decode cL_law 1104 = .ok (.iaload, 1) := by decide +kernel
theorem dL_law_1105 : decode cL_law 1105 = .ok (.aload_n 0, 1) := by decide +kernel
theorem dL_law_1106 : decode cL_law 1106 = .ok (.iload_n 3, 1) := by decide +kernel
theorem dL_law_1107 : decode cL_law 1107 = .ok (.iconst 2, 1) := by decide +kernel
theorem dL_law_1108 : decode cL_law 1108 = .ok (.iadd, 1) := by decide +kernel
theorem dL_law_1109 : decode cL_law 1109 = .ok (.iaload, 1) := by decide +kernel
theorem dL_law_1110 : decode cL_law 1110 = .ok (.invokevirtual 99, 3) := by decide +kernel
theorem dL_law_1113 : decode cL_law 1113 = .ok (.if_icmp .eq 945, 3) := by decide +kernel
theorem dL_law_1116 : decode cL_law 1116 = .ok (.iconst 0, 1) := by decide +kernel
theorem dL_law_1117 : decode cL_law 1117 = .ok (.ireturn, 1) := by decide +kernel
theorem dL_law_1118 : decode cL_law 1118 = .ok (.aload_n 1, 1) := by decide +kernel
theorem dL_law_1119 : decode cL_law 1119 = .ok (.aload_n 0, 1) := by decide +kernel
theorem dL_law_1120 : decode cL_law 1120 = .ok (.iload_n 3, 1) := by decide +kernel
theorem dL_law_1121 : decode cL_law 1121 = .ok (.iconst 1, 1) := by decide +kernel
theorem dL_law_1122 : decode cL_law 1122 = .ok (.iadd, 1) := by decide +kernel
theorem dL_law_1123 : decode cL_law 1123 = .ok (.iaload, 1) := by decide +kernel
theorem dL_law_1124 : decode cL_law 1124 = .ok (.aload_n 0, 1) := by decide +kernel
theorem dL_law_1125 : decode cL_law 1125 = .ok (.iload_n 3, 1) := by decide +kernel
theorem dL_law_1126 : decode cL_law 1126 = .ok (.iconst 2, 1) := by decide +kernel
theorem dL_law_1127 : decode cL_law 1127 = .ok (.iadd, 1) := by decide +kernel
theorem dL_law_1128 : decode cL_law 1128 = .ok (.iaload, 1) := by decide +kernel
theorem dL_law_1129 : decode cL_law 1129 = .ok (.invokevirtual 100, 3) := by decide +kernel
theorem dL_law_1132 : decode cL_law 1132 = .ok (.aload_n 2, 1) := by decide +kernel
theorem dL_law_1133 : decode cL_law 1133 = .ok (.aload_n 0, 1) := by decide +kernel
theorem dL_law_1134 : decode cL_law 1134 = .ok (.iload_n 3, 1) := by decide +kernel
theorem dL_law_1135 : decode cL_law 1135 = .ok (.iconst 1, 1) := by decide +kernel
theorem dL_law_1136 : decode cL_law 1136 = .ok (.iadd, 1) := by decide +kernel
theorem dL_law_1137 : decode cL_law 1137 = .ok (.iaload, 1) := by decide +kernel
theorem dL_law_1138 : decode cL_law 1138 = .ok (.aload_n 0, 1) := by decide +kernel
theorem dL_law_1139 : decode cL_law 1139 = .ok (.iload_n 3, 1) := by decide +kernel
theorem dL_law_1140 : decode cL_law 1140 = .ok (.iconst 2, 1) := by decide +kernel
theorem dL_law_1141 : decode cL_law 1141 = .ok (.iadd, 1) := by decide +kernel
theorem dL_law_1142 : decode cL_law 1142 = .ok (.iaload, 1) := by decide +kernel
theorem dL_law_1143 : decode cL_law 1143 = .ok (.invokevirtual 103, 3) := by decide +kernel
theorem dL_law_1146 : decode cL_law 1146 = .ok (.if_icmp .eq 912, 3) := by decide +kernel
theorem dL_law_1149 : decode cL_law 1149 = .ok (.iconst 0, 1) := by decide +kernel
theorem dL_law_1150 : decode cL_law 1150 = .ok (.ireturn, 1) := by decide +kernel
theorem dL_law_1151 : decode cL_law 1151 = .ok (.aload_n 1, 1) := by decide +kernel
theorem dL_law_1152 : decode cL_law 1152 = .ok (.aload_n 0, 1) := by decide +kernel
theorem dL_law_1153 : decode cL_law 1153 = .ok (.iload_n 3, 1) := by decide +kernel
theorem dL_law_1154 : decode cL_law 1154 = .ok (.iconst 1, 1) := by decide +kernel
theorem dL_law_1155 : decode cL_law 1155 = .ok (.iadd, 1) := by decide +kernel
theorem dL_law_1156 : decode cL_law 1156 = .ok (.iaload, 1) := by decide +kernel
theorem dL_law_1157 : decode cL_law 1157 = .ok (.aload_n 0, 1) := by decide +kernel
theorem dL_law_1158 : decode cL_law 1158 = .ok (.iload_n 3, 1) := by decide +kernel
theorem dL_law_1159 : decode cL_law 1159 = .ok (.iconst 2, 1) := by decide +kernel
theorem dL_law_1160 : decode cL_law 1160 = .ok (.iadd, 1) := by decide +kernel
theorem dL_law_1161 : decode cL_law 1161 = .ok (.iaload, 1) := by decide +kernel
theorem dL_law_1162 : decode cL_law 1162 = .ok (.invokevirtual 104, 3) := by decide +kernel
theorem dL_law_1165 : decode cL_law 1165 = .ok (.aload_n 2, 1) := by decide +kernel
theorem dL_law_1166 : decode cL_law 1166 = .ok (.aload_n 0, 1) := by decide +kernel
theorem dL_law_1167 : decode cL_law 1167 = .ok (.iload_n 3, 1) := by decide +kernel
theorem dL_law_1168 : decode cL_law 1168 = .ok (.iconst 1, 1) := by decide +kernel
theorem dL_law_1169 : decode cL_law 1169 = .ok (.iadd, 1) := by decide +kernel
theorem dL_law_1170 : decode cL_law 1170 = .ok (.iaload, 1) := by decide +kernel
theorem dL_law_1171 : decode cL_law 1171 = .ok (.aload_n 0, 1) := by decide +kernel
theorem dL_law_1172 : decode cL_law 1172 = .ok (.iload_n 3, 1) := by decide +kernel
theorem dL_law_1173 : decode cL_law 1173 = .ok (.iconst 2, 1) := by decide +kernel
theorem dL_law_1174 : decode cL_law 1174 = .ok (.iadd, 1) := by decide +kernel
theorem dL_law_1175 : decode cL_law 1175 = .ok (.iaload, 1) := by decide +kernel
theorem dL_law_1176 : decode cL_law 1176 = .ok (.invokevirtual 107, 3) := by decide +kernel
theorem dL_law_1179 : decode cL_law 1179 = .ok (.if_icmp .eq 879, 3) := by decide +kernel
theorem dL_law_1182 : decode cL_law 1182 = .ok (.iconst 0, 1) := by decide +kernel
theorem dL_law_1183 : decode cL_law 1183 = .ok (.ireturn, 1) := by decide +kernel
theorem dL_law_1184 : decode cL_law 1184 = .ok (.aload_n 1, 1) := by decide +kernel
theorem dL_law_1185 : decode cL_law 1185 = .ok (.aload_n 0, 1) := by decide +kernel
theorem dL_law_1186 : decode cL_law 1186 = .ok (.iload_n 3, 1) := by decide +kernel
theorem dL_law_1187 : decode cL_law 1187 = .ok (.iconst 1, 1) := by decide +kernel
theorem dL_law_1188 : decode cL_law 1188 = .ok (.iadd, 1) := by decide +kernel
theorem dL_law_1189 : decode cL_law 1189 = .ok (.iaload, 1) := by decide +kernel
theorem dL_law_1190 : decode cL_law 1190 = .ok (.aload_n 0, 1) := by decide +kernel
theorem dL_law_1191 : decode cL_law 1191 = .ok (.iload_n 3, 1) := by decide +kernel
theorem dL_law_1192 : decode cL_law 1192 = .ok (.iconst 2, 1) := by decide +kernel
theorem dL_law_1193 : decode cL_law 1193 = .ok (.iadd, 1) := by decide +kernel
theorem dL_law_1194 : decode cL_law 1194 = .ok (.iaload, 1) := by decide +kernel
theorem dL_law_1195 : decode cL_law 1195 = .ok (.aload_n 0, 1) := by decide +kernel
theorem dL_law_1196 : decode cL_law 1196 = .ok (.iload_n 3, 1) := by decide +kernel
theorem dL_law_1197 : decode cL_law 1197 = .ok (.iconst 3, 1) := by decide +kernel
theorem dL_law_1198 : decode cL_law 1198 = .ok (.iadd, 1) := by decide +kernel
theorem dL_law_1199 : decode cL_law 1199 = .ok (.iaload, 1) := by decide +kernel
theorem dL_law_1200 : decode cL_law 1200 = .ok (.invokevirtual 108, 3) := by decide +kernel
theorem dL_law_1203 : decode cL_law 1203 = .ok (.aload_n 2, 1) := by decide +kernel
theorem dL_law_1204 : decode cL_law 1204 = .ok (.aload_n 0, 1) := by decide +kernel
theorem dL_law_1205 : decode cL_law 1205 = .ok (.iload_n 3, 1) := by decide +kernel
theorem dL_law_1206 : decode cL_law 1206 = .ok (.iconst 1, 1) := by decide +kernel
theorem dL_law_1207 : decode cL_law 1207 = .ok (.iadd, 1) := by decide +kernel
theorem dL_law_1208 : decode cL_law 1208 = .ok (.iaload, 1) := by decide +kernel
theorem dL_law_1209 : decode cL_law 1209 = .ok (.aload_n 0, 1) := by decide +kernel
theorem dL_law_1210 : decode cL_law 1210 = .ok (.iload_n 3, 1) := by decide +kernel
theorem dL_law_1211 : decode cL_law 1211 = .ok (.iconst 2, 1) := by decide +kernel
theorem dL_law_1212 : decode cL_law 1212 = .ok (.iadd, 1) := by decide +kernel
theorem dL_law_1213 : decode cL_law 1213 = .ok (.iaload, 1) := by decide +kernel
theorem dL_law_1214 : decode cL_law 1214 = .ok (.aload_n 0, 1) := by decide +kernel
theorem dL_law_1215 : decode cL_law 1215 = .ok (.iload_n 3, 1) := by decide +kernel
theorem dL_law_1216 : decode cL_law 1216 = .ok (.iconst 3, 1) := by decide +kernel
theorem dL_law_1217 : decode cL_law 1217 = .ok (.iadd, 1) := by decide +kernel
theorem dL_law_1218 : decode cL_law 1218 = .ok (.iaload, 1) := by decide +kernel
theorem dL_law_1219 : decode cL_law 1219 = .ok (.invokevirtual 111, 3) := by decide +kernel
theorem dL_law_1222 : decode cL_law 1222 = .ok (.if_icmp .eq 836, 3) := by decide +kernel
theorem dL_law_1225 : decode cL_law 1225 = .ok (.iconst 0, 1) := by decide +kernel
theorem dL_law_1226 : decode cL_law 1226 = .ok (.ireturn, 1) := by decide +kernel
theorem dL_law_1227 : decode cL_law 1227 = .ok (.aload_n 1, 1) := by decide +kernel
theorem dL_law_1228 : decode cL_law 1228 = .ok (.aload_n 0, 1) := by decide +kernel
theorem dL_law_1229 : decode cL_law 1229 = .ok (.iload_n 3, 1) := by decide +kernel
theorem dL_law_1230 : decode cL_law 1230 = .ok (.iconst 1, 1) := by decide +kernel
theorem dL_law_1231 : decode cL_law 1231 = .ok (.iadd, 1) := by decide +kernel
theorem dL_law_1232 : decode cL_law 1232 = .ok (.iaload, 1) := by decide +kernel
theorem dL_law_1233 : decode cL_law 1233 = .ok (.aload_n 0, 1) := by decide +kernel
theorem dL_law_1234 : decode cL_law 1234 = .ok (.iload_n 3, 1) := by decide +kernel
theorem dL_law_1235 : decode cL_law 1235 = .ok (.iconst 2, 1) := by decide +kernel
theorem dL_law_1236 : decode cL_law 1236 = .ok (.iadd, 1) := by decide +kernel
theorem dL_law_1237 : decode cL_law 1237 = .ok (.iaload, 1) := by decide +kernel
theorem dL_law_1238 : decode cL_law 1238 = .ok (.invokevirtual 112, 3) := by decide +kernel
theorem dL_law_1241 : decode cL_law 1241 = .ok (.aload_n 2, 1) := by decide +kernel
theorem dL_law_1242 : decode cL_law 1242 = .ok (.aload_n 0, 1) := by decide +kernel
theorem dL_law_1243 : decode cL_law 1243 = .ok (.iload_n 3, 1) := by decide +kernel
theorem dL_law_1244 : decode cL_law 1244 = .ok (.iconst 1, 1) := by decide +kernel
theorem dL_law_1245 : decode cL_law 1245 = .ok (.iadd, 1) := by decide +kernel
theorem dL_law_1246 : decode cL_law 1246 = .ok (.iaload, 1) := by decide +kernel
theorem dL_law_1247 : decode cL_law 1247 = .ok (.aload_n 0, 1) := by decide +kernel
theorem dL_law_1248 : decode cL_law 1248 = .ok (.iload_n 3, 1) := by decide +kernel
theorem dL_law_1249 : decode cL_law 1249 = .ok (.iconst 2, 1) := by decide +kernel
theorem dL_law_1250 : decode cL_law 1250 = .ok (.iadd, 1) := by decide +kernel
theorem dL_law_1251 : decode cL_law 1251 = .ok (.iaload, 1) := by decide +kernel
theorem dL_law_1252 : decode cL_law 1252 = .ok (.invokevirtual 115, 3) := by decide +kernel
theorem dL_law_1255 : decode cL_law 1255 = .ok (.if_icmp .eq 803, 3) := by decide +kernel
theorem dL_law_1258 : decode cL_law 1258 = .ok (.iconst 0, 1) := by decide +kernel
theorem dL_law_1259 : decode cL_law 1259 = .ok (.ireturn, 1) := by decide +kernel
theorem dL_law_1260 : decode cL_law 1260 = .ok (.aload_n 1, 1) := by decide +kernel
theorem dL_law_1261 : decode cL_law 1261 = .ok (.aload_n 0, 1) := by decide +kernel
theorem dL_law_1262 : decode cL_law 1262 = .ok (.iload_n 3, 1) := by decide +kernel
theorem dL_law_1263 : decode cL_law 1263 = .ok (.iconst 1, 1) := by decide +kernel
theorem dL_law_1264 : decode cL_law 1264 = .ok (.iadd, 1) := by decide +kernel
theorem dL_law_1265 : decode cL_law 1265 = .ok (.iaload, 1) := by decide +kernel
theorem dL_law_1266 : decode cL_law 1266 = .ok (.invokevirtual 116, 3) := by decide +kernel
theorem dL_law_1269 : decode cL_law 1269 = .ok (.aload_n 2, 1) := by decide +kernel
theorem dL_law_1270 : decode cL_law 1270 = .ok (.aload_n 0, 1) := by decide +kernel
theorem dL_law_1271 : decode cL_law 1271 = .ok (.iload_n 3, 1) := by decide +kernel
theorem dL_law_1272 : decode cL_law 1272 = .ok (.iconst 1, 1) := by decide +kernel
theorem dL_law_1273 : decode cL_law 1273 = .ok (.iadd, 1) := by decide +kernel
theorem dL_law_1274 : decode cL_law 1274 = .ok (.iaload, 1) := by decide +kernel
theorem dL_law_1275 : decode cL_law 1275 = .ok (.invokevirtual 119, 3) := by decide +kernel
theorem dL_law_1278 : decode cL_law 1278 = .ok (.if_icmp .eq 780, 3) := by decide +kernel
theorem dL_law_1281 : decode cL_law 1281 = .ok (.iconst 0, 1) := by decide +kernel
theorem dL_law_1282 : decode cL_law 1282 = .ok (.ireturn, 1) := by decide +kernel
theorem dL_law_1283 : decode cL_law 1283 = .ok (.aload_n 1, 1) := by decide +kernel
theorem dL_law_1284 : decode cL_law 1284 = .ok (.aload_n 0, 1) := by decide +kernel
theorem dL_law_1285 : decode cL_law 1285 = .ok (.iload_n 3, 1) := by decide +kernel
theorem dL_law_1286 : decode cL_law 1286 = .ok (.iconst 1, 1) := by decide +kernel
theorem dL_law_1287 : decode cL_law 1287 = .ok (.iadd, 1) := by decide +kernel
theorem dL_law_1288 : decode cL_law 1288 = .ok (.iaload, 1) := by decide +kernel
theorem dL_law_1289 : decode cL_law 1289 = .ok (.aload_n 0, 1) := by decide +kernel
theorem dL_law_1290 : decode cL_law 1290 = .ok (.iload_n 3, 1) := by decide +kernel
theorem dL_law_1291 : decode cL_law 1291 = .ok (.iconst 2, 1) := by decide +kernel
theorem dL_law_1292 : decode cL_law 1292 = .ok (.iadd, 1) := by decide +kernel
theorem dL_law_1293 : decode cL_law 1293 = .ok (.iaload, 1) := by decide +kernel
theorem dL_law_1294 : decode cL_law 1294 = .ok (.invokevirtual 120, 3) := by decide +kernel
theorem dL_law_1297 : decode cL_law 1297 = .ok (.aload_n 2, 1) := by decide +kernel
theorem dL_law_1298 : decode cL_law 1298 = .ok (.aload_n 0, 1) := by decide +kernel
theorem dL_law_1299 : decode cL_law 1299 = .ok (.iload_n 3, 1) := by decide +kernel
theorem dL_law_1300 : decode cL_law 1300 = .ok (.iconst 1, 1) := by decide +kernel
theorem dL_law_1301 : decode cL_law 1301 = .ok (.iadd, 1) := by decide +kernel
theorem dL_law_1302 : decode cL_law 1302 = .ok (.iaload, 1) := by decide +kernel
theorem dL_law_1303 : decode cL_law 1303 = .ok (.aload_n 0, 1) := by decide +kernel
theorem dL_law_1304 : decode cL_law 1304 = .ok (.iload_n 3, 1) := by decide +kernel
theorem dL_law_1305 : decode cL_law 1305 = .ok (.iconst 2, 1) := by decide +kernel
theorem dL_law_1306 : decode cL_law 1306 = .ok (.iadd, 1) := by decide +kernel
theorem dL_law_1307 : decode cL_law 1307 = .ok (.iaload, 1) := by decide +kernel
theorem dL_law_1308 : decode cL_law 1308 = .ok (.invokevirtual 123, 3) := by decide +kernel
theorem dL_law_1311 : decode cL_law 1311 = .ok (.if_icmp .eq 747, 3) := by decide +kernel
theorem dL_law_1314 : decode cL_law 1314 = .ok (.iconst 0, 1) := by decide +kernel
theorem dL_law_1315 : decode cL_law 1315 = .ok (.ireturn, 1) := by decide +kernel
theorem dL_law_1316 : decode cL_law 1316 = .ok (.aload_n 1, 1) := by decide +kernel
theorem dL_law_1317 : decode cL_law 1317 = .ok (.aload_n 0, 1) := by decide +kernel
theorem dL_law_1318 : decode cL_law 1318 = .ok (.iload_n 3, 1) := by decide +kernel
theorem dL_law_1319 : decode cL_law 1319 = .ok (.iconst 1, 1) := by decide +kernel
theorem dL_law_1320 : decode cL_law 1320 = .ok (.iadd, 1) := by decide +kernel
theorem dL_law_1321 : decode cL_law 1321 = .ok (.iaload, 1) := by decide +kernel
theorem dL_law_1322 : decode cL_law 1322 = .ok (.aload_n 0, 1) := by decide +kernel
theorem dL_law_1323 : decode cL_law 1323 = .ok (.iload_n 3, 1) := by decide +kernel
theorem dL_law_1324 : decode cL_law 1324 = .ok (.iconst 2, 1) := by decide +kernel
theorem dL_law_1325 : decode cL_law 1325 = .ok (.iadd, 1) := by decide +kernel
theorem dL_law_1326 : decode cL_law 1326 = .ok (.iaload, 1) := by decide +kernel
theorem dL_law_1327 : decode cL_law 1327 = .ok (.invokevirtual 124, 3) := by decide +kernel
theorem dL_law_1330 : decode cL_law 1330 = .ok (.aload_n 2, 1) := by decide +kernel
theorem dL_law_1331 : decode cL_law 1331 = .ok (.aload_n 0, 1) := by decide +kernel
theorem dL_law_1332 : decode cL_law 1332 = .ok (.iload_n 3, 1) := by decide +kernel
theorem dL_law_1333 : decode cL_law 1333 = .ok (.iconst 1, 1) := by decide +kernel
theorem dL_law_1334 : decode cL_law 1334 = .ok (.iadd, 1) := by decide +kernel
theorem dL_law_1335 : decode cL_law 1335 = .ok (.iaload, 1) := by decide +kernel
theorem dL_law_1336 : decode cL_law 1336 = .ok (.aload_n 0, 1) := by decide +kernel
theorem dL_law_1337 : decode cL_law 1337 = .ok (.iload_n 3, 1) := by decide +kernel
theorem dL_law_1338 : decode cL_law 1338 = .ok (.iconst 2, 1) := by decide +kernel
theorem dL_law_1339 : decode cL_law 1339 = .ok (.iadd, 1) := by decide +kernel
theorem dL_law_1340 : decode cL_law 1340 = .ok (.iaload, 1) := by decide +kernel
theorem dL_law_1341 : decode cL_law 1341 = .ok (.invokevirtual 127, 3) := by decide +kernel
theorem dL_law_1344 : decode cL_law 1344 = .ok (.if_icmp .eq 714, 3) := by decide +kernel
theorem dL_law_1347 : decode cL_law 1347 = .ok (.iconst 0, 1) := by decide +kernel
theorem dL_law_1348 : decode cL_law 1348 = .ok (.ireturn, 1) := by decide +kernel
theorem dL_law_1349 : decode cL_law 1349 = .ok (.aload_n 1, 1) := by decide +kernel
theorem dL_law_1350 : decode cL_law 1350 = .ok (.aload_n 0, 1) := by decide +kernel
theorem dL_law_1351 : decode cL_law 1351 = .ok (.iload_n 3, 1) := by decide +kernel
theorem dL_law_1352 : decode cL_law 1352 = .ok (.iconst 1, 1) := by decide +kernel
theorem dL_law_1353 : decode cL_law 1353 = .ok (.iadd, 1) := by decide +kernel
theorem dL_law_1354 : decode cL_law 1354 = .ok (.iaload, 1) := by decide +kernel
theorem dL_law_1355 : decode cL_law 1355 = .ok (.aload_n 0, 1) := by decide +kernel
theorem dL_law_1356 : decode cL_law 1356 = .ok (.iload_n 3, 1) := by decide +kernel
theorem dL_law_1357 : decode cL_law 1357 = .ok (.iconst 2, 1) := by decide +kernel
theorem dL_law_1358 : decode cL_law 1358 = .ok (.iadd, 1) := by decide +kernel
theorem dL_law_1359 : decode cL_law 1359 = .ok (.iaload, 1) := by decide +kernel
theorem dL_law_1360 : decode cL_law 1360 = .ok (.aload_n 0, 1) := by decide +kernel
theorem dL_law_1361 : decode cL_law 1361 = .ok (.iload_n 3, 1) := by decide +kernel
theorem dL_law_1362 : decode cL_law 1362 = .ok (.iconst 3, 1) := by decide +kernel
theorem dL_law_1363 : decode cL_law 1363 = .ok (.iadd, 1) := by decide +kernel
theorem dL_law_1364 : decode cL_law 1364 = .ok (.iaload, 1) := by decide +kernel
theorem dL_law_1365 : decode cL_law 1365 = .ok (.invokevirtual 128, 3) := by decide +kernel
theorem dL_law_1368 : decode cL_law 1368 = .ok (.aload_n 2, 1) := by decide +kernel
theorem dL_law_1369 : decode cL_law 1369 = .ok (.aload_n 0, 1) := by decide +kernel
theorem dL_law_1370 : decode cL_law 1370 = .ok (.iload_n 3, 1) := by decide +kernel
theorem dL_law_1371 : decode cL_law 1371 = .ok (.iconst 1, 1) := by decide +kernel
theorem dL_law_1372 : decode cL_law 1372 = .ok (.iadd, 1) := by decide +kernel
theorem dL_law_1373 : decode cL_law 1373 = .ok (.iaload, 1) := by decide +kernel
theorem dL_law_1374 : decode cL_law 1374 = .ok (.aload_n 0, 1) := by decide +kernel
theorem dL_law_1375 : decode cL_law 1375 = .ok (.iload_n 3, 1) := by decide +kernel
theorem dL_law_1376 : decode cL_law 1376 = .ok (.iconst 2, 1) := by decide +kernel
theorem dL_law_1377 : decode cL_law 1377 = .ok (.iadd, 1) := by decide +kernel
theorem dL_law_1378 : decode cL_law 1378 = .ok (.iaload, 1) := by decide +kernel
theorem dL_law_1379 : decode cL_law 1379 = .ok (.aload_n 0, 1) := by decide +kernel
theorem dL_law_1380 : decode cL_law 1380 = .ok (.iload_n 3, 1) := by decide +kernel
theorem dL_law_1381 : decode cL_law 1381 = .ok (.iconst 3, 1) := by decide +kernel
theorem dL_law_1382 : decode cL_law 1382 = .ok (.iadd, 1) := by decide +kernel
theorem dL_law_1383 : decode cL_law 1383 = .ok (.iaload, 1) := by decide +kernel
theorem dL_law_1384 : decode cL_law 1384 = .ok (.invokevirtual 131, 3) := by decide +kernel
theorem dL_law_1387 : decode cL_law 1387 = .ok (.if_icmp .eq 671, 3) := by decide +kernel
theorem dL_law_1390 : decode cL_law 1390 = .ok (.iconst 0, 1) := by decide +kernel
theorem dL_law_1391 : decode cL_law 1391 = .ok (.ireturn, 1) := by decide +kernel
theorem dL_law_1392 : decode cL_law 1392 = .ok (.aload_n 1, 1) := by decide +kernel
theorem dL_law_1393 : decode cL_law 1393 = .ok (.aload_n 0, 1) := by decide +kernel
theorem dL_law_1394 : decode cL_law 1394 = .ok (.iload_n 3, 1) := by decide +kernel
theorem dL_law_1395 : decode cL_law 1395 = .ok (.iconst 1, 1) := by decide +kernel
theorem dL_law_1396 : decode cL_law 1396 = .ok (.iadd, 1) := by decide +kernel
theorem dL_law_1397 : decode cL_law 1397 = .ok (.iaload, 1) := by decide +kernel
theorem dL_law_1398 : decode cL_law 1398 = .ok (.aload_n 0, 1) := by decide +kernel
theorem dL_law_1399 : decode cL_law 1399 = .ok (.iload_n 3, 1) := by decide +kernel
theorem dL_law_1400 : decode cL_law 1400 = .ok (.iconst 2, 1) := by decide +kernel
theorem dL_law_1401 : decode cL_law 1401 = .ok (.iadd, 1) := by decide +kernel
theorem dL_law_1402 : decode cL_law 1402 = .ok (.iaload, 1) := by decide +kernel
theorem dL_law_1403 : decode cL_law 1403 = .ok (.aload_n 0, 1) := by decide +kernel
theorem dL_law_1404 : decode cL_law 1404 = .ok (.iload_n 3, 1) := by decide +kernel
theorem dL_law_1405 : decode cL_law 1405 = .ok (.iconst 3, 1) := by decide +kernel
theorem dL_law_1406 : decode cL_law 1406 = .ok (.iadd, 1) := by decide +kernel
theorem dL_law_1407 : decode cL_law 1407 = .ok (.iaload, 1) := by decide +kernel
theorem dL_law_1408 : decode cL_law 1408 = .ok (.invokevirtual 132, 3) := by decide +kernel
theorem dL_law_1411 : decode cL_law 1411 = .ok (.aload_n 2, 1) := by decide +kernel
theorem dL_law_1412 : decode cL_law 1412 = .ok (.aload_n 0, 1) := by decide +kernel
theorem dL_law_1413 : decode cL_law 1413 = .ok (.iload_n 3, 1) := by decide +kernel
theorem dL_law_1414 : decode cL_law 1414 = .ok (.iconst 1, 1) := by decide +kernel
theorem dL_law_1415 : decode cL_law 1415 = .ok (.iadd, 1) := by decide +kernel
theorem dL_law_1416 : decode cL_law 1416 = .ok (.iaload, 1) := by decide +kernel
theorem dL_law_1417 : decode cL_law 1417 = .ok (.aload_n 0, 1) := by decide +kernel
theorem dL_law_1418 : decode cL_law 1418 = .ok (.iload_n 3, 1) := by decide +kernel
theorem dL_law_1419 : decode cL_law 1419 = .ok (.iconst 2, 1) := by decide +kernel
theorem dL_law_1420 : decode cL_law 1420 = .ok (.iadd, 1) := by decide +kernel
theorem dL_law_1421 : decode cL_law 1421 = .ok (.iaload, 1) := by decide +kernel
theorem dL_law_1422 : decode cL_law 1422 = .ok (.aload_n 0, 1) := by decide +kernel
theorem dL_law_1423 : decode cL_law 1423 = .ok (.iload_n 3, 1) := by decide +kernel
theorem dL_law_1424 : decode cL_law 1424 = .ok (.iconst 3, 1) := by decide +kernel
theorem dL_law_1425 : decode cL_law 1425 = .ok (.iadd, 1) := by decide +kernel
theorem dL_law_1426 : decode cL_law 1426 = .ok (.iaload, 1) := by decide +kernel
theorem dL_law_1427 : decode cL_law 1427 = .ok (.invokevirtual 135, 3) := by decide +kernel
theorem dL_law_1430 : decode cL_law 1430 = .ok (.if_icmp .eq 628, 3) := by decide +kernel
theorem dL_law_1433 : decode cL_law 1433 = .ok (.iconst 0, 1) := by decide +kernel
theorem dL_law_1434 : decode cL_law 1434 = .ok (.ireturn, 1) := by decide +kernel
theorem dL_law_1435 : decode cL_law 1435 = .ok (.aload_n 1, 1) := by decide +kernel
theorem dL_law_1436 : decode cL_law 1436 = .ok (.aload_n 0, 1) := by decide +kernel
theorem dL_law_1437 : decode cL_law 1437 = .ok (.iload_n 3, 1) := by decide +kernel
theorem dL_law_1438 : decode cL_law 1438 = .ok (.iconst 1, 1) := by decide +kernel
theorem dL_law_1439 : decode cL_law 1439 = .ok (.iadd, 1) := by decide +kernel
theorem dL_law_1440 : decode cL_law 1440 = .ok (.iaload, 1) := by decide +kernel
theorem dL_law_1441 : decode cL_law 1441 = .ok (.aload_n 0, 1) := by decide +kernel
theorem dL_law_1442 : decode cL_law 1442 = .ok (.iload_n 3, 1) := by decide +kernel
theorem dL_law_1443 : decode cL_law 1443 = .ok (.iconst 2, 1) := by decide +kernel
theorem dL_law_1444 : decode cL_law 1444 = .ok (.iadd, 1) := by decide +kernel
theorem dL_law_1445 : decode cL_law 1445 = .ok (.iaload, 1) := by decide +kernel
theorem dL_law_1446 : decode cL_law 1446 = .ok (.invokevirtual 136, 3) := by decide +kernel
theorem dL_law_1449 : decode cL_law 1449 = .ok (.aload_n 2, 1) := by decide +kernel
theorem dL_law_1450 : decode cL_law 1450 = .ok (.aload_n 0, 1) := by decide +kernel
theorem dL_law_1451 : decode cL_law 1451 = .ok (.iload_n 3, 1) := by decide +kernel
theorem dL_law_1452 : decode cL_law 1452 = .ok (.iconst 1, 1) := by decide +kernel
theorem dL_law_1453 : decode cL_law 1453 = .ok (.iadd, 1) := by decide +kernel
theorem dL_law_1454 : decode cL_law 1454 = .ok (.iaload, 1) := by decide +kernel
theorem dL_law_1455 : decode cL_law 1455 = .ok (.aload_n 0, 1) := by decide +kernel
theorem dL_law_1456 : decode cL_law 1456 = .ok (.iload_n 3, 1) := by decide +kernel
theorem dL_law_1457 : decode cL_law 1457 = .ok (.iconst 2, 1) := by decide +kernel
theorem dL_law_1458 : decode cL_law 1458 = .ok (.iadd, 1) := by decide +kernel
theorem dL_law_1459 : decode cL_law 1459 = .ok (.iaload, 1) := by decide +kernel
theorem dL_law_1460 : decode cL_law 1460 = .ok (.invokevirtual 139, 3) := by decide +kernel
theorem dL_law_1463 : decode cL_law 1463 = .ok (.if_icmp .eq 595, 3) := by decide +kernel
theorem dL_law_1466 : decode cL_law 1466 = .ok (.iconst 0, 1) := by decide +kernel
theorem dL_law_1467 : decode cL_law 1467 = .ok (.ireturn, 1) := by decide +kernel
theorem dL_law_1468 : decode cL_law 1468 = .ok (.aload_n 1, 1) := by decide +kernel
theorem dL_law_1469 : decode cL_law 1469 = .ok (.aload_n 0, 1) := by decide +kernel
theorem dL_law_1470 : decode cL_law 1470 = .ok (.iload_n 3, 1) := by decide +kernel
theorem dL_law_1471 : decode cL_law 1471 = .ok (.iconst 1, 1) := by decide +kernel
theorem dL_law_1472 : decode cL_law 1472 = .ok (.iadd, 1) := by decide +kernel
theorem dL_law_1473 : decode cL_law 1473 = .ok (.iaload, 1) := by decide +kernel
theorem dL_law_1474 : decode cL_law 1474 = .ok (.aload_n 0, 1) := by decide +kernel
theorem dL_law_1475 : decode cL_law 1475 = .ok (.iload_n 3, 1) := by decide +kernel
theorem dL_law_1476 : decode cL_law 1476 = .ok (.iconst 2, 1) := by decide +kernel
theorem dL_law_1477 : decode cL_law 1477 = .ok (.iadd, 1) := by decide +kernel
theorem dL_law_1478 : decode cL_law 1478 = .ok (.iaload, 1) := by decide +kernel
theorem dL_law_1479 : decode cL_law 1479 = .ok (.invokevirtual 140, 3) := by decide +kernel
theorem dL_law_1482 : decode cL_law 1482 = .ok (.aload_n 2, 1) := by decide +kernel
theorem dL_law_1483 : decode cL_law 1483 = .ok (.aload_n 0, 1) := by decide +kernel
theorem dL_law_1484 : decode cL_law 1484 = .ok (.iload_n 3, 1) := by decide +kernel
theorem dL_law_1485 : decode cL_law 1485 = .ok (.iconst 1, 1) := by decide +kernel
theorem dL_law_1486 : decode cL_law 1486 = .ok (.iadd, 1) := by decide +kernel
theorem dL_law_1487 : decode cL_law 1487 = .ok (.iaload, 1) := by decide +kernel
theorem dL_law_1488 : decode cL_law 1488 = .ok (.aload_n 0, 1) := by decide +kernel
theorem dL_law_1489 : decode cL_law 1489 = .ok (.iload_n 3, 1) := by decide +kernel
theorem dL_law_1490 : decode cL_law 1490 = .ok (.iconst 2, 1) := by decide +kernel
theorem dL_law_1491 : decode cL_law 1491 = .ok (.iadd, 1) := by decide +kernel
theorem dL_law_1492 : decode cL_law 1492 = .ok (.iaload, 1) := by decide +kernel
theorem dL_law_1493 : decode cL_law 1493 = .ok (.invokevirtual 143, 3) := by decide +kernel
theorem dL_law_1496 : decode cL_law 1496 = .ok (.if_icmp .eq 562, 3) := by decide +kernel
theorem dL_law_1499 : decode cL_law 1499 = .ok (.iconst 0, 1) := by decide +kernel
theorem dL_law_1500 : decode cL_law 1500 = .ok (.ireturn, 1) := by decide +kernel
theorem dL_law_1501 : decode cL_law 1501 = .ok (.aload_n 1, 1) := by decide +kernel
theorem dL_law_1502 : decode cL_law 1502 = .ok (.aload_n 0, 1) := by decide +kernel
theorem dL_law_1503 : decode cL_law 1503 = .ok (.iload_n 3, 1) := by decide +kernel
theorem dL_law_1504 : decode cL_law 1504 = .ok (.iconst 1, 1) := by decide +kernel
theorem dL_law_1505 : decode cL_law 1505 = .ok (.iadd, 1) := by decide +kernel
theorem dL_law_1506 : decode cL_law 1506 = .ok (.iaload, 1) := by decide +kernel
theorem dL_law_1507 : decode cL_law 1507 = .ok (.aload_n 0, 1) := by decide +kernel
theorem dL_law_1508 : decode cL_law 1508 = .ok (.iload_n 3, 1) := by decide +kernel
theorem dL_law_1509 : decode cL_law 1509 = .ok (.iconst 2, 1) := by decide +kernel
theorem dL_law_1510 : decode cL_law 1510 = .ok (.iadd, 1) := by decide +kernel
theorem dL_law_1511 : decode cL_law 1511 = .ok (.iaload, 1) := by decide +kernel
theorem dL_law_1512 : decode cL_law 1512 = .ok (.invokevirtual 144, 3) := by decide +kernel
theorem dL_law_1515 : decode cL_law 1515 = .ok (.aload_n 2, 1) := by decide +kernel
theorem dL_law_1516 : decode cL_law 1516 = .ok (.aload_n 0, 1) := by decide +kernel
theorem dL_law_1517 : decode cL_law 1517 = .ok (.iload_n 3, 1) := by decide +kernel
theorem dL_law_1518 : decode cL_law 1518 = .ok (.iconst 1, 1) := by decide +kernel
theorem dL_law_1519 : decode cL_law 1519 = .ok (.iadd, 1) := by decide +kernel
theorem dL_law_1520 : decode cL_law 1520 = .ok (.iaload, 1) := by decide +kernel
theorem dL_law_1521 : decode cL_law 1521 = .ok (.aload_n 0, 1) := by decide +kernel
theorem dL_law_1522 : decode cL_law 1522 = .ok (.iload_n 3, 1) := by decide +kernel
theorem dL_law_1523 : decode cL_law 1523 = .ok (.iconst 2, 1) := by decide +kernel
theorem dL_law_1524 : decode cL_law 1524 = .ok (.iadd, 1) := by decide +kernel
theorem dL_law_1525 : decode cL_law 1525 = .ok (.iaload, 1) := by decide +kernel
theorem dL_law_1526 : decode cL_law 1526 = .ok (.invokevirtual 147, 3) := by decide +kernel
theorem dL_law_1529 : decode cL_law 1529 = .ok (.if_icmp .eq 529, 3) := by decide +kernel
theorem dL_law_1532 : decode cL_law 1532 = .ok (.iconst 0, 1) := by decide +kernel
theorem dL_law_1533 : decode cL_law 1533 = .ok (.ireturn, 1) := by decide +kernel
theorem dL_law_1534 : decode cL_law 1534 = .ok (.aload_n 1, 1) := by decide +kernel
theorem dL_law_1535 : decode cL_law 1535 = .ok (.aload_n 0, 1) := by decide +kernel
theorem dL_law_1536 : decode cL_law 1536 = .ok (.iload_n 3, 1) := by decide +kernel
theorem dL_law_1537 : decode cL_law 1537 = .ok (.iconst 1, 1) := by decide +kernel
theorem dL_law_1538 : decode cL_law 1538 = .ok (.iadd, 1) := by decide +kernel
theorem dL_law_1539 : decode cL_law 1539 = .ok (.iaload, 1) := by decide +kernel
theorem dL_law_1540 : decode cL_law 1540 = .ok (.aload_n 0, 1) := by decide +kernel
theorem dL_law_1541 : decode cL_law 1541 = .ok (.iload_n 3, 1) := by decide +kernel
theorem dL_law_1542 : decode cL_law 1542 = .ok (.iconst 2, 1) := by decide +kernel
theorem dL_law_1543 : decode cL_law 1543 = .ok (.iadd, 1) := by decide +kernel
theorem dL_law_1544 : decode cL_law 1544 = .ok (.iaload, 1) := by decide +kernel
theorem dL_law_1545 : decode cL_law 1545 = .ok (.invokevirtual 148, 3) := by decide +kernel
theorem dL_law_1548 : decode cL_law 1548 = .ok (.aload_n 2, 1) := by decide +kernel
theorem dL_law_1549 : decode cL_law 1549 = .ok (.aload_n 0, 1) := by decide +kernel
theorem dL_law_1550 : decode cL_law 1550 = .ok (.iload_n 3, 1) := by decide +kernel
theorem dL_law_1551 : decode cL_law 1551 = .ok (.iconst 1, 1) := by decide +kernel
theorem dL_law_1552 : decode cL_law 1552 = .ok (.iadd, 1) := by decide +kernel
theorem dL_law_1553 : decode cL_law 1553 = .ok (.iaload, 1) := by decide +kernel
theorem dL_law_1554 : decode cL_law 1554 = .ok (.aload_n 0, 1) := by decide +kernel
theorem dL_law_1555 : decode cL_law 1555 = .ok (.iload_n 3, 1) := by decide +kernel
theorem dL_law_1556 : decode cL_law 1556 = .ok (.iconst 2, 1) := by decide +kernel
theorem dL_law_1557 : decode cL_law 1557 = .ok (.iadd, 1) := by decide +kernel
theorem dL_law_1558 : decode cL_law 1558 = .ok (.iaload, 1) := by decide +kernel
theorem dL_law_1559 : decode cL_law 1559 = .ok (.invokevirtual 151, 3) := by decide +kernel
theorem dL_law_1562 : decode cL_law 1562 = .ok (.if_icmp .eq 496, 3) := by decide +kernel
theorem dL_law_1565 : decode cL_law 1565 = .ok (.iconst 0, 1) := by decide +kernel
theorem dL_law_1566 : decode cL_law 1566 = .ok (.ireturn, 1) := by decide +kernel
theorem dL_law_1567 : decode cL_law 1567 = .ok (.aload_n 1, 1) := by decide +kernel
theorem dL_law_1568 : decode cL_law 1568 = .ok (.aload_n 0, 1) := by decide +kernel
theorem dL_law_1569 : decode cL_law 1569 = .ok (.iload_n 3, 1) := by decide +kernel
theorem dL_law_1570 : decode cL_law 1570 = .ok (.iconst 1, 1) := by decide +kernel
theorem dL_law_1571 : decode cL_law 1571 = .ok (.iadd, 1) := by decide +kernel
theorem dL_law_1572 : decode cL_law 1572 = .ok (.iaload, 1) := by decide +kernel
theorem dL_law_1573 : decode cL_law 1573 = .ok (.aload_n 0, 1) := by decide +kernel
theorem dL_law_1574 : decode cL_law 1574 = .ok (.iload_n 3, 1) := by decide +kernel
theorem dL_law_1575 : decode cL_law 1575 = .ok (.iconst 2, 1) := by decide +kernel
theorem dL_law_1576 : decode cL_law 1576 = .ok (.iadd, 1) := by decide +kernel
theorem dL_law_1577 : decode cL_law 1577 = .ok (.iaload, 1) := by decide +kernel
theorem dL_law_1578 : decode cL_law 1578 = .ok (.invokevirtual 152, 3) := by decide +kernel
theorem dL_law_1581 : decode cL_law 1581 = .ok (.aload_n 2, 1) := by decide +kernel
theorem dL_law_1582 : decode cL_law 1582 = .ok (.aload_n 0, 1) := by decide +kernel
theorem dL_law_1583 : decode cL_law 1583 = .ok (.iload_n 3, 1) := by decide +kernel
theorem dL_law_1584 : decode cL_law 1584 = .ok (.iconst 1, 1) := by decide +kernel
theorem dL_law_1585 : decode cL_law 1585 = .ok (.iadd, 1) := by decide +kernel
theorem dL_law_1586 : decode cL_law 1586 = .ok (.iaload, 1) := by decide +kernel
theorem dL_law_1587 : decode cL_law 1587 = .ok (.aload_n 0, 1) := by decide +kernel
theorem dL_law_1588 : decode cL_law 1588 = .ok (.iload_n 3, 1) := by decide +kernel
theorem dL_law_1589 : decode cL_law 1589 = .ok (.iconst 2, 1) := by decide +kernel
theorem dL_law_1590 : decode cL_law 1590 = .ok (.iadd, 1) := by decide +kernel
theorem dL_law_1591 : decode cL_law 1591 = .ok (.iaload, 1) := by decide +kernel
theorem dL_law_1592 : decode cL_law 1592 = .ok (.invokevirtual 155, 3) := by decide +kernel
theorem dL_law_1595 : decode cL_law 1595 = .ok (.if_icmp .eq 463, 3) := by decide +kernel
theorem dL_law_1598 : decode cL_law 1598 = .ok (.iconst 0, 1) := by decide +kernel
theorem dL_law_1599 : decode cL_law 1599 = .ok (.ireturn, 1) := by decide +kernel
theorem dL_law_1600 : decode cL_law 1600 = .ok (.aload_n 1, 1) := by decide +kernel
theorem dL_law_1601 : decode cL_law 1601 = .ok (.aload_n 0, 1) := by decide +kernel
theorem dL_law_1602 : decode cL_law 1602 = .ok (.iload_n 3, 1) := by decide +kernel
theorem dL_law_1603 : decode cL_law 1603 = .ok (.iconst 1, 1) := by decide +kernel
theorem dL_law_1604 : decode cL_law 1604 = .ok (.iadd, 1) := by decide +kernel
theorem dL_law_1605 : decode cL_law 1605 = .ok (.iaload, 1) := by decide +kernel
theorem dL_law_1606 : decode cL_law 1606 = .ok (.aload_n 0, 1) := by decide +kernel
theorem dL_law_1607 : decode cL_law 1607 = .ok (.iload_n 3, 1) := by decide +kernel
theorem dL_law_1608 : decode cL_law 1608 = .ok (.iconst 2, 1) := by decide +kernel
theorem dL_law_1609 : decode cL_law 1609 = .ok (.iadd, 1) := by decide +kernel
theorem dL_law_1610 : decode cL_law 1610 = .ok (.iaload, 1) := by decide +kernel
theorem dL_law_1611 : decode cL_law 1611 = .ok (.invokevirtual 156, 3) := by decide +kernel
theorem dL_law_1614 : decode cL_law 1614 = .ok (.aload_n 2, 1) := by decide +kernel
theorem dL_law_1615 : decode cL_law 1615 = .ok (.aload_n 0, 1) := by decide +kernel
theorem dL_law_1616 : decode cL_law 1616 = .ok (.iload_n 3, 1) := by decide +kernel
theorem dL_law_1617 : decode cL_law 1617 = .ok (.iconst 1, 1) := by decide +kernel
theorem dL_law_1618 : decode cL_law 1618 = .ok (.iadd, 1) := by decide +kernel
theorem dL_law_1619 : decode cL_law 1619 = .ok (.iaload, 1) := by decide +kernel
theorem dL_law_1620 : decode cL_law 1620 = .ok (.aload_n 0, 1) := by decide +kernel
theorem dL_law_1621 : decode cL_law 1621 = .ok (.iload_n 3, 1) := by decide +kernel
theorem dL_law_1622 : decode cL_law 1622 = .ok (.iconst 2, 1) := by decide +kernel
theorem dL_law_1623 : decode cL_law 1623 = .ok (.iadd, 1) := by decide +kernel
theorem dL_law_1624 : decode cL_law 1624 = .ok (.iaload, 1) := by decide +kernel
theorem dL_law_1625 : decode cL_law 1625 = .ok (.invokevirtual 159, 3) := by decide +kernel
theorem dL_law_1628 : decode cL_law 1628 = .ok (.if_icmp .eq 430, 3) := by decide +kernel
theorem dL_law_1631 : decode cL_law 1631 = .ok (.iconst 0, 1) := by decide +kernel
theorem dL_law_1632 : decode cL_law 1632 = .ok (.ireturn, 1) := by decide +kernel
theorem dL_law_1633 : decode cL_law 1633 = .ok (.aload_n 1, 1) := by decide +kernel
theorem dL_law_1634 : decode cL_law 1634 = .ok (.aload_n 0, 1) := by decide +kernel
theorem dL_law_1635 : decode cL_law 1635 = .ok (.iload_n 3, 1) := by decide +kernel
theorem dL_law_1636 : decode cL_law 1636 = .ok (.iconst 1, 1) := by decide +kernel
theorem dL_law_1637 : decode cL_law 1637 = .ok (.iadd, 1) := by decide +kernel
theorem dL_law_1638 : decode cL_law 1638 = .ok (.iaload, 1) := by decide +kernel
theorem dL_law_1639 : decode cL_law 1639 = .ok (.aload_n 0, 1) := by decide +kernel
theorem dL_law_1640 : decode cL_law 1640 = .ok (.iload_n 3, 1) := by decide +kernel
theorem dL_law_1641 : decode cL_law 1641 = .ok (.iconst 2, 1) := by decide +kernel
theorem dL_law_1642 : decode cL_law 1642 = .ok (.iadd, 1) := by decide +kernel
theorem dL_law_1643 : decode cL_law 1643 = .ok (.iaload, 1) := by decide +kernel
theorem dL_law_1644 : decode cL_law 1644 = .ok (.aload_n 0, 1) := by decide +kernel
theorem dL_law_1645 : decode cL_law 1645 = .ok (.iload_n 3, 1) := by decide +kernel
theorem dL_law_1646 : decode cL_law 1646 = .ok (.iconst 3, 1) := by decide +kernel
theorem dL_law_1647 : decode cL_law 1647 = .ok (.iadd, 1) := by decide +kernel
theorem dL_law_1648 : decode cL_law 1648 = .ok (.iaload, 1) := by decide +kernel
theorem dL_law_1649 : decode cL_law 1649 = .ok (.aload_n 0, 1) := by decide +kernel
theorem dL_law_1650 : decode cL_law 1650 = .ok (.iload_n 3, 1) := by decide +kernel
theorem dL_law_1651 : decode cL_law 1651 = .ok (.iconst 4, 1) := by decide +kernel
theorem dL_law_1652 : decode cL_law 1652 = .ok (.iadd, 1) := by decide +kernel
theorem dL_law_1653 : decode cL_law 1653 = .ok (.iaload, 1) := by decide +kernel
theorem dL_law_1654 : decode cL_law 1654 = .ok (.invokevirtual 160, 3) := by decide +kernel
theorem dL_law_1657 : decode cL_law 1657 = .ok (.aload_n 2, 1) := by decide +kernel
theorem dL_law_1658 : decode cL_law 1658 = .ok (.aload_n 0, 1) := by decide +kernel
theorem dL_law_1659 : decode cL_law 1659 = .ok (.iload_n 3, 1) := by decide +kernel
theorem dL_law_1660 : decode cL_law 1660 = .ok (.iconst 1, 1) := by decide +kernel
theorem dL_law_1661 : decode cL_law 1661 = .ok (.iadd, 1) := by decide +kernel
theorem dL_law_1662 : decode cL_law 1662 = .ok (.iaload, 1) := by decide +kernel
theorem dL_law_1663 : decode cL_law 1663 = .ok (.aload_n 0, 1) := by decide +kernel
theorem dL_law_1664 : decode cL_law 1664 = .ok (.iload_n 3, 1) := by decide +kernel
theorem dL_law_1665 : decode cL_law 1665 = .ok (.iconst 2, 1) := by decide +kernel
theorem dL_law_1666 : decode cL_law 1666 = .ok (.iadd, 1) := by decide +kernel
theorem dL_law_1667 : decode cL_law 1667 = .ok (.iaload, 1) := by decide +kernel
theorem dL_law_1668 : decode cL_law 1668 = .ok (.aload_n 0, 1) := by decide +kernel
theorem dL_law_1669 : decode cL_law 1669 = .ok (.iload_n 3, 1) := by decide +kernel
theorem dL_law_1670 : decode cL_law 1670 = .ok (.iconst 3, 1) := by decide +kernel
theorem dL_law_1671 : decode cL_law 1671 = .ok (.iadd, 1) := by decide +kernel
theorem dL_law_1672 : decode cL_law 1672 = .ok (.iaload, 1) := by decide +kernel
theorem dL_law_1673 : decode cL_law 1673 = .ok (.aload_n 0, 1) := by decide +kernel
theorem dL_law_1674 : decode cL_law 1674 = .ok (.iload_n 3, 1) := by decide +kernel
theorem dL_law_1675 : decode cL_law 1675 = .ok (.iconst 4, 1) := by decide +kernel
theorem dL_law_1676 : decode cL_law 1676 = .ok (.iadd, 1) := by decide +kernel
theorem dL_law_1677 : decode cL_law 1677 = .ok (.iaload, 1) := by decide +kernel
theorem dL_law_1678 : decode cL_law 1678 = .ok (.invokevirtual 163, 3) := by decide +kernel
theorem dL_law_1681 : decode cL_law 1681 = .ok (.if_icmp .eq 377, 3) := by decide +kernel
theorem dL_law_1684 : decode cL_law 1684 = .ok (.iconst 0, 1) := by decide +kernel
theorem dL_law_1685 : decode cL_law 1685 = .ok (.ireturn, 1) := by decide +kernel
theorem dL_law_1686 : decode cL_law 1686 = .ok (.aload_n 1, 1) := by decide +kernel
theorem dL_law_1687 : decode cL_law 1687 = .ok (.aload_n 0, 1) := by decide +kernel
theorem dL_law_1688 : decode cL_law 1688 = .ok (.iload_n 3, 1) := by decide +kernel
theorem dL_law_1689 : decode cL_law 1689 = .ok (.iconst 1, 1) := by decide +kernel
theorem dL_law_1690 : decode cL_law 1690 = .ok (.iadd, 1) := by decide +kernel
theorem dL_law_1691 : decode cL_law 1691 = .ok (.iaload, 1) := by decide +kernel
theorem dL_law_1692 : decode cL_law 1692 = .ok (.invokevirtual 164, 3) := by decide +kernel
theorem dL_law_1695 : decode cL_law 1695 = .ok (.aload_n 2, 1) := by decide +kernel
theorem dL_law_1696 : decode cL_law 1696 = .ok (.aload_n 0, 1) := by decide +kernel
theorem dL_law_1697 : decode cL_law 1697 = .ok (.iload_n 3, 1) := by decide +kernel
theorem dL_law_1698 : decode cL_law 1698 = .ok (.iconst 1, 1) := by decide +kernel
theorem dL_law_1699 : decode cL_law 1699 = .ok (.iadd, 1) := by decide +kernel
theorem dL_law_1700 : decode cL_law 1700 = .ok (.iaload, 1) := by decide +kernel
theorem dL_law_1701 : decode cL_law 1701 = .ok (.invokevirtual 167, 3) := by decide +kernel
theorem dL_law_1704 : decode cL_law 1704 = .ok (.if_icmp .eq 354, 3) := by decide +kernel
theorem dL_law_1707 : decode cL_law 1707 = .ok (.iconst 0, 1) := by decide +kernel
theorem dL_law_1708 : decode cL_law 1708 = .ok (.ireturn, 1) := by decide +kernel
theorem dL_law_1709 : decode cL_law 1709 = .ok (.aload_n 1, 1) := by decide +kernel
theorem dL_law_1710 : decode cL_law 1710 = .ok (.aload_n 0, 1) := by decide +kernel
theorem dL_law_1711 : decode cL_law 1711 = .ok (.iload_n 3, 1) := by decide +kernel
theorem dL_law_1712 : decode cL_law 1712 = .ok (.iconst 1, 1) := by decide +kernel
theorem dL_law_1713 : decode cL_law 1713 = .ok (.iadd, 1) := by decide +kernel
theorem dL_law_1714 : decode cL_law 1714 = .ok (.iaload, 1) := by decide +kernel
theorem dL_law_1715 : decode cL_law 1715 = .ok (.aload_n 0, 1) := by decide +kernel
theorem dL_law_1716 : decode cL_law 1716 = .ok (.iload_n 3, 1) := by decide +kernel
theorem dL_law_1717 : decode cL_law 1717 = .ok (.iconst 2, 1) := by decide +kernel
theorem dL_law_1718 : decode cL_law 1718 = .ok (.iadd, 1) := by decide +kernel
theorem dL_law_1719 : decode cL_law 1719 = .ok (.iaload, 1) := by decide +kernel
theorem dL_law_1720 : decode cL_law 1720 = .ok (.invokevirtual 168, 3) := by decide +kernel
theorem dL_law_1723 : decode cL_law 1723 = .ok (.aload_n 2, 1) := by decide +kernel
theorem dL_law_1724 : decode cL_law 1724 = .ok (.aload_n 0, 1) := by decide +kernel
theorem dL_law_1725 : decode cL_law 1725 = .ok (.iload_n 3, 1) := by decide +kernel
theorem dL_law_1726 : decode cL_law 1726 = .ok (.iconst 1, 1) := by decide +kernel
theorem dL_law_1727 : decode cL_law 1727 = .ok (.iadd, 1) := by decide +kernel
theorem dL_law_1728 : decode cL_law 1728 = .ok (.iaload, 1) := by decide +kernel
theorem dL_law_1729 : decode cL_law 1729 = .ok (.aload_n 0, 1) := by decide +kernel
theorem dL_law_1730 : decode cL_law 1730 = .ok (.iload_n 3, 1) := by decide +kernel
theorem dL_law_1731 : decode cL_law 1731 = .ok (.iconst 2, 1) := by decide +kernel
theorem dL_law_1732 : decode cL_law 1732 = .ok (.iadd, 1) := by decide +kernel
theorem dL_law_1733 : decode cL_law 1733 = .ok (.iaload, 1) := by decide +kernel
theorem dL_law_1734 : decode cL_law 1734 = .ok (.invokevirtual 171, 3) := by decide +kernel
theorem dL_law_1737 : decode cL_law 1737 = .ok (.if_icmp .eq 321, 3) := by decide +kernel
theorem dL_law_1740 : decode cL_law 1740 = .ok (.iconst 0, 1) := by decide +kernel
theorem dL_law_1741 : decode cL_law 1741 = .ok (.ireturn, 1) := by decide +kernel
theorem dL_law_1742 : decode cL_law 1742 = .ok (.aload_n 1, 1) := by decide +kernel
theorem dL_law_1743 : decode cL_law 1743 = .ok (.aload_n 0, 1) := by decide +kernel
theorem dL_law_1744 : decode cL_law 1744 = .ok (.iload_n 3, 1) := by decide +kernel
theorem dL_law_1745 : decode cL_law 1745 = .ok (.iconst 1, 1) := by decide +kernel
theorem dL_law_1746 : decode cL_law 1746 = .ok (.iadd, 1) := by decide +kernel
theorem dL_law_1747 : decode cL_law 1747 = .ok (.iaload, 1) := by decide +kernel
theorem dL_law_1748 : decode cL_law 1748 = .ok (.aload_n 0, 1) := by decide +kernel
theorem dL_law_1749 : decode cL_law 1749 = .ok (.iload_n 3, 1) := by decide +kernel
theorem dL_law_1750 : decode cL_law 1750 = .ok (.iconst 2, 1) := by decide +kernel
theorem dL_law_1751 : decode cL_law 1751 = .ok (.iadd, 1) := by decide +kernel
theorem dL_law_1752 : decode cL_law 1752 = .ok (.iaload, 1) := by decide +kernel
theorem dL_law_1753 : decode cL_law 1753 = .ok (.aload_n 0, 1) := by decide +kernel
theorem dL_law_1754 : decode cL_law 1754 = .ok (.iload_n 3, 1) := by decide +kernel
theorem dL_law_1755 : decode cL_law 1755 = .ok (.iconst 3, 1) := by decide +kernel
theorem dL_law_1756 : decode cL_law 1756 = .ok (.iadd, 1) := by decide +kernel
theorem dL_law_1757 : decode cL_law 1757 = .ok (.iaload, 1) := by decide +kernel
theorem dL_law_1758 : decode cL_law 1758 = .ok (.aload_n 0, 1) := by decide +kernel
theorem dL_law_1759 : decode cL_law 1759 = .ok (.iload_n 3, 1) := by decide +kernel
theorem dL_law_1760 : decode cL_law 1760 = .ok (.iconst 4, 1) := by decide +kernel
theorem dL_law_1761 : decode cL_law 1761 = .ok (.iadd, 1) := by decide +kernel
theorem dL_law_1762 : decode cL_law 1762 = .ok (.iaload, 1) := by decide +kernel
theorem dL_law_1763 : decode cL_law 1763 = .ok (.invokevirtual 172, 3) := by decide +kernel
theorem dL_law_1766 : decode cL_law 1766 = .ok (.aload_n 2, 1) := by decide +kernel
theorem dL_law_1767 : decode cL_law 1767 = .ok (.aload_n 0, 1) := by decide +kernel
theorem dL_law_1768 : decode cL_law 1768 = .ok (.iload_n 3, 1) := by decide +kernel
theorem dL_law_1769 : decode cL_law 1769 = .ok (.iconst 1, 1) := by decide +kernel
theorem dL_law_1770 : decode cL_law 1770 = .ok (.iadd, 1) := by decide +kernel
theorem dL_law_1771 : decode cL_law 1771 = .ok (.iaload, 1) := by decide +kernel
theorem dL_law_1772 : decode cL_law 1772 = .ok (.aload_n 0, 1) := by decide +kernel
theorem dL_law_1773 : decode cL_law 1773 = .ok (.iload_n 3, 1) := by decide +kernel
theorem dL_law_1774 : decode cL_law 1774 = .ok (.iconst 2, 1) := by decide +kernel
theorem dL_law_1775 : decode cL_law 1775 = .ok (.iadd, 1) := by decide +kernel
theorem dL_law_1776 : decode cL_law 1776 = .ok (.iaload, 1) := by decide +kernel
theorem dL_law_1777 : decode cL_law 1777 = .ok (.aload_n 0, 1) := by decide +kernel
theorem dL_law_1778 : decode cL_law 1778 = .ok (.iload_n 3, 1) := by decide +kernel
theorem dL_law_1779 : decode cL_law 1779 = .ok (.iconst 3, 1) := by decide +kernel
theorem dL_law_1780 : decode cL_law 1780 = .ok (.iadd, 1) := by decide +kernel
theorem dL_law_1781 : decode cL_law 1781 = .ok (.iaload, 1) := by decide +kernel
theorem dL_law_1782 : decode cL_law 1782 = .ok (.aload_n 0, 1) := by decide +kernel
theorem dL_law_1783 : decode cL_law 1783 = .ok (.iload_n 3, 1) := by decide +kernel
theorem dL_law_1784 : decode cL_law 1784 = .ok (.iconst 4, 1) := by decide +kernel
theorem dL_law_1785 : decode cL_law 1785 = .ok (.iadd, 1) := by decide +kernel
theorem dL_law_1786 : decode cL_law 1786 = .ok (.iaload, 1) := by decide +kernel
theorem dL_law_1787 : decode cL_law 1787 = .ok (.invokevirtual 175, 3) := by decide +kernel
theorem dL_law_1790 : decode cL_law 1790 = .ok (.lcmp, 1) := by decide +kernel
theorem dL_law_1791 : decode cL_law 1791 = .ok (.ifCond .eq 267, 3) := by decide +kernel
theorem dL_law_1794 : decode cL_law 1794 = .ok (.iconst 0, 1) := by decide +kernel
theorem dL_law_1795 : decode cL_law 1795 = .ok (.ireturn, 1) := by decide +kernel
theorem dL_law_1796 : decode cL_law 1796 = .ok (.aload_n 1, 1) := by decide +kernel
theorem dL_law_1797 : decode cL_law 1797 = .ok (.aload_n 0, 1) := by decide +kernel
theorem dL_law_1798 : decode cL_law 1798 = .ok (.iload_n 3, 1) := by decide +kernel
theorem dL_law_1799 : decode cL_law 1799 = .ok (.iconst 1, 1) := by decide +kernel
theorem dL_law_1800 : decode cL_law 1800 = .ok (.iadd, 1) := by decide +kernel
theorem dL_law_1801 : decode cL_law 1801 = .ok (.iaload, 1) := by decide +kernel
theorem dL_law_1802 : decode cL_law 1802 = .ok (.aload_n 0, 1) := by decide +kernel
theorem dL_law_1803 : decode cL_law 1803 = .ok (.iload_n 3, 1) := by decide +kernel
theorem dL_law_1804 : decode cL_law 1804 = .ok (.iconst 2, 1) := by decide +kernel
theorem dL_law_1805 : decode cL_law 1805 = .ok (.iadd, 1) := by decide +kernel
theorem dL_law_1806 : decode cL_law 1806 = .ok (.iaload, 1) := by decide +kernel
theorem dL_law_1807 : decode cL_law 1807 = .ok (.i2l, 1) := by decide +kernel
theorem dL_law_1808 : decode cL_law 1808 = .ok (.bipush 32, 2) := by decide +kernel
theorem dL_law_1810 : decode cL_law 1810 = .ok (.lshl, 1) := by decide +kernel
theorem dL_law_1811 : decode cL_law 1811 = .ok (.aload_n 0, 1) := by decide +kernel
theorem dL_law_1812 : decode cL_law 1812 = .ok (.iload_n 3, 1) := by decide +kernel
theorem dL_law_1813 : decode cL_law 1813 = .ok (.iconst 3, 1) := by decide +kernel
theorem dL_law_1814 : decode cL_law 1814 = .ok (.iadd, 1) := by decide +kernel
theorem dL_law_1815 : decode cL_law 1815 = .ok (.iaload, 1) := by decide +kernel
theorem dL_law_1816 : decode cL_law 1816 = .ok (.i2l, 1) := by decide +kernel
theorem dL_law_1817 : decode cL_law 1817 = .ok (.ldc2_w 18, 3) := by decide +kernel
theorem dL_law_1820 : decode cL_law 1820 = .ok (.land, 1) := by decide +kernel
theorem dL_law_1821 : decode cL_law 1821 = .ok (.lor, 1) := by decide +kernel
theorem dL_law_1822 : decode cL_law 1822 = .ok (.invokevirtual 176, 3) := by decide +kernel
theorem dL_law_1825 : decode cL_law 1825 = .ok (.aload_n 2, 1) := by decide +kernel
theorem dL_law_1826 : decode cL_law 1826 = .ok (.aload_n 0, 1) := by decide +kernel
theorem dL_law_1827 : decode cL_law 1827 = .ok (.iload_n 3, 1) := by decide +kernel
theorem dL_law_1828 : decode cL_law 1828 = .ok (.iconst 1, 1) := by decide +kernel
theorem dL_law_1829 : decode cL_law 1829 = .ok (.iadd, 1) := by decide +kernel
theorem dL_law_1830 : decode cL_law 1830 = .ok (.iaload, 1) := by decide +kernel
theorem dL_law_1831 : decode cL_law 1831 = .ok (.aload_n 0, 1) := by decide +kernel
theorem dL_law_1832 : decode cL_law 1832 = .ok (.iload_n 3, 1) := by decide +kernel
theorem dL_law_1833 : decode cL_law 1833 = .ok (.iconst 2, 1) := by decide +kernel
theorem dL_law_1834 : decode cL_law 1834 = .ok (.iadd, 1) := by decide +kernel
theorem dL_law_1835 : decode cL_law 1835 = .ok (.iaload, 1) := by decide +kernel
theorem dL_law_1836 : decode cL_law 1836 = .ok (.i2l, 1) := by decide +kernel
theorem dL_law_1837 : decode cL_law 1837 = .ok (.bipush 32, 2) := by decide +kernel
theorem dL_law_1839 : decode cL_law 1839 = .ok (.lshl, 1) := by decide +kernel
theorem dL_law_1840 : decode cL_law 1840 = .ok (.aload_n 0, 1) := by decide +kernel
theorem dL_law_1841 : decode cL_law 1841 = .ok (.iload_n 3, 1) := by decide +kernel
theorem dL_law_1842 : decode cL_law 1842 = .ok (.iconst 3, 1) := by decide +kernel
theorem dL_law_1843 : decode cL_law 1843 = .ok (.iadd, 1) := by decide +kernel
theorem dL_law_1844 : decode cL_law 1844 = .ok (.iaload, 1) := by decide +kernel
theorem dL_law_1845 : decode cL_law 1845 = .ok (.i2l, 1) := by decide +kernel
theorem dL_law_1846 : decode cL_law 1846 = .ok (.ldc2_w 18, 3) := by decide +kernel
theorem dL_law_1849 : decode cL_law 1849 = .ok (.land, 1) := by decide +kernel
theorem dL_law_1850 : decode cL_law 1850 = .ok (.lor, 1) := by decide +kernel
theorem dL_law_1851 : decode cL_law 1851 = .ok (.invokevirtual 180, 3) := by decide +kernel
theorem dL_law_1854 : decode cL_law 1854 = .ok (.if_icmp .eq 204, 3) := by decide +kernel
theorem dL_law_1857 : decode cL_law 1857 = .ok (.iconst 0, 1) := by decide +kernel
theorem dL_law_1858 : decode cL_law 1858 = .ok (.ireturn, 1) := by decide +kernel
theorem dL_law_1859 : decode cL_law 1859 = .ok (.aload_n 1, 1) := by decide +kernel
theorem dL_law_1860 : decode cL_law 1860 = .ok (.aload_n 0, 1) := by decide +kernel
theorem dL_law_1861 : decode cL_law 1861 = .ok (.iload_n 3, 1) := by decide +kernel
theorem dL_law_1862 : decode cL_law 1862 = .ok (.iconst 1, 1) := by decide +kernel
theorem dL_law_1863 : decode cL_law 1863 = .ok (.iadd, 1) := by decide +kernel
theorem dL_law_1864 : decode cL_law 1864 = .ok (.iaload, 1) := by decide +kernel
theorem dL_law_1865 : decode cL_law 1865 = .ok (.aload_n 0, 1) := by decide +kernel
theorem dL_law_1866 : decode cL_law 1866 = .ok (.iload_n 3, 1) := by decide +kernel
theorem dL_law_1867 : decode cL_law 1867 = .ok (.iconst 2, 1) := by decide +kernel
theorem dL_law_1868 : decode cL_law 1868 = .ok (.iadd, 1) := by decide +kernel
theorem dL_law_1869 : decode cL_law 1869 = .ok (.iaload, 1) := by decide +kernel
theorem dL_law_1870 : decode cL_law 1870 = .ok (.invokevirtual 181, 3) := by decide +kernel
theorem dL_law_1873 : decode cL_law 1873 = .ok (.aload_n 2, 1) := by decide +kernel
theorem dL_law_1874 : decode cL_law 1874 = .ok (.aload_n 0, 1) := by decide +kernel
theorem dL_law_1875 : decode cL_law 1875 = .ok (.iload_n 3, 1) := by decide +kernel
theorem dL_law_1876 : decode cL_law 1876 = .ok (.iconst 1, 1) := by decide +kernel
theorem dL_law_1877 : decode cL_law 1877 = .ok (.iadd, 1) := by decide +kernel
theorem dL_law_1878 : decode cL_law 1878 = .ok (.iaload, 1) := by decide +kernel
theorem dL_law_1879 : decode cL_law 1879 = .ok (.aload_n 0, 1) := by decide +kernel
theorem dL_law_1880 : decode cL_law 1880 = .ok (.iload_n 3, 1) := by decide +kernel
theorem dL_law_1881 : decode cL_law 1881 = .ok (.iconst 2, 1) := by decide +kernel
theorem dL_law_1882 : decode cL_law 1882 = .ok (.iadd, 1) := by decide +kernel
theorem dL_law_1883 : decode cL_law 1883 = .ok (.iaload, 1) := by decide +kernel
theorem dL_law_1884 : decode cL_law 1884 = .ok (.invokevirtual 184, 3) := by decide +kernel
theorem dL_law_1887 : decode cL_law 1887 = .ok (.if_icmp .eq 171, 3) := by decide +kernel
theorem dL_law_1890 : decode cL_law 1890 = .ok (.iconst 0, 1) := by decide +kernel
theorem dL_law_1891 : decode cL_law 1891 = .ok (.ireturn, 1) := by decide +kernel
theorem dL_law_1892 : decode cL_law 1892 = .ok (.aload_n 1, 1) := by decide +kernel
theorem dL_law_1893 : decode cL_law 1893 = .ok (.aload_n 0, 1) := by decide +kernel
theorem dL_law_1894 : decode cL_law 1894 = .ok (.iload_n 3, 1) := by decide +kernel
theorem dL_law_1895 : decode cL_law 1895 = .ok (.iconst 1, 1) := by decide +kernel
theorem dL_law_1896 : decode cL_law 1896 = .ok (.iadd, 1) := by decide +kernel
theorem dL_law_1897 : decode cL_law 1897 = .ok (.iaload, 1) := by decide +kernel
theorem dL_law_1898 : decode cL_law 1898 = .ok (.aload_n 0, 1) := by decide +kernel
theorem dL_law_1899 : decode cL_law 1899 = .ok (.iload_n 3, 1) := by decide +kernel
theorem dL_law_1900 : decode cL_law 1900 = .ok (.iconst 2, 1) := by decide +kernel
theorem dL_law_1901 : decode cL_law 1901 = .ok (.iadd, 1) := by decide +kernel
theorem dL_law_1902 : decode cL_law 1902 = .ok (.iaload, 1) := by decide +kernel
theorem dL_law_1903 : decode cL_law 1903 = .ok (.aload_n 0, 1) := by decide +kernel
theorem dL_law_1904 : decode cL_law 1904 = .ok (.iload_n 3, 1) := by decide +kernel
theorem dL_law_1905 : decode cL_law 1905 = .ok (.iconst 3, 1) := by decide +kernel
theorem dL_law_1906 : decode cL_law 1906 = .ok (.iadd, 1) := by decide +kernel
theorem dL_law_1907 : decode cL_law 1907 = .ok (.iaload, 1) := by decide +kernel
theorem dL_law_1908 : decode cL_law 1908 = .ok (.invokevirtual 185, 3) := by decide +kernel
theorem dL_law_1911 : decode cL_law 1911 = .ok (.aload_n 2, 1) := by decide +kernel
theorem dL_law_1912 : decode cL_law 1912 = .ok (.aload_n 0, 1) := by decide +kernel
theorem dL_law_1913 : decode cL_law 1913 = .ok (.iload_n 3, 1) := by decide +kernel
theorem dL_law_1914 : decode cL_law 1914 = .ok (.iconst 1, 1) := by decide +kernel
theorem dL_law_1915 : decode cL_law 1915 = .ok (.iadd, 1) := by decide +kernel
theorem dL_law_1916 : decode cL_law 1916 = .ok (.iaload, 1) := by decide +kernel
theorem dL_law_1917 : decode cL_law 1917 = .ok (.aload_n 0, 1) := by decide +kernel
theorem dL_law_1918 : decode cL_law 1918 = .ok (.iload_n 3, 1) := by decide +kernel
theorem dL_law_1919 : decode cL_law 1919 = .ok (.iconst 2, 1) := by decide +kernel
theorem dL_law_1920 : decode cL_law 1920 = .ok (.iadd, 1) := by decide +kernel
theorem dL_law_1921 : decode cL_law 1921 = .ok (.iaload, 1) := by decide +kernel
theorem dL_law_1922 : decode cL_law 1922 = .ok (.aload_n 0, 1) := by decide +kernel
theorem dL_law_1923 : decode cL_law 1923 = .ok (.iload_n 3, 1) := by decide +kernel
theorem dL_law_1924 : decode cL_law 1924 = .ok (.iconst 3, 1) := by decide +kernel
theorem dL_law_1925 : decode cL_law 1925 = .ok (.iadd, 1) := by decide +kernel
theorem dL_law_1926 : decode cL_law 1926 = .ok (.iaload, 1) := by decide +kernel
theorem dL_law_1927 : decode cL_law 1927 = .ok (.invokevirtual 188, 3) := by decide +kernel
theorem dL_law_1930 : decode cL_law 1930 = .ok (.lcmp, 1) := by decide +kernel
theorem dL_law_1931 : decode cL_law 1931 = .ok (.ifCond .eq 127, 3) := by decide +kernel
theorem dL_law_1934 : decode cL_law 1934 = .ok (.iconst 0, 1) := by decide +kernel
theorem dL_law_1935 : decode cL_law 1935 = .ok (.ireturn, 1) := by decide +kernel
theorem dL_law_1936 : decode cL_law 1936 = .ok (.aload_n 1, 1) := by decide +kernel
theorem dL_law_1937 : decode cL_law 1937 = .ok (.aload_n 0, 1) := by decide +kernel
theorem dL_law_1938 : decode cL_law 1938 = .ok (.iload_n 3, 1) := by decide +kernel
theorem dL_law_1939 : decode cL_law 1939 = .ok (.iconst 1, 1) := by decide +kernel
theorem dL_law_1940 : decode cL_law 1940 = .ok (.iadd, 1) := by decide +kernel
theorem dL_law_1941 : decode cL_law 1941 = .ok (.iaload, 1) := by decide +kernel
theorem dL_law_1942 : decode cL_law 1942 = .ok (.aload_n 0, 1) := by decide +kernel
theorem dL_law_1943 : decode cL_law 1943 = .ok (.iload_n 3, 1) := by decide +kernel
theorem dL_law_1944 : decode cL_law 1944 = .ok (.iconst 2, 1) := by decide +kernel
theorem dL_law_1945 : decode cL_law 1945 = .ok (.iadd, 1) := by decide +kernel
theorem dL_law_1946 : decode cL_law 1946 = .ok (.iaload, 1) := by decide +kernel
theorem dL_law_1947 : decode cL_law 1947 = .ok (.aload_n 0, 1) := by decide +kernel
theorem dL_law_1948 : decode cL_law 1948 = .ok (.iload_n 3, 1) := by decide +kernel
theorem dL_law_1949 : decode cL_law 1949 = .ok (.iconst 3, 1) := by decide +kernel
theorem dL_law_1950 : decode cL_law 1950 = .ok (.iadd, 1) := by decide +kernel
theorem dL_law_1951 : decode cL_law 1951 = .ok (.iaload, 1) := by decide +kernel
theorem dL_law_1952 : decode cL_law 1952 = .ok (.aload_n 0, 1) := by decide +kernel
theorem dL_law_1953 : decode cL_law 1953 = .ok (.iload_n 3, 1) := by decide +kernel
theorem dL_law_1954 : decode cL_law 1954 = .ok (.iconst 4, 1) := by decide +kernel
theorem dL_law_1955 : decode cL_law 1955 = .ok (.iadd, 1) := by decide +kernel
theorem dL_law_1956 : decode cL_law 1956 = .ok (.iaload, 1) := by decide +kernel
theorem dL_law_1957 : decode cL_law 1957 = .ok (.aload_n 0, 1) := by decide +kernel
theorem dL_law_1958 : decode cL_law 1958 = .ok (.iload_n 3, 1) := by decide +kernel
theorem dL_law_1959 : decode cL_law 1959 = .ok (.iconst 5, 1) := by decide +kernel
theorem dL_law_1960 : decode cL_law 1960 = .ok (.iadd, 1) := by decide +kernel
theorem dL_law_1961 : decode cL_law 1961 = .ok (.iaload, 1) := by decide +kernel
theorem dL_law_1962 : decode cL_law 1962 = .ok (.invokevirtual 189, 3) := by decide +kernel
theorem dL_law_1965 : decode cL_law 1965 = .ok (.aload_n 2, 1) := by decide +kernel
theorem dL_law_1966 : decode cL_law 1966 = .ok (.aload_n 0, 1) := by decide +kernel
theorem dL_law_1967 : decode cL_law 1967 = .ok (.iload_n 3, 1) := by decide +kernel
theorem dL_law_1968 : decode cL_law 1968 = .ok (.iconst 1, 1) := by decide +kernel
theorem dL_law_1969 : decode cL_law 1969 = .ok (.iadd, 1) := by decide +kernel
theorem dL_law_1970 : decode cL_law 1970 = .ok (.iaload, 1) := by decide +kernel
theorem dL_law_1971 : decode cL_law 1971 = .ok (.aload_n 0, 1) := by decide +kernel
theorem dL_law_1972 : decode cL_law 1972 = .ok (.iload_n 3, 1) := by decide +kernel
theorem dL_law_1973 : decode cL_law 1973 = .ok (.iconst 2, 1) := by decide +kernel
theorem dL_law_1974 : decode cL_law 1974 = .ok (.iadd, 1) := by decide +kernel
theorem dL_law_1975 : decode cL_law 1975 = .ok (.iaload, 1) := by decide +kernel
theorem dL_law_1976 : decode cL_law 1976 = .ok (.aload_n 0, 1) := by decide +kernel
theorem dL_law_1977 : decode cL_law 1977 = .ok (.iload_n 3, 1) := by decide +kernel
theorem dL_law_1978 : decode cL_law 1978 = .ok (.iconst 3, 1) := by decide +kernel
theorem dL_law_1979 : decode cL_law 1979 = .ok (.iadd, 1) := by decide +kernel
theorem dL_law_1980 : decode cL_law 1980 = .ok (.iaload, 1) := by decide +kernel
theorem dL_law_1981 : decode cL_law 1981 = .ok (.aload_n 0, 1) := by decide +kernel
theorem dL_law_1982 : decode cL_law 1982 = .ok (.iload_n 3, 1) := by decide +kernel
theorem dL_law_1983 : decode cL_law 1983 = .ok (.iconst 4, 1) := by decide +kernel
theorem dL_law_1984 : decode cL_law 1984 = .ok (.iadd, 1) := by decide +kernel
theorem dL_law_1985 : decode cL_law 1985 = .ok (.iaload, 1) := by decide +kernel
theorem dL_law_1986 : decode cL_law 1986 = .ok (.aload_n 0, 1) := by decide +kernel
theorem dL_law_1987 : decode cL_law 1987 = .ok (.iload_n 3, 1) := by decide +kernel
theorem dL_law_1988 : decode cL_law 1988 = .ok (.iconst 5, 1) := by decide +kernel
theorem dL_law_1989 : decode cL_law 1989 = .ok (.iadd, 1) := by decide +kernel
theorem dL_law_1990 : decode cL_law 1990 = .ok (.iaload, 1) := by decide +kernel
theorem dL_law_1991 : decode cL_law 1991 = .ok (.invokevirtual 193, 3) := by decide +kernel
theorem dL_law_1994 : decode cL_law 1994 = .ok (.if_icmp .eq 64, 3) := by decide +kernel
theorem dL_law_1997 : decode cL_law 1997 = .ok (.iconst 0, 1) := by decide +kernel
theorem dL_law_1998 : decode cL_law 1998 = .ok (.ireturn, 1) := by decide +kernel
theorem dL_law_1999 : decode cL_law 1999 = .ok (.aload_n 1, 1) := by decide +kernel
theorem dL_law_2000 : decode cL_law 2000 = .ok (.aload_n 0, 1) := by decide +kernel
theorem dL_law_2001 : decode cL_law 2001 = .ok (.iload_n 3, 1) := by decide +kernel
theorem dL_law_2002 : decode cL_law 2002 = .ok (.iconst 1, 1) := by decide +kernel
theorem dL_law_2003 : decode cL_law 2003 = .ok (.iadd, 1) := by decide +kernel
theorem dL_law_2004 : decode cL_law 2004 = .ok (.iaload, 1) := by decide +kernel
theorem dL_law_2005 : decode cL_law 2005 = .ok (.invokevirtual 194, 3) := by decide +kernel
theorem dL_law_2008 : decode cL_law 2008 = .ok (.aload_n 2, 1) := by decide +kernel
theorem dL_law_2009 : decode cL_law 2009 = .ok (.aload_n 0, 1) := by decide +kernel
theorem dL_law_2010 : decode cL_law 2010 = .ok (.iload_n 3, 1) := by decide +kernel
theorem dL_law_2011 : decode cL_law 2011 = .ok (.iconst 1, 1) := by decide +kernel
theorem dL_law_2012 : decode cL_law 2012 = .ok (.iadd, 1) := by decide +kernel
theorem dL_law_2013 : decode cL_law 2013 = .ok (.iaload, 1) := by decide +kernel
theorem dL_law_2014 : decode cL_law 2014 = .ok (.invokevirtual 197, 3) := by decide +kernel
theorem dL_law_2017 : decode cL_law 2017 = .ok (.if_icmp .eq 41, 3) := by decide +kernel
theorem dL_law_2020 : decode cL_law 2020 = .ok (.iconst 0, 1) := by decide +kernel
theorem dL_law_2021 : decode cL_law 2021 = .ok (.ireturn, 1) := by decide +kernel
theorem dL_law_2022 : decode cL_law 2022 = .ok (.aload_n 1, 1) := by decide +kernel
theorem dL_law_2023 : decode cL_law 2023 = .ok (.aload_n 0, 1) := by decide +kernel
theorem dL_law_2024 : decode cL_law 2024 = .ok (.iload_n 3, 1) := by decide +kernel
theorem dL_law_2025 : decode cL_law 2025 = .ok (.iconst 1, 1) := by decide +kernel
theorem dL_law_2026 : decode cL_law 2026 = .ok (.iadd, 1) := by decide +kernel
theorem dL_law_2027 : decode cL_law 2027 = .ok (.iaload, 1) := by decide +kernel
theorem dL_law_2028 : decode cL_law 2028 = .ok (.invokevirtual 198, 3) := by decide +kernel
theorem dL_law_2031 : decode cL_law 2031 = .ok (.aload_n 2, 1) := by decide +kernel
theorem dL_law_2032 : decode cL_law 2032 = .ok (.aload_n 0, 1) := by decide +kernel
theorem dL_law_2033 : decode cL_law 2033 = .ok (.iload_n 3, 1) := by decide +kernel
theorem dL_law_2034 : decode cL_law 2034 = .ok (.iconst 1, 1) := by decide +kernel
theorem dL_law_2035 : decode cL_law 2035 = .ok (.iadd, 1) := by decide +kernel
theorem dL_law_2036 : decode cL_law 2036 = .ok (.iaload, 1) := by decide +kernel
theorem dL_law_2037 : decode cL_law 2037 = .ok (.invokevirtual 201, 3) := by decide +kernel
theorem dL_law_2040 : decode cL_law 2040 = .ok (.if_icmp .eq 18, 3) := by decide +kernel
theorem dL_law_2043 : decode cL_law 2043 = .ok (.iconst 0, 1) := by decide +kernel
theorem dL_law_2044 : decode cL_law 2044 = .ok (.ireturn, 1) := by decide +kernel
theorem dL_law_2045 : decode cL_law 2045 = .ok (.aload_n 1, 1) := by decide +kernel
theorem dL_law_2046 : decode cL_law 2046 = .ok (.invokevirtual 202, 3) := by decide +kernel
theorem dL_law_2049 : decode cL_law 2049 = .ok (.aload_n 2, 1) := by decide +kernel
theorem dL_law_2050 : decode cL_law 2050 = .ok (.invokevirtual 206, 3) := by decide +kernel
theorem dL_law_2053 : decode cL_law 2053 = .ok (.if_icmp .eq 5, 3) := by decide +kernel
theorem dL_law_2056 : decode cL_law 2056 = .ok (.iconst 0, 1) := by decide +kernel
theorem dL_law_2057 : decode cL_law 2057 = .ok (.ireturn, 1) := by decide +kernel
theorem dL_law_2058 : decode cL_law 2058 = .ok (.iinc 3 6, 3) := by decide +kernel
theorem dL_law_2061 : decode cL_law 2061 = .ok (.goto (-2043), 3) := by decide +kernel
theorem dL_law_2064 : decode cL_law 2064 = .ok (.iconst 1, 1) := by decide +kernel
theorem dL_law_2065 : decode cL_law 2065 = .ok (.ireturn, 1) := by decide +kernel
