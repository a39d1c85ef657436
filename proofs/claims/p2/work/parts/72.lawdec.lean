-- decode rows of the law's entry
theorem dL_0 : decode code 0 = .ok (.new 7, 3) := by decide +kernel
theorem dL_3 : decode code 3 = .ok (.dup, 1) := by decide +kernel
theorem dL_4 : decode code 4 = .ok (.invokespecial 9, 3) := by decide +kernel
theorem dL_7 : decode code 7 = .ok (.astore_n 1, 1) := by decide +kernel
theorem dL_8 : decode code 8 = .ok (.new 10, 3) := by decide +kernel
theorem dL_11 : decode code 11 = .ok (.dup, 1) := by decide +kernel
theorem dL_12 : decode code 12 = .ok (.invokespecial 12, 3) := by decide +kernel
theorem dL_15 : decode code 15 = .ok (.astore_n 2, 1) := by decide +kernel
theorem dL_16 : decode code 16 = .ok (.iconst 0, 1) := by decide +kernel
theorem dL_17 : decode code 17 = .ok (.istore_n 3, 1) := by decide +kernel
theorem dL_18 : decode code 18 = .ok (.iload_n 3, 1) := by decide +kernel
theorem dL_19 : decode code 19 = .ok (.aload_n 0, 1) := by decide +kernel
theorem dL_20 : decode code 20 = .ok (.arraylength, 1) := by decide +kernel
theorem dL_21 : decode code 21 = .ok (.bipush 6, 2) := by decide +kernel
theorem dL_23 : decode code 23 = .ok (.isub, 1) := by decide +kernel
theorem dL_24 : decode code 24 = .ok (.if_icmp .gt 1406, 3) := by decide +kernel
theorem dL_27 : decode code 27 = .ok (.aload_n 0, 1) := by decide +kernel
theorem dL_28 : decode code 28 = .ok (.iload_n 3, 1) := by decide +kernel
theorem dL_29 : decode code 29 = .ok (.iaload, 1) := by decide +kernel
theorem dL_30 : decode code 30 = .ok (.bipush 63, 2) := by decide +kernel
theorem dL_32 : decode code 32 = .ok (.iand, 1) := by decide +kernel
theorem dL_33 : decode code 33 = .ok (.tableswitch 1391 0 37 #[167, 200, 233, 266, 309, 342, 365, 408, 431, 474, 497, 560, 583, 606, 639, 672, 705, 738, 781, 824, 847, 890, 913, 956, 969, 1012, 1055, 1078, 1121, 1164, 1227, 1250, 1283, 1296, 1309, 1332, 1345, 1368], 167) := by decide +kernel
theorem dL_200 : decode code 200 = .ok (.aload_n 1, 1) := by decide +kernel
theorem dL_201 : decode code 201 = .ok (.aload_n 0, 1) := by decide +kernel
theorem dL_202 : decode code 202 = .ok (.iload_n 3, 1) := by decide +kernel
theorem dL_203 : decode code 203 = .ok (.iconst 1, 1) := by decide +kernel
theorem dL_204 : decode code 204 = .ok (.iadd, 1) := by decide +kernel
theorem dL_205 : decode code 205 = .ok (.iaload, 1) := by decide +kernel
theorem dL_206 : decode code 206 = .ok (.aload_n 0, 1) := by decide +kernel
theorem dL_207 : decode code 207 = .ok (.iload_n 3, 1) := by decide +kernel
theorem dL_208 : decode code 208 = .ok (.iconst 2, 1) := by decide +kernel
theorem dL_209 : decode code 209 = .ok (.iadd, 1) := by decide +kernel
theorem dL_210 : decode code 210 = .ok (.iaload, 1) := by decide +kernel
theorem dL_211 : decode code 211 = .ok (.invokevirtual 13, 3) := by decide +kernel
theorem dL_214 : decode code 214 = .ok (.aload_n 2, 1) := by decide +kernel
theorem dL_215 : decode code 215 = .ok (.aload_n 0, 1) := by decide +kernel
theorem dL_216 : decode code 216 = .ok (.iload_n 3, 1) := by decide +kernel
theorem dL_217 : decode code 217 = .ok (.iconst 1, 1) := by decide +kernel
theorem dL_218 : decode code 218 = .ok (.iadd, 1) := by decide +kernel
theorem dL_219 : decode code 219 = .ok (.iaload, 1) := by decide +kernel
theorem dL_220 : decode code 220 = .ok (.aload_n 0, 1) := by decide +kernel
theorem dL_221 : decode code 221 = .ok (.iload_n 3, 1) := by decide +kernel
theorem dL_222 : decode code 222 = .ok (.iconst 2, 1) := by decide +kernel
theorem dL_223 : decode code 223 = .ok (.iadd, 1) := by decide +kernel
theorem dL_224 : decode code 224 = .ok (.iaload, 1) := by decide +kernel
theorem dL_225 : decode code 225 = .ok (.invokevirtual 17, 3) := by decide +kernel
theorem dL_228 : decode code 228 = .ok (.if_icmp .eq 1196, 3) := by decide +kernel
theorem dL_231 : decode code 231 = .ok (.iconst 0, 1) := by decide +kernel
theorem dL_232 : decode code 232 = .ok (.ireturn, 1) := by decide +kernel
theorem dL_233 : decode code 233 = .ok (.aload_n 1, 1) := by decide +kernel
theorem dL_234 : decode code 234 = .ok (.aload_n 0, 1) := by decide +kernel
theorem dL_235 : decode code 235 = .ok (.iload_n 3, 1) := by decide +kernel
theorem dL_236 : decode code 236 = .ok (.iconst 1, 1) := by decide +kernel
theorem dL_237 : decode code 237 = .ok (.iadd, 1) := by decide +kernel
theorem dL_238 : decode code 238 = .ok (.iaload, 1) := by decide +kernel
theorem dL_239 : decode code 239 = .ok (.aload_n 0, 1) := by decide +kernel
theorem dL_240 : decode code 240 = .ok (.iload_n 3, 1) := by decide +kernel
theorem dL_241 : decode code 241 = .ok (.iconst 2, 1) := by decide +kernel
theorem dL_242 : decode code 242 = .ok (.iadd, 1) := by decide +kernel
theorem dL_243 : decode code 243 = .ok (.iaload, 1) := by decide +kernel
theorem dL_244 : decode code 244 = .ok (.invokevirtual 18, 3) := by decide +kernel
theorem dL_247 : decode code 247 = .ok (.pop, 1) := by decide +kernel
theorem dL_248 : decode code 248 = .ok (.aload_n 2, 1) := by decide +kernel
theorem dL_249 : decode code 249 = .ok (.aload_n 0, 1) := by decide +kernel
theorem dL_250 : decode code 250 = .ok (.iload_n 3, 1) := by decide +kernel
theorem dL_251 : decode code 251 = .ok (.iconst 1, 1) := by decide +kernel
theorem dL_252 : decode code 252 = .ok (.iadd, 1) := by decide +kernel
theorem dL_253 : decode code 253 = .ok (.iaload, 1) := by decide +kernel
theorem dL_254 : decode code 254 = .ok (.aload_n 0, 1) := by decide +kernel
theorem dL_255 : decode code 255 = .ok (.iload_n 3, 1) := by decide +kernel
theorem dL_256 : decode code 256 = .ok (.iconst 2, 1) := by decide +kernel
theorem dL_257 : decode code 257 = .ok (.iadd, 1) := by decide +kernel
theorem dL_258 : decode code 258 = .ok (.iaload, 1) := by decide +kernel
theorem dL_259 : decode code 259 = .ok (.invokevirtual 21, 3) := by decide +kernel
theorem dL_262 : decode code 262 = .ok (.pop, 1) := by decide +kernel
theorem dL_263 : decode code 263 = .ok (.goto 1161, 3) := by decide +kernel
theorem dL_266 : decode code 266 = .ok (.aload_n 1, 1) := by decide +kernel
theorem dL_267 : decode code 267 = .ok (.aload_n 0, 1) := by decide +kernel
theorem dL_268 : decode code 268 = .ok (.iload_n 3, 1) := by decide +kernel
theorem dL_269 : decode code 269 = .ok (.iconst 1, 1) := by decide +kernel
theorem dL_270 : decode code 270 = .ok (.iadd, 1) := by decide +kernel
theorem dL_271 : decode code 271 = .ok (.iaload, 1) := by decide +kernel
theorem dL_272 : decode code 272 = .ok (.aload_n 0, 1) := by decide +kernel
theorem dL_273 : decode code 273 = .ok (.iload_n 3, 1) := by decide +kernel
theorem dL_274 : decode code 274 = .ok (.iconst 2, 1) := by decide +kernel
theorem dL_275 : decode code 275 = .ok (.iadd, 1) := by decide +kernel
theorem dL_276 : decode code 276 = .ok (.iaload, 1) := by decide +kernel
theorem dL_277 : decode code 277 = .ok (.invokevirtual 22, 3) := by decide +kernel
theorem dL_280 : decode code 280 = .ok (.pop, 1) := by decide +kernel
theorem dL_281 : decode code 281 = .ok (.aload_n 2, 1) := by decide +kernel
theorem dL_282 : decode code 282 = .ok (.aload_n 0, 1) := by decide +kernel
theorem dL_283 : decode code 283 = .ok (.iload_n 3, 1) := by decide +kernel
theorem dL_284 : decode code 284 = .ok (.iconst 1, 1) := by decide +kernel
theorem dL_285 : decode code 285 = .ok (.iadd, 1) := by decide +kernel
theorem dL_286 : decode code 286 = .ok (.iaload, 1) := by decide +kernel
theorem dL_287 : decode code 287 = .ok (.aload_n 0, 1) := by decide +kernel
theorem dL_288 : decode code 288 = .ok (.iload_n 3, 1) := by decide +kernel
theorem dL_289 : decode code 289 = .ok (.iconst 2, 1) := by decide +kernel
theorem dL_290 : decode code 290 = .ok (.iadd, 1) := by decide +kernel
theorem dL_291 : decode code 291 = .ok (.iaload, 1) := by decide +kernel
theorem dL_292 : decode code 292 = .ok (.invokevirtual 25, 3) := by decide +kernel
theorem dL_295 : decode code 295 = .ok (.pop, 1) := by decide +kernel
theorem dL_296 : decode code 296 = .ok (.goto 1128, 3) := by decide +kernel
theorem dL_299 : decode code 299 = .ok (.aload_n 1, 1) := by decide +kernel
theorem dL_300 : decode code 300 = .ok (.aload_n 0, 1) := by decide +kernel
theorem dL_301 : decode code 301 = .ok (.iload_n 3, 1) := by decide +kernel
theorem dL_302 : decode code 302 = .ok (.iconst 1, 1) := by decide +kernel
theorem dL_303 : decode code 303 = .ok (.iadd, 1) := by decide +kernel
theorem dL_304 : decode code 304 = .ok (.iaload, 1) := by decide +kernel
theorem dL_305 : decode code 305 = .ok (.aload_n 0, 1) := by decide +kernel
theorem dL_306 : decode code 306 = .ok (.iload_n 3, 1) := by decide +kernel
theorem dL_307 : decode code 307 = .ok (.iconst 2, 1) := by decide +kernel
theorem dL_308 : decode code 308 = .ok (.iadd, 1) := by decide +kernel
theorem dL_309 : decode code 309 = .ok (.iaload, 1) := by decide +kernel
theorem dL_310 : decode code 310 = .ok (.aload_n 0, 1) := by decide +kernel
theorem dL_311 : decode code 311 = .ok (.iload_n 3, 1) := by decide +kernel
theorem dL_312 : decode code 312 = .ok (.iconst 3, 1) := by decide +kernel
theorem dL_313 : decode code 313 = .ok (.iadd, 1) := by decide +kernel
theorem dL_314 : decode code 314 = .ok (.iaload, 1) := by decide +kernel
theorem dL_315 : decode code 315 = .ok (.invokevirtual 26, 3) := by decide +kernel
theorem dL_318 : decode code 318 = .ok (.pop, 1) := by decide +kernel
theorem dL_319 : decode code 319 = .ok (.aload_n 2, 1) := by decide +kernel
theorem dL_320 : decode code 320 = .ok (.aload_n 0, 1) := by decide +kernel
theorem dL_321 : decode code 321 = .ok (.iload_n 3, 1) := by decide +kernel
theorem dL_322 : decode code 322 = .ok (.iconst 1, 1) := by decide +kernel
theorem dL_323 : decode code 323 = .ok (.iadd, 1) := by decide +kernel
theorem dL_324 : decode code 324 = .ok (.iaload, 1) := by decide +kernel
theorem dL_325 : decode code 325 = .ok (.aload_n 0, 1) := by decide +kernel
theorem dL_326 : decode code 326 = .ok (.iload_n 3, 1) := by decide +kernel
theorem dL_327 : decode code 327 = .ok (.iconst 2, 1) := by decide +kernel
theorem dL_328 : decode code 328 = .ok (.iadd, 1) := by decide +kernel
theorem dL_329 : decode code 329 = .ok (.iaload, 1) := by decide +kernel
theorem dL_330 : decode code 330 = .ok (.aload_n 0, 1) := by decide +kernel
theorem dL_331 : decode code 331 = .ok (.iload_n 3, 1) := by decide +kernel
theorem dL_332 : decode code 332 = .ok (.iconst 3, 1) := by decide +kernel
theorem dL_333 : decode code 333 = .ok (.iadd, 1) := by decide +kernel
theorem dL_334 : decode code 334 = .ok (.iaload, 1) := by decide +kernel
theorem dL_335 : decode code 335 = .ok (.invokevirtual 30, 3) := by decide +kernel
theorem dL_338 : decode code 338 = .ok (.pop, 1) := by decide +kernel
theorem dL_339 : decode code 339 = .ok (.goto 1085, 3) := by decide +kernel
theorem dL_342 : decode code 342 = .ok (.aload_n 1, 1) := by decide +kernel
theorem dL_343 : decode code 343 = .ok (.aload_n 0, 1) := by decide +kernel
theorem dL_344 : decode code 344 = .ok (.iload_n 3, 1) := by decide +kernel
theorem dL_345 : decode code 345 = .ok (.iconst 1, 1) := by decide +kernel
theorem dL_346 : decode code 346 = .ok (.iadd, 1) := by decide +kernel
theorem dL_347 : decode code 347 = .ok (.iaload, 1) := by decide +kernel
theorem dL_348 : decode code 348 = .ok (.aload_n 0, 1) := by decide +kernel
theorem dL_349 : decode code 349 = .ok (.iload_n 3, 1) := by decide +kernel
theorem dL_350 : decode code 350 = .ok (.iconst 2, 1) := by decide +kernel
theorem dL_351 : decode code 351 = .ok (.iadd, 1) := by decide +kernel
theorem dL_352 : decode code 352 = .ok (.iaload, 1) := by decide +kernel
theorem dL_353 : decode code 353 = .ok (.invokevirtual 31, 3) := by decide +kernel
theorem dL_356 : decode code 356 = .ok (.pop, 1) := by decide +kernel
theorem dL_357 : decode code 357 = .ok (.aload_n 2, 1) := by decide +kernel
theorem dL_358 : decode code 358 = .ok (.aload_n 0, 1) := by decide +kernel
theorem dL_359 : decode code 359 = .ok (.iload_n 3, 1) := by decide +kernel
theorem dL_360 : decode code 360 = .ok (.iconst 1, 1) := by decide +kernel
theorem dL_361 : decode code 361 = .ok (.iadd, 1) := by decide +kernel
theorem dL_362 : decode code 362 = .ok (.iaload, 1) := by decide +kernel
theorem dL_363 : decode code 363 = .ok (.aload_n 0, 1) := by decide +kernel
theorem dL_364 : decode code 364 = .ok (.iload_n 3, 1) := by decide +kernel
theorem dL_365 : decode code 365 = .ok (.iconst 2, 1) := by decide +kernel
theorem dL_366 : decode code 366 = .ok (.iadd, 1) := by decide +kernel
theorem dL_367 : decode code 367 = .ok (.iaload, 1) := by decide +kernel
theorem dL_368 : decode code 368 = .ok (.invokevirtual 34, 3) := by decide +kernel
theorem dL_371 : decode code 371 = .ok (.pop, 1) := by decide +kernel
theorem dL_372 : decode code 372 = .ok (.goto 1052, 3) := by decide +kernel
theorem dL_375 : decode code 375 = .ok (.aload_n 1, 1) := by decide +kernel
theorem dL_376 : decode code 376 = .ok (.aload_n 0, 1) := by decide +kernel
theorem dL_377 : decode code 377 = .ok (.iload_n 3, 1) := by decide +kernel
theorem dL_378 : decode code 378 = .ok (.iconst 1, 1) := by decide +kernel
theorem dL_379 : decode code 379 = .ok (.iadd, 1) := by decide +kernel
theorem dL_380 : decode code 380 = .ok (.iaload, 1) := by decide +kernel
theorem dL_381 : decode code 381 = .ok (.invokevirtual 35, 3) := by decide +kernel
theorem dL_384 : decode code 384 = .ok (.pop, 1) := by decide +kernel
theorem dL_385 : decode code 385 = .ok (.aload_n 2, 1) := by decide +kernel
theorem dL_386 : decode code 386 = .ok (.aload_n 0, 1) := by decide +kernel
theorem dL_387 : decode code 387 = .ok (.iload_n 3, 1) := by decide +kernel
theorem dL_388 : decode code 388 = .ok (.iconst 1, 1) := by decide +kernel
theorem dL_389 : decode code 389 = .ok (.iadd, 1) := by decide +kernel
theorem dL_390 : decode code 390 = .ok (.iaload, 1) := by decide +kernel
theorem dL_391 : decode code 391 = .ok (.invokevirtual 39, 3) := by decide +kernel
theorem dL_394 : decode code 394 = .ok (.pop, 1) := by decide +kernel
theorem dL_395 : decode code 395 = .ok (.goto 1029, 3) := by decide +kernel
theorem dL_398 : decode code 398 = .ok (.aload_n 1, 1) := by decide +kernel
theorem dL_399 : decode code 399 = .ok (.aload_n 0, 1) := by decide +kernel
theorem dL_400 : decode code 400 = .ok (.iload_n 3, 1) := by decide +kernel
theorem dL_401 : decode code 401 = .ok (.iconst 1, 1) := by decide +kernel
theorem dL_402 : decode code 402 = .ok (.iadd, 1) := by decide +kernel
theorem dL_403 : decode code 403 = .ok (.iaload, 1) := by decide +kernel
theorem dL_404 : decode code 404 = .ok (.aload_n 0, 1) := by decide +kernel
theorem dL_405 : decode code 405 = .ok (.iload_n 3, 1) := by decide +kernel
theorem dL_406 : decode code 406 = .ok (.iconst 2, 1) := by decide +kernel
theorem dL_407 : decode code 407 = .ok (.iadd, 1) := by decide +kernel
theorem dL_408 : decode code 408 = .ok (.iaload, 1) := by decide +kernel
theorem dL_409 : decode code 409 = .ok (.aload_n 0, 1) := by decide +kernel
theorem dL_410 : decode code 410 = .ok (.iload_n 3, 1) := by decide +kernel
theorem dL_411 : decode code 411 = .ok (.iconst 3, 1) := by decide +kernel
theorem dL_412 : decode code 412 = .ok (.iadd, 1) := by decide +kernel
theorem dL_413 : decode code 413 = .ok (.iaload, 1) := by decide +kernel
theorem dL_414 : decode code 414 = .ok (.invokevirtual 40, 3) := by decide +kernel
theorem dL_417 : decode code 417 = .ok (.pop, 1) := by decide +kernel
theorem dL_418 : decode code 418 = .ok (.aload_n 2, 1) := by decide +kernel
theorem dL_419 : decode code 419 = .ok (.aload_n 0, 1) := by decide +kernel
theorem dL_420 : decode code 420 = .ok (.iload_n 3, 1) := by decide +kernel
theorem dL_421 : decode code 421 = .ok (.iconst 1, 1) := by decide +kernel
theorem dL_422 : decode code 422 = .ok (.iadd, 1) := by decide +kernel
theorem dL_423 : decode code 423 = .ok (.iaload, 1) := by decide +kernel
theorem dL_424 : decode code 424 = .ok (.aload_n 0, 1) := by decide +kernel
theorem dL_425 : decode code 425 = .ok (.iload_n 3, 1) := by decide +kernel
theorem dL_426 : decode code 426 = .ok (.iconst 2, 1) := by decide +kernel
theorem dL_427 : decode code 427 = .ok (.iadd, 1) := by decide +kernel
theorem dL_428 : decode code 428 = .ok (.iaload, 1) := by decide +kernel
theorem dL_429 : decode code 429 = .ok (.aload_n 0, 1) := by decide +kernel
theorem dL_430 : decode code 430 = .ok (.iload_n 3, 1) := by decide +kernel
theorem dL_431 : decode code 431 = .ok (.iconst 3, 1) := by decide +kernel
theorem dL_432 : decode code 432 = .ok (.iadd, 1) := by decide +kernel
theorem dL_433 : decode code 433 = .ok (.iaload, 1) := by decide +kernel
theorem dL_434 : decode code 434 = .ok (.invokevirtual 43, 3) := by decide +kernel
theorem dL_437 : decode code 437 = .ok (.pop, 1) := by decide +kernel
theorem dL_438 : decode code 438 = .ok (.goto 986, 3) := by decide +kernel
theorem dL_441 : decode code 441 = .ok (.aload_n 1, 1) := by decide +kernel
theorem dL_442 : decode code 442 = .ok (.aload_n 0, 1) := by decide +kernel
theorem dL_443 : decode code 443 = .ok (.iload_n 3, 1) := by decide +kernel
theorem dL_444 : decode code 444 = .ok (.iconst 1, 1) := by decide +kernel
theorem dL_445 : decode code 445 = .ok (.iadd, 1) := by decide +kernel
theorem dL_446 : decode code 446 = .ok (.iaload, 1) := by decide +kernel
theorem dL_447 : decode code 447 = .ok (.invokevirtual 44, 3) := by decide +kernel
theorem dL_450 : decode code 450 = .ok (.pop, 1) := by decide +kernel
theorem dL_451 : decode code 451 = .ok (.aload_n 2, 1) := by decide +kernel
theorem dL_452 : decode code 452 = .ok (.aload_n 0, 1) := by decide +kernel
theorem dL_453 : decode code 453 = .ok (.iload_n 3, 1) := by decide +kernel
theorem dL_454 : decode code 454 = .ok (.iconst 1, 1) := by decide +kernel
theorem dL_455 : decode code 455 = .ok (.iadd, 1) := by decide +kernel
theorem dL_456 : decode code 456 = .ok (.iaload, 1) := by decide +kernel
theorem dL_457 : decode code 457 = .ok (.invokevirtual 47, 3) := by decide +kernel
theorem dL_460 : decode code 460 = .ok (.pop, 1) := by decide +kernel
theorem dL_461 : decode code 461 = .ok (.goto 963, 3) := by decide +kernel
theorem dL_464 : decode code 464 = .ok (.aload_n 1, 1) := by decide +kernel
theorem dL_465 : decode code 465 = .ok (.aload_n 0, 1) := by decide +kernel
theorem dL_466 : decode code 466 = .ok (.iload_n 3, 1) := by decide +kernel
theorem dL_467 : decode code 467 = .ok (.iconst 1, 1) := by decide +kernel
theorem dL_468 : decode code 468 = .ok (.iadd, 1) := by decide +kernel
theorem dL_469 : decode code 469 = .ok (.iaload, 1) := by decide +kernel
theorem dL_470 : decode code 470 = .ok (.aload_n 0, 1) := by decide +kernel
theorem dL_471 : decode code 471 = .ok (.iload_n 3, 1) := by decide +kernel
theorem dL_472 : decode code 472 = .ok (.iconst 2, 1) := by decide +kernel
theorem dL_473 : decode code 473 = .ok (.iadd, 1) := by decide +kernel
theorem dL_474 : decode code 474 = .ok (.iaload, 1) := by decide +kernel
theorem dL_475 : decode code 475 = .ok (.aload_n 0, 1) := by decide +kernel
theorem dL_476 : decode code 476 = .ok (.iload_n 3, 1) := by decide +kernel
theorem dL_477 : decode code 477 = .ok (.iconst 3, 1) := by decide +kernel
theorem dL_478 : decode code 478 = .ok (.iadd, 1) := by decide +kernel
theorem dL_479 : decode code 479 = .ok (.iaload, 1) := by decide +kernel
theorem dL_480 : decode code 480 = .ok (.invokevirtual 48, 3) := by decide +kernel
theorem dL_483 : decode code 483 = .ok (.pop, 1) := by decide +kernel
theorem dL_484 : decode code 484 = .ok (.aload_n 2, 1) := by decide +kernel
theorem dL_485 : decode code 485 = .ok (.aload_n 0, 1) := by decide +kernel
theorem dL_486 : decode code 486 = .ok (.iload_n 3, 1) := by decide +kernel
theorem dL_487 : decode code 487 = .ok (.iconst 1, 1) := by decide +kernel
theorem dL_488 : decode code 488 = .ok (.iadd, 1) := by decide +kernel
theorem dL_489 : decode code 489 = .ok (.iaload, 1) := by decide +kernel
theorem dL_490 : decode code 490 = .ok (.aload_n 0, 1) := by decide +kernel
theorem dL_491 : decode code 491 = .ok (.iload_n 3, 1) := by decide +kernel
theorem dL_492 : decode code 492 = .ok (.iconst 2, 1) := by decide +kernel
theorem dL_493 : decode code 493 = .ok (.iadd, 1) := by decide +kernel
theorem dL_494 : decode code 494 = .ok (.iaload, 1) := by decide +kernel
theorem dL_495 : decode code 495 = .ok (.aload_n 0, 1) := by decide +kernel
theorem dL_496 : decode code 496 = .ok (.iload_n 3, 1) := by decide +kernel
theorem dL_497 : decode code 497 = .ok (.iconst 3, 1) := by decide +kernel
theorem dL_498 : decode code 498 = .ok (.iadd, 1) := by decide +kernel
theorem dL_499 : decode code 499 = .ok (.iaload, 1) := by decide +kernel
theorem dL_500 : decode code 500 = .ok (.invokevirtual 51, 3) := by decide +kernel
theorem dL_503 : decode code 503 = .ok (.pop, 1) := by decide +kernel
theorem dL_504 : decode code 504 = .ok (.goto 920, 3) := by decide +kernel
theorem dL_507 : decode code 507 = .ok (.aload_n 1, 1) := by decide +kernel
theorem dL_508 : decode code 508 = .ok (.aload_n 0, 1) := by decide +kernel
theorem dL_509 : decode code 509 = .ok (.iload_n 3, 1) := by decide +kernel
theorem dL_510 : decode code 510 = .ok (.iconst 1, 1) := by decide +kernel
theorem dL_511 : decode code 511 = .ok (.iadd, 1) := by decide +kernel
theorem dL_512 : decode code 512 = .ok (.iaload, 1) := by decide +kernel
theorem dL_513 : decode code 513 = .ok (.invokevirtual 52, 3) := by decide +kernel
theorem dL_516 : decode code 516 = .ok (.pop, 1) := by decide +kernel
theorem dL_517 : decode code 517 = .ok (.aload_n 2, 1) := by decide +kernel
theorem dL_518 : decode code 518 = .ok (.aload_n 0, 1) := by decide +kernel
theorem dL_519 : decode code 519 = .ok (.iload_n 3, 1) := by decide +kernel
theorem dL_520 : decode code 520 = .ok (.iconst 1, 1) := by decide +kernel
theorem dL_521 : decode code 521 = .ok (.iadd, 1) := by decide +kernel
theorem dL_522 : decode code 522 = .ok (.iaload, 1) := by decide +kernel
theorem dL_523 : decode code 523 = .ok (.invokevirtual 55, 3) := by decide +kernel
theorem dL_526 : decode code 526 = .ok (.pop, 1) := by decide +kernel
theorem dL_527 : decode code 527 = .ok (.goto 897, 3) := by decide +kernel
theorem dL_530 : decode code 530 = .ok (.aload_n 1, 1) := by decide +kernel
theorem dL_531 : decode code 531 = .ok (.aload_n 0, 1) := by decide +kernel
theorem dL_532 : decode code 532 = .ok (.iload_n 3, 1) := by decide +kernel
theorem dL_533 : decode code 533 = .ok (.iconst 1, 1) := by decide +kernel
theorem dL_534 : decode code 534 = .ok (.iadd, 1) := by decide +kernel
theorem dL_535 : decode code 535 = .ok (.iaload, 1) := by decide +kernel
theorem dL_536 : decode code 536 = .ok (.i2l, 1) := by decide +kernel
theorem dL_537 : decode code 537 = .ok (.bipush 32, 2) := by decide +kernel
theorem dL_539 : decode code 539 = .ok (.lshl, 1) := by decide +kernel
theorem dL_540 : decode code 540 = .ok (.aload_n 0, 1) := by decide +kernel
theorem dL_541 : decode code 541 = .ok (.iload_n 3, 1) := by decide +kernel
theorem dL_542 : decode code 542 = .ok (.iconst 2, 1) := by decide +kernel
theorem dL_543 : decode code 543 = .ok (.iadd, 1) := by decide +kernel
theorem dL_544 : decode code 544 = .ok (.iaload, 1) := by decide +kernel
theorem dL_545 : decode code 545 = .ok (.i2l, 1) := by decide +kernel
theorem dL_546 : decode code 546 = .ok (.ldc2_w 56, 3) := by decide +kernel
theorem dL_549 : decode code 549 = .ok (.land, 1) := by decide +kernel
theorem dL_550 : decode code 550 = .ok (.lor, 1) := by decide +kernel
theorem dL_551 : decode code 551 = .ok (.aload_n 0, 1) := by decide +kernel
theorem dL_552 : decode code 552 = .ok (.iload_n 3, 1) := by decide +kernel
theorem dL_553 : decode code 553 = .ok (.iconst 3, 1) := by decide +kernel
theorem dL_554 : decode code 554 = .ok (.iadd, 1) := by decide +kernel
theorem dL_555 : decode code 555 = .ok (.iaload, 1) := by decide +kernel
theorem dL_556 : decode code 556 = .ok (.invokevirtual 58, 3) := by decide +kernel
theorem dL_559 : decode code 559 = .ok (.pop, 1) := by decide +kernel
theorem dL_560 : decode code 560 = .ok (.aload_n 2, 1) := by decide +kernel
theorem dL_561 : decode code 561 = .ok (.aload_n 0, 1) := by decide +kernel
theorem dL_562 : decode code 562 = .ok (.iload_n 3, 1) := by decide +kernel
theorem dL_563 : decode code 563 = .ok (.iconst 1, 1) := by decide +kernel
theorem dL_564 : decode code 564 = .ok (.iadd, 1) := by decide +kernel
theorem dL_565 : decode code 565 = .ok (.iaload, 1) := by decide +kernel
theorem dL_566 : decode code 566 = .ok (.i2l, 1) := by decide +kernel
theorem dL_567 : decode code 567 = .ok (.bipush 32, 2) := by decide +kernel
theorem dL_569 : decode code 569 = .ok (.lshl, 1) := by decide +kernel
theorem dL_570 : decode code 570 = .ok (.aload_n 0, 1) := by decide +kernel
theorem dL_571 : decode code 571 = .ok (.iload_n 3, 1) := by decide +kernel
theorem dL_572 : decode code 572 = .ok (.iconst 2, 1) := by decide +kernel
theorem dL_573 : decode code 573 = .ok (.iadd, 1) := by decide +kernel
theorem dL_574 : decode code 574 = .ok (.iaload, 1) := by decide +kernel
theorem dL_575 : decode code 575 = .ok (.i2l, 1) := by decide +kernel
theorem dL_576 : decode code 576 = .ok (.ldc2_w 56, 3) := by decide +kernel
theorem dL_579 : decode code 579 = .ok (.land, 1) := by decide +kernel
theorem dL_580 : decode code 580 = .ok (.lor, 1) := by decide +kernel
theorem dL_581 : decode code 581 = .ok (.aload_n 0, 1) := by decide +kernel
theorem dL_582 : decode code 582 = .ok (.iload_n 3, 1) := by decide +kernel
theorem dL_583 : decode code 583 = .ok (.iconst 3, 1) := by decide +kernel
theorem dL_584 : decode code 584 = .ok (.iadd, 1) := by decide +kernel
theorem dL_585 : decode code 585 = .ok (.iaload, 1) := by decide +kernel
theorem dL_586 : decode code 586 = .ok (.invokevirtual 62, 3) := by decide +kernel
theorem dL_589 : decode code 589 = .ok (.pop, 1) := by decide +kernel
theorem dL_590 : decode code 590 = .ok (.goto 834, 3) := by decide +kernel
theorem dL_593 : decode code 593 = .ok (.aload_n 1, 1) := by decide +kernel
theorem dL_594 : decode code 594 = .ok (.aload_n 0, 1) := by decide +kernel
theorem dL_595 : decode code 595 = .ok (.iload_n 3, 1) := by decide +kernel
theorem dL_596 : decode code 596 = .ok (.iconst 1, 1) := by decide +kernel
theorem dL_597 : decode code 597 = .ok (.iadd, 1) := by decide +kernel
theorem dL_598 : decode code 598 = .ok (.iaload, 1) := by decide +kernel
theorem dL_599 : decode code 599 = .ok (.invokevirtual 63, 3) := by decide +kernel
theorem dL_602 : decode code 602 = .ok (.pop, 1) := by decide +kernel
theorem dL_603 : decode code 603 = .ok (.aload_n 2, 1) := by decide +kernel
theorem dL_604 : decode code 604 = .ok (.aload_n 0, 1) := by decide +kernel
theorem dL_605 : decode code 605 = .ok (.iload_n 3, 1) := by decide +kernel
theorem dL_606 : decode code 606 = .ok (.iconst 1, 1) := by decide +kernel
theorem dL_607 : decode code 607 = .ok (.iadd, 1) := by decide +kernel
theorem dL_608 : decode code 608 = .ok (.iaload, 1) := by decide +kernel
theorem dL_609 : decode code 609 = .ok (.invokevirtual 66, 3) := by decide +kernel
theorem dL_612 : decode code 612 = .ok (.pop, 1) := by decide +kernel
theorem dL_613 : decode code 613 = .ok (.goto 811, 3) := by decide +kernel
theorem dL_616 : decode code 616 = .ok (.aload_n 1, 1) := by decide +kernel
theorem dL_617 : decode code 617 = .ok (.aload_n 0, 1) := by decide +kernel
theorem dL_618 : decode code 618 = .ok (.iload_n 3, 1) := by decide +kernel
theorem dL_619 : decode code 619 = .ok (.iconst 1, 1) := by decide +kernel
theorem dL_620 : decode code 620 = .ok (.iadd, 1) := by decide +kernel
theorem dL_621 : decode code 621 = .ok (.iaload, 1) := by decide +kernel
theorem dL_622 : decode code 622 = .ok (.invokevirtual 67, 3) := by decide +kernel
theorem dL_625 : decode code 625 = .ok (.pop, 1) := by decide +kernel
theorem dL_626 : decode code 626 = .ok (.aload_n 2, 1) := by decide +kernel
theorem dL_627 : decode code 627 = .ok (.aload_n 0, 1) := by decide +kernel
theorem dL_628 : decode code 628 = .ok (.iload_n 3, 1) := by decide +kernel
theorem dL_629 : decode code 629 = .ok (.iconst 1, 1) := by decide +kernel
theorem dL_630 : decode code 630 = .ok (.iadd, 1) := by decide +kernel
theorem dL_631 : decode code 631 = .ok (.iaload, 1) := by decide +kernel
theorem dL_632 : decode code 632 = .ok (.invokevirtual 70, 3) := by decide +kernel
theorem dL_635 : decode code 635 = .ok (.pop, 1) := by decide +kernel
theorem dL_636 : decode code 636 = .ok (.goto 788, 3) := by decide +kernel
theorem dL_639 : decode code 639 = .ok (.aload_n 1, 1) := by decide +kernel
theorem dL_640 : decode code 640 = .ok (.aload_n 0, 1) := by decide +kernel
theorem dL_641 : decode code 641 = .ok (.iload_n 3, 1) := by decide +kernel
theorem dL_642 : decode code 642 = .ok (.iconst 1, 1) := by decide +kernel
theorem dL_643 : decode code 643 = .ok (.iadd, 1) := by decide +kernel
theorem dL_644 : decode code 644 = .ok (.iaload, 1) := by decide +kernel
theorem dL_645 : decode code 645 = .ok (.aload_n 0, 1) := by decide +kernel
theorem dL_646 : decode code 646 = .ok (.iload_n 3, 1) := by decide +kernel
theorem dL_647 : decode code 647 = .ok (.iconst 2, 1) := by decide +kernel
theorem dL_648 : decode code 648 = .ok (.iadd, 1) := by decide +kernel
theorem dL_649 : decode code 649 = .ok (.iaload, 1) := by decide +kernel
theorem dL_650 : decode code 650 = .ok (.invokevirtual 71, 3) := by decide +kernel
theorem dL_653 : decode code 653 = .ok (.pop, 1) := by decide +kernel
theorem dL_654 : decode code 654 = .ok (.aload_n 2, 1) := by decide +kernel
theorem dL_655 : decode code 655 = .ok (.aload_n 0, 1) := by decide +kernel
theorem dL_656 : decode code 656 = .ok (.iload_n 3, 1) := by decide +kernel
theorem dL_657 : decode code 657 = .ok (.iconst 1, 1) := by decide +kernel
theorem dL_658 : decode code 658 = .ok (.iadd, 1) := by decide +kernel
theorem dL_659 : decode code 659 = .ok (.iaload, 1) := by decide +kernel
theorem dL_660 : decode code 660 = .ok (.aload_n 0, 1) := by decide +kernel
theorem dL_661 : decode code 661 = .ok (.iload_n 3, 1) := by decide +kernel
theorem dL_662 : decode code 662 = .ok (.iconst 2, 1) := by decide +kernel
theorem dL_663 : decode code 663 = .ok (.iadd, 1) := by decide +kernel
theorem dL_664 : decode code 664 = .ok (.iaload, 1) := by decide +kernel
theorem dL_665 : decode code 665 = .ok (.invokevirtual 74, 3) := by decide +kernel
theorem dL_668 : decode code 668 = .ok (.pop, 1) := by decide +kernel
theorem dL_669 : decode code 669 = .ok (.goto 755, 3) := by decide +kernel
theorem dL_672 : decode code 672 = .ok (.aload_n 1, 1) := by decide +kernel
theorem dL_673 : decode code 673 = .ok (.aload_n 0, 1) := by decide +kernel
theorem dL_674 : decode code 674 = .ok (.iload_n 3, 1) := by decide +kernel
theorem dL_675 : decode code 675 = .ok (.iconst 1, 1) := by decide +kernel
theorem dL_676 : decode code 676 = .ok (.iadd, 1) := by decide +kernel
theorem dL_677 : decode code 677 = .ok (.iaload, 1) := by decide +kernel
theorem dL_678 : decode code 678 = .ok (.aload_n 0, 1) := by decide +kernel
theorem dL_679 : decode code 679 = .ok (.iload_n 3, 1) := by decide +kernel
theorem dL_680 : decode code 680 = .ok (.iconst 2, 1) := by decide +kernel
theorem dL_681 : decode code 681 = .ok (.iadd, 1) := by decide +kernel
theorem dL_682 : decode code 682 = .ok (.iaload, 1) := by decide +kernel
theorem dL_683 : decode code 683 = .ok (.invokevirtual 75, 3) := by decide +kernel
theorem dL_686 : decode code 686 = .ok (.pop, 1) := by decide +kernel
theorem dL_687 : decode code 687 = .ok (.aload_n 2, 1) := by decide +kernel
theorem dL_688 : decode code 688 = .ok (.aload_n 0, 1) := by decide +kernel
theorem dL_689 : decode code 689 = .ok (.iload_n 3, 1) := by decide +kernel
theorem dL_690 : decode code 690 = .ok (.iconst 1, 1) := by decide +kernel
theorem dL_691 : decode code 691 = .ok (.iadd, 1) := by decide +kernel
theorem dL_692 : decode code 692 = .ok (.iaload, 1) := by decide +kernel
theorem dL_693 : decode code 693 = .ok (.aload_n 0, 1) := by decide +kernel
theorem dL_694 : decode code 694 = .ok (.iload_n 3, 1) := by decide +kernel
theorem dL_695 : decode code 695 = .ok (.iconst 2, 1) := by decide +kernel
theorem dL_696 : decode code 696 = .ok (.iadd, 1) := by decide +kernel
theorem dL_697 : decode code 697 = .ok (.iaload, 1) := by decide +kernel
theorem dL_698 : decode code 698 = .ok (.invokevirtual 78, 3) := by decide +kernel
theorem dL_701 : decode code 701 = .ok (.pop, 1) := by decide +kernel
theorem dL_702 : decode code 702 = .ok (.goto 722, 3) := by decide +kernel
theorem dL_705 : decode code 705 = .ok (.aload_n 1, 1) := by decide +kernel
theorem dL_706 : decode code 706 = .ok (.aload_n 0, 1) := by decide +kernel
theorem dL_707 : decode code 707 = .ok (.iload_n 3, 1) := by decide +kernel
theorem dL_708 : decode code 708 = .ok (.iconst 1, 1) := by decide +kernel
theorem dL_709 : decode code 709 = .ok (.iadd, 1) := by decide +kernel
theorem dL_710 : decode code 710 = .ok (.iaload, 1) := by decide +kernel
theorem dL_711 : decode code 711 = .ok (.aload_n 0, 1) := by decide +kernel
theorem dL_712 : decode code 712 = .ok (.iload_n 3, 1) := by decide +kernel
theorem dL_713 : decode code 713 = .ok (.iconst 2, 1) := by decide +kernel
theorem dL_714 : decode code 714 = .ok (.iadd, 1) := by decide +kernel
theorem dL_715 : decode code 715 = .ok (.iaload, 1) := by decide +kernel
theorem dL_716 : decode code 716 = .ok (.invokevirtual 79, 3) := by decide +kernel
theorem dL_719 : decode code 719 = .ok (.pop, 1) := by decide +kernel
theorem dL_720 : decode code 720 = .ok (.aload_n 2, 1) := by decide +kernel
theorem dL_721 : decode code 721 = .ok (.aload_n 0, 1) := by decide +kernel
theorem dL_722 : decode code 722 = .ok (.iload_n 3, 1) := by decide +kernel
theorem dL_723 : decode code 723 = .ok (.iconst 1, 1) := by decide +kernel
theorem dL_724 : decode code 724 = .ok (.iadd, 1) := by decide +kernel
theorem dL_725 : decode code 725 = .ok (.iaload, 1) := by decide +kernel
theorem dL_726 : decode code 726 = .ok (.aload_n 0, 1) := by decide +kernel
theorem dL_727 : decode code 727 = .ok (.iload_n 3, 1) := by decide +kernel
theorem dL_728 : decode code 728 = .ok (.iconst 2, 1) := by decide +kernel
theorem dL_729 : decode code 729 = .ok (.iadd, 1) := by decide +kernel
theorem dL_730 : decode code 730 = .ok (.iaload, 1) := by decide +kernel
theorem dL_731 : decode code 731 = .ok (.invokevirtual 82, 3) := by decide +kernel
theorem dL_734 : decode code 734 = .ok (.pop, 1) := by decide +kernel
theorem dL_735 : decode code 735 = .ok (.goto 689, 3) := by decide +kernel
theorem dL_738 : decode code 738 = .ok (.aload_n 1, 1) := by decide +kernel
theorem dL_739 : decode code 739 = .ok (.aload_n 0, 1) := by decide +kernel
theorem dL_740 : decode code 740 = .ok (.iload_n 3, 1) := by decide +kernel
theorem dL_741 : decode code 741 = .ok (.iconst 1, 1) := by decide +kernel
theorem dL_742 : decode code 742 = .ok (.iadd, 1) := by decide +kernel
theorem dL_743 : decode code 743 = .ok (.iaload, 1) := by decide +kernel
theorem dL_744 : decode code 744 = .ok (.aload_n 0, 1) := by decide +kernel
theorem dL_745 : decode code 745 = .ok (.iload_n 3, 1) := by decide +kernel
theorem dL_746 : decode code 746 = .ok (.iconst 2, 1) := by decide +kernel
theorem dL_747 : decode code 747 = .ok (.iadd, 1) := by decide +kernel
theorem dL_748 : decode code 748 = .ok (.iaload, 1) := by decide +kernel
theorem dL_749 : decode code 749 = .ok (.invokevirtual 83, 3) := by decide +kernel
theorem dL_752 : decode code 752 = .ok (.pop, 1) := by decide +kernel
theorem dL_753 : decode code 753 = .ok (.aload_n 2, 1) := by decide +kernel
theorem dL_754 : decode code 754 = .ok (.aload_n 0, 1) := by decide +kernel
theorem dL_755 : decode code 755 = .ok (.iload_n 3, 1) := by decide +kernel
theorem dL_756 : decode code 756 = .ok (.iconst 1, 1) := by decide +kernel
theorem dL_757 : decode code 757 = .ok (.iadd, 1) := by decide +kernel
theorem dL_758 : decode code 758 = .ok (.iaload, 1) := by decide +kernel
theorem dL_759 : decode code 759 = .ok (.aload_n 0, 1) := by decide +kernel
theorem dL_760 : decode code 760 = .ok (.iload_n 3, 1) := by decide +kernel
theorem dL_761 : decode code 761 = .ok (.iconst 2, 1) := by decide +kernel
theorem dL_762 : decode code 762 = .ok (.iadd, 1) := by decide +kernel
theorem dL_763 : decode code 763 = .ok (.iaload, 1) := by decide +kernel
theorem dL_764 : decode code 764 = .ok (.invokevirtual 86, 3) := by decide +kernel
theorem dL_767 : decode code 767 = .ok (.pop, 1) := by decide +kernel
theorem dL_768 : decode code 768 = .ok (.goto 656, 3) := by decide +kernel
theorem dL_771 : decode code 771 = .ok (.aload_n 1, 1) := by decide +kernel
theorem dL_772 : decode code 772 = .ok (.aload_n 0, 1) := by decide +kernel
theorem dL_773 : decode code 773 = .ok (.iload_n 3, 1) := by decide +kernel
theorem dL_774 : decode code 774 = .ok (.iconst 1, 1) := by decide +kernel
theorem dL_775 : decode code 775 = .ok (.iadd, 1) := by decide +kernel
theorem dL_776 : decode code 776 = .ok (.iaload, 1) := by decide +kernel
theorem dL_777 : decode code 777 = .ok (.aload_n 0, 1) := by decide +kernel
theorem dL_778 : decode code 778 = .ok (.iload_n 3, 1) := by decide +kernel
theorem dL_779 : decode code 779 = .ok (.iconst 2, 1) := by decide +kernel
theorem dL_780 : decode code 780 = .ok (.iadd, 1) := by decide +kernel
theorem dL_781 : decode code 781 = .ok (.iaload, 1) := by decide +kernel
theorem dL_782 : decode code 782 = .ok (.aload_n 0, 1) := by decide +kernel
theorem dL_783 : decode code 783 = .ok (.iload_n 3, 1) := by decide +kernel
theorem dL_784 : decode code 784 = .ok (.iconst 3, 1) := by decide +kernel
theorem dL_785 : decode code 785 = .ok (.iadd, 1) := by decide +kernel
theorem dL_786 : decode code 786 = .ok (.iaload, 1) := by decide +kernel
theorem dL_787 : decode code 787 = .ok (.invokevirtual 87, 3) := by decide +kernel
theorem dL_790 : decode code 790 = .ok (.pop, 1) := by decide +kernel
theorem dL_791 : decode code 791 = .ok (.aload_n 2, 1) := by decide +kernel
theorem dL_792 : decode code 792 = .ok (.aload_n 0, 1) := by decide +kernel
theorem dL_793 : decode code 793 = .ok (.iload_n 3, 1) := by decide +kernel
theorem dL_794 : decode code 794 = .ok (.iconst 1, 1) := by decide +kernel
theorem dL_795 : decode code 795 = .ok (.iadd, 1) := by decide +kernel
theorem dL_796 : decode code 796 = .ok (.iaload, 1) := by decide +kernel
theorem dL_797 : decode code 797 = .ok (.aload_n 0, 1) := by decide +kernel
theorem dL_798 : decode code 798 = .ok (.iload_n 3, 1) := by decide +kernel
theorem dL_799 : decode code 799 = .ok (.iconst 2, 1) := by decide +kernel
theorem dL_800 : decode code 800 = .ok (.iadd, 1) := by decide +kernel
theorem dL_801 : decode code 801 = .ok (.iaload, 1) := by decide +kernel
theorem dL_802 : decode code 802 = .ok (.aload_n 0, 1) := by decide +kernel
theorem dL_803 : decode code 803 = .ok (.iload_n 3, 1) := by decide +kernel
theorem dL_804 : decode code 804 = .ok (.iconst 3, 1) := by decide +kernel
theorem dL_805 : decode code 805 = .ok (.iadd, 1) := by decide +kernel
theorem dL_806 : decode code 806 = .ok (.iaload, 1) := by decide +kernel
theorem dL_807 : decode code 807 = .ok (.invokevirtual 90, 3) := by decide +kernel
theorem dL_810 : decode code 810 = .ok (.pop, 1) := by decide +kernel
theorem dL_811 : decode code 811 = .ok (.goto 613, 3) := by decide +kernel
theorem dL_814 : decode code 814 = .ok (.aload_n 1, 1) := by decide +kernel
theorem dL_815 : decode code 815 = .ok (.aload_n 0, 1) := by decide +kernel
theorem dL_816 : decode code 816 = .ok (.iload_n 3, 1) := by decide +kernel
theorem dL_817 : decode code 817 = .ok (.iconst 1, 1) := by decide +kernel
theorem dL_818 : decode code 818 = .ok (.iadd, 1) := by decide +kernel
theorem dL_819 : decode code 819 = .ok (.iaload, 1) := by decide +kernel
theorem dL_820 : decode code 820 = .ok (.aload_n 0, 1) := by decide +kernel
theorem dL_821 : decode code 821 = .ok (.iload_n 3, 1) := by decide +kernel
theorem dL_822 : decode code 822 = .ok (.iconst 2, 1) := by decide +kernel
theorem dL_823 : decode code 823 = .ok (.iadd, 1) := by decide +kernel
theorem dL_824 : decode code 824 = .ok (.iaload, 1) := by decide +kernel
theorem dL_825 : decode code 825 = .ok (.aload_n 0, 1) := by decide +kernel
theorem dL_826 : decode code 826 = .ok (.iload_n 3, 1) := by decide +kernel
theorem dL_827 : decode code 827 = .ok (.iconst 3, 1) := by decide +kernel
theorem dL_828 : decode code 828 = .ok (.iadd, 1) := by decide +kernel
theorem dL_829 : decode code 829 = .ok (.iaload, 1) := by decide +kernel
theorem dL_830 : decode code 830 = .ok (.invokevirtual 91, 3) := by decide +kernel
theorem dL_833 : decode code 833 = .ok (.pop, 1) := by decide +kernel
theorem dL_834 : decode code 834 = .ok (.aload_n 2, 1) := by decide +kernel
theorem dL_835 : decode code 835 = .ok (.aload_n 0, 1) := by decide +kernel
theorem dL_836 : decode code 836 = .ok (.iload_n 3, 1) := by decide +kernel
theorem dL_837 : decode code 837 = .ok (.iconst 1, 1) := by decide +kernel
theorem dL_838 : decode code 838 = .ok (.iadd, 1) := by decide +kernel
theorem dL_839 : decode code 839 = .ok (.iaload, 1) := by decide +kernel
theorem dL_840 : decode code 840 = .ok (.aload_n 0, 1) := by decide +kernel
theorem dL_841 : decode code 841 = .ok (.iload_n 3, 1) := by decide +kernel
theorem dL_842 : decode code 842 = .ok (.iconst 2, 1) := by decide +kernel
theorem dL_843 : decode code 843 = .ok (.iadd, 1) := by decide +kernel
theorem dL_844 : decode code 844 = .ok (.iaload, 1) := by decide +kernel
theorem dL_845 : decode code 845 = .ok (.aload_n 0, 1) := by decide +kernel
theorem dL_846 : decode code 846 = .ok (.iload_n 3, 1) := by decide +kernel
theorem dL_847 : decode code 847 = .ok (.iconst 3, 1) := by decide +kernel
theorem dL_848 : decode code 848 = .ok (.iadd, 1) := by decide +kernel
theorem dL_849 : decode code 849 = .ok (.iaload, 1) := by decide +kernel
theorem dL_850 : decode code 850 = .ok (.invokevirtual 94, 3) := by decide +kernel
theorem dL_853 : decode code 853 = .ok (.pop, 1) := by decide +kernel
theorem dL_854 : decode code 854 = .ok (.goto 570, 3) := by decide +kernel
theorem dL_857 : decode code 857 = .ok (.aload_n 1, 1) := by decide +kernel
theorem dL_858 : decode code 858 = .ok (.aload_n 0, 1) := by decide +kernel
theorem dL_859 : decode code 859 = .ok (.iload_n 3, 1) := by decide +kernel
theorem dL_860 : decode code 860 = .ok (.iconst 1, 1) := by decide +kernel
theorem dL_861 : decode code 861 = .ok (.iadd, 1) := by decide +kernel
theorem dL_862 : decode code 862 = .ok (.iaload, 1) := by decide +kernel
theorem dL_863 : decode code 863 = .ok (.invokevirtual 95, 3) := by decide +kernel
theorem dL_866 : decode code 866 = .ok (.pop, 1) := by decide +kernel
theorem dL_867 : decode code 867 = .ok (.aload_n 2, 1) := by decide +kernel
theorem dL_868 : decode code 868 = .ok (.aload_n 0, 1) := by decide +kernel
theorem dL_869 : decode code 869 = .ok (.iload_n 3, 1) := by decide +kernel
theorem dL_870 : decode code 870 = .ok (.iconst 1, 1) := by decide +kernel
theorem dL_871 : decode code 871 = .ok (.iadd, 1) := by decide +kernel
theorem dL_872 : decode code 872 = .ok (.iaload, 1) := by decide +kernel
theorem dL_873 : decode code 873 = .ok (.invokevirtual 98, 3) := by decide +kernel
theorem dL_876 : decode code 876 = .ok (.pop, 1) := by decide +kernel
theorem dL_877 : decode code 877 = .ok (.goto 547, 3) := by decide +kernel
theorem dL_880 : decode code 880 = .ok (.aload_n 1, 1) := by decide +kernel
theorem dL_881 : decode code 881 = .ok (.aload_n 0, 1) := by decide +kernel
theorem dL_882 : decode code 882 = .ok (.iload_n 3, 1) := by decide +kernel
theorem dL_883 : decode code 883 = .ok (.iconst 1, 1) := by decide +kernel
theorem dL_884 : decode code 884 = .ok (.iadd, 1) := by decide +kernel
theorem dL_885 : decode code 885 = .ok (.iaload, 1) := by decide +kernel
theorem dL_886 : decode code 886 = .ok (.aload_n 0, 1) := by decide +kernel
theorem dL_887 : decode code 887 = .ok (.iload_n 3, 1) := by decide +kernel
theorem dL_888 : decode code 888 = .ok (.iconst 2, 1) := by decide +kernel
theorem dL_889 : decode code 889 = .ok (.iadd, 1) := by decide +kernel
theorem dL_890 : decode code 890 = .ok (.iaload, 1) := by decide +kernel
theorem dL_891 : decode code 891 = .ok (.aload_n 0, 1) := by decide +kernel
theorem dL_892 : decode code 892 = .ok (.iload_n 3, 1) := by decide +kernel
theorem dL_893 : decode code 893 = .ok (.iconst 3, 1) := by decide +kernel
theorem dL_894 : decode code 894 = .ok (.iadd, 1) := by decide +kernel
theorem dL_895 : decode code 895 = .ok (.iaload, 1) := by decide +kernel
theorem dL_896 : decode code 896 = .ok (.invokevirtual 99, 3) := by decide +kernel
theorem dL_899 : decode code 899 = .ok (.pop, 1) := by decide +kernel
theorem dL_900 : decode code 900 = .ok (.aload_n 2, 1) := by decide +kernel
theorem dL_901 : decode code 901 = .ok (.aload_n 0, 1) := by decide +kernel
theorem dL_902 : decode code 902 = .ok (.iload_n 3, 1) := by decide +kernel
theorem dL_903 : decode code 903 = .ok (.iconst 1, 1) := by decide +kernel
theorem dL_904 : decode code 904 = .ok (.iadd, 1) := by decide +kernel
theorem dL_905 : decode code 905 = .ok (.iaload, 1) := by decide +kernel
theorem dL_906 : decode code 906 = .ok (.aload_n 0, 1) := by decide +kernel
theorem dL_907 : decode code 907 = .ok (.iload_n 3, 1) := by decide +kernel
theorem dL_908 : decode code 908 = .ok (.iconst 2, 1) := by decide +kernel
theorem dL_909 : decode code 909 = .ok (.iadd, 1) := by decide +kernel
theorem dL_910 : decode code 910 = .ok (.iaload, 1) := by decide +kernel
theorem dL_911 : decode code 911 = .ok (.aload_n 0, 1) := by decide +kernel
theorem dL_912 : decode code 912 = .ok (.iload_n 3, 1) := by decide +kernel
theorem dL_913 : decode code 913 = .ok (.iconst 3, 1) := by decide +kernel
theorem dL_914 : decode code 914 = .ok (.iadd, 1) := by decide +kernel
theorem dL_915 : decode code 915 = .ok (.iaload, 1) := by decide +kernel
theorem dL_916 : decode code 916 = .ok (.invokevirtual 102, 3) := by decide +kernel
theorem dL_919 : decode code 919 = .ok (.pop, 1) := by decide +kernel
theorem dL_920 : decode code 920 = .ok (.goto 504, 3) := by decide +kernel
theorem dL_923 : decode code 923 = .ok (.aload_n 1, 1) := by decide +kernel
theorem dL_924 : decode code 924 = .ok (.aload_n 0, 1) := by decide +kernel
theorem dL_925 : decode code 925 = .ok (.iload_n 3, 1) := by decide +kernel
theorem dL_926 : decode code 926 = .ok (.iconst 1, 1) := by decide +kernel
theorem dL_927 : decode code 927 = .ok (.iadd, 1) := by decide +kernel
theorem dL_928 : decode code 928 = .ok (.iaload, 1) := by decide +kernel
theorem dL_929 : decode code 929 = .ok (.invokevirtual 103, 3) := by decide +kernel
theorem dL_932 : decode code 932 = .ok (.pop, 1) := by decide +kernel
theorem dL_933 : decode code 933 = .ok (.aload_n 2, 1) := by decide +kernel
theorem dL_934 : decode code 934 = .ok (.aload_n 0, 1) := by decide +kernel
theorem dL_935 : decode code 935 = .ok (.iload_n 3, 1) := by decide +kernel
theorem dL_936 : decode code 936 = .ok (.iconst 1, 1) := by decide +kernel
theorem dL_937 : decode code 937 = .ok (.iadd, 1) := by decide +kernel
theorem dL_938 : decode code 938 = .ok (.iaload, 1) := by decide +kernel
theorem dL_939 : decode code 939 = .ok (.invokevirtual 106, 3) := by decide +kernel
theorem dL_942 : decode code 942 = .ok (.pop, 1) := by decide +kernel
theorem dL_943 : decode code 943 = .ok (.goto 481, 3) := by decide +kernel
theorem dL_946 : decode code 946 = .ok (.aload_n 1, 1) := by decide +kernel
theorem dL_947 : decode code 947 = .ok (.aload_n 0, 1) := by decide +kernel
theorem dL_948 : decode code 948 = .ok (.iload_n 3, 1) := by decide +kernel
theorem dL_949 : decode code 949 = .ok (.iconst 1, 1) := by decide +kernel
theorem dL_950 : decode code 950 = .ok (.iadd, 1) := by decide +kernel
theorem dL_951 : decode code 951 = .ok (.iaload, 1) := by decide +kernel
theorem dL_952 : decode code 952 = .ok (.aload_n 0, 1) := by decide +kernel
theorem dL_953 : decode code 953 = .ok (.iload_n 3, 1) := by decide +kernel
theorem dL_954 : decode code 954 = .ok (.iconst 2, 1) := by decide +kernel
theorem dL_955 : decode code 955 = .ok (.iadd, 1) := by decide +kernel
theorem dL_956 : decode code 956 = .ok (.iaload, 1) := by decide +kernel
theorem dL_957 : decode code 957 = .ok (.aload_n 0, 1) := by decide +kernel
theorem dL_958 : decode code 958 = .ok (.iload_n 3, 1) := by decide +kernel
theorem dL_959 : decode code 959 = .ok (.iconst 3, 1) := by decide +kernel
theorem dL_960 : decode code 960 = .ok (.iadd, 1) := by decide +kernel
theorem dL_961 : decode code 961 = .ok (.iaload, 1) := by decide +kernel
theorem dL_962 : decode code 962 = .ok (.invokevirtual 107, 3) := by decide +kernel
theorem dL_965 : decode code 965 = .ok (.pop, 1) := by decide +kernel
theorem dL_966 : decode code 966 = .ok (.aload_n 2, 1) := by decide +kernel
theorem dL_967 : decode code 967 = .ok (.aload_n 0, 1) := by decide +kernel
theorem dL_968 : decode code 968 = .ok (.iload_n 3, 1) := by decide +kernel
theorem dL_969 : decode code 969 = .ok (.iconst 1, 1) := by decide +kernel
theorem dL_970 : decode code 970 = .ok (.iadd, 1) := by decide +kernel
theorem dL_971 : decode code 971 = .ok (.iaload, 1) := by decide +kernel
theorem dL_972 : decode code 972 = .ok (.aload_n 0, 1) := by decide +kernel
theorem dL_973 : decode code 973 = .ok (.iload_n 3, 1) := by decide +kernel
theorem dL_974 : decode code 974 = .ok (.iconst 2, 1) := by decide +kernel
theorem dL_975 : decode code 975 = .ok (.iadd, 1) := by decide +kernel
theorem dL_976 : decode code 976 = .ok (.iaload, 1) := by decide +kernel
theorem dL_977 : decode code 977 = .ok (.aload_n 0, 1) := by decide +kernel
theorem dL_978 : decode code 978 = .ok (.iload_n 3, 1) := by decide +kernel
theorem dL_979 : decode code 979 = .ok (.iconst 3, 1) := by decide +kernel
theorem dL_980 : decode code 980 = .ok (.iadd, 1) := by decide +kernel
theorem dL_981 : decode code 981 = .ok (.iaload, 1) := by decide +kernel
theorem dL_982 : decode code 982 = .ok (.invokevirtual 110, 3) := by decide +kernel
theorem dL_985 : decode code 985 = .ok (.pop, 1) := by decide +kernel
theorem dL_986 : decode code 986 = .ok (.goto 438, 3) := by decide +kernel
theorem dL_989 : decode code 989 = .ok (.aload_n 1, 1) := by decide +kernel
theorem dL_990 : decode code 990 = .ok (.invokevirtual 111, 3) := by decide +kernel
theorem dL_993 : decode code 993 = .ok (.pop, 1) := by decide +kernel
theorem dL_994 : decode code 994 = .ok (.aload_n 2, 1) := by decide +kernel
theorem dL_995 : decode code 995 = .ok (.invokevirtual 115, 3) := by decide +kernel
theorem dL_998 : decode code 998 = .ok (.pop, 1) := by decide +kernel
theorem dL_999 : decode code 999 = .ok (.goto 425, 3) := by decide +kernel
theorem dL_1002 : decode code 1002 = .ok (.aload_n 1, 1) := by decide +kernel
theorem dL_1003 : decode code 1003 = .ok (.aload_n 0, 1) := by decide +kernel
theorem dL_1004 : decode code 1004 = .ok (.iload_n 3, 1) := by decide +kernel
theorem dL_1005 : decode code 1005 = .ok (.iconst 1, 1) := by decide +kernel
theorem dL_1006 : decode code 1006 = .ok (.iadd, 1) := by decide +kernel
theorem dL_1007 : decode code 1007 = .ok (.iaload, 1) := by decide +kernel
theorem dL_1008 : decode code 1008 = .ok (.aload_n 0, 1) := by decide +kernel
theorem dL_1009 : decode code 1009 = .ok (.iload_n 3, 1) := by decide +kernel
theorem dL_1010 : decode code 1010 = .ok (.iconst 2, 1) := by decide +kernel
theorem dL_1011 : decode code 1011 = .ok (.iadd, 1) := by decide +kernel
theorem dL_1012 : decode code 1012 = .ok (.iaload, 1) := by decide +kernel
theorem dL_1013 : decode code 1013 = .ok (.aload_n 0, 1) := by decide +kernel
theorem dL_1014 : decode code 1014 = .ok (.iload_n 3, 1) := by decide +kernel
theorem dL_1015 : decode code 1015 = .ok (.iconst 3, 1) := by decide +kernel
theorem dL_1016 : decode code 1016 = .ok (.iadd, 1) := by decide +kernel
theorem dL_1017 : decode code 1017 = .ok (.iaload, 1) := by decide +kernel
theorem dL_1018 : decode code 1018 = .ok (.invokevirtual 116, 3) := by decide +kernel
theorem dL_1021 : decode code 1021 = .ok (.pop, 1) := by decide +kernel
theorem dL_1022 : decode code 1022 = .ok (.aload_n 2, 1) := by decide +kernel
theorem dL_1023 : decode code 1023 = .ok (.aload_n 0, 1) := by decide +kernel
theorem dL_1024 : decode code 1024 = .ok (.iload_n 3, 1) := by decide +kernel
theorem dL_1025 : decode code 1025 = .ok (.iconst 1, 1) := by decide +kernel
theorem dL_1026 : decode code 1026 = .ok (.iadd, 1) := by decide +kernel
theorem dL_1027 : decode code 1027 = .ok (.iaload, 1) := by decide +kernel
theorem dL_1028 : decode code 1028 = .ok (.aload_n 0, 1) := by decide +kernel
theorem dL_1029 : decode code 1029 = .ok (.iload_n 3, 1) := by decide +kernel
theorem dL_1030 : decode code 1030 = .ok (.iconst 2, 1) := by decide +kernel
theorem dL_1031 : decode code 1031 = .ok (.iadd, 1) := by decide +kernel
theorem dL_1032 : decode code 1032 = .ok (.iaload, 1) := by decide +kernel
theorem dL_1033 : decode code 1033 = .ok (.aload_n 0, 1) := by decide +kernel
theorem dL_1034 : decode code 1034 = .ok (.iload_n 3, 1) := by decide +kernel
theorem dL_1035 : decode code 1035 = .ok (.iconst 3, 1) := by decide +kernel
theorem dL_1036 : decode code 1036 = .ok (.iadd, 1) := by decide +kernel
theorem dL_1037 : decode code 1037 = .ok (.iaload, 1) := by decide +kernel
theorem dL_1038 : decode code 1038 = .ok (.invokevirtual 119, 3) := by decide +kernel
theorem dL_1041 : decode code 1041 = .ok (.pop, 1) := by decide +kernel
theorem dL_1042 : decode code 1042 = .ok (.goto 382, 3) := by decide +kernel
theorem dL_1045 : decode code 1045 = .ok (.aload_n 1, 1) := by decide +kernel
theorem dL_1046 : decode code 1046 = .ok (.aload_n 0, 1) := by decide +kernel
theorem dL_1047 : decode code 1047 = .ok (.iload_n 3, 1) := by decide +kernel
theorem dL_1048 : decode code 1048 = .ok (.iconst 1, 1) := by decide +kernel
theorem dL_1049 : decode code 1049 = .ok (.iadd, 1) := by decide +kernel
theorem dL_1050 : decode code 1050 = .ok (.iaload, 1) := by decide +kernel
theorem dL_1051 : decode code 1051 = .ok (.aload_n 0, 1) := by decide +kernel
theorem dL_1052 : decode code 1052 = .ok (.iload_n 3, 1) := by decide +kernel
theorem dL_1053 : decode code 1053 = .ok (.iconst 2, 1) := by decide +kernel
theorem dL_1054 : decode code 1054 = .ok (.iadd, 1) := by decide +kernel
theorem dL_1055 : decode code 1055 = .ok (.iaload, 1) := by decide +kernel
theorem dL_1056 : decode code 1056 = .ok (.aload_n 0, 1) := by decide +kernel
theorem dL_1057 : decode code 1057 = .ok (.iload_n 3, 1) := by decide +kernel
theorem dL_1058 : decode code 1058 = .ok (.iconst 3, 1) := by decide +kernel
theorem dL_1059 : decode code 1059 = .ok (.iadd, 1) := by decide +kernel
theorem dL_1060 : decode code 1060 = .ok (.iaload, 1) := by decide +kernel
theorem dL_1061 : decode code 1061 = .ok (.invokevirtual 120, 3) := by decide +kernel
theorem dL_1064 : decode code 1064 = .ok (.pop, 1) := by decide +kernel
theorem dL_1065 : decode code 1065 = .ok (.aload_n 2, 1) := by decide +kernel
theorem dL_1066 : decode code 1066 = .ok (.aload_n 0, 1) := by decide +kernel
theorem dL_1067 : decode code 1067 = .ok (.iload_n 3, 1) := by decide +kernel
theorem dL_1068 : decode code 1068 = .ok (.iconst 1, 1) := by decide +kernel
theorem dL_1069 : decode code 1069 = .ok (.iadd, 1) := by decide +kernel
theorem dL_1070 : decode code 1070 = .ok (.iaload, 1) := by decide +kernel
theorem dL_1071 : decode code 1071 = .ok (.aload_n 0, 1) := by decide +kernel
theorem dL_1072 : decode code 1072 = .ok (.iload_n 3, 1) := by decide +kernel
theorem dL_1073 : decode code 1073 = .ok (.iconst 2, 1) := by decide +kernel
theorem dL_1074 : decode code 1074 = .ok (.iadd, 1) := by decide +kernel
theorem dL_1075 : decode code 1075 = .ok (.iaload, 1) := by decide +kernel
theorem dL_1076 : decode code 1076 = .ok (.aload_n 0, 1) := by decide +kernel
theorem dL_1077 : decode code 1077 = .ok (.iload_n 3, 1) := by decide +kernel
theorem dL_1078 : decode code 1078 = .ok (.iconst 3, 1) := by decide +kernel
theorem dL_1079 : decode code 1079 = .ok (.iadd, 1) := by decide +kernel
theorem dL_1080 : decode code 1080 = .ok (.iaload, 1) := by decide +kernel
theorem dL_1081 : decode code 1081 = .ok (.invokevirtual 123, 3) := by decide +kernel
theorem dL_1084 : decode code 1084 = .ok (.pop, 1) := by decide +kernel
theorem dL_1085 : decode code 1085 = .ok (.goto 339, 3) := by decide +kernel
theorem dL_1088 : decode code 1088 = .ok (.aload_n 1, 1) := by decide +kernel
theorem dL_1089 : decode code 1089 = .ok (.aload_n 0, 1) := by decide +kernel
theorem dL_1090 : decode code 1090 = .ok (.iload_n 3, 1) := by decide +kernel
theorem dL_1091 : decode code 1091 = .ok (.iconst 1, 1) := by decide +kernel
theorem dL_1092 : decode code 1092 = .ok (.iadd, 1) := by decide +kernel
theorem dL_1093 : decode code 1093 = .ok (.iaload, 1) := by decide +kernel
theorem dL_1094 : decode code 1094 = .ok (.invokevirtual 124, 3) := by decide +kernel
theorem dL_1097 : decode code 1097 = .ok (.pop, 1) := by decide +kernel
theorem dL_1098 : decode code 1098 = .ok (.aload_n 2, 1) := by decide +kernel
theorem dL_1099 : decode code 1099 = .ok (.aload_n 0, 1) := by decide +kernel
theorem dL_1100 : decode code 1100 = .ok (.iload_n 3, 1) := by decide +kernel
theorem dL_1101 : decode code 1101 = .ok (.iconst 1, 1) := by decide +kernel
theorem dL_1102 : decode code 1102 = .ok (.iadd, 1) := by decide +kernel
theorem dL_1103 : decode code 1103 = .ok (.iaload, 1) := by decide +kernel
theorem dL_1104 : decode code 1104 = .ok (.invokevirtual 127, 3) := by decide +kernel
theorem dL_1107 : decode code 1107 = .ok (.pop, 1) := by decide +kernel
theorem dL_1108 : decode code 1108 = .ok (.goto 316, 3) := by decide +kernel
theorem dL_1111 : decode code 1111 = .ok (.aload_n 1, 1) := by decide +kernel
theorem dL_1112 : decode code 1112 = .ok (.aload_n 0, 1) := by decide +kernel
theorem dL_1113 : decode code 1113 = .ok (.iload_n 3, 1) := by decide +kernel
theorem dL_1114 : decode code 1114 = .ok (.iconst 1, 1) := by decide +kernel
theorem dL_1115 : decode code 1115 = .ok (.iadd, 1) := by decide +kernel
theorem dL_1116 : decode code 1116 = .ok (.iaload, 1) := by decide +kernel
theorem dL_1117 : decode code 1117 = .ok (.aload_n 0, 1) := by decide +kernel
theorem dL_1118 : decode code 1118 = .ok (.iload_n 3, 1) := by decide +kernel
theorem dL_1119 : decode code 1119 = .ok (.iconst 2, 1) := by decide +kernel
theorem dL_1120 : decode code 1120 = .ok (.iadd, 1) := by decide +kernel
theorem dL_1121 : decode code 1121 = .ok (.iaload, 1) := by decide +kernel
theorem dL_1122 : decode code 1122 = .ok (.aload_n 0, 1) := by decide +kernel
theorem dL_1123 : decode code 1123 = .ok (.iload_n 3, 1) := by decide +kernel
theorem dL_1124 : decode code 1124 = .ok (.iconst 3, 1) := by decide +kernel
theorem dL_1125 : decode code 1125 = .ok (.iadd, 1) := by decide +kernel
theorem dL_1126 : decode code 1126 = .ok (.iaload, 1) := by decide +kernel
theorem dL_1127 : decode code 1127 = .ok (.invokevirtual 128, 3) := by decide +kernel
theorem dL_1130 : decode code 1130 = .ok (.pop, 1) := by decide +kernel
theorem dL_1131 : decode code 1131 = .ok (.aload_n 2, 1) := by decide +kernel
theorem dL_1132 : decode code 1132 = .ok (.aload_n 0, 1) := by decide +kernel
theorem dL_1133 : decode code 1133 = .ok (.iload_n 3, 1) := by decide +kernel
theorem dL_1134 : decode code 1134 = .ok (.iconst 1, 1) := by decide +kernel
theorem dL_1135 : decode code 1135 = .ok (.iadd, 1) := by decide +kernel
theorem dL_1136 : decode code 1136 = .ok (.iaload, 1) := by decide +kernel
theorem dL_1137 : decode code 1137 = .ok (.aload_n 0, 1) := by decide +kernel
theorem dL_1138 : decode code 1138 = .ok (.iload_n 3, 1) := by decide +kernel
theorem dL_1139 : decode code 1139 = .ok (.iconst 2, 1) := by decide +kernel
theorem dL_1140 : decode code 1140 = .ok (.iadd, 1) := by decide +kernel
theorem dL_1141 : decode code 1141 = .ok (.iaload, 1) := by decide +kernel
theorem dL_1142 : decode code 1142 = .ok (.aload_n 0, 1) := by decide +kernel
theorem dL_1143 : decode code 1143 = .ok (.iload_n 3, 1) := by decide +kernel
theorem dL_1144 : decode code 1144 = .ok (.iconst 3, 1) := by decide +kernel
theorem dL_1145 : decode code 1145 = .ok (.iadd, 1) := by decide +kernel
theorem dL_1146 : decode code 1146 = .ok (.iaload, 1) := by decide +kernel
theorem dL_1147 : decode code 1147 = .ok (.invokevirtual 131, 3) := by decide +kernel
theorem dL_1150 : decode code 1150 = .ok (.pop, 1) := by decide +kernel
theorem dL_1151 : decode code 1151 = .ok (.goto 273, 3) := by decide +kernel
theorem dL_1154 : decode code 1154 = .ok (.aload_n 1, 1) := by decide +kernel
theorem dL_1155 : decode code 1155 = .ok (.aload_n 0, 1) := by decide +kernel
theorem dL_1156 : decode code 1156 = .ok (.iload_n 3, 1) := by decide +kernel
theorem dL_1157 : decode code 1157 = .ok (.iconst 1, 1) := by decide +kernel
theorem dL_1158 : decode code 1158 = .ok (.iadd, 1) := by decide +kernel
theorem dL_1159 : decode code 1159 = .ok (.iaload, 1) := by decide +kernel
theorem dL_1160 : decode code 1160 = .ok (.aload_n 0, 1) := by decide +kernel
theorem dL_1161 : decode code 1161 = .ok (.iload_n 3, 1) := by decide +kernel
theorem dL_1162 : decode code 1162 = .ok (.iconst 2, 1) := by decide +kernel
theorem dL_1163 : decode code 1163 = .ok (.iadd, 1) := by decide +kernel
theorem dL_1164 : decode code 1164 = .ok (.iaload, 1) := by decide +kernel
theorem dL_1165 : decode code 1165 = .ok (.aload_n 0, 1) := by decide +kernel
theorem dL_1166 : decode code 1166 = .ok (.iload_n 3, 1) := by decide +kernel
theorem dL_1167 : decode code 1167 = .ok (.iconst 3, 1) := by decide +kernel
theorem dL_1168 : decode code 1168 = .ok (.iadd, 1) := by decide +kernel
theorem dL_1169 : decode code 1169 = .ok (.iaload, 1) := by decide +kernel
theorem dL_1170 : decode code 1170 = .ok (.invokevirtual 132, 3) := by decide +kernel
theorem dL_1173 : decode code 1173 = .ok (.pop, 1) := by decide +kernel
theorem dL_1174 : decode code 1174 = .ok (.aload_n 2, 1) := by decide +kernel
theorem dL_1175 : decode code 1175 = .ok (.aload_n 0, 1) := by decide +kernel
theorem dL_1176 : decode code 1176 = .ok (.iload_n 3, 1) := by decide +kernel
theorem dL_1177 : decode code 1177 = .ok (.iconst 1, 1) := by decide +kernel
theorem dL_1178 : decode code 1178 = .ok (.iadd, 1) := by decide +kernel
theorem dL_1179 : decode code 1179 = .ok (.iaload, 1) := by decide +kernel
theorem dL_1180 : decode code 1180 = .ok (.aload_n 0, 1) := by decide +kernel
theorem dL_1181 : decode code 1181 = .ok (.iload_n 3, 1) := by decide +kernel
theorem dL_1182 : decode code 1182 = .ok (.iconst 2, 1) := by decide +kernel
theorem dL_1183 : decode code 1183 = .ok (.iadd, 1) := by decide +kernel
theorem dL_1184 : decode code 1184 = .ok (.iaload, 1) := by decide +kernel
theorem dL_1185 : decode code 1185 = .ok (.aload_n 0, 1) := by decide +kernel
theorem dL_1186 : decode code 1186 = .ok (.iload_n 3, 1) := by decide +kernel
theorem dL_1187 : decode code 1187 = .ok (.iconst 3, 1) := by decide +kernel
theorem dL_1188 : decode code 1188 = .ok (.iadd, 1) := by decide +kernel
theorem dL_1189 : decode code 1189 = .ok (.iaload, 1) := by decide +kernel
theorem dL_1190 : decode code 1190 = .ok (.invokevirtual 135, 3) := by decide +kernel
theorem dL_1193 : decode code 1193 = .ok (.pop, 1) := by decide +kernel
theorem dL_1194 : decode code 1194 = .ok (.goto 230, 3) := by decide +kernel
theorem dL_1197 : decode code 1197 = .ok (.aload_n 1, 1) := by decide +kernel
theorem dL_1198 : decode code 1198 = .ok (.aload_n 0, 1) := by decide +kernel
theorem dL_1199 : decode code 1199 = .ok (.iload_n 3, 1) := by decide +kernel
theorem dL_1200 : decode code 1200 = .ok (.iconst 1, 1) := by decide +kernel
theorem dL_1201 : decode code 1201 = .ok (.iadd, 1) := by decide +kernel
theorem dL_1202 : decode code 1202 = .ok (.iaload, 1) := by decide +kernel
theorem dL_1203 : decode code 1203 = .ok (.aload_n 0, 1) := by decide +kernel
theorem dL_1204 : decode code 1204 = .ok (.iload_n 3, 1) := by decide +kernel
theorem dL_1205 : decode code 1205 = .ok (.iconst 2, 1) := by decide +kernel
theorem dL_1206 : decode code 1206 = .ok (.iadd, 1) := by decide +kernel
theorem dL_1207 : decode code 1207 = .ok (.iaload, 1) := by decide +kernel
theorem dL_1208 : decode code 1208 = .ok (.aload_n 0, 1) := by decide +kernel
theorem dL_1209 : decode code 1209 = .ok (.iload_n 3, 1) := by decide +kernel
theorem dL_1210 : decode code 1210 = .ok (.iconst 3, 1) := by decide +kernel
theorem dL_1211 : decode code 1211 = .ok (.iadd, 1) := by decide +kernel
theorem dL_1212 : decode code 1212 = .ok (.iaload, 1) := by decide +kernel
theorem dL_1213 : decode code 1213 = .ok (.aload_n 0, 1) := by decide +kernel
theorem dL_1214 : decode code 1214 = .ok (.iload_n 3, 1) := by decide +kernel
theorem dL_1215 : decode code 1215 = .ok (.iconst 4, 1) := by decide +kernel
theorem dL_1216 : decode code 1216 = .ok (.iadd, 1) := by decide +kernel
theorem dL_1217 : decode code 1217 = .ok (.iaload, 1) := by decide +kernel
theorem dL_1218 : decode code 1218 = .ok (.aload_n 0, 1) := by decide +kernel
theorem dL_1219 : decode code 1219 = .ok (.iload_n 3, 1) := by decide +kernel
theorem dL_1220 : decode code 1220 = .ok (.iconst 5, 1) := by decide +kernel
theorem dL_1221 : decode code 1221 = .ok (.iadd, 1) := by decide +kernel
theorem dL_1222 : decode code 1222 = .ok (.iaload, 1) := by decide +kernel
theorem dL_1223 : decode code 1223 = .ok (.invokevirtual 136, 3) := by decide +kernel
theorem dL_1226 : decode code 1226 = .ok (.pop, 1) := by decide +kernel
theorem dL_1227 : decode code 1227 = .ok (.aload_n 2, 1) := by decide +kernel
theorem dL_1228 : decode code 1228 = .ok (.aload_n 0, 1) := by decide +kernel
theorem dL_1229 : decode code 1229 = .ok (.iload_n 3, 1) := by decide +kernel
theorem dL_1230 : decode code 1230 = .ok (.iconst 1, 1) := by decide +kernel
theorem dL_1231 : decode code 1231 = .ok (.iadd, 1) := by decide +kernel
theorem dL_1232 : decode code 1232 = .ok (.iaload, 1) := by decide +kernel
theorem dL_1233 : decode code 1233 = .ok (.aload_n 0, 1) := by decide +kernel
theorem dL_1234 : decode code 1234 = .ok (.iload_n 3, 1) := by decide +kernel
theorem dL_1235 : decode code 1235 = .ok (.iconst 2, 1) := by decide +kernel
theorem dL_1236 : decode code 1236 = .ok (.iadd, 1) := by decide +kernel
theorem dL_1237 : decode code 1237 = .ok (.iaload, 1) := by decide +kernel
theorem dL_1238 : decode code 1238 = .ok (.aload_n 0, 1) := by decide +kernel
theorem dL_1239 : decode code 1239 = .ok (.iload_n 3, 1) := by decide +kernel
theorem dL_1240 : decode code 1240 = .ok (.iconst 3, 1) := by decide +kernel
theorem dL_1241 : decode code 1241 = .ok (.iadd, 1) := by decide +kernel
theorem dL_1242 : decode code 1242 = .ok (.iaload, 1) := by decide +kernel
theorem dL_1243 : decode code 1243 = .ok (.aload_n 0, 1) := by decide +kernel
theorem dL_1244 : decode code 1244 = .ok (.iload_n 3, 1) := by decide +kernel
theorem dL_1245 : decode code 1245 = .ok (.iconst 4, 1) := by decide +kernel
theorem dL_1246 : decode code 1246 = .ok (.iadd, 1) := by decide +kernel
theorem dL_1247 : decode code 1247 = .ok (.iaload, 1) := by decide +kernel
theorem dL_1248 : decode code 1248 = .ok (.aload_n 0, 1) := by decide +kernel
theorem dL_1249 : decode code 1249 = .ok (.iload_n 3, 1) := by decide +kernel
theorem dL_1250 : decode code 1250 = .ok (.iconst 5, 1) := by decide +kernel
theorem dL_1251 : decode code 1251 = .ok (.iadd, 1) := by decide +kernel
theorem dL_1252 : decode code 1252 = .ok (.iaload, 1) := by decide +kernel
theorem dL_1253 : decode code 1253 = .ok (.invokevirtual 140, 3) := by decide +kernel
theorem dL_1256 : decode code 1256 = .ok (.pop, 1) := by decide +kernel
theorem dL_1257 : decode code 1257 = .ok (.goto 167, 3) := by decide +kernel
theorem dL_1260 : decode code 1260 = .ok (.aload_n 1, 1) := by decide +kernel
theorem dL_1261 : decode code 1261 = .ok (.aload_n 0, 1) := by decide +kernel
theorem dL_1262 : decode code 1262 = .ok (.iload_n 3, 1) := by decide +kernel
theorem dL_1263 : decode code 1263 = .ok (.iconst 1, 1) := by decide +kernel
theorem dL_1264 : decode code 1264 = .ok (.iadd, 1) := by decide +kernel
theorem dL_1265 : decode code 1265 = .ok (.iaload, 1) := by decide +kernel
theorem dL_1266 : decode code 1266 = .ok (.invokevirtual 141, 3) := by decide +kernel
theorem dL_1269 : decode code 1269 = .ok (.pop, 1) := by decide +kernel
theorem dL_1270 : decode code 1270 = .ok (.aload_n 2, 1) := by decide +kernel
theorem dL_1271 : decode code 1271 = .ok (.aload_n 0, 1) := by decide +kernel
theorem dL_1272 : decode code 1272 = .ok (.iload_n 3, 1) := by decide +kernel
theorem dL_1273 : decode code 1273 = .ok (.iconst 1, 1) := by decide +kernel
theorem dL_1274 : decode code 1274 = .ok (.iadd, 1) := by decide +kernel
theorem dL_1275 : decode code 1275 = .ok (.iaload, 1) := by decide +kernel
theorem dL_1276 : decode code 1276 = .ok (.invokevirtual 144, 3) := by decide +kernel
theorem dL_1279 : decode code 1279 = .ok (.pop, 1) := by decide +kernel
theorem dL_1280 : decode code 1280 = .ok (.goto 144, 3) := by decide +kernel
theorem dL_1283 : decode code 1283 = .ok (.aload_n 1, 1) := by decide +kernel
theorem dL_1284 : decode code 1284 = .ok (.aload_n 0, 1) := by decide +kernel
theorem dL_1285 : decode code 1285 = .ok (.iload_n 3, 1) := by decide +kernel
theorem dL_1286 : decode code 1286 = .ok (.iconst 1, 1) := by decide +kernel
theorem dL_1287 : decode code 1287 = .ok (.iadd, 1) := by decide +kernel
theorem dL_1288 : decode code 1288 = .ok (.iaload, 1) := by decide +kernel
theorem dL_1289 : decode code 1289 = .ok (.aload_n 0, 1) := by decide +kernel
theorem dL_1290 : decode code 1290 = .ok (.iload_n 3, 1) := by decide +kernel
theorem dL_1291 : decode code 1291 = .ok (.iconst 2, 1) := by decide +kernel
theorem dL_1292 : decode code 1292 = .ok (.iadd, 1) := by decide +kernel
theorem dL_1293 : decode code 1293 = .ok (.iaload, 1) := by decide +kernel
theorem dL_1294 : decode code 1294 = .ok (.invokevirtual 145, 3) := by decide +kernel
theorem dL_1297 : decode code 1297 = .ok (.pop, 1) := by decide +kernel
theorem dL_1298 : decode code 1298 = .ok (.aload_n 2, 1) := by decide +kernel
theorem dL_1299 : decode code 1299 = .ok (.aload_n 0, 1) := by decide +kernel
theorem dL_1300 : decode code 1300 = .ok (.iload_n 3, 1) := by decide +kernel
theorem dL_1301 : decode code 1301 = .ok (.iconst 1, 1) := by decide +kernel
theorem dL_1302 : decode code 1302 = .ok (.iadd, 1) := by decide +kernel
theorem dL_1303 : decode code 1303 = .ok (.iaload, 1) := by decide +kernel
theorem dL_1304 : decode code 1304 = .ok (.aload_n 0, 1) := by decide +kernel
theorem dL_1305 : decode code 1305 = .ok (.iload_n 3, 1) := by decide +kernel
theorem dL_1306 : decode code 1306 = .ok (.iconst 2, 1) := by decide +kernel
theorem dL_1307 : decode code 1307 = .ok (.iadd, 1) := by decide +kernel
theorem dL_1308 : decode code 1308 = .ok (.iaload, 1) := by decide +kernel
theorem dL_1309 : decode code 1309 = .ok (.invokevirtual 148, 3) := by decide +kernel
theorem dL_1312 : decode code 1312 = .ok (.pop, 1) := by decide +kernel
theorem dL_1313 : decode code 1313 = .ok (.goto 111, 3) := by decide +kernel
theorem dL_1316 : decode code 1316 = .ok (.aload_n 1, 1) := by decide +kernel
theorem dL_1317 : decode code 1317 = .ok (.invokevirtual 149, 3) := by decide +kernel
theorem dL_1320 : decode code 1320 = .ok (.pop, 1) := by decide +kernel
theorem dL_1321 : decode code 1321 = .ok (.aload_n 2, 1) := by decide +kernel
theorem dL_1322 : decode code 1322 = .ok (.invokevirtual 152, 3) := by decide +kernel
theorem dL_1325 : decode code 1325 = .ok (.pop, 1) := by decide +kernel
theorem dL_1326 : decode code 1326 = .ok (.goto 98, 3) := by decide +kernel
theorem dL_1329 : decode code 1329 = .ok (.aload_n 1, 1) := by decide +kernel
theorem dL_1330 : decode code 1330 = .ok (.invokevirtual 153, 3) := by decide +kernel
theorem dL_1333 : decode code 1333 = .ok (.pop, 1) := by decide +kernel
theorem dL_1334 : decode code 1334 = .ok (.aload_n 2, 1) := by decide +kernel
theorem dL_1335 : decode code 1335 = .ok (.invokevirtual 156, 3) := by decide +kernel
theorem dL_1338 : decode code 1338 = .ok (.pop, 1) := by decide +kernel
theorem dL_1339 : decode code 1339 = .ok (.goto 85, 3) := by decide +kernel
theorem dL_1342 : decode code 1342 = .ok (.aload_n 1, 1) := by decide +kernel
theorem dL_1343 : decode code 1343 = .ok (.aload_n 0, 1) := by decide +kernel
theorem dL_1344 : decode code 1344 = .ok (.iload_n 3, 1) := by decide +kernel
theorem dL_1345 : decode code 1345 = .ok (.iconst 1, 1) := by decide +kernel
theorem dL_1346 : decode code 1346 = .ok (.iadd, 1) := by decide +kernel
theorem dL_1347 : decode code 1347 = .ok (.iaload, 1) := by decide +kernel
theorem dL_1348 : decode code 1348 = .ok (.invokevirtual 157, 3) := by decide +kernel
theorem dL_1351 : decode code 1351 = .ok (.pop, 1) := by decide +kernel
theorem dL_1352 : decode code 1352 = .ok (.aload_n 2, 1) := by decide +kernel
theorem dL_1353 : decode code 1353 = .ok (.aload_n 0, 1) := by decide +kernel
theorem dL_1354 : decode code 1354 = .ok (.iload_n 3, 1) := by decide +kernel
theorem dL_1355 : decode code 1355 = .ok (.iconst 1, 1) := by decide +kernel
theorem dL_1356 : decode code 1356 = .ok (.iadd, 1) := by decide +kernel
theorem dL_1357 : decode code 1357 = .ok (.iaload, 1) := by decide +kernel
theorem dL_1358 : decode code 1358 = .ok (.invokevirtual 160, 3) := by decide +kernel
theorem dL_1361 : decode code 1361 = .ok (.pop, 1) := by decide +kernel
theorem dL_1362 : decode code 1362 = .ok (.goto 62, 3) := by decide +kernel
theorem dL_1365 : decode code 1365 = .ok (.aload_n 1, 1) := by decide +kernel
theorem dL_1366 : decode code 1366 = .ok (.invokevirtual 161, 3) := by decide +kernel
theorem dL_1369 : decode code 1369 = .ok (.pop, 1) := by decide +kernel
theorem dL_1370 : decode code 1370 = .ok (.aload_n 2, 1) := by decide +kernel
theorem dL_1371 : decode code 1371 = .ok (.invokevirtual 164, 3) := by decide +kernel
theorem dL_1374 : decode code 1374 = .ok (.pop, 1) := by decide +kernel
theorem dL_1375 : decode code 1375 = .ok (.goto 49, 3) := by decide +kernel
theorem dL_1378 : decode code 1378 = .ok (.aload_n 1, 1) := by decide +kernel
theorem dL_1379 : decode code 1379 = .ok (.aload_n 0, 1) := by decide +kernel
theorem dL_1380 : decode code 1380 = .ok (.iload_n 3, 1) := by decide +kernel
theorem dL_1381 : decode code 1381 = .ok (.iconst 1, 1) := by decide +kernel
theorem dL_1382 : decode code 1382 = .ok (.iadd, 1) := by decide +kernel
theorem dL_1383 : decode code 1383 = .ok (.iaload, 1) := by decide +kernel
theorem dL_1384 : decode code 1384 = .ok (.invokevirtual 165, 3) := by decide +kernel
theorem dL_1387 : decode code 1387 = .ok (.pop, 1) := by decide +kernel
theorem dL_1388 : decode code 1388 = .ok (.aload_n 2, 1) := by decide +kernel
theorem dL_1389 : decode code 1389 = .ok (.aload_n 0, 1) := by decide +kernel
theorem dL_1390 : decode code 1390 = .ok (.iload_n 3, 1) := by decide +kernel
theorem dL_1391 : decode code 1391 = .ok (.iconst 1, 1) := by decide +kernel
theorem dL_1392 : decode code 1392 = .ok (.iadd, 1) := by decide +kernel
theorem dL_1393 : decode code 1393 = .ok (.iaload, 1) := by decide +kernel
theorem dL_1394 : decode code 1394 = .ok (.invokevirtual 168, 3) := by decide +kernel
theorem dL_1397 : decode code 1397 = .ok (.pop, 1) := by decide +kernel
theorem dL_1398 : decode code 1398 = .ok (.goto 26, 3) := by decide +kernel
theorem dL_1401 : decode code 1401 = .ok (.aload_n 1, 1) := by decide +kernel
theorem dL_1402 : decode code 1402 = .ok (.aload_n 0, 1) := by decide +kernel
theorem dL_1403 : decode code 1403 = .ok (.iload_n 3, 1) := by decide +kernel
theorem dL_1404 : decode code 1404 = .ok (.iconst 1, 1) := by decide +kernel
theorem dL_1405 : decode code 1405 = .ok (.iadd, 1) := by decide +kernel
theorem dL_1406 : decode code 1406 = .ok (.iaload, 1) := by decide +kernel
theorem dL_1407 : decode code 1407 = .ok (.invokevirtual 169, 3) := by decide +kernel
theorem dL_1410 : decode code 1410 = .ok (.pop, 1) := by decide +kernel
theorem dL_1411 : decode code 1411 = .ok (.aload_n 2, 1) := by decide +kernel
theorem dL_1412 : decode code 1412 = .ok (.aload_n 0, 1) := by decide +kernel
theorem dL_1413 : decode code 1413 = .ok (.iload_n 3, 1) := by decide +kernel
theorem dL_1414 : decode code 1414 = .ok (.iconst 1, 1) := by decide +kernel
theorem dL_1415 : decode code 1415 = .ok (.iadd, 1) := by decide +kernel
theorem dL_1416 : decode code 1416 = .ok (.iaload, 1) := by decide +kernel
theorem dL_1417 : decode code 1417 = .ok (.invokevirtual 172, 3) := by decide +kernel
theorem dL_1420 : decode code 1420 = .ok (.pop, 1) := by decide +kernel
theorem dL_1421 : decode code 1421 = .ok (.goto 3, 3) := by decide +kernel
theorem dL_1424 : decode code 1424 = .ok (.iinc 3 6, 3) := by decide +kernel
theorem dL_1427 : decode code 1427 = .ok (.goto (-1409), 3) := by decide +kernel
theorem dL_1430 : decode code 1430 = .ok (.iconst 1, 1) := by decide +kernel
theorem dL_1431 : decode code 1431 = .ok (.ireturn, 1) := by decide +kernel
