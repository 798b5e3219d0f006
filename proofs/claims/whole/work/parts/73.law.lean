/-! ===== the law: its cases and its loop, by program (law.py) ===== -/
theorem dL_law_0 : decode code 0 = .ok (.new 7, 3) := by decide +kernel
theorem dL_law_3 : decode code 3 = .ok (.dup, 1) := by decide +kernel
theorem dL_law_4 : decode code 4 = .ok (.invokespecial 9, 3) := by decide +kernel
theorem dL_law_7 : decode code 7 = .ok (.astore_n 1, 1) := by decide +kernel
theorem dL_law_8 : decode code 8 = .ok (.new 10, 3) := by decide +kernel
theorem dL_law_11 : decode code 11 = .ok (.dup, 1) := by decide +kernel
theorem dL_law_12 : decode code 12 = .ok (.invokespecial 12, 3) := by decide +kernel
theorem dL_law_15 : decode code 15 = .ok (.astore_n 2, 1) := by decide +kernel
theorem dL_law_16 : decode code 16 = .ok (.iconst 0, 1) := by decide +kernel
theorem dL_law_17 : decode code 17 = .ok (.istore_n 3, 1) := by decide +kernel
theorem dL_law_18 : decode code 18 = .ok (.iload_n 3, 1) := by decide +kernel
theorem dL_law_19 : decode code 19 = .ok (.aload_n 0, 1) := by decide +kernel
theorem dL_law_20 : decode code 20 = .ok (.arraylength, 1) := by decide +kernel
theorem dL_law_21 : decode code 21 = .ok (.bipush 6, 2) := by decide +kernel
theorem dL_law_23 : decode code 23 = .ok (.isub, 1) := by decide +kernel
theorem dL_law_24 : decode code 24 = .ok (.if_icmp .gt 1328, 3) := by decide +kernel
theorem dL_law_27 : decode code 27 = .ok (.aload_n 0, 1) := by decide +kernel
theorem dL_law_28 : decode code 28 = .ok (.iload_n 3, 1) := by decide +kernel
theorem dL_law_29 : decode code 29 = .ok (.iaload, 1) := by decide +kernel
theorem dL_law_30 : decode code 30 = .ok (.bipush 63, 2) := by decide +kernel
theorem dL_law_32 : decode code 32 = .ok (.iand, 1) := by decide +kernel
theorem dL_law_33 : decode code 33 = .ok (.tableswitch 1313 0 37 #[167, 200, 223, 246, 269, 302, 335, 368, 391, 434, 447, 470, 513, 556, 589, 612, 625, 638, 661, 694, 727, 760, 783, 836, 849, 862, 885, 908, 931, 975, 1018, 1061, 1084, 1137, 1180, 1243, 1276, 1299], 167) := by decide +kernel
theorem dL_law_200 : decode code 200 = .ok (.aload_n 1, 1) := by decide +kernel
theorem dL_law_201 : decode code 201 = .ok (.aload_n 0, 1) := by decide +kernel
theorem dL_law_202 : decode code 202 = .ok (.iload_n 3, 1) := by decide +kernel
theorem dL_law_203 : decode code 203 = .ok (.iconst 1, 1) := by decide +kernel
theorem dL_law_204 : decode code 204 = .ok (.iadd, 1) := by decide +kernel
theorem dL_law_205 : decode code 205 = .ok (.iaload, 1) := by decide +kernel
theorem dL_law_206 : decode code 206 = .ok (.aload_n 0, 1) := by decide +kernel
theorem dL_law_207 : decode code 207 = .ok (.iload_n 3, 1) := by decide +kernel
theorem dL_law_208 : decode code 208 = .ok (.iconst 2, 1) := by decide +kernel
theorem dL_law_209 : decode code 209 = .ok (.iadd, 1) := by decide +kernel
theorem dL_law_210 : decode code 210 = .ok (.iaload, 1) := by decide +kernel
theorem dL_law_211 : decode code 211 = .ok (.invokevirtual 13, 3) := by decide +kernel
theorem dL_law_214 : decode code 214 = .ok (.aload_n 2, 1) := by decide +kernel
theorem dL_law_215 : decode code 215 = .ok (.aload_n 0, 1) := by decide +kernel
theorem dL_law_216 : decode code 216 = .ok (.iload_n 3, 1) := by decide +kernel
theorem dL_law_217 : decode code 217 = .ok (.iconst 1, 1) := by decide +kernel
theorem dL_law_218 : decode code 218 = .ok (.iadd, 1) := by decide +kernel
theorem dL_law_219 : decode code 219 = .ok (.iaload, 1) := by decide +kernel
theorem dL_law_220 : decode code 220 = .ok (.aload_n 0, 1) := by decide +kernel
theorem dL_law_221 : decode code 221 = .ok (.iload_n 3, 1) := by decide +kernel
theorem dL_law_222 : decode code 222 = .ok (.iconst 2, 1) := by decide +kernel
theorem dL_law_223 : decode code 223 = .ok (.iadd, 1) := by decide +kernel
theorem dL_law_224 : decode code 224 = .ok (.iaload, 1) := by decide +kernel
theorem dL_law_225 : decode code 225 = .ok (.invokevirtual 17, 3) := by decide +kernel
theorem dL_law_228 : decode code 228 = .ok (.if_icmp .eq 1118, 3) := by decide +kernel
theorem dL_law_231 : decode code 231 = .ok (.iconst 0, 1) := by decide +kernel
theorem dL_law_232 : decode code 232 = .ok (.ireturn, 1) := by decide +kernel
theorem dL_law_233 : decode code 233 = .ok (.aload_n 1, 1) := by decide +kernel
theorem dL_law_234 : decode code 234 = .ok (.aload_n 0, 1) := by decide +kernel
theorem dL_law_235 : decode code 235 = .ok (.iload_n 3, 1) := by decide +kernel
theorem dL_law_236 : decode code 236 = .ok (.iconst 1, 1) := by decide +kernel
theorem dL_law_237 : decode code 237 = .ok (.iadd, 1) := by decide +kernel
theorem dL_law_238 : decode code 238 = .ok (.iaload, 1) := by decide +kernel
theorem dL_law_239 : decode code 239 = .ok (.invokevirtual 18, 3) := by decide +kernel
theorem dL_law_242 : decode code 242 = .ok (.aload_n 2, 1) := by decide +kernel
theorem dL_law_243 : decode code 243 = .ok (.aload_n 0, 1) := by decide +kernel
theorem dL_law_244 : decode code 244 = .ok (.iload_n 3, 1) := by decide +kernel
theorem dL_law_245 : decode code 245 = .ok (.iconst 1, 1) := by decide +kernel
theorem dL_law_246 : decode code 246 = .ok (.iadd, 1) := by decide +kernel
theorem dL_law_247 : decode code 247 = .ok (.iaload, 1) := by decide +kernel
theorem dL_law_248 : decode code 248 = .ok (.invokevirtual 22, 3) := by decide +kernel
theorem dL_law_251 : decode code 251 = .ok (.if_icmp .eq 1095, 3) := by decide +kernel
theorem dL_law_254 : decode code 254 = .ok (.iconst 0, 1) := by decide +kernel
theorem dL_law_255 : decode code 255 = .ok (.ireturn, 1) := by decide +kernel
theorem dL_law_256 : decode code 256 = .ok (.aload_n 1, 1) := by decide +kernel
theorem dL_law_257 : decode code 257 = .ok (.aload_n 0, 1) := by decide +kernel
theorem dL_law_258 : decode code 258 = .ok (.iload_n 3, 1) := by decide +kernel
theorem dL_law_259 : decode code 259 = .ok (.iconst 1, 1) := by decide +kernel
theorem dL_law_260 : decode code 260 = .ok (.iadd, 1) := by decide +kernel
theorem dL_law_261 : decode code 261 = .ok (.iaload, 1) := by decide +kernel
theorem dL_law_262 : decode code 262 = .ok (.invokevirtual 23, 3) := by decide +kernel
theorem dL_law_265 : decode code 265 = .ok (.aload_n 2, 1) := by decide +kernel
theorem dL_law_266 : decode code 266 = .ok (.aload_n 0, 1) := by decide +kernel
theorem dL_law_267 : decode code 267 = .ok (.iload_n 3, 1) := by decide +kernel
theorem dL_law_268 : decode code 268 = .ok (.iconst 1, 1) := by decide +kernel
theorem dL_law_269 : decode code 269 = .ok (.iadd, 1) := by decide +kernel
theorem dL_law_270 : decode code 270 = .ok (.iaload, 1) := by decide +kernel
theorem dL_law_271 : decode code 271 = .ok (.invokevirtual 26, 3) := by decide +kernel
theorem dL_law_274 : decode code 274 = .ok (.if_icmp .eq 1072, 3) := by decide +kernel
theorem dL_law_277 : decode code 277 = .ok (.iconst 0, 1) := by decide +kernel
theorem dL_law_278 : decode code 278 = .ok (.ireturn, 1) := by decide +kernel
theorem dL_law_279 : decode code 279 = .ok (.aload_n 1, 1) := by decide +kernel
theorem dL_law_280 : decode code 280 = .ok (.aload_n 0, 1) := by decide +kernel
theorem dL_law_281 : decode code 281 = .ok (.iload_n 3, 1) := by decide +kernel
theorem dL_law_282 : decode code 282 = .ok (.iconst 1, 1) := by decide +kernel
theorem dL_law_283 : decode code 283 = .ok (.iadd, 1) := by decide +kernel
theorem dL_law_284 : decode code 284 = .ok (.iaload, 1) := by decide +kernel
theorem dL_law_285 : decode code 285 = .ok (.invokevirtual 27, 3) := by decide +kernel
theorem dL_law_288 : decode code 288 = .ok (.aload_n 2, 1) := by decide +kernel
theorem dL_law_289 : decode code 289 = .ok (.aload_n 0, 1) := by decide +kernel
theorem dL_law_290 : decode code 290 = .ok (.iload_n 3, 1) := by decide +kernel
theorem dL_law_291 : decode code 291 = .ok (.iconst 1, 1) := by decide +kernel
theorem dL_law_292 : decode code 292 = .ok (.iadd, 1) := by decide +kernel
theorem dL_law_293 : decode code 293 = .ok (.iaload, 1) := by decide +kernel
theorem dL_law_294 : decode code 294 = .ok (.invokevirtual 30, 3) := by decide +kernel
theorem dL_law_297 : decode code 297 = .ok (.if_icmp .eq 1049, 3) := by decide +kernel
theorem dL_law_300 : decode code 300 = .ok (.iconst 0, 1) := by decide +kernel
theorem dL_law_301 : decode code 301 = .ok (.ireturn, 1) := by decide +kernel
theorem dL_law_302 : decode code 302 = .ok (.aload_n 1, 1) := by decide +kernel
theorem dL_law_303 : decode code 303 = .ok (.aload_n 0, 1) := by decide +kernel
theorem dL_law_304 : decode code 304 = .ok (.iload_n 3, 1) := by decide +kernel
theorem dL_law_305 : decode code 305 = .ok (.iconst 1, 1) := by decide +kernel
theorem dL_law_306 : decode code 306 = .ok (.iadd, 1) := by decide +kernel
theorem dL_law_307 : decode code 307 = .ok (.iaload, 1) := by decide +kernel
theorem dL_law_308 : decode code 308 = .ok (.aload_n 0, 1) := by decide +kernel
theorem dL_law_309 : decode code 309 = .ok (.iload_n 3, 1) := by decide +kernel
theorem dL_law_310 : decode code 310 = .ok (.iconst 2, 1) := by decide +kernel
theorem dL_law_311 : decode code 311 = .ok (.iadd, 1) := by decide +kernel
theorem dL_law_312 : decode code 312 = .ok (.iaload, 1) := by decide +kernel
theorem dL_law_313 : decode code 313 = .ok (.invokevirtual 31, 3) := by decide +kernel
theorem dL_law_316 : decode code 316 = .ok (.aload_n 2, 1) := by decide +kernel
theorem dL_law_317 : decode code 317 = .ok (.aload_n 0, 1) := by decide +kernel
theorem dL_law_318 : decode code 318 = .ok (.iload_n 3, 1) := by decide +kernel
theorem dL_law_319 : decode code 319 = .ok (.iconst 1, 1) := by decide +kernel
theorem dL_law_320 : decode code 320 = .ok (.iadd, 1) := by decide +kernel
theorem dL_law_321 : decode code 321 = .ok (.iaload, 1) := by decide +kernel
theorem dL_law_322 : decode code 322 = .ok (.aload_n 0, 1) := by decide +kernel
theorem dL_law_323 : decode code 323 = .ok (.iload_n 3, 1) := by decide +kernel
theorem dL_law_324 : decode code 324 = .ok (.iconst 2, 1) := by decide +kernel
theorem dL_law_325 : decode code 325 = .ok (.iadd, 1) := by decide +kernel
theorem dL_law_326 : decode code 326 = .ok (.iaload, 1) := by decide +kernel
theorem dL_law_327 : decode code 327 = .ok (.invokevirtual 34, 3) := by decide +kernel
theorem dL_law_330 : decode code 330 = .ok (.if_icmp .eq 1016, 3) := by decide +kernel
theorem dL_law_333 : decode code 333 = .ok (.iconst 0, 1) := by decide +kernel
theorem dL_law_334 : decode code 334 = .ok (.ireturn, 1) := by decide +kernel
theorem dL_law_335 : decode code 335 = .ok (.aload_n 1, 1) := by decide +kernel
theorem dL_law_336 : decode code 336 = .ok (.aload_n 0, 1) := by decide +kernel
theorem dL_law_337 : decode code 337 = .ok (.iload_n 3, 1) := by decide +kernel
theorem dL_law_338 : decode code 338 = .ok (.iconst 1, 1) := by decide +kernel
theorem dL_law_339 : decode code 339 = .ok (.iadd, 1) := by decide +kernel
theorem dL_law_340 : decode code 340 = .ok (.iaload, 1) := by decide +kernel
theorem dL_law_341 : decode code 341 = .ok (.aload_n 0, 1) := by decide +kernel
theorem dL_law_342 : decode code 342 = .ok (.iload_n 3, 1) := by decide +kernel
theorem dL_law_343 : decode code 343 = .ok (.iconst 2, 1) := by decide +kernel
theorem dL_law_344 : decode code 344 = .ok (.iadd, 1) := by decide +kernel
theorem dL_law_345 : decode code 345 = .ok (.iaload, 1) := by decide +kernel
theorem dL_law_346 : decode code 346 = .ok (.invokevirtual 35, 3) := by decide +kernel
theorem dL_law_349 : decode code 349 = .ok (.aload_n 2, 1) := by decide +kernel
theorem dL_law_350 : decode code 350 = .ok (.aload_n 0, 1) := by decide +kernel
theorem dL_law_351 : decode code 351 = .ok (.iload_n 3, 1) := by decide +kernel
theorem dL_law_352 : decode code 352 = .ok (.iconst 1, 1) := by decide +kernel
theorem dL_law_353 : decode code 353 = .ok (.iadd, 1) := by decide +kernel
theorem dL_law_354 : decode code 354 = .ok (.iaload, 1) := by decide +kernel
theorem dL_law_355 : decode code 355 = .ok (.aload_n 0, 1) := by decide +kernel
theorem dL_law_356 : decode code 356 = .ok (.iload_n 3, 1) := by decide +kernel
theorem dL_law_357 : decode code 357 = .ok (.iconst 2, 1) := by decide +kernel
theorem dL_law_358 : decode code 358 = .ok (.iadd, 1) := by decide +kernel
theorem dL_law_359 : decode code 359 = .ok (.iaload, 1) := by decide +kernel
theorem dL_law_360 : decode code 360 = .ok (.invokevirtual 38, 3) := by decide +kernel
theorem dL_law_363 : decode code 363 = .ok (.if_icmp .eq 983, 3) := by decide +kernel
theorem dL_law_366 : decode code 366 = .ok (.iconst 0, 1) := by decide +kernel
theorem dL_law_367 : decode code 367 = .ok (.ireturn, 1) := by decide +kernel
theorem dL_law_368 : decode code 368 = .ok (.aload_n 1, 1) := by decide +kernel
theorem dL_law_369 : decode code 369 = .ok (.aload_n 0, 1) := by decide +kernel
theorem dL_law_370 : decode code 370 = .ok (.iload_n 3, 1) := by decide +kernel
theorem dL_law_371 : decode code 371 = .ok (.iconst 1, 1) := by decide +kernel
theorem dL_law_372 : decode code 372 = .ok (.iadd, 1) := by decide +kernel
theorem dL_law_373 : decode code 373 = .ok (.iaload, 1) := by decide +kernel
theorem dL_law_374 : decode code 374 = .ok (.aload_n 0, 1) := by decide +kernel
theorem dL_law_375 : decode code 375 = .ok (.iload_n 3, 1) := by decide +kernel
theorem dL_law_376 : decode code 376 = .ok (.iconst 2, 1) := by decide +kernel
theorem dL_law_377 : decode code 377 = .ok (.iadd, 1) := by decide +kernel
theorem dL_law_378 : decode code 378 = .ok (.iaload, 1) := by decide +kernel
theorem dL_law_379 : decode code 379 = .ok (.invokevirtual 39, 3) := by decide +kernel
theorem dL_law_382 : decode code 382 = .ok (.aload_n 2, 1) := by decide +kernel
theorem dL_law_383 : decode code 383 = .ok (.aload_n 0, 1) := by decide +kernel
theorem dL_law_384 : decode code 384 = .ok (.iload_n 3, 1) := by decide +kernel
theorem dL_law_385 : decode code 385 = .ok (.iconst 1, 1) := by decide +kernel
theorem dL_law_386 : decode code 386 = .ok (.iadd, 1) := by decide +kernel
theorem dL_law_387 : decode code 387 = .ok (.iaload, 1) := by decide +kernel
theorem dL_law_388 : decode code 388 = .ok (.aload_n 0, 1) := by decide +kernel
theorem dL_law_389 : decode code 389 = .ok (.iload_n 3, 1) := by decide +kernel
theorem dL_law_390 : decode code 390 = .ok (.iconst 2, 1) := by decide +kernel
theorem dL_law_391 : decode code 391 = .ok (.iadd, 1) := by decide +kernel
theorem dL_law_392 : decode code 392 = .ok (.iaload, 1) := by decide +kernel
theorem dL_law_393 : decode code 393 = .ok (.invokevirtual 42, 3) := by decide +kernel
theorem dL_law_396 : decode code 396 = .ok (.if_icmp .eq 950, 3) := by decide +kernel
theorem dL_law_399 : decode code 399 = .ok (.iconst 0, 1) := by decide +kernel
theorem dL_law_400 : decode code 400 = .ok (.ireturn, 1) := by decide +kernel
theorem dL_law_401 : decode code 401 = .ok (.aload_n 1, 1) := by decide +kernel
theorem dL_law_402 : decode code 402 = .ok (.aload_n 0, 1) := by decide +kernel
theorem dL_law_403 : decode code 403 = .ok (.iload_n 3, 1) := by decide +kernel
theorem dL_law_404 : decode code 404 = .ok (.iconst 1, 1) := by decide +kernel
theorem dL_law_405 : decode code 405 = .ok (.iadd, 1) := by decide +kernel
theorem dL_law_406 : decode code 406 = .ok (.iaload, 1) := by decide +kernel
theorem dL_law_407 : decode code 407 = .ok (.invokevirtual 43, 3) := by decide +kernel
theorem dL_law_410 : decode code 410 = .ok (.aload_n 2, 1) := by decide +kernel
theorem dL_law_411 : decode code 411 = .ok (.aload_n 0, 1) := by decide +kernel
theorem dL_law_412 : decode code 412 = .ok (.iload_n 3, 1) := by decide +kernel
theorem dL_law_413 : decode code 413 = .ok (.iconst 1, 1) := by decide +kernel
theorem dL_law_414 : decode code 414 = .ok (.iadd, 1) := by decide +kernel
theorem dL_law_415 : decode code 415 = .ok (.iaload, 1) := by decide +kernel
theorem dL_law_416 : decode code 416 = .ok (.invokevirtual 46, 3) := by decide +kernel
theorem dL_law_419 : decode code 419 = .ok (.if_icmp .eq 927, 3) := by decide +kernel
theorem dL_law_422 : decode code 422 = .ok (.iconst 0, 1) := by decide +kernel
theorem dL_law_423 : decode code 423 = .ok (.ireturn, 1) := by decide +kernel
theorem dL_law_424 : decode code 424 = .ok (.aload_n 1, 1) := by decide +kernel
theorem dL_law_425 : decode code 425 = .ok (.aload_n 0, 1) := by decide +kernel
theorem dL_law_426 : decode code 426 = .ok (.iload_n 3, 1) := by decide +kernel
theorem dL_law_427 : decode code 427 = .ok (.iconst 1, 1) := by decide +kernel
theorem dL_law_428 : decode code 428 = .ok (.iadd, 1) := by decide +kernel
theorem dL_law_429 : decode code 429 = .ok (.iaload, 1) := by decide +kernel
theorem dL_law_430 : decode code 430 = .ok (.aload_n 0, 1) := by decide +kernel
theorem dL_law_431 : decode code 431 = .ok (.iload_n 3, 1) := by decide +kernel
theorem dL_law_432 : decode code 432 = .ok (.iconst 2, 1) := by decide +kernel
theorem dL_law_433 : decode code 433 = .ok (.iadd, 1) := by decide +kernel
theorem dL_law_434 : decode code 434 = .ok (.iaload, 1) := by decide +kernel
theorem dL_law_435 : decode code 435 = .ok (.aload_n 0, 1) := by decide +kernel
theorem dL_law_436 : decode code 436 = .ok (.iload_n 3, 1) := by decide +kernel
theorem dL_law_437 : decode code 437 = .ok (.iconst 3, 1) := by decide +kernel
theorem dL_law_438 : decode code 438 = .ok (.iadd, 1) := by decide +kernel
theorem dL_law_439 : decode code 439 = .ok (.iaload, 1) := by decide +kernel
theorem dL_law_440 : decode code 440 = .ok (.invokevirtual 47, 3) := by decide +kernel
theorem dL_law_443 : decode code 443 = .ok (.aload_n 2, 1) := by decide +kernel
theorem dL_law_444 : decode code 444 = .ok (.aload_n 0, 1) := by decide +kernel
theorem dL_law_445 : decode code 445 = .ok (.iload_n 3, 1) := by decide +kernel
theorem dL_law_446 : decode code 446 = .ok (.iconst 1, 1) := by decide +kernel
theorem dL_law_447 : decode code 447 = .ok (.iadd, 1) := by decide +kernel
theorem dL_law_448 : decode code 448 = .ok (.iaload, 1) := by decide +kernel
theorem dL_law_449 : decode code 449 = .ok (.aload_n 0, 1) := by decide +kernel
theorem dL_law_450 : decode code 450 = .ok (.iload_n 3, 1) := by decide +kernel
theorem dL_law_451 : decode code 451 = .ok (.iconst 2, 1) := by decide +kernel
theorem dL_law_452 : decode code 452 = .ok (.iadd, 1) := by decide +kernel
theorem dL_law_453 : decode code 453 = .ok (.iaload, 1) := by decide +kernel
theorem dL_law_454 : decode code 454 = .ok (.aload_n 0, 1) := by decide +kernel
theorem dL_law_455 : decode code 455 = .ok (.iload_n 3, 1) := by decide +kernel
theorem dL_law_456 : decode code 456 = .ok (.iconst 3, 1) := by decide +kernel
theorem dL_law_457 : decode code 457 = .ok (.iadd, 1) := by decide +kernel
theorem dL_law_458 : decode code 458 = .ok (.iaload, 1) := by decide +kernel
theorem dL_law_459 : decode code 459 = .ok (.invokevirtual 51, 3) := by decide +kernel
theorem dL_law_462 : decode code 462 = .ok (.if_icmp .eq 884, 3) := by decide +kernel
theorem dL_law_465 : decode code 465 = .ok (.iconst 0, 1) := by decide +kernel
theorem dL_law_466 : decode code 466 = .ok (.ireturn, 1) := by decide +kernel
theorem dL_law_467 : decode code 467 = .ok (.aload_n 1, 1) := by decide +kernel
theorem dL_law_468 : decode code 468 = .ok (.invokevirtual 52, 3) := by decide +kernel
theorem dL_law_471 : decode code 471 = .ok (.aload_n 2, 1) := by decide +kernel
theorem dL_law_472 : decode code 472 = .ok (.invokevirtual 56, 3) := by decide +kernel
theorem dL_law_475 : decode code 475 = .ok (.if_icmp .eq 871, 3) := by decide +kernel
theorem dL_law_478 : decode code 478 = .ok (.iconst 0, 1) := by decide +kernel
theorem dL_law_479 : decode code 479 = .ok (.ireturn, 1) := by decide +kernel
theorem dL_law_480 : decode code 480 = .ok (.aload_n 1, 1) := by decide +kernel
theorem dL_law_481 : decode code 481 = .ok (.aload_n 0, 1) := by decide +kernel
theorem dL_law_482 : decode code 482 = .ok (.iload_n 3, 1) := by decide +kernel
theorem dL_law_483 : decode code 483 = .ok (.iconst 1, 1) := by decide +kernel
theorem dL_law_484 : decode code 484 = .ok (.iadd, 1) := by decide +kernel
theorem dL_law_485 : decode code 485 = .ok (.iaload, 1) := by decide +kernel
theorem dL_law_486 : decode code 486 = .ok (.invokevirtual 57, 3) := by decide +kernel
theorem dL_law_489 : decode code 489 = .ok (.aload_n 2, 1) := by decide +kernel
theorem dL_law_490 : decode code 490 = .ok (.aload_n 0, 1) := by decide +kernel
theorem dL_law_491 : decode code 491 = .ok (.iload_n 3, 1) := by decide +kernel
theorem dL_law_492 : decode code 492 = .ok (.iconst 1, 1) := by decide +kernel
theorem dL_law_493 : decode code 493 = .ok (.iadd, 1) := by decide +kernel
theorem dL_law_494 : decode code 494 = .ok (.iaload, 1) := by decide +kernel
theorem dL_law_495 : decode code 495 = .ok (.invokevirtual 60, 3) := by decide +kernel
theorem dL_law_498 : decode code 498 = .ok (.if_icmp .eq 848, 3) := by decide +kernel
theorem dL_law_501 : decode code 501 = .ok (.iconst 0, 1) := by decide +kernel
theorem dL_law_502 : decode code 502 = .ok (.ireturn, 1) := by decide +kernel
theorem dL_law_503 : decode code 503 = .ok (.aload_n 1, 1) := by decide +kernel
theorem dL_law_504 : decode code 504 = .ok (.aload_n 0, 1) := by decide +kernel
theorem dL_law_505 : decode code 505 = .ok (.iload_n 3, 1) := by decide +kernel
theorem dL_law_506 : decode code 506 = .ok (.iconst 1, 1) := by decide +kernel
theorem dL_law_507 : decode code 507 = .ok (.iadd, 1) := by decide +kernel
theorem dL_law_508 : decode code 508 = .ok (.iaload, 1) := by decide +kernel
theorem dL_law_509 : decode code 509 = .ok (.aload_n 0, 1) := by decide +kernel
theorem dL_law_510 : decode code 510 = .ok (.iload_n 3, 1) := by decide +kernel
theorem dL_law_511 : decode code 511 = .ok (.iconst 2, 1) := by decide +kernel
theorem dL_law_512 : decode code 512 = .ok (.iadd, 1) := by decide +kernel
theorem dL_law_513 : decode code 513 = .ok (.iaload, 1) := by decide +kernel
theorem dL_law_514 : decode code 514 = .ok (.aload_n 0, 1) := by decide +kernel
theorem dL_law_515 : decode code 515 = .ok (.iload_n 3, 1) := by decide +kernel
theorem dL_law_516 : decode code 516 = .ok (.iconst 3, 1) := by decide +kernel
theorem dL_law_517 : decode code 517 = .ok (.iadd, 1) := by decide +kernel
theorem dL_law_518 : decode code 518 = .ok (.iaload, 1) := by decide +kernel
theorem dL_law_519 : decode code 519 = .ok (.invokevirtual 61, 3) := by decide +kernel
theorem dL_law_522 : decode code 522 = .ok (.aload_n 2, 1) := by decide +kernel
theorem dL_law_523 : decode code 523 = .ok (.aload_n 0, 1) := by decide +kernel
theorem dL_law_524 : decode code 524 = .ok (.iload_n 3, 1) := by decide +kernel
theorem dL_law_525 : decode code 525 = .ok (.iconst 1, 1) := by decide +kernel
theorem dL_law_526 : decode code 526 = .ok (.iadd, 1) := by decide +kernel
theorem dL_law_527 : decode code 527 = .ok (.iaload, 1) := by decide +kernel
theorem dL_law_528 : decode code 528 = .ok (.aload_n 0, 1) := by decide +kernel
theorem dL_law_529 : decode code 529 = .ok (.iload_n 3, 1) := by decide +kernel
theorem dL_law_530 : decode code 530 = .ok (.iconst 2, 1) := by decide +kernel
theorem dL_law_531 : decode code 531 = .ok (.iadd, 1) := by decide +kernel
theorem dL_law_532 : decode code 532 = .ok (.iaload, 1) := by decide +kernel
theorem dL_law_533 : decode code 533 = .ok (.aload_n 0, 1) := by decide +kernel
theorem dL_law_534 : decode code 534 = .ok (.iload_n 3, 1) := by decide +kernel
theorem dL_law_535 : decode code 535 = .ok (.iconst 3, 1) := by decide +kernel
theorem dL_law_536 : decode code 536 = .ok (.iadd, 1) := by decide +kernel
theorem dL_law_537 : decode code 537 = .ok (.iaload, 1) := by decide +kernel
theorem dL_law_538 : decode code 538 = .ok (.invokevirtual 64, 3) := by decide +kernel
theorem dL_law_541 : decode code 541 = .ok (.if_icmp .eq 805, 3) := by decide +kernel
theorem dL_law_544 : decode code 544 = .ok (.iconst 0, 1) := by decide +kernel
theorem dL_law_545 : decode code 545 = .ok (.ireturn, 1) := by decide +kernel
theorem dL_law_546 : decode code 546 = .ok (.aload_n 1, 1) := by decide +kernel
theorem dL_law_547 : decode code 547 = .ok (.aload_n 0, 1) := by decide +kernel
theorem dL_law_548 : decode code 548 = .ok (.iload_n 3, 1) := by decide +kernel
theorem dL_law_549 : decode code 549 = .ok (.iconst 1, 1) := by decide +kernel
theorem dL_law_550 : decode code 550 = .ok (.iadd, 1) := by decide +kernel
theorem dL_law_551 : decode code 551 = .ok (.iaload, 1) := by decide +kernel
theorem dL_law_552 : decode code 552 = .ok (.aload_n 0, 1) := by decide +kernel
theorem dL_law_553 : decode code 553 = .ok (.iload_n 3, 1) := by decide +kernel
theorem dL_law_554 : decode code 554 = .ok (.iconst 2, 1) := by decide +kernel
theorem dL_law_555 : decode code 555 = .ok (.iadd, 1) := by decide +kernel
theorem dL_law_556 : decode code 556 = .ok (.iaload, 1) := by decide +kernel
theorem dL_law_557 : decode code 557 = .ok (.aload_n 0, 1) := by decide +kernel
theorem dL_law_558 : decode code 558 = .ok (.iload_n 3, 1) := by decide +kernel
theorem dL_law_559 : decode code 559 = .ok (.iconst 3, 1) := by decide +kernel
theorem dL_law_560 : decode code 560 = .ok (.iadd, 1) := by decide +kernel
theorem dL_law_561 : decode code 561 = .ok (.iaload, 1) := by decide +kernel
theorem dL_law_562 : decode code 562 = .ok (.invokevirtual 65, 3) := by decide +kernel
theorem dL_law_565 : decode code 565 = .ok (.aload_n 2, 1) := by decide +kernel
theorem dL_law_566 : decode code 566 = .ok (.aload_n 0, 1) := by decide +kernel
theorem dL_law_567 : decode code 567 = .ok (.iload_n 3, 1) := by decide +kernel
theorem dL_law_568 : decode code 568 = .ok (.iconst 1, 1) := by decide +kernel
theorem dL_law_569 : decode code 569 = .ok (.iadd, 1) := by decide +kernel
theorem dL_law_570 : decode code 570 = .ok (.iaload, 1) := by decide +kernel
theorem dL_law_571 : decode code 571 = .ok (.aload_n 0, 1) := by decide +kernel
theorem dL_law_572 : decode code 572 = .ok (.iload_n 3, 1) := by decide +kernel
theorem dL_law_573 : decode code 573 = .ok (.iconst 2, 1) := by decide +kernel
theorem dL_law_574 : decode code 574 = .ok (.iadd, 1) := by decide +kernel
theorem dL_law_575 : decode code 575 = .ok (.iaload, 1) := by decide +kernel
theorem dL_law_576 : decode code 576 = .ok (.aload_n 0, 1) := by decide +kernel
theorem dL_law_577 : decode code 577 = .ok (.iload_n 3, 1) := by decide +kernel
theorem dL_law_578 : decode code 578 = .ok (.iconst 3, 1) := by decide +kernel
theorem dL_law_579 : decode code 579 = .ok (.iadd, 1) := by decide +kernel
theorem dL_law_580 : decode code 580 = .ok (.iaload, 1) := by decide +kernel
theorem dL_law_581 : decode code 581 = .ok (.invokevirtual 68, 3) := by decide +kernel
theorem dL_law_584 : decode code 584 = .ok (.if_icmp .eq 762, 3) := by decide +kernel
theorem dL_law_587 : decode code 587 = .ok (.iconst 0, 1) := by decide +kernel
theorem dL_law_588 : decode code 588 = .ok (.ireturn, 1) := by decide +kernel
theorem dL_law_589 : decode code 589 = .ok (.aload_n 1, 1) := by decide +kernel
theorem dL_law_590 : decode code 590 = .ok (.aload_n 0, 1) := by decide +kernel
theorem dL_law_591 : decode code 591 = .ok (.iload_n 3, 1) := by decide +kernel
theorem dL_law_592 : decode code 592 = .ok (.iconst 1, 1) := by decide +kernel
theorem dL_law_593 : decode code 593 = .ok (.iadd, 1) := by decide +kernel
theorem dL_law_594 : decode code 594 = .ok (.iaload, 1) := by decide +kernel
theorem dL_law_595 : decode code 595 = .ok (.aload_n 0, 1) := by decide +kernel
theorem dL_law_596 : decode code 596 = .ok (.iload_n 3, 1) := by decide +kernel
theorem dL_law_597 : decode code 597 = .ok (.iconst 2, 1) := by decide +kernel
theorem dL_law_598 : decode code 598 = .ok (.iadd, 1) := by decide +kernel
theorem dL_law_599 : decode code 599 = .ok (.iaload, 1) := by decide +kernel
theorem dL_law_600 : decode code 600 = .ok (.invokevirtual 69, 3) := by decide +kernel
theorem dL_law_603 : decode code 603 = .ok (.aload_n 2, 1) := by decide +kernel
theorem dL_law_604 : decode code 604 = .ok (.aload_n 0, 1) := by decide +kernel
theorem dL_law_605 : decode code 605 = .ok (.iload_n 3, 1) := by decide +kernel
theorem dL_law_606 : decode code 606 = .ok (.iconst 1, 1) := by decide +kernel
theorem dL_law_607 : decode code 607 = .ok (.iadd, 1) := by decide +kernel
theorem dL_law_608 : decode code 608 = .ok (.iaload, 1) := by decide +kernel
theorem dL_law_609 : decode code 609 = .ok (.aload_n 0, 1) := by decide +kernel
theorem dL_law_610 : decode code 610 = .ok (.iload_n 3, 1) := by decide +kernel
theorem dL_law_611 : decode code 611 = .ok (.iconst 2, 1) := by decide +kernel
theorem dL_law_612 : decode code 612 = .ok (.iadd, 1) := by decide +kernel
theorem dL_law_613 : decode code 613 = .ok (.iaload, 1) := by decide +kernel
theorem dL_law_614 : decode code 614 = .ok (.invokevirtual 72, 3) := by decide +kernel
theorem dL_law_617 : decode code 617 = .ok (.if_icmp .eq 729, 3) := by decide +kernel
theorem dL_law_620 : decode code 620 = .ok (.iconst 0, 1) := by decide +kernel
theorem dL_law_621 : decode code 621 = .ok (.ireturn, 1) := by decide +kernel
theorem dL_law_622 : decode code 622 = .ok (.aload_n 1, 1) := by decide +kernel
theorem dL_law_623 : decode code 623 = .ok (.aload_n 0, 1) := by decide +kernel
theorem dL_law_624 : decode code 624 = .ok (.iload_n 3, 1) := by decide +kernel
theorem dL_law_625 : decode code 625 = .ok (.iconst 1, 1) := by decide +kernel
theorem dL_law_626 : decode code 626 = .ok (.iadd, 1) := by decide +kernel
theorem dL_law_627 : decode code 627 = .ok (.iaload, 1) := by decide +kernel
theorem dL_law_628 : decode code 628 = .ok (.invokevirtual 73, 3) := by decide +kernel
theorem dL_law_631 : decode code 631 = .ok (.aload_n 2, 1) := by decide +kernel
theorem dL_law_632 : decode code 632 = .ok (.aload_n 0, 1) := by decide +kernel
theorem dL_law_633 : decode code 633 = .ok (.iload_n 3, 1) := by decide +kernel
theorem dL_law_634 : decode code 634 = .ok (.iconst 1, 1) := by decide +kernel
theorem dL_law_635 : decode code 635 = .ok (.iadd, 1) := by decide +kernel
theorem dL_law_636 : decode code 636 = .ok (.iaload, 1) := by decide +kernel
theorem dL_law_637 : decode code 637 = .ok (.invokevirtual 76, 3) := by decide +kernel
theorem dL_law_640 : decode code 640 = .ok (.if_icmp .eq 706, 3) := by decide +kernel
theorem dL_law_643 : decode code 643 = .ok (.iconst 0, 1) := by decide +kernel
theorem dL_law_644 : decode code 644 = .ok (.ireturn, 1) := by decide +kernel
theorem dL_law_645 : decode code 645 = .ok (.aload_n 1, 1) := by decide +kernel
theorem dL_law_646 : decode code 646 = .ok (.invokevirtual 77, 3) := by decide +kernel
theorem dL_law_649 : decode code 649 = .ok (.aload_n 2, 1) := by decide +kernel
theorem dL_law_650 : decode code 650 = .ok (.invokevirtual 80, 3) := by decide +kernel
theorem dL_law_653 : decode code 653 = .ok (.if_icmp .eq 693, 3) := by decide +kernel
theorem dL_law_656 : decode code 656 = .ok (.iconst 0, 1) := by decide +kernel
theorem dL_law_657 : decode code 657 = .ok (.ireturn, 1) := by decide +kernel
theorem dL_law_658 : decode code 658 = .ok (.aload_n 1, 1) := by decide +kernel
theorem dL_law_659 : decode code 659 = .ok (.invokevirtual 81, 3) := by decide +kernel
theorem dL_law_662 : decode code 662 = .ok (.aload_n 2, 1) := by decide +kernel
theorem dL_law_663 : decode code 663 = .ok (.invokevirtual 84, 3) := by decide +kernel
theorem dL_law_666 : decode code 666 = .ok (.if_icmp .eq 680, 3) := by decide +kernel
theorem dL_law_669 : decode code 669 = .ok (.iconst 0, 1) := by decide +kernel
theorem dL_law_670 : decode code 670 = .ok (.ireturn, 1) := by decide +kernel
theorem dL_law_671 : decode code 671 = .ok (.aload_n 1, 1) := by decide +kernel
theorem dL_law_672 : decode code 672 = .ok (.aload_n 0, 1) := by decide +kernel
theorem dL_law_673 : decode code 673 = .ok (.iload_n 3, 1) := by decide +kernel
theorem dL_law_674 : decode code 674 = .ok (.iconst 1, 1) := by decide +kernel
theorem dL_law_675 : decode code 675 = .ok (.iadd, 1) := by decide +kernel
theorem dL_law_676 : decode code 676 = .ok (.iaload, 1) := by decide +kernel
theorem dL_law_677 : decode code 677 = .ok (.invokevirtual 85, 3) := by decide +kernel
theorem dL_law_680 : decode code 680 = .ok (.aload_n 2, 1) := by decide +kernel
theorem dL_law_681 : decode code 681 = .ok (.aload_n 0, 1) := by decide +kernel
theorem dL_law_682 : decode code 682 = .ok (.iload_n 3, 1) := by decide +kernel
theorem dL_law_683 : decode code 683 = .ok (.iconst 1, 1) := by decide +kernel
theorem dL_law_684 : decode code 684 = .ok (.iadd, 1) := by decide +kernel
theorem dL_law_685 : decode code 685 = .ok (.iaload, 1) := by decide +kernel
theorem dL_law_686 : decode code 686 = .ok (.invokevirtual 88, 3) := by decide +kernel
theorem dL_law_689 : decode code 689 = .ok (.if_icmp .eq 657, 3) := by decide +kernel
theorem dL_law_692 : decode code 692 = .ok (.iconst 0, 1) := by decide +kernel
theorem dL_law_693 : decode code 693 = .ok (.ireturn, 1) := by decide +kernel
theorem dL_law_694 : decode code 694 = .ok (.aload_n 1, 1) := by decide +kernel
theorem dL_law_695 : decode code 695 = .ok (.aload_n 0, 1) := by decide +kernel
theorem dL_law_696 : decode code 696 = .ok (.iload_n 3, 1) := by decide +kernel
theorem dL_law_697 : decode code 697 = .ok (.iconst 1, 1) := by decide +kernel
theorem dL_law_698 : decode code 698 = .ok (.iadd, 1) := by decide +kernel
theorem dL_law_699 : decode code 699 = .ok (.iaload, 1) := by decide +kernel
theorem dL_law_700 : decode code 700 = .ok (.aload_n 0, 1) := by decide +kernel
theorem dL_law_701 : decode code 701 = .ok (.iload_n 3, 1) := by decide +kernel
theorem dL_law_702 : decode code 702 = .ok (.iconst 2, 1) := by decide +kernel
theorem dL_law_703 : decode code 703 = .ok (.iadd, 1) := by decide +kernel
theorem dL_law_704 : decode code 704 = .ok (.iaload, 1) := by decide +kernel
theorem dL_law_705 : decode code 705 = .ok (.invokevirtual 89, 3) := by decide +kernel
theorem dL_law_708 : decode code 708 = .ok (.aload_n 2, 1) := by decide +kernel
theorem dL_law_709 : decode code 709 = .ok (.aload_n 0, 1) := by decide +kernel
theorem dL_law_710 : decode code 710 = .ok (.iload_n 3, 1) := by decide +kernel
theorem dL_law_711 : decode code 711 = .ok (.iconst 1, 1) := by decide +kernel
theorem dL_law_712 : decode code 712 = .ok (.iadd, 1) := by decide +kernel
theorem dL_law_713 : decode code 713 = .ok (.iaload, 1) := by decide +kernel
theorem dL_law_714 : decode code 714 = .ok (.aload_n 0, 1) := by decide +kernel
theorem dL_law_715 : decode code 715 = .ok (.iload_n 3, 1) := by decide +kernel
theorem dL_law_716 : decode code 716 = .ok (.iconst 2, 1) := by decide +kernel
theorem dL_law_717 : decode code 717 = .ok (.iadd, 1) := by decide +kernel
theorem dL_law_718 : decode code 718 = .ok (.iaload, 1) := by decide +kernel
theorem dL_law_719 : decode code 719 = .ok (.invokevirtual 92, 3) := by decide +kernel
theorem dL_law_722 : decode code 722 = .ok (.if_icmp .eq 624, 3) := by decide +kernel
theorem dL_law_725 : decode code 725 = .ok (.iconst 0, 1) := by decide +kernel
theorem dL_law_726 : decode code 726 = .ok (.ireturn, 1) := by decide +kernel
theorem dL_law_727 : decode code 727 = .ok (.aload_n 1, 1) := by decide +kernel
theorem dL_law_728 : decode code 728 = .ok (.aload_n 0, 1) := by decide +kernel
theorem dL_law_729 : decode code 729 = .ok (.iload_n 3, 1) := by decide +kernel
theorem dL_law_730 : decode code 730 = .ok (.iconst 1, 1) := by decide +kernel
theorem dL_law_731 : decode code 731 = .ok (.iadd, 1) := by decide +kernel
theorem dL_law_732 : decode code 732 = .ok (.iaload, 1) := by decide +kernel
theorem dL_law_733 : decode code 733 = .ok (.aload_n 0, 1) := by decide +kernel
theorem dL_law_734 : decode code 734 = .ok (.iload_n 3, 1) := by decide +kernel
theorem dL_law_735 : decode code 735 = .ok (.iconst 2, 1) := by decide +kernel
theorem dL_law_736 : decode code 736 = .ok (.iadd, 1) := by decide +kernel
theorem dL_law_737 : decode code 737 = .ok (.iaload, 1) := by decide +kernel
theorem dL_law_738 : decode code 738 = .ok (.invokevirtual 93, 3) := by decide +kernel
theorem dL_law_741 : decode code 741 = .ok (.aload_n 2, 1) := by decide +kernel
theorem dL_law_742 : decode code 742 = .ok (.aload_n 0, 1) := by decide +kernel
theorem dL_law_743 : decode code 743 = .ok (.iload_n 3, 1) := by decide +kernel
theorem dL_law_744 : decode code 744 = .ok (.iconst 1, 1) := by decide +kernel
theorem dL_law_745 : decode code 745 = .ok (.iadd, 1) := by decide +kernel
theorem dL_law_746 : decode code 746 = .ok (.iaload, 1) := by decide +kernel
theorem dL_law_747 : decode code 747 = .ok (.aload_n 0, 1) := by decide +kernel
theorem dL_law_748 : decode code 748 = .ok (.iload_n 3, 1) := by decide +kernel
theorem dL_law_749 : decode code 749 = .ok (.iconst 2, 1) := by decide +kernel
theorem dL_law_750 : decode code 750 = .ok (.iadd, 1) := by decide +kernel
theorem dL_law_751 : decode code 751 = .ok (.iaload, 1) := by decide +kernel
theorem dL_law_752 : decode code 752 = .ok (.invokevirtual 96, 3) := by decide +kernel
theorem dL_law_755 : decode code 755 = .ok (.if_icmp .eq 591, 3) := by decide +kernel
theorem dL_law_758 : decode code 758 = .ok (.iconst 0, 1) := by decide +kernel
theorem dL_law_759 : decode code 759 = .ok (.ireturn, 1) := by decide +kernel
theorem dL_law_760 : decode code 760 = .ok (.aload_n 1, 1) := by decide +kernel
theorem dL_law_761 : decode code 761 = .ok (.aload_n 0, 1) := by decide +kernel
theorem dL_law_762 : decode code 762 = .ok (.iload_n 3, 1) := by decide +kernel
theorem dL_law_763 : decode code 763 = .ok (.iconst 1, 1) := by decide +kernel
theorem dL_law_764 : decode code 764 = .ok (.iadd, 1) := by decide +kernel
theorem dL_law_765 : decode code 765 = .ok (.iaload, 1) := by decide +kernel
theorem dL_law_766 : decode code 766 = .ok (.aload_n 0, 1) := by decide +kernel
theorem dL_law_767 : decode code 767 = .ok (.iload_n 3, 1) := by decide +kernel
theorem dL_law_768 : decode code 768 = .ok (.iconst 2, 1) := by decide +kernel
theorem dL_law_769 : decode code 769 = .ok (.iadd, 1) := by decide +kernel
theorem dL_law_770 : decode code 770 = .ok (.iaload, 1) := by decide +kernel
theorem dL_law_771 : decode code 771 = .ok (.invokevirtual 97, 3) := by decide +kernel
theorem dL_law_774 : decode code 774 = .ok (.aload_n 2, 1) := by decide +kernel
theorem dL_law_775 : decode code 775 = .ok (.aload_n 0, 1) := by decide +kernel
theorem dL_law_776 : decode code 776 = .ok (.iload_n 3, 1) := by decide +kernel
theorem dL_law_777 : decode code 777 = .ok (.iconst 1, 1) := by decide +kernel
theorem dL_law_778 : decode code 778 = .ok (.iadd, 1) := by decide +kernel
theorem dL_law_779 : decode code 779 = .ok (.iaload, 1) := by decide +kernel
theorem dL_law_780 : decode code 780 = .ok (.aload_n 0, 1) := by decide +kernel
theorem dL_law_781 : decode code 781 = .ok (.iload_n 3, 1) := by decide +kernel
theorem dL_law_782 : decode code 782 = .ok (.iconst 2, 1) := by decide +kernel
theorem dL_law_783 : decode code 783 = .ok (.iadd, 1) := by decide +kernel
theorem dL_law_784 : decode code 784 = .ok (.iaload, 1) := by decide +kernel
theorem dL_law_785 : decode code 785 = .ok (.invokevirtual 100, 3) := by decide +kernel
theorem dL_law_788 : decode code 788 = .ok (.if_icmp .eq 558, 3) := by decide +kernel
theorem dL_law_791 : decode code 791 = .ok (.iconst 0, 1) := by decide +kernel
theorem dL_law_792 : decode code 792 = .ok (.ireturn, 1) := by decide +kernel
theorem dL_law_793 : decode code 793 = .ok (.aload_n 1, 1) := by decide +kernel
theorem dL_law_794 : decode code 794 = .ok (.aload_n 0, 1) := by decide +kernel
theorem dL_law_795 : decode code 795 = .ok (.iload_n 3, 1) := by decide +kernel
theorem dL_law_796 : decode code 796 = .ok (.iconst 1, 1) := by decide +kernel
theorem dL_law_797 : decode code 797 = .ok (.iadd, 1) := by decide +kernel
theorem dL_law_798 : decode code 798 = .ok (.iaload, 1) := by decide +kernel
theorem dL_law_799 : decode code 799 = .ok (.invokevirtual 101, 3) := by decide +kernel
theorem dL_law_802 : decode code 802 = .ok (.aload_n 2, 1) := by decide +kernel
theorem dL_law_803 : decode code 803 = .ok (.aload_n 0, 1) := by decide +kernel
theorem dL_law_804 : decode code 804 = .ok (.iload_n 3, 1) := by decide +kernel
theorem dL_law_805 : decode code 805 = .ok (.iconst 1, 1) := by decide +kernel
theorem dL_law_806 : decode code 806 = .ok (.iadd, 1) := by decide +kernel
theorem dL_law_807 : decode code 807 = .ok (.iaload, 1) := by decide +kernel
theorem dL_law_808 : decode code 808 = .ok (.invokevirtual 104, 3) := by decide +kernel
theorem dL_law_811 : decode code 811 = .ok (.if_icmp .eq 535, 3) := by decide +kernel
theorem dL_law_814 : decode code 814 = .ok (.iconst 0, 1) := by decide +kernel
theorem dL_law_815 : decode code 815 = .ok (.ireturn, 1) := by decide +kernel
theorem dL_law_816 : decode code 816 = .ok (.aload_n 1, 1) := by decide +kernel
theorem dL_law_817 : decode code 817 = .ok (.aload_n 0, 1) := by decide +kernel
theorem dL_law_818 : decode code 818 = .ok (.iload_n 3, 1) := by decide +kernel
theorem dL_law_819 : decode code 819 = .ok (.iconst 1, 1) := by decide +kernel
theorem dL_law_820 : decode code 820 = .ok (.iadd, 1) := by decide +kernel
theorem dL_law_821 : decode code 821 = .ok (.iaload, 1) := by decide +kernel
theorem dL_law_822 : decode code 822 = .ok (.aload_n 0, 1) := by decide +kernel
theorem dL_law_823 : decode code 823 = .ok (.iload_n 3, 1) := by decide +kernel
theorem dL_law_824 : decode code 824 = .ok (.iconst 2, 1) := by decide +kernel
theorem dL_law_825 : decode code 825 = .ok (.iadd, 1) := by decide +kernel
theorem dL_law_826 : decode code 826 = .ok (.iaload, 1) := by decide +kernel
theorem dL_law_827 : decode code 827 = .ok (.aload_n 0, 1) := by decide +kernel
theorem dL_law_828 : decode code 828 = .ok (.iload_n 3, 1) := by decide +kernel
theorem dL_law_829 : decode code 829 = .ok (.iconst 3, 1) := by decide +kernel
theorem dL_law_830 : decode code 830 = .ok (.iadd, 1) := by decide +kernel
theorem dL_law_831 : decode code 831 = .ok (.iaload, 1) := by decide +kernel
theorem dL_law_832 : decode code 832 = .ok (.aload_n 0, 1) := by decide +kernel
theorem dL_law_833 : decode code 833 = .ok (.iload_n 3, 1) := by decide +kernel
theorem dL_law_834 : decode code 834 = .ok (.iconst 4, 1) := by decide +kernel
theorem dL_law_835 : decode code 835 = .ok (.iadd, 1) := by decide +kernel
theorem dL_law_836 : decode code 836 = .ok (.iaload, 1) := by decide +kernel
theorem dL_law_837 : decode code 837 = .ok (.invokevirtual 105, 3) := by decide +kernel
theorem dL_law_840 : decode code 840 = .ok (.aload_n 2, 1) := by decide +kernel
theorem dL_law_841 : decode code 841 = .ok (.aload_n 0, 1) := by decide +kernel
theorem dL_law_842 : decode code 842 = .ok (.iload_n 3, 1) := by decide +kernel
theorem dL_law_843 : decode code 843 = .ok (.iconst 1, 1) := by decide +kernel
theorem dL_law_844 : decode code 844 = .ok (.iadd, 1) := by decide +kernel
theorem dL_law_845 : decode code 845 = .ok (.iaload, 1) := by decide +kernel
theorem dL_law_846 : decode code 846 = .ok (.aload_n 0, 1) := by decide +kernel
theorem dL_law_847 : decode code 847 = .ok (.iload_n 3, 1) := by decide +kernel
theorem dL_law_848 : decode code 848 = .ok (.iconst 2, 1) := by decide +kernel
theorem dL_law_849 : decode code 849 = .ok (.iadd, 1) := by decide +kernel
theorem dL_law_850 : decode code 850 = .ok (.iaload, 1) := by decide +kernel
theorem dL_law_851 : decode code 851 = .ok (.aload_n 0, 1) := by decide +kernel
theorem dL_law_852 : decode code 852 = .ok (.iload_n 3, 1) := by decide +kernel
theorem dL_law_853 : decode code 853 = .ok (.iconst 3, 1) := by decide +kernel
theorem dL_law_854 : decode code 854 = .ok (.iadd, 1) := by decide +kernel
theorem dL_law_855 : decode code 855 = .ok (.iaload, 1) := by decide +kernel
theorem dL_law_856 : decode code 856 = .ok (.aload_n 0, 1) := by decide +kernel
theorem dL_law_857 : decode code 857 = .ok (.iload_n 3, 1) := by decide +kernel
theorem dL_law_858 : decode code 858 = .ok (.iconst 4, 1) := by decide +kernel
theorem dL_law_859 : decode code 859 = .ok (.iadd, 1) := by decide +kernel
theorem dL_law_860 : decode code 860 = .ok (.iaload, 1) := by decide +kernel
theorem dL_law_861 : decode code 861 = .ok (.invokevirtual 109, 3) := by decide +kernel
theorem dL_law_864 : decode code 864 = .ok (.if_icmp .eq 482, 3) := by decide +kernel
theorem dL_law_867 : decode code 867 = .ok (.iconst 0, 1) := by decide +kernel
theorem dL_law_868 : decode code 868 = .ok (.ireturn, 1) := by decide +kernel
theorem dL_law_869 : decode code 869 = .ok (.aload_n 1, 1) := by decide +kernel
theorem dL_law_870 : decode code 870 = .ok (.invokevirtual 110, 3) := by decide +kernel
theorem dL_law_873 : decode code 873 = .ok (.aload_n 2, 1) := by decide +kernel
theorem dL_law_874 : decode code 874 = .ok (.invokevirtual 113, 3) := by decide +kernel
theorem dL_law_877 : decode code 877 = .ok (.if_icmp .eq 469, 3) := by decide +kernel
theorem dL_law_880 : decode code 880 = .ok (.iconst 0, 1) := by decide +kernel
theorem dL_law_881 : decode code 881 = .ok (.ireturn, 1) := by decide +kernel
theorem dL_law_882 : decode code 882 = .ok (.aload_n 1, 1) := by decide +kernel
theorem dL_law_883 : decode code 883 = .ok (.invokevirtual 114, 3) := by decide +kernel
theorem dL_law_886 : decode code 886 = .ok (.aload_n 2, 1) := by decide +kernel
theorem dL_law_887 : decode code 887 = .ok (.invokevirtual 117, 3) := by decide +kernel
theorem dL_law_890 : decode code 890 = .ok (.if_icmp .eq 456, 3) := by decide +kernel
theorem dL_law_893 : decode code 893 = .ok (.iconst 0, 1) := by decide +kernel
theorem dL_law_894 : decode code 894 = .ok (.ireturn, 1) := by decide +kernel
theorem dL_law_895 : decode code 895 = .ok (.aload_n 1, 1) := by decide +kernel
theorem dL_law_896 : decode code 896 = .ok (.aload_n 0, 1) := by decide +kernel
theorem dL_law_897 : decode code 897 = .ok (.iload_n 3, 1) := by decide +kernel
theorem dL_law_898 : decode code 898 = .ok (.iconst 1, 1) := by decide +kernel
theorem dL_law_899 : decode code 899 = .ok (.iadd, 1) := by decide +kernel
theorem dL_law_900 : decode code 900 = .ok (.iaload, 1) := by decide +kernel
theorem dL_law_901 : decode code 901 = .ok (.invokevirtual 118, 3) := by decide +kernel
theorem dL_law_904 : decode code 904 = .ok (.aload_n 2, 1) := by decide +kernel
theorem dL_law_905 : decode code 905 = .ok (.aload_n 0, 1) := by decide +kernel
theorem dL_law_906 : decode code 906 = .ok (.iload_n 3, 1) := by decide +kernel
theorem dL_law_907 : decode code 907 = .ok (.iconst 1, 1) := by decide +kernel
theorem dL_law_908 : decode code 908 = .ok (.iadd, 1) := by decide +kernel
theorem dL_law_909 : decode code 909 = .ok (.iaload, 1) := by decide +kernel
theorem dL_law_910 : decode code 910 = .ok (.invokevirtual 121, 3) := by decide +kernel
theorem dL_law_913 : decode code 913 = .ok (.if_icmp .eq 433, 3) := by decide +kernel
theorem dL_law_916 : decode code 916 = .ok (.iconst 0, 1) := by decide +kernel
theorem dL_law_917 : decode code 917 = .ok (.ireturn, 1) := by decide +kernel
theorem dL_law_918 : decode code 918 = .ok (.aload_n 1, 1) := by decide +kernel
theorem dL_law_919 : decode code 919 = .ok (.aload_n 0, 1) := by decide +kernel
theorem dL_law_920 : decode code 920 = .ok (.iload_n 3, 1) := by decide +kernel
theorem dL_law_921 : decode code 921 = .ok (.iconst 1, 1) := by decide +kernel
theorem dL_law_922 : decode code 922 = .ok (.iadd, 1) := by decide +kernel
theorem dL_law_923 : decode code 923 = .ok (.iaload, 1) := by decide +kernel
theorem dL_law_924 : decode code 924 = .ok (.invokevirtual 122, 3) := by decide +kernel
theorem dL_law_927 : decode code 927 = .ok (.aload_n 2, 1) := by decide +kernel
theorem dL_law_928 : decode code 928 = .ok (.aload_n 0, 1) := by decide +kernel
theorem dL_law_929 : decode code 929 = .ok (.iload_n 3, 1) := by decide +kernel
theorem dL_law_930 : decode code 930 = .ok (.iconst 1, 1) := by decide +kernel
theorem dL_law_931 : decode code 931 = .ok (.iadd, 1) := by decide +kernel
theorem dL_law_932 : decode code 932 = .ok (.iaload, 1) := by decide +kernel
theorem dL_law_933 : decode code 933 = .ok (.invokevirtual 125, 3) := by decide +kernel
theorem dL_law_936 : decode code 936 = .ok (.if_icmp .eq 410, 3) := by decide +kernel
theorem dL_law_939 : decode code 939 = .ok (.iconst 0, 1) := by decide +kernel
theorem dL_law_940 : decode code 940 = .ok (.ireturn, 1) := by decide +kernel
theorem dL_law_941 : decode code 941 = .ok (.aload_n 1, 1) := by decide +kernel
theorem dL_law_942 : decode code 942 = .ok (.aload_n 0, 1) := by decide +kernel
theorem dL_law_943 : decode code 943 = .ok (.iload_n 3, 1) := by decide +kernel
theorem dL_law_944 : decode code 944 = .ok (.iconst 1, 1) := by decide +kernel
theorem dL_law_945 : decode code 945 = .ok (.iadd, 1) := by decide +kernel
theorem dL_law_946 : decode code 946 = .ok (.iaload, 1) := by decide +kernel
theorem dL_law_947 : decode code 947 = .ok (.invokevirtual 126, 3) := by decide +kernel
theorem dL_law_950 : decode code 950 = .ok (.aload_n 2, 1) := by decide +kernel
theorem dL_law_951 : decode code 951 = .ok (.aload_n 0, 1) := by decide +kernel
theorem dL_law_952 : decode code 952 = .ok (.iload_n 3, 1) := by decide +kernel
theorem dL_law_953 : decode code 953 = .ok (.iconst 1, 1) := by decide +kernel
theorem dL_law_954 : decode code 954 = .ok (.iadd, 1) := by decide +kernel
theorem dL_law_955 : decode code 955 = .ok (.iaload, 1) := by decide +kernel
theorem dL_law_956 : decode code 956 = .ok (.invokevirtual 129, 3) := by decide +kernel
theorem dL_law_959 : decode code 959 = .ok (.if_icmp .eq 387, 3) := by decide +kernel
theorem dL_law_962 : decode code 962 = .ok (.iconst 0, 1) := by decide +kernel
theorem dL_law_963 : decode code 963 = .ok (.ireturn, 1) := by decide +kernel
theorem dL_law_964 : decode code 964 = .ok (.aload_n 1, 1) := by decide +kernel
theorem dL_law_965 : decode code 965 = .ok (.aload_n 0, 1) := by decide +kernel
theorem dL_law_966 : decode code 966 = .ok (.iload_n 3, 1) := by decide +kernel
theorem dL_law_967 : decode code 967 = .ok (.iconst 1, 1) := by decide +kernel
theorem dL_law_968 : decode code 968 = .ok (.iadd, 1) := by decide +kernel
theorem dL_law_969 : decode code 969 = .ok (.iaload, 1) := by decide +kernel
theorem dL_law_970 : decode code 970 = .ok (.aload_n 0, 1) := by decide +kernel
theorem dL_law_971 : decode code 971 = .ok (.iload_n 3, 1) := by decide +kernel
theorem dL_law_972 : decode code 972 = .ok (.iconst 2, 1) := by decide +kernel
theorem dL_law_973 : decode code 973 = .ok (.iadd, 1) := by decide +kernel
theorem dL_law_974 : decode code 974 = .ok (.iaload, 1) := by decide +kernel
theorem dL_law_975 : decode code 975 = .ok (.aload_n 0, 1) := by decide +kernel
theorem dL_law_976 : decode code 976 = .ok (.iload_n 3, 1) := by decide +kernel
theorem dL_law_977 : decode code 977 = .ok (.iconst 3, 1) := by decide +kernel
theorem dL_law_978 : decode code 978 = .ok (.iadd, 1) := by decide +kernel
theorem dL_law_979 : decode code 979 = .ok (.iaload, 1) := by decide +kernel
theorem dL_law_980 : decode code 980 = .ok (.invokevirtual 130, 3) := by decide +kernel
theorem dL_law_983 : decode code 983 = .ok (.aload_n 2, 1) := by decide +kernel
theorem dL_law_984 : decode code 984 = .ok (.aload_n 0, 1) := by decide +kernel
theorem dL_law_985 : decode code 985 = .ok (.iload_n 3, 1) := by decide +kernel
theorem dL_law_986 : decode code 986 = .ok (.iconst 1, 1) := by decide +kernel
theorem dL_law_987 : decode code 987 = .ok (.iadd, 1) := by decide +kernel
theorem dL_law_988 : decode code 988 = .ok (.iaload, 1) := by decide +kernel
theorem dL_law_989 : decode code 989 = .ok (.aload_n 0, 1) := by decide +kernel
theorem dL_law_990 : decode code 990 = .ok (.iload_n 3, 1) := by decide +kernel
theorem dL_law_991 : decode code 991 = .ok (.iconst 2, 1) := by decide +kernel
theorem dL_law_992 : decode code 992 = .ok (.iadd, 1) := by decide +kernel
theorem dL_law_993 : decode code 993 = .ok (.iaload, 1) := by decide +kernel
theorem dL_law_994 : decode code 994 = .ok (.aload_n 0, 1) := by decide +kernel
theorem dL_law_995 : decode code 995 = .ok (.iload_n 3, 1) := by decide +kernel
theorem dL_law_996 : decode code 996 = .ok (.iconst 3, 1) := by decide +kernel
theorem dL_law_997 : decode code 997 = .ok (.iadd, 1) := by decide +kernel
theorem dL_law_998 : decode code 998 = .ok (.iaload, 1) := by decide +kernel
theorem dL_law_999 : decode code 999 = .ok (.invokevirtual 134, 3) := by decide +kernel
theorem dL_law_1002 : decode code 1002 = .ok (.lcmp, 1) := by decide +kernel
theorem dL_law_1003 : decode code 1003 = .ok (.ifCond .eq 343, 3) := by decide +kernel
theorem dL_law_1006 : decode code 1006 = .ok (.iconst 0, 1) := by decide +kernel
theorem dL_law_1007 : decode code 1007 = .ok (.ireturn, 1) := by decide +kernel
theorem dL_law_1008 : decode code 1008 = .ok (.aload_n 1, 1) := by decide +kernel
theorem dL_law_1009 : decode code 1009 = .ok (.aload_n 0, 1) := by decide +kernel
theorem dL_law_1010 : decode code 1010 = .ok (.iload_n 3, 1) := by decide +kernel
theorem dL_law_1011 : decode code 1011 = .ok (.iconst 1, 1) := by decide +kernel
theorem dL_law_1012 : decode code 1012 = .ok (.iadd, 1) := by decide +kernel
theorem dL_law_1013 : decode code 1013 = .ok (.iaload, 1) := by decide +kernel
theorem dL_law_1014 : decode code 1014 = .ok (.aload_n 0, 1) := by decide +kernel
theorem dL_law_1015 : decode code 1015 = .ok (.iload_n 3, 1) := by decide +kernel
theorem dL_law_1016 : decode code 1016 = .ok (.iconst 2, 1) := by decide +kernel
theorem dL_law_1017 : decode code 1017 = .ok (.iadd, 1) := by decide +kernel
theorem dL_law_1018 : decode code 1018 = .ok (.iaload, 1) := by decide +kernel
theorem dL_law_1019 : decode code 1019 = .ok (.aload_n 0, 1) := by decide +kernel
theorem dL_law_1020 : decode code 1020 = .ok (.iload_n 3, 1) := by decide +kernel
theorem dL_law_1021 : decode code 1021 = .ok (.iconst 3, 1) := by decide +kernel
theorem dL_law_1022 : decode code 1022 = .ok (.iadd, 1) := by decide +kernel
theorem dL_law_1023 : decode code 1023 = .ok (.iaload, 1) := by decide +kernel
theorem dL_law_1024 : decode code 1024 = .ok (.invokevirtual 135, 3) := by decide +kernel
theorem dL_law_1027 : decode code 1027 = .ok (.aload_n 2, 1) := by decide +kernel
theorem dL_law_1028 : decode code 1028 = .ok (.aload_n 0, 1) := by decide +kernel
theorem dL_law_1029 : decode code 1029 = .ok (.iload_n 3, 1) := by decide +kernel
theorem dL_law_1030 : decode code 1030 = .ok (.iconst 1, 1) := by decide +kernel
theorem dL_law_1031 : decode code 1031 = .ok (.iadd, 1) := by decide +kernel
theorem dL_law_1032 : decode code 1032 = .ok (.iaload, 1) := by decide +kernel
theorem dL_law_1033 : decode code 1033 = .ok (.aload_n 0, 1) := by decide +kernel
theorem dL_law_1034 : decode code 1034 = .ok (.iload_n 3, 1) := by decide +kernel
theorem dL_law_1035 : decode code 1035 = .ok (.iconst 2, 1) := by decide +kernel
theorem dL_law_1036 : decode code 1036 = .ok (.iadd, 1) := by decide +kernel
theorem dL_law_1037 : decode code 1037 = .ok (.iaload, 1) := by decide +kernel
theorem dL_law_1038 : decode code 1038 = .ok (.aload_n 0, 1) := by decide +kernel
theorem dL_law_1039 : decode code 1039 = .ok (.iload_n 3, 1) := by decide +kernel
theorem dL_law_1040 : decode code 1040 = .ok (.iconst 3, 1) := by decide +kernel
theorem dL_law_1041 : decode code 1041 = .ok (.iadd, 1) := by decide +kernel
theorem dL_law_1042 : decode code 1042 = .ok (.iaload, 1) := by decide +kernel
theorem dL_law_1043 : decode code 1043 = .ok (.invokevirtual 138, 3) := by decide +kernel
theorem dL_law_1046 : decode code 1046 = .ok (.if_icmp .eq 300, 3) := by decide +kernel
theorem dL_law_1049 : decode code 1049 = .ok (.iconst 0, 1) := by decide +kernel
theorem dL_law_1050 : decode code 1050 = .ok (.ireturn, 1) := by decide +kernel
theorem dL_law_1051 : decode code 1051 = .ok (.aload_n 1, 1) := by decide +kernel
theorem dL_law_1052 : decode code 1052 = .ok (.aload_n 0, 1) := by decide +kernel
theorem dL_law_1053 : decode code 1053 = .ok (.iload_n 3, 1) := by decide +kernel
theorem dL_law_1054 : decode code 1054 = .ok (.iconst 1, 1) := by decide +kernel
theorem dL_law_1055 : decode code 1055 = .ok (.iadd, 1) := by decide +kernel
theorem dL_law_1056 : decode code 1056 = .ok (.iaload, 1) := by decide +kernel
theorem dL_law_1057 : decode code 1057 = .ok (.aload_n 0, 1) := by decide +kernel
theorem dL_law_1058 : decode code 1058 = .ok (.iload_n 3, 1) := by decide +kernel
theorem dL_law_1059 : decode code 1059 = .ok (.iconst 2, 1) := by decide +kernel
theorem dL_law_1060 : decode code 1060 = .ok (.iadd, 1) := by decide +kernel
theorem dL_law_1061 : decode code 1061 = .ok (.iaload, 1) := by decide +kernel
theorem dL_law_1062 : decode code 1062 = .ok (.aload_n 0, 1) := by decide +kernel
theorem dL_law_1063 : decode code 1063 = .ok (.iload_n 3, 1) := by decide +kernel
theorem dL_law_1064 : decode code 1064 = .ok (.iconst 3, 1) := by decide +kernel
theorem dL_law_1065 : decode code 1065 = .ok (.iadd, 1) := by decide +kernel
theorem dL_law_1066 : decode code 1066 = .ok (.iaload, 1) := by decide +kernel
theorem dL_law_1067 : decode code 1067 = .ok (.invokevirtual 139, 3) := by decide +kernel
theorem dL_law_1070 : decode code 1070 = .ok (.aload_n 2, 1) := by decide +kernel
theorem dL_law_1071 : decode code 1071 = .ok (.aload_n 0, 1) := by decide +kernel
theorem dL_law_1072 : decode code 1072 = .ok (.iload_n 3, 1) := by decide +kernel
theorem dL_law_1073 : decode code 1073 = .ok (.iconst 1, 1) := by decide +kernel
theorem dL_law_1074 : decode code 1074 = .ok (.iadd, 1) := by decide +kernel
theorem dL_law_1075 : decode code 1075 = .ok (.iaload, 1) := by decide +kernel
theorem dL_law_1076 : decode code 1076 = .ok (.aload_n 0, 1) := by decide +kernel
theorem dL_law_1077 : decode code 1077 = .ok (.iload_n 3, 1) := by decide +kernel
theorem dL_law_1078 : decode code 1078 = .ok (.iconst 2, 1) := by decide +kernel
theorem dL_law_1079 : decode code 1079 = .ok (.iadd, 1) := by decide +kernel
theorem dL_law_1080 : decode code 1080 = .ok (.iaload, 1) := by decide +kernel
theorem dL_law_1081 : decode code 1081 = .ok (.aload_n 0, 1) := by decide +kernel
theorem dL_law_1082 : decode code 1082 = .ok (.iload_n 3, 1) := by decide +kernel
theorem dL_law_1083 : decode code 1083 = .ok (.iconst 3, 1) := by decide +kernel
theorem dL_law_1084 : decode code 1084 = .ok (.iadd, 1) := by decide +kernel
theorem dL_law_1085 : decode code 1085 = .ok (.iaload, 1) := by decide +kernel
theorem dL_law_1086 : decode code 1086 = .ok (.invokevirtual 142, 3) := by decide +kernel
theorem dL_law_1089 : decode code 1089 = .ok (.if_icmp .eq 257, 3) := by decide +kernel
theorem dL_law_1092 : decode code 1092 = .ok (.iconst 0, 1) := by decide +kernel
theorem dL_law_1093 : decode code 1093 = .ok (.ireturn, 1) := by decide +kernel
theorem dL_law_1094 : decode code 1094 = .ok (.aload_n 1, 1) := by decide +kernel
theorem dL_law_1095 : decode code 1095 = .ok (.aload_n 0, 1) := by decide +kernel
theorem dL_law_1096 : decode code 1096 = .ok (.iload_n 3, 1) := by decide +kernel
theorem dL_law_1097 : decode code 1097 = .ok (.iconst 1, 1) := by decide +kernel
theorem dL_law_1098 : decode code 1098 = .ok (.iadd, 1) := by decide +kernel
theorem dL_law_1099 : decode code 1099 = .ok (.iaload, 1) := by decide +kernel
theorem dL_law_1100 : decode code 1100 = .ok (.invokevirtual 143, 3) := by decide +kernel
theorem dL_law_1103 : decode code 1103 = .ok (.aload_n 2, 1) := by decide +kernel
theorem dL_law_1104 : decode code 1104 = .ok (.aload_n 0, 1) := by decide +kernel
theorem dL_law_1105 : decode code 1105 = .ok (.iload_n 3, 1) := by decide +kernel
theorem dL_law_1106 : decode code 1106 = .ok (.iconst 1, 1) := by decide +kernel
theorem dL_law_1107 : decode code 1107 = .ok (.iadd, 1) := by decide +kernel
theorem dL_law_1108 : decode code 1108 = .ok (.iaload, 1) := by decide +kernel
theorem dL_law_1109 : decode code 1109 = .ok (.invokevirtual 146, 3) := by decide +kernel
theorem dL_law_1112 : decode code 1112 = .ok (.if_icmp .eq 234, 3) := by decide +kernel
theorem dL_law_1115 : decode code 1115 = .ok (.iconst 0, 1) := by decide +kernel
theorem dL_law_1116 : decode code 1116 = .ok (.ireturn, 1) := by decide +kernel
theorem dL_law_1117 : decode code 1117 = .ok (.aload_n 1, 1) := by decide +kernel
theorem dL_law_1118 : decode code 1118 = .ok (.aload_n 0, 1) := by decide +kernel
theorem dL_law_1119 : decode code 1119 = .ok (.iload_n 3, 1) := by decide +kernel
theorem dL_law_1120 : decode code 1120 = .ok (.iconst 1, 1) := by decide +kernel
theorem dL_law_1121 : decode code 1121 = .ok (.iadd, 1) := by decide +kernel
theorem dL_law_1122 : decode code 1122 = .ok (.iaload, 1) := by decide +kernel
theorem dL_law_1123 : decode code 1123 = .ok (.aload_n 0, 1) := by decide +kernel
theorem dL_law_1124 : decode code 1124 = .ok (.iload_n 3, 1) := by decide +kernel
theorem dL_law_1125 : decode code 1125 = .ok (.iconst 2, 1) := by decide +kernel
theorem dL_law_1126 : decode code 1126 = .ok (.iadd, 1) := by decide +kernel
theorem dL_law_1127 : decode code 1127 = .ok (.iaload, 1) := by decide +kernel
theorem dL_law_1128 : decode code 1128 = .ok (.aload_n 0, 1) := by decide +kernel
theorem dL_law_1129 : decode code 1129 = .ok (.iload_n 3, 1) := by decide +kernel
theorem dL_law_1130 : decode code 1130 = .ok (.iconst 3, 1) := by decide +kernel
theorem dL_law_1131 : decode code 1131 = .ok (.iadd, 1) := by decide +kernel
theorem dL_law_1132 : decode code 1132 = .ok (.iaload, 1) := by decide +kernel
theorem dL_law_1133 : decode code 1133 = .ok (.aload_n 0, 1) := by decide +kernel
theorem dL_law_1134 : decode code 1134 = .ok (.iload_n 3, 1) := by decide +kernel
theorem dL_law_1135 : decode code 1135 = .ok (.iconst 4, 1) := by decide +kernel
theorem dL_law_1136 : decode code 1136 = .ok (.iadd, 1) := by decide +kernel
theorem dL_law_1137 : decode code 1137 = .ok (.iaload, 1) := by decide +kernel
theorem dL_law_1138 : decode code 1138 = .ok (.invokevirtual 147, 3) := by decide +kernel
theorem dL_law_1141 : decode code 1141 = .ok (.aload_n 2, 1) := by decide +kernel
theorem dL_law_1142 : decode code 1142 = .ok (.aload_n 0, 1) := by decide +kernel
theorem dL_law_1143 : decode code 1143 = .ok (.iload_n 3, 1) := by decide +kernel
theorem dL_law_1144 : decode code 1144 = .ok (.iconst 1, 1) := by decide +kernel
theorem dL_law_1145 : decode code 1145 = .ok (.iadd, 1) := by decide +kernel
theorem dL_law_1146 : decode code 1146 = .ok (.iaload, 1) := by decide +kernel
theorem dL_law_1147 : decode code 1147 = .ok (.aload_n 0, 1) := by decide +kernel
theorem dL_law_1148 : decode code 1148 = .ok (.iload_n 3, 1) := by decide +kernel
theorem dL_law_1149 : decode code 1149 = .ok (.iconst 2, 1) := by decide +kernel
theorem dL_law_1150 : decode code 1150 = .ok (.iadd, 1) := by decide +kernel
theorem dL_law_1151 : decode code 1151 = .ok (.iaload, 1) := by decide +kernel
theorem dL_law_1152 : decode code 1152 = .ok (.aload_n 0, 1) := by decide +kernel
theorem dL_law_1153 : decode code 1153 = .ok (.iload_n 3, 1) := by decide +kernel
theorem dL_law_1154 : decode code 1154 = .ok (.iconst 3, 1) := by decide +kernel
theorem dL_law_1155 : decode code 1155 = .ok (.iadd, 1) := by decide +kernel
theorem dL_law_1156 : decode code 1156 = .ok (.iaload, 1) := by decide +kernel
theorem dL_law_1157 : decode code 1157 = .ok (.aload_n 0, 1) := by decide +kernel
theorem dL_law_1158 : decode code 1158 = .ok (.iload_n 3, 1) := by decide +kernel
theorem dL_law_1159 : decode code 1159 = .ok (.iconst 4, 1) := by decide +kernel
theorem dL_law_1160 : decode code 1160 = .ok (.iadd, 1) := by decide +kernel
theorem dL_law_1161 : decode code 1161 = .ok (.iaload, 1) := by decide +kernel
theorem dL_law_1162 : decode code 1162 = .ok (.invokevirtual 150, 3) := by decide +kernel
theorem dL_law_1165 : decode code 1165 = .ok (.if_icmp .eq 181, 3) := by decide +kernel
theorem dL_law_1168 : decode code 1168 = .ok (.iconst 0, 1) := by decide +kernel
theorem dL_law_1169 : decode code 1169 = .ok (.ireturn, 1) := by decide +kernel
theorem dL_law_1170 : decode code 1170 = .ok (.aload_n 1, 1) := by decide +kernel
theorem dL_law_1171 : decode code 1171 = .ok (.aload_n 0, 1) := by decide +kernel
theorem dL_law_1172 : decode code 1172 = .ok (.iload_n 3, 1) := by decide +kernel
theorem dL_law_1173 : decode code 1173 = .ok (.iconst 1, 1) := by decide +kernel
theorem dL_law_1174 : decode code 1174 = .ok (.iadd, 1) := by decide +kernel
theorem dL_law_1175 : decode code 1175 = .ok (.iaload, 1) := by decide +kernel
theorem dL_law_1176 : decode code 1176 = .ok (.aload_n 0, 1) := by decide +kernel
theorem dL_law_1177 : decode code 1177 = .ok (.iload_n 3, 1) := by decide +kernel
theorem dL_law_1178 : decode code 1178 = .ok (.iconst 2, 1) := by decide +kernel
theorem dL_law_1179 : decode code 1179 = .ok (.iadd, 1) := by decide +kernel
theorem dL_law_1180 : decode code 1180 = .ok (.iaload, 1) := by decide +kernel
theorem dL_law_1181 : decode code 1181 = .ok (.aload_n 0, 1) := by decide +kernel
theorem dL_law_1182 : decode code 1182 = .ok (.iload_n 3, 1) := by decide +kernel
theorem dL_law_1183 : decode code 1183 = .ok (.iconst 3, 1) := by decide +kernel
theorem dL_law_1184 : decode code 1184 = .ok (.iadd, 1) := by decide +kernel
theorem dL_law_1185 : decode code 1185 = .ok (.iaload, 1) := by decide +kernel
theorem dL_law_1186 : decode code 1186 = .ok (.invokevirtual 151, 3) := by decide +kernel
theorem dL_law_1189 : decode code 1189 = .ok (.aload_n 2, 1) := by decide +kernel
theorem dL_law_1190 : decode code 1190 = .ok (.aload_n 0, 1) := by decide +kernel
theorem dL_law_1191 : decode code 1191 = .ok (.iload_n 3, 1) := by decide +kernel
theorem dL_law_1192 : decode code 1192 = .ok (.iconst 1, 1) := by decide +kernel
theorem dL_law_1193 : decode code 1193 = .ok (.iadd, 1) := by decide +kernel
theorem dL_law_1194 : decode code 1194 = .ok (.iaload, 1) := by decide +kernel
theorem dL_law_1195 : decode code 1195 = .ok (.aload_n 0, 1) := by decide +kernel
theorem dL_law_1196 : decode code 1196 = .ok (.iload_n 3, 1) := by decide +kernel
theorem dL_law_1197 : decode code 1197 = .ok (.iconst 2, 1) := by decide +kernel
theorem dL_law_1198 : decode code 1198 = .ok (.iadd, 1) := by decide +kernel
theorem dL_law_1199 : decode code 1199 = .ok (.iaload, 1) := by decide +kernel
theorem dL_law_1200 : decode code 1200 = .ok (.aload_n 0, 1) := by decide +kernel
theorem dL_law_1201 : decode code 1201 = .ok (.iload_n 3, 1) := by decide +kernel
theorem dL_law_1202 : decode code 1202 = .ok (.iconst 3, 1) := by decide +kernel
theorem dL_law_1203 : decode code 1203 = .ok (.iadd, 1) := by decide +kernel
theorem dL_law_1204 : decode code 1204 = .ok (.iaload, 1) := by decide +kernel
theorem dL_law_1205 : decode code 1205 = .ok (.invokevirtual 154, 3) := by decide +kernel
theorem dL_law_1208 : decode code 1208 = .ok (.if_icmp .eq 138, 3) := by decide +kernel
theorem dL_law_1211 : decode code 1211 = .ok (.iconst 0, 1) := by decide +kernel
theorem dL_law_1212 : decode code 1212 = .ok (.ireturn, 1) := by decide +kernel
theorem dL_law_1213 : decode code 1213 = .ok (.aload_n 1, 1) := by decide +kernel
theorem dL_law_1214 : decode code 1214 = .ok (.aload_n 0, 1) := by decide +kernel
theorem dL_law_1215 : decode code 1215 = .ok (.iload_n 3, 1) := by decide +kernel
theorem dL_law_1216 : decode code 1216 = .ok (.iconst 1, 1) := by decide +kernel
theorem dL_law_1217 : decode code 1217 = .ok (.iadd, 1) := by decide +kernel
theorem dL_law_1218 : decode code 1218 = .ok (.iaload, 1) := by decide +kernel
theorem dL_law_1219 : decode code 1219 = .ok (.aload_n 0, 1) := by decide +kernel
theorem dL_law_1220 : decode code 1220 = .ok (.iload_n 3, 1) := by decide +kernel
theorem dL_law_1221 : decode code 1221 = .ok (.iconst 2, 1) := by decide +kernel
theorem dL_law_1222 : decode code 1222 = .ok (.iadd, 1) := by decide +kernel
theorem dL_law_1223 : decode code 1223 = .ok (.iaload, 1) := by decide +kernel
theorem dL_law_1224 : decode code 1224 = .ok (.aload_n 0, 1) := by decide +kernel
theorem dL_law_1225 : decode code 1225 = .ok (.iload_n 3, 1) := by decide +kernel
theorem dL_law_1226 : decode code 1226 = .ok (.iconst 3, 1) := by decide +kernel
theorem dL_law_1227 : decode code 1227 = .ok (.iadd, 1) := by decide +kernel
theorem dL_law_1228 : decode code 1228 = .ok (.iaload, 1) := by decide +kernel
theorem dL_law_1229 : decode code 1229 = .ok (.aload_n 0, 1) := by decide +kernel
theorem dL_law_1230 : decode code 1230 = .ok (.iload_n 3, 1) := by decide +kernel
theorem dL_law_1231 : decode code 1231 = .ok (.iconst 4, 1) := by decide +kernel
theorem dL_law_1232 : decode code 1232 = .ok (.iadd, 1) := by decide +kernel
theorem dL_law_1233 : decode code 1233 = .ok (.iaload, 1) := by decide +kernel
theorem dL_law_1234 : decode code 1234 = .ok (.aload_n 0, 1) := by decide +kernel
theorem dL_law_1235 : decode code 1235 = .ok (.iload_n 3, 1) := by decide +kernel
theorem dL_law_1236 : decode code 1236 = .ok (.iconst 5, 1) := by decide +kernel
theorem dL_law_1237 : decode code 1237 = .ok (.iadd, 1) := by decide +kernel
theorem dL_law_1238 : decode code 1238 = .ok (.iaload, 1) := by decide +kernel
theorem dL_law_1239 : decode code 1239 = .ok (.invokevirtual 155, 3) := by decide +kernel
theorem dL_law_1242 : decode code 1242 = .ok (.aload_n 2, 1) := by decide +kernel
theorem dL_law_1243 : decode code 1243 = .ok (.aload_n 0, 1) := by decide +kernel
theorem dL_law_1244 : decode code 1244 = .ok (.iload_n 3, 1) := by decide +kernel
theorem dL_law_1245 : decode code 1245 = .ok (.iconst 1, 1) := by decide +kernel
theorem dL_law_1246 : decode code 1246 = .ok (.iadd, 1) := by decide +kernel
theorem dL_law_1247 : decode code 1247 = .ok (.iaload, 1) := by decide +kernel
theorem dL_law_1248 : decode code 1248 = .ok (.aload_n 0, 1) := by decide +kernel
theorem dL_law_1249 : decode code 1249 = .ok (.iload_n 3, 1) := by decide +kernel
theorem dL_law_1250 : decode code 1250 = .ok (.iconst 2, 1) := by decide +kernel
theorem dL_law_1251 : decode code 1251 = .ok (.iadd, 1) := by decide +kernel
theorem dL_law_1252 : decode code 1252 = .ok (.iaload, 1) := by decide +kernel
theorem dL_law_1253 : decode code 1253 = .ok (.aload_n 0, 1) := by decide +kernel
theorem dL_law_1254 : decode code 1254 = .ok (.iload_n 3, 1) := by decide +kernel
theorem dL_law_1255 : decode code 1255 = .ok (.iconst 3, 1) := by decide +kernel
theorem dL_law_1256 : decode code 1256 = .ok (.iadd, 1) := by decide +kernel
theorem dL_law_1257 : decode code 1257 = .ok (.iaload, 1) := by decide +kernel
theorem dL_law_1258 : decode code 1258 = .ok (.aload_n 0, 1) := by decide +kernel
theorem dL_law_1259 : decode code 1259 = .ok (.iload_n 3, 1) := by decide +kernel
theorem dL_law_1260 : decode code 1260 = .ok (.iconst 4, 1) := by decide +kernel
theorem dL_law_1261 : decode code 1261 = .ok (.iadd, 1) := by decide +kernel
theorem dL_law_1262 : decode code 1262 = .ok (.iaload, 1) := by decide +kernel
theorem dL_law_1263 : decode code 1263 = .ok (.aload_n 0, 1) := by decide +kernel
theorem dL_law_1264 : decode code 1264 = .ok (.iload_n 3, 1) := by decide +kernel
theorem dL_law_1265 : decode code 1265 = .ok (.iconst 5, 1) := by decide +kernel
theorem dL_law_1266 : decode code 1266 = .ok (.iadd, 1) := by decide +kernel
theorem dL_law_1267 : decode code 1267 = .ok (.iaload, 1) := by decide +kernel
theorem dL_law_1268 : decode code 1268 = .ok (.invokevirtual 159, 3) := by decide +kernel
theorem dL_law_1271 : decode code 1271 = .ok (.if_icmp .eq 75, 3) := by decide +kernel
theorem dL_law_1274 : decode code 1274 = .ok (.iconst 0, 1) := by decide +kernel
theorem dL_law_1275 : decode code 1275 = .ok (.ireturn, 1) := by decide +kernel
theorem dL_law_1276 : decode code 1276 = .ok (.aload_n 1, 1) := by decide +kernel
theorem dL_law_1277 : decode code 1277 = .ok (.aload_n 0, 1) := by decide +kernel
theorem dL_law_1278 : decode code 1278 = .ok (.iload_n 3, 1) := by decide +kernel
theorem dL_law_1279 : decode code 1279 = .ok (.iconst 1, 1) := by decide +kernel
theorem dL_law_1280 : decode code 1280 = .ok (.iadd, 1) := by decide +kernel
theorem dL_law_1281 : decode code 1281 = .ok (.iaload, 1) := by decide +kernel
theorem dL_law_1282 : decode code 1282 = .ok (.aload_n 0, 1) := by decide +kernel
theorem dL_law_1283 : decode code 1283 = .ok (.iload_n 3, 1) := by decide +kernel
theorem dL_law_1284 : decode code 1284 = .ok (.iconst 2, 1) := by decide +kernel
theorem dL_law_1285 : decode code 1285 = .ok (.iadd, 1) := by decide +kernel
theorem dL_law_1286 : decode code 1286 = .ok (.iaload, 1) := by decide +kernel
theorem dL_law_1287 : decode code 1287 = .ok (.invokevirtual 160, 3) := by decide +kernel
theorem dL_law_1290 : decode code 1290 = .ok (.aload_n 2, 1) := by decide +kernel
theorem dL_law_1291 : decode code 1291 = .ok (.aload_n 0, 1) := by decide +kernel
theorem dL_law_1292 : decode code 1292 = .ok (.iload_n 3, 1) := by decide +kernel
theorem dL_law_1293 : decode code 1293 = .ok (.iconst 1, 1) := by decide +kernel
theorem dL_law_1294 : decode code 1294 = .ok (.iadd, 1) := by decide +kernel
theorem dL_law_1295 : decode code 1295 = .ok (.iaload, 1) := by decide +kernel
theorem dL_law_1296 : decode code 1296 = .ok (.aload_n 0, 1) := by decide +kernel
theorem dL_law_1297 : decode code 1297 = .ok (.iload_n 3, 1) := by decide +kernel
theorem dL_law_1298 : decode code 1298 = .ok (.iconst 2, 1) := by decide +kernel
theorem dL_law_1299 : decode code 1299 = .ok (.iadd, 1) := by decide +kernel
theorem dL_law_1300 : decode code 1300 = .ok (.iaload, 1) := by decide +kernel
theorem dL_law_1301 : decode code 1301 = .ok (.invokevirtual 163, 3) := by decide +kernel
theorem dL_law_1304 : decode code 1304 = .ok (.if_icmp .eq 42, 3) := by decide +kernel
theorem dL_law_1307 : decode code 1307 = .ok (.iconst 0, 1) := by decide +kernel
theorem dL_law_1308 : decode code 1308 = .ok (.ireturn, 1) := by decide +kernel
theorem dL_law_1309 : decode code 1309 = .ok (.aload_n 1, 1) := by decide +kernel
theorem dL_law_1310 : decode code 1310 = .ok (.aload_n 0, 1) := by decide +kernel
theorem dL_law_1311 : decode code 1311 = .ok (.iload_n 3, 1) := by decide +kernel
theorem dL_law_1312 : decode code 1312 = .ok (.iconst 1, 1) := by decide +kernel
theorem dL_law_1313 : decode code 1313 = .ok (.iadd, 1) := by decide +kernel
theorem dL_law_1314 : decode code 1314 = .ok (.iaload, 1) := by decide +kernel
theorem dL_law_1315 : decode code 1315 = .ok (.invokevirtual 164, 3) := by decide +kernel
theorem dL_law_1318 : decode code 1318 = .ok (.aload_n 2, 1) := by decide +kernel
theorem dL_law_1319 : decode code 1319 = .ok (.aload_n 0, 1) := by decide +kernel
theorem dL_law_1320 : decode code 1320 = .ok (.iload_n 3, 1) := by decide +kernel
theorem dL_law_1321 : decode code 1321 = .ok (.iconst 1, 1) := by decide +kernel
theorem dL_law_1322 : decode code 1322 = .ok (.iadd, 1) := by decide +kernel
theorem dL_law_1323 : decode code 1323 = .ok (.iaload, 1) := by decide +kernel
theorem dL_law_1324 : decode code 1324 = .ok (.invokevirtual 167, 3) := by decide +kernel
theorem dL_law_1327 : decode code 1327 = .ok (.if_icmp .eq 19, 3) := by decide +kernel
theorem dL_law_1330 : decode code 1330 = .ok (.iconst 0, 1) := by decide +kernel
theorem dL_law_1331 : decode code 1331 = .ok (.ireturn, 1) := by decide +kernel
theorem dL_law_1332 : decode code 1332 = .ok (.aload_n 1, 1) := by decide +kernel
theorem dL_law_1333 : decode code 1333 = .ok (.invokevirtual 168, 3) := by decide +kernel
theorem dL_law_1336 : decode code 1336 = .ok (.aload_n 2, 1) := by decide +kernel
theorem dL_law_1337 : decode code 1337 = .ok (.invokevirtual 172, 3) := by decide +kernel
theorem dL_law_1340 : decode code 1340 = .ok (.lcmp, 1) := by decide +kernel
theorem dL_law_1341 : decode code 1341 = .ok (.ifCond .eq 5, 3) := by decide +kernel
theorem dL_law_1344 : decode code 1344 = .ok (.iconst 0, 1) := by decide +kernel
theorem dL_law_1345 : decode code 1345 = .ok (.ireturn, 1) := by decide +kernel
theorem dL_law_1346 : decode code 1346 = .ok (.iinc 3 6, 3) := by decide +kernel
theorem dL_law_1349 : decode code 1349 = .ok (.goto (-1331), 3) := by decide +kernel
theorem dL_law_1352 : decode code 1352 = .ok (.iconst 1, 1) := by decide +kernel
theorem dL_law_1353 : decode code 1353 = .ok (.ireturn, 1) := by decide +kernel
theorem kw_353 : Cond.code yX5_type cX5_type 3 (some .int) ∈ ba_tb := ba_mem (i := 353) (by decide +kernel) (by decide +kernel)
theorem kw_350 : Cond.methodLink "BagatelleLaw" 13 yX5_type ∈ ba_tb := ba_mem (i := 350) (by decide +kernel) (by decide +kernel)
theorem kw_351 : Cond.instanceMethod yX5_type ∈ ba_tb := ba_mem (i := 351) (by decide +kernel) (by decide +kernel)
theorem kw_352 : Cond.selects "Bagatelle" yX5_type yX5_type ∈ ba_tb := ba_mem (i := 352) (by decide +kernel) (by decide +kernel)
theorem kcL_13 : ba_MV ba_tC R_law 13 2 5 yX5_type cX5_type 3 (some .int) := ⟨⟨kw_353, kw_78, kw_350, ⟨by decide +kernel, by decide +kernel, by decide +kernel⟩⟩, kw_351, kw_352, TX5, 19, rfl⟩
theorem kw_934 : Cond.code yX6_type cX6_type 3 (some .int) ∈ ba_tb := ba_mem (i := 934) (by decide +kernel) (by decide +kernel)
theorem kw_931 : Cond.methodLink "BagatelleLaw" 17 yX6_type ∈ ba_tb := ba_mem (i := 931) (by decide +kernel) (by decide +kernel)
theorem kw_932 : Cond.instanceMethod yX6_type ∈ ba_tb := ba_mem (i := 932) (by decide +kernel) (by decide +kernel)
theorem kw_933 : Cond.selects "BagatelleModel" yX6_type yX6_type ∈ ba_tb := ba_mem (i := 933) (by decide +kernel) (by decide +kernel)
theorem kcL_17 : ba_MV ba_tM R_law 17 2 6 yX6_type cX6_type 3 (some .int) := ⟨⟨kw_934, kw_85, kw_931, ⟨by decide +kernel, by decide +kernel, by decide +kernel⟩⟩, kw_932, kw_933, TX6, 33, rfl⟩
theorem kw_413 : Cond.code yX5_wipe cX5_wipe 3 (some .int) ∈ ba_tb := ba_mem (i := 413) (by decide +kernel) (by decide +kernel)
theorem kw_410 : Cond.methodLink "BagatelleLaw" 18 yX5_wipe ∈ ba_tb := ba_mem (i := 410) (by decide +kernel) (by decide +kernel)
theorem kw_411 : Cond.instanceMethod yX5_wipe ∈ ba_tb := ba_mem (i := 411) (by decide +kernel) (by decide +kernel)
theorem kw_412 : Cond.selects "Bagatelle" yX5_wipe yX5_wipe ∈ ba_tb := ba_mem (i := 412) (by decide +kernel) (by decide +kernel)
theorem kcL_18 : ba_MV ba_tC R_law 18 1 5 yX5_wipe cX5_wipe 3 (some .int) := ⟨⟨kw_413, kw_78, kw_410, ⟨by decide +kernel, by decide +kernel, by decide +kernel⟩⟩, kw_411, kw_412, TX5, 19, rfl⟩
theorem kw_942 : Cond.code yX6_wipe cX6_wipe 3 (some .int) ∈ ba_tb := ba_mem (i := 942) (by decide +kernel) (by decide +kernel)
theorem kw_939 : Cond.methodLink "BagatelleLaw" 22 yX6_wipe ∈ ba_tb := ba_mem (i := 939) (by decide +kernel) (by decide +kernel)
theorem kw_940 : Cond.instanceMethod yX6_wipe ∈ ba_tb := ba_mem (i := 940) (by decide +kernel) (by decide +kernel)
theorem kw_941 : Cond.selects "BagatelleModel" yX6_wipe yX6_wipe ∈ ba_tb := ba_mem (i := 941) (by decide +kernel) (by decide +kernel)
theorem kcL_22 : ba_MV ba_tM R_law 22 1 6 yX6_wipe cX6_wipe 3 (some .int) := ⟨⟨kw_942, kw_85, kw_939, ⟨by decide +kernel, by decide +kernel, by decide +kernel⟩⟩, kw_940, kw_941, TX6, 33, rfl⟩
theorem kw_417 : Cond.code yX5_undo cX5_undo 2 (some .int) ∈ ba_tb := ba_mem (i := 417) (by decide +kernel) (by decide +kernel)
theorem kw_414 : Cond.methodLink "BagatelleLaw" 23 yX5_undo ∈ ba_tb := ba_mem (i := 414) (by decide +kernel) (by decide +kernel)
theorem kw_415 : Cond.instanceMethod yX5_undo ∈ ba_tb := ba_mem (i := 415) (by decide +kernel) (by decide +kernel)
theorem kw_416 : Cond.selects "Bagatelle" yX5_undo yX5_undo ∈ ba_tb := ba_mem (i := 416) (by decide +kernel) (by decide +kernel)
theorem kcL_23 : ba_MV ba_tC R_law 23 1 5 yX5_undo cX5_undo 2 (some .int) := ⟨⟨kw_417, kw_78, kw_414, ⟨by decide +kernel, by decide +kernel, by decide +kernel⟩⟩, kw_415, kw_416, TX5, 19, rfl⟩
theorem kw_946 : Cond.code yX6_undo cX6_undo 2 (some .int) ∈ ba_tb := ba_mem (i := 946) (by decide +kernel) (by decide +kernel)
theorem kw_943 : Cond.methodLink "BagatelleLaw" 26 yX6_undo ∈ ba_tb := ba_mem (i := 943) (by decide +kernel) (by decide +kernel)
theorem kw_944 : Cond.instanceMethod yX6_undo ∈ ba_tb := ba_mem (i := 944) (by decide +kernel) (by decide +kernel)
theorem kw_945 : Cond.selects "BagatelleModel" yX6_undo yX6_undo ∈ ba_tb := ba_mem (i := 945) (by decide +kernel) (by decide +kernel)
theorem kcL_26 : ba_MV ba_tM R_law 26 1 6 yX6_undo cX6_undo 2 (some .int) := ⟨⟨kw_946, kw_85, kw_943, ⟨by decide +kernel, by decide +kernel, by decide +kernel⟩⟩, kw_944, kw_945, TX6, 33, rfl⟩
theorem kw_418 : Cond.methodLink "BagatelleLaw" 27 yX5_fault ∈ ba_tb := ba_mem (i := 418) (by decide +kernel) (by decide +kernel)
theorem kcL_27 : ba_MV ba_tC R_law 27 1 5 yX5_fault cX5_fault 2 (some .int) := ⟨⟨kw_421, kw_78, kw_418, ⟨by decide +kernel, by decide +kernel, by decide +kernel⟩⟩, kw_419, kw_420, TX5, 19, rfl⟩
theorem kw_950 : Cond.code yX6_fault cX6_fault 2 (some .int) ∈ ba_tb := ba_mem (i := 950) (by decide +kernel) (by decide +kernel)
theorem kw_947 : Cond.methodLink "BagatelleLaw" 30 yX6_fault ∈ ba_tb := ba_mem (i := 947) (by decide +kernel) (by decide +kernel)
theorem kw_948 : Cond.instanceMethod yX6_fault ∈ ba_tb := ba_mem (i := 948) (by decide +kernel) (by decide +kernel)
theorem kw_949 : Cond.selects "BagatelleModel" yX6_fault yX6_fault ∈ ba_tb := ba_mem (i := 949) (by decide +kernel) (by decide +kernel)
theorem kcL_30 : ba_MV ba_tM R_law 30 1 6 yX6_fault cX6_fault 2 (some .int) := ⟨⟨kw_950, kw_85, kw_947, ⟨by decide +kernel, by decide +kernel, by decide +kernel⟩⟩, kw_948, kw_949, TX6, 33, rfl⟩
theorem kw_422 : Cond.methodLink "BagatelleLaw" 31 yX5_pin ∈ ba_tb := ba_mem (i := 422) (by decide +kernel) (by decide +kernel)
theorem kcL_31 : ba_MV ba_tC R_law 31 2 5 yX5_pin cX5_pin 3 (some .int) := ⟨⟨kw_425, kw_78, kw_422, ⟨by decide +kernel, by decide +kernel, by decide +kernel⟩⟩, kw_423, kw_424, TX5, 19, rfl⟩
theorem kw_992 : Cond.code yX6_pin cX6_pin 3 (some .int) ∈ ba_tb := ba_mem (i := 992) (by decide +kernel) (by decide +kernel)
theorem kw_989 : Cond.methodLink "BagatelleLaw" 34 yX6_pin ∈ ba_tb := ba_mem (i := 989) (by decide +kernel) (by decide +kernel)
theorem kw_990 : Cond.instanceMethod yX6_pin ∈ ba_tb := ba_mem (i := 990) (by decide +kernel) (by decide +kernel)
theorem kw_991 : Cond.selects "BagatelleModel" yX6_pin yX6_pin ∈ ba_tb := ba_mem (i := 991) (by decide +kernel) (by decide +kernel)
theorem kcL_34 : ba_MV ba_tM R_law 34 2 6 yX6_pin cX6_pin 3 (some .int) := ⟨⟨kw_992, kw_85, kw_989, ⟨by decide +kernel, by decide +kernel, by decide +kernel⟩⟩, kw_990, kw_991, TX6, 33, rfl⟩
theorem kw_426 : Cond.methodLink "BagatelleLaw" 35 yX5_cup ∈ ba_tb := ba_mem (i := 426) (by decide +kernel) (by decide +kernel)
theorem kcL_35 : ba_MV ba_tC R_law 35 2 5 yX5_cup cX5_cup 3 (some .int) := ⟨⟨kw_429, kw_78, kw_426, ⟨by decide +kernel, by decide +kernel, by decide +kernel⟩⟩, kw_427, kw_428, TX5, 19, rfl⟩
theorem kw_1034 : Cond.code yX6_cup cX6_cup 3 (some .int) ∈ ba_tb := ba_mem (i := 1034) (by decide +kernel) (by decide +kernel)
theorem kw_1031 : Cond.methodLink "BagatelleLaw" 38 yX6_cup ∈ ba_tb := ba_mem (i := 1031) (by decide +kernel) (by decide +kernel)
theorem kw_1032 : Cond.instanceMethod yX6_cup ∈ ba_tb := ba_mem (i := 1032) (by decide +kernel) (by decide +kernel)
theorem kw_1033 : Cond.selects "BagatelleModel" yX6_cup yX6_cup ∈ ba_tb := ba_mem (i := 1033) (by decide +kernel) (by decide +kernel)
theorem kcL_38 : ba_MV ba_tM R_law 38 2 6 yX6_cup cX6_cup 3 (some .int) := ⟨⟨kw_1034, kw_85, kw_1031, ⟨by decide +kernel, by decide +kernel, by decide +kernel⟩⟩, kw_1032, kw_1033, TX6, 33, rfl⟩
theorem kw_490 : Cond.methodLink "BagatelleLaw" 39 yX5_ball ∈ ba_tb := ba_mem (i := 490) (by decide +kernel) (by decide +kernel)
theorem kcL_39 : ba_MV ba_tC R_law 39 2 5 yX5_ball cX5_ball 3 (some .int) := ⟨⟨kw_493, kw_78, kw_490, ⟨by decide +kernel, by decide +kernel, by decide +kernel⟩⟩, kw_491, kw_492, TX5, 19, rfl⟩
theorem kw_1000 : Cond.code yX6_ball cX6_ball 3 (some .int) ∈ ba_tb := ba_mem (i := 1000) (by decide +kernel) (by decide +kernel)
theorem kw_997 : Cond.methodLink "BagatelleLaw" 42 yX6_ball ∈ ba_tb := ba_mem (i := 997) (by decide +kernel) (by decide +kernel)
theorem kw_998 : Cond.instanceMethod yX6_ball ∈ ba_tb := ba_mem (i := 998) (by decide +kernel) (by decide +kernel)
theorem kw_999 : Cond.selects "BagatelleModel" yX6_ball yX6_ball ∈ ba_tb := ba_mem (i := 999) (by decide +kernel) (by decide +kernel)
theorem kcL_42 : ba_MV ba_tM R_law 42 2 6 yX6_ball cX6_ball 3 (some .int) := ⟨⟨kw_1000, kw_85, kw_997, ⟨by decide +kernel, by decide +kernel, by decide +kernel⟩⟩, kw_998, kw_999, TX6, 33, rfl⟩
theorem kw_497 : Cond.code yX5_room cX5_room 3 (some .int) ∈ ba_tb := ba_mem (i := 497) (by decide +kernel) (by decide +kernel)
theorem kw_494 : Cond.methodLink "BagatelleLaw" 43 yX5_room ∈ ba_tb := ba_mem (i := 494) (by decide +kernel) (by decide +kernel)
theorem kw_495 : Cond.instanceMethod yX5_room ∈ ba_tb := ba_mem (i := 495) (by decide +kernel) (by decide +kernel)
theorem kw_496 : Cond.selects "Bagatelle" yX5_room yX5_room ∈ ba_tb := ba_mem (i := 496) (by decide +kernel) (by decide +kernel)
theorem kcL_43 : ba_MV ba_tC R_law 43 1 5 yX5_room cX5_room 3 (some .int) := ⟨⟨kw_497, kw_78, kw_494, ⟨by decide +kernel, by decide +kernel, by decide +kernel⟩⟩, kw_495, kw_496, TX5, 19, rfl⟩
theorem kw_1011 : Cond.code yX6_room cX6_room 3 (some .int) ∈ ba_tb := ba_mem (i := 1011) (by decide +kernel) (by decide +kernel)
theorem kw_1008 : Cond.methodLink "BagatelleLaw" 46 yX6_room ∈ ba_tb := ba_mem (i := 1008) (by decide +kernel) (by decide +kernel)
theorem kw_1009 : Cond.instanceMethod yX6_room ∈ ba_tb := ba_mem (i := 1009) (by decide +kernel) (by decide +kernel)
theorem kw_1010 : Cond.selects "BagatelleModel" yX6_room yX6_room ∈ ba_tb := ba_mem (i := 1010) (by decide +kernel) (by decide +kernel)
theorem kcL_46 : ba_MV ba_tM R_law 46 1 6 yX6_room cX6_room 3 (some .int) := ⟨⟨kw_1011, kw_85, kw_1008, ⟨by decide +kernel, by decide +kernel, by decide +kernel⟩⟩, kw_1009, kw_1010, TX6, 33, rfl⟩
theorem kw_498 : Cond.methodLink "BagatelleLaw" 47 yX5_event ∈ ba_tb := ba_mem (i := 498) (by decide +kernel) (by decide +kernel)
theorem kcL_47 : ba_MV ba_tC R_law 47 3 5 yX5_event cX5_event 4 (some .int) := ⟨⟨kw_501, kw_78, kw_498, ⟨by decide +kernel, by decide +kernel, by decide +kernel⟩⟩, kw_499, kw_500, TX5, 19, rfl⟩
theorem kw_1013 : Cond.methodLink "BagatelleLaw" 51 yX6_event ∈ ba_tb := ba_mem (i := 1013) (by decide +kernel) (by decide +kernel)
theorem kcL_51 : ba_MV ba_tM R_law 51 3 6 yX6_event cX6_event 4 (some .int) := ⟨⟨kw_1016, kw_85, kw_1013, ⟨by decide +kernel, by decide +kernel, by decide +kernel⟩⟩, kw_1014, kw_1015, TX6, 33, rfl⟩
theorem kw_517 : Cond.code yX5_back cX5_back 1 (some .int) ∈ ba_tb := ba_mem (i := 517) (by decide +kernel) (by decide +kernel)
theorem kw_514 : Cond.methodLink "BagatelleLaw" 52 yX5_back ∈ ba_tb := ba_mem (i := 514) (by decide +kernel) (by decide +kernel)
theorem kw_515 : Cond.instanceMethod yX5_back ∈ ba_tb := ba_mem (i := 515) (by decide +kernel) (by decide +kernel)
theorem kw_516 : Cond.selects "Bagatelle" yX5_back yX5_back ∈ ba_tb := ba_mem (i := 516) (by decide +kernel) (by decide +kernel)
theorem kcL_52 : ba_MV ba_tC R_law 52 0 5 yX5_back cX5_back 1 (some .int) := ⟨⟨kw_517, kw_78, kw_514, ⟨by decide +kernel, by decide +kernel, by decide +kernel⟩⟩, kw_515, kw_516, TX5, 19, rfl⟩
theorem kw_1025 : Cond.code yX6_back cX6_back 1 (some .int) ∈ ba_tb := ba_mem (i := 1025) (by decide +kernel) (by decide +kernel)
theorem kw_1022 : Cond.methodLink "BagatelleLaw" 56 yX6_back ∈ ba_tb := ba_mem (i := 1022) (by decide +kernel) (by decide +kernel)
theorem kw_1023 : Cond.instanceMethod yX6_back ∈ ba_tb := ba_mem (i := 1023) (by decide +kernel) (by decide +kernel)
theorem kw_1024 : Cond.selects "BagatelleModel" yX6_back yX6_back ∈ ba_tb := ba_mem (i := 1024) (by decide +kernel) (by decide +kernel)
theorem kcL_56 : ba_MV ba_tM R_law 56 0 6 yX6_back cX6_back 1 (some .int) := ⟨⟨kw_1025, kw_85, kw_1022, ⟨by decide +kernel, by decide +kernel, by decide +kernel⟩⟩, kw_1023, kw_1024, TX6, 33, rfl⟩
theorem kw_521 : Cond.code yX5_read cX5_read 6 (some .int) ∈ ba_tb := ba_mem (i := 521) (by decide +kernel) (by decide +kernel)
theorem kw_518 : Cond.methodLink "BagatelleLaw" 57 yX5_read ∈ ba_tb := ba_mem (i := 518) (by decide +kernel) (by decide +kernel)
theorem kw_519 : Cond.instanceMethod yX5_read ∈ ba_tb := ba_mem (i := 519) (by decide +kernel) (by decide +kernel)
theorem kw_520 : Cond.selects "Bagatelle" yX5_read yX5_read ∈ ba_tb := ba_mem (i := 520) (by decide +kernel) (by decide +kernel)
theorem kcL_57 : ba_MV ba_tC R_law 57 1 5 yX5_read cX5_read 6 (some .int) := ⟨⟨kw_521, kw_78, kw_518, ⟨by decide +kernel, by decide +kernel, by decide +kernel⟩⟩, kw_519, kw_520, TX5, 19, rfl⟩
theorem kw_1029 : Cond.code yX6_read cX6_read 5 (some .int) ∈ ba_tb := ba_mem (i := 1029) (by decide +kernel) (by decide +kernel)
theorem kw_1026 : Cond.methodLink "BagatelleLaw" 60 yX6_read ∈ ba_tb := ba_mem (i := 1026) (by decide +kernel) (by decide +kernel)
theorem kw_1027 : Cond.instanceMethod yX6_read ∈ ba_tb := ba_mem (i := 1027) (by decide +kernel) (by decide +kernel)
theorem kw_1028 : Cond.selects "BagatelleModel" yX6_read yX6_read ∈ ba_tb := ba_mem (i := 1028) (by decide +kernel) (by decide +kernel)
theorem kcL_60 : ba_MV ba_tM R_law 60 1 6 yX6_read cX6_read 5 (some .int) := ⟨⟨kw_1029, kw_85, kw_1026, ⟨by decide +kernel, by decide +kernel, by decide +kernel⟩⟩, kw_1027, kw_1028, TX6, 33, rfl⟩
theorem kw_527 : Cond.methodLink "BagatelleLaw" 61 yX5_at ∈ ba_tb := ba_mem (i := 527) (by decide +kernel) (by decide +kernel)
theorem kcL_61 : ba_MV ba_tC R_law 61 3 5 yX5_at cX5_at 4 (some .int) := ⟨⟨kw_530, kw_78, kw_527, ⟨by decide +kernel, by decide +kernel, by decide +kernel⟩⟩, kw_528, kw_529, TX5, 19, rfl⟩
theorem kw_1100 : Cond.code yX6_at cX6_at 4 (some .int) ∈ ba_tb := ba_mem (i := 1100) (by decide +kernel) (by decide +kernel)
theorem kw_1097 : Cond.methodLink "BagatelleLaw" 64 yX6_at ∈ ba_tb := ba_mem (i := 1097) (by decide +kernel) (by decide +kernel)
theorem kw_1098 : Cond.instanceMethod yX6_at ∈ ba_tb := ba_mem (i := 1098) (by decide +kernel) (by decide +kernel)
theorem kw_1099 : Cond.selects "BagatelleModel" yX6_at yX6_at ∈ ba_tb := ba_mem (i := 1099) (by decide +kernel) (by decide +kernel)
theorem kcL_64 : ba_MV ba_tM R_law 64 3 6 yX6_at cX6_at 4 (some .int) := ⟨⟨kw_1100, kw_85, kw_1097, ⟨by decide +kernel, by decide +kernel, by decide +kernel⟩⟩, kw_1098, kw_1099, TX6, 33, rfl⟩
theorem kw_539 : Cond.methodLink "BagatelleLaw" 65 yX5_sees ∈ ba_tb := ba_mem (i := 539) (by decide +kernel) (by decide +kernel)
theorem kcL_65 : ba_MV ba_tC R_law 65 3 5 yX5_sees cX5_sees 4 (some .int) := ⟨⟨kw_542, kw_78, kw_539, ⟨by decide +kernel, by decide +kernel, by decide +kernel⟩⟩, kw_540, kw_541, TX5, 19, rfl⟩
theorem kw_1108 : Cond.code yX6_sees cX6_sees 4 (some .int) ∈ ba_tb := ba_mem (i := 1108) (by decide +kernel) (by decide +kernel)
theorem kw_1105 : Cond.methodLink "BagatelleLaw" 68 yX6_sees ∈ ba_tb := ba_mem (i := 1105) (by decide +kernel) (by decide +kernel)
theorem kw_1106 : Cond.instanceMethod yX6_sees ∈ ba_tb := ba_mem (i := 1106) (by decide +kernel) (by decide +kernel)
theorem kw_1107 : Cond.selects "BagatelleModel" yX6_sees yX6_sees ∈ ba_tb := ba_mem (i := 1107) (by decide +kernel) (by decide +kernel)
theorem kcL_68 : ba_MV ba_tM R_law 68 3 6 yX6_sees cX6_sees 4 (some .int) := ⟨⟨kw_1108, kw_85, kw_1105, ⟨by decide +kernel, by decide +kernel, by decide +kernel⟩⟩, kw_1106, kw_1107, TX6, 33, rfl⟩
theorem kw_547 : Cond.methodLink "BagatelleLaw" 69 yX5_ends ∈ ba_tb := ba_mem (i := 547) (by decide +kernel) (by decide +kernel)
theorem kcL_69 : ba_MV ba_tC R_law 69 2 5 yX5_ends cX5_ends 3 (some .int) := ⟨⟨kw_550, kw_78, kw_547, ⟨by decide +kernel, by decide +kernel, by decide +kernel⟩⟩, kw_548, kw_549, TX5, 19, rfl⟩
theorem kw_1117 : Cond.code yX6_ends cX6_ends 3 (some .int) ∈ ba_tb := ba_mem (i := 1117) (by decide +kernel) (by decide +kernel)
theorem kw_1114 : Cond.methodLink "BagatelleLaw" 72 yX6_ends ∈ ba_tb := ba_mem (i := 1114) (by decide +kernel) (by decide +kernel)
theorem kw_1115 : Cond.instanceMethod yX6_ends ∈ ba_tb := ba_mem (i := 1115) (by decide +kernel) (by decide +kernel)
theorem kw_1116 : Cond.selects "BagatelleModel" yX6_ends yX6_ends ∈ ba_tb := ba_mem (i := 1116) (by decide +kernel) (by decide +kernel)
theorem kcL_72 : ba_MV ba_tM R_law 72 2 6 yX6_ends cX6_ends 3 (some .int) := ⟨⟨kw_1117, kw_85, kw_1114, ⟨by decide +kernel, by decide +kernel, by decide +kernel⟩⟩, kw_1115, kw_1116, TX6, 33, rfl⟩
theorem kw_551 : Cond.methodLink "BagatelleLaw" 73 yX5_sum ∈ ba_tb := ba_mem (i := 551) (by decide +kernel) (by decide +kernel)
theorem kcL_73 : ba_MV ba_tC R_law 73 1 5 yX5_sum cX5_sum 2 (some .int) := ⟨⟨kw_554, kw_78, kw_551, ⟨by decide +kernel, by decide +kernel, by decide +kernel⟩⟩, kw_552, kw_553, TX5, 19, rfl⟩
theorem kw_1125 : Cond.code yX6_sum cX6_sum 2 (some .int) ∈ ba_tb := ba_mem (i := 1125) (by decide +kernel) (by decide +kernel)
theorem kw_1122 : Cond.methodLink "BagatelleLaw" 76 yX6_sum ∈ ba_tb := ba_mem (i := 1122) (by decide +kernel) (by decide +kernel)
theorem kw_1123 : Cond.instanceMethod yX6_sum ∈ ba_tb := ba_mem (i := 1123) (by decide +kernel) (by decide +kernel)
theorem kw_1124 : Cond.selects "BagatelleModel" yX6_sum yX6_sum ∈ ba_tb := ba_mem (i := 1124) (by decide +kernel) (by decide +kernel)
theorem kcL_76 : ba_MV ba_tM R_law 76 1 6 yX6_sum cX6_sum 2 (some .int) := ⟨⟨kw_1125, kw_85, kw_1122, ⟨by decide +kernel, by decide +kernel, by decide +kernel⟩⟩, kw_1123, kw_1124, TX6, 33, rfl⟩
theorem kw_563 : Cond.methodLink "BagatelleLaw" 77 yX5_late ∈ ba_tb := ba_mem (i := 563) (by decide +kernel) (by decide +kernel)
theorem kcL_77 : ba_MV ba_tC R_law 77 0 5 yX5_late cX5_late 3 (some .int) := ⟨⟨kw_566, kw_78, kw_563, ⟨by decide +kernel, by decide +kernel, by decide +kernel⟩⟩, kw_564, kw_565, TX5, 19, rfl⟩
theorem kw_1141 : Cond.code yX6_late cX6_late 1 (some .int) ∈ ba_tb := ba_mem (i := 1141) (by decide +kernel) (by decide +kernel)
theorem kw_1138 : Cond.methodLink "BagatelleLaw" 80 yX6_late ∈ ba_tb := ba_mem (i := 1138) (by decide +kernel) (by decide +kernel)
theorem kw_1139 : Cond.instanceMethod yX6_late ∈ ba_tb := ba_mem (i := 1139) (by decide +kernel) (by decide +kernel)
theorem kw_1140 : Cond.selects "BagatelleModel" yX6_late yX6_late ∈ ba_tb := ba_mem (i := 1140) (by decide +kernel) (by decide +kernel)
theorem kcL_80 : ba_MV ba_tM R_law 80 0 6 yX6_late cX6_late 1 (some .int) := ⟨⟨kw_1141, kw_85, kw_1138, ⟨by decide +kernel, by decide +kernel, by decide +kernel⟩⟩, kw_1139, kw_1140, TX6, 33, rfl⟩
theorem kw_567 : Cond.methodLink "BagatelleLaw" 81 yX5_best ∈ ba_tb := ba_mem (i := 567) (by decide +kernel) (by decide +kernel)
theorem kcL_81 : ba_MV ba_tC R_law 81 0 5 yX5_best cX5_best 4 (some .int) := ⟨⟨kw_570, kw_78, kw_567, ⟨by decide +kernel, by decide +kernel, by decide +kernel⟩⟩, kw_568, kw_569, TX5, 19, rfl⟩
theorem kw_1149 : Cond.code yX6_best cX6_best 1 (some .int) ∈ ba_tb := ba_mem (i := 1149) (by decide +kernel) (by decide +kernel)
theorem kw_1146 : Cond.methodLink "BagatelleLaw" 84 yX6_best ∈ ba_tb := ba_mem (i := 1146) (by decide +kernel) (by decide +kernel)
theorem kw_1147 : Cond.instanceMethod yX6_best ∈ ba_tb := ba_mem (i := 1147) (by decide +kernel) (by decide +kernel)
theorem kw_1148 : Cond.selects "BagatelleModel" yX6_best yX6_best ∈ ba_tb := ba_mem (i := 1148) (by decide +kernel) (by decide +kernel)
theorem kcL_84 : ba_MV ba_tM R_law 84 0 6 yX6_best cX6_best 1 (some .int) := ⟨⟨kw_1149, kw_85, kw_1146, ⟨by decide +kernel, by decide +kernel, by decide +kernel⟩⟩, kw_1147, kw_1148, TX6, 33, rfl⟩
theorem kw_571 : Cond.methodLink "BagatelleLaw" 85 yX5_jam ∈ ba_tb := ba_mem (i := 571) (by decide +kernel) (by decide +kernel)
theorem kcL_85 : ba_MV ba_tC R_law 85 1 5 yX5_jam cX5_jam 4 (some .int) := ⟨⟨kw_574, kw_78, kw_571, ⟨by decide +kernel, by decide +kernel, by decide +kernel⟩⟩, kw_572, kw_573, TX5, 19, rfl⟩
theorem kw_1160 : Cond.code yX6_jam cX6_jam 2 (some .int) ∈ ba_tb := ba_mem (i := 1160) (by decide +kernel) (by decide +kernel)
theorem kw_1157 : Cond.methodLink "BagatelleLaw" 88 yX6_jam ∈ ba_tb := ba_mem (i := 1157) (by decide +kernel) (by decide +kernel)
theorem kw_1158 : Cond.instanceMethod yX6_jam ∈ ba_tb := ba_mem (i := 1158) (by decide +kernel) (by decide +kernel)
theorem kw_1159 : Cond.selects "BagatelleModel" yX6_jam yX6_jam ∈ ba_tb := ba_mem (i := 1159) (by decide +kernel) (by decide +kernel)
theorem kcL_88 : ba_MV ba_tM R_law 88 1 6 yX6_jam cX6_jam 2 (some .int) := ⟨⟨kw_1160, kw_85, kw_1157, ⟨by decide +kernel, by decide +kernel, by decide +kernel⟩⟩, kw_1158, kw_1159, TX6, 33, rfl⟩
theorem kw_575 : Cond.methodLink "BagatelleLaw" 89 yX5_shoot ∈ ba_tb := ba_mem (i := 575) (by decide +kernel) (by decide +kernel)
theorem kcL_89 : ba_MV ba_tC R_law 89 2 5 yX5_shoot cX5_shoot 3 (some .int) := ⟨⟨kw_578, kw_78, kw_575, ⟨by decide +kernel, by decide +kernel, by decide +kernel⟩⟩, kw_576, kw_577, TX5, 19, rfl⟩
theorem kw_1168 : Cond.code yX6_shoot cX6_shoot 3 (some .int) ∈ ba_tb := ba_mem (i := 1168) (by decide +kernel) (by decide +kernel)
theorem kw_1165 : Cond.methodLink "BagatelleLaw" 92 yX6_shoot ∈ ba_tb := ba_mem (i := 1165) (by decide +kernel) (by decide +kernel)
theorem kw_1166 : Cond.instanceMethod yX6_shoot ∈ ba_tb := ba_mem (i := 1166) (by decide +kernel) (by decide +kernel)
theorem kw_1167 : Cond.selects "BagatelleModel" yX6_shoot yX6_shoot ∈ ba_tb := ba_mem (i := 1167) (by decide +kernel) (by decide +kernel)
theorem kcL_92 : ba_MV ba_tM R_law 92 2 6 yX6_shoot cX6_shoot 3 (some .int) := ⟨⟨kw_1168, kw_85, kw_1165, ⟨by decide +kernel, by decide +kernel, by decide +kernel⟩⟩, kw_1166, kw_1167, TX6, 33, rfl⟩
theorem kw_591 : Cond.methodLink "BagatelleLaw" 93 yX5_time ∈ ba_tb := ba_mem (i := 591) (by decide +kernel) (by decide +kernel)
theorem kcL_93 : ba_MV ba_tC R_law 93 2 5 yX5_time cX5_time 3 (some .int) := ⟨⟨kw_594, kw_78, kw_591, ⟨by decide +kernel, by decide +kernel, by decide +kernel⟩⟩, kw_592, kw_593, TX5, 19, rfl⟩
theorem kw_1176 : Cond.code yX6_time cX6_time 3 (some .int) ∈ ba_tb := ba_mem (i := 1176) (by decide +kernel) (by decide +kernel)
theorem kw_1173 : Cond.methodLink "BagatelleLaw" 96 yX6_time ∈ ba_tb := ba_mem (i := 1173) (by decide +kernel) (by decide +kernel)
theorem kw_1174 : Cond.instanceMethod yX6_time ∈ ba_tb := ba_mem (i := 1174) (by decide +kernel) (by decide +kernel)
theorem kw_1175 : Cond.selects "BagatelleModel" yX6_time yX6_time ∈ ba_tb := ba_mem (i := 1175) (by decide +kernel) (by decide +kernel)
theorem kcL_96 : ba_MV ba_tM R_law 96 2 6 yX6_time cX6_time 3 (some .int) := ⟨⟨kw_1176, kw_85, kw_1173, ⟨by decide +kernel, by decide +kernel, by decide +kernel⟩⟩, kw_1174, kw_1175, TX6, 33, rfl⟩
theorem kw_595 : Cond.methodLink "BagatelleLaw" 97 yX5_bend ∈ ba_tb := ba_mem (i := 595) (by decide +kernel) (by decide +kernel)
theorem kcL_97 : ba_MV ba_tC R_law 97 2 5 yX5_bend cX5_bend 3 (some .int) := ⟨⟨kw_598, kw_78, kw_595, ⟨by decide +kernel, by decide +kernel, by decide +kernel⟩⟩, kw_596, kw_597, TX5, 19, rfl⟩
theorem kw_1180 : Cond.code yX6_bend cX6_bend 3 (some .int) ∈ ba_tb := ba_mem (i := 1180) (by decide +kernel) (by decide +kernel)
theorem kw_1177 : Cond.methodLink "BagatelleLaw" 100 yX6_bend ∈ ba_tb := ba_mem (i := 1177) (by decide +kernel) (by decide +kernel)
theorem kw_1178 : Cond.instanceMethod yX6_bend ∈ ba_tb := ba_mem (i := 1178) (by decide +kernel) (by decide +kernel)
theorem kw_1179 : Cond.selects "BagatelleModel" yX6_bend yX6_bend ∈ ba_tb := ba_mem (i := 1179) (by decide +kernel) (by decide +kernel)
theorem kcL_100 : ba_MV ba_tM R_law 100 2 6 yX6_bend cX6_bend 3 (some .int) := ⟨⟨kw_1180, kw_85, kw_1177, ⟨by decide +kernel, by decide +kernel, by decide +kernel⟩⟩, kw_1178, kw_1179, TX6, 33, rfl⟩
theorem kw_599 : Cond.methodLink "BagatelleLaw" 101 yX5_spare ∈ ba_tb := ba_mem (i := 599) (by decide +kernel) (by decide +kernel)
theorem kcL_101 : ba_MV ba_tC R_law 101 1 5 yX5_spare cX5_spare 2 (some .int) := ⟨⟨kw_602, kw_78, kw_599, ⟨by decide +kernel, by decide +kernel, by decide +kernel⟩⟩, kw_600, kw_601, TX5, 19, rfl⟩
theorem kw_1188 : Cond.code yX6_spare cX6_spare 2 (some .int) ∈ ba_tb := ba_mem (i := 1188) (by decide +kernel) (by decide +kernel)
theorem kw_1185 : Cond.methodLink "BagatelleLaw" 104 yX6_spare ∈ ba_tb := ba_mem (i := 1185) (by decide +kernel) (by decide +kernel)
theorem kw_1186 : Cond.instanceMethod yX6_spare ∈ ba_tb := ba_mem (i := 1186) (by decide +kernel) (by decide +kernel)
theorem kw_1187 : Cond.selects "BagatelleModel" yX6_spare yX6_spare ∈ ba_tb := ba_mem (i := 1187) (by decide +kernel) (by decide +kernel)
theorem kcL_104 : ba_MV ba_tM R_law 104 1 6 yX6_spare cX6_spare 2 (some .int) := ⟨⟨kw_1188, kw_85, kw_1185, ⟨by decide +kernel, by decide +kernel, by decide +kernel⟩⟩, kw_1186, kw_1187, TX6, 33, rfl⟩
theorem kw_615 : Cond.code yX5_seen cX5_seen 5 (some .int) ∈ ba_tb := ba_mem (i := 615) (by decide +kernel) (by decide +kernel)
theorem kw_612 : Cond.methodLink "BagatelleLaw" 105 yX5_seen ∈ ba_tb := ba_mem (i := 612) (by decide +kernel) (by decide +kernel)
theorem kw_613 : Cond.instanceMethod yX5_seen ∈ ba_tb := ba_mem (i := 613) (by decide +kernel) (by decide +kernel)
theorem kw_614 : Cond.selects "Bagatelle" yX5_seen yX5_seen ∈ ba_tb := ba_mem (i := 614) (by decide +kernel) (by decide +kernel)
theorem kcL_105 : ba_MV ba_tC R_law 105 4 5 yX5_seen cX5_seen 5 (some .int) := ⟨⟨kw_615, kw_78, kw_612, ⟨by decide +kernel, by decide +kernel, by decide +kernel⟩⟩, kw_613, kw_614, TX5, 19, rfl⟩
theorem kw_1201 : Cond.code yX6_seen cX6_seen 5 (some .int) ∈ ba_tb := ba_mem (i := 1201) (by decide +kernel) (by decide +kernel)
theorem kw_1198 : Cond.methodLink "BagatelleLaw" 109 yX6_seen ∈ ba_tb := ba_mem (i := 1198) (by decide +kernel) (by decide +kernel)
theorem kw_1199 : Cond.instanceMethod yX6_seen ∈ ba_tb := ba_mem (i := 1199) (by decide +kernel) (by decide +kernel)
theorem kw_1200 : Cond.selects "BagatelleModel" yX6_seen yX6_seen ∈ ba_tb := ba_mem (i := 1200) (by decide +kernel) (by decide +kernel)
theorem kcL_109 : ba_MV ba_tM R_law 109 4 6 yX6_seen cX6_seen 5 (some .int) := ⟨⟨kw_1201, kw_85, kw_1198, ⟨by decide +kernel, by decide +kernel, by decide +kernel⟩⟩, kw_1199, kw_1200, TX6, 33, rfl⟩
theorem kw_619 : Cond.code yX5_forget cX5_forget 2 (some .int) ∈ ba_tb := ba_mem (i := 619) (by decide +kernel) (by decide +kernel)
theorem kw_616 : Cond.methodLink "BagatelleLaw" 110 yX5_forget ∈ ba_tb := ba_mem (i := 616) (by decide +kernel) (by decide +kernel)
theorem kw_617 : Cond.instanceMethod yX5_forget ∈ ba_tb := ba_mem (i := 617) (by decide +kernel) (by decide +kernel)
theorem kw_618 : Cond.selects "Bagatelle" yX5_forget yX5_forget ∈ ba_tb := ba_mem (i := 618) (by decide +kernel) (by decide +kernel)
theorem kcL_110 : ba_MV ba_tC R_law 110 0 5 yX5_forget cX5_forget 2 (some .int) := ⟨⟨kw_619, kw_78, kw_616, ⟨by decide +kernel, by decide +kernel, by decide +kernel⟩⟩, kw_617, kw_618, TX5, 19, rfl⟩
theorem kw_1206 : Cond.code yX6_forget cX6_forget 2 (some .int) ∈ ba_tb := ba_mem (i := 1206) (by decide +kernel) (by decide +kernel)
theorem kw_1203 : Cond.methodLink "BagatelleLaw" 113 yX6_forget ∈ ba_tb := ba_mem (i := 1203) (by decide +kernel) (by decide +kernel)
theorem kw_1204 : Cond.instanceMethod yX6_forget ∈ ba_tb := ba_mem (i := 1204) (by decide +kernel) (by decide +kernel)
theorem kw_1205 : Cond.selects "BagatelleModel" yX6_forget yX6_forget ∈ ba_tb := ba_mem (i := 1205) (by decide +kernel) (by decide +kernel)
theorem kcL_113 : ba_MV ba_tM R_law 113 0 6 yX6_forget cX6_forget 2 (some .int) := ⟨⟨kw_1206, kw_85, kw_1203, ⟨by decide +kernel, by decide +kernel, by decide +kernel⟩⟩, kw_1204, kw_1205, TX6, 33, rfl⟩
theorem kw_620 : Cond.methodLink "BagatelleLaw" 114 yX5_never ∈ ba_tb := ba_mem (i := 620) (by decide +kernel) (by decide +kernel)
theorem kcL_114 : ba_MV ba_tC R_law 114 0 5 yX5_never cX5_never 4 (some .int) := ⟨⟨kw_623, kw_78, kw_620, ⟨by decide +kernel, by decide +kernel, by decide +kernel⟩⟩, kw_621, kw_622, TX5, 19, rfl⟩
theorem kw_1210 : Cond.code yX6_never cX6_never 1 (some .int) ∈ ba_tb := ba_mem (i := 1210) (by decide +kernel) (by decide +kernel)
theorem kw_1207 : Cond.methodLink "BagatelleLaw" 117 yX6_never ∈ ba_tb := ba_mem (i := 1207) (by decide +kernel) (by decide +kernel)
theorem kw_1208 : Cond.instanceMethod yX6_never ∈ ba_tb := ba_mem (i := 1208) (by decide +kernel) (by decide +kernel)
theorem kw_1209 : Cond.selects "BagatelleModel" yX6_never yX6_never ∈ ba_tb := ba_mem (i := 1209) (by decide +kernel) (by decide +kernel)
theorem kcL_117 : ba_MV ba_tM R_law 117 0 6 yX6_never cX6_never 1 (some .int) := ⟨⟨kw_1210, kw_85, kw_1207, ⟨by decide +kernel, by decide +kernel, by decide +kernel⟩⟩, kw_1208, kw_1209, TX6, 33, rfl⟩
theorem kw_629 : Cond.methodLink "BagatelleLaw" 118 yX5_forces ∈ ba_tb := ba_mem (i := 629) (by decide +kernel) (by decide +kernel)
theorem kcL_118 : ba_MV ba_tC R_law 118 1 5 yX5_forces cX5_forces 2 (some .int) := ⟨⟨kw_632, kw_78, kw_629, ⟨by decide +kernel, by decide +kernel, by decide +kernel⟩⟩, kw_630, kw_631, TX5, 19, rfl⟩
theorem kw_1222 : Cond.code yX6_forces cX6_forces 2 (some .int) ∈ ba_tb := ba_mem (i := 1222) (by decide +kernel) (by decide +kernel)
theorem kw_1219 : Cond.methodLink "BagatelleLaw" 121 yX6_forces ∈ ba_tb := ba_mem (i := 1219) (by decide +kernel) (by decide +kernel)
theorem kw_1220 : Cond.instanceMethod yX6_forces ∈ ba_tb := ba_mem (i := 1220) (by decide +kernel) (by decide +kernel)
theorem kw_1221 : Cond.selects "BagatelleModel" yX6_forces yX6_forces ∈ ba_tb := ba_mem (i := 1221) (by decide +kernel) (by decide +kernel)
theorem kcL_121 : ba_MV ba_tM R_law 121 1 6 yX6_forces cX6_forces 2 (some .int) := ⟨⟨kw_1222, kw_85, kw_1219, ⟨by decide +kernel, by decide +kernel, by decide +kernel⟩⟩, kw_1220, kw_1221, TX6, 33, rfl⟩
theorem kw_637 : Cond.methodLink "BagatelleLaw" 122 yX5_kind ∈ ba_tb := ba_mem (i := 637) (by decide +kernel) (by decide +kernel)
theorem kcL_122 : ba_MV ba_tC R_law 122 1 5 yX5_kind cX5_kind 2 (some .int) := ⟨⟨kw_640, kw_78, kw_637, ⟨by decide +kernel, by decide +kernel, by decide +kernel⟩⟩, kw_638, kw_639, TX5, 19, rfl⟩
theorem kw_1230 : Cond.code yX6_kind cX6_kind 2 (some .int) ∈ ba_tb := ba_mem (i := 1230) (by decide +kernel) (by decide +kernel)
theorem kw_1227 : Cond.methodLink "BagatelleLaw" 125 yX6_kind ∈ ba_tb := ba_mem (i := 1227) (by decide +kernel) (by decide +kernel)
theorem kw_1228 : Cond.instanceMethod yX6_kind ∈ ba_tb := ba_mem (i := 1228) (by decide +kernel) (by decide +kernel)
theorem kw_1229 : Cond.selects "BagatelleModel" yX6_kind yX6_kind ∈ ba_tb := ba_mem (i := 1229) (by decide +kernel) (by decide +kernel)
theorem kcL_125 : ba_MV ba_tM R_law 125 1 6 yX6_kind cX6_kind 2 (some .int) := ⟨⟨kw_1230, kw_85, kw_1227, ⟨by decide +kernel, by decide +kernel, by decide +kernel⟩⟩, kw_1228, kw_1229, TX6, 33, rfl⟩
theorem kw_641 : Cond.methodLink "BagatelleLaw" 126 yX5_ask ∈ ba_tb := ba_mem (i := 641) (by decide +kernel) (by decide +kernel)
theorem kcL_126 : ba_MV ba_tC R_law 126 1 5 yX5_ask cX5_ask 7 (some .int) := ⟨⟨kw_644, kw_78, kw_641, ⟨by decide +kernel, by decide +kernel, by decide +kernel⟩⟩, kw_642, kw_643, TX5, 19, rfl⟩
theorem kw_1238 : Cond.code yX6_ask cX6_ask 2 (some .int) ∈ ba_tb := ba_mem (i := 1238) (by decide +kernel) (by decide +kernel)
theorem kw_1235 : Cond.methodLink "BagatelleLaw" 129 yX6_ask ∈ ba_tb := ba_mem (i := 1235) (by decide +kernel) (by decide +kernel)
theorem kw_1236 : Cond.instanceMethod yX6_ask ∈ ba_tb := ba_mem (i := 1236) (by decide +kernel) (by decide +kernel)
theorem kw_1237 : Cond.selects "BagatelleModel" yX6_ask yX6_ask ∈ ba_tb := ba_mem (i := 1237) (by decide +kernel) (by decide +kernel)
theorem kcL_129 : ba_MV ba_tM R_law 129 1 6 yX6_ask cX6_ask 2 (some .int) := ⟨⟨kw_1238, kw_85, kw_1235, ⟨by decide +kernel, by decide +kernel, by decide +kernel⟩⟩, kw_1236, kw_1237, TX6, 33, rfl⟩
theorem kw_660 : Cond.methodLink "BagatelleLaw" 130 yX5_chance ∈ ba_tb := ba_mem (i := 660) (by decide +kernel) (by decide +kernel)
theorem kcL_130 : ba_MV ba_tC R_law 130 3 5 yX5_chance cX5_chance 9 (some .long) := ⟨⟨kw_663, kw_78, kw_660, ⟨by decide +kernel, by decide +kernel, by decide +kernel⟩⟩, kw_661, kw_662, TX5, 19, rfl⟩
theorem kw_1257 : Cond.code yX6_chance cX6_chance 4 (some .long) ∈ ba_tb := ba_mem (i := 1257) (by decide +kernel) (by decide +kernel)
theorem kw_1254 : Cond.methodLink "BagatelleLaw" 134 yX6_chance ∈ ba_tb := ba_mem (i := 1254) (by decide +kernel) (by decide +kernel)
theorem kw_1255 : Cond.instanceMethod yX6_chance ∈ ba_tb := ba_mem (i := 1255) (by decide +kernel) (by decide +kernel)
theorem kw_1256 : Cond.selects "BagatelleModel" yX6_chance yX6_chance ∈ ba_tb := ba_mem (i := 1256) (by decide +kernel) (by decide +kernel)
theorem kcL_134 : ba_MV ba_tM R_law 134 3 6 yX6_chance cX6_chance 4 (some .long) := ⟨⟨kw_1257, kw_85, kw_1254, ⟨by decide +kernel, by decide +kernel, by decide +kernel⟩⟩, kw_1255, kw_1256, TX6, 33, rfl⟩
theorem kw_678 : Cond.methodLink "BagatelleLaw" 135 yX5_sundays ∈ ba_tb := ba_mem (i := 678) (by decide +kernel) (by decide +kernel)
theorem kcL_135 : ba_MV ba_tC R_law 135 3 5 yX5_sundays cX5_sundays 6 (some .int) := ⟨⟨kw_681, kw_78, kw_678, ⟨by decide +kernel, by decide +kernel, by decide +kernel⟩⟩, kw_679, kw_680, TX5, 19, rfl⟩
theorem kw_1273 : Cond.code yX6_sundays cX6_sundays 4 (some .int) ∈ ba_tb := ba_mem (i := 1273) (by decide +kernel) (by decide +kernel)
theorem kw_1270 : Cond.methodLink "BagatelleLaw" 138 yX6_sundays ∈ ba_tb := ba_mem (i := 1270) (by decide +kernel) (by decide +kernel)
theorem kw_1271 : Cond.instanceMethod yX6_sundays ∈ ba_tb := ba_mem (i := 1271) (by decide +kernel) (by decide +kernel)
theorem kw_1272 : Cond.selects "BagatelleModel" yX6_sundays yX6_sundays ∈ ba_tb := ba_mem (i := 1272) (by decide +kernel) (by decide +kernel)
theorem kcL_138 : ba_MV ba_tM R_law 138 3 6 yX6_sundays cX6_sundays 4 (some .int) := ⟨⟨kw_1273, kw_85, kw_1270, ⟨by decide +kernel, by decide +kernel, by decide +kernel⟩⟩, kw_1271, kw_1272, TX6, 33, rfl⟩
theorem kw_689 : Cond.code yX5_sheet cX5_sheet 4 (some .int) ∈ ba_tb := ba_mem (i := 689) (by decide +kernel) (by decide +kernel)
theorem kw_686 : Cond.methodLink "BagatelleLaw" 139 yX5_sheet ∈ ba_tb := ba_mem (i := 686) (by decide +kernel) (by decide +kernel)
theorem kw_687 : Cond.instanceMethod yX5_sheet ∈ ba_tb := ba_mem (i := 687) (by decide +kernel) (by decide +kernel)
theorem kw_688 : Cond.selects "Bagatelle" yX5_sheet yX5_sheet ∈ ba_tb := ba_mem (i := 688) (by decide +kernel) (by decide +kernel)
theorem kcL_139 : ba_MV ba_tC R_law 139 3 5 yX5_sheet cX5_sheet 4 (some .int) := ⟨⟨kw_689, kw_78, kw_686, ⟨by decide +kernel, by decide +kernel, by decide +kernel⟩⟩, kw_687, kw_688, TX5, 19, rfl⟩
theorem kw_894 : Cond.code yX6_sheet cX6_sheet 5 (some .int) ∈ ba_tb := ba_mem (i := 894) (by decide +kernel) (by decide +kernel)
theorem kw_891 : Cond.methodLink "BagatelleLaw" 142 yX6_sheet ∈ ba_tb := ba_mem (i := 891) (by decide +kernel) (by decide +kernel)
theorem kw_892 : Cond.instanceMethod yX6_sheet ∈ ba_tb := ba_mem (i := 892) (by decide +kernel) (by decide +kernel)
theorem kw_893 : Cond.selects "BagatelleModel" yX6_sheet yX6_sheet ∈ ba_tb := ba_mem (i := 893) (by decide +kernel) (by decide +kernel)
theorem kcL_142 : ba_MV ba_tM R_law 142 3 6 yX6_sheet cX6_sheet 5 (some .int) := ⟨⟨kw_894, kw_85, kw_891, ⟨by decide +kernel, by decide +kernel, by decide +kernel⟩⟩, kw_892, kw_893, TX6, 33, rfl⟩
theorem kw_698 : Cond.code yX5_lose cX5_lose 2 (some .int) ∈ ba_tb := ba_mem (i := 698) (by decide +kernel) (by decide +kernel)
theorem kw_695 : Cond.methodLink "BagatelleLaw" 143 yX5_lose ∈ ba_tb := ba_mem (i := 695) (by decide +kernel) (by decide +kernel)
theorem kw_696 : Cond.instanceMethod yX5_lose ∈ ba_tb := ba_mem (i := 696) (by decide +kernel) (by decide +kernel)
theorem kw_697 : Cond.selects "Bagatelle" yX5_lose yX5_lose ∈ ba_tb := ba_mem (i := 697) (by decide +kernel) (by decide +kernel)
theorem kcL_143 : ba_MV ba_tC R_law 143 1 5 yX5_lose cX5_lose 2 (some .int) := ⟨⟨kw_698, kw_78, kw_695, ⟨by decide +kernel, by decide +kernel, by decide +kernel⟩⟩, kw_696, kw_697, TX5, 19, rfl⟩
theorem kw_910 : Cond.code yX6_lose cX6_lose 2 (some .int) ∈ ba_tb := ba_mem (i := 910) (by decide +kernel) (by decide +kernel)
theorem kw_907 : Cond.methodLink "BagatelleLaw" 146 yX6_lose ∈ ba_tb := ba_mem (i := 907) (by decide +kernel) (by decide +kernel)
theorem kw_908 : Cond.instanceMethod yX6_lose ∈ ba_tb := ba_mem (i := 908) (by decide +kernel) (by decide +kernel)
theorem kw_909 : Cond.selects "BagatelleModel" yX6_lose yX6_lose ∈ ba_tb := ba_mem (i := 909) (by decide +kernel) (by decide +kernel)
theorem kcL_146 : ba_MV ba_tM R_law 146 1 6 yX6_lose cX6_lose 2 (some .int) := ⟨⟨kw_910, kw_85, kw_907, ⟨by decide +kernel, by decide +kernel, by decide +kernel⟩⟩, kw_908, kw_909, TX6, 33, rfl⟩
theorem kw_702 : Cond.code yX5_lay cX5_lay 6 (some .int) ∈ ba_tb := ba_mem (i := 702) (by decide +kernel) (by decide +kernel)
theorem kw_699 : Cond.methodLink "BagatelleLaw" 147 yX5_lay ∈ ba_tb := ba_mem (i := 699) (by decide +kernel) (by decide +kernel)
theorem kw_700 : Cond.instanceMethod yX5_lay ∈ ba_tb := ba_mem (i := 700) (by decide +kernel) (by decide +kernel)
theorem kw_701 : Cond.selects "Bagatelle" yX5_lay yX5_lay ∈ ba_tb := ba_mem (i := 701) (by decide +kernel) (by decide +kernel)
theorem kcL_147 : ba_MV ba_tC R_law 147 4 5 yX5_lay cX5_lay 6 (some .int) := ⟨⟨kw_702, kw_78, kw_699, ⟨by decide +kernel, by decide +kernel, by decide +kernel⟩⟩, kw_700, kw_701, TX5, 19, rfl⟩
theorem kw_914 : Cond.code yX6_lay cX6_lay 6 (some .int) ∈ ba_tb := ba_mem (i := 914) (by decide +kernel) (by decide +kernel)
theorem kw_911 : Cond.methodLink "BagatelleLaw" 150 yX6_lay ∈ ba_tb := ba_mem (i := 911) (by decide +kernel) (by decide +kernel)
theorem kw_912 : Cond.instanceMethod yX6_lay ∈ ba_tb := ba_mem (i := 912) (by decide +kernel) (by decide +kernel)
theorem kw_913 : Cond.selects "BagatelleModel" yX6_lay yX6_lay ∈ ba_tb := ba_mem (i := 913) (by decide +kernel) (by decide +kernel)
theorem kcL_150 : ba_MV ba_tM R_law 150 4 6 yX6_lay cX6_lay 6 (some .int) := ⟨⟨kw_914, kw_85, kw_911, ⟨by decide +kernel, by decide +kernel, by decide +kernel⟩⟩, kw_912, kw_913, TX6, 33, rfl⟩
theorem kw_715 : Cond.code yX5_get cX5_get 5 (some .int) ∈ ba_tb := ba_mem (i := 715) (by decide +kernel) (by decide +kernel)
theorem kw_712 : Cond.methodLink "BagatelleLaw" 151 yX5_get ∈ ba_tb := ba_mem (i := 712) (by decide +kernel) (by decide +kernel)
theorem kw_713 : Cond.instanceMethod yX5_get ∈ ba_tb := ba_mem (i := 713) (by decide +kernel) (by decide +kernel)
theorem kw_714 : Cond.selects "Bagatelle" yX5_get yX5_get ∈ ba_tb := ba_mem (i := 714) (by decide +kernel) (by decide +kernel)
theorem kcL_151 : ba_MV ba_tC R_law 151 3 5 yX5_get cX5_get 5 (some .int) := ⟨⟨kw_715, kw_78, kw_712, ⟨by decide +kernel, by decide +kernel, by decide +kernel⟩⟩, kw_713, kw_714, TX5, 19, rfl⟩
theorem kw_925 : Cond.code yX6_get cX6_get 4 (some .int) ∈ ba_tb := ba_mem (i := 925) (by decide +kernel) (by decide +kernel)
theorem kw_922 : Cond.methodLink "BagatelleLaw" 154 yX6_get ∈ ba_tb := ba_mem (i := 922) (by decide +kernel) (by decide +kernel)
theorem kw_923 : Cond.instanceMethod yX6_get ∈ ba_tb := ba_mem (i := 923) (by decide +kernel) (by decide +kernel)
theorem kw_924 : Cond.selects "BagatelleModel" yX6_get yX6_get ∈ ba_tb := ba_mem (i := 924) (by decide +kernel) (by decide +kernel)
theorem kcL_154 : ba_MV ba_tM R_law 154 3 6 yX6_get cX6_get 4 (some .int) := ⟨⟨kw_925, kw_85, kw_922, ⟨by decide +kernel, by decide +kernel, by decide +kernel⟩⟩, kw_923, kw_924, TX6, 33, rfl⟩
theorem kw_720 : Cond.code yX5_copy cX5_copy 8 (some .int) ∈ ba_tb := ba_mem (i := 720) (by decide +kernel) (by decide +kernel)
theorem kw_717 : Cond.methodLink "BagatelleLaw" 155 yX5_copy ∈ ba_tb := ba_mem (i := 717) (by decide +kernel) (by decide +kernel)
theorem kw_718 : Cond.instanceMethod yX5_copy ∈ ba_tb := ba_mem (i := 718) (by decide +kernel) (by decide +kernel)
theorem kw_719 : Cond.selects "Bagatelle" yX5_copy yX5_copy ∈ ba_tb := ba_mem (i := 719) (by decide +kernel) (by decide +kernel)
theorem kcL_155 : ba_MV ba_tC R_law 155 5 5 yX5_copy cX5_copy 8 (some .int) := ⟨⟨kw_720, kw_78, kw_717, ⟨by decide +kernel, by decide +kernel, by decide +kernel⟩⟩, kw_718, kw_719, TX5, 19, rfl⟩
theorem kw_930 : Cond.code yX6_copy cX6_copy 7 (some .int) ∈ ba_tb := ba_mem (i := 930) (by decide +kernel) (by decide +kernel)
theorem kw_927 : Cond.methodLink "BagatelleLaw" 159 yX6_copy ∈ ba_tb := ba_mem (i := 927) (by decide +kernel) (by decide +kernel)
theorem kw_928 : Cond.instanceMethod yX6_copy ∈ ba_tb := ba_mem (i := 928) (by decide +kernel) (by decide +kernel)
theorem kw_929 : Cond.selects "BagatelleModel" yX6_copy yX6_copy ∈ ba_tb := ba_mem (i := 929) (by decide +kernel) (by decide +kernel)
theorem kcL_159 : ba_MV ba_tM R_law 159 5 6 yX6_copy cX6_copy 7 (some .int) := ⟨⟨kw_930, kw_85, kw_927, ⟨by decide +kernel, by decide +kernel, by decide +kernel⟩⟩, kw_928, kw_929, TX6, 33, rfl⟩
theorem kw_729 : Cond.code yX5_write cX5_write 5 (some .int) ∈ ba_tb := ba_mem (i := 729) (by decide +kernel) (by decide +kernel)
theorem kw_726 : Cond.methodLink "BagatelleLaw" 160 yX5_write ∈ ba_tb := ba_mem (i := 726) (by decide +kernel) (by decide +kernel)
theorem kw_727 : Cond.instanceMethod yX5_write ∈ ba_tb := ba_mem (i := 727) (by decide +kernel) (by decide +kernel)
theorem kw_728 : Cond.selects "Bagatelle" yX5_write yX5_write ∈ ba_tb := ba_mem (i := 728) (by decide +kernel) (by decide +kernel)
theorem kcL_160 : ba_MV ba_tC R_law 160 2 5 yX5_write cX5_write 5 (some .int) := ⟨⟨kw_729, kw_78, kw_726, ⟨by decide +kernel, by decide +kernel, by decide +kernel⟩⟩, kw_727, kw_728, TX5, 19, rfl⟩
theorem kw_1286 : Cond.code yX6_write cX6_write 5 (some .int) ∈ ba_tb := ba_mem (i := 1286) (by decide +kernel) (by decide +kernel)
theorem kw_1283 : Cond.methodLink "BagatelleLaw" 163 yX6_write ∈ ba_tb := ba_mem (i := 1283) (by decide +kernel) (by decide +kernel)
theorem kw_1284 : Cond.instanceMethod yX6_write ∈ ba_tb := ba_mem (i := 1284) (by decide +kernel) (by decide +kernel)
theorem kw_1285 : Cond.selects "BagatelleModel" yX6_write yX6_write ∈ ba_tb := ba_mem (i := 1285) (by decide +kernel) (by decide +kernel)
theorem kcL_163 : ba_MV ba_tM R_law 163 2 6 yX6_write cX6_write 5 (some .int) := ⟨⟨kw_1286, kw_85, kw_1283, ⟨by decide +kernel, by decide +kernel, by decide +kernel⟩⟩, kw_1284, kw_1285, TX6, 33, rfl⟩
theorem kw_733 : Cond.methodLink "BagatelleLaw" 164 yX5_count ∈ ba_tb := ba_mem (i := 733) (by decide +kernel) (by decide +kernel)
theorem kcL_164 : ba_MV ba_tC R_law 164 1 5 yX5_count cX5_count 2 (some .int) := ⟨⟨kw_736, kw_78, kw_733, ⟨by decide +kernel, by decide +kernel, by decide +kernel⟩⟩, kw_734, kw_735, TX5, 19, rfl⟩
theorem kw_1287 : Cond.methodLink "BagatelleLaw" 167 yX6_count ∈ ba_tb := ba_mem (i := 1287) (by decide +kernel) (by decide +kernel)
theorem kcL_167 : ba_MV ba_tM R_law 167 1 6 yX6_count cX6_count 2 (some .int) := ⟨⟨kw_1290, kw_85, kw_1287, ⟨by decide +kernel, by decide +kernel, by decide +kernel⟩⟩, kw_1288, kw_1289, TX6, 33, rfl⟩
theorem kw_751 : Cond.code yX5_digest cX5_digest 5 (some .long) ∈ ba_tb := ba_mem (i := 751) (by decide +kernel) (by decide +kernel)
theorem kw_748 : Cond.methodLink "BagatelleLaw" 168 yX5_digest ∈ ba_tb := ba_mem (i := 748) (by decide +kernel) (by decide +kernel)
theorem kw_749 : Cond.instanceMethod yX5_digest ∈ ba_tb := ba_mem (i := 749) (by decide +kernel) (by decide +kernel)
theorem kw_750 : Cond.selects "Bagatelle" yX5_digest yX5_digest ∈ ba_tb := ba_mem (i := 750) (by decide +kernel) (by decide +kernel)
theorem kcL_168 : ba_MV ba_tC R_law 168 0 5 yX5_digest cX5_digest 5 (some .long) := ⟨⟨kw_751, kw_78, kw_748, ⟨by decide +kernel, by decide +kernel, by decide +kernel⟩⟩, kw_749, kw_750, TX5, 19, rfl⟩
theorem kw_1298 : Cond.code yX6_digest cX6_digest 5 (some .long) ∈ ba_tb := ba_mem (i := 1298) (by decide +kernel) (by decide +kernel)
theorem kw_1295 : Cond.methodLink "BagatelleLaw" 172 yX6_digest ∈ ba_tb := ba_mem (i := 1295) (by decide +kernel) (by decide +kernel)
theorem kw_1296 : Cond.instanceMethod yX6_digest ∈ ba_tb := ba_mem (i := 1296) (by decide +kernel) (by decide +kernel)
theorem kw_1297 : Cond.selects "BagatelleModel" yX6_digest yX6_digest ∈ ba_tb := ba_mem (i := 1297) (by decide +kernel) (by decide +kernel)
theorem kcL_172 : ba_MV ba_tM R_law 172 0 6 yX6_digest cX6_digest 5 (some .long) := ⟨⟨kw_1298, kw_85, kw_1295, ⟨by decide +kernel, by decide +kernel, by decide +kernel⟩⟩, kw_1296, kw_1297, TX6, 33, rfl⟩
set_option maxHeartbeats 4000000 in
set_option maxRecDepth 100000 in
theorem lk_0 {wC wM : ba_W} {X : lc_X} {σ τ : ba_St} {i : Nat} (V : lc_V wC wM X) (jC : ba_inj ba_tC wC) (jM : ba_inj ba_tM wM) (hi : i + 6 ≤ lc_L X) (h : RR σ τ) (next : ∀ σ' τ', RR σ' τ' → lc_G wC wM X σ' τ' 1346 (lc_lv wC wM X i) []) : lc_G wC wM X σ τ 200 (lc_lv wC wM X i) [] := by
  obtain ⟨v, s', m', e1, e2, R⟩ := q_type h (lc_s X (i + 1)) (lc_s X (i + 2))
  refine lc_aload V dL_law_200 1 rfl ?_
  refine lc_arg (k := 1) V dL_law_201 dL_law_202 dL_law_203 dL_law_204 dL_law_205 rfl (by omega) ?_
  refine lc_arg (k := 2) V dL_law_206 dL_law_207 dL_law_208 dL_law_209 dL_law_210 rfl (by omega) ?_
  refine lc_callCI (st := []) (As := [.int (lc_s X (i + 1)), .int (lc_s X (i + 2))]) V dL_law_211 kcL_13 (fun l => yb_type jC l e1) ⟨rfl, rfl⟩ ⟨rfl, rfl, Nat.le_of_ble_eq_true rfl, Nat.le_of_ble_eq_true rfl⟩ (Nat.le_of_ble_eq_true rfl) ?_
  refine lc_aload V dL_law_214 2 rfl ?_
  refine lc_arg (k := 1) V dL_law_215 dL_law_216 dL_law_217 dL_law_218 dL_law_219 rfl (by omega) ?_
  refine lc_arg (k := 2) V dL_law_220 dL_law_221 dL_law_222 dL_law_223 dL_law_224 rfl (by omega) ?_
  refine lc_callMI (st := [.int v]) (As := [.int (lc_s X (i + 1)), .int (lc_s X (i + 2))]) V dL_law_225 kcL_17 (fun l => ym_type jM l e2) ⟨rfl, rfl⟩ ⟨rfl, rfl, Nat.le_of_ble_eq_true rfl, Nat.le_of_ble_eq_true rfl⟩ (Nat.le_of_ble_eq_true rfl) ?_
  exact lc_eqI V dL_law_228 (tgt := 1346) rfl (next _ _ R)
set_option maxHeartbeats 4000000 in
set_option maxRecDepth 100000 in
theorem lk_1 {wC wM : ba_W} {X : lc_X} {σ τ : ba_St} {i : Nat} (V : lc_V wC wM X) (jC : ba_inj ba_tC wC) (jM : ba_inj ba_tM wM) (hi : i + 6 ≤ lc_L X) (h : RR σ τ) (next : ∀ σ' τ', RR σ' τ' → lc_G wC wM X σ' τ' 1346 (lc_lv wC wM X i) []) : lc_G wC wM X σ τ 233 (lc_lv wC wM X i) [] := by
  obtain ⟨v, s', m', e1, e2, R⟩ := q_wipe h (lc_s X (i + 1))
  refine lc_aload V dL_law_233 1 rfl ?_
  refine lc_arg (k := 1) V dL_law_234 dL_law_235 dL_law_236 dL_law_237 dL_law_238 rfl (by omega) ?_
  refine lc_callCI (st := []) (As := [.int (lc_s X (i + 1))]) V dL_law_239 kcL_18 (fun l => yb_wipe jC l e1) ⟨rfl, rfl⟩ ⟨rfl, rfl, Nat.le_of_ble_eq_true rfl, Nat.le_of_ble_eq_true rfl⟩ (Nat.le_of_ble_eq_true rfl) ?_
  refine lc_aload V dL_law_242 2 rfl ?_
  refine lc_arg (k := 1) V dL_law_243 dL_law_244 dL_law_245 dL_law_246 dL_law_247 rfl (by omega) ?_
  refine lc_callMI (st := [.int v]) (As := [.int (lc_s X (i + 1))]) V dL_law_248 kcL_22 (fun l => ym_wipe jM l e2) ⟨rfl, rfl⟩ ⟨rfl, rfl, Nat.le_of_ble_eq_true rfl, Nat.le_of_ble_eq_true rfl⟩ (Nat.le_of_ble_eq_true rfl) ?_
  exact lc_eqI V dL_law_251 (tgt := 1346) rfl (next _ _ R)
set_option maxHeartbeats 4000000 in
set_option maxRecDepth 100000 in
theorem lk_2 {wC wM : ba_W} {X : lc_X} {σ τ : ba_St} {i : Nat} (V : lc_V wC wM X) (jC : ba_inj ba_tC wC) (jM : ba_inj ba_tM wM) (hi : i + 6 ≤ lc_L X) (h : RR σ τ) (next : ∀ σ' τ', RR σ' τ' → lc_G wC wM X σ' τ' 1346 (lc_lv wC wM X i) []) : lc_G wC wM X σ τ 256 (lc_lv wC wM X i) [] := by
  obtain ⟨v, s', m', e1, e2, R⟩ := q_undo h (lc_s X (i + 1))
  refine lc_aload V dL_law_256 1 rfl ?_
  refine lc_arg (k := 1) V dL_law_257 dL_law_258 dL_law_259 dL_law_260 dL_law_261 rfl (by omega) ?_
  refine lc_callCI (st := []) (As := [.int (lc_s X (i + 1))]) V dL_law_262 kcL_23 (fun l => yb_undo jC l e1) ⟨rfl, rfl⟩ ⟨rfl, rfl, Nat.le_of_ble_eq_true rfl, Nat.le_of_ble_eq_true rfl⟩ (Nat.le_of_ble_eq_true rfl) ?_
  refine lc_aload V dL_law_265 2 rfl ?_
  refine lc_arg (k := 1) V dL_law_266 dL_law_267 dL_law_268 dL_law_269 dL_law_270 rfl (by omega) ?_
  refine lc_callMI (st := [.int v]) (As := [.int (lc_s X (i + 1))]) V dL_law_271 kcL_26 (fun l => ym_undo jM l e2) ⟨rfl, rfl⟩ ⟨rfl, rfl, Nat.le_of_ble_eq_true rfl, Nat.le_of_ble_eq_true rfl⟩ (Nat.le_of_ble_eq_true rfl) ?_
  exact lc_eqI V dL_law_274 (tgt := 1346) rfl (next _ _ R)
set_option maxHeartbeats 4000000 in
set_option maxRecDepth 100000 in
theorem lk_3 {wC wM : ba_W} {X : lc_X} {σ τ : ba_St} {i : Nat} (V : lc_V wC wM X) (jC : ba_inj ba_tC wC) (jM : ba_inj ba_tM wM) (hi : i + 6 ≤ lc_L X) (h : RR σ τ) (next : ∀ σ' τ', RR σ' τ' → lc_G wC wM X σ' τ' 1346 (lc_lv wC wM X i) []) : lc_G wC wM X σ τ 279 (lc_lv wC wM X i) [] := by
  obtain ⟨v, m', e1, e2, R⟩ := q_fault h (lc_s X (i + 1))
  refine lc_aload V dL_law_279 1 rfl ?_
  refine lc_arg (k := 1) V dL_law_280 dL_law_281 dL_law_282 dL_law_283 dL_law_284 rfl (by omega) ?_
  refine lc_callCI (st := []) (As := [.int (lc_s X (i + 1))]) V dL_law_285 kcL_27 (fun l => yb_fault jC l e1) ⟨rfl, rfl⟩ ⟨rfl, rfl, Nat.le_of_ble_eq_true rfl, Nat.le_of_ble_eq_true rfl⟩ (Nat.le_of_ble_eq_true rfl) ?_
  refine lc_aload V dL_law_288 2 rfl ?_
  refine lc_arg (k := 1) V dL_law_289 dL_law_290 dL_law_291 dL_law_292 dL_law_293 rfl (by omega) ?_
  refine lc_callMI (st := [.int v]) (As := [.int (lc_s X (i + 1))]) V dL_law_294 kcL_30 (fun l => ym_fault jM l e2) ⟨rfl, rfl⟩ ⟨rfl, rfl, Nat.le_of_ble_eq_true rfl, Nat.le_of_ble_eq_true rfl⟩ (Nat.le_of_ble_eq_true rfl) ?_
  exact lc_eqI V dL_law_297 (tgt := 1346) rfl (next _ _ R)
set_option maxHeartbeats 4000000 in
set_option maxRecDepth 100000 in
theorem lk_4 {wC wM : ba_W} {X : lc_X} {σ τ : ba_St} {i : Nat} (V : lc_V wC wM X) (jC : ba_inj ba_tC wC) (jM : ba_inj ba_tM wM) (hi : i + 6 ≤ lc_L X) (h : RR σ τ) (next : ∀ σ' τ', RR σ' τ' → lc_G wC wM X σ' τ' 1346 (lc_lv wC wM X i) []) : lc_G wC wM X σ τ 302 (lc_lv wC wM X i) [] := by
  obtain ⟨v, m', e1, e2, R⟩ := q_pin h (lc_s X (i + 1)) (lc_s X (i + 2))
  refine lc_aload V dL_law_302 1 rfl ?_
  refine lc_arg (k := 1) V dL_law_303 dL_law_304 dL_law_305 dL_law_306 dL_law_307 rfl (by omega) ?_
  refine lc_arg (k := 2) V dL_law_308 dL_law_309 dL_law_310 dL_law_311 dL_law_312 rfl (by omega) ?_
  refine lc_callCI (st := []) (As := [.int (lc_s X (i + 1)), .int (lc_s X (i + 2))]) V dL_law_313 kcL_31 (fun l => yb_pin jC l e1) ⟨rfl, rfl⟩ ⟨rfl, rfl, Nat.le_of_ble_eq_true rfl, Nat.le_of_ble_eq_true rfl⟩ (Nat.le_of_ble_eq_true rfl) ?_
  refine lc_aload V dL_law_316 2 rfl ?_
  refine lc_arg (k := 1) V dL_law_317 dL_law_318 dL_law_319 dL_law_320 dL_law_321 rfl (by omega) ?_
  refine lc_arg (k := 2) V dL_law_322 dL_law_323 dL_law_324 dL_law_325 dL_law_326 rfl (by omega) ?_
  refine lc_callMI (st := [.int v]) (As := [.int (lc_s X (i + 1)), .int (lc_s X (i + 2))]) V dL_law_327 kcL_34 (fun l => ym_pin jM l e2) ⟨rfl, rfl⟩ ⟨rfl, rfl, Nat.le_of_ble_eq_true rfl, Nat.le_of_ble_eq_true rfl⟩ (Nat.le_of_ble_eq_true rfl) ?_
  exact lc_eqI V dL_law_330 (tgt := 1346) rfl (next _ _ R)
set_option maxHeartbeats 4000000 in
set_option maxRecDepth 100000 in
theorem lk_5 {wC wM : ba_W} {X : lc_X} {σ τ : ba_St} {i : Nat} (V : lc_V wC wM X) (jC : ba_inj ba_tC wC) (jM : ba_inj ba_tM wM) (hi : i + 6 ≤ lc_L X) (h : RR σ τ) (next : ∀ σ' τ', RR σ' τ' → lc_G wC wM X σ' τ' 1346 (lc_lv wC wM X i) []) : lc_G wC wM X σ τ 335 (lc_lv wC wM X i) [] := by
  obtain ⟨v, s', m', e1, e2, R⟩ := q_cup h (lc_s X (i + 1)) (lc_s X (i + 2))
  refine lc_aload V dL_law_335 1 rfl ?_
  refine lc_arg (k := 1) V dL_law_336 dL_law_337 dL_law_338 dL_law_339 dL_law_340 rfl (by omega) ?_
  refine lc_arg (k := 2) V dL_law_341 dL_law_342 dL_law_343 dL_law_344 dL_law_345 rfl (by omega) ?_
  refine lc_callCI (st := []) (As := [.int (lc_s X (i + 1)), .int (lc_s X (i + 2))]) V dL_law_346 kcL_35 (fun l => yb_cup jC l e1) ⟨rfl, rfl⟩ ⟨rfl, rfl, Nat.le_of_ble_eq_true rfl, Nat.le_of_ble_eq_true rfl⟩ (Nat.le_of_ble_eq_true rfl) ?_
  refine lc_aload V dL_law_349 2 rfl ?_
  refine lc_arg (k := 1) V dL_law_350 dL_law_351 dL_law_352 dL_law_353 dL_law_354 rfl (by omega) ?_
  refine lc_arg (k := 2) V dL_law_355 dL_law_356 dL_law_357 dL_law_358 dL_law_359 rfl (by omega) ?_
  refine lc_callMI (st := [.int v]) (As := [.int (lc_s X (i + 1)), .int (lc_s X (i + 2))]) V dL_law_360 kcL_38 (fun l => ym_cup jM l e2) ⟨rfl, rfl⟩ ⟨rfl, rfl, Nat.le_of_ble_eq_true rfl, Nat.le_of_ble_eq_true rfl⟩ (Nat.le_of_ble_eq_true rfl) ?_
  exact lc_eqI V dL_law_363 (tgt := 1346) rfl (next _ _ R)
set_option maxHeartbeats 4000000 in
set_option maxRecDepth 100000 in
theorem lk_6 {wC wM : ba_W} {X : lc_X} {σ τ : ba_St} {i : Nat} (V : lc_V wC wM X) (jC : ba_inj ba_tC wC) (jM : ba_inj ba_tM wM) (hi : i + 6 ≤ lc_L X) (h : RR σ τ) (next : ∀ σ' τ', RR σ' τ' → lc_G wC wM X σ' τ' 1346 (lc_lv wC wM X i) []) : lc_G wC wM X σ τ 368 (lc_lv wC wM X i) [] := by
  obtain ⟨v, m', e1, e2, R⟩ := q_ball h (lc_s X (i + 1)) (lc_s X (i + 2))
  refine lc_aload V dL_law_368 1 rfl ?_
  refine lc_arg (k := 1) V dL_law_369 dL_law_370 dL_law_371 dL_law_372 dL_law_373 rfl (by omega) ?_
  refine lc_arg (k := 2) V dL_law_374 dL_law_375 dL_law_376 dL_law_377 dL_law_378 rfl (by omega) ?_
  refine lc_callCI (st := []) (As := [.int (lc_s X (i + 1)), .int (lc_s X (i + 2))]) V dL_law_379 kcL_39 (fun l => yb_ball jC l e1) ⟨rfl, rfl⟩ ⟨rfl, rfl, Nat.le_of_ble_eq_true rfl, Nat.le_of_ble_eq_true rfl⟩ (Nat.le_of_ble_eq_true rfl) ?_
  refine lc_aload V dL_law_382 2 rfl ?_
  refine lc_arg (k := 1) V dL_law_383 dL_law_384 dL_law_385 dL_law_386 dL_law_387 rfl (by omega) ?_
  refine lc_arg (k := 2) V dL_law_388 dL_law_389 dL_law_390 dL_law_391 dL_law_392 rfl (by omega) ?_
  refine lc_callMI (st := [.int v]) (As := [.int (lc_s X (i + 1)), .int (lc_s X (i + 2))]) V dL_law_393 kcL_42 (fun l => ym_ball jM l e2) ⟨rfl, rfl⟩ ⟨rfl, rfl, Nat.le_of_ble_eq_true rfl, Nat.le_of_ble_eq_true rfl⟩ (Nat.le_of_ble_eq_true rfl) ?_
  exact lc_eqI V dL_law_396 (tgt := 1346) rfl (next _ _ R)
set_option maxHeartbeats 4000000 in
set_option maxRecDepth 100000 in
theorem lk_7 {wC wM : ba_W} {X : lc_X} {σ τ : ba_St} {i : Nat} (V : lc_V wC wM X) (jC : ba_inj ba_tC wC) (jM : ba_inj ba_tM wM) (hi : i + 6 ≤ lc_L X) (h : RR σ τ) (next : ∀ σ' τ', RR σ' τ' → lc_G wC wM X σ' τ' 1346 (lc_lv wC wM X i) []) : lc_G wC wM X σ τ 401 (lc_lv wC wM X i) [] := by
  obtain ⟨v, s', m', e1, e2, R⟩ := q_room h (lc_s X (i + 1))
  refine lc_aload V dL_law_401 1 rfl ?_
  refine lc_arg (k := 1) V dL_law_402 dL_law_403 dL_law_404 dL_law_405 dL_law_406 rfl (by omega) ?_
  refine lc_callCI (st := []) (As := [.int (lc_s X (i + 1))]) V dL_law_407 kcL_43 (fun l => yb_room jC l e1) ⟨rfl, rfl⟩ ⟨rfl, rfl, Nat.le_of_ble_eq_true rfl, Nat.le_of_ble_eq_true rfl⟩ (Nat.le_of_ble_eq_true rfl) ?_
  refine lc_aload V dL_law_410 2 rfl ?_
  refine lc_arg (k := 1) V dL_law_411 dL_law_412 dL_law_413 dL_law_414 dL_law_415 rfl (by omega) ?_
  refine lc_callMI (st := [.int v]) (As := [.int (lc_s X (i + 1))]) V dL_law_416 kcL_46 (fun l => ym_room jM l e2) ⟨rfl, rfl⟩ ⟨rfl, rfl, Nat.le_of_ble_eq_true rfl, Nat.le_of_ble_eq_true rfl⟩ (Nat.le_of_ble_eq_true rfl) ?_
  exact lc_eqI V dL_law_419 (tgt := 1346) rfl (next _ _ R)
set_option maxHeartbeats 4000000 in
set_option maxRecDepth 100000 in
theorem lk_8 {wC wM : ba_W} {X : lc_X} {σ τ : ba_St} {i : Nat} (V : lc_V wC wM X) (jC : ba_inj ba_tC wC) (jM : ba_inj ba_tM wM) (hi : i + 6 ≤ lc_L X) (h : RR σ τ) (next : ∀ σ' τ', RR σ' τ' → lc_G wC wM X σ' τ' 1346 (lc_lv wC wM X i) []) : lc_G wC wM X σ τ 424 (lc_lv wC wM X i) [] := by
  obtain ⟨v, s', m', e1, e2, R⟩ := q_event h (lc_s X (i + 1)) (lc_s X (i + 2)) (lc_s X (i + 3))
  refine lc_aload V dL_law_424 1 rfl ?_
  refine lc_arg (k := 1) V dL_law_425 dL_law_426 dL_law_427 dL_law_428 dL_law_429 rfl (by omega) ?_
  refine lc_arg (k := 2) V dL_law_430 dL_law_431 dL_law_432 dL_law_433 dL_law_434 rfl (by omega) ?_
  refine lc_arg (k := 3) V dL_law_435 dL_law_436 dL_law_437 dL_law_438 dL_law_439 rfl (by omega) ?_
  refine lc_callCI (st := []) (As := [.int (lc_s X (i + 1)), .int (lc_s X (i + 2)), .int (lc_s X (i + 3))]) V dL_law_440 kcL_47 (fun l => yb_event jC l e1) ⟨rfl, rfl⟩ ⟨rfl, rfl, Nat.le_of_ble_eq_true rfl, Nat.le_of_ble_eq_true rfl⟩ (Nat.le_of_ble_eq_true rfl) ?_
  refine lc_aload V dL_law_443 2 rfl ?_
  refine lc_arg (k := 1) V dL_law_444 dL_law_445 dL_law_446 dL_law_447 dL_law_448 rfl (by omega) ?_
  refine lc_arg (k := 2) V dL_law_449 dL_law_450 dL_law_451 dL_law_452 dL_law_453 rfl (by omega) ?_
  refine lc_arg (k := 3) V dL_law_454 dL_law_455 dL_law_456 dL_law_457 dL_law_458 rfl (by omega) ?_
  refine lc_callMI (st := [.int v]) (As := [.int (lc_s X (i + 1)), .int (lc_s X (i + 2)), .int (lc_s X (i + 3))]) V dL_law_459 kcL_51 (fun l => ym_event jM l e2) ⟨rfl, rfl⟩ ⟨rfl, rfl, Nat.le_of_ble_eq_true rfl, Nat.le_of_ble_eq_true rfl⟩ (Nat.le_of_ble_eq_true rfl) ?_
  exact lc_eqI V dL_law_462 (tgt := 1346) rfl (next _ _ R)
set_option maxHeartbeats 4000000 in
set_option maxRecDepth 100000 in
theorem lk_9 {wC wM : ba_W} {X : lc_X} {σ τ : ba_St} {i : Nat} (V : lc_V wC wM X) (jC : ba_inj ba_tC wC) (jM : ba_inj ba_tM wM) (hi : i + 6 ≤ lc_L X) (h : RR σ τ) (next : ∀ σ' τ', RR σ' τ' → lc_G wC wM X σ' τ' 1346 (lc_lv wC wM X i) []) : lc_G wC wM X σ τ 467 (lc_lv wC wM X i) [] := by
  obtain ⟨v, s', m', e1, e2, R⟩ := q_back h
  refine lc_aload V dL_law_467 1 rfl ?_
  refine lc_callCI (st := []) (As := []) V dL_law_468 kcL_52 (fun l => yb_back jC l e1) ⟨rfl, rfl⟩ ⟨rfl, rfl, Nat.le_of_ble_eq_true rfl, Nat.le_of_ble_eq_true rfl⟩ (Nat.le_of_ble_eq_true rfl) ?_
  refine lc_aload V dL_law_471 2 rfl ?_
  refine lc_callMI (st := [.int v]) (As := []) V dL_law_472 kcL_56 (fun l => ym_back jM l e2) ⟨rfl, rfl⟩ ⟨rfl, rfl, Nat.le_of_ble_eq_true rfl, Nat.le_of_ble_eq_true rfl⟩ (Nat.le_of_ble_eq_true rfl) ?_
  exact lc_eqI V dL_law_475 (tgt := 1346) rfl (next _ _ R)
set_option maxHeartbeats 4000000 in
set_option maxRecDepth 100000 in
theorem lk_10 {wC wM : ba_W} {X : lc_X} {σ τ : ba_St} {i : Nat} (V : lc_V wC wM X) (jC : ba_inj ba_tC wC) (jM : ba_inj ba_tM wM) (hi : i + 6 ≤ lc_L X) (h : RR σ τ) (next : ∀ σ' τ', RR σ' τ' → lc_G wC wM X σ' τ' 1346 (lc_lv wC wM X i) []) : lc_G wC wM X σ τ 480 (lc_lv wC wM X i) [] := by
  obtain ⟨v, s', m', e1, e2, R⟩ := q_read h (lc_s X (i + 1))
  refine lc_aload V dL_law_480 1 rfl ?_
  refine lc_arg (k := 1) V dL_law_481 dL_law_482 dL_law_483 dL_law_484 dL_law_485 rfl (by omega) ?_
  refine lc_callCI (st := []) (As := [.int (lc_s X (i + 1))]) V dL_law_486 kcL_57 (fun l => yb_read jC l e1) ⟨rfl, rfl⟩ ⟨rfl, rfl, Nat.le_of_ble_eq_true rfl, Nat.le_of_ble_eq_true rfl⟩ (Nat.le_of_ble_eq_true rfl) ?_
  refine lc_aload V dL_law_489 2 rfl ?_
  refine lc_arg (k := 1) V dL_law_490 dL_law_491 dL_law_492 dL_law_493 dL_law_494 rfl (by omega) ?_
  refine lc_callMI (st := [.int v]) (As := [.int (lc_s X (i + 1))]) V dL_law_495 kcL_60 (fun l => ym_read jM l e2) ⟨rfl, rfl⟩ ⟨rfl, rfl, Nat.le_of_ble_eq_true rfl, Nat.le_of_ble_eq_true rfl⟩ (Nat.le_of_ble_eq_true rfl) ?_
  exact lc_eqI V dL_law_498 (tgt := 1346) rfl (next _ _ R)
set_option maxHeartbeats 4000000 in
set_option maxRecDepth 100000 in
theorem lk_11 {wC wM : ba_W} {X : lc_X} {σ τ : ba_St} {i : Nat} (V : lc_V wC wM X) (jC : ba_inj ba_tC wC) (jM : ba_inj ba_tM wM) (hi : i + 6 ≤ lc_L X) (h : RR σ τ) (next : ∀ σ' τ', RR σ' τ' → lc_G wC wM X σ' τ' 1346 (lc_lv wC wM X i) []) : lc_G wC wM X σ τ 503 (lc_lv wC wM X i) [] := by
  obtain ⟨v, s', m', e1, e2, R⟩ := q_at h (lc_s X (i + 1)) (lc_s X (i + 2)) (lc_s X (i + 3))
  refine lc_aload V dL_law_503 1 rfl ?_
  refine lc_arg (k := 1) V dL_law_504 dL_law_505 dL_law_506 dL_law_507 dL_law_508 rfl (by omega) ?_
  refine lc_arg (k := 2) V dL_law_509 dL_law_510 dL_law_511 dL_law_512 dL_law_513 rfl (by omega) ?_
  refine lc_arg (k := 3) V dL_law_514 dL_law_515 dL_law_516 dL_law_517 dL_law_518 rfl (by omega) ?_
  refine lc_callCI (st := []) (As := [.int (lc_s X (i + 1)), .int (lc_s X (i + 2)), .int (lc_s X (i + 3))]) V dL_law_519 kcL_61 (fun l => yb_at jC l e1) ⟨rfl, rfl⟩ ⟨rfl, rfl, Nat.le_of_ble_eq_true rfl, Nat.le_of_ble_eq_true rfl⟩ (Nat.le_of_ble_eq_true rfl) ?_
  refine lc_aload V dL_law_522 2 rfl ?_
  refine lc_arg (k := 1) V dL_law_523 dL_law_524 dL_law_525 dL_law_526 dL_law_527 rfl (by omega) ?_
  refine lc_arg (k := 2) V dL_law_528 dL_law_529 dL_law_530 dL_law_531 dL_law_532 rfl (by omega) ?_
  refine lc_arg (k := 3) V dL_law_533 dL_law_534 dL_law_535 dL_law_536 dL_law_537 rfl (by omega) ?_
  refine lc_callMI (st := [.int v]) (As := [.int (lc_s X (i + 1)), .int (lc_s X (i + 2)), .int (lc_s X (i + 3))]) V dL_law_538 kcL_64 (fun l => ym_at jM l e2) ⟨rfl, rfl⟩ ⟨rfl, rfl, Nat.le_of_ble_eq_true rfl, Nat.le_of_ble_eq_true rfl⟩ (Nat.le_of_ble_eq_true rfl) ?_
  exact lc_eqI V dL_law_541 (tgt := 1346) rfl (next _ _ R)
set_option maxHeartbeats 4000000 in
set_option maxRecDepth 100000 in
theorem lk_12 {wC wM : ba_W} {X : lc_X} {σ τ : ba_St} {i : Nat} (V : lc_V wC wM X) (jC : ba_inj ba_tC wC) (jM : ba_inj ba_tM wM) (hi : i + 6 ≤ lc_L X) (h : RR σ τ) (next : ∀ σ' τ', RR σ' τ' → lc_G wC wM X σ' τ' 1346 (lc_lv wC wM X i) []) : lc_G wC wM X σ τ 546 (lc_lv wC wM X i) [] := by
  obtain ⟨v, s', m', e1, e2, R⟩ := q_sees h (lc_s X (i + 1)) (lc_s X (i + 2)) (lc_s X (i + 3))
  refine lc_aload V dL_law_546 1 rfl ?_
  refine lc_arg (k := 1) V dL_law_547 dL_law_548 dL_law_549 dL_law_550 dL_law_551 rfl (by omega) ?_
  refine lc_arg (k := 2) V dL_law_552 dL_law_553 dL_law_554 dL_law_555 dL_law_556 rfl (by omega) ?_
  refine lc_arg (k := 3) V dL_law_557 dL_law_558 dL_law_559 dL_law_560 dL_law_561 rfl (by omega) ?_
  refine lc_callCI (st := []) (As := [.int (lc_s X (i + 1)), .int (lc_s X (i + 2)), .int (lc_s X (i + 3))]) V dL_law_562 kcL_65 (fun l => yb_sees jC l e1) ⟨rfl, rfl⟩ ⟨rfl, rfl, Nat.le_of_ble_eq_true rfl, Nat.le_of_ble_eq_true rfl⟩ (Nat.le_of_ble_eq_true rfl) ?_
  refine lc_aload V dL_law_565 2 rfl ?_
  refine lc_arg (k := 1) V dL_law_566 dL_law_567 dL_law_568 dL_law_569 dL_law_570 rfl (by omega) ?_
  refine lc_arg (k := 2) V dL_law_571 dL_law_572 dL_law_573 dL_law_574 dL_law_575 rfl (by omega) ?_
  refine lc_arg (k := 3) V dL_law_576 dL_law_577 dL_law_578 dL_law_579 dL_law_580 rfl (by omega) ?_
  refine lc_callMI (st := [.int v]) (As := [.int (lc_s X (i + 1)), .int (lc_s X (i + 2)), .int (lc_s X (i + 3))]) V dL_law_581 kcL_68 (fun l => ym_sees jM l e2) ⟨rfl, rfl⟩ ⟨rfl, rfl, Nat.le_of_ble_eq_true rfl, Nat.le_of_ble_eq_true rfl⟩ (Nat.le_of_ble_eq_true rfl) ?_
  exact lc_eqI V dL_law_584 (tgt := 1346) rfl (next _ _ R)
set_option maxHeartbeats 4000000 in
set_option maxRecDepth 100000 in
theorem lk_13 {wC wM : ba_W} {X : lc_X} {σ τ : ba_St} {i : Nat} (V : lc_V wC wM X) (jC : ba_inj ba_tC wC) (jM : ba_inj ba_tM wM) (hi : i + 6 ≤ lc_L X) (h : RR σ τ) (next : ∀ σ' τ', RR σ' τ' → lc_G wC wM X σ' τ' 1346 (lc_lv wC wM X i) []) : lc_G wC wM X σ τ 589 (lc_lv wC wM X i) [] := by
  obtain ⟨v, s', m', e1, e2, R⟩ := q_ends h (lc_s X (i + 1)) (lc_s X (i + 2))
  refine lc_aload V dL_law_589 1 rfl ?_
  refine lc_arg (k := 1) V dL_law_590 dL_law_591 dL_law_592 dL_law_593 dL_law_594 rfl (by omega) ?_
  refine lc_arg (k := 2) V dL_law_595 dL_law_596 dL_law_597 dL_law_598 dL_law_599 rfl (by omega) ?_
  refine lc_callCI (st := []) (As := [.int (lc_s X (i + 1)), .int (lc_s X (i + 2))]) V dL_law_600 kcL_69 (fun l => yb_ends jC l e1) ⟨rfl, rfl⟩ ⟨rfl, rfl, Nat.le_of_ble_eq_true rfl, Nat.le_of_ble_eq_true rfl⟩ (Nat.le_of_ble_eq_true rfl) ?_
  refine lc_aload V dL_law_603 2 rfl ?_
  refine lc_arg (k := 1) V dL_law_604 dL_law_605 dL_law_606 dL_law_607 dL_law_608 rfl (by omega) ?_
  refine lc_arg (k := 2) V dL_law_609 dL_law_610 dL_law_611 dL_law_612 dL_law_613 rfl (by omega) ?_
  refine lc_callMI (st := [.int v]) (As := [.int (lc_s X (i + 1)), .int (lc_s X (i + 2))]) V dL_law_614 kcL_72 (fun l => ym_ends jM l e2) ⟨rfl, rfl⟩ ⟨rfl, rfl, Nat.le_of_ble_eq_true rfl, Nat.le_of_ble_eq_true rfl⟩ (Nat.le_of_ble_eq_true rfl) ?_
  exact lc_eqI V dL_law_617 (tgt := 1346) rfl (next _ _ R)
set_option maxHeartbeats 4000000 in
set_option maxRecDepth 100000 in
theorem lk_14 {wC wM : ba_W} {X : lc_X} {σ τ : ba_St} {i : Nat} (V : lc_V wC wM X) (jC : ba_inj ba_tC wC) (jM : ba_inj ba_tM wM) (hi : i + 6 ≤ lc_L X) (h : RR σ τ) (next : ∀ σ' τ', RR σ' τ' → lc_G wC wM X σ' τ' 1346 (lc_lv wC wM X i) []) : lc_G wC wM X σ τ 622 (lc_lv wC wM X i) [] := by
  obtain ⟨v, s', m', e1, e2, R⟩ := q_sum h (lc_s X (i + 1))
  refine lc_aload V dL_law_622 1 rfl ?_
  refine lc_arg (k := 1) V dL_law_623 dL_law_624 dL_law_625 dL_law_626 dL_law_627 rfl (by omega) ?_
  refine lc_callCI (st := []) (As := [.int (lc_s X (i + 1))]) V dL_law_628 kcL_73 (fun l => yb_sum jC l e1) ⟨rfl, rfl⟩ ⟨rfl, rfl, Nat.le_of_ble_eq_true rfl, Nat.le_of_ble_eq_true rfl⟩ (Nat.le_of_ble_eq_true rfl) ?_
  refine lc_aload V dL_law_631 2 rfl ?_
  refine lc_arg (k := 1) V dL_law_632 dL_law_633 dL_law_634 dL_law_635 dL_law_636 rfl (by omega) ?_
  refine lc_callMI (st := [.int v]) (As := [.int (lc_s X (i + 1))]) V dL_law_637 kcL_76 (fun l => ym_sum jM l e2) ⟨rfl, rfl⟩ ⟨rfl, rfl, Nat.le_of_ble_eq_true rfl, Nat.le_of_ble_eq_true rfl⟩ (Nat.le_of_ble_eq_true rfl) ?_
  exact lc_eqI V dL_law_640 (tgt := 1346) rfl (next _ _ R)
set_option maxHeartbeats 4000000 in
set_option maxRecDepth 100000 in
theorem lk_15 {wC wM : ba_W} {X : lc_X} {σ τ : ba_St} {i : Nat} (V : lc_V wC wM X) (jC : ba_inj ba_tC wC) (jM : ba_inj ba_tM wM) (hi : i + 6 ≤ lc_L X) (h : RR σ τ) (next : ∀ σ' τ', RR σ' τ' → lc_G wC wM X σ' τ' 1346 (lc_lv wC wM X i) []) : lc_G wC wM X σ τ 645 (lc_lv wC wM X i) [] := by
  obtain ⟨v, s', m', e1, e2, R⟩ := q_late h
  refine lc_aload V dL_law_645 1 rfl ?_
  refine lc_callCI (st := []) (As := []) V dL_law_646 kcL_77 (fun l => yb_late jC l e1) ⟨rfl, rfl⟩ ⟨rfl, rfl, Nat.le_of_ble_eq_true rfl, Nat.le_of_ble_eq_true rfl⟩ (Nat.le_of_ble_eq_true rfl) ?_
  refine lc_aload V dL_law_649 2 rfl ?_
  refine lc_callMI (st := [.int v]) (As := []) V dL_law_650 kcL_80 (fun l => ym_late jM l e2) ⟨rfl, rfl⟩ ⟨rfl, rfl, Nat.le_of_ble_eq_true rfl, Nat.le_of_ble_eq_true rfl⟩ (Nat.le_of_ble_eq_true rfl) ?_
  exact lc_eqI V dL_law_653 (tgt := 1346) rfl (next _ _ R)
set_option maxHeartbeats 4000000 in
set_option maxRecDepth 100000 in
theorem lk_16 {wC wM : ba_W} {X : lc_X} {σ τ : ba_St} {i : Nat} (V : lc_V wC wM X) (jC : ba_inj ba_tC wC) (jM : ba_inj ba_tM wM) (hi : i + 6 ≤ lc_L X) (h : RR σ τ) (next : ∀ σ' τ', RR σ' τ' → lc_G wC wM X σ' τ' 1346 (lc_lv wC wM X i) []) : lc_G wC wM X σ τ 658 (lc_lv wC wM X i) [] := by
  obtain ⟨v, s', m', e1, e2, R⟩ := q_best h
  refine lc_aload V dL_law_658 1 rfl ?_
  refine lc_callCI (st := []) (As := []) V dL_law_659 kcL_81 (fun l => yb_best jC l e1) ⟨rfl, rfl⟩ ⟨rfl, rfl, Nat.le_of_ble_eq_true rfl, Nat.le_of_ble_eq_true rfl⟩ (Nat.le_of_ble_eq_true rfl) ?_
  refine lc_aload V dL_law_662 2 rfl ?_
  refine lc_callMI (st := [.int v]) (As := []) V dL_law_663 kcL_84 (fun l => ym_best jM l e2) ⟨rfl, rfl⟩ ⟨rfl, rfl, Nat.le_of_ble_eq_true rfl, Nat.le_of_ble_eq_true rfl⟩ (Nat.le_of_ble_eq_true rfl) ?_
  exact lc_eqI V dL_law_666 (tgt := 1346) rfl (next _ _ R)
set_option maxHeartbeats 4000000 in
set_option maxRecDepth 100000 in
theorem lk_17 {wC wM : ba_W} {X : lc_X} {σ τ : ba_St} {i : Nat} (V : lc_V wC wM X) (jC : ba_inj ba_tC wC) (jM : ba_inj ba_tM wM) (hi : i + 6 ≤ lc_L X) (h : RR σ τ) (next : ∀ σ' τ', RR σ' τ' → lc_G wC wM X σ' τ' 1346 (lc_lv wC wM X i) []) : lc_G wC wM X σ τ 671 (lc_lv wC wM X i) [] := by
  obtain ⟨v, s', m', e1, e2, R⟩ := q_jam h (lc_s X (i + 1))
  refine lc_aload V dL_law_671 1 rfl ?_
  refine lc_arg (k := 1) V dL_law_672 dL_law_673 dL_law_674 dL_law_675 dL_law_676 rfl (by omega) ?_
  refine lc_callCI (st := []) (As := [.int (lc_s X (i + 1))]) V dL_law_677 kcL_85 (fun l => yb_jam jC l e1) ⟨rfl, rfl⟩ ⟨rfl, rfl, Nat.le_of_ble_eq_true rfl, Nat.le_of_ble_eq_true rfl⟩ (Nat.le_of_ble_eq_true rfl) ?_
  refine lc_aload V dL_law_680 2 rfl ?_
  refine lc_arg (k := 1) V dL_law_681 dL_law_682 dL_law_683 dL_law_684 dL_law_685 rfl (by omega) ?_
  refine lc_callMI (st := [.int v]) (As := [.int (lc_s X (i + 1))]) V dL_law_686 kcL_88 (fun l => ym_jam jM l e2) ⟨rfl, rfl⟩ ⟨rfl, rfl, Nat.le_of_ble_eq_true rfl, Nat.le_of_ble_eq_true rfl⟩ (Nat.le_of_ble_eq_true rfl) ?_
  exact lc_eqI V dL_law_689 (tgt := 1346) rfl (next _ _ R)
set_option maxHeartbeats 4000000 in
set_option maxRecDepth 100000 in
theorem lk_18 {wC wM : ba_W} {X : lc_X} {σ τ : ba_St} {i : Nat} (V : lc_V wC wM X) (jC : ba_inj ba_tC wC) (jM : ba_inj ba_tM wM) (hi : i + 6 ≤ lc_L X) (h : RR σ τ) (next : ∀ σ' τ', RR σ' τ' → lc_G wC wM X σ' τ' 1346 (lc_lv wC wM X i) []) : lc_G wC wM X σ τ 694 (lc_lv wC wM X i) [] := by
  obtain ⟨v, s', m', e1, e2, R⟩ := q_shoot h (lc_s X (i + 1)) (lc_s X (i + 2))
  refine lc_aload V dL_law_694 1 rfl ?_
  refine lc_arg (k := 1) V dL_law_695 dL_law_696 dL_law_697 dL_law_698 dL_law_699 rfl (by omega) ?_
  refine lc_arg (k := 2) V dL_law_700 dL_law_701 dL_law_702 dL_law_703 dL_law_704 rfl (by omega) ?_
  refine lc_callCI (st := []) (As := [.int (lc_s X (i + 1)), .int (lc_s X (i + 2))]) V dL_law_705 kcL_89 (fun l => yb_shoot jC l e1) ⟨rfl, rfl⟩ ⟨rfl, rfl, Nat.le_of_ble_eq_true rfl, Nat.le_of_ble_eq_true rfl⟩ (Nat.le_of_ble_eq_true rfl) ?_
  refine lc_aload V dL_law_708 2 rfl ?_
  refine lc_arg (k := 1) V dL_law_709 dL_law_710 dL_law_711 dL_law_712 dL_law_713 rfl (by omega) ?_
  refine lc_arg (k := 2) V dL_law_714 dL_law_715 dL_law_716 dL_law_717 dL_law_718 rfl (by omega) ?_
  refine lc_callMI (st := [.int v]) (As := [.int (lc_s X (i + 1)), .int (lc_s X (i + 2))]) V dL_law_719 kcL_92 (fun l => ym_shoot jM l e2) ⟨rfl, rfl⟩ ⟨rfl, rfl, Nat.le_of_ble_eq_true rfl, Nat.le_of_ble_eq_true rfl⟩ (Nat.le_of_ble_eq_true rfl) ?_
  exact lc_eqI V dL_law_722 (tgt := 1346) rfl (next _ _ R)
set_option maxHeartbeats 4000000 in
set_option maxRecDepth 100000 in
theorem lk_19 {wC wM : ba_W} {X : lc_X} {σ τ : ba_St} {i : Nat} (V : lc_V wC wM X) (jC : ba_inj ba_tC wC) (jM : ba_inj ba_tM wM) (hi : i + 6 ≤ lc_L X) (h : RR σ τ) (next : ∀ σ' τ', RR σ' τ' → lc_G wC wM X σ' τ' 1346 (lc_lv wC wM X i) []) : lc_G wC wM X σ τ 727 (lc_lv wC wM X i) [] := by
  obtain ⟨v, s', m', e1, e2, R⟩ := q_time h (lc_s X (i + 1)) (lc_s X (i + 2))
  refine lc_aload V dL_law_727 1 rfl ?_
  refine lc_arg (k := 1) V dL_law_728 dL_law_729 dL_law_730 dL_law_731 dL_law_732 rfl (by omega) ?_
  refine lc_arg (k := 2) V dL_law_733 dL_law_734 dL_law_735 dL_law_736 dL_law_737 rfl (by omega) ?_
  refine lc_callCI (st := []) (As := [.int (lc_s X (i + 1)), .int (lc_s X (i + 2))]) V dL_law_738 kcL_93 (fun l => yb_time jC l e1) ⟨rfl, rfl⟩ ⟨rfl, rfl, Nat.le_of_ble_eq_true rfl, Nat.le_of_ble_eq_true rfl⟩ (Nat.le_of_ble_eq_true rfl) ?_
  refine lc_aload V dL_law_741 2 rfl ?_
  refine lc_arg (k := 1) V dL_law_742 dL_law_743 dL_law_744 dL_law_745 dL_law_746 rfl (by omega) ?_
  refine lc_arg (k := 2) V dL_law_747 dL_law_748 dL_law_749 dL_law_750 dL_law_751 rfl (by omega) ?_
  refine lc_callMI (st := [.int v]) (As := [.int (lc_s X (i + 1)), .int (lc_s X (i + 2))]) V dL_law_752 kcL_96 (fun l => ym_time jM l e2) ⟨rfl, rfl⟩ ⟨rfl, rfl, Nat.le_of_ble_eq_true rfl, Nat.le_of_ble_eq_true rfl⟩ (Nat.le_of_ble_eq_true rfl) ?_
  exact lc_eqI V dL_law_755 (tgt := 1346) rfl (next _ _ R)
set_option maxHeartbeats 4000000 in
set_option maxRecDepth 100000 in
theorem lk_20 {wC wM : ba_W} {X : lc_X} {σ τ : ba_St} {i : Nat} (V : lc_V wC wM X) (jC : ba_inj ba_tC wC) (jM : ba_inj ba_tM wM) (hi : i + 6 ≤ lc_L X) (h : RR σ τ) (next : ∀ σ' τ', RR σ' τ' → lc_G wC wM X σ' τ' 1346 (lc_lv wC wM X i) []) : lc_G wC wM X σ τ 760 (lc_lv wC wM X i) [] := by
  obtain ⟨v, s', m', e1, e2, R⟩ := q_bend h (lc_s X (i + 1)) (lc_s X (i + 2))
  refine lc_aload V dL_law_760 1 rfl ?_
  refine lc_arg (k := 1) V dL_law_761 dL_law_762 dL_law_763 dL_law_764 dL_law_765 rfl (by omega) ?_
  refine lc_arg (k := 2) V dL_law_766 dL_law_767 dL_law_768 dL_law_769 dL_law_770 rfl (by omega) ?_
  refine lc_callCI (st := []) (As := [.int (lc_s X (i + 1)), .int (lc_s X (i + 2))]) V dL_law_771 kcL_97 (fun l => yb_bend jC l e1) ⟨rfl, rfl⟩ ⟨rfl, rfl, Nat.le_of_ble_eq_true rfl, Nat.le_of_ble_eq_true rfl⟩ (Nat.le_of_ble_eq_true rfl) ?_
  refine lc_aload V dL_law_774 2 rfl ?_
  refine lc_arg (k := 1) V dL_law_775 dL_law_776 dL_law_777 dL_law_778 dL_law_779 rfl (by omega) ?_
  refine lc_arg (k := 2) V dL_law_780 dL_law_781 dL_law_782 dL_law_783 dL_law_784 rfl (by omega) ?_
  refine lc_callMI (st := [.int v]) (As := [.int (lc_s X (i + 1)), .int (lc_s X (i + 2))]) V dL_law_785 kcL_100 (fun l => ym_bend jM l e2) ⟨rfl, rfl⟩ ⟨rfl, rfl, Nat.le_of_ble_eq_true rfl, Nat.le_of_ble_eq_true rfl⟩ (Nat.le_of_ble_eq_true rfl) ?_
  exact lc_eqI V dL_law_788 (tgt := 1346) rfl (next _ _ R)
set_option maxHeartbeats 4000000 in
set_option maxRecDepth 100000 in
theorem lk_21 {wC wM : ba_W} {X : lc_X} {σ τ : ba_St} {i : Nat} (V : lc_V wC wM X) (jC : ba_inj ba_tC wC) (jM : ba_inj ba_tM wM) (hi : i + 6 ≤ lc_L X) (h : RR σ τ) (next : ∀ σ' τ', RR σ' τ' → lc_G wC wM X σ' τ' 1346 (lc_lv wC wM X i) []) : lc_G wC wM X σ τ 793 (lc_lv wC wM X i) [] := by
  obtain ⟨v, s', m', e1, e2, R⟩ := q_spare h (lc_s X (i + 1))
  refine lc_aload V dL_law_793 1 rfl ?_
  refine lc_arg (k := 1) V dL_law_794 dL_law_795 dL_law_796 dL_law_797 dL_law_798 rfl (by omega) ?_
  refine lc_callCI (st := []) (As := [.int (lc_s X (i + 1))]) V dL_law_799 kcL_101 (fun l => yb_spare jC l e1) ⟨rfl, rfl⟩ ⟨rfl, rfl, Nat.le_of_ble_eq_true rfl, Nat.le_of_ble_eq_true rfl⟩ (Nat.le_of_ble_eq_true rfl) ?_
  refine lc_aload V dL_law_802 2 rfl ?_
  refine lc_arg (k := 1) V dL_law_803 dL_law_804 dL_law_805 dL_law_806 dL_law_807 rfl (by omega) ?_
  refine lc_callMI (st := [.int v]) (As := [.int (lc_s X (i + 1))]) V dL_law_808 kcL_104 (fun l => ym_spare jM l e2) ⟨rfl, rfl⟩ ⟨rfl, rfl, Nat.le_of_ble_eq_true rfl, Nat.le_of_ble_eq_true rfl⟩ (Nat.le_of_ble_eq_true rfl) ?_
  exact lc_eqI V dL_law_811 (tgt := 1346) rfl (next _ _ R)
set_option maxHeartbeats 4000000 in
set_option maxRecDepth 100000 in
theorem lk_22 {wC wM : ba_W} {X : lc_X} {σ τ : ba_St} {i : Nat} (V : lc_V wC wM X) (jC : ba_inj ba_tC wC) (jM : ba_inj ba_tM wM) (hi : i + 6 ≤ lc_L X) (h : RR σ τ) (next : ∀ σ' τ', RR σ' τ' → lc_G wC wM X σ' τ' 1346 (lc_lv wC wM X i) []) : lc_G wC wM X σ τ 816 (lc_lv wC wM X i) [] := by
  obtain ⟨v, s', m', e1, e2, R⟩ := q_seen h (lc_s X (i + 1)) (lc_s X (i + 2)) (lc_s X (i + 3)) (lc_s X (i + 4))
  refine lc_aload V dL_law_816 1 rfl ?_
  refine lc_arg (k := 1) V dL_law_817 dL_law_818 dL_law_819 dL_law_820 dL_law_821 rfl (by omega) ?_
  refine lc_arg (k := 2) V dL_law_822 dL_law_823 dL_law_824 dL_law_825 dL_law_826 rfl (by omega) ?_
  refine lc_arg (k := 3) V dL_law_827 dL_law_828 dL_law_829 dL_law_830 dL_law_831 rfl (by omega) ?_
  refine lc_arg (k := 4) V dL_law_832 dL_law_833 dL_law_834 dL_law_835 dL_law_836 rfl (by omega) ?_
  refine lc_callCI (st := []) (As := [.int (lc_s X (i + 1)), .int (lc_s X (i + 2)), .int (lc_s X (i + 3)), .int (lc_s X (i + 4))]) V dL_law_837 kcL_105 (fun l => yb_seen jC l e1) ⟨rfl, rfl⟩ ⟨rfl, rfl, Nat.le_of_ble_eq_true rfl, Nat.le_of_ble_eq_true rfl⟩ (Nat.le_of_ble_eq_true rfl) ?_
  refine lc_aload V dL_law_840 2 rfl ?_
  refine lc_arg (k := 1) V dL_law_841 dL_law_842 dL_law_843 dL_law_844 dL_law_845 rfl (by omega) ?_
  refine lc_arg (k := 2) V dL_law_846 dL_law_847 dL_law_848 dL_law_849 dL_law_850 rfl (by omega) ?_
  refine lc_arg (k := 3) V dL_law_851 dL_law_852 dL_law_853 dL_law_854 dL_law_855 rfl (by omega) ?_
  refine lc_arg (k := 4) V dL_law_856 dL_law_857 dL_law_858 dL_law_859 dL_law_860 rfl (by omega) ?_
  refine lc_callMI (st := [.int v]) (As := [.int (lc_s X (i + 1)), .int (lc_s X (i + 2)), .int (lc_s X (i + 3)), .int (lc_s X (i + 4))]) V dL_law_861 kcL_109 (fun l => ym_seen jM l e2) ⟨rfl, rfl⟩ ⟨rfl, rfl, Nat.le_of_ble_eq_true rfl, Nat.le_of_ble_eq_true rfl⟩ (Nat.le_of_ble_eq_true rfl) ?_
  exact lc_eqI V dL_law_864 (tgt := 1346) rfl (next _ _ R)
set_option maxHeartbeats 4000000 in
set_option maxRecDepth 100000 in
theorem lk_23 {wC wM : ba_W} {X : lc_X} {σ τ : ba_St} {i : Nat} (V : lc_V wC wM X) (jC : ba_inj ba_tC wC) (jM : ba_inj ba_tM wM) (hi : i + 6 ≤ lc_L X) (h : RR σ τ) (next : ∀ σ' τ', RR σ' τ' → lc_G wC wM X σ' τ' 1346 (lc_lv wC wM X i) []) : lc_G wC wM X σ τ 869 (lc_lv wC wM X i) [] := by
  obtain ⟨v, s', m', e1, e2, R⟩ := q_forget h
  refine lc_aload V dL_law_869 1 rfl ?_
  refine lc_callCI (st := []) (As := []) V dL_law_870 kcL_110 (fun l => yb_forget jC l e1) ⟨rfl, rfl⟩ ⟨rfl, rfl, Nat.le_of_ble_eq_true rfl, Nat.le_of_ble_eq_true rfl⟩ (Nat.le_of_ble_eq_true rfl) ?_
  refine lc_aload V dL_law_873 2 rfl ?_
  refine lc_callMI (st := [.int v]) (As := []) V dL_law_874 kcL_113 (fun l => ym_forget jM l e2) ⟨rfl, rfl⟩ ⟨rfl, rfl, Nat.le_of_ble_eq_true rfl, Nat.le_of_ble_eq_true rfl⟩ (Nat.le_of_ble_eq_true rfl) ?_
  exact lc_eqI V dL_law_877 (tgt := 1346) rfl (next _ _ R)
set_option maxHeartbeats 4000000 in
set_option maxRecDepth 100000 in
theorem lk_24 {wC wM : ba_W} {X : lc_X} {σ τ : ba_St} {i : Nat} (V : lc_V wC wM X) (jC : ba_inj ba_tC wC) (jM : ba_inj ba_tM wM) (hi : i + 6 ≤ lc_L X) (h : RR σ τ) (next : ∀ σ' τ', RR σ' τ' → lc_G wC wM X σ' τ' 1346 (lc_lv wC wM X i) []) : lc_G wC wM X σ τ 882 (lc_lv wC wM X i) [] := by
  obtain ⟨v, s', m', e1, e2, R⟩ := q_never h
  refine lc_aload V dL_law_882 1 rfl ?_
  refine lc_callCI (st := []) (As := []) V dL_law_883 kcL_114 (fun l => yb_never jC l e1) ⟨rfl, rfl⟩ ⟨rfl, rfl, Nat.le_of_ble_eq_true rfl, Nat.le_of_ble_eq_true rfl⟩ (Nat.le_of_ble_eq_true rfl) ?_
  refine lc_aload V dL_law_886 2 rfl ?_
  refine lc_callMI (st := [.int v]) (As := []) V dL_law_887 kcL_117 (fun l => ym_never jM l e2) ⟨rfl, rfl⟩ ⟨rfl, rfl, Nat.le_of_ble_eq_true rfl, Nat.le_of_ble_eq_true rfl⟩ (Nat.le_of_ble_eq_true rfl) ?_
  exact lc_eqI V dL_law_890 (tgt := 1346) rfl (next _ _ R)
set_option maxHeartbeats 4000000 in
set_option maxRecDepth 100000 in
theorem lk_25 {wC wM : ba_W} {X : lc_X} {σ τ : ba_St} {i : Nat} (V : lc_V wC wM X) (jC : ba_inj ba_tC wC) (jM : ba_inj ba_tM wM) (hi : i + 6 ≤ lc_L X) (h : RR σ τ) (next : ∀ σ' τ', RR σ' τ' → lc_G wC wM X σ' τ' 1346 (lc_lv wC wM X i) []) : lc_G wC wM X σ τ 895 (lc_lv wC wM X i) [] := by
  obtain ⟨v, s', m', e1, e2, R⟩ := q_forces h (lc_s X (i + 1))
  refine lc_aload V dL_law_895 1 rfl ?_
  refine lc_arg (k := 1) V dL_law_896 dL_law_897 dL_law_898 dL_law_899 dL_law_900 rfl (by omega) ?_
  refine lc_callCI (st := []) (As := [.int (lc_s X (i + 1))]) V dL_law_901 kcL_118 (fun l => yb_forces jC l e1) ⟨rfl, rfl⟩ ⟨rfl, rfl, Nat.le_of_ble_eq_true rfl, Nat.le_of_ble_eq_true rfl⟩ (Nat.le_of_ble_eq_true rfl) ?_
  refine lc_aload V dL_law_904 2 rfl ?_
  refine lc_arg (k := 1) V dL_law_905 dL_law_906 dL_law_907 dL_law_908 dL_law_909 rfl (by omega) ?_
  refine lc_callMI (st := [.int v]) (As := [.int (lc_s X (i + 1))]) V dL_law_910 kcL_121 (fun l => ym_forces jM l e2) ⟨rfl, rfl⟩ ⟨rfl, rfl, Nat.le_of_ble_eq_true rfl, Nat.le_of_ble_eq_true rfl⟩ (Nat.le_of_ble_eq_true rfl) ?_
  exact lc_eqI V dL_law_913 (tgt := 1346) rfl (next _ _ R)
set_option maxHeartbeats 4000000 in
set_option maxRecDepth 100000 in
theorem lk_26 {wC wM : ba_W} {X : lc_X} {σ τ : ba_St} {i : Nat} (V : lc_V wC wM X) (jC : ba_inj ba_tC wC) (jM : ba_inj ba_tM wM) (hi : i + 6 ≤ lc_L X) (h : RR σ τ) (next : ∀ σ' τ', RR σ' τ' → lc_G wC wM X σ' τ' 1346 (lc_lv wC wM X i) []) : lc_G wC wM X σ τ 918 (lc_lv wC wM X i) [] := by
  obtain ⟨v, s', m', e1, e2, R⟩ := q_kind h (lc_s X (i + 1))
  refine lc_aload V dL_law_918 1 rfl ?_
  refine lc_arg (k := 1) V dL_law_919 dL_law_920 dL_law_921 dL_law_922 dL_law_923 rfl (by omega) ?_
  refine lc_callCI (st := []) (As := [.int (lc_s X (i + 1))]) V dL_law_924 kcL_122 (fun l => yb_kind jC l e1) ⟨rfl, rfl⟩ ⟨rfl, rfl, Nat.le_of_ble_eq_true rfl, Nat.le_of_ble_eq_true rfl⟩ (Nat.le_of_ble_eq_true rfl) ?_
  refine lc_aload V dL_law_927 2 rfl ?_
  refine lc_arg (k := 1) V dL_law_928 dL_law_929 dL_law_930 dL_law_931 dL_law_932 rfl (by omega) ?_
  refine lc_callMI (st := [.int v]) (As := [.int (lc_s X (i + 1))]) V dL_law_933 kcL_125 (fun l => ym_kind jM l e2) ⟨rfl, rfl⟩ ⟨rfl, rfl, Nat.le_of_ble_eq_true rfl, Nat.le_of_ble_eq_true rfl⟩ (Nat.le_of_ble_eq_true rfl) ?_
  exact lc_eqI V dL_law_936 (tgt := 1346) rfl (next _ _ R)
set_option maxHeartbeats 4000000 in
set_option maxRecDepth 100000 in
theorem lk_27 {wC wM : ba_W} {X : lc_X} {σ τ : ba_St} {i : Nat} (V : lc_V wC wM X) (jC : ba_inj ba_tC wC) (jM : ba_inj ba_tM wM) (hi : i + 6 ≤ lc_L X) (h : RR σ τ) (next : ∀ σ' τ', RR σ' τ' → lc_G wC wM X σ' τ' 1346 (lc_lv wC wM X i) []) : lc_G wC wM X σ τ 941 (lc_lv wC wM X i) [] := by
  obtain ⟨v, s', m', e1, e2, R⟩ := q_ask h (lc_s X (i + 1))
  refine lc_aload V dL_law_941 1 rfl ?_
  refine lc_arg (k := 1) V dL_law_942 dL_law_943 dL_law_944 dL_law_945 dL_law_946 rfl (by omega) ?_
  refine lc_callCI (st := []) (As := [.int (lc_s X (i + 1))]) V dL_law_947 kcL_126 (fun l => yb_ask jC l e1) ⟨rfl, rfl⟩ ⟨rfl, rfl, Nat.le_of_ble_eq_true rfl, Nat.le_of_ble_eq_true rfl⟩ (Nat.le_of_ble_eq_true rfl) ?_
  refine lc_aload V dL_law_950 2 rfl ?_
  refine lc_arg (k := 1) V dL_law_951 dL_law_952 dL_law_953 dL_law_954 dL_law_955 rfl (by omega) ?_
  refine lc_callMI (st := [.int v]) (As := [.int (lc_s X (i + 1))]) V dL_law_956 kcL_129 (fun l => ym_ask jM l e2) ⟨rfl, rfl⟩ ⟨rfl, rfl, Nat.le_of_ble_eq_true rfl, Nat.le_of_ble_eq_true rfl⟩ (Nat.le_of_ble_eq_true rfl) ?_
  exact lc_eqI V dL_law_959 (tgt := 1346) rfl (next _ _ R)
set_option maxHeartbeats 4000000 in
set_option maxRecDepth 100000 in
theorem lk_28 {wC wM : ba_W} {X : lc_X} {σ τ : ba_St} {i : Nat} (V : lc_V wC wM X) (jC : ba_inj ba_tC wC) (jM : ba_inj ba_tM wM) (hi : i + 6 ≤ lc_L X) (h : RR σ τ) (next : ∀ σ' τ', RR σ' τ' → lc_G wC wM X σ' τ' 1346 (lc_lv wC wM X i) []) : lc_G wC wM X σ τ 964 (lc_lv wC wM X i) [] := by
  obtain ⟨v, s', m', e1, e2, R⟩ := q_chance h (lc_s X (i + 1)) (lc_s X (i + 2)) (lc_s X (i + 3))
  refine lc_aload V dL_law_964 1 rfl ?_
  refine lc_arg (k := 1) V dL_law_965 dL_law_966 dL_law_967 dL_law_968 dL_law_969 rfl (by omega) ?_
  refine lc_arg (k := 2) V dL_law_970 dL_law_971 dL_law_972 dL_law_973 dL_law_974 rfl (by omega) ?_
  refine lc_arg (k := 3) V dL_law_975 dL_law_976 dL_law_977 dL_law_978 dL_law_979 rfl (by omega) ?_
  refine lc_callCL (st := []) (As := [.int (lc_s X (i + 1)), .int (lc_s X (i + 2)), .int (lc_s X (i + 3))]) V dL_law_980 kcL_130 (fun l => yb_chance jC l e1) ⟨rfl, rfl⟩ ⟨rfl, rfl, Nat.le_of_ble_eq_true rfl, Nat.le_of_ble_eq_true rfl⟩ (Nat.le_of_ble_eq_true rfl) ?_
  refine lc_aload V dL_law_983 2 rfl ?_
  refine lc_arg (k := 1) V dL_law_984 dL_law_985 dL_law_986 dL_law_987 dL_law_988 rfl (by omega) ?_
  refine lc_arg (k := 2) V dL_law_989 dL_law_990 dL_law_991 dL_law_992 dL_law_993 rfl (by omega) ?_
  refine lc_arg (k := 3) V dL_law_994 dL_law_995 dL_law_996 dL_law_997 dL_law_998 rfl (by omega) ?_
  refine lc_callML (st := [.long v]) (As := [.int (lc_s X (i + 1)), .int (lc_s X (i + 2)), .int (lc_s X (i + 3))]) V dL_law_999 kcL_134 (fun l => ym_chance jM l e2) ⟨rfl, rfl⟩ ⟨rfl, rfl, Nat.le_of_ble_eq_true rfl, Nat.le_of_ble_eq_true rfl⟩ (Nat.le_of_ble_eq_true rfl) ?_
  exact lc_eqL V dL_law_1002 dL_law_1003 (tgt := 1346) rfl (next _ _ R)
set_option maxHeartbeats 4000000 in
set_option maxRecDepth 100000 in
theorem lk_29 {wC wM : ba_W} {X : lc_X} {σ τ : ba_St} {i : Nat} (V : lc_V wC wM X) (jC : ba_inj ba_tC wC) (jM : ba_inj ba_tM wM) (hi : i + 6 ≤ lc_L X) (h : RR σ τ) (next : ∀ σ' τ', RR σ' τ' → lc_G wC wM X σ' τ' 1346 (lc_lv wC wM X i) []) : lc_G wC wM X σ τ 1008 (lc_lv wC wM X i) [] := by
  obtain ⟨v, s', m', e1, e2, R⟩ := q_sundays h (lc_s X (i + 1)) (lc_s X (i + 2)) (lc_s X (i + 3))
  refine lc_aload V dL_law_1008 1 rfl ?_
  refine lc_arg (k := 1) V dL_law_1009 dL_law_1010 dL_law_1011 dL_law_1012 dL_law_1013 rfl (by omega) ?_
  refine lc_arg (k := 2) V dL_law_1014 dL_law_1015 dL_law_1016 dL_law_1017 dL_law_1018 rfl (by omega) ?_
  refine lc_arg (k := 3) V dL_law_1019 dL_law_1020 dL_law_1021 dL_law_1022 dL_law_1023 rfl (by omega) ?_
  refine lc_callCI (st := []) (As := [.int (lc_s X (i + 1)), .int (lc_s X (i + 2)), .int (lc_s X (i + 3))]) V dL_law_1024 kcL_135 (fun l => yb_sundays jC l e1) ⟨rfl, rfl⟩ ⟨rfl, rfl, Nat.le_of_ble_eq_true rfl, Nat.le_of_ble_eq_true rfl⟩ (Nat.le_of_ble_eq_true rfl) ?_
  refine lc_aload V dL_law_1027 2 rfl ?_
  refine lc_arg (k := 1) V dL_law_1028 dL_law_1029 dL_law_1030 dL_law_1031 dL_law_1032 rfl (by omega) ?_
  refine lc_arg (k := 2) V dL_law_1033 dL_law_1034 dL_law_1035 dL_law_1036 dL_law_1037 rfl (by omega) ?_
  refine lc_arg (k := 3) V dL_law_1038 dL_law_1039 dL_law_1040 dL_law_1041 dL_law_1042 rfl (by omega) ?_
  refine lc_callMI (st := [.int v]) (As := [.int (lc_s X (i + 1)), .int (lc_s X (i + 2)), .int (lc_s X (i + 3))]) V dL_law_1043 kcL_138 (fun l => ym_sundays jM l e2) ⟨rfl, rfl⟩ ⟨rfl, rfl, Nat.le_of_ble_eq_true rfl, Nat.le_of_ble_eq_true rfl⟩ (Nat.le_of_ble_eq_true rfl) ?_
  exact lc_eqI V dL_law_1046 (tgt := 1346) rfl (next _ _ R)
set_option maxHeartbeats 4000000 in
set_option maxRecDepth 100000 in
theorem lk_30 {wC wM : ba_W} {X : lc_X} {σ τ : ba_St} {i : Nat} (V : lc_V wC wM X) (jC : ba_inj ba_tC wC) (jM : ba_inj ba_tM wM) (hi : i + 6 ≤ lc_L X) (h : RR σ τ) (next : ∀ σ' τ', RR σ' τ' → lc_G wC wM X σ' τ' 1346 (lc_lv wC wM X i) []) : lc_G wC wM X σ τ 1051 (lc_lv wC wM X i) [] := by
  obtain ⟨v, s', m', e1, e2, R⟩ := q_sheet h (lc_s X (i + 1)) (lc_s X (i + 2)) (lc_s X (i + 3))
  refine lc_aload V dL_law_1051 1 rfl ?_
  refine lc_arg (k := 1) V dL_law_1052 dL_law_1053 dL_law_1054 dL_law_1055 dL_law_1056 rfl (by omega) ?_
  refine lc_arg (k := 2) V dL_law_1057 dL_law_1058 dL_law_1059 dL_law_1060 dL_law_1061 rfl (by omega) ?_
  refine lc_arg (k := 3) V dL_law_1062 dL_law_1063 dL_law_1064 dL_law_1065 dL_law_1066 rfl (by omega) ?_
  refine lc_callCI (st := []) (As := [.int (lc_s X (i + 1)), .int (lc_s X (i + 2)), .int (lc_s X (i + 3))]) V dL_law_1067 kcL_139 (fun l => yb_sheet jC l e1) ⟨rfl, rfl⟩ ⟨rfl, rfl, Nat.le_of_ble_eq_true rfl, Nat.le_of_ble_eq_true rfl⟩ (Nat.le_of_ble_eq_true rfl) ?_
  refine lc_aload V dL_law_1070 2 rfl ?_
  refine lc_arg (k := 1) V dL_law_1071 dL_law_1072 dL_law_1073 dL_law_1074 dL_law_1075 rfl (by omega) ?_
  refine lc_arg (k := 2) V dL_law_1076 dL_law_1077 dL_law_1078 dL_law_1079 dL_law_1080 rfl (by omega) ?_
  refine lc_arg (k := 3) V dL_law_1081 dL_law_1082 dL_law_1083 dL_law_1084 dL_law_1085 rfl (by omega) ?_
  refine lc_callMI (st := [.int v]) (As := [.int (lc_s X (i + 1)), .int (lc_s X (i + 2)), .int (lc_s X (i + 3))]) V dL_law_1086 kcL_142 (fun l => ym_sheet jM l e2) ⟨rfl, rfl⟩ ⟨rfl, rfl, Nat.le_of_ble_eq_true rfl, Nat.le_of_ble_eq_true rfl⟩ (Nat.le_of_ble_eq_true rfl) ?_
  exact lc_eqI V dL_law_1089 (tgt := 1346) rfl (next _ _ R)
set_option maxHeartbeats 4000000 in
set_option maxRecDepth 100000 in
theorem lk_31 {wC wM : ba_W} {X : lc_X} {σ τ : ba_St} {i : Nat} (V : lc_V wC wM X) (jC : ba_inj ba_tC wC) (jM : ba_inj ba_tM wM) (hi : i + 6 ≤ lc_L X) (h : RR σ τ) (next : ∀ σ' τ', RR σ' τ' → lc_G wC wM X σ' τ' 1346 (lc_lv wC wM X i) []) : lc_G wC wM X σ τ 1094 (lc_lv wC wM X i) [] := by
  obtain ⟨v, s', m', e1, e2, R⟩ := q_lose h (lc_s X (i + 1))
  refine lc_aload V dL_law_1094 1 rfl ?_
  refine lc_arg (k := 1) V dL_law_1095 dL_law_1096 dL_law_1097 dL_law_1098 dL_law_1099 rfl (by omega) ?_
  refine lc_callCI (st := []) (As := [.int (lc_s X (i + 1))]) V dL_law_1100 kcL_143 (fun l => yb_lose jC l e1) ⟨rfl, rfl⟩ ⟨rfl, rfl, Nat.le_of_ble_eq_true rfl, Nat.le_of_ble_eq_true rfl⟩ (Nat.le_of_ble_eq_true rfl) ?_
  refine lc_aload V dL_law_1103 2 rfl ?_
  refine lc_arg (k := 1) V dL_law_1104 dL_law_1105 dL_law_1106 dL_law_1107 dL_law_1108 rfl (by omega) ?_
  refine lc_callMI (st := [.int v]) (As := [.int (lc_s X (i + 1))]) V dL_law_1109 kcL_146 (fun l => ym_lose jM l e2) ⟨rfl, rfl⟩ ⟨rfl, rfl, Nat.le_of_ble_eq_true rfl, Nat.le_of_ble_eq_true rfl⟩ (Nat.le_of_ble_eq_true rfl) ?_
  exact lc_eqI V dL_law_1112 (tgt := 1346) rfl (next _ _ R)
set_option maxHeartbeats 4000000 in
set_option maxRecDepth 100000 in
theorem lk_32 {wC wM : ba_W} {X : lc_X} {σ τ : ba_St} {i : Nat} (V : lc_V wC wM X) (jC : ba_inj ba_tC wC) (jM : ba_inj ba_tM wM) (hi : i + 6 ≤ lc_L X) (h : RR σ τ) (next : ∀ σ' τ', RR σ' τ' → lc_G wC wM X σ' τ' 1346 (lc_lv wC wM X i) []) : lc_G wC wM X σ τ 1117 (lc_lv wC wM X i) [] := by
  obtain ⟨v, s', m', e1, e2, R⟩ := q_lay h (lc_s X (i + 1)) (lc_s X (i + 2)) (lc_s X (i + 3)) (lc_s X (i + 4))
  refine lc_aload V dL_law_1117 1 rfl ?_
  refine lc_arg (k := 1) V dL_law_1118 dL_law_1119 dL_law_1120 dL_law_1121 dL_law_1122 rfl (by omega) ?_
  refine lc_arg (k := 2) V dL_law_1123 dL_law_1124 dL_law_1125 dL_law_1126 dL_law_1127 rfl (by omega) ?_
  refine lc_arg (k := 3) V dL_law_1128 dL_law_1129 dL_law_1130 dL_law_1131 dL_law_1132 rfl (by omega) ?_
  refine lc_arg (k := 4) V dL_law_1133 dL_law_1134 dL_law_1135 dL_law_1136 dL_law_1137 rfl (by omega) ?_
  refine lc_callCI (st := []) (As := [.int (lc_s X (i + 1)), .int (lc_s X (i + 2)), .int (lc_s X (i + 3)), .int (lc_s X (i + 4))]) V dL_law_1138 kcL_147 (fun l => yb_lay jC l e1) ⟨rfl, rfl⟩ ⟨rfl, rfl, Nat.le_of_ble_eq_true rfl, Nat.le_of_ble_eq_true rfl⟩ (Nat.le_of_ble_eq_true rfl) ?_
  refine lc_aload V dL_law_1141 2 rfl ?_
  refine lc_arg (k := 1) V dL_law_1142 dL_law_1143 dL_law_1144 dL_law_1145 dL_law_1146 rfl (by omega) ?_
  refine lc_arg (k := 2) V dL_law_1147 dL_law_1148 dL_law_1149 dL_law_1150 dL_law_1151 rfl (by omega) ?_
  refine lc_arg (k := 3) V dL_law_1152 dL_law_1153 dL_law_1154 dL_law_1155 dL_law_1156 rfl (by omega) ?_
  refine lc_arg (k := 4) V dL_law_1157 dL_law_1158 dL_law_1159 dL_law_1160 dL_law_1161 rfl (by omega) ?_
  refine lc_callMI (st := [.int v]) (As := [.int (lc_s X (i + 1)), .int (lc_s X (i + 2)), .int (lc_s X (i + 3)), .int (lc_s X (i + 4))]) V dL_law_1162 kcL_150 (fun l => ym_lay jM l e2) ⟨rfl, rfl⟩ ⟨rfl, rfl, Nat.le_of_ble_eq_true rfl, Nat.le_of_ble_eq_true rfl⟩ (Nat.le_of_ble_eq_true rfl) ?_
  exact lc_eqI V dL_law_1165 (tgt := 1346) rfl (next _ _ R)
set_option maxHeartbeats 4000000 in
set_option maxRecDepth 100000 in
theorem lk_33 {wC wM : ba_W} {X : lc_X} {σ τ : ba_St} {i : Nat} (V : lc_V wC wM X) (jC : ba_inj ba_tC wC) (jM : ba_inj ba_tM wM) (hi : i + 6 ≤ lc_L X) (h : RR σ τ) (next : ∀ σ' τ', RR σ' τ' → lc_G wC wM X σ' τ' 1346 (lc_lv wC wM X i) []) : lc_G wC wM X σ τ 1170 (lc_lv wC wM X i) [] := by
  obtain ⟨v, s', m', e1, e2, R⟩ := q_get h (lc_s X (i + 1)) (lc_s X (i + 2)) (lc_s X (i + 3))
  refine lc_aload V dL_law_1170 1 rfl ?_
  refine lc_arg (k := 1) V dL_law_1171 dL_law_1172 dL_law_1173 dL_law_1174 dL_law_1175 rfl (by omega) ?_
  refine lc_arg (k := 2) V dL_law_1176 dL_law_1177 dL_law_1178 dL_law_1179 dL_law_1180 rfl (by omega) ?_
  refine lc_arg (k := 3) V dL_law_1181 dL_law_1182 dL_law_1183 dL_law_1184 dL_law_1185 rfl (by omega) ?_
  refine lc_callCI (st := []) (As := [.int (lc_s X (i + 1)), .int (lc_s X (i + 2)), .int (lc_s X (i + 3))]) V dL_law_1186 kcL_151 (fun l => yb_get jC l e1) ⟨rfl, rfl⟩ ⟨rfl, rfl, Nat.le_of_ble_eq_true rfl, Nat.le_of_ble_eq_true rfl⟩ (Nat.le_of_ble_eq_true rfl) ?_
  refine lc_aload V dL_law_1189 2 rfl ?_
  refine lc_arg (k := 1) V dL_law_1190 dL_law_1191 dL_law_1192 dL_law_1193 dL_law_1194 rfl (by omega) ?_
  refine lc_arg (k := 2) V dL_law_1195 dL_law_1196 dL_law_1197 dL_law_1198 dL_law_1199 rfl (by omega) ?_
  refine lc_arg (k := 3) V dL_law_1200 dL_law_1201 dL_law_1202 dL_law_1203 dL_law_1204 rfl (by omega) ?_
  refine lc_callMI (st := [.int v]) (As := [.int (lc_s X (i + 1)), .int (lc_s X (i + 2)), .int (lc_s X (i + 3))]) V dL_law_1205 kcL_154 (fun l => ym_get jM l e2) ⟨rfl, rfl⟩ ⟨rfl, rfl, Nat.le_of_ble_eq_true rfl, Nat.le_of_ble_eq_true rfl⟩ (Nat.le_of_ble_eq_true rfl) ?_
  exact lc_eqI V dL_law_1208 (tgt := 1346) rfl (next _ _ R)
set_option maxHeartbeats 4000000 in
set_option maxRecDepth 100000 in
theorem lk_34 {wC wM : ba_W} {X : lc_X} {σ τ : ba_St} {i : Nat} (V : lc_V wC wM X) (jC : ba_inj ba_tC wC) (jM : ba_inj ba_tM wM) (hi : i + 6 ≤ lc_L X) (h : RR σ τ) (next : ∀ σ' τ', RR σ' τ' → lc_G wC wM X σ' τ' 1346 (lc_lv wC wM X i) []) : lc_G wC wM X σ τ 1213 (lc_lv wC wM X i) [] := by
  obtain ⟨v, s', m', e1, e2, R⟩ := q_copy h (lc_s X (i + 1)) (lc_s X (i + 2)) (lc_s X (i + 3)) (lc_s X (i + 4)) (lc_s X (i + 5))
  refine lc_aload V dL_law_1213 1 rfl ?_
  refine lc_arg (k := 1) V dL_law_1214 dL_law_1215 dL_law_1216 dL_law_1217 dL_law_1218 rfl (by omega) ?_
  refine lc_arg (k := 2) V dL_law_1219 dL_law_1220 dL_law_1221 dL_law_1222 dL_law_1223 rfl (by omega) ?_
  refine lc_arg (k := 3) V dL_law_1224 dL_law_1225 dL_law_1226 dL_law_1227 dL_law_1228 rfl (by omega) ?_
  refine lc_arg (k := 4) V dL_law_1229 dL_law_1230 dL_law_1231 dL_law_1232 dL_law_1233 rfl (by omega) ?_
  refine lc_arg (k := 5) V dL_law_1234 dL_law_1235 dL_law_1236 dL_law_1237 dL_law_1238 rfl (by omega) ?_
  refine lc_callCI (st := []) (As := [.int (lc_s X (i + 1)), .int (lc_s X (i + 2)), .int (lc_s X (i + 3)), .int (lc_s X (i + 4)), .int (lc_s X (i + 5))]) V dL_law_1239 kcL_155 (fun l => yb_copy jC l e1) ⟨rfl, rfl⟩ ⟨rfl, rfl, Nat.le_of_ble_eq_true rfl, Nat.le_of_ble_eq_true rfl⟩ (Nat.le_of_ble_eq_true rfl) ?_
  refine lc_aload V dL_law_1242 2 rfl ?_
  refine lc_arg (k := 1) V dL_law_1243 dL_law_1244 dL_law_1245 dL_law_1246 dL_law_1247 rfl (by omega) ?_
  refine lc_arg (k := 2) V dL_law_1248 dL_law_1249 dL_law_1250 dL_law_1251 dL_law_1252 rfl (by omega) ?_
  refine lc_arg (k := 3) V dL_law_1253 dL_law_1254 dL_law_1255 dL_law_1256 dL_law_1257 rfl (by omega) ?_
  refine lc_arg (k := 4) V dL_law_1258 dL_law_1259 dL_law_1260 dL_law_1261 dL_law_1262 rfl (by omega) ?_
  refine lc_arg (k := 5) V dL_law_1263 dL_law_1264 dL_law_1265 dL_law_1266 dL_law_1267 rfl (by omega) ?_
  refine lc_callMI (st := [.int v]) (As := [.int (lc_s X (i + 1)), .int (lc_s X (i + 2)), .int (lc_s X (i + 3)), .int (lc_s X (i + 4)), .int (lc_s X (i + 5))]) V dL_law_1268 kcL_159 (fun l => ym_copy jM l e2) ⟨rfl, rfl⟩ ⟨rfl, rfl, Nat.le_of_ble_eq_true rfl, Nat.le_of_ble_eq_true rfl⟩ (Nat.le_of_ble_eq_true rfl) ?_
  exact lc_eqI V dL_law_1271 (tgt := 1346) rfl (next _ _ R)
set_option maxHeartbeats 4000000 in
set_option maxRecDepth 100000 in
theorem lk_35 {wC wM : ba_W} {X : lc_X} {σ τ : ba_St} {i : Nat} (V : lc_V wC wM X) (jC : ba_inj ba_tC wC) (jM : ba_inj ba_tM wM) (hi : i + 6 ≤ lc_L X) (h : RR σ τ) (next : ∀ σ' τ', RR σ' τ' → lc_G wC wM X σ' τ' 1346 (lc_lv wC wM X i) []) : lc_G wC wM X σ τ 1276 (lc_lv wC wM X i) [] := by
  obtain ⟨v, s', m', e1, e2, R⟩ := q_write h (lc_s X (i + 1)) (lc_s X (i + 2))
  refine lc_aload V dL_law_1276 1 rfl ?_
  refine lc_arg (k := 1) V dL_law_1277 dL_law_1278 dL_law_1279 dL_law_1280 dL_law_1281 rfl (by omega) ?_
  refine lc_arg (k := 2) V dL_law_1282 dL_law_1283 dL_law_1284 dL_law_1285 dL_law_1286 rfl (by omega) ?_
  refine lc_callCI (st := []) (As := [.int (lc_s X (i + 1)), .int (lc_s X (i + 2))]) V dL_law_1287 kcL_160 (fun l => yb_write jC l e1) ⟨rfl, rfl⟩ ⟨rfl, rfl, Nat.le_of_ble_eq_true rfl, Nat.le_of_ble_eq_true rfl⟩ (Nat.le_of_ble_eq_true rfl) ?_
  refine lc_aload V dL_law_1290 2 rfl ?_
  refine lc_arg (k := 1) V dL_law_1291 dL_law_1292 dL_law_1293 dL_law_1294 dL_law_1295 rfl (by omega) ?_
  refine lc_arg (k := 2) V dL_law_1296 dL_law_1297 dL_law_1298 dL_law_1299 dL_law_1300 rfl (by omega) ?_
  refine lc_callMI (st := [.int v]) (As := [.int (lc_s X (i + 1)), .int (lc_s X (i + 2))]) V dL_law_1301 kcL_163 (fun l => ym_write jM l e2) ⟨rfl, rfl⟩ ⟨rfl, rfl, Nat.le_of_ble_eq_true rfl, Nat.le_of_ble_eq_true rfl⟩ (Nat.le_of_ble_eq_true rfl) ?_
  exact lc_eqI V dL_law_1304 (tgt := 1346) rfl (next _ _ R)
set_option maxHeartbeats 4000000 in
set_option maxRecDepth 100000 in
theorem lk_36 {wC wM : ba_W} {X : lc_X} {σ τ : ba_St} {i : Nat} (V : lc_V wC wM X) (jC : ba_inj ba_tC wC) (jM : ba_inj ba_tM wM) (hi : i + 6 ≤ lc_L X) (h : RR σ τ) (next : ∀ σ' τ', RR σ' τ' → lc_G wC wM X σ' τ' 1346 (lc_lv wC wM X i) []) : lc_G wC wM X σ τ 1309 (lc_lv wC wM X i) [] := by
  obtain ⟨v, s', m', e1, e2, R⟩ := q_count h (lc_s X (i + 1))
  refine lc_aload V dL_law_1309 1 rfl ?_
  refine lc_arg (k := 1) V dL_law_1310 dL_law_1311 dL_law_1312 dL_law_1313 dL_law_1314 rfl (by omega) ?_
  refine lc_callCI (st := []) (As := [.int (lc_s X (i + 1))]) V dL_law_1315 kcL_164 (fun l => yb_count jC l e1) ⟨rfl, rfl⟩ ⟨rfl, rfl, Nat.le_of_ble_eq_true rfl, Nat.le_of_ble_eq_true rfl⟩ (Nat.le_of_ble_eq_true rfl) ?_
  refine lc_aload V dL_law_1318 2 rfl ?_
  refine lc_arg (k := 1) V dL_law_1319 dL_law_1320 dL_law_1321 dL_law_1322 dL_law_1323 rfl (by omega) ?_
  refine lc_callMI (st := [.int v]) (As := [.int (lc_s X (i + 1))]) V dL_law_1324 kcL_167 (fun l => ym_count jM l e2) ⟨rfl, rfl⟩ ⟨rfl, rfl, Nat.le_of_ble_eq_true rfl, Nat.le_of_ble_eq_true rfl⟩ (Nat.le_of_ble_eq_true rfl) ?_
  exact lc_eqI V dL_law_1327 (tgt := 1346) rfl (next _ _ R)
set_option maxHeartbeats 4000000 in
set_option maxRecDepth 100000 in
theorem lk_37 {wC wM : ba_W} {X : lc_X} {σ τ : ba_St} {i : Nat} (V : lc_V wC wM X) (jC : ba_inj ba_tC wC) (jM : ba_inj ba_tM wM) (hi : i + 6 ≤ lc_L X) (h : RR σ τ) (next : ∀ σ' τ', RR σ' τ' → lc_G wC wM X σ' τ' 1346 (lc_lv wC wM X i) []) : lc_G wC wM X σ τ 1332 (lc_lv wC wM X i) [] := by
  obtain ⟨v, s', m', e1, e2, R⟩ := q_digest h
  refine lc_aload V dL_law_1332 1 rfl ?_
  refine lc_callCL (st := []) (As := []) V dL_law_1333 kcL_168 (fun l => yb_digest jC l e1) ⟨rfl, rfl⟩ ⟨rfl, rfl, Nat.le_of_ble_eq_true rfl, Nat.le_of_ble_eq_true rfl⟩ (Nat.le_of_ble_eq_true rfl) ?_
  refine lc_aload V dL_law_1336 2 rfl ?_
  refine lc_callML (st := [.long v]) (As := []) V dL_law_1337 kcL_172 (fun l => ym_digest jM l e2) ⟨rfl, rfl⟩ ⟨rfl, rfl, Nat.le_of_ble_eq_true rfl, Nat.le_of_ble_eq_true rfl⟩ (Nat.le_of_ble_eq_true rfl) ?_
  exact lc_eqL V dL_law_1340 dL_law_1341 (tgt := 1346) rfl (next _ _ R)
set_option maxHeartbeats 4000000 in
set_option maxRecDepth 100000 in
theorem law_loop {wC wM : ba_W} {X : lc_X} (V : lc_V wC wM X) (jC : ba_inj ba_tC wC) (jM : ba_inj ba_tM wM) : ∀ (n i : Nat) (σ τ : ba_St), i ≤ lc_L X → lc_L X + 1 ≤ i + n → RR σ τ → lc_G wC wM X σ τ 18 (lc_lv wC wM X i) [] := by
  intro n
  induction n with
  | zero => intro i σ τ h1 h2; omega
  | succ n ih =>
    intro i σ τ hi hn h
    have next : ∀ σ' τ', i + 6 ≤ lc_L X → RR σ' τ' → lc_G wC wM X σ' τ' 1346 (lc_lv wC wM X i) [] := by
      intro σ' τ' h6 R
      have IH := ih (i + 6) σ' τ' h6 (by omega) R
      obtain ⟨p, l, e, s, m, below, meth, c, b, L, xs⟩ := X
      obtain ⟨hL, ⟨hx, hb, hr, hml, hown, hts, hX, hbl, hlocks, hgv⟩, -⟩ := V
      intro H locs ls hC hM hS hl
      refine lv_iinc (v := nI (i + 6)) (lv' := [(3, .int (nI (i + 6))), (0, .ref b), (1, .ref (wC.1 0)), (2, .ref (wM.1 0))]) hx hb dL_law_1346 hl (k := 3) rfl (by rw [show Int32.ofInt 6 = nI 6 from rfl, nI_add]) (by decide) rfl (fun ls hl => ?_)
      refine lv_goto (tgt := 18) hx hb dL_law_1349 rfl ?_
      exact IH H locs ls hC hM hS (lv_sub hl [1, 2, 3, 0] rfl)
    have K : ∀ k, k < 38 → i + 6 ≤ lc_L X → lc_G wC wM X σ τ (([200, 233, 256, 279, 302, 335, 368, 401, 424, 467, 480, 503, 546, 589, 622, 645, 658, 671, 694, 727, 760, 793, 816, 869, 882, 895, 918, 941, 964, 1008, 1051, 1094, 1117, 1170, 1213, 1276, 1309, 1332] : List Nat).getD k 0) (lc_lv wC wM X i) [] := by
      intro k hk h6
      match k, hk with
      | 0, _ => exact lk_0 V jC jM h6 h (fun σ' τ' R => next σ' τ' h6 R)
      | 1, _ => exact lk_1 V jC jM h6 h (fun σ' τ' R => next σ' τ' h6 R)
      | 2, _ => exact lk_2 V jC jM h6 h (fun σ' τ' R => next σ' τ' h6 R)
      | 3, _ => exact lk_3 V jC jM h6 h (fun σ' τ' R => next σ' τ' h6 R)
      | 4, _ => exact lk_4 V jC jM h6 h (fun σ' τ' R => next σ' τ' h6 R)
      | 5, _ => exact lk_5 V jC jM h6 h (fun σ' τ' R => next σ' τ' h6 R)
      | 6, _ => exact lk_6 V jC jM h6 h (fun σ' τ' R => next σ' τ' h6 R)
      | 7, _ => exact lk_7 V jC jM h6 h (fun σ' τ' R => next σ' τ' h6 R)
      | 8, _ => exact lk_8 V jC jM h6 h (fun σ' τ' R => next σ' τ' h6 R)
      | 9, _ => exact lk_9 V jC jM h6 h (fun σ' τ' R => next σ' τ' h6 R)
      | 10, _ => exact lk_10 V jC jM h6 h (fun σ' τ' R => next σ' τ' h6 R)
      | 11, _ => exact lk_11 V jC jM h6 h (fun σ' τ' R => next σ' τ' h6 R)
      | 12, _ => exact lk_12 V jC jM h6 h (fun σ' τ' R => next σ' τ' h6 R)
      | 13, _ => exact lk_13 V jC jM h6 h (fun σ' τ' R => next σ' τ' h6 R)
      | 14, _ => exact lk_14 V jC jM h6 h (fun σ' τ' R => next σ' τ' h6 R)
      | 15, _ => exact lk_15 V jC jM h6 h (fun σ' τ' R => next σ' τ' h6 R)
      | 16, _ => exact lk_16 V jC jM h6 h (fun σ' τ' R => next σ' τ' h6 R)
      | 17, _ => exact lk_17 V jC jM h6 h (fun σ' τ' R => next σ' τ' h6 R)
      | 18, _ => exact lk_18 V jC jM h6 h (fun σ' τ' R => next σ' τ' h6 R)
      | 19, _ => exact lk_19 V jC jM h6 h (fun σ' τ' R => next σ' τ' h6 R)
      | 20, _ => exact lk_20 V jC jM h6 h (fun σ' τ' R => next σ' τ' h6 R)
      | 21, _ => exact lk_21 V jC jM h6 h (fun σ' τ' R => next σ' τ' h6 R)
      | 22, _ => exact lk_22 V jC jM h6 h (fun σ' τ' R => next σ' τ' h6 R)
      | 23, _ => exact lk_23 V jC jM h6 h (fun σ' τ' R => next σ' τ' h6 R)
      | 24, _ => exact lk_24 V jC jM h6 h (fun σ' τ' R => next σ' τ' h6 R)
      | 25, _ => exact lk_25 V jC jM h6 h (fun σ' τ' R => next σ' τ' h6 R)
      | 26, _ => exact lk_26 V jC jM h6 h (fun σ' τ' R => next σ' τ' h6 R)
      | 27, _ => exact lk_27 V jC jM h6 h (fun σ' τ' R => next σ' τ' h6 R)
      | 28, _ => exact lk_28 V jC jM h6 h (fun σ' τ' R => next σ' τ' h6 R)
      | 29, _ => exact lk_29 V jC jM h6 h (fun σ' τ' R => next σ' τ' h6 R)
      | 30, _ => exact lk_30 V jC jM h6 h (fun σ' τ' R => next σ' τ' h6 R)
      | 31, _ => exact lk_31 V jC jM h6 h (fun σ' τ' R => next σ' τ' h6 R)
      | 32, _ => exact lk_32 V jC jM h6 h (fun σ' τ' R => next σ' τ' h6 R)
      | 33, _ => exact lk_33 V jC jM h6 h (fun σ' τ' R => next σ' τ' h6 R)
      | 34, _ => exact lk_34 V jC jM h6 h (fun σ' τ' R => next σ' τ' h6 R)
      | 35, _ => exact lk_35 V jC jM h6 h (fun σ' τ' R => next σ' τ' h6 R)
      | 36, _ => exact lk_36 V jC jM h6 h (fun σ' τ' R => next σ' τ' h6 R)
      | 37, _ => exact lk_37 V jC jM h6 h (fun σ' τ' R => next σ' τ' h6 R)
      | k + 38, hk => exact absurd hk (by omega)
    have V0 := V
    obtain ⟨p, l, e, s, m, below, meth, c, b, L, xs⟩ := X
    obtain ⟨hL, ⟨hx, hb, hr, hml, hown, hts, hX, hbl, hlocks, hgv⟩, -⟩ := V
    have hi' : i ≤ L := hi
    have hbA : ¬ (fun q : Nat => s.heap.size ≤ q) b := Nat.not_le.mpr hbl
    intro H locs ls hC hM hS hl
    refine lv_iload_n hx hb dL_law_18 rfl (lv_at hl 3 rfl) ?_
    refine lv_aload_n hx hb dL_law_19 rfl (lv_at hl 0 rfl) ?_
    refine va_slen hx hb hX hbl hbA hS dL_law_20 ?_
    refine lv_bipush (v := 6) hx hb dL_law_21 (by decide +kernel) ?_
    refine lv_isub hx hb dL_law_23 ?_
    have eL : (Int32.ofNat L - 6).toInt = (L : Int) - 6 := by
      have z : (Int32.ofNat L).toInt = L := nI_toInt (by omega)
      rw [Jvm.Kit.i32_sub (by rw [z]; show -2 ^ 31 ≤ (L : Int) - 6; omega) (by rw [z]; show (L : Int) - 6 < 2 ^ 31; omega), z]
      rfl
    have ei : (nI i).toInt = i := nI_toInt (by omega)
    refine lv_icmp_gt (tgt := 1352) hx hb dL_law_24 rfl (fun cq => ?_) (fun cq => ?_)
    · refine lv_iconst (v := 1) hx hb dL_law_1352 (by decide) ?_
      refine va_forget (fun q hq => hS.2.2 q hq) ?_
      refine W.widen (k := 600000) (n := 7302250) (Nat.le_of_ble_eq_true rfl) (Nat.le_of_ble_eq_true rfl) ?_
      exact lw_ret hx hb hr hlocks dL_law_1353
    · rw [Int32.lt_iff_toInt_lt, eL, ei] at cq
      have h6 : i + 6 ≤ L := by omega
      refine lv_aload_n hx hb dL_law_27 rfl (lv_at hl 0 rfl) ?_
      refine lv_iload_n hx hb dL_law_28 rfl (lv_at hl 3 rfl) ?_
      refine va_sld hx hb hX hbl hbA hS (vp_in_nI (show i < L by omega) (by omega)) dL_law_29 ?_
      refine lv_bipush (v := 63) hx hb dL_law_30 (by decide +kernel) ?_
      refine lv_iand hx hb dL_law_32 ?_
      generalize xs (nI i).toNatClampNeg &&& 63 = z
      by_cases hz : z.toInt < 0 ∨ 37 < z.toInt
      · exact lv_tableOut (tgt := 1346) hx hb dL_law_33 hz rfl (next σ τ h6 h H locs ls hC hM hS hl)
      · obtain ⟨k, hk, ek⟩ : ∃ k : Nat, k < 38 ∧ z.toInt = k := ⟨z.toInt.toNat, by omega, by omega⟩
        have G := K k hk h6 H locs ls hC hM hS hl
        have n1 : ¬ z.toInt < 0 := by omega
        have n2 : ¬ 37 < z.toInt := by omega
        have e0 : (z.toInt - 0).toNat = k := by omega
        match k, hk, e0, G with
        | 0, _, e0, G => exact lv_tableIn (off := 167) (tgt := 200) hx hb dL_law_33 n1 n2 (by rw [e0]; rfl) rfl G
        | 1, _, e0, G => exact lv_tableIn (off := 200) (tgt := 233) hx hb dL_law_33 n1 n2 (by rw [e0]; rfl) rfl G
        | 2, _, e0, G => exact lv_tableIn (off := 223) (tgt := 256) hx hb dL_law_33 n1 n2 (by rw [e0]; rfl) rfl G
        | 3, _, e0, G => exact lv_tableIn (off := 246) (tgt := 279) hx hb dL_law_33 n1 n2 (by rw [e0]; rfl) rfl G
        | 4, _, e0, G => exact lv_tableIn (off := 269) (tgt := 302) hx hb dL_law_33 n1 n2 (by rw [e0]; rfl) rfl G
        | 5, _, e0, G => exact lv_tableIn (off := 302) (tgt := 335) hx hb dL_law_33 n1 n2 (by rw [e0]; rfl) rfl G
        | 6, _, e0, G => exact lv_tableIn (off := 335) (tgt := 368) hx hb dL_law_33 n1 n2 (by rw [e0]; rfl) rfl G
        | 7, _, e0, G => exact lv_tableIn (off := 368) (tgt := 401) hx hb dL_law_33 n1 n2 (by rw [e0]; rfl) rfl G
        | 8, _, e0, G => exact lv_tableIn (off := 391) (tgt := 424) hx hb dL_law_33 n1 n2 (by rw [e0]; rfl) rfl G
        | 9, _, e0, G => exact lv_tableIn (off := 434) (tgt := 467) hx hb dL_law_33 n1 n2 (by rw [e0]; rfl) rfl G
        | 10, _, e0, G => exact lv_tableIn (off := 447) (tgt := 480) hx hb dL_law_33 n1 n2 (by rw [e0]; rfl) rfl G
        | 11, _, e0, G => exact lv_tableIn (off := 470) (tgt := 503) hx hb dL_law_33 n1 n2 (by rw [e0]; rfl) rfl G
        | 12, _, e0, G => exact lv_tableIn (off := 513) (tgt := 546) hx hb dL_law_33 n1 n2 (by rw [e0]; rfl) rfl G
        | 13, _, e0, G => exact lv_tableIn (off := 556) (tgt := 589) hx hb dL_law_33 n1 n2 (by rw [e0]; rfl) rfl G
        | 14, _, e0, G => exact lv_tableIn (off := 589) (tgt := 622) hx hb dL_law_33 n1 n2 (by rw [e0]; rfl) rfl G
        | 15, _, e0, G => exact lv_tableIn (off := 612) (tgt := 645) hx hb dL_law_33 n1 n2 (by rw [e0]; rfl) rfl G
        | 16, _, e0, G => exact lv_tableIn (off := 625) (tgt := 658) hx hb dL_law_33 n1 n2 (by rw [e0]; rfl) rfl G
        | 17, _, e0, G => exact lv_tableIn (off := 638) (tgt := 671) hx hb dL_law_33 n1 n2 (by rw [e0]; rfl) rfl G
        | 18, _, e0, G => exact lv_tableIn (off := 661) (tgt := 694) hx hb dL_law_33 n1 n2 (by rw [e0]; rfl) rfl G
        | 19, _, e0, G => exact lv_tableIn (off := 694) (tgt := 727) hx hb dL_law_33 n1 n2 (by rw [e0]; rfl) rfl G
        | 20, _, e0, G => exact lv_tableIn (off := 727) (tgt := 760) hx hb dL_law_33 n1 n2 (by rw [e0]; rfl) rfl G
        | 21, _, e0, G => exact lv_tableIn (off := 760) (tgt := 793) hx hb dL_law_33 n1 n2 (by rw [e0]; rfl) rfl G
        | 22, _, e0, G => exact lv_tableIn (off := 783) (tgt := 816) hx hb dL_law_33 n1 n2 (by rw [e0]; rfl) rfl G
        | 23, _, e0, G => exact lv_tableIn (off := 836) (tgt := 869) hx hb dL_law_33 n1 n2 (by rw [e0]; rfl) rfl G
        | 24, _, e0, G => exact lv_tableIn (off := 849) (tgt := 882) hx hb dL_law_33 n1 n2 (by rw [e0]; rfl) rfl G
        | 25, _, e0, G => exact lv_tableIn (off := 862) (tgt := 895) hx hb dL_law_33 n1 n2 (by rw [e0]; rfl) rfl G
        | 26, _, e0, G => exact lv_tableIn (off := 885) (tgt := 918) hx hb dL_law_33 n1 n2 (by rw [e0]; rfl) rfl G
        | 27, _, e0, G => exact lv_tableIn (off := 908) (tgt := 941) hx hb dL_law_33 n1 n2 (by rw [e0]; rfl) rfl G
        | 28, _, e0, G => exact lv_tableIn (off := 931) (tgt := 964) hx hb dL_law_33 n1 n2 (by rw [e0]; rfl) rfl G
        | 29, _, e0, G => exact lv_tableIn (off := 975) (tgt := 1008) hx hb dL_law_33 n1 n2 (by rw [e0]; rfl) rfl G
        | 30, _, e0, G => exact lv_tableIn (off := 1018) (tgt := 1051) hx hb dL_law_33 n1 n2 (by rw [e0]; rfl) rfl G
        | 31, _, e0, G => exact lv_tableIn (off := 1061) (tgt := 1094) hx hb dL_law_33 n1 n2 (by rw [e0]; rfl) rfl G
        | 32, _, e0, G => exact lv_tableIn (off := 1084) (tgt := 1117) hx hb dL_law_33 n1 n2 (by rw [e0]; rfl) rfl G
        | 33, _, e0, G => exact lv_tableIn (off := 1137) (tgt := 1170) hx hb dL_law_33 n1 n2 (by rw [e0]; rfl) rfl G
        | 34, _, e0, G => exact lv_tableIn (off := 1180) (tgt := 1213) hx hb dL_law_33 n1 n2 (by rw [e0]; rfl) rfl G
        | 35, _, e0, G => exact lv_tableIn (off := 1243) (tgt := 1276) hx hb dL_law_33 n1 n2 (by rw [e0]; rfl) rfl G
        | 36, _, e0, G => exact lv_tableIn (off := 1276) (tgt := 1309) hx hb dL_law_33 n1 n2 (by rw [e0]; rfl) rfl G
        | 37, _, e0, G => exact lv_tableIn (off := 1299) (tgt := 1332) hx hb dL_law_33 n1 n2 (by rw [e0]; rfl) rfl G
        | k + 38, hk, _, _ => exact absurd hk (by omega)
