theorem d_273_0 : decode (cM 273) 0 = .ok (.new 8, 3) := by decide +kernel
theorem d_273_3 : decode (cM 273) 3 = .ok (.dup, 1) := by decide +kernel
theorem d_273_4 : decode (cM 273) 4 = .ok (.invokespecial 17, 3) := by decide +kernel
theorem kc_273_4 : callT (oM 273) 17 = some (2, 100, 0) ∧ fok 273 100 = true ∧ stM 100 = false := by decide +kernel
theorem d_273_7 : decode (cM 273) 7 = .ok (.astore_n 1, 1) := by decide +kernel
theorem d_273_8 : decode (cM 273) 8 = .ok (.new 18, 3) := by decide +kernel
theorem d_273_11 : decode (cM 273) 11 = .ok (.dup, 1) := by decide +kernel
theorem d_273_12 : decode (cM 273) 12 = .ok (.invokespecial 20, 3) := by decide +kernel
theorem kc_273_12 : callT (oM 273) 20 = some (2, 149, 0) ∧ fok 273 149 = true ∧ stM 149 = false := by decide +kernel
theorem d_273_15 : decode (cM 273) 15 = .ok (.astore_n 2, 1) := by decide +kernel
theorem d_273_16 : decode (cM 273) 16 = .ok (.iconst 1, 1) := by decide +kernel
theorem d_273_17 : decode (cM 273) 17 = .ok (.newarray .long, 2) := by decide +kernel
theorem d_273_19 : decode (cM 273) 19 = .ok (.astore_n 3, 1) := by decide +kernel
theorem d_273_20 : decode (cM 273) 20 = .ok (.iconst 0, 1) := by decide +kernel
theorem d_273_21 : decode (cM 273) 21 = .ok (.istore 4, 2) := by decide +kernel
theorem d_273_23 : decode (cM 273) 23 = .ok (.iload 4, 2) := by decide +kernel
theorem d_273_25 : decode (cM 273) 25 = .ok (.aload_n 0, 1) := by decide +kernel
theorem d_273_26 : decode (cM 273) 26 = .ok (.arraylength, 1) := by decide +kernel
theorem d_273_27 : decode (cM 273) 27 = .ok (.bipush 6, 2) := by decide +kernel
theorem d_273_29 : decode (cM 273) 29 = .ok (.isub, 1) := by decide +kernel
theorem d_273_30 : decode (cM 273) 30 = .ok (.if_icmp .gt 1431, 3) := by decide +kernel
theorem d_273_33 : decode (cM 273) 33 = .ok (.aload_n 0, 1) := by decide +kernel
theorem d_273_34 : decode (cM 273) 34 = .ok (.iload 4, 2) := by decide +kernel
theorem d_273_36 : decode (cM 273) 36 = .ok (.iaload, 1) := by decide +kernel
theorem d_273_37 : decode (cM 273) 37 = .ok (.bipush 63, 2) := by decide +kernel
theorem d_273_39 : decode (cM 273) 39 = .ok (.iand, 1) := by decide +kernel
theorem d_273_40 : decode (cM 273) 40 = .ok (.tableswitch 1415 0 41 #[184, 257, 282, 307, 344, 412, 449, 474, 512, 537, 574, 587, 612, 649, 674, 699, 724, 761, 798, 811, 824, 849, 874, 899, 924, 937, 962, 999, 1024, 1049, 1087, 1152, 1177, 1202, 1215, 1240, 1253, 1302, 1351, 1364, 1377, 1390], 184) := by decide +kernel
theorem d_273_224 : decode (cM 273) 224 = .ok (.aload_n 1, 1) := by decide +kernel
theorem d_273_225 : decode (cM 273) 225 = .ok (.aload_n 0, 1) := by decide +kernel
theorem d_273_226 : decode (cM 273) 226 = .ok (.iload 4, 2) := by decide +kernel
theorem d_273_228 : decode (cM 273) 228 = .ok (.iconst 1, 1) := by decide +kernel
theorem d_273_229 : decode (cM 273) 229 = .ok (.iadd, 1) := by decide +kernel
theorem d_273_230 : decode (cM 273) 230 = .ok (.iaload, 1) := by decide +kernel
theorem d_273_231 : decode (cM 273) 231 = .ok (.aload_n 0, 1) := by decide +kernel
theorem d_273_232 : decode (cM 273) 232 = .ok (.iload 4, 2) := by decide +kernel
theorem d_273_234 : decode (cM 273) 234 = .ok (.iconst 2, 1) := by decide +kernel
theorem d_273_235 : decode (cM 273) 235 = .ok (.iadd, 1) := by decide +kernel
theorem d_273_236 : decode (cM 273) 236 = .ok (.iaload, 1) := by decide +kernel
theorem d_273_237 : decode (cM 273) 237 = .ok (.aload_n 0, 1) := by decide +kernel
theorem d_273_238 : decode (cM 273) 238 = .ok (.iload 4, 2) := by decide +kernel
theorem d_273_240 : decode (cM 273) 240 = .ok (.iconst 3, 1) := by decide +kernel
theorem d_273_241 : decode (cM 273) 241 = .ok (.iadd, 1) := by decide +kernel
theorem d_273_242 : decode (cM 273) 242 = .ok (.iaload, 1) := by decide +kernel
theorem d_273_243 : decode (cM 273) 243 = .ok (.aload_n 0, 1) := by decide +kernel
theorem d_273_244 : decode (cM 273) 244 = .ok (.iload 4, 2) := by decide +kernel
theorem d_273_246 : decode (cM 273) 246 = .ok (.iconst 4, 1) := by decide +kernel
theorem d_273_247 : decode (cM 273) 247 = .ok (.iadd, 1) := by decide +kernel
theorem d_273_248 : decode (cM 273) 248 = .ok (.iaload, 1) := by decide +kernel
theorem d_273_249 : decode (cM 273) 249 = .ok (.aload_n 0, 1) := by decide +kernel
theorem d_273_250 : decode (cM 273) 250 = .ok (.iload 4, 2) := by decide +kernel
theorem d_273_252 : decode (cM 273) 252 = .ok (.iconst 5, 1) := by decide +kernel
theorem d_273_253 : decode (cM 273) 253 = .ok (.iadd, 1) := by decide +kernel
theorem d_273_254 : decode (cM 273) 254 = .ok (.iaload, 1) := by decide +kernel
theorem d_273_255 : decode (cM 273) 255 = .ok (.invokevirtual 21, 3) := by decide +kernel
theorem kc_273_255 : callT (oM 273) 21 = some (0, 101, 5) ∧ fok 273 101 = true ∧ stM 101 = false := by decide +kernel
theorem d_273_258 : decode (cM 273) 258 = .ok (.aload_n 2, 1) := by decide +kernel
theorem d_273_259 : decode (cM 273) 259 = .ok (.aload_n 0, 1) := by decide +kernel
theorem d_273_260 : decode (cM 273) 260 = .ok (.iload 4, 2) := by decide +kernel
theorem d_273_262 : decode (cM 273) 262 = .ok (.iconst 1, 1) := by decide +kernel
theorem d_273_263 : decode (cM 273) 263 = .ok (.iadd, 1) := by decide +kernel
theorem d_273_264 : decode (cM 273) 264 = .ok (.iaload, 1) := by decide +kernel
theorem d_273_265 : decode (cM 273) 265 = .ok (.aload_n 0, 1) := by decide +kernel
theorem d_273_266 : decode (cM 273) 266 = .ok (.iload 4, 2) := by decide +kernel
theorem d_273_268 : decode (cM 273) 268 = .ok (.iconst 2, 1) := by decide +kernel
theorem d_273_269 : decode (cM 273) 269 = .ok (.iadd, 1) := by decide +kernel
theorem d_273_270 : decode (cM 273) 270 = .ok (.iaload, 1) := by decide +kernel
theorem d_273_271 : decode (cM 273) 271 = .ok (.aload_n 0, 1) := by decide +kernel
theorem d_273_272 : decode (cM 273) 272 = .ok (.iload 4, 2) := by decide +kernel
theorem d_273_274 : decode (cM 273) 274 = .ok (.iconst 3, 1) := by decide +kernel
theorem d_273_275 : decode (cM 273) 275 = .ok (.iadd, 1) := by decide +kernel
theorem d_273_276 : decode (cM 273) 276 = .ok (.iaload, 1) := by decide +kernel
theorem d_273_277 : decode (cM 273) 277 = .ok (.aload_n 0, 1) := by decide +kernel
theorem d_273_278 : decode (cM 273) 278 = .ok (.iload 4, 2) := by decide +kernel
theorem d_273_280 : decode (cM 273) 280 = .ok (.iconst 4, 1) := by decide +kernel
theorem d_273_281 : decode (cM 273) 281 = .ok (.iadd, 1) := by decide +kernel
theorem d_273_282 : decode (cM 273) 282 = .ok (.iaload, 1) := by decide +kernel
theorem d_273_283 : decode (cM 273) 283 = .ok (.aload_n 0, 1) := by decide +kernel
theorem d_273_284 : decode (cM 273) 284 = .ok (.iload 4, 2) := by decide +kernel
theorem d_273_286 : decode (cM 273) 286 = .ok (.iconst 5, 1) := by decide +kernel
theorem d_273_287 : decode (cM 273) 287 = .ok (.iadd, 1) := by decide +kernel
theorem d_273_288 : decode (cM 273) 288 = .ok (.iaload, 1) := by decide +kernel
theorem d_273_289 : decode (cM 273) 289 = .ok (.invokevirtual 25, 3) := by decide +kernel
theorem kc_273_289 : callT (oM 273) 25 = some (0, 151, 5) ∧ fok 273 151 = true ∧ stM 151 = false := by decide +kernel
theorem d_273_292 : decode (cM 273) 292 = .ok (.if_icmp .eq 1163, 3) := by decide +kernel
theorem d_273_295 : decode (cM 273) 295 = .ok (.iconst 0, 1) := by decide +kernel
theorem d_273_296 : decode (cM 273) 296 = .ok (.ireturn, 1) := by decide +kernel
theorem d_273_297 : decode (cM 273) 297 = .ok (.aload_n 1, 1) := by decide +kernel
theorem d_273_298 : decode (cM 273) 298 = .ok (.aload_n 0, 1) := by decide +kernel
theorem d_273_299 : decode (cM 273) 299 = .ok (.iload 4, 2) := by decide +kernel
theorem d_273_301 : decode (cM 273) 301 = .ok (.iconst 1, 1) := by decide +kernel
theorem d_273_302 : decode (cM 273) 302 = .ok (.iadd, 1) := by decide +kernel
theorem d_273_303 : decode (cM 273) 303 = .ok (.iaload, 1) := by decide +kernel
theorem d_273_304 : decode (cM 273) 304 = .ok (.invokevirtual 26, 3) := by decide +kernel
theorem kc_273_304 : callT (oM 273) 26 = some (0, 102, 1) ∧ fok 273 102 = true ∧ stM 102 = false := by decide +kernel
theorem d_273_307 : decode (cM 273) 307 = .ok (.aload_n 2, 1) := by decide +kernel
theorem d_273_308 : decode (cM 273) 308 = .ok (.aload_n 0, 1) := by decide +kernel
theorem d_273_309 : decode (cM 273) 309 = .ok (.iload 4, 2) := by decide +kernel
theorem d_273_311 : decode (cM 273) 311 = .ok (.iconst 1, 1) := by decide +kernel
theorem d_273_312 : decode (cM 273) 312 = .ok (.iadd, 1) := by decide +kernel
theorem d_273_313 : decode (cM 273) 313 = .ok (.iaload, 1) := by decide +kernel
theorem d_273_314 : decode (cM 273) 314 = .ok (.invokevirtual 30, 3) := by decide +kernel
theorem kc_273_314 : callT (oM 273) 30 = some (0, 178, 1) ∧ fok 273 178 = true ∧ stM 178 = false := by decide +kernel
theorem d_273_317 : decode (cM 273) 317 = .ok (.if_icmp .eq 1138, 3) := by decide +kernel
theorem d_273_320 : decode (cM 273) 320 = .ok (.iconst 0, 1) := by decide +kernel
theorem d_273_321 : decode (cM 273) 321 = .ok (.ireturn, 1) := by decide +kernel
theorem d_273_322 : decode (cM 273) 322 = .ok (.aload_n 1, 1) := by decide +kernel
theorem d_273_323 : decode (cM 273) 323 = .ok (.aload_n 0, 1) := by decide +kernel
theorem d_273_324 : decode (cM 273) 324 = .ok (.iload 4, 2) := by decide +kernel
theorem d_273_326 : decode (cM 273) 326 = .ok (.iconst 1, 1) := by decide +kernel
theorem d_273_327 : decode (cM 273) 327 = .ok (.iadd, 1) := by decide +kernel
theorem d_273_328 : decode (cM 273) 328 = .ok (.iaload, 1) := by decide +kernel
theorem d_273_329 : decode (cM 273) 329 = .ok (.invokevirtual 31, 3) := by decide +kernel
theorem kc_273_329 : callT (oM 273) 31 = some (0, 103, 1) ∧ fok 273 103 = true ∧ stM 103 = false := by decide +kernel
theorem d_273_332 : decode (cM 273) 332 = .ok (.aload_n 2, 1) := by decide +kernel
theorem d_273_333 : decode (cM 273) 333 = .ok (.aload_n 0, 1) := by decide +kernel
theorem d_273_334 : decode (cM 273) 334 = .ok (.iload 4, 2) := by decide +kernel
theorem d_273_336 : decode (cM 273) 336 = .ok (.iconst 1, 1) := by decide +kernel
theorem d_273_337 : decode (cM 273) 337 = .ok (.iadd, 1) := by decide +kernel
theorem d_273_338 : decode (cM 273) 338 = .ok (.iaload, 1) := by decide +kernel
theorem d_273_339 : decode (cM 273) 339 = .ok (.invokevirtual 34, 3) := by decide +kernel
theorem kc_273_339 : callT (oM 273) 34 = some (0, 179, 1) ∧ fok 273 179 = true ∧ stM 179 = false := by decide +kernel
theorem d_273_342 : decode (cM 273) 342 = .ok (.if_icmp .eq 1113, 3) := by decide +kernel
theorem d_273_345 : decode (cM 273) 345 = .ok (.iconst 0, 1) := by decide +kernel
theorem d_273_346 : decode (cM 273) 346 = .ok (.ireturn, 1) := by decide +kernel
theorem d_273_347 : decode (cM 273) 347 = .ok (.aload_n 1, 1) := by decide +kernel
theorem d_273_348 : decode (cM 273) 348 = .ok (.aload_n 0, 1) := by decide +kernel
theorem d_273_349 : decode (cM 273) 349 = .ok (.iload 4, 2) := by decide +kernel
theorem d_273_351 : decode (cM 273) 351 = .ok (.iconst 1, 1) := by decide +kernel
theorem d_273_352 : decode (cM 273) 352 = .ok (.iadd, 1) := by decide +kernel
theorem d_273_353 : decode (cM 273) 353 = .ok (.iaload, 1) := by decide +kernel
theorem d_273_354 : decode (cM 273) 354 = .ok (.aload_n 0, 1) := by decide +kernel
theorem d_273_355 : decode (cM 273) 355 = .ok (.iload 4, 2) := by decide +kernel
theorem d_273_357 : decode (cM 273) 357 = .ok (.iconst 2, 1) := by decide +kernel
theorem d_273_358 : decode (cM 273) 358 = .ok (.iadd, 1) := by decide +kernel
theorem d_273_359 : decode (cM 273) 359 = .ok (.iaload, 1) := by decide +kernel
theorem d_273_360 : decode (cM 273) 360 = .ok (.invokevirtual 35, 3) := by decide +kernel
theorem kc_273_360 : callT (oM 273) 35 = some (0, 104, 2) ∧ fok 273 104 = true ∧ stM 104 = false := by decide +kernel
theorem d_273_363 : decode (cM 273) 363 = .ok (.aload_n 2, 1) := by decide +kernel
theorem d_273_364 : decode (cM 273) 364 = .ok (.aload_n 0, 1) := by decide +kernel
theorem d_273_365 : decode (cM 273) 365 = .ok (.iload 4, 2) := by decide +kernel
theorem d_273_367 : decode (cM 273) 367 = .ok (.iconst 1, 1) := by decide +kernel
theorem d_273_368 : decode (cM 273) 368 = .ok (.iadd, 1) := by decide +kernel
theorem d_273_369 : decode (cM 273) 369 = .ok (.iaload, 1) := by decide +kernel
theorem d_273_370 : decode (cM 273) 370 = .ok (.aload_n 0, 1) := by decide +kernel
theorem d_273_371 : decode (cM 273) 371 = .ok (.iload 4, 2) := by decide +kernel
theorem d_273_373 : decode (cM 273) 373 = .ok (.iconst 2, 1) := by decide +kernel
theorem d_273_374 : decode (cM 273) 374 = .ok (.iadd, 1) := by decide +kernel
theorem d_273_375 : decode (cM 273) 375 = .ok (.iaload, 1) := by decide +kernel
theorem d_273_376 : decode (cM 273) 376 = .ok (.invokevirtual 38, 3) := by decide +kernel
theorem kc_273_376 : callT (oM 273) 38 = some (0, 180, 2) ∧ fok 273 180 = true ∧ stM 180 = false := by decide +kernel
theorem d_273_379 : decode (cM 273) 379 = .ok (.if_icmp .eq 1076, 3) := by decide +kernel
theorem d_273_382 : decode (cM 273) 382 = .ok (.iconst 0, 1) := by decide +kernel
theorem d_273_383 : decode (cM 273) 383 = .ok (.ireturn, 1) := by decide +kernel
theorem d_273_384 : decode (cM 273) 384 = .ok (.aload_n 1, 1) := by decide +kernel
theorem d_273_385 : decode (cM 273) 385 = .ok (.aload_n 0, 1) := by decide +kernel
theorem d_273_386 : decode (cM 273) 386 = .ok (.iload 4, 2) := by decide +kernel
theorem d_273_388 : decode (cM 273) 388 = .ok (.iconst 1, 1) := by decide +kernel
theorem d_273_389 : decode (cM 273) 389 = .ok (.iadd, 1) := by decide +kernel
theorem d_273_390 : decode (cM 273) 390 = .ok (.iaload, 1) := by decide +kernel
theorem d_273_391 : decode (cM 273) 391 = .ok (.aload_n 0, 1) := by decide +kernel
theorem d_273_392 : decode (cM 273) 392 = .ok (.iload 4, 2) := by decide +kernel
theorem d_273_394 : decode (cM 273) 394 = .ok (.iconst 2, 1) := by decide +kernel
theorem d_273_395 : decode (cM 273) 395 = .ok (.iadd, 1) := by decide +kernel
theorem d_273_396 : decode (cM 273) 396 = .ok (.iaload, 1) := by decide +kernel
theorem d_273_397 : decode (cM 273) 397 = .ok (.aload_n 3, 1) := by decide +kernel
theorem d_273_398 : decode (cM 273) 398 = .ok (.invokestatic 39, 3) := by decide +kernel
theorem d_273_401 : decode (cM 273) 401 = .ok (.istore 5, 2) := by decide +kernel
theorem d_273_403 : decode (cM 273) 403 = .ok (.aload_n 2, 1) := by decide +kernel
theorem d_273_404 : decode (cM 273) 404 = .ok (.aload_n 0, 1) := by decide +kernel
theorem d_273_405 : decode (cM 273) 405 = .ok (.iload 4, 2) := by decide +kernel
theorem d_273_407 : decode (cM 273) 407 = .ok (.iconst 1, 1) := by decide +kernel
theorem d_273_408 : decode (cM 273) 408 = .ok (.iadd, 1) := by decide +kernel
theorem d_273_409 : decode (cM 273) 409 = .ok (.iaload, 1) := by decide +kernel
theorem d_273_410 : decode (cM 273) 410 = .ok (.aload_n 0, 1) := by decide +kernel
theorem d_273_411 : decode (cM 273) 411 = .ok (.iload 4, 2) := by decide +kernel
theorem d_273_413 : decode (cM 273) 413 = .ok (.iconst 2, 1) := by decide +kernel
theorem d_273_414 : decode (cM 273) 414 = .ok (.iadd, 1) := by decide +kernel
theorem d_273_415 : decode (cM 273) 415 = .ok (.iaload, 1) := by decide +kernel
theorem d_273_416 : decode (cM 273) 416 = .ok (.invokevirtual 44, 3) := by decide +kernel
theorem kc_273_416 : callT (oM 273) 44 = some (0, 216, 2) ∧ fok 273 216 = true ∧ stM 216 = false := by decide +kernel
theorem d_273_419 : decode (cM 273) 419 = .ok (.istore 6, 2) := by decide +kernel
theorem d_273_421 : decode (cM 273) 421 = .ok (.aload_n 2, 1) := by decide +kernel
theorem d_273_422 : decode (cM 273) 422 = .ok (.invokevirtual 45, 3) := by decide +kernel
theorem kc_273_422 : callT (oM 273) 45 = some (0, 150, 0) ∧ fok 273 150 = true ∧ stM 150 = false := by decide +kernel
theorem d_273_425 : decode (cM 273) 425 = .ok (.iload 5, 2) := by decide +kernel
theorem d_273_427 : decode (cM 273) 427 = .ok (.if_icmp .eq 5, 3) := by decide +kernel
theorem d_273_430 : decode (cM 273) 430 = .ok (.iconst 0, 1) := by decide +kernel
theorem d_273_431 : decode (cM 273) 431 = .ok (.ireturn, 1) := by decide +kernel
theorem d_273_432 : decode (cM 273) 432 = .ok (.iload 5, 2) := by decide +kernel
theorem d_273_434 : decode (cM 273) 434 = .ok (.ifCond .ne 15, 3) := by decide +kernel
theorem d_273_437 : decode (cM 273) 437 = .ok (.aload_n 3, 1) := by decide +kernel
theorem d_273_438 : decode (cM 273) 438 = .ok (.iconst 0, 1) := by decide +kernel
theorem d_273_439 : decode (cM 273) 439 = .ok (.laload, 1) := by decide +kernel
theorem d_273_440 : decode (cM 273) 440 = .ok (.iload 6, 2) := by decide +kernel
theorem d_273_442 : decode (cM 273) 442 = .ok (.i2l, 1) := by decide +kernel
theorem d_273_443 : decode (cM 273) 443 = .ok (.lcmp, 1) := by decide +kernel
theorem d_273_444 : decode (cM 273) 444 = .ok (.ifCond .eq 5, 3) := by decide +kernel
theorem d_273_447 : decode (cM 273) 447 = .ok (.iconst 0, 1) := by decide +kernel
theorem d_273_448 : decode (cM 273) 448 = .ok (.ireturn, 1) := by decide +kernel
theorem d_273_449 : decode (cM 273) 449 = .ok (.goto 1006, 3) := by decide +kernel
theorem d_273_452 : decode (cM 273) 452 = .ok (.aload_n 1, 1) := by decide +kernel
theorem d_273_453 : decode (cM 273) 453 = .ok (.aload_n 0, 1) := by decide +kernel
theorem d_273_454 : decode (cM 273) 454 = .ok (.iload 4, 2) := by decide +kernel
theorem d_273_456 : decode (cM 273) 456 = .ok (.iconst 1, 1) := by decide +kernel
theorem d_273_457 : decode (cM 273) 457 = .ok (.iadd, 1) := by decide +kernel
theorem d_273_458 : decode (cM 273) 458 = .ok (.iaload, 1) := by decide +kernel
theorem d_273_459 : decode (cM 273) 459 = .ok (.aload_n 0, 1) := by decide +kernel
theorem d_273_460 : decode (cM 273) 460 = .ok (.iload 4, 2) := by decide +kernel
theorem d_273_462 : decode (cM 273) 462 = .ok (.iconst 2, 1) := by decide +kernel
theorem d_273_463 : decode (cM 273) 463 = .ok (.iadd, 1) := by decide +kernel
theorem d_273_464 : decode (cM 273) 464 = .ok (.iaload, 1) := by decide +kernel
theorem d_273_465 : decode (cM 273) 465 = .ok (.invokevirtual 49, 3) := by decide +kernel
theorem kc_273_465 : callT (oM 273) 49 = some (0, 105, 2) ∧ fok 273 105 = true ∧ stM 105 = false := by decide +kernel
theorem d_273_468 : decode (cM 273) 468 = .ok (.aload_n 2, 1) := by decide +kernel
theorem d_273_469 : decode (cM 273) 469 = .ok (.aload_n 0, 1) := by decide +kernel
theorem d_273_470 : decode (cM 273) 470 = .ok (.iload 4, 2) := by decide +kernel
theorem d_273_472 : decode (cM 273) 472 = .ok (.iconst 1, 1) := by decide +kernel
theorem d_273_473 : decode (cM 273) 473 = .ok (.iadd, 1) := by decide +kernel
theorem d_273_474 : decode (cM 273) 474 = .ok (.iaload, 1) := by decide +kernel
theorem d_273_475 : decode (cM 273) 475 = .ok (.aload_n 0, 1) := by decide +kernel
theorem d_273_476 : decode (cM 273) 476 = .ok (.iload 4, 2) := by decide +kernel
theorem d_273_478 : decode (cM 273) 478 = .ok (.iconst 2, 1) := by decide +kernel
theorem d_273_479 : decode (cM 273) 479 = .ok (.iadd, 1) := by decide +kernel
theorem d_273_480 : decode (cM 273) 480 = .ok (.iaload, 1) := by decide +kernel
theorem d_273_481 : decode (cM 273) 481 = .ok (.invokevirtual 52, 3) := by decide +kernel
theorem kc_273_481 : callT (oM 273) 52 = some (0, 217, 2) ∧ fok 273 217 = true ∧ stM 217 = false := by decide +kernel
theorem d_273_484 : decode (cM 273) 484 = .ok (.if_icmp .eq 971, 3) := by decide +kernel
theorem d_273_487 : decode (cM 273) 487 = .ok (.iconst 0, 1) := by decide +kernel
theorem d_273_488 : decode (cM 273) 488 = .ok (.ireturn, 1) := by decide +kernel
theorem d_273_489 : decode (cM 273) 489 = .ok (.aload_n 1, 1) := by decide +kernel
theorem d_273_490 : decode (cM 273) 490 = .ok (.aload_n 0, 1) := by decide +kernel
theorem d_273_491 : decode (cM 273) 491 = .ok (.iload 4, 2) := by decide +kernel
theorem d_273_493 : decode (cM 273) 493 = .ok (.iconst 1, 1) := by decide +kernel
theorem d_273_494 : decode (cM 273) 494 = .ok (.iadd, 1) := by decide +kernel
theorem d_273_495 : decode (cM 273) 495 = .ok (.iaload, 1) := by decide +kernel
theorem d_273_496 : decode (cM 273) 496 = .ok (.invokevirtual 53, 3) := by decide +kernel
theorem kc_273_496 : callT (oM 273) 53 = some (0, 106, 1) ∧ fok 273 106 = true ∧ stM 106 = false := by decide +kernel
theorem d_273_499 : decode (cM 273) 499 = .ok (.aload_n 2, 1) := by decide +kernel
theorem d_273_500 : decode (cM 273) 500 = .ok (.aload_n 0, 1) := by decide +kernel
theorem d_273_501 : decode (cM 273) 501 = .ok (.iload 4, 2) := by decide +kernel
theorem d_273_503 : decode (cM 273) 503 = .ok (.iconst 1, 1) := by decide +kernel
theorem d_273_504 : decode (cM 273) 504 = .ok (.iadd, 1) := by decide +kernel
theorem d_273_505 : decode (cM 273) 505 = .ok (.iaload, 1) := by decide +kernel
theorem d_273_506 : decode (cM 273) 506 = .ok (.invokevirtual 56, 3) := by decide +kernel
theorem kc_273_506 : callT (oM 273) 56 = some (0, 218, 1) ∧ fok 273 218 = true ∧ stM 218 = false := by decide +kernel
theorem d_273_509 : decode (cM 273) 509 = .ok (.if_icmp .eq 946, 3) := by decide +kernel
theorem d_273_512 : decode (cM 273) 512 = .ok (.iconst 0, 1) := by decide +kernel
theorem d_273_513 : decode (cM 273) 513 = .ok (.ireturn, 1) := by decide +kernel
theorem d_273_514 : decode (cM 273) 514 = .ok (.aload_n 1, 1) := by decide +kernel
theorem d_273_515 : decode (cM 273) 515 = .ok (.aload_n 0, 1) := by decide +kernel
theorem d_273_516 : decode (cM 273) 516 = .ok (.iload 4, 2) := by decide +kernel
theorem d_273_518 : decode (cM 273) 518 = .ok (.iconst 1, 1) := by decide +kernel
theorem d_273_519 : decode (cM 273) 519 = .ok (.iadd, 1) := by decide +kernel
theorem d_273_520 : decode (cM 273) 520 = .ok (.iaload, 1) := by decide +kernel
theorem d_273_521 : decode (cM 273) 521 = .ok (.aload_n 0, 1) := by decide +kernel
theorem d_273_522 : decode (cM 273) 522 = .ok (.iload 4, 2) := by decide +kernel
theorem d_273_524 : decode (cM 273) 524 = .ok (.iconst 2, 1) := by decide +kernel
theorem d_273_525 : decode (cM 273) 525 = .ok (.iadd, 1) := by decide +kernel
theorem d_273_526 : decode (cM 273) 526 = .ok (.iaload, 1) := by decide +kernel
theorem d_273_527 : decode (cM 273) 527 = .ok (.invokevirtual 57, 3) := by decide +kernel
theorem kc_273_527 : callT (oM 273) 57 = some (0, 107, 2) ∧ fok 273 107 = true ∧ stM 107 = false := by decide +kernel
theorem d_273_530 : decode (cM 273) 530 = .ok (.aload_n 2, 1) := by decide +kernel
theorem d_273_531 : decode (cM 273) 531 = .ok (.aload_n 0, 1) := by decide +kernel
theorem d_273_532 : decode (cM 273) 532 = .ok (.iload 4, 2) := by decide +kernel
theorem d_273_534 : decode (cM 273) 534 = .ok (.iconst 1, 1) := by decide +kernel
theorem d_273_535 : decode (cM 273) 535 = .ok (.iadd, 1) := by decide +kernel
theorem d_273_536 : decode (cM 273) 536 = .ok (.iaload, 1) := by decide +kernel
theorem d_273_537 : decode (cM 273) 537 = .ok (.aload_n 0, 1) := by decide +kernel
theorem d_273_538 : decode (cM 273) 538 = .ok (.iload 4, 2) := by decide +kernel
theorem d_273_540 : decode (cM 273) 540 = .ok (.iconst 2, 1) := by decide +kernel
theorem d_273_541 : decode (cM 273) 541 = .ok (.iadd, 1) := by decide +kernel
theorem d_273_542 : decode (cM 273) 542 = .ok (.iaload, 1) := by decide +kernel
theorem d_273_543 : decode (cM 273) 543 = .ok (.invokevirtual 61, 3) := by decide +kernel
theorem kc_273_543 : callT (oM 273) 61 = some (0, 219, 2) ∧ fok 273 219 = true ∧ stM 219 = false := by decide +kernel
theorem d_273_546 : decode (cM 273) 546 = .ok (.lcmp, 1) := by decide +kernel
theorem d_273_547 : decode (cM 273) 547 = .ok (.ifCond .eq 908, 3) := by decide +kernel
theorem d_273_550 : decode (cM 273) 550 = .ok (.iconst 0, 1) := by decide +kernel
theorem d_273_551 : decode (cM 273) 551 = .ok (.ireturn, 1) := by decide +kernel
theorem d_273_552 : decode (cM 273) 552 = .ok (.aload_n 1, 1) := by decide +kernel
theorem d_273_553 : decode (cM 273) 553 = .ok (.aload_n 0, 1) := by decide +kernel
theorem d_273_554 : decode (cM 273) 554 = .ok (.iload 4, 2) := by decide +kernel
theorem d_273_556 : decode (cM 273) 556 = .ok (.iconst 1, 1) := by decide +kernel
theorem d_273_557 : decode (cM 273) 557 = .ok (.iadd, 1) := by decide +kernel
theorem d_273_558 : decode (cM 273) 558 = .ok (.iaload, 1) := by decide +kernel
theorem d_273_559 : decode (cM 273) 559 = .ok (.invokevirtual 62, 3) := by decide +kernel
theorem kc_273_559 : callT (oM 273) 62 = some (0, 108, 1) ∧ fok 273 108 = true ∧ stM 108 = false := by decide +kernel
theorem d_273_562 : decode (cM 273) 562 = .ok (.aload_n 2, 1) := by decide +kernel
theorem d_273_563 : decode (cM 273) 563 = .ok (.aload_n 0, 1) := by decide +kernel
theorem d_273_564 : decode (cM 273) 564 = .ok (.iload 4, 2) := by decide +kernel
theorem d_273_566 : decode (cM 273) 566 = .ok (.iconst 1, 1) := by decide +kernel
theorem d_273_567 : decode (cM 273) 567 = .ok (.iadd, 1) := by decide +kernel
theorem d_273_568 : decode (cM 273) 568 = .ok (.iaload, 1) := by decide +kernel
theorem d_273_569 : decode (cM 273) 569 = .ok (.invokevirtual 65, 3) := by decide +kernel
theorem kc_273_569 : callT (oM 273) 65 = some (0, 220, 1) ∧ fok 273 220 = true ∧ stM 220 = false := by decide +kernel
theorem d_273_572 : decode (cM 273) 572 = .ok (.if_icmp .eq 883, 3) := by decide +kernel
theorem d_273_575 : decode (cM 273) 575 = .ok (.iconst 0, 1) := by decide +kernel
theorem d_273_576 : decode (cM 273) 576 = .ok (.ireturn, 1) := by decide +kernel
theorem d_273_577 : decode (cM 273) 577 = .ok (.aload_n 1, 1) := by decide +kernel
theorem d_273_578 : decode (cM 273) 578 = .ok (.aload_n 0, 1) := by decide +kernel
theorem d_273_579 : decode (cM 273) 579 = .ok (.iload 4, 2) := by decide +kernel
theorem d_273_581 : decode (cM 273) 581 = .ok (.iconst 1, 1) := by decide +kernel
theorem d_273_582 : decode (cM 273) 582 = .ok (.iadd, 1) := by decide +kernel
theorem d_273_583 : decode (cM 273) 583 = .ok (.iaload, 1) := by decide +kernel
theorem d_273_584 : decode (cM 273) 584 = .ok (.aload_n 0, 1) := by decide +kernel
theorem d_273_585 : decode (cM 273) 585 = .ok (.iload 4, 2) := by decide +kernel
theorem d_273_587 : decode (cM 273) 587 = .ok (.iconst 2, 1) := by decide +kernel
theorem d_273_588 : decode (cM 273) 588 = .ok (.iadd, 1) := by decide +kernel
theorem d_273_589 : decode (cM 273) 589 = .ok (.iaload, 1) := by decide +kernel
theorem d_273_590 : decode (cM 273) 590 = .ok (.invokevirtual 66, 3) := by decide +kernel
theorem kc_273_590 : callT (oM 273) 66 = some (0, 109, 2) ∧ fok 273 109 = true ∧ stM 109 = false := by decide +kernel
theorem d_273_593 : decode (cM 273) 593 = .ok (.aload_n 2, 1) := by decide +kernel
theorem d_273_594 : decode (cM 273) 594 = .ok (.aload_n 0, 1) := by decide +kernel
theorem d_273_595 : decode (cM 273) 595 = .ok (.iload 4, 2) := by decide +kernel
theorem d_273_597 : decode (cM 273) 597 = .ok (.iconst 1, 1) := by decide +kernel
theorem d_273_598 : decode (cM 273) 598 = .ok (.iadd, 1) := by decide +kernel
theorem d_273_599 : decode (cM 273) 599 = .ok (.iaload, 1) := by decide +kernel
theorem d_273_600 : decode (cM 273) 600 = .ok (.aload_n 0, 1) := by decide +kernel
theorem d_273_601 : decode (cM 273) 601 = .ok (.iload 4, 2) := by decide +kernel
theorem d_273_603 : decode (cM 273) 603 = .ok (.iconst 2, 1) := by decide +kernel
theorem d_273_604 : decode (cM 273) 604 = .ok (.iadd, 1) := by decide +kernel
theorem d_273_605 : decode (cM 273) 605 = .ok (.iaload, 1) := by decide +kernel
theorem d_273_606 : decode (cM 273) 606 = .ok (.invokevirtual 69, 3) := by decide +kernel
theorem kc_273_606 : callT (oM 273) 69 = some (0, 221, 2) ∧ fok 273 221 = true ∧ stM 221 = false := by decide +kernel
theorem d_273_609 : decode (cM 273) 609 = .ok (.if_icmp .eq 846, 3) := by decide +kernel
theorem d_273_612 : decode (cM 273) 612 = .ok (.iconst 0, 1) := by decide +kernel
theorem d_273_613 : decode (cM 273) 613 = .ok (.ireturn, 1) := by decide +kernel
theorem d_273_614 : decode (cM 273) 614 = .ok (.aload_n 1, 1) := by decide +kernel
theorem d_273_615 : decode (cM 273) 615 = .ok (.invokevirtual 70, 3) := by decide +kernel
theorem kc_273_615 : callT (oM 273) 70 = some (0, 110, 0) ∧ fok 273 110 = true ∧ stM 110 = false := by decide +kernel
theorem d_273_618 : decode (cM 273) 618 = .ok (.aload_n 2, 1) := by decide +kernel
theorem d_273_619 : decode (cM 273) 619 = .ok (.invokevirtual 74, 3) := by decide +kernel
theorem kc_273_619 : callT (oM 273) 74 = some (0, 222, 0) ∧ fok 273 222 = true ∧ stM 222 = false := by decide +kernel
theorem d_273_622 : decode (cM 273) 622 = .ok (.if_icmp .eq 833, 3) := by decide +kernel
theorem d_273_625 : decode (cM 273) 625 = .ok (.iconst 0, 1) := by decide +kernel
theorem d_273_626 : decode (cM 273) 626 = .ok (.ireturn, 1) := by decide +kernel
theorem d_273_627 : decode (cM 273) 627 = .ok (.aload_n 1, 1) := by decide +kernel
theorem d_273_628 : decode (cM 273) 628 = .ok (.aload_n 0, 1) := by decide +kernel
theorem d_273_629 : decode (cM 273) 629 = .ok (.iload 4, 2) := by decide +kernel
theorem d_273_631 : decode (cM 273) 631 = .ok (.iconst 1, 1) := by decide +kernel
theorem d_273_632 : decode (cM 273) 632 = .ok (.iadd, 1) := by decide +kernel
theorem d_273_633 : decode (cM 273) 633 = .ok (.iaload, 1) := by decide +kernel
theorem d_273_634 : decode (cM 273) 634 = .ok (.invokevirtual 75, 3) := by decide +kernel
theorem kc_273_634 : callT (oM 273) 75 = some (0, 111, 1) ∧ fok 273 111 = true ∧ stM 111 = false := by decide +kernel
theorem d_273_637 : decode (cM 273) 637 = .ok (.aload_n 2, 1) := by decide +kernel
theorem d_273_638 : decode (cM 273) 638 = .ok (.aload_n 0, 1) := by decide +kernel
theorem d_273_639 : decode (cM 273) 639 = .ok (.iload 4, 2) := by decide +kernel
theorem d_273_641 : decode (cM 273) 641 = .ok (.iconst 1, 1) := by decide +kernel
theorem d_273_642 : decode (cM 273) 642 = .ok (.iadd, 1) := by decide +kernel
theorem d_273_643 : decode (cM 273) 643 = .ok (.iaload, 1) := by decide +kernel
theorem d_273_644 : decode (cM 273) 644 = .ok (.invokevirtual 78, 3) := by decide +kernel
theorem kc_273_644 : callT (oM 273) 78 = some (0, 223, 1) ∧ fok 273 223 = true ∧ stM 223 = false := by decide +kernel
theorem d_273_647 : decode (cM 273) 647 = .ok (.if_icmp .eq 808, 3) := by decide +kernel
theorem d_273_650 : decode (cM 273) 650 = .ok (.iconst 0, 1) := by decide +kernel
theorem d_273_651 : decode (cM 273) 651 = .ok (.ireturn, 1) := by decide +kernel
theorem d_273_652 : decode (cM 273) 652 = .ok (.aload_n 1, 1) := by decide +kernel
theorem d_273_653 : decode (cM 273) 653 = .ok (.aload_n 0, 1) := by decide +kernel
theorem d_273_654 : decode (cM 273) 654 = .ok (.iload 4, 2) := by decide +kernel
theorem d_273_656 : decode (cM 273) 656 = .ok (.iconst 1, 1) := by decide +kernel
theorem d_273_657 : decode (cM 273) 657 = .ok (.iadd, 1) := by decide +kernel
theorem d_273_658 : decode (cM 273) 658 = .ok (.iaload, 1) := by decide +kernel
theorem d_273_659 : decode (cM 273) 659 = .ok (.aload_n 0, 1) := by decide +kernel
theorem d_273_660 : decode (cM 273) 660 = .ok (.iload 4, 2) := by decide +kernel
theorem d_273_662 : decode (cM 273) 662 = .ok (.iconst 2, 1) := by decide +kernel
theorem d_273_663 : decode (cM 273) 663 = .ok (.iadd, 1) := by decide +kernel
theorem d_273_664 : decode (cM 273) 664 = .ok (.iaload, 1) := by decide +kernel
theorem d_273_665 : decode (cM 273) 665 = .ok (.invokevirtual 79, 3) := by decide +kernel
theorem kc_273_665 : callT (oM 273) 79 = some (0, 112, 2) ∧ fok 273 112 = true ∧ stM 112 = false := by decide +kernel
theorem d_273_668 : decode (cM 273) 668 = .ok (.aload_n 2, 1) := by decide +kernel
theorem d_273_669 : decode (cM 273) 669 = .ok (.aload_n 0, 1) := by decide +kernel
theorem d_273_670 : decode (cM 273) 670 = .ok (.iload 4, 2) := by decide +kernel
theorem d_273_672 : decode (cM 273) 672 = .ok (.iconst 1, 1) := by decide +kernel
theorem d_273_673 : decode (cM 273) 673 = .ok (.iadd, 1) := by decide +kernel
theorem d_273_674 : decode (cM 273) 674 = .ok (.iaload, 1) := by decide +kernel
theorem d_273_675 : decode (cM 273) 675 = .ok (.aload_n 0, 1) := by decide +kernel
theorem d_273_676 : decode (cM 273) 676 = .ok (.iload 4, 2) := by decide +kernel
theorem d_273_678 : decode (cM 273) 678 = .ok (.iconst 2, 1) := by decide +kernel
theorem d_273_679 : decode (cM 273) 679 = .ok (.iadd, 1) := by decide +kernel
theorem d_273_680 : decode (cM 273) 680 = .ok (.iaload, 1) := by decide +kernel
theorem d_273_681 : decode (cM 273) 681 = .ok (.invokevirtual 82, 3) := by decide +kernel
theorem kc_273_681 : callT (oM 273) 82 = some (0, 224, 2) ∧ fok 273 224 = true ∧ stM 224 = false := by decide +kernel
theorem d_273_684 : decode (cM 273) 684 = .ok (.if_icmp .eq 771, 3) := by decide +kernel
theorem d_273_687 : decode (cM 273) 687 = .ok (.iconst 0, 1) := by decide +kernel
theorem d_273_688 : decode (cM 273) 688 = .ok (.ireturn, 1) := by decide +kernel
theorem d_273_689 : decode (cM 273) 689 = .ok (.aload_n 1, 1) := by decide +kernel
theorem d_273_690 : decode (cM 273) 690 = .ok (.aload_n 0, 1) := by decide +kernel
theorem d_273_691 : decode (cM 273) 691 = .ok (.iload 4, 2) := by decide +kernel
theorem d_273_693 : decode (cM 273) 693 = .ok (.iconst 1, 1) := by decide +kernel
theorem d_273_694 : decode (cM 273) 694 = .ok (.iadd, 1) := by decide +kernel
theorem d_273_695 : decode (cM 273) 695 = .ok (.iaload, 1) := by decide +kernel
theorem d_273_696 : decode (cM 273) 696 = .ok (.invokevirtual 83, 3) := by decide +kernel
theorem kc_273_696 : callT (oM 273) 83 = some (0, 113, 1) ∧ fok 273 113 = true ∧ stM 113 = false := by decide +kernel
theorem d_273_699 : decode (cM 273) 699 = .ok (.aload_n 2, 1) := by decide +kernel
theorem d_273_700 : decode (cM 273) 700 = .ok (.aload_n 0, 1) := by decide +kernel
theorem d_273_701 : decode (cM 273) 701 = .ok (.iload 4, 2) := by decide +kernel
theorem d_273_703 : decode (cM 273) 703 = .ok (.iconst 1, 1) := by decide +kernel
theorem d_273_704 : decode (cM 273) 704 = .ok (.iadd, 1) := by decide +kernel
theorem d_273_705 : decode (cM 273) 705 = .ok (.iaload, 1) := by decide +kernel
theorem d_273_706 : decode (cM 273) 706 = .ok (.invokevirtual 86, 3) := by decide +kernel
theorem kc_273_706 : callT (oM 273) 86 = some (0, 225, 1) ∧ fok 273 225 = true ∧ stM 225 = false := by decide +kernel
theorem d_273_709 : decode (cM 273) 709 = .ok (.if_icmp .eq 746, 3) := by decide +kernel
theorem d_273_712 : decode (cM 273) 712 = .ok (.iconst 0, 1) := by decide +kernel
theorem d_273_713 : decode (cM 273) 713 = .ok (.ireturn, 1) := by decide +kernel
theorem d_273_714 : decode (cM 273) 714 = .ok (.aload_n 1, 1) := by decide +kernel
theorem d_273_715 : decode (cM 273) 715 = .ok (.aload_n 0, 1) := by decide +kernel
theorem d_273_716 : decode (cM 273) 716 = .ok (.iload 4, 2) := by decide +kernel
theorem d_273_718 : decode (cM 273) 718 = .ok (.iconst 1, 1) := by decide +kernel
theorem d_273_719 : decode (cM 273) 719 = .ok (.iadd, 1) := by decide +kernel
theorem d_273_720 : decode (cM 273) 720 = .ok (.iaload, 1) := by decide +kernel
theorem d_273_721 : decode (cM 273) 721 = .ok (.invokevirtual 87, 3) := by decide +kernel
theorem kc_273_721 : callT (oM 273) 87 = some (0, 114, 1) ∧ fok 273 114 = true ∧ stM 114 = false := by decide +kernel
theorem d_273_724 : decode (cM 273) 724 = .ok (.aload_n 2, 1) := by decide +kernel
theorem d_273_725 : decode (cM 273) 725 = .ok (.aload_n 0, 1) := by decide +kernel
theorem d_273_726 : decode (cM 273) 726 = .ok (.iload 4, 2) := by decide +kernel
theorem d_273_728 : decode (cM 273) 728 = .ok (.iconst 1, 1) := by decide +kernel
theorem d_273_729 : decode (cM 273) 729 = .ok (.iadd, 1) := by decide +kernel
theorem d_273_730 : decode (cM 273) 730 = .ok (.iaload, 1) := by decide +kernel
theorem d_273_731 : decode (cM 273) 731 = .ok (.invokevirtual 90, 3) := by decide +kernel
theorem kc_273_731 : callT (oM 273) 90 = some (0, 229, 1) ∧ fok 273 229 = true ∧ stM 229 = false := by decide +kernel
theorem d_273_734 : decode (cM 273) 734 = .ok (.if_icmp .eq 721, 3) := by decide +kernel
theorem d_273_737 : decode (cM 273) 737 = .ok (.iconst 0, 1) := by decide +kernel
theorem d_273_738 : decode (cM 273) 738 = .ok (.ireturn, 1) := by decide +kernel
theorem d_273_739 : decode (cM 273) 739 = .ok (.aload_n 1, 1) := by decide +kernel
theorem d_273_740 : decode (cM 273) 740 = .ok (.aload_n 0, 1) := by decide +kernel
theorem d_273_741 : decode (cM 273) 741 = .ok (.iload 4, 2) := by decide +kernel
theorem d_273_743 : decode (cM 273) 743 = .ok (.iconst 1, 1) := by decide +kernel
theorem d_273_744 : decode (cM 273) 744 = .ok (.iadd, 1) := by decide +kernel
theorem d_273_745 : decode (cM 273) 745 = .ok (.iaload, 1) := by decide +kernel
theorem d_273_746 : decode (cM 273) 746 = .ok (.invokevirtual 91, 3) := by decide +kernel
theorem kc_273_746 : callT (oM 273) 91 = some (0, 115, 1) ∧ fok 273 115 = true ∧ stM 115 = false := by decide +kernel
theorem d_273_749 : decode (cM 273) 749 = .ok (.aload_n 2, 1) := by decide +kernel
theorem d_273_750 : decode (cM 273) 750 = .ok (.aload_n 0, 1) := by decide +kernel
theorem d_273_751 : decode (cM 273) 751 = .ok (.iload 4, 2) := by decide +kernel
theorem d_273_753 : decode (cM 273) 753 = .ok (.iconst 1, 1) := by decide +kernel
theorem d_273_754 : decode (cM 273) 754 = .ok (.iadd, 1) := by decide +kernel
theorem d_273_755 : decode (cM 273) 755 = .ok (.iaload, 1) := by decide +kernel
theorem d_273_756 : decode (cM 273) 756 = .ok (.invokevirtual 94, 3) := by decide +kernel
theorem kc_273_756 : callT (oM 273) 94 = some (0, 231, 1) ∧ fok 273 231 = true ∧ stM 231 = false := by decide +kernel
theorem d_273_759 : decode (cM 273) 759 = .ok (.if_icmp .eq 696, 3) := by decide +kernel
theorem d_273_762 : decode (cM 273) 762 = .ok (.iconst 0, 1) := by decide +kernel
theorem d_273_763 : decode (cM 273) 763 = .ok (.ireturn, 1) := by decide +kernel
theorem d_273_764 : decode (cM 273) 764 = .ok (.aload_n 1, 1) := by decide +kernel
theorem d_273_765 : decode (cM 273) 765 = .ok (.aload_n 0, 1) := by decide +kernel
theorem d_273_766 : decode (cM 273) 766 = .ok (.iload 4, 2) := by decide +kernel
theorem d_273_768 : decode (cM 273) 768 = .ok (.iconst 1, 1) := by decide +kernel
theorem d_273_769 : decode (cM 273) 769 = .ok (.iadd, 1) := by decide +kernel
theorem d_273_770 : decode (cM 273) 770 = .ok (.iaload, 1) := by decide +kernel
theorem d_273_771 : decode (cM 273) 771 = .ok (.aload_n 0, 1) := by decide +kernel
theorem d_273_772 : decode (cM 273) 772 = .ok (.iload 4, 2) := by decide +kernel
theorem d_273_774 : decode (cM 273) 774 = .ok (.iconst 2, 1) := by decide +kernel
theorem d_273_775 : decode (cM 273) 775 = .ok (.iadd, 1) := by decide +kernel
theorem d_273_776 : decode (cM 273) 776 = .ok (.iaload, 1) := by decide +kernel
theorem d_273_777 : decode (cM 273) 777 = .ok (.invokevirtual 95, 3) := by decide +kernel
theorem kc_273_777 : callT (oM 273) 95 = some (0, 116, 2) ∧ fok 273 116 = true ∧ stM 116 = false := by decide +kernel
theorem d_273_780 : decode (cM 273) 780 = .ok (.aload_n 2, 1) := by decide +kernel
theorem d_273_781 : decode (cM 273) 781 = .ok (.aload_n 0, 1) := by decide +kernel
theorem d_273_782 : decode (cM 273) 782 = .ok (.iload 4, 2) := by decide +kernel
theorem d_273_784 : decode (cM 273) 784 = .ok (.iconst 1, 1) := by decide +kernel
theorem d_273_785 : decode (cM 273) 785 = .ok (.iadd, 1) := by decide +kernel
theorem d_273_786 : decode (cM 273) 786 = .ok (.iaload, 1) := by decide +kernel
theorem d_273_787 : decode (cM 273) 787 = .ok (.aload_n 0, 1) := by decide +kernel
theorem d_273_788 : decode (cM 273) 788 = .ok (.iload 4, 2) := by decide +kernel
theorem d_273_790 : decode (cM 273) 790 = .ok (.iconst 2, 1) := by decide +kernel
theorem d_273_791 : decode (cM 273) 791 = .ok (.iadd, 1) := by decide +kernel
theorem d_273_792 : decode (cM 273) 792 = .ok (.iaload, 1) := by decide +kernel
theorem d_273_793 : decode (cM 273) 793 = .ok (.invokevirtual 98, 3) := by decide +kernel
theorem kc_273_793 : callT (oM 273) 98 = some (0, 232, 2) ∧ fok 273 232 = true ∧ stM 232 = false := by decide +kernel
theorem d_273_796 : decode (cM 273) 796 = .ok (.if_icmp .eq 659, 3) := by decide +kernel
theorem d_273_799 : decode (cM 273) 799 = .ok (.iconst 0, 1) := by decide +kernel
theorem d_273_800 : decode (cM 273) 800 = .ok (.ireturn, 1) := by decide +kernel
theorem d_273_801 : decode (cM 273) 801 = .ok (.aload_n 1, 1) := by decide +kernel
theorem d_273_802 : decode (cM 273) 802 = .ok (.aload_n 0, 1) := by decide +kernel
theorem d_273_803 : decode (cM 273) 803 = .ok (.iload 4, 2) := by decide +kernel
theorem d_273_805 : decode (cM 273) 805 = .ok (.iconst 1, 1) := by decide +kernel
theorem d_273_806 : decode (cM 273) 806 = .ok (.iadd, 1) := by decide +kernel
theorem d_273_807 : decode (cM 273) 807 = .ok (.iaload, 1) := by decide +kernel
theorem d_273_808 : decode (cM 273) 808 = .ok (.aload_n 0, 1) := by decide +kernel
theorem d_273_809 : decode (cM 273) 809 = .ok (.iload 4, 2) := by decide +kernel
theorem d_273_811 : decode (cM 273) 811 = .ok (.iconst 2, 1) := by decide +kernel
theorem d_273_812 : decode (cM 273) 812 = .ok (.iadd, 1) := by decide +kernel
theorem d_273_813 : decode (cM 273) 813 = .ok (.iaload, 1) := by decide +kernel
theorem d_273_814 : decode (cM 273) 814 = .ok (.invokevirtual 99, 3) := by decide +kernel
theorem kc_273_814 : callT (oM 273) 99 = some (0, 117, 2) ∧ fok 273 117 = true ∧ stM 117 = false := by decide +kernel
theorem d_273_817 : decode (cM 273) 817 = .ok (.aload_n 2, 1) := by decide +kernel
theorem d_273_818 : decode (cM 273) 818 = .ok (.aload_n 0, 1) := by decide +kernel
theorem d_273_819 : decode (cM 273) 819 = .ok (.iload 4, 2) := by decide +kernel
theorem d_273_821 : decode (cM 273) 821 = .ok (.iconst 1, 1) := by decide +kernel
theorem d_273_822 : decode (cM 273) 822 = .ok (.iadd, 1) := by decide +kernel
theorem d_273_823 : decode (cM 273) 823 = .ok (.iaload, 1) := by decide +kernel
theorem d_273_824 : decode (cM 273) 824 = .ok (.aload_n 0, 1) := by decide +kernel
theorem d_273_825 : decode (cM 273) 825 = .ok (.iload 4, 2) := by decide +kernel
theorem d_273_827 : decode (cM 273) 827 = .ok (.iconst 2, 1) := by decide +kernel
theorem d_273_828 : decode (cM 273) 828 = .ok (.iadd, 1) := by decide +kernel
theorem d_273_829 : decode (cM 273) 829 = .ok (.iaload, 1) := by decide +kernel
theorem d_273_830 : decode (cM 273) 830 = .ok (.invokevirtual 102, 3) := by decide +kernel
theorem kc_273_830 : callT (oM 273) 102 = some (0, 233, 2) ∧ fok 273 233 = true ∧ stM 233 = false := by decide +kernel
theorem d_273_833 : decode (cM 273) 833 = .ok (.if_icmp .eq 622, 3) := by decide +kernel
theorem d_273_836 : decode (cM 273) 836 = .ok (.iconst 0, 1) := by decide +kernel
theorem d_273_837 : decode (cM 273) 837 = .ok (.ireturn, 1) := by decide +kernel
theorem d_273_838 : decode (cM 273) 838 = .ok (.aload_n 1, 1) := by decide +kernel
theorem d_273_839 : decode (cM 273) 839 = .ok (.invokevirtual 103, 3) := by decide +kernel
theorem kc_273_839 : callT (oM 273) 103 = some (0, 118, 0) ∧ fok 273 118 = true ∧ stM 118 = false := by decide +kernel
theorem d_273_842 : decode (cM 273) 842 = .ok (.aload_n 2, 1) := by decide +kernel
theorem d_273_843 : decode (cM 273) 843 = .ok (.invokevirtual 106, 3) := by decide +kernel
theorem kc_273_843 : callT (oM 273) 106 = some (0, 236, 0) ∧ fok 273 236 = true ∧ stM 236 = false := by decide +kernel
theorem d_273_846 : decode (cM 273) 846 = .ok (.if_icmp .eq 609, 3) := by decide +kernel
theorem d_273_849 : decode (cM 273) 849 = .ok (.iconst 0, 1) := by decide +kernel
theorem d_273_850 : decode (cM 273) 850 = .ok (.ireturn, 1) := by decide +kernel
theorem d_273_851 : decode (cM 273) 851 = .ok (.aload_n 1, 1) := by decide +kernel
theorem d_273_852 : decode (cM 273) 852 = .ok (.invokevirtual 107, 3) := by decide +kernel
theorem kc_273_852 : callT (oM 273) 107 = some (0, 119, 0) ∧ fok 273 119 = true ∧ stM 119 = false := by decide +kernel
theorem d_273_855 : decode (cM 273) 855 = .ok (.aload_n 2, 1) := by decide +kernel
theorem d_273_856 : decode (cM 273) 856 = .ok (.invokevirtual 110, 3) := by decide +kernel
theorem kc_273_856 : callT (oM 273) 110 = some (0, 239, 0) ∧ fok 273 239 = true ∧ stM 239 = false := by decide +kernel
theorem d_273_859 : decode (cM 273) 859 = .ok (.if_icmp .eq 596, 3) := by decide +kernel
theorem d_273_862 : decode (cM 273) 862 = .ok (.iconst 0, 1) := by decide +kernel
theorem d_273_863 : decode (cM 273) 863 = .ok (.ireturn, 1) := by decide +kernel
theorem d_273_864 : decode (cM 273) 864 = .ok (.aload_n 1, 1) := by decide +kernel
theorem d_273_865 : decode (cM 273) 865 = .ok (.aload_n 0, 1) := by decide +kernel
theorem d_273_866 : decode (cM 273) 866 = .ok (.iload 4, 2) := by decide +kernel
theorem d_273_868 : decode (cM 273) 868 = .ok (.iconst 1, 1) := by decide +kernel
theorem d_273_869 : decode (cM 273) 869 = .ok (.iadd, 1) := by decide +kernel
theorem d_273_870 : decode (cM 273) 870 = .ok (.iaload, 1) := by decide +kernel
theorem d_273_871 : decode (cM 273) 871 = .ok (.invokevirtual 111, 3) := by decide +kernel
theorem kc_273_871 : callT (oM 273) 111 = some (0, 120, 1) ∧ fok 273 120 = true ∧ stM 120 = false := by decide +kernel
theorem d_273_874 : decode (cM 273) 874 = .ok (.aload_n 2, 1) := by decide +kernel
theorem d_273_875 : decode (cM 273) 875 = .ok (.aload_n 0, 1) := by decide +kernel
theorem d_273_876 : decode (cM 273) 876 = .ok (.iload 4, 2) := by decide +kernel
theorem d_273_878 : decode (cM 273) 878 = .ok (.iconst 1, 1) := by decide +kernel
theorem d_273_879 : decode (cM 273) 879 = .ok (.iadd, 1) := by decide +kernel
theorem d_273_880 : decode (cM 273) 880 = .ok (.iaload, 1) := by decide +kernel
theorem d_273_881 : decode (cM 273) 881 = .ok (.invokevirtual 114, 3) := by decide +kernel
theorem kc_273_881 : callT (oM 273) 114 = some (0, 240, 1) ∧ fok 273 240 = true ∧ stM 240 = false := by decide +kernel
theorem d_273_884 : decode (cM 273) 884 = .ok (.if_icmp .eq 571, 3) := by decide +kernel
theorem d_273_887 : decode (cM 273) 887 = .ok (.iconst 0, 1) := by decide +kernel
theorem d_273_888 : decode (cM 273) 888 = .ok (.ireturn, 1) := by decide +kernel
theorem d_273_889 : decode (cM 273) 889 = .ok (.aload_n 1, 1) := by decide +kernel
theorem d_273_890 : decode (cM 273) 890 = .ok (.aload_n 0, 1) := by decide +kernel
theorem d_273_891 : decode (cM 273) 891 = .ok (.iload 4, 2) := by decide +kernel
theorem d_273_893 : decode (cM 273) 893 = .ok (.iconst 1, 1) := by decide +kernel
theorem d_273_894 : decode (cM 273) 894 = .ok (.iadd, 1) := by decide +kernel
theorem d_273_895 : decode (cM 273) 895 = .ok (.iaload, 1) := by decide +kernel
theorem d_273_896 : decode (cM 273) 896 = .ok (.invokevirtual 115, 3) := by decide +kernel
theorem kc_273_896 : callT (oM 273) 115 = some (0, 121, 1) ∧ fok 273 121 = true ∧ stM 121 = false := by decide +kernel
theorem d_273_899 : decode (cM 273) 899 = .ok (.aload_n 2, 1) := by decide +kernel
theorem d_273_900 : decode (cM 273) 900 = .ok (.aload_n 0, 1) := by decide +kernel
theorem d_273_901 : decode (cM 273) 901 = .ok (.iload 4, 2) := by decide +kernel
theorem d_273_903 : decode (cM 273) 903 = .ok (.iconst 1, 1) := by decide +kernel
theorem d_273_904 : decode (cM 273) 904 = .ok (.iadd, 1) := by decide +kernel
theorem d_273_905 : decode (cM 273) 905 = .ok (.iaload, 1) := by decide +kernel
theorem d_273_906 : decode (cM 273) 906 = .ok (.invokevirtual 118, 3) := by decide +kernel
theorem kc_273_906 : callT (oM 273) 118 = some (0, 241, 1) ∧ fok 273 241 = true ∧ stM 241 = false := by decide +kernel
theorem d_273_909 : decode (cM 273) 909 = .ok (.if_icmp .eq 546, 3) := by decide +kernel
theorem d_273_912 : decode (cM 273) 912 = .ok (.iconst 0, 1) := by decide +kernel
theorem d_273_913 : decode (cM 273) 913 = .ok (.ireturn, 1) := by decide +kernel
theorem d_273_914 : decode (cM 273) 914 = .ok (.aload_n 1, 1) := by decide +kernel
theorem d_273_915 : decode (cM 273) 915 = .ok (.aload_n 0, 1) := by decide +kernel
theorem d_273_916 : decode (cM 273) 916 = .ok (.iload 4, 2) := by decide +kernel
theorem d_273_918 : decode (cM 273) 918 = .ok (.iconst 1, 1) := by decide +kernel
theorem d_273_919 : decode (cM 273) 919 = .ok (.iadd, 1) := by decide +kernel
theorem d_273_920 : decode (cM 273) 920 = .ok (.iaload, 1) := by decide +kernel
theorem d_273_921 : decode (cM 273) 921 = .ok (.invokevirtual 119, 3) := by decide +kernel
theorem kc_273_921 : callT (oM 273) 119 = some (0, 122, 1) ∧ fok 273 122 = true ∧ stM 122 = false := by decide +kernel
theorem d_273_924 : decode (cM 273) 924 = .ok (.aload_n 2, 1) := by decide +kernel
theorem d_273_925 : decode (cM 273) 925 = .ok (.aload_n 0, 1) := by decide +kernel
theorem d_273_926 : decode (cM 273) 926 = .ok (.iload 4, 2) := by decide +kernel
theorem d_273_928 : decode (cM 273) 928 = .ok (.iconst 1, 1) := by decide +kernel
theorem d_273_929 : decode (cM 273) 929 = .ok (.iadd, 1) := by decide +kernel
theorem d_273_930 : decode (cM 273) 930 = .ok (.iaload, 1) := by decide +kernel
theorem d_273_931 : decode (cM 273) 931 = .ok (.invokevirtual 122, 3) := by decide +kernel
theorem kc_273_931 : callT (oM 273) 122 = some (0, 242, 1) ∧ fok 273 242 = true ∧ stM 242 = false := by decide +kernel
theorem d_273_934 : decode (cM 273) 934 = .ok (.if_icmp .eq 521, 3) := by decide +kernel
theorem d_273_937 : decode (cM 273) 937 = .ok (.iconst 0, 1) := by decide +kernel
theorem d_273_938 : decode (cM 273) 938 = .ok (.ireturn, 1) := by decide +kernel
theorem d_273_939 : decode (cM 273) 939 = .ok (.aload_n 1, 1) := by decide +kernel
theorem d_273_940 : decode (cM 273) 940 = .ok (.aload_n 0, 1) := by decide +kernel
theorem d_273_941 : decode (cM 273) 941 = .ok (.iload 4, 2) := by decide +kernel
theorem d_273_943 : decode (cM 273) 943 = .ok (.iconst 1, 1) := by decide +kernel
theorem d_273_944 : decode (cM 273) 944 = .ok (.iadd, 1) := by decide +kernel
theorem d_273_945 : decode (cM 273) 945 = .ok (.iaload, 1) := by decide +kernel
theorem d_273_946 : decode (cM 273) 946 = .ok (.invokevirtual 123, 3) := by decide +kernel
theorem kc_273_946 : callT (oM 273) 123 = some (0, 123, 1) ∧ fok 273 123 = true ∧ stM 123 = false := by decide +kernel
theorem d_273_949 : decode (cM 273) 949 = .ok (.aload_n 2, 1) := by decide +kernel
theorem d_273_950 : decode (cM 273) 950 = .ok (.aload_n 0, 1) := by decide +kernel
theorem d_273_951 : decode (cM 273) 951 = .ok (.iload 4, 2) := by decide +kernel
theorem d_273_953 : decode (cM 273) 953 = .ok (.iconst 1, 1) := by decide +kernel
theorem d_273_954 : decode (cM 273) 954 = .ok (.iadd, 1) := by decide +kernel
theorem d_273_955 : decode (cM 273) 955 = .ok (.iaload, 1) := by decide +kernel
theorem d_273_956 : decode (cM 273) 956 = .ok (.invokevirtual 126, 3) := by decide +kernel
theorem kc_273_956 : callT (oM 273) 126 = some (0, 243, 1) ∧ fok 273 243 = true ∧ stM 243 = false := by decide +kernel
theorem d_273_959 : decode (cM 273) 959 = .ok (.if_icmp .eq 496, 3) := by decide +kernel
theorem d_273_962 : decode (cM 273) 962 = .ok (.iconst 0, 1) := by decide +kernel
theorem d_273_963 : decode (cM 273) 963 = .ok (.ireturn, 1) := by decide +kernel
theorem d_273_964 : decode (cM 273) 964 = .ok (.aload_n 1, 1) := by decide +kernel
theorem d_273_965 : decode (cM 273) 965 = .ok (.invokevirtual 127, 3) := by decide +kernel
theorem kc_273_965 : callT (oM 273) 127 = some (0, 124, 0) ∧ fok 273 124 = true ∧ stM 124 = false := by decide +kernel
theorem d_273_968 : decode (cM 273) 968 = .ok (.aload_n 2, 1) := by decide +kernel
theorem d_273_969 : decode (cM 273) 969 = .ok (.invokevirtual 130, 3) := by decide +kernel
theorem kc_273_969 : callT (oM 273) 130 = some (0, 244, 0) ∧ fok 273 244 = true ∧ stM 244 = false := by decide +kernel
theorem d_273_972 : decode (cM 273) 972 = .ok (.if_icmp .eq 483, 3) := by decide +kernel
theorem d_273_975 : decode (cM 273) 975 = .ok (.iconst 0, 1) := by decide +kernel
theorem d_273_976 : decode (cM 273) 976 = .ok (.ireturn, 1) := by decide +kernel
theorem d_273_977 : decode (cM 273) 977 = .ok (.aload_n 1, 1) := by decide +kernel
theorem d_273_978 : decode (cM 273) 978 = .ok (.aload_n 0, 1) := by decide +kernel
theorem d_273_979 : decode (cM 273) 979 = .ok (.iload 4, 2) := by decide +kernel
theorem d_273_981 : decode (cM 273) 981 = .ok (.iconst 1, 1) := by decide +kernel
theorem d_273_982 : decode (cM 273) 982 = .ok (.iadd, 1) := by decide +kernel
theorem d_273_983 : decode (cM 273) 983 = .ok (.iaload, 1) := by decide +kernel
theorem d_273_984 : decode (cM 273) 984 = .ok (.invokevirtual 131, 3) := by decide +kernel
theorem kc_273_984 : callT (oM 273) 131 = some (0, 125, 1) ∧ fok 273 125 = true ∧ stM 125 = false := by decide +kernel
theorem d_273_987 : decode (cM 273) 987 = .ok (.aload_n 2, 1) := by decide +kernel
theorem d_273_988 : decode (cM 273) 988 = .ok (.aload_n 0, 1) := by decide +kernel
theorem d_273_989 : decode (cM 273) 989 = .ok (.iload 4, 2) := by decide +kernel
theorem d_273_991 : decode (cM 273) 991 = .ok (.iconst 1, 1) := by decide +kernel
theorem d_273_992 : decode (cM 273) 992 = .ok (.iadd, 1) := by decide +kernel
theorem d_273_993 : decode (cM 273) 993 = .ok (.iaload, 1) := by decide +kernel
theorem d_273_994 : decode (cM 273) 994 = .ok (.invokevirtual 134, 3) := by decide +kernel
theorem kc_273_994 : callT (oM 273) 134 = some (0, 246, 1) ∧ fok 273 246 = true ∧ stM 246 = false := by decide +kernel
theorem d_273_997 : decode (cM 273) 997 = .ok (.if_icmp .eq 458, 3) := by decide +kernel
theorem d_273_1000 : decode (cM 273) 1000 = .ok (.iconst 0, 1) := by decide +kernel
theorem d_273_1001 : decode (cM 273) 1001 = .ok (.ireturn, 1) := by decide +kernel
theorem d_273_1002 : decode (cM 273) 1002 = .ok (.aload_n 1, 1) := by decide +kernel
theorem d_273_1003 : decode (cM 273) 1003 = .ok (.aload_n 0, 1) := by decide +kernel
theorem d_273_1004 : decode (cM 273) 1004 = .ok (.iload 4, 2) := by decide +kernel
theorem d_273_1006 : decode (cM 273) 1006 = .ok (.iconst 1, 1) := by decide +kernel
theorem d_273_1007 : decode (cM 273) 1007 = .ok (.iadd, 1) := by decide +kernel
theorem d_273_1008 : decode (cM 273) 1008 = .ok (.iaload, 1) := by decide +kernel
theorem d_273_1009 : decode (cM 273) 1009 = .ok (.aload_n 0, 1) := by decide +kernel
theorem d_273_1010 : decode (cM 273) 1010 = .ok (.iload 4, 2) := by decide +kernel
theorem d_273_1012 : decode (cM 273) 1012 = .ok (.iconst 2, 1) := by decide +kernel
theorem d_273_1013 : decode (cM 273) 1013 = .ok (.iadd, 1) := by decide +kernel
theorem d_273_1014 : decode (cM 273) 1014 = .ok (.iaload, 1) := by decide +kernel
theorem d_273_1015 : decode (cM 273) 1015 = .ok (.invokevirtual 135, 3) := by decide +kernel
theorem kc_273_1015 : callT (oM 273) 135 = some (0, 126, 2) ∧ fok 273 126 = true ∧ stM 126 = false := by decide +kernel
theorem d_273_1018 : decode (cM 273) 1018 = .ok (.aload_n 2, 1) := by decide +kernel
theorem d_273_1019 : decode (cM 273) 1019 = .ok (.aload_n 0, 1) := by decide +kernel
theorem d_273_1020 : decode (cM 273) 1020 = .ok (.iload 4, 2) := by decide +kernel
theorem d_273_1022 : decode (cM 273) 1022 = .ok (.iconst 1, 1) := by decide +kernel
theorem d_273_1023 : decode (cM 273) 1023 = .ok (.iadd, 1) := by decide +kernel
theorem d_273_1024 : decode (cM 273) 1024 = .ok (.iaload, 1) := by decide +kernel
theorem d_273_1025 : decode (cM 273) 1025 = .ok (.aload_n 0, 1) := by decide +kernel
theorem d_273_1026 : decode (cM 273) 1026 = .ok (.iload 4, 2) := by decide +kernel
theorem d_273_1028 : decode (cM 273) 1028 = .ok (.iconst 2, 1) := by decide +kernel
theorem d_273_1029 : decode (cM 273) 1029 = .ok (.iadd, 1) := by decide +kernel
theorem d_273_1030 : decode (cM 273) 1030 = .ok (.iaload, 1) := by decide +kernel
theorem d_273_1031 : decode (cM 273) 1031 = .ok (.invokevirtual 138, 3) := by decide +kernel
theorem kc_273_1031 : callT (oM 273) 138 = some (0, 247, 2) ∧ fok 273 247 = true ∧ stM 247 = false := by decide +kernel
theorem d_273_1034 : decode (cM 273) 1034 = .ok (.if_icmp .eq 421, 3) := by decide +kernel
theorem d_273_1037 : decode (cM 273) 1037 = .ok (.iconst 0, 1) := by decide +kernel
theorem d_273_1038 : decode (cM 273) 1038 = .ok (.ireturn, 1) := by decide +kernel
theorem d_273_1039 : decode (cM 273) 1039 = .ok (.aload_n 1, 1) := by decide +kernel
theorem d_273_1040 : decode (cM 273) 1040 = .ok (.aload_n 0, 1) := by decide +kernel
theorem d_273_1041 : decode (cM 273) 1041 = .ok (.iload 4, 2) := by decide +kernel
theorem d_273_1043 : decode (cM 273) 1043 = .ok (.iconst 1, 1) := by decide +kernel
theorem d_273_1044 : decode (cM 273) 1044 = .ok (.iadd, 1) := by decide +kernel
theorem d_273_1045 : decode (cM 273) 1045 = .ok (.iaload, 1) := by decide +kernel
theorem d_273_1046 : decode (cM 273) 1046 = .ok (.invokevirtual 139, 3) := by decide +kernel
theorem kc_273_1046 : callT (oM 273) 139 = some (0, 127, 1) ∧ fok 273 127 = true ∧ stM 127 = false := by decide +kernel
theorem d_273_1049 : decode (cM 273) 1049 = .ok (.aload_n 2, 1) := by decide +kernel
theorem d_273_1050 : decode (cM 273) 1050 = .ok (.aload_n 0, 1) := by decide +kernel
theorem d_273_1051 : decode (cM 273) 1051 = .ok (.iload 4, 2) := by decide +kernel
theorem d_273_1053 : decode (cM 273) 1053 = .ok (.iconst 1, 1) := by decide +kernel
theorem d_273_1054 : decode (cM 273) 1054 = .ok (.iadd, 1) := by decide +kernel
theorem d_273_1055 : decode (cM 273) 1055 = .ok (.iaload, 1) := by decide +kernel
theorem d_273_1056 : decode (cM 273) 1056 = .ok (.invokevirtual 142, 3) := by decide +kernel
theorem kc_273_1056 : callT (oM 273) 142 = some (0, 248, 1) ∧ fok 273 248 = true ∧ stM 248 = false := by decide +kernel
theorem d_273_1059 : decode (cM 273) 1059 = .ok (.if_icmp .eq 396, 3) := by decide +kernel
theorem d_273_1062 : decode (cM 273) 1062 = .ok (.iconst 0, 1) := by decide +kernel
theorem d_273_1063 : decode (cM 273) 1063 = .ok (.ireturn, 1) := by decide +kernel
theorem d_273_1064 : decode (cM 273) 1064 = .ok (.aload_n 1, 1) := by decide +kernel
theorem d_273_1065 : decode (cM 273) 1065 = .ok (.aload_n 0, 1) := by decide +kernel
theorem d_273_1066 : decode (cM 273) 1066 = .ok (.iload 4, 2) := by decide +kernel
theorem d_273_1068 : decode (cM 273) 1068 = .ok (.iconst 1, 1) := by decide +kernel
theorem d_273_1069 : decode (cM 273) 1069 = .ok (.iadd, 1) := by decide +kernel
theorem d_273_1070 : decode (cM 273) 1070 = .ok (.iaload, 1) := by decide +kernel
theorem d_273_1071 : decode (cM 273) 1071 = .ok (.invokevirtual 143, 3) := by decide +kernel
theorem kc_273_1071 : callT (oM 273) 143 = some (0, 128, 1) ∧ fok 273 128 = true ∧ stM 128 = false := by decide +kernel
theorem d_273_1074 : decode (cM 273) 1074 = .ok (.aload_n 2, 1) := by decide +kernel
theorem d_273_1075 : decode (cM 273) 1075 = .ok (.aload_n 0, 1) := by decide +kernel
theorem d_273_1076 : decode (cM 273) 1076 = .ok (.iload 4, 2) := by decide +kernel
theorem d_273_1078 : decode (cM 273) 1078 = .ok (.iconst 1, 1) := by decide +kernel
theorem d_273_1079 : decode (cM 273) 1079 = .ok (.iadd, 1) := by decide +kernel
theorem d_273_1080 : decode (cM 273) 1080 = .ok (.iaload, 1) := by decide +kernel
theorem d_273_1081 : decode (cM 273) 1081 = .ok (.invokevirtual 146, 3) := by decide +kernel
theorem kc_273_1081 : callT (oM 273) 146 = some (0, 251, 1) ∧ fok 273 251 = true ∧ stM 251 = false := by decide +kernel
theorem d_273_1084 : decode (cM 273) 1084 = .ok (.if_icmp .eq 371, 3) := by decide +kernel
theorem d_273_1087 : decode (cM 273) 1087 = .ok (.iconst 0, 1) := by decide +kernel
theorem d_273_1088 : decode (cM 273) 1088 = .ok (.ireturn, 1) := by decide +kernel
theorem d_273_1089 : decode (cM 273) 1089 = .ok (.aload_n 1, 1) := by decide +kernel
theorem d_273_1090 : decode (cM 273) 1090 = .ok (.aload_n 0, 1) := by decide +kernel
theorem d_273_1091 : decode (cM 273) 1091 = .ok (.iload 4, 2) := by decide +kernel
theorem d_273_1093 : decode (cM 273) 1093 = .ok (.iconst 1, 1) := by decide +kernel
theorem d_273_1094 : decode (cM 273) 1094 = .ok (.iadd, 1) := by decide +kernel
theorem d_273_1095 : decode (cM 273) 1095 = .ok (.iaload, 1) := by decide +kernel
theorem d_273_1096 : decode (cM 273) 1096 = .ok (.aload_n 0, 1) := by decide +kernel
theorem d_273_1097 : decode (cM 273) 1097 = .ok (.iload 4, 2) := by decide +kernel
theorem d_273_1099 : decode (cM 273) 1099 = .ok (.iconst 2, 1) := by decide +kernel
theorem d_273_1100 : decode (cM 273) 1100 = .ok (.iadd, 1) := by decide +kernel
theorem d_273_1101 : decode (cM 273) 1101 = .ok (.iaload, 1) := by decide +kernel
theorem d_273_1102 : decode (cM 273) 1102 = .ok (.invokevirtual 147, 3) := by decide +kernel
theorem kc_273_1102 : callT (oM 273) 147 = some (0, 129, 2) ∧ fok 273 129 = true ∧ stM 129 = false := by decide +kernel
theorem d_273_1105 : decode (cM 273) 1105 = .ok (.aload_n 2, 1) := by decide +kernel
theorem d_273_1106 : decode (cM 273) 1106 = .ok (.aload_n 0, 1) := by decide +kernel
theorem d_273_1107 : decode (cM 273) 1107 = .ok (.iload 4, 2) := by decide +kernel
theorem d_273_1109 : decode (cM 273) 1109 = .ok (.iconst 1, 1) := by decide +kernel
theorem d_273_1110 : decode (cM 273) 1110 = .ok (.iadd, 1) := by decide +kernel
theorem d_273_1111 : decode (cM 273) 1111 = .ok (.iaload, 1) := by decide +kernel
theorem d_273_1112 : decode (cM 273) 1112 = .ok (.aload_n 0, 1) := by decide +kernel
theorem d_273_1113 : decode (cM 273) 1113 = .ok (.iload 4, 2) := by decide +kernel
theorem d_273_1115 : decode (cM 273) 1115 = .ok (.iconst 2, 1) := by decide +kernel
theorem d_273_1116 : decode (cM 273) 1116 = .ok (.iadd, 1) := by decide +kernel
theorem d_273_1117 : decode (cM 273) 1117 = .ok (.iaload, 1) := by decide +kernel
theorem d_273_1118 : decode (cM 273) 1118 = .ok (.invokevirtual 150, 3) := by decide +kernel
theorem kc_273_1118 : callT (oM 273) 150 = some (0, 252, 2) ∧ fok 273 252 = true ∧ stM 252 = false := by decide +kernel
theorem d_273_1121 : decode (cM 273) 1121 = .ok (.lcmp, 1) := by decide +kernel
theorem d_273_1122 : decode (cM 273) 1122 = .ok (.ifCond .eq 333, 3) := by decide +kernel
theorem d_273_1125 : decode (cM 273) 1125 = .ok (.iconst 0, 1) := by decide +kernel
theorem d_273_1126 : decode (cM 273) 1126 = .ok (.ireturn, 1) := by decide +kernel
theorem d_273_1127 : decode (cM 273) 1127 = .ok (.aload_n 1, 1) := by decide +kernel
theorem d_273_1128 : decode (cM 273) 1128 = .ok (.aload_n 0, 1) := by decide +kernel
theorem d_273_1129 : decode (cM 273) 1129 = .ok (.iload 4, 2) := by decide +kernel
theorem d_273_1131 : decode (cM 273) 1131 = .ok (.iconst 1, 1) := by decide +kernel
theorem d_273_1132 : decode (cM 273) 1132 = .ok (.iadd, 1) := by decide +kernel
theorem d_273_1133 : decode (cM 273) 1133 = .ok (.iaload, 1) := by decide +kernel
theorem d_273_1134 : decode (cM 273) 1134 = .ok (.aload_n 0, 1) := by decide +kernel
theorem d_273_1135 : decode (cM 273) 1135 = .ok (.iload 4, 2) := by decide +kernel
theorem d_273_1137 : decode (cM 273) 1137 = .ok (.iconst 2, 1) := by decide +kernel
theorem d_273_1138 : decode (cM 273) 1138 = .ok (.iadd, 1) := by decide +kernel
theorem d_273_1139 : decode (cM 273) 1139 = .ok (.iaload, 1) := by decide +kernel
theorem d_273_1140 : decode (cM 273) 1140 = .ok (.aload_n 0, 1) := by decide +kernel
theorem d_273_1141 : decode (cM 273) 1141 = .ok (.iload 4, 2) := by decide +kernel
theorem d_273_1143 : decode (cM 273) 1143 = .ok (.iconst 3, 1) := by decide +kernel
theorem d_273_1144 : decode (cM 273) 1144 = .ok (.iadd, 1) := by decide +kernel
theorem d_273_1145 : decode (cM 273) 1145 = .ok (.iaload, 1) := by decide +kernel
theorem d_273_1146 : decode (cM 273) 1146 = .ok (.ifCond .eq 7, 3) := by decide +kernel
theorem d_273_1149 : decode (cM 273) 1149 = .ok (.iconst 1, 1) := by decide +kernel
theorem d_273_1150 : decode (cM 273) 1150 = .ok (.goto 4, 3) := by decide +kernel
theorem d_273_1153 : decode (cM 273) 1153 = .ok (.iconst 0, 1) := by decide +kernel
theorem d_273_1154 : decode (cM 273) 1154 = .ok (.invokevirtual 151, 3) := by decide +kernel
theorem kc_273_1154 : callT (oM 273) 151 = some (0, 130, 3) ∧ fok 273 130 = true ∧ stM 130 = false := by decide +kernel
theorem d_273_1157 : decode (cM 273) 1157 = .ok (.aload_n 2, 1) := by decide +kernel
theorem d_273_1158 : decode (cM 273) 1158 = .ok (.aload_n 0, 1) := by decide +kernel
theorem d_273_1159 : decode (cM 273) 1159 = .ok (.iload 4, 2) := by decide +kernel
theorem d_273_1161 : decode (cM 273) 1161 = .ok (.iconst 1, 1) := by decide +kernel
theorem d_273_1162 : decode (cM 273) 1162 = .ok (.iadd, 1) := by decide +kernel
theorem d_273_1163 : decode (cM 273) 1163 = .ok (.iaload, 1) := by decide +kernel
theorem d_273_1164 : decode (cM 273) 1164 = .ok (.aload_n 0, 1) := by decide +kernel
theorem d_273_1165 : decode (cM 273) 1165 = .ok (.iload 4, 2) := by decide +kernel
theorem d_273_1167 : decode (cM 273) 1167 = .ok (.iconst 2, 1) := by decide +kernel
theorem d_273_1168 : decode (cM 273) 1168 = .ok (.iadd, 1) := by decide +kernel
theorem d_273_1169 : decode (cM 273) 1169 = .ok (.iaload, 1) := by decide +kernel
theorem d_273_1170 : decode (cM 273) 1170 = .ok (.aload_n 0, 1) := by decide +kernel
theorem d_273_1171 : decode (cM 273) 1171 = .ok (.iload 4, 2) := by decide +kernel
theorem d_273_1173 : decode (cM 273) 1173 = .ok (.iconst 3, 1) := by decide +kernel
theorem d_273_1174 : decode (cM 273) 1174 = .ok (.iadd, 1) := by decide +kernel
theorem d_273_1175 : decode (cM 273) 1175 = .ok (.iaload, 1) := by decide +kernel
theorem d_273_1176 : decode (cM 273) 1176 = .ok (.ifCond .eq 7, 3) := by decide +kernel
theorem d_273_1179 : decode (cM 273) 1179 = .ok (.iconst 1, 1) := by decide +kernel
theorem d_273_1180 : decode (cM 273) 1180 = .ok (.goto 4, 3) := by decide +kernel
theorem d_273_1183 : decode (cM 273) 1183 = .ok (.iconst 0, 1) := by decide +kernel
theorem d_273_1184 : decode (cM 273) 1184 = .ok (.invokevirtual 155, 3) := by decide +kernel
theorem kc_273_1184 : callT (oM 273) 155 = some (0, 254, 3) ∧ fok 273 254 = true ∧ stM 254 = false := by decide +kernel
theorem d_273_1187 : decode (cM 273) 1187 = .ok (.if_icmp .eq 268, 3) := by decide +kernel
theorem d_273_1190 : decode (cM 273) 1190 = .ok (.iconst 0, 1) := by decide +kernel
theorem d_273_1191 : decode (cM 273) 1191 = .ok (.ireturn, 1) := by decide +kernel
theorem d_273_1192 : decode (cM 273) 1192 = .ok (.aload_n 1, 1) := by decide +kernel
theorem d_273_1193 : decode (cM 273) 1193 = .ok (.aload_n 0, 1) := by decide +kernel
theorem d_273_1194 : decode (cM 273) 1194 = .ok (.iload 4, 2) := by decide +kernel
theorem d_273_1196 : decode (cM 273) 1196 = .ok (.iconst 1, 1) := by decide +kernel
theorem d_273_1197 : decode (cM 273) 1197 = .ok (.iadd, 1) := by decide +kernel
theorem d_273_1198 : decode (cM 273) 1198 = .ok (.iaload, 1) := by decide +kernel
theorem d_273_1199 : decode (cM 273) 1199 = .ok (.invokevirtual 156, 3) := by decide +kernel
theorem kc_273_1199 : callT (oM 273) 156 = some (0, 131, 1) ∧ fok 273 131 = true ∧ stM 131 = false := by decide +kernel
theorem d_273_1202 : decode (cM 273) 1202 = .ok (.aload_n 2, 1) := by decide +kernel
theorem d_273_1203 : decode (cM 273) 1203 = .ok (.aload_n 0, 1) := by decide +kernel
theorem d_273_1204 : decode (cM 273) 1204 = .ok (.iload 4, 2) := by decide +kernel
theorem d_273_1206 : decode (cM 273) 1206 = .ok (.iconst 1, 1) := by decide +kernel
theorem d_273_1207 : decode (cM 273) 1207 = .ok (.iadd, 1) := by decide +kernel
theorem d_273_1208 : decode (cM 273) 1208 = .ok (.iaload, 1) := by decide +kernel
theorem d_273_1209 : decode (cM 273) 1209 = .ok (.invokevirtual 159, 3) := by decide +kernel
theorem kc_273_1209 : callT (oM 273) 159 = some (0, 255, 1) ∧ fok 273 255 = true ∧ stM 255 = false := by decide +kernel
theorem d_273_1212 : decode (cM 273) 1212 = .ok (.if_icmp .eq 243, 3) := by decide +kernel
theorem d_273_1215 : decode (cM 273) 1215 = .ok (.iconst 0, 1) := by decide +kernel
theorem d_273_1216 : decode (cM 273) 1216 = .ok (.ireturn, 1) := by decide +kernel
theorem d_273_1217 : decode (cM 273) 1217 = .ok (.aload_n 1, 1) := by decide +kernel
theorem d_273_1218 : decode (cM 273) 1218 = .ok (.aload_n 0, 1) := by decide +kernel
theorem d_273_1219 : decode (cM 273) 1219 = .ok (.iload 4, 2) := by decide +kernel
theorem d_273_1221 : decode (cM 273) 1221 = .ok (.iconst 1, 1) := by decide +kernel
theorem d_273_1222 : decode (cM 273) 1222 = .ok (.iadd, 1) := by decide +kernel
theorem d_273_1223 : decode (cM 273) 1223 = .ok (.iaload, 1) := by decide +kernel
theorem d_273_1224 : decode (cM 273) 1224 = .ok (.invokevirtual 160, 3) := by decide +kernel
theorem kc_273_1224 : callT (oM 273) 160 = some (0, 132, 1) ∧ fok 273 132 = true ∧ stM 132 = false := by decide +kernel
theorem d_273_1227 : decode (cM 273) 1227 = .ok (.aload_n 2, 1) := by decide +kernel
theorem d_273_1228 : decode (cM 273) 1228 = .ok (.aload_n 0, 1) := by decide +kernel
theorem d_273_1229 : decode (cM 273) 1229 = .ok (.iload 4, 2) := by decide +kernel
theorem d_273_1231 : decode (cM 273) 1231 = .ok (.iconst 1, 1) := by decide +kernel
theorem d_273_1232 : decode (cM 273) 1232 = .ok (.iadd, 1) := by decide +kernel
theorem d_273_1233 : decode (cM 273) 1233 = .ok (.iaload, 1) := by decide +kernel
theorem d_273_1234 : decode (cM 273) 1234 = .ok (.invokevirtual 164, 3) := by decide +kernel
theorem kc_273_1234 : callT (oM 273) 164 = some (0, 256, 1) ∧ fok 273 256 = true ∧ stM 256 = false := by decide +kernel
theorem d_273_1237 : decode (cM 273) 1237 = .ok (.if_icmp .eq 218, 3) := by decide +kernel
theorem d_273_1240 : decode (cM 273) 1240 = .ok (.iconst 0, 1) := by decide +kernel
theorem d_273_1241 : decode (cM 273) 1241 = .ok (.ireturn, 1) := by decide +kernel
theorem d_273_1242 : decode (cM 273) 1242 = .ok (.aload_n 1, 1) := by decide +kernel
theorem d_273_1243 : decode (cM 273) 1243 = .ok (.invokevirtual 165, 3) := by decide +kernel
theorem kc_273_1243 : callT (oM 273) 165 = some (0, 133, 0) ∧ fok 273 133 = true ∧ stM 133 = false := by decide +kernel
theorem d_273_1246 : decode (cM 273) 1246 = .ok (.aload_n 2, 1) := by decide +kernel
theorem d_273_1247 : decode (cM 273) 1247 = .ok (.invokevirtual 168, 3) := by decide +kernel
theorem kc_273_1247 : callT (oM 273) 168 = some (0, 261, 0) ∧ fok 273 261 = true ∧ stM 261 = false := by decide +kernel
theorem d_273_1250 : decode (cM 273) 1250 = .ok (.if_icmp .eq 205, 3) := by decide +kernel
theorem d_273_1253 : decode (cM 273) 1253 = .ok (.iconst 0, 1) := by decide +kernel
theorem d_273_1254 : decode (cM 273) 1254 = .ok (.ireturn, 1) := by decide +kernel
theorem d_273_1255 : decode (cM 273) 1255 = .ok (.aload_n 1, 1) := by decide +kernel
theorem d_273_1256 : decode (cM 273) 1256 = .ok (.aload_n 0, 1) := by decide +kernel
theorem d_273_1257 : decode (cM 273) 1257 = .ok (.iload 4, 2) := by decide +kernel
theorem d_273_1259 : decode (cM 273) 1259 = .ok (.iconst 1, 1) := by decide +kernel
theorem d_273_1260 : decode (cM 273) 1260 = .ok (.iadd, 1) := by decide +kernel
theorem d_273_1261 : decode (cM 273) 1261 = .ok (.iaload, 1) := by decide +kernel
theorem d_273_1262 : decode (cM 273) 1262 = .ok (.invokevirtual 169, 3) := by decide +kernel
theorem kc_273_1262 : callT (oM 273) 169 = some (0, 134, 1) ∧ fok 273 134 = true ∧ stM 134 = false := by decide +kernel
theorem d_273_1265 : decode (cM 273) 1265 = .ok (.aload_n 2, 1) := by decide +kernel
theorem d_273_1266 : decode (cM 273) 1266 = .ok (.aload_n 0, 1) := by decide +kernel
theorem d_273_1267 : decode (cM 273) 1267 = .ok (.iload 4, 2) := by decide +kernel
theorem d_273_1269 : decode (cM 273) 1269 = .ok (.iconst 1, 1) := by decide +kernel
theorem d_273_1270 : decode (cM 273) 1270 = .ok (.iadd, 1) := by decide +kernel
theorem d_273_1271 : decode (cM 273) 1271 = .ok (.iaload, 1) := by decide +kernel
theorem d_273_1272 : decode (cM 273) 1272 = .ok (.invokevirtual 172, 3) := by decide +kernel
theorem kc_273_1272 : callT (oM 273) 172 = some (0, 262, 1) ∧ fok 273 262 = true ∧ stM 262 = false := by decide +kernel
theorem d_273_1275 : decode (cM 273) 1275 = .ok (.if_icmp .eq 180, 3) := by decide +kernel
theorem d_273_1278 : decode (cM 273) 1278 = .ok (.iconst 0, 1) := by decide +kernel
theorem d_273_1279 : decode (cM 273) 1279 = .ok (.ireturn, 1) := by decide +kernel
theorem d_273_1280 : decode (cM 273) 1280 = .ok (.aload_n 1, 1) := by decide +kernel
theorem d_273_1281 : decode (cM 273) 1281 = .ok (.invokevirtual 173, 3) := by decide +kernel
theorem kc_273_1281 : callT (oM 273) 173 = some (0, 135, 0) ∧ fok 273 135 = true ∧ stM 135 = false := by decide +kernel
theorem d_273_1284 : decode (cM 273) 1284 = .ok (.aload_n 2, 1) := by decide +kernel
theorem d_273_1285 : decode (cM 273) 1285 = .ok (.invokevirtual 176, 3) := by decide +kernel
theorem kc_273_1285 : callT (oM 273) 176 = some (0, 263, 0) ∧ fok 273 263 = true ∧ stM 263 = false := by decide +kernel
theorem d_273_1288 : decode (cM 273) 1288 = .ok (.if_icmp .eq 167, 3) := by decide +kernel
theorem d_273_1291 : decode (cM 273) 1291 = .ok (.iconst 0, 1) := by decide +kernel
theorem d_273_1292 : decode (cM 273) 1292 = .ok (.ireturn, 1) := by decide +kernel
theorem d_273_1293 : decode (cM 273) 1293 = .ok (.aload_n 1, 1) := by decide +kernel
theorem d_273_1294 : decode (cM 273) 1294 = .ok (.aload_n 0, 1) := by decide +kernel
theorem d_273_1295 : decode (cM 273) 1295 = .ok (.iload 4, 2) := by decide +kernel
theorem d_273_1297 : decode (cM 273) 1297 = .ok (.iconst 1, 1) := by decide +kernel
theorem d_273_1298 : decode (cM 273) 1298 = .ok (.iadd, 1) := by decide +kernel
theorem d_273_1299 : decode (cM 273) 1299 = .ok (.iaload, 1) := by decide +kernel
theorem d_273_1300 : decode (cM 273) 1300 = .ok (.aload_n 0, 1) := by decide +kernel
theorem d_273_1301 : decode (cM 273) 1301 = .ok (.iload 4, 2) := by decide +kernel
theorem d_273_1303 : decode (cM 273) 1303 = .ok (.iconst 2, 1) := by decide +kernel
theorem d_273_1304 : decode (cM 273) 1304 = .ok (.iadd, 1) := by decide +kernel
theorem d_273_1305 : decode (cM 273) 1305 = .ok (.iaload, 1) := by decide +kernel
theorem d_273_1306 : decode (cM 273) 1306 = .ok (.aload_n 0, 1) := by decide +kernel
theorem d_273_1307 : decode (cM 273) 1307 = .ok (.iload 4, 2) := by decide +kernel
theorem d_273_1309 : decode (cM 273) 1309 = .ok (.iconst 3, 1) := by decide +kernel
theorem d_273_1310 : decode (cM 273) 1310 = .ok (.iadd, 1) := by decide +kernel
theorem d_273_1311 : decode (cM 273) 1311 = .ok (.iaload, 1) := by decide +kernel
theorem d_273_1312 : decode (cM 273) 1312 = .ok (.invokevirtual 177, 3) := by decide +kernel
theorem kc_273_1312 : callT (oM 273) 177 = some (0, 136, 3) ∧ fok 273 136 = true ∧ stM 136 = false := by decide +kernel
theorem d_273_1315 : decode (cM 273) 1315 = .ok (.aload_n 2, 1) := by decide +kernel
theorem d_273_1316 : decode (cM 273) 1316 = .ok (.aload_n 0, 1) := by decide +kernel
theorem d_273_1317 : decode (cM 273) 1317 = .ok (.iload 4, 2) := by decide +kernel
theorem d_273_1319 : decode (cM 273) 1319 = .ok (.iconst 1, 1) := by decide +kernel
theorem d_273_1320 : decode (cM 273) 1320 = .ok (.iadd, 1) := by decide +kernel
theorem d_273_1321 : decode (cM 273) 1321 = .ok (.iaload, 1) := by decide +kernel
theorem d_273_1322 : decode (cM 273) 1322 = .ok (.aload_n 0, 1) := by decide +kernel
theorem d_273_1323 : decode (cM 273) 1323 = .ok (.iload 4, 2) := by decide +kernel
theorem d_273_1325 : decode (cM 273) 1325 = .ok (.iconst 2, 1) := by decide +kernel
theorem d_273_1326 : decode (cM 273) 1326 = .ok (.iadd, 1) := by decide +kernel
theorem d_273_1327 : decode (cM 273) 1327 = .ok (.iaload, 1) := by decide +kernel
theorem d_273_1328 : decode (cM 273) 1328 = .ok (.aload_n 0, 1) := by decide +kernel
theorem d_273_1329 : decode (cM 273) 1329 = .ok (.iload 4, 2) := by decide +kernel
theorem d_273_1331 : decode (cM 273) 1331 = .ok (.iconst 3, 1) := by decide +kernel
theorem d_273_1332 : decode (cM 273) 1332 = .ok (.iadd, 1) := by decide +kernel
theorem d_273_1333 : decode (cM 273) 1333 = .ok (.iaload, 1) := by decide +kernel
theorem d_273_1334 : decode (cM 273) 1334 = .ok (.invokevirtual 181, 3) := by decide +kernel
theorem kc_273_1334 : callT (oM 273) 181 = some (0, 264, 3) ∧ fok 273 264 = true ∧ stM 264 = false := by decide +kernel
theorem d_273_1337 : decode (cM 273) 1337 = .ok (.if_icmp .eq 118, 3) := by decide +kernel
theorem d_273_1340 : decode (cM 273) 1340 = .ok (.iconst 0, 1) := by decide +kernel
theorem d_273_1341 : decode (cM 273) 1341 = .ok (.ireturn, 1) := by decide +kernel
theorem d_273_1342 : decode (cM 273) 1342 = .ok (.aload_n 1, 1) := by decide +kernel
theorem d_273_1343 : decode (cM 273) 1343 = .ok (.aload_n 0, 1) := by decide +kernel
theorem d_273_1344 : decode (cM 273) 1344 = .ok (.iload 4, 2) := by decide +kernel
theorem d_273_1346 : decode (cM 273) 1346 = .ok (.iconst 1, 1) := by decide +kernel
theorem d_273_1347 : decode (cM 273) 1347 = .ok (.iadd, 1) := by decide +kernel
theorem d_273_1348 : decode (cM 273) 1348 = .ok (.iaload, 1) := by decide +kernel
theorem d_273_1349 : decode (cM 273) 1349 = .ok (.aload_n 0, 1) := by decide +kernel
theorem d_273_1350 : decode (cM 273) 1350 = .ok (.iload 4, 2) := by decide +kernel
theorem d_273_1352 : decode (cM 273) 1352 = .ok (.iconst 2, 1) := by decide +kernel
theorem d_273_1353 : decode (cM 273) 1353 = .ok (.iadd, 1) := by decide +kernel
theorem d_273_1354 : decode (cM 273) 1354 = .ok (.iaload, 1) := by decide +kernel
theorem d_273_1355 : decode (cM 273) 1355 = .ok (.aload_n 0, 1) := by decide +kernel
theorem d_273_1356 : decode (cM 273) 1356 = .ok (.iload 4, 2) := by decide +kernel
theorem d_273_1358 : decode (cM 273) 1358 = .ok (.iconst 3, 1) := by decide +kernel
theorem d_273_1359 : decode (cM 273) 1359 = .ok (.iadd, 1) := by decide +kernel
theorem d_273_1360 : decode (cM 273) 1360 = .ok (.iaload, 1) := by decide +kernel
theorem d_273_1361 : decode (cM 273) 1361 = .ok (.invokevirtual 182, 3) := by decide +kernel
theorem kc_273_1361 : callT (oM 273) 182 = some (0, 137, 3) ∧ fok 273 137 = true ∧ stM 137 = false := by decide +kernel
theorem d_273_1364 : decode (cM 273) 1364 = .ok (.aload_n 2, 1) := by decide +kernel
theorem d_273_1365 : decode (cM 273) 1365 = .ok (.aload_n 0, 1) := by decide +kernel
theorem d_273_1366 : decode (cM 273) 1366 = .ok (.iload 4, 2) := by decide +kernel
theorem d_273_1368 : decode (cM 273) 1368 = .ok (.iconst 1, 1) := by decide +kernel
theorem d_273_1369 : decode (cM 273) 1369 = .ok (.iadd, 1) := by decide +kernel
theorem d_273_1370 : decode (cM 273) 1370 = .ok (.iaload, 1) := by decide +kernel
theorem d_273_1371 : decode (cM 273) 1371 = .ok (.aload_n 0, 1) := by decide +kernel
theorem d_273_1372 : decode (cM 273) 1372 = .ok (.iload 4, 2) := by decide +kernel
theorem d_273_1374 : decode (cM 273) 1374 = .ok (.iconst 2, 1) := by decide +kernel
theorem d_273_1375 : decode (cM 273) 1375 = .ok (.iadd, 1) := by decide +kernel
theorem d_273_1376 : decode (cM 273) 1376 = .ok (.iaload, 1) := by decide +kernel
theorem d_273_1377 : decode (cM 273) 1377 = .ok (.aload_n 0, 1) := by decide +kernel
theorem d_273_1378 : decode (cM 273) 1378 = .ok (.iload 4, 2) := by decide +kernel
theorem d_273_1380 : decode (cM 273) 1380 = .ok (.iconst 3, 1) := by decide +kernel
theorem d_273_1381 : decode (cM 273) 1381 = .ok (.iadd, 1) := by decide +kernel
theorem d_273_1382 : decode (cM 273) 1382 = .ok (.iaload, 1) := by decide +kernel
theorem d_273_1383 : decode (cM 273) 1383 = .ok (.invokevirtual 185, 3) := by decide +kernel
theorem kc_273_1383 : callT (oM 273) 185 = some (0, 265, 3) ∧ fok 273 265 = true ∧ stM 265 = false := by decide +kernel
theorem d_273_1386 : decode (cM 273) 1386 = .ok (.if_icmp .eq 69, 3) := by decide +kernel
theorem d_273_1389 : decode (cM 273) 1389 = .ok (.iconst 0, 1) := by decide +kernel
theorem d_273_1390 : decode (cM 273) 1390 = .ok (.ireturn, 1) := by decide +kernel
theorem d_273_1391 : decode (cM 273) 1391 = .ok (.aload_n 1, 1) := by decide +kernel
theorem d_273_1392 : decode (cM 273) 1392 = .ok (.invokevirtual 186, 3) := by decide +kernel
theorem kc_273_1392 : callT (oM 273) 186 = some (0, 138, 0) ∧ fok 273 138 = true ∧ stM 138 = false := by decide +kernel
theorem d_273_1395 : decode (cM 273) 1395 = .ok (.aload_n 2, 1) := by decide +kernel
theorem d_273_1396 : decode (cM 273) 1396 = .ok (.invokevirtual 189, 3) := by decide +kernel
theorem kc_273_1396 : callT (oM 273) 189 = some (0, 269, 0) ∧ fok 273 269 = true ∧ stM 269 = false := by decide +kernel
theorem d_273_1399 : decode (cM 273) 1399 = .ok (.if_icmp .eq 56, 3) := by decide +kernel
theorem d_273_1402 : decode (cM 273) 1402 = .ok (.iconst 0, 1) := by decide +kernel
theorem d_273_1403 : decode (cM 273) 1403 = .ok (.ireturn, 1) := by decide +kernel
theorem d_273_1404 : decode (cM 273) 1404 = .ok (.aload_n 1, 1) := by decide +kernel
theorem d_273_1405 : decode (cM 273) 1405 = .ok (.invokevirtual 190, 3) := by decide +kernel
theorem kc_273_1405 : callT (oM 273) 190 = some (0, 139, 0) ∧ fok 273 139 = true ∧ stM 139 = false := by decide +kernel
theorem d_273_1408 : decode (cM 273) 1408 = .ok (.aload_n 2, 1) := by decide +kernel
theorem d_273_1409 : decode (cM 273) 1409 = .ok (.invokevirtual 193, 3) := by decide +kernel
theorem kc_273_1409 : callT (oM 273) 193 = some (0, 270, 0) ∧ fok 273 270 = true ∧ stM 270 = false := by decide +kernel
theorem d_273_1412 : decode (cM 273) 1412 = .ok (.if_icmp .eq 43, 3) := by decide +kernel
theorem d_273_1415 : decode (cM 273) 1415 = .ok (.iconst 0, 1) := by decide +kernel
theorem d_273_1416 : decode (cM 273) 1416 = .ok (.ireturn, 1) := by decide +kernel
theorem d_273_1417 : decode (cM 273) 1417 = .ok (.aload_n 1, 1) := by decide +kernel
theorem d_273_1418 : decode (cM 273) 1418 = .ok (.invokevirtual 194, 3) := by decide +kernel
theorem kc_273_1418 : callT (oM 273) 194 = some (0, 140, 0) ∧ fok 273 140 = true ∧ stM 140 = false := by decide +kernel
theorem d_273_1421 : decode (cM 273) 1421 = .ok (.aload_n 2, 1) := by decide +kernel
theorem d_273_1422 : decode (cM 273) 1422 = .ok (.invokevirtual 197, 3) := by decide +kernel
theorem kc_273_1422 : callT (oM 273) 197 = some (0, 271, 0) ∧ fok 273 271 = true ∧ stM 271 = false := by decide +kernel
theorem d_273_1425 : decode (cM 273) 1425 = .ok (.if_icmp .eq 30, 3) := by decide +kernel
theorem d_273_1428 : decode (cM 273) 1428 = .ok (.iconst 0, 1) := by decide +kernel
theorem d_273_1429 : decode (cM 273) 1429 = .ok (.ireturn, 1) := by decide +kernel
theorem d_273_1430 : decode (cM 273) 1430 = .ok (.aload_n 1, 1) := by decide +kernel
theorem d_273_1431 : decode (cM 273) 1431 = .ok (.aload_n 0, 1) := by decide +kernel
theorem d_273_1432 : decode (cM 273) 1432 = .ok (.iload 4, 2) := by decide +kernel
theorem d_273_1434 : decode (cM 273) 1434 = .ok (.iconst 1, 1) := by decide +kernel
theorem d_273_1435 : decode (cM 273) 1435 = .ok (.iadd, 1) := by decide +kernel
theorem d_273_1436 : decode (cM 273) 1436 = .ok (.iaload, 1) := by decide +kernel
theorem d_273_1437 : decode (cM 273) 1437 = .ok (.invokevirtual 198, 3) := by decide +kernel
theorem kc_273_1437 : callT (oM 273) 198 = some (0, 141, 1) ∧ fok 273 141 = true ∧ stM 141 = false := by decide +kernel
theorem d_273_1440 : decode (cM 273) 1440 = .ok (.aload_n 2, 1) := by decide +kernel
theorem d_273_1441 : decode (cM 273) 1441 = .ok (.aload_n 0, 1) := by decide +kernel
theorem d_273_1442 : decode (cM 273) 1442 = .ok (.iload 4, 2) := by decide +kernel
theorem d_273_1444 : decode (cM 273) 1444 = .ok (.iconst 1, 1) := by decide +kernel
theorem d_273_1445 : decode (cM 273) 1445 = .ok (.iadd, 1) := by decide +kernel
theorem d_273_1446 : decode (cM 273) 1446 = .ok (.iaload, 1) := by decide +kernel
theorem d_273_1447 : decode (cM 273) 1447 = .ok (.invokevirtual 201, 3) := by decide +kernel
theorem kc_273_1447 : callT (oM 273) 201 = some (0, 272, 1) ∧ fok 273 272 = true ∧ stM 272 = false := by decide +kernel
theorem d_273_1450 : decode (cM 273) 1450 = .ok (.if_icmp .eq 5, 3) := by decide +kernel
theorem d_273_1453 : decode (cM 273) 1453 = .ok (.iconst 0, 1) := by decide +kernel
theorem d_273_1454 : decode (cM 273) 1454 = .ok (.ireturn, 1) := by decide +kernel
theorem d_273_1455 : decode (cM 273) 1455 = .ok (.iinc 4 6, 3) := by decide +kernel
theorem d_273_1458 : decode (cM 273) 1458 = .ok (.goto (-1435), 3) := by decide +kernel
theorem d_273_1461 : decode (cM 273) 1461 = .ok (.iconst 1, 1) := by decide +kernel
theorem d_273_1462 : decode (cM 273) 1462 = .ok (.ireturn, 1) := by decide +kernel
