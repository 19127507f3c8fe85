theorem d_Law_law_239 : decode code 239 = .ok (.iadd, 1) := by decide +kernel
theorem d_Law_law_240 : decode code 240 = .ok (.iaload, 1) := by decide +kernel
theorem d_Law_law_241 : decode code 241 = .ok (.aload_n 0, 1) := by decide +kernel
theorem d_Law_law_242 : decode code 242 = .ok (.iload_n 3, 1) := by decide +kernel
theorem d_Law_law_243 : decode code 243 = .ok (.iconst 2, 1) := by decide +kernel
theorem d_Law_law_244 : decode code 244 = .ok (.iadd, 1) := by decide +kernel
theorem d_Law_law_245 : decode code 245 = .ok (.iaload, 1) := by decide +kernel
theorem d_Law_law_246 : decode code 246 = .ok (.invokevirtual 39, 3) := by decide +kernel
theorem d_Law_law_249 : decode code 249 = .ok (.aload_n 2, 1) := by decide +kernel
theorem d_Law_law_250 : decode code 250 = .ok (.aload_n 0, 1) := by decide +kernel
theorem d_Law_law_251 : decode code 251 = .ok (.iload_n 3, 1) := by decide +kernel
theorem d_Law_law_252 : decode code 252 = .ok (.iconst 1, 1) := by decide +kernel
theorem d_Law_law_253 : decode code 253 = .ok (.iadd, 1) := by decide +kernel
theorem d_Law_law_254 : decode code 254 = .ok (.iaload, 1) := by decide +kernel
theorem d_Law_law_255 : decode code 255 = .ok (.aload_n 0, 1) := by decide +kernel
theorem d_Law_law_256 : decode code 256 = .ok (.iload_n 3, 1) := by decide +kernel
theorem d_Law_law_257 : decode code 257 = .ok (.iconst 2, 1) := by decide +kernel
theorem d_Law_law_258 : decode code 258 = .ok (.iadd, 1) := by decide +kernel
theorem d_Law_law_259 : decode code 259 = .ok (.iaload, 1) := by decide +kernel
theorem d_Law_law_260 : decode code 260 = .ok (.invokevirtual 42, 3) := by decide +kernel
theorem d_Law_law_263 : decode code 263 = .ok (.if_icmp .eq 170, 3) := by decide +kernel
theorem d_Law_law_266 : decode code 266 = .ok (.iconst 0, 1) := by decide +kernel
theorem d_Law_law_267 : decode code 267 = .ok (.ireturn, 1) := by decide +kernel
theorem d_Law_law_268 : decode code 268 = .ok (.aload_n 1, 1) := by decide +kernel
theorem d_Law_law_269 : decode code 269 = .ok (.aload_n 0, 1) := by decide +kernel
theorem d_Law_law_270 : decode code 270 = .ok (.iload_n 3, 1) := by decide +kernel
theorem d_Law_law_271 : decode code 271 = .ok (.iconst 1, 1) := by decide +kernel
theorem d_Law_law_272 : decode code 272 = .ok (.iadd, 1) := by decide +kernel
theorem d_Law_law_273 : decode code 273 = .ok (.iaload, 1) := by decide +kernel
theorem d_Law_law_274 : decode code 274 = .ok (.aload_n 0, 1) := by decide +kernel
theorem d_Law_law_275 : decode code 275 = .ok (.iload_n 3, 1) := by decide +kernel
theorem d_Law_law_276 : decode code 276 = .ok (.iconst 2, 1) := by decide +kernel
theorem d_Law_law_277 : decode code 277 = .ok (.iadd, 1) := by decide +kernel
theorem d_Law_law_278 : decode code 278 = .ok (.iaload, 1) := by decide +kernel
theorem d_Law_law_279 : decode code 279 = .ok (.invokevirtual 43, 3) := by decide +kernel
theorem d_Law_law_282 : decode code 282 = .ok (.aload_n 2, 1) := by decide +kernel
theorem d_Law_law_283 : decode code 283 = .ok (.aload_n 0, 1) := by decide +kernel
theorem d_Law_law_284 : decode code 284 = .ok (.iload_n 3, 1) := by decide +kernel
theorem d_Law_law_285 : decode code 285 = .ok (.iconst 1, 1) := by decide +kernel
theorem d_Law_law_286 : decode code 286 = .ok (.iadd, 1) := by decide +kernel
theorem d_Law_law_287 : decode code 287 = .ok (.iaload, 1) := by decide +kernel
theorem d_Law_law_288 : decode code 288 = .ok (.aload_n 0, 1) := by decide +kernel
theorem d_Law_law_289 : decode code 289 = .ok (.iload_n 3, 1) := by decide +kernel
theorem d_Law_law_290 : decode code 290 = .ok (.iconst 2, 1) := by decide +kernel
theorem d_Law_law_291 : decode code 291 = .ok (.iadd, 1) := by decide +kernel
theorem d_Law_law_292 : decode code 292 = .ok (.iaload, 1) := by decide +kernel
theorem d_Law_law_293 : decode code 293 = .ok (.invokevirtual 46, 3) := by decide +kernel
theorem d_Law_law_296 : decode code 296 = .ok (.if_icmp .eq 137, 3) := by decide +kernel
theorem d_Law_law_299 : decode code 299 = .ok (.iconst 0, 1) := by decide +kernel
theorem d_Law_law_300 : decode code 300 = .ok (.ireturn, 1) := by decide +kernel
theorem d_Law_law_301 : decode code 301 = .ok (.aload_n 1, 1) := by decide +kernel
theorem d_Law_law_302 : decode code 302 = .ok (.aload_n 0, 1) := by decide +kernel
theorem d_Law_law_303 : decode code 303 = .ok (.iload_n 3, 1) := by decide +kernel
theorem d_Law_law_304 : decode code 304 = .ok (.iconst 1, 1) := by decide +kernel
theorem d_Law_law_305 : decode code 305 = .ok (.iadd, 1) := by decide +kernel
theorem d_Law_law_306 : decode code 306 = .ok (.iaload, 1) := by decide +kernel
theorem d_Law_law_307 : decode code 307 = .ok (.aload_n 0, 1) := by decide +kernel
theorem d_Law_law_308 : decode code 308 = .ok (.iload_n 3, 1) := by decide +kernel
theorem d_Law_law_309 : decode code 309 = .ok (.iconst 2, 1) := by decide +kernel
theorem d_Law_law_310 : decode code 310 = .ok (.iadd, 1) := by decide +kernel
theorem d_Law_law_311 : decode code 311 = .ok (.iaload, 1) := by decide +kernel
theorem d_Law_law_312 : decode code 312 = .ok (.invokevirtual 47, 3) := by decide +kernel
theorem d_Law_law_315 : decode code 315 = .ok (.aload_n 2, 1) := by decide +kernel
theorem d_Law_law_316 : decode code 316 = .ok (.aload_n 0, 1) := by decide +kernel
theorem d_Law_law_317 : decode code 317 = .ok (.iload_n 3, 1) := by decide +kernel
theorem d_Law_law_318 : decode code 318 = .ok (.iconst 1, 1) := by decide +kernel
theorem d_Law_law_319 : decode code 319 = .ok (.iadd, 1) := by decide +kernel
theorem d_Law_law_320 : decode code 320 = .ok (.iaload, 1) := by decide +kernel
theorem d_Law_law_321 : decode code 321 = .ok (.aload_n 0, 1) := by decide +kernel
theorem d_Law_law_322 : decode code 322 = .ok (.iload_n 3, 1) := by decide +kernel
theorem d_Law_law_323 : decode code 323 = .ok (.iconst 2, 1) := by decide +kernel
theorem d_Law_law_324 : decode code 324 = .ok (.iadd, 1) := by decide +kernel
theorem d_Law_law_325 : decode code 325 = .ok (.iaload, 1) := by decide +kernel
theorem d_Law_law_326 : decode code 326 = .ok (.invokevirtual 50, 3) := by decide +kernel
theorem d_Law_law_329 : decode code 329 = .ok (.if_icmp .eq 104, 3) := by decide +kernel
theorem d_Law_law_332 : decode code 332 = .ok (.iconst 0, 1) := by decide +kernel
theorem d_Law_law_333 : decode code 333 = .ok (.ireturn, 1) := by decide +kernel
theorem d_Law_law_334 : decode code 334 = .ok (.aload_n 1, 1) := by decide +kernel
theorem d_Law_law_335 : decode code 335 = .ok (.aload_n 0, 1) := by decide +kernel
theorem d_Law_law_336 : decode code 336 = .ok (.iload_n 3, 1) := by decide +kernel
theorem d_Law_law_337 : decode code 337 = .ok (.iconst 1, 1) := by decide +kernel
theorem d_Law_law_338 : decode code 338 = .ok (.iadd, 1) := by decide +kernel
theorem d_Law_law_339 : decode code 339 = .ok (.iaload, 1) := by decide +kernel
theorem d_Law_law_340 : decode code 340 = .ok (.aload_n 0, 1) := by decide +kernel
theorem d_Law_law_341 : decode code 341 = .ok (.iload_n 3, 1) := by decide +kernel
theorem d_Law_law_342 : decode code 342 = .ok (.iconst 2, 1) := by decide +kernel
theorem d_Law_law_343 : decode code 343 = .ok (.iadd, 1) := by decide +kernel
theorem d_Law_law_344 : decode code 344 = .ok (.iaload, 1) := by decide +kernel
theorem d_Law_law_345 : decode code 345 = .ok (.invokevirtual 51, 3) := by decide +kernel
theorem d_Law_law_348 : decode code 348 = .ok (.aload_n 2, 1) := by decide +kernel
theorem d_Law_law_349 : decode code 349 = .ok (.aload_n 0, 1) := by decide +kernel
theorem d_Law_law_350 : decode code 350 = .ok (.iload_n 3, 1) := by decide +kernel
theorem d_Law_law_351 : decode code 351 = .ok (.iconst 1, 1) := by decide +kernel
theorem d_Law_law_352 : decode code 352 = .ok (.iadd, 1) := by decide +kernel
theorem d_Law_law_353 : decode code 353 = .ok (.iaload, 1) := by decide +kernel
theorem d_Law_law_354 : decode code 354 = .ok (.aload_n 0, 1) := by decide +kernel
theorem d_Law_law_355 : decode code 355 = .ok (.iload_n 3, 1) := by decide +kernel
theorem d_Law_law_356 : decode code 356 = .ok (.iconst 2, 1) := by decide +kernel
theorem d_Law_law_357 : decode code 357 = .ok (.iadd, 1) := by decide +kernel
theorem d_Law_law_358 : decode code 358 = .ok (.iaload, 1) := by decide +kernel
theorem d_Law_law_359 : decode code 359 = .ok (.invokevirtual 54, 3) := by decide +kernel
theorem d_Law_law_362 : decode code 362 = .ok (.if_icmp .eq 71, 3) := by decide +kernel
theorem d_Law_law_365 : decode code 365 = .ok (.iconst 0, 1) := by decide +kernel
theorem d_Law_law_366 : decode code 366 = .ok (.ireturn, 1) := by decide +kernel
theorem d_Law_law_367 : decode code 367 = .ok (.aload_n 1, 1) := by decide +kernel
theorem d_Law_law_368 : decode code 368 = .ok (.aload_n 0, 1) := by decide +kernel
theorem d_Law_law_369 : decode code 369 = .ok (.iload_n 3, 1) := by decide +kernel
theorem d_Law_law_370 : decode code 370 = .ok (.iconst 1, 1) := by decide +kernel
theorem d_Law_law_371 : decode code 371 = .ok (.iadd, 1) := by decide +kernel
theorem d_Law_law_372 : decode code 372 = .ok (.iaload, 1) := by decide +kernel
theorem d_Law_law_373 : decode code 373 = .ok (.aload_n 0, 1) := by decide +kernel
theorem d_Law_law_374 : decode code 374 = .ok (.iload_n 3, 1) := by decide +kernel
theorem d_Law_law_375 : decode code 375 = .ok (.iconst 2, 1) := by decide +kernel
theorem d_Law_law_376 : decode code 376 = .ok (.iadd, 1) := by decide +kernel
theorem d_Law_law_377 : decode code 377 = .ok (.iaload, 1) := by decide +kernel
theorem d_Law_law_378 : decode code 378 = .ok (.aload_n 0, 1) := by decide +kernel
theorem d_Law_law_379 : decode code 379 = .ok (.iload_n 3, 1) := by decide +kernel
theorem d_Law_law_380 : decode code 380 = .ok (.iconst 3, 1) := by decide +kernel
theorem d_Law_law_381 : decode code 381 = .ok (.iadd, 1) := by decide +kernel
theorem d_Law_law_382 : decode code 382 = .ok (.iaload, 1) := by decide +kernel
theorem d_Law_law_383 : decode code 383 = .ok (.invokevirtual 55, 3) := by decide +kernel
theorem d_Law_law_386 : decode code 386 = .ok (.aload_n 2, 1) := by decide +kernel
theorem d_Law_law_387 : decode code 387 = .ok (.aload_n 0, 1) := by decide +kernel
theorem d_Law_law_388 : decode code 388 = .ok (.iload_n 3, 1) := by decide +kernel
theorem d_Law_law_389 : decode code 389 = .ok (.iconst 1, 1) := by decide +kernel
theorem d_Law_law_390 : decode code 390 = .ok (.iadd, 1) := by decide +kernel
theorem d_Law_law_391 : decode code 391 = .ok (.iaload, 1) := by decide +kernel
theorem d_Law_law_392 : decode code 392 = .ok (.aload_n 0, 1) := by decide +kernel
theorem d_Law_law_393 : decode code 393 = .ok (.iload_n 3, 1) := by decide +kernel
theorem d_Law_law_394 : decode code 394 = .ok (.iconst 2, 1) := by decide +kernel
theorem d_Law_law_395 : decode code 395 = .ok (.iadd, 1) := by decide +kernel
theorem d_Law_law_396 : decode code 396 = .ok (.iaload, 1) := by decide +kernel
theorem d_Law_law_397 : decode code 397 = .ok (.aload_n 0, 1) := by decide +kernel
theorem d_Law_law_398 : decode code 398 = .ok (.iload_n 3, 1) := by decide +kernel
theorem d_Law_law_399 : decode code 399 = .ok (.iconst 3, 1) := by decide +kernel
theorem d_Law_law_400 : decode code 400 = .ok (.iadd, 1) := by decide +kernel
theorem d_Law_law_401 : decode code 401 = .ok (.iaload, 1) := by decide +kernel
theorem d_Law_law_402 : decode code 402 = .ok (.invokevirtual 59, 3) := by decide +kernel
theorem d_Law_law_405 : decode code 405 = .ok (.if_icmp .eq 28, 3) := by decide +kernel
theorem d_Law_law_408 : decode code 408 = .ok (.iconst 0, 1) := by decide +kernel
theorem d_Law_law_409 : decode code 409 = .ok (.ireturn, 1) := by decide +kernel
theorem d_Law_law_410 : decode code 410 = .ok (.aload_n 1, 1) := by decide +kernel
theorem d_Law_law_411 : decode code 411 = .ok (.aload_n 0, 1) := by decide +kernel
theorem d_Law_law_412 : decode code 412 = .ok (.iload_n 3, 1) := by decide +kernel
theorem d_Law_law_413 : decode code 413 = .ok (.iconst 1, 1) := by decide +kernel
theorem d_Law_law_414 : decode code 414 = .ok (.iadd, 1) := by decide +kernel
theorem d_Law_law_415 : decode code 415 = .ok (.iaload, 1) := by decide +kernel
theorem d_Law_law_416 : decode code 416 = .ok (.invokevirtual 60, 3) := by decide +kernel
theorem d_Law_law_419 : decode code 419 = .ok (.aload_n 2, 1) := by decide +kernel
theorem d_Law_law_420 : decode code 420 = .ok (.aload_n 0, 1) := by decide +kernel
theorem d_Law_law_421 : decode code 421 = .ok (.iload_n 3, 1) := by decide +kernel
theorem d_Law_law_422 : decode code 422 = .ok (.iconst 1, 1) := by decide +kernel
theorem d_Law_law_423 : decode code 423 = .ok (.iadd, 1) := by decide +kernel
theorem d_Law_law_424 : decode code 424 = .ok (.iaload, 1) := by decide +kernel
theorem d_Law_law_425 : decode code 425 = .ok (.invokevirtual 63, 3) := by decide +kernel
theorem d_Law_law_428 : decode code 428 = .ok (.if_icmp .eq 5, 3) := by decide +kernel
theorem d_Law_law_431 : decode code 431 = .ok (.iconst 0, 1) := by decide +kernel
theorem d_Law_law_432 : decode code 432 = .ok (.ireturn, 1) := by decide +kernel
theorem d_Law_law_433 : decode code 433 = .ok (.iinc 3 4, 3) := by decide +kernel
theorem d_Law_law_436 : decode code 436 = .ok (.goto (-418), 3) := by decide +kernel
theorem d_Law_law_439 : decode code 439 = .ok (.iconst 1, 1) := by decide +kernel
theorem d_Law_law_440 : decode code 440 = .ok (.ireturn, 1) := by decide +kernel
