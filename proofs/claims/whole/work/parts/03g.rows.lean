theorem dX12_copy_182 : decode cX12_copy 182 = .ok (.aload_n 0, 1) := by decide +kernel
theorem dX12_copy_183 : decode cX12_copy 183 = .ok (.getfield 49, 3) := by decide +kernel
theorem dX12_copy_186 : decode cX12_copy 186 = .ok (.bipush 14, 2) := by decide +kernel
theorem dX12_copy_188 : decode cX12_copy 188 = .ok (.iload_n 2, 1) := by decide +kernel
theorem dX12_copy_189 : decode cX12_copy 189 = .ok (.imul, 1) := by decide +kernel
theorem dX12_copy_190 : decode cX12_copy 190 = .ok (.iload_n 3, 1) := by decide +kernel
theorem dX12_copy_191 : decode cX12_copy 191 = .ok (.iadd, 1) := by decide +kernel
theorem dX12_copy_192 : decode cX12_copy 192 = .ok (.aload_n 0, 1) := by decide +kernel
theorem dX12_copy_193 : decode cX12_copy 193 = .ok (.getfield 49, 3) := by decide +kernel
theorem dX12_copy_196 : decode cX12_copy 196 = .ok (.bipush 14, 2) := by decide +kernel
theorem dX12_copy_198 : decode cX12_copy 198 = .ok (.iload_n 1, 1) := by decide +kernel
theorem dX12_copy_199 : decode cX12_copy 199 = .ok (.imul, 1) := by decide +kernel
theorem dX12_copy_200 : decode cX12_copy 200 = .ok (.iload_n 3, 1) := by decide +kernel
theorem dX12_copy_201 : decode cX12_copy 201 = .ok (.iadd, 1) := by decide +kernel
theorem dX12_copy_202 : decode cX12_copy 202 = .ok (.iaload, 1) := by decide +kernel
theorem dX12_copy_203 : decode cX12_copy 203 = .ok (.iastore, 1) := by decide +kernel
theorem dX12_copy_204 : decode cX12_copy 204 = .ok (.aload_n 0, 1) := by decide +kernel
theorem dX12_copy_205 : decode cX12_copy 205 = .ok (.getfield 52, 3) := by decide +kernel
theorem dX12_copy_208 : decode cX12_copy 208 = .ok (.bipush 14, 2) := by decide +kernel
theorem dX12_copy_210 : decode cX12_copy 210 = .ok (.iload_n 2, 1) := by decide +kernel
theorem dX12_copy_211 : decode cX12_copy 211 = .ok (.imul, 1) := by decide +kernel
theorem dX12_copy_212 : decode cX12_copy 212 = .ok (.iload_n 3, 1) := by decide +kernel
theorem dX12_copy_213 : decode cX12_copy 213 = .ok (.iadd, 1) := by decide +kernel
theorem dX12_copy_214 : decode cX12_copy 214 = .ok (.aload_n 0, 1) := by decide +kernel
theorem dX12_copy_215 : decode cX12_copy 215 = .ok (.getfield 52, 3) := by decide +kernel
theorem dX12_copy_218 : decode cX12_copy 218 = .ok (.bipush 14, 2) := by decide +kernel
theorem dX12_copy_220 : decode cX12_copy 220 = .ok (.iload_n 1, 1) := by decide +kernel
theorem dX12_copy_221 : decode cX12_copy 221 = .ok (.imul, 1) := by decide +kernel
theorem dX12_copy_222 : decode cX12_copy 222 = .ok (.iload_n 3, 1) := by decide +kernel
theorem dX12_copy_223 : decode cX12_copy 223 = .ok (.iadd, 1) := by decide +kernel
theorem dX12_copy_224 : decode cX12_copy 224 = .ok (.iaload, 1) := by decide +kernel
theorem dX12_copy_225 : decode cX12_copy 225 = .ok (.iastore, 1) := by decide +kernel
theorem dX12_copy_226 : decode cX12_copy 226 = .ok (.iinc 3 1, 3) := by decide +kernel
theorem dX12_copy_229 : decode cX12_copy 229 = .ok (.goto (-119), 3) := by decide +kernel
theorem dX12_copy_232 : decode cX12_copy 232 = .ok (.iconst 0, 1) := by decide +kernel
theorem dX12_copy_233 : decode cX12_copy 233 = .ok (.istore_n 3, 1) := by decide +kernel
theorem dX12_copy_234 : decode cX12_copy 234 = .ok (.iload_n 3, 1) := by decide +kernel
theorem dX12_copy_235 : decode cX12_copy 235 = .ok (.bipush 8, 2) := by decide +kernel
theorem dX12_copy_237 : decode cX12_copy 237 = .ok (.if_icmp .ge 53, 3) := by decide +kernel
theorem dX12_copy_240 : decode cX12_copy 240 = .ok (.aload_n 0, 1) := by decide +kernel
theorem dX12_copy_241 : decode cX12_copy 241 = .ok (.getfield 58, 3) := by decide +kernel
theorem dX12_copy_244 : decode cX12_copy 244 = .ok (.bipush 8, 2) := by decide +kernel
theorem dX12_copy_246 : decode cX12_copy 246 = .ok (.iload_n 2, 1) := by decide +kernel
theorem dX12_copy_247 : decode cX12_copy 247 = .ok (.imul, 1) := by decide +kernel
theorem dX12_copy_248 : decode cX12_copy 248 = .ok (.iload_n 3, 1) := by decide +kernel
theorem dX12_copy_249 : decode cX12_copy 249 = .ok (.iadd, 1) := by decide +kernel
theorem dX12_copy_250 : decode cX12_copy 250 = .ok (.aload_n 0, 1) := by decide +kernel
theorem dX12_copy_251 : decode cX12_copy 251 = .ok (.getfield 58, 3) := by decide +kernel
theorem dX12_copy_254 : decode cX12_copy 254 = .ok (.bipush 8, 2) := by decide +kernel
theorem dX12_copy_256 : decode cX12_copy 256 = .ok (.iload_n 1, 1) := by decide +kernel
theorem dX12_copy_257 : decode cX12_copy 257 = .ok (.imul, 1) := by decide +kernel
theorem dX12_copy_258 : decode cX12_copy 258 = .ok (.iload_n 3, 1) := by decide +kernel
theorem dX12_copy_259 : decode cX12_copy 259 = .ok (.iadd, 1) := by decide +kernel
theorem dX12_copy_260 : decode cX12_copy 260 = .ok (.iaload, 1) := by decide +kernel
theorem dX12_copy_261 : decode cX12_copy 261 = .ok (.iastore, 1) := by decide +kernel
theorem dX12_copy_262 : decode cX12_copy 262 = .ok (.aload_n 0, 1) := by decide +kernel
theorem dX12_copy_263 : decode cX12_copy 263 = .ok (.getfield 61, 3) := by decide +kernel
theorem dX12_copy_266 : decode cX12_copy 266 = .ok (.bipush 8, 2) := by decide +kernel
theorem dX12_copy_268 : decode cX12_copy 268 = .ok (.iload_n 2, 1) := by decide +kernel
theorem dX12_copy_269 : decode cX12_copy 269 = .ok (.imul, 1) := by decide +kernel
theorem dX12_copy_270 : decode cX12_copy 270 = .ok (.iload_n 3, 1) := by decide +kernel
theorem dX12_copy_271 : decode cX12_copy 271 = .ok (.iadd, 1) := by decide +kernel
theorem dX12_copy_272 : decode cX12_copy 272 = .ok (.aload_n 0, 1) := by decide +kernel
theorem dX12_copy_273 : decode cX12_copy 273 = .ok (.getfield 61, 3) := by decide +kernel
theorem dX12_copy_276 : decode cX12_copy 276 = .ok (.bipush 8, 2) := by decide +kernel
theorem dX12_copy_278 : decode cX12_copy 278 = .ok (.iload_n 1, 1) := by decide +kernel
theorem dX12_copy_279 : decode cX12_copy 279 = .ok (.imul, 1) := by decide +kernel
theorem dX12_copy_280 : decode cX12_copy 280 = .ok (.iload_n 3, 1) := by decide +kernel
theorem dX12_copy_281 : decode cX12_copy 281 = .ok (.iadd, 1) := by decide +kernel
theorem dX12_copy_282 : decode cX12_copy 282 = .ok (.iaload, 1) := by decide +kernel
theorem dX12_copy_283 : decode cX12_copy 283 = .ok (.iastore, 1) := by decide +kernel
theorem dX12_copy_284 : decode cX12_copy 284 = .ok (.iinc 3 1, 3) := by decide +kernel
theorem dX12_copy_287 : decode cX12_copy 287 = .ok (.goto (-53), 3) := by decide +kernel
theorem dX12_copy_290 : decode cX12_copy 290 = .ok (.iconst 0, 1) := by decide +kernel
theorem dX12_copy_291 : decode cX12_copy 291 = .ok (.istore_n 3, 1) := by decide +kernel
theorem dX12_copy_292 : decode cX12_copy 292 = .ok (.iload_n 3, 1) := by decide +kernel
theorem dX12_copy_293 : decode cX12_copy 293 = .ok (.bipush 12, 2) := by decide +kernel
theorem dX12_copy_295 : decode cX12_copy 295 = .ok (.if_icmp .ge 75, 3) := by decide +kernel
theorem dX12_copy_298 : decode cX12_copy 298 = .ok (.aload_n 0, 1) := by decide +kernel
theorem dX12_copy_299 : decode cX12_copy 299 = .ok (.getfield 67, 3) := by decide +kernel
theorem dX12_copy_302 : decode cX12_copy 302 = .ok (.bipush 12, 2) := by decide +kernel
theorem dX12_copy_304 : decode cX12_copy 304 = .ok (.iload_n 2, 1) := by decide +kernel
theorem dX12_copy_305 : decode cX12_copy 305 = .ok (.imul, 1) := by decide +kernel
theorem dX12_copy_306 : decode cX12_copy 306 = .ok (.iload_n 3, 1) := by decide +kernel
theorem dX12_copy_307 : decode cX12_copy 307 = .ok (.iadd, 1) := by decide +kernel
theorem dX12_copy_308 : decode cX12_copy 308 = .ok (.aload_n 0, 1) := by decide +kernel
theorem dX12_copy_309 : decode cX12_copy 309 = .ok (.getfield 67, 3) := by decide +kernel
theorem dX12_copy_312 : decode cX12_copy 312 = .ok (.bipush 12, 2) := by decide +kernel
theorem dX12_copy_314 : decode cX12_copy 314 = .ok (.iload_n 1, 1) := by decide +kernel
theorem dX12_copy_315 : decode cX12_copy 315 = .ok (.imul, 1) := by decide +kernel
theorem dX12_copy_316 : decode cX12_copy 316 = .ok (.iload_n 3, 1) := by decide +kernel
theorem dX12_copy_317 : decode cX12_copy 317 = .ok (.iadd, 1) := by decide +kernel
theorem dX12_copy_318 : decode cX12_copy 318 = .ok (.iaload, 1) := by decide +kernel
theorem dX12_copy_319 : decode cX12_copy 319 = .ok (.iastore, 1) := by decide +kernel
theorem dX12_copy_320 : decode cX12_copy 320 = .ok (.aload_n 0, 1) := by decide +kernel
theorem dX12_copy_321 : decode cX12_copy 321 = .ok (.getfield 70, 3) := by decide +kernel
theorem dX12_copy_324 : decode cX12_copy 324 = .ok (.bipush 12, 2) := by decide +kernel
theorem dX12_copy_326 : decode cX12_copy 326 = .ok (.iload_n 2, 1) := by decide +kernel
theorem dX12_copy_327 : decode cX12_copy 327 = .ok (.imul, 1) := by decide +kernel
theorem dX12_copy_328 : decode cX12_copy 328 = .ok (.iload_n 3, 1) := by decide +kernel
theorem dX12_copy_329 : decode cX12_copy 329 = .ok (.iadd, 1) := by decide +kernel
theorem dX12_copy_330 : decode cX12_copy 330 = .ok (.aload_n 0, 1) := by decide +kernel
theorem dX12_copy_331 : decode cX12_copy 331 = .ok (.getfield 70, 3) := by decide +kernel
theorem dX12_copy_334 : decode cX12_copy 334 = .ok (.bipush 12, 2) := by decide +kernel
theorem dX12_copy_336 : decode cX12_copy 336 = .ok (.iload_n 1, 1) := by decide +kernel
theorem dX12_copy_337 : decode cX12_copy 337 = .ok (.imul, 1) := by decide +kernel
theorem dX12_copy_338 : decode cX12_copy 338 = .ok (.iload_n 3, 1) := by decide +kernel
theorem dX12_copy_339 : decode cX12_copy 339 = .ok (.iadd, 1) := by decide +kernel
theorem dX12_copy_340 : decode cX12_copy 340 = .ok (.iaload, 1) := by decide +kernel
theorem dX12_copy_341 : decode cX12_copy 341 = .ok (.iastore, 1) := by decide +kernel
theorem dX12_copy_342 : decode cX12_copy 342 = .ok (.aload_n 0, 1) := by decide +kernel
theorem dX12_copy_343 : decode cX12_copy 343 = .ok (.getfield 73, 3) := by decide +kernel
theorem dX12_copy_346 : decode cX12_copy 346 = .ok (.bipush 12, 2) := by decide +kernel
theorem dX12_copy_348 : decode cX12_copy 348 = .ok (.iload_n 2, 1) := by decide +kernel
theorem dX12_copy_349 : decode cX12_copy 349 = .ok (.imul, 1) := by decide +kernel
theorem dX12_copy_350 : decode cX12_copy 350 = .ok (.iload_n 3, 1) := by decide +kernel
theorem dX12_copy_351 : decode cX12_copy 351 = .ok (.iadd, 1) := by decide +kernel
theorem dX12_copy_352 : decode cX12_copy 352 = .ok (.aload_n 0, 1) := by decide +kernel
theorem dX12_copy_353 : decode cX12_copy 353 = .ok (.getfield 73, 3) := by decide +kernel
theorem dX12_copy_356 : decode cX12_copy 356 = .ok (.bipush 12, 2) := by decide +kernel
theorem dX12_copy_358 : decode cX12_copy 358 = .ok (.iload_n 1, 1) := by decide +kernel
theorem dX12_copy_359 : decode cX12_copy 359 = .ok (.imul, 1) := by decide +kernel
theorem dX12_copy_360 : decode cX12_copy 360 = .ok (.iload_n 3, 1) := by decide +kernel
theorem dX12_copy_361 : decode cX12_copy 361 = .ok (.iadd, 1) := by decide +kernel
theorem dX12_copy_362 : decode cX12_copy 362 = .ok (.iaload, 1) := by decide +kernel
theorem dX12_copy_363 : decode cX12_copy 363 = .ok (.iastore, 1) := by decide +kernel
theorem dX12_copy_364 : decode cX12_copy 364 = .ok (.iinc 3 1, 3) := by decide +kernel
theorem dX12_copy_367 : decode cX12_copy 367 = .ok (.goto (-75), 3) := by decide +kernel
theorem dX12_copy_370 : decode cX12_copy 370 = .ok (.iconst 0, 1) := by decide +kernel
theorem dX12_copy_371 : decode cX12_copy 371 = .ok (.istore_n 3, 1) := by decide +kernel
theorem dX12_copy_372 : decode cX12_copy 372 = .ok (.iload_n 3, 1) := by decide +kernel
theorem dX12_copy_373 : decode cX12_copy 373 = .ok (.iconst 5, 1) := by decide +kernel
theorem dX12_copy_374 : decode cX12_copy 374 = .ok (.if_icmp .ge 69, 3) := by decide +kernel
theorem dX12_copy_377 : decode cX12_copy 377 = .ok (.aload_n 0, 1) := by decide +kernel
theorem dX12_copy_378 : decode cX12_copy 378 = .ok (.getfield 79, 3) := by decide +kernel
theorem dX12_copy_381 : decode cX12_copy 381 = .ok (.iconst 5, 1) := by decide +kernel
theorem dX12_copy_382 : decode cX12_copy 382 = .ok (.iload_n 2, 1) := by decide +kernel
theorem dX12_copy_383 : decode cX12_copy 383 = .ok (.imul, 1) := by decide +kernel
theorem dX12_copy_384 : decode cX12_copy 384 = .ok (.iload_n 3, 1) := by decide +kernel
theorem dX12_copy_385 : decode cX12_copy 385 = .ok (.iadd, 1) := by decide +kernel
theorem dX12_copy_386 : decode cX12_copy 386 = .ok (.aload_n 0, 1) := by decide +kernel
theorem dX12_copy_387 : decode cX12_copy 387 = .ok (.getfield 79, 3) := by decide +kernel
theorem dX12_copy_390 : decode cX12_copy 390 = .ok (.iconst 5, 1) := by decide +kernel
theorem dX12_copy_391 : decode cX12_copy 391 = .ok (.iload_n 1, 1) := by decide +kernel
theorem dX12_copy_392 : decode cX12_copy 392 = .ok (.imul, 1) := by decide +kernel
theorem dX12_copy_393 : decode cX12_copy 393 = .ok (.iload_n 3, 1) := by decide +kernel
theorem dX12_copy_394 : decode cX12_copy 394 = .ok (.iadd, 1) := by decide +kernel
theorem dX12_copy_395 : decode cX12_copy 395 = .ok (.iaload, 1) := by decide +kernel
theorem dX12_copy_396 : decode cX12_copy 396 = .ok (.iastore, 1) := by decide +kernel
theorem dX12_copy_397 : decode cX12_copy 397 = .ok (.aload_n 0, 1) := by decide +kernel
theorem dX12_copy_398 : decode cX12_copy 398 = .ok (.getfield 82, 3) := by decide +kernel
theorem dX12_copy_401 : decode cX12_copy 401 = .ok (.iconst 5, 1) := by decide +kernel
theorem dX12_copy_402 : decode cX12_copy 402 = .ok (.iload_n 2, 1) := by decide +kernel
theorem dX12_copy_403 : decode cX12_copy 403 = .ok (.imul, 1) := by decide +kernel
theorem dX12_copy_404 : decode cX12_copy 404 = .ok (.iload_n 3, 1) := by decide +kernel
theorem dX12_copy_405 : decode cX12_copy 405 = .ok (.iadd, 1) := by decide +kernel
theorem dX12_copy_406 : decode cX12_copy 406 = .ok (.aload_n 0, 1) := by decide +kernel
theorem dX12_copy_407 : decode cX12_copy 407 = .ok (.getfield 82, 3) := by decide +kernel
theorem dX12_copy_410 : decode cX12_copy 410 = .ok (.iconst 5, 1) := by decide +kernel
theorem dX12_copy_411 : decode cX12_copy 411 = .ok (.iload_n 1, 1) := by decide +kernel
theorem dX12_copy_412 : decode cX12_copy 412 = .ok (.imul, 1) := by decide +kernel
theorem dX12_copy_413 : decode cX12_copy 413 = .ok (.iload_n 3, 1) := by decide +kernel
theorem dX12_copy_414 : decode cX12_copy 414 = .ok (.iadd, 1) := by decide +kernel
theorem dX12_copy_415 : decode cX12_copy 415 = .ok (.iaload, 1) := by decide +kernel
theorem dX12_copy_416 : decode cX12_copy 416 = .ok (.iastore, 1) := by decide +kernel
theorem dX12_copy_417 : decode cX12_copy 417 = .ok (.aload_n 0, 1) := by decide +kernel
theorem dX12_copy_418 : decode cX12_copy 418 = .ok (.getfield 85, 3) := by decide +kernel
theorem dX12_copy_421 : decode cX12_copy 421 = .ok (.iconst 5, 1) := by decide +kernel
theorem dX12_copy_422 : decode cX12_copy 422 = .ok (.iload_n 2, 1) := by decide +kernel
theorem dX12_copy_423 : decode cX12_copy 423 = .ok (.imul, 1) := by decide +kernel
theorem dX12_copy_424 : decode cX12_copy 424 = .ok (.iload_n 3, 1) := by decide +kernel
theorem dX12_copy_425 : decode cX12_copy 425 = .ok (.iadd, 1) := by decide +kernel
theorem dX12_copy_426 : decode cX12_copy 426 = .ok (.aload_n 0, 1) := by decide +kernel
theorem dX12_copy_427 : decode cX12_copy 427 = .ok (.getfield 85, 3) := by decide +kernel
theorem dX12_copy_430 : decode cX12_copy 430 = .ok (.iconst 5, 1) := by decide +kernel
theorem dX12_copy_431 : decode cX12_copy 431 = .ok (.iload_n 1, 1) := by decide +kernel
theorem dX12_copy_432 : decode cX12_copy 432 = .ok (.imul, 1) := by decide +kernel
theorem dX12_copy_433 : decode cX12_copy 433 = .ok (.iload_n 3, 1) := by decide +kernel
theorem dX12_copy_434 : decode cX12_copy 434 = .ok (.iadd, 1) := by decide +kernel
theorem dX12_copy_435 : decode cX12_copy 435 = .ok (.iaload, 1) := by decide +kernel
theorem dX12_copy_436 : decode cX12_copy 436 = .ok (.iastore, 1) := by decide +kernel
theorem dX12_copy_437 : decode cX12_copy 437 = .ok (.iinc 3 1, 3) := by decide +kernel
theorem dX12_copy_440 : decode cX12_copy 440 = .ok (.goto (-68), 3) := by decide +kernel
theorem dX12_copy_443 : decode cX12_copy 443 = .ok (.iconst 0, 1) := by decide +kernel
theorem dX12_copy_444 : decode cX12_copy 444 = .ok (.istore_n 3, 1) := by decide +kernel
theorem dX12_copy_445 : decode cX12_copy 445 = .ok (.iload_n 3, 1) := by decide +kernel
theorem dX12_copy_446 : decode cX12_copy 446 = .ok (.bipush 6, 2) := by decide +kernel
theorem dX12_copy_448 : decode cX12_copy 448 = .ok (.if_icmp .ge 53, 3) := by decide +kernel
theorem dX12_copy_451 : decode cX12_copy 451 = .ok (.aload_n 0, 1) := by decide +kernel
theorem dX12_copy_452 : decode cX12_copy 452 = .ok (.getfield 91, 3) := by decide +kernel
theorem dX12_copy_455 : decode cX12_copy 455 = .ok (.bipush 6, 2) := by decide +kernel
theorem dX12_copy_457 : decode cX12_copy 457 = .ok (.iload_n 2, 1) := by decide +kernel
theorem dX12_copy_458 : decode cX12_copy 458 = .ok (.imul, 1) := by decide +kernel
theorem dX12_copy_459 : decode cX12_copy 459 = .ok (.iload_n 3, 1) := by decide +kernel
theorem dX12_copy_460 : decode cX12_copy 460 = .ok (.iadd, 1) := by decide +kernel
theorem dX12_copy_461 : decode cX12_copy 461 = .ok (.aload_n 0, 1) := by decide +kernel
theorem dX12_copy_462 : decode cX12_copy 462 = .ok (.getfield 91, 3) := by decide +kernel
theorem dX12_copy_465 : decode cX12_copy 465 = .ok (.bipush 6, 2) := by decide +kernel
theorem dX12_copy_467 : decode cX12_copy 467 = .ok (.iload_n 1, 1) := by decide +kernel
theorem dX12_copy_468 : decode cX12_copy 468 = .ok (.imul, 1) := by decide +kernel
theorem dX12_copy_469 : decode cX12_copy 469 = .ok (.iload_n 3, 1) := by decide +kernel
theorem dX12_copy_470 : decode cX12_copy 470 = .ok (.iadd, 1) := by decide +kernel
theorem dX12_copy_471 : decode cX12_copy 471 = .ok (.iaload, 1) := by decide +kernel
theorem dX12_copy_472 : decode cX12_copy 472 = .ok (.iastore, 1) := by decide +kernel
theorem dX12_copy_473 : decode cX12_copy 473 = .ok (.aload_n 0, 1) := by decide +kernel
theorem dX12_copy_474 : decode cX12_copy 474 = .ok (.getfield 94, 3) := by decide +kernel
theorem dX12_copy_477 : decode cX12_copy 477 = .ok (.bipush 6, 2) := by decide +kernel
theorem dX12_copy_479 : decode cX12_copy 479 = .ok (.iload_n 2, 1) := by decide +kernel
theorem dX12_copy_480 : decode cX12_copy 480 = .ok (.imul, 1) := by decide +kernel
theorem dX12_copy_481 : decode cX12_copy 481 = .ok (.iload_n 3, 1) := by decide +kernel
theorem dX12_copy_482 : decode cX12_copy 482 = .ok (.iadd, 1) := by decide +kernel
theorem dX12_copy_483 : decode cX12_copy 483 = .ok (.aload_n 0, 1) := by decide +kernel
theorem dX12_copy_484 : decode cX12_copy 484 = .ok (.getfield 94, 3) := by decide +kernel
theorem dX12_copy_487 : decode cX12_copy 487 = .ok (.bipush 6, 2) := by decide +kernel
theorem dX12_copy_489 : decode cX12_copy 489 = .ok (.iload_n 1, 1) := by decide +kernel
theorem dX12_copy_490 : decode cX12_copy 490 = .ok (.imul, 1) := by decide +kernel
theorem dX12_copy_491 : decode cX12_copy 491 = .ok (.iload_n 3, 1) := by decide +kernel
theorem dX12_copy_492 : decode cX12_copy 492 = .ok (.iadd, 1) := by decide +kernel
theorem dX12_copy_493 : decode cX12_copy 493 = .ok (.iaload, 1) := by decide +kernel
theorem dX12_copy_494 : decode cX12_copy 494 = .ok (.iastore, 1) := by decide +kernel
theorem dX12_copy_495 : decode cX12_copy 495 = .ok (.iinc 3 1, 3) := by decide +kernel
theorem dX12_copy_498 : decode cX12_copy 498 = .ok (.goto (-53), 3) := by decide +kernel
theorem dX12_copy_501 : decode cX12_copy 501 = .ok (.iconst 0, 1) := by decide +kernel
theorem dX12_copy_502 : decode cX12_copy 502 = .ok (.istore_n 3, 1) := by decide +kernel
theorem dX12_copy_503 : decode cX12_copy 503 = .ok (.iload_n 3, 1) := by decide +kernel
theorem dX12_copy_504 : decode cX12_copy 504 = .ok (.sipush 500, 3) := by decide +kernel
theorem dX12_copy_507 : decode cX12_copy 507 = .ok (.if_icmp .ge 57, 3) := by decide +kernel
theorem dX12_copy_510 : decode cX12_copy 510 = .ok (.aload_n 0, 1) := by decide +kernel
theorem dX12_copy_511 : decode cX12_copy 511 = .ok (.getfield 100, 3) := by decide +kernel
theorem dX12_copy_514 : decode cX12_copy 514 = .ok (.sipush 500, 3) := by decide +kernel
theorem dX12_copy_517 : decode cX12_copy 517 = .ok (.iload_n 2, 1) := by decide +kernel
theorem dX12_copy_518 : decode cX12_copy 518 = .ok (.imul, 1) := by decide +kernel
theorem dX12_copy_519 : decode cX12_copy 519 = .ok (.iload_n 3, 1) := by decide +kernel
theorem dX12_copy_520 : decode cX12_copy 520 = .ok (.iadd, 1) := by decide +kernel
theorem dX12_copy_521 : decode cX12_copy 521 = .ok (.aload_n 0, 1) := by decide +kernel
theorem dX12_copy_522 : decode cX12_copy 522 = .ok (.getfield 100, 3) := by decide +kernel
theorem dX12_copy_525 : decode cX12_copy 525 = .ok (.sipush 500, 3) := by decide +kernel
theorem dX12_copy_528 : decode cX12_copy 528 = .ok (.iload_n 1, 1) := by decide +kernel
theorem dX12_copy_529 : decode cX12_copy 529 = .ok (.imul, 1) := by decide +kernel
theorem dX12_copy_530 : decode cX12_copy 530 = .ok (.iload_n 3, 1) := by decide +kernel
theorem dX12_copy_531 : decode cX12_copy 531 = .ok (.iadd, 1) := by decide +kernel
theorem dX12_copy_532 : decode cX12_copy 532 = .ok (.iaload, 1) := by decide +kernel
theorem dX12_copy_533 : decode cX12_copy 533 = .ok (.iastore, 1) := by decide +kernel
theorem dX12_copy_534 : decode cX12_copy 534 = .ok (.aload_n 0, 1) := by decide +kernel
theorem dX12_copy_535 : decode cX12_copy 535 = .ok (.getfield 103, 3) := by decide +kernel
theorem dX12_copy_538 : decode cX12_copy 538 = .ok (.sipush 500, 3) := by decide +kernel
theorem dX12_copy_541 : decode cX12_copy 541 = .ok (.iload_n 2, 1) := by decide +kernel
theorem dX12_copy_542 : decode cX12_copy 542 = .ok (.imul, 1) := by decide +kernel
theorem dX12_copy_543 : decode cX12_copy 543 = .ok (.iload_n 3, 1) := by decide +kernel
theorem dX12_copy_544 : decode cX12_copy 544 = .ok (.iadd, 1) := by decide +kernel
theorem dX12_copy_545 : decode cX12_copy 545 = .ok (.aload_n 0, 1) := by decide +kernel
theorem dX12_copy_546 : decode cX12_copy 546 = .ok (.getfield 103, 3) := by decide +kernel
theorem dX12_copy_549 : decode cX12_copy 549 = .ok (.sipush 500, 3) := by decide +kernel
theorem dX12_copy_552 : decode cX12_copy 552 = .ok (.iload_n 1, 1) := by decide +kernel
theorem dX12_copy_553 : decode cX12_copy 553 = .ok (.imul, 1) := by decide +kernel
theorem dX12_copy_554 : decode cX12_copy 554 = .ok (.iload_n 3, 1) := by decide +kernel
theorem dX12_copy_555 : decode cX12_copy 555 = .ok (.iadd, 1) := by decide +kernel
theorem dX12_copy_556 : decode cX12_copy 556 = .ok (.iaload, 1) := by decide +kernel
theorem dX12_copy_557 : decode cX12_copy 557 = .ok (.iastore, 1) := by decide +kernel
theorem dX12_copy_558 : decode cX12_copy 558 = .ok (.iinc 3 1, 3) := by decide +kernel
theorem dX12_copy_561 : decode cX12_copy 561 = .ok (.goto (-58), 3) := by decide +kernel
theorem dX12_copy_564 : decode cX12_copy 564 = .ok (.iconst 0, 1) := by decide +kernel
theorem dX12_copy_565 : decode cX12_copy 565 = .ok (.istore_n 3, 1) := by decide +kernel
theorem dX12_copy_566 : decode cX12_copy 566 = .ok (.iload_n 3, 1) := by decide +kernel
theorem dX12_copy_567 : decode cX12_copy 567 = .ok (.sipush 200, 3) := by decide +kernel
theorem dX12_copy_570 : decode cX12_copy 570 = .ok (.if_icmp .ge 153, 3) := by decide +kernel
theorem dX12_copy_573 : decode cX12_copy 573 = .ok (.aload_n 0, 1) := by decide +kernel
theorem dX12_copy_574 : decode cX12_copy 574 = .ok (.getfield 109, 3) := by decide +kernel
theorem dX12_copy_577 : decode cX12_copy 577 = .ok (.sipush 200, 3) := by decide +kernel
theorem dX12_copy_580 : decode cX12_copy 580 = .ok (.iload_n 2, 1) := by decide +kernel
theorem dX12_copy_581 : decode cX12_copy 581 = .ok (.imul, 1) := by decide +kernel
theorem dX12_copy_582 : decode cX12_copy 582 = .ok (.iload_n 3, 1) := by decide +kernel
theorem dX12_copy_583 : decode cX12_copy 583 = .ok (.iadd, 1) := by decide +kernel
theorem dX12_copy_584 : decode cX12_copy 584 = .ok (.aload_n 0, 1) := by decide +kernel
theorem dX12_copy_585 : decode cX12_copy 585 = .ok (.getfield 109, 3) := by decide +kernel
theorem dX12_copy_588 : decode cX12_copy 588 = .ok (.sipush 200, 3) := by decide +kernel
theorem dX12_copy_591 : decode cX12_copy 591 = .ok (.iload_n 1, 1) := by decide +kernel
theorem dX12_copy_592 : decode cX12_copy 592 = .ok (.imul, 1) := by decide +kernel
theorem dX12_copy_593 : decode cX12_copy 593 = .ok (.iload_n 3, 1) := by decide +kernel
theorem dX12_copy_594 : decode cX12_copy 594 = .ok (.iadd, 1) := by decide +kernel
theorem dX12_copy_595 : decode cX12_copy 595 = .ok (.baload, 1) := by decide +kernel
theorem dX12_copy_596 : decode cX12_copy 596 = .ok (.bastore, 1) := by decide +kernel
theorem dX12_copy_597 : decode cX12_copy 597 = .ok (.aload_n 0, 1) := by decide +kernel
theorem dX12_copy_598 : decode cX12_copy 598 = .ok (.getfield 112, 3) := by decide +kernel
theorem dX12_copy_601 : decode cX12_copy 601 = .ok (.sipush 200, 3) := by decide +kernel
theorem dX12_copy_604 : decode cX12_copy 604 = .ok (.iload_n 2, 1) := by decide +kernel
theorem dX12_copy_605 : decode cX12_copy 605 = .ok (.imul, 1) := by decide +kernel
theorem dX12_copy_606 : decode cX12_copy 606 = .ok (.iload_n 3, 1) := by decide +kernel
theorem dX12_copy_607 : decode cX12_copy 607 = .ok (.iadd, 1) := by decide +kernel
theorem dX12_copy_608 : decode cX12_copy 608 = .ok (.aload_n 0, 1) := by decide +kernel
theorem dX12_copy_609 : decode cX12_copy 609 = .ok (.getfield 112, 3) := by decide +kernel
theorem dX12_copy_612 : decode cX12_copy 612 = .ok (.sipush 200, 3) := by decide +kernel
theorem dX12_copy_615 : decode cX12_copy 615 = .ok (.iload_n 1, 1) := by decide +kernel
theorem dX12_copy_616 : decode cX12_copy 616 = .ok (.imul, 1) := by decide +kernel
theorem dX12_copy_617 : decode cX12_copy 617 = .ok (.iload_n 3, 1) := by decide +kernel
theorem dX12_copy_618 : decode cX12_copy 618 = .ok (.iadd, 1) := by decide +kernel
theorem dX12_copy_619 : decode cX12_copy 619 = .ok (.iaload, 1) := by decide +kernel
theorem dX12_copy_620 : decode cX12_copy 620 = .ok (.iastore, 1) := by decide +kernel
theorem dX12_copy_621 : decode cX12_copy 621 = .ok (.aload_n 0, 1) := by decide +kernel
theorem dX12_copy_622 : decode cX12_copy 622 = .ok (.getfield 115, 3) := by decide +kernel
theorem dX12_copy_625 : decode cX12_copy 625 = .ok (.sipush 200, 3) := by decide +kernel
theorem dX12_copy_628 : decode cX12_copy 628 = .ok (.iload_n 2, 1) := by decide +kernel
theorem dX12_copy_629 : decode cX12_copy 629 = .ok (.imul, 1) := by decide +kernel
theorem dX12_copy_630 : decode cX12_copy 630 = .ok (.iload_n 3, 1) := by decide +kernel
theorem dX12_copy_631 : decode cX12_copy 631 = .ok (.iadd, 1) := by decide +kernel
theorem dX12_copy_632 : decode cX12_copy 632 = .ok (.aload_n 0, 1) := by decide +kernel
theorem dX12_copy_633 : decode cX12_copy 633 = .ok (.getfield 115, 3) := by decide +kernel
theorem dX12_copy_636 : decode cX12_copy 636 = .ok (.sipush 200, 3) := by decide +kernel
theorem dX12_copy_639 : decode cX12_copy 639 = .ok (.iload_n 1, 1) := by decide +kernel
theorem dX12_copy_640 : decode cX12_copy 640 = .ok (.imul, 1) := by decide +kernel
theorem dX12_copy_641 : decode cX12_copy 641 = .ok (.iload_n 3, 1) := by decide +kernel
theorem dX12_copy_642 : decode cX12_copy 642 = .ok (.iadd, 1) := by decide +kernel
theorem dX12_copy_643 : decode cX12_copy 643 = .ok (.iaload, 1) := by decide +kernel
theorem dX12_copy_644 : decode cX12_copy 644 = .ok (.iastore, 1) := by decide +kernel
theorem dX12_copy_645 : decode cX12_copy 645 = .ok (.aload_n 0, 1) := by decide +kernel
theorem dX12_copy_646 : decode cX12_copy 646 = .ok (.getfield 118, 3) := by decide +kernel
theorem dX12_copy_649 : decode cX12_copy 649 = .ok (.sipush 200, 3) := by decide +kernel
theorem dX12_copy_652 : decode cX12_copy 652 = .ok (.iload_n 2, 1) := by decide +kernel
theorem dX12_copy_653 : decode cX12_copy 653 = .ok (.imul, 1) := by decide +kernel
theorem dX12_copy_654 : decode cX12_copy 654 = .ok (.iload_n 3, 1) := by decide +kernel
theorem dX12_copy_655 : decode cX12_copy 655 = .ok (.iadd, 1) := by decide +kernel
theorem dX12_copy_656 : decode cX12_copy 656 = .ok (.aload_n 0, 1) := by decide +kernel
theorem dX12_copy_657 : decode cX12_copy 657 = .ok (.getfield 118, 3) := by decide +kernel
theorem dX12_copy_660 : decode cX12_copy 660 = .ok (.sipush 200, 3) := by decide +kernel
theorem dX12_copy_663 : decode cX12_copy 663 = .ok (.iload_n 1, 1) := by decide +kernel
theorem dX12_copy_664 : decode cX12_copy 664 = .ok (.imul, 1) := by decide +kernel
theorem dX12_copy_665 : decode cX12_copy 665 = .ok (.iload_n 3, 1) := by decide +kernel
theorem dX12_copy_666 : decode cX12_copy 666 = .ok (.iadd, 1) := by decide +kernel
theorem dX12_copy_667 : decode cX12_copy 667 = .ok (.iaload, 1) := by decide +kernel
theorem dX12_copy_668 : decode cX12_copy 668 = .ok (.iastore, 1) := by decide +kernel
theorem dX12_copy_669 : decode cX12_copy 669 = .ok (.aload_n 0, 1) := by decide +kernel
theorem dX12_copy_670 : decode cX12_copy 670 = .ok (.getfield 121, 3) := by decide +kernel
theorem dX12_copy_673 : decode cX12_copy 673 = .ok (.sipush 200, 3) := by decide +kernel
theorem dX12_copy_676 : decode cX12_copy 676 = .ok (.iload_n 2, 1) := by decide +kernel
theorem dX12_copy_677 : decode cX12_copy 677 = .ok (.imul, 1) := by decide +kernel
theorem dX12_copy_678 : decode cX12_copy 678 = .ok (.iload_n 3, 1) := by decide +kernel
theorem dX12_copy_679 : decode cX12_copy 679 = .ok (.iadd, 1) := by decide +kernel
theorem dX12_copy_680 : decode cX12_copy 680 = .ok (.aload_n 0, 1) := by decide +kernel
theorem dX12_copy_681 : decode cX12_copy 681 = .ok (.getfield 121, 3) := by decide +kernel
theorem dX12_copy_684 : decode cX12_copy 684 = .ok (.sipush 200, 3) := by decide +kernel
theorem dX12_copy_687 : decode cX12_copy 687 = .ok (.iload_n 1, 1) := by decide +kernel
theorem dX12_copy_688 : decode cX12_copy 688 = .ok (.imul, 1) := by decide +kernel
theorem dX12_copy_689 : decode cX12_copy 689 = .ok (.iload_n 3, 1) := by decide +kernel
theorem dX12_copy_690 : decode cX12_copy 690 = .ok (.iadd, 1) := by decide +kernel
theorem dX12_copy_691 : decode cX12_copy 691 = .ok (.iaload, 1) := by decide +kernel
theorem dX12_copy_692 : decode cX12_copy 692 = .ok (.iastore, 1) := by decide +kernel
theorem dX12_copy_693 : decode cX12_copy 693 = .ok (.aload_n 0, 1) := by decide +kernel
theorem dX12_copy_694 : decode cX12_copy 694 = .ok (.getfield 124, 3) := by decide +kernel
theorem dX12_copy_697 : decode cX12_copy 697 = .ok (.sipush 200, 3) := by decide +kernel
theorem dX12_copy_700 : decode cX12_copy 700 = .ok (.iload_n 2, 1) := by decide +kernel
theorem dX12_copy_701 : decode cX12_copy 701 = .ok (.imul, 1) := by decide +kernel
theorem dX12_copy_702 : decode cX12_copy 702 = .ok (.iload_n 3, 1) := by decide +kernel
theorem dX12_copy_703 : decode cX12_copy 703 = .ok (.iadd, 1) := by decide +kernel
theorem dX12_copy_704 : decode cX12_copy 704 = .ok (.aload_n 0, 1) := by decide +kernel
theorem dX12_copy_705 : decode cX12_copy 705 = .ok (.getfield 124, 3) := by decide +kernel
theorem dX12_copy_708 : decode cX12_copy 708 = .ok (.sipush 200, 3) := by decide +kernel
theorem dX12_copy_711 : decode cX12_copy 711 = .ok (.iload_n 1, 1) := by decide +kernel
theorem dX12_copy_712 : decode cX12_copy 712 = .ok (.imul, 1) := by decide +kernel
theorem dX12_copy_713 : decode cX12_copy 713 = .ok (.iload_n 3, 1) := by decide +kernel
theorem dX12_copy_714 : decode cX12_copy 714 = .ok (.iadd, 1) := by decide +kernel
theorem dX12_copy_715 : decode cX12_copy 715 = .ok (.iaload, 1) := by decide +kernel
theorem dX12_copy_716 : decode cX12_copy 716 = .ok (.iastore, 1) := by decide +kernel
theorem dX12_copy_717 : decode cX12_copy 717 = .ok (.iinc 3 1, 3) := by decide +kernel
theorem dX12_copy_720 : decode cX12_copy 720 = .ok (.goto (-154), 3) := by decide +kernel
theorem dX12_copy_723 : decode cX12_copy 723 = .ok (.iconst 0, 1) := by decide +kernel
theorem dX12_copy_724 : decode cX12_copy 724 = .ok (.istore_n 3, 1) := by decide +kernel
theorem dX12_copy_725 : decode cX12_copy 725 = .ok (.iload_n 3, 1) := by decide +kernel
theorem dX12_copy_726 : decode cX12_copy 726 = .ok (.bipush 60, 2) := by decide +kernel
theorem dX12_copy_728 : decode cX12_copy 728 = .ok (.if_icmp .ge 97, 3) := by decide +kernel
theorem dX12_copy_731 : decode cX12_copy 731 = .ok (.aload_n 0, 1) := by decide +kernel
theorem dX12_copy_732 : decode cX12_copy 732 = .ok (.getfield 130, 3) := by decide +kernel
theorem dX12_copy_735 : decode cX12_copy 735 = .ok (.bipush 60, 2) := by decide +kernel
theorem dX12_copy_737 : decode cX12_copy 737 = .ok (.iload_n 2, 1) := by decide +kernel
theorem dX12_copy_738 : decode cX12_copy 738 = .ok (.imul, 1) := by decide +kernel
theorem dX12_copy_739 : decode cX12_copy 739 = .ok (.iload_n 3, 1) := by decide +kernel
theorem dX12_copy_740 : decode cX12_copy 740 = .ok (.iadd, 1) := by decide +kernel
theorem dX12_copy_741 : decode cX12_copy 741 = .ok (.aload_n 0, 1) := by decide +kernel
theorem dX12_copy_742 : decode cX12_copy 742 = .ok (.getfield 130, 3) := by decide +kernel
theorem dX12_copy_745 : decode cX12_copy 745 = .ok (.bipush 60, 2) := by decide +kernel
theorem dX12_copy_747 : decode cX12_copy 747 = .ok (.iload_n 1, 1) := by decide +kernel
theorem dX12_copy_748 : decode cX12_copy 748 = .ok (.imul, 1) := by decide +kernel
theorem dX12_copy_749 : decode cX12_copy 749 = .ok (.iload_n 3, 1) := by decide +kernel
theorem dX12_copy_750 : decode cX12_copy 750 = .ok (.iadd, 1) := by decide +kernel
theorem dX12_copy_751 : decode cX12_copy 751 = .ok (.iaload, 1) := by decide +kernel
theorem dX12_copy_752 : decode cX12_copy 752 = .ok (.iastore, 1) := by decide +kernel
theorem dX12_copy_753 : decode cX12_copy 753 = .ok (.aload_n 0, 1) := by decide +kernel
theorem dX12_copy_754 : decode cX12_copy 754 = .ok (.getfield 133, 3) := by decide +kernel
theorem dX12_copy_757 : decode cX12_copy 757 = .ok (.bipush 60, 2) := by decide +kernel
theorem dX12_copy_759 : decode cX12_copy 759 = .ok (.iload_n 2, 1) := by decide +kernel
theorem dX12_copy_760 : decode cX12_copy 760 = .ok (.imul, 1) := by decide +kernel
theorem dX12_copy_761 : decode cX12_copy 761 = .ok (.iload_n 3, 1) := by decide +kernel
theorem dX12_copy_762 : decode cX12_copy 762 = .ok (.iadd, 1) := by decide +kernel
theorem dX12_copy_763 : decode cX12_copy 763 = .ok (.aload_n 0, 1) := by decide +kernel
theorem dX12_copy_764 : decode cX12_copy 764 = .ok (.getfield 133, 3) := by decide +kernel
theorem dX12_copy_767 : decode cX12_copy 767 = .ok (.bipush 60, 2) := by decide +kernel
theorem dX12_copy_769 : decode cX12_copy 769 = .ok (.iload_n 1, 1) := by decide +kernel
theorem dX12_copy_770 : decode cX12_copy 770 = .ok (.imul, 1) := by decide +kernel
theorem dX12_copy_771 : decode cX12_copy 771 = .ok (.iload_n 3, 1) := by decide +kernel
theorem dX12_copy_772 : decode cX12_copy 772 = .ok (.iadd, 1) := by decide +kernel
theorem dX12_copy_773 : decode cX12_copy 773 = .ok (.iaload, 1) := by decide +kernel
theorem dX12_copy_774 : decode cX12_copy 774 = .ok (.iastore, 1) := by decide +kernel
theorem dX12_copy_775 : decode cX12_copy 775 = .ok (.aload_n 0, 1) := by decide +kernel
theorem dX12_copy_776 : decode cX12_copy 776 = .ok (.getfield 136, 3) := by decide +kernel
theorem dX12_copy_779 : decode cX12_copy 779 = .ok (.bipush 60, 2) := by decide +kernel
theorem dX12_copy_781 : decode cX12_copy 781 = .ok (.iload_n 2, 1) := by decide +kernel
theorem dX12_copy_782 : decode cX12_copy 782 = .ok (.imul, 1) := by decide +kernel
theorem dX12_copy_783 : decode cX12_copy 783 = .ok (.iload_n 3, 1) := by decide +kernel
theorem dX12_copy_784 : decode cX12_copy 784 = .ok (.iadd, 1) := by decide +kernel
theorem dX12_copy_785 : decode cX12_copy 785 = .ok (.aload_n 0, 1) := by decide +kernel
theorem dX12_copy_786 : decode cX12_copy 786 = .ok (.getfield 136, 3) := by decide +kernel
theorem dX12_copy_789 : decode cX12_copy 789 = .ok (.bipush 60, 2) := by decide +kernel
theorem dX12_copy_791 : decode cX12_copy 791 = .ok (.iload_n 1, 1) := by decide +kernel
theorem dX12_copy_792 : decode cX12_copy 792 = .ok (.imul, 1) := by decide +kernel
theorem dX12_copy_793 : decode cX12_copy 793 = .ok (.iload_n 3, 1) := by decide +kernel
theorem dX12_copy_794 : decode cX12_copy 794 = .ok (.iadd, 1) := by decide +kernel
theorem dX12_copy_795 : decode cX12_copy 795 = .ok (.iaload, 1) := by decide +kernel
theorem dX12_copy_796 : decode cX12_copy 796 = .ok (.iastore, 1) := by decide +kernel
theorem dX12_copy_797 : decode cX12_copy 797 = .ok (.aload_n 0, 1) := by decide +kernel
theorem dX12_copy_798 : decode cX12_copy 798 = .ok (.getfield 139, 3) := by decide +kernel
theorem dX12_copy_801 : decode cX12_copy 801 = .ok (.bipush 60, 2) := by decide +kernel
theorem dX12_copy_803 : decode cX12_copy 803 = .ok (.iload_n 2, 1) := by decide +kernel
theorem dX12_copy_804 : decode cX12_copy 804 = .ok (.imul, 1) := by decide +kernel
theorem dX12_copy_805 : decode cX12_copy 805 = .ok (.iload_n 3, 1) := by decide +kernel
theorem dX12_copy_806 : decode cX12_copy 806 = .ok (.iadd, 1) := by decide +kernel
theorem dX12_copy_807 : decode cX12_copy 807 = .ok (.aload_n 0, 1) := by decide +kernel
theorem dX12_copy_808 : decode cX12_copy 808 = .ok (.getfield 139, 3) := by decide +kernel
theorem dX12_copy_811 : decode cX12_copy 811 = .ok (.bipush 60, 2) := by decide +kernel
theorem dX12_copy_813 : decode cX12_copy 813 = .ok (.iload_n 1, 1) := by decide +kernel
theorem dX12_copy_814 : decode cX12_copy 814 = .ok (.imul, 1) := by decide +kernel
theorem dX12_copy_815 : decode cX12_copy 815 = .ok (.iload_n 3, 1) := by decide +kernel
theorem dX12_copy_816 : decode cX12_copy 816 = .ok (.iadd, 1) := by decide +kernel
theorem dX12_copy_817 : decode cX12_copy 817 = .ok (.iaload, 1) := by decide +kernel
theorem dX12_copy_818 : decode cX12_copy 818 = .ok (.iastore, 1) := by decide +kernel
theorem dX12_copy_819 : decode cX12_copy 819 = .ok (.iinc 3 1, 3) := by decide +kernel
theorem dX12_copy_822 : decode cX12_copy 822 = .ok (.goto (-97), 3) := by decide +kernel
theorem dX12_copy_825 : decode cX12_copy 825 = .ok (.return_, 1) := by decide +kernel
theorem dX12_names_0 : decode cX12_names 0 = .ok (.aload_n 0, 1) := by decide +kernel
theorem dX12_names_1 : decode cX12_names 1 = .ok (.getfield 305, 3) := by decide +kernel
theorem dX12_names_4 : decode cX12_names 4 = .ok (.istore_n 2, 1) := by decide +kernel
theorem dX12_names_5 : decode cX12_names 5 = .ok (.aload_n 0, 1) := by decide +kernel
theorem dX12_names_6 : decode cX12_names 6 = .ok (.iconst 0, 1) := by decide +kernel
theorem dX12_names_7 : decode cX12_names 7 = .ok (.invokevirtual 321, 3) := by decide +kernel
theorem dX12_names_10 : decode cX12_names 10 = .ok (.ifCond .ne 5, 3) := by decide +kernel
theorem dX12_names_13 : decode cX12_names 13 = .ok (.iconst 0, 1) := by decide +kernel
theorem dX12_names_14 : decode cX12_names 14 = .ok (.ireturn, 1) := by decide +kernel
theorem dX12_names_15 : decode cX12_names 15 = .ok (.iconst 0, 1) := by decide +kernel
theorem dX12_names_16 : decode cX12_names 16 = .ok (.istore_n 3, 1) := by decide +kernel
theorem dX12_names_17 : decode cX12_names 17 = .ok (.iload_n 3, 1) := by decide +kernel
theorem dX12_names_18 : decode cX12_names 18 = .ok (.aload_n 0, 1) := by decide +kernel
theorem dX12_names_19 : decode cX12_names 19 = .ok (.getfield 364, 3) := by decide +kernel
theorem dX12_names_22 : decode cX12_names 22 = .ok (.if_icmp .ge 31, 3) := by decide +kernel
theorem dX12_names_25 : decode cX12_names 25 = .ok (.aload_n 0, 1) := by decide +kernel
theorem dX12_names_26 : decode cX12_names 26 = .ok (.getfield 142, 3) := by decide +kernel
theorem dX12_names_29 : decode cX12_names 29 = .ok (.iload_n 3, 1) := by decide +kernel
theorem dX12_names_30 : decode cX12_names 30 = .ok (.laload, 1) := by decide +kernel
theorem dX12_names_31 : decode cX12_names 31 = .ok (.aload_n 0, 1) := by decide +kernel
theorem dX12_names_32 : decode cX12_names 32 = .ok (.getfield 22, 3) := by decide +kernel
theorem dX12_names_35 : decode cX12_names 35 = .ok (.iload_n 2, 1) := by decide +kernel
theorem dX12_names_36 : decode cX12_names 36 = .ok (.laload, 1) := by decide +kernel
theorem dX12_names_37 : decode cX12_names 37 = .ok (.lcmp, 1) := by decide +kernel
theorem dX12_names_38 : decode cX12_names 38 = .ok (.ifCond .ne 9, 3) := by decide +kernel
theorem dX12_names_41 : decode cX12_names 41 = .ok (.aload_n 0, 1) := by decide +kernel
theorem dX12_names_42 : decode cX12_names 42 = .ok (.iconst 3, 1) := by decide +kernel
theorem dX12_names_43 : decode cX12_names 43 = .ok (.iload_n 2, 1) := by decide +kernel
theorem dX12_names_44 : decode cX12_names 44 = .ok (.invokevirtual 327, 3) := by decide +kernel
theorem dX12_names_47 : decode cX12_names 47 = .ok (.iinc 3 1, 3) := by decide +kernel
theorem dX12_names_50 : decode cX12_names 50 = .ok (.goto (-33), 3) := by decide +kernel
theorem dX12_names_53 : decode cX12_names 53 = .ok (.aload_n 0, 1) := by decide +kernel
theorem dX12_names_54 : decode cX12_names 54 = .ok (.getfield 142, 3) := by decide +kernel
theorem dX12_names_57 : decode cX12_names 57 = .ok (.aload_n 0, 1) := by decide +kernel
theorem dX12_names_58 : decode cX12_names 58 = .ok (.getfield 364, 3) := by decide +kernel
theorem dX12_names_61 : decode cX12_names 61 = .ok (.aload_n 0, 1) := by decide +kernel
theorem dX12_names_62 : decode cX12_names 62 = .ok (.getfield 22, 3) := by decide +kernel
theorem dX12_names_65 : decode cX12_names 65 = .ok (.iload_n 2, 1) := by decide +kernel
theorem dX12_names_66 : decode cX12_names 66 = .ok (.laload, 1) := by decide +kernel
theorem dX12_names_67 : decode cX12_names 67 = .ok (.lastore, 1) := by decide +kernel
theorem dX12_names_68 : decode cX12_names 68 = .ok (.aload_n 0, 1) := by decide +kernel
theorem dX12_names_69 : decode cX12_names 69 = .ok (.getfield 145, 3) := by decide +kernel
theorem dX12_names_72 : decode cX12_names 72 = .ok (.aload_n 0, 1) := by decide +kernel
theorem dX12_names_73 : decode cX12_names 73 = .ok (.getfield 364, 3) := by decide +kernel
theorem dX12_names_76 : decode cX12_names 76 = .ok (.iload_n 1, 1) := by decide +kernel
theorem dX12_names_77 : decode cX12_names 77 = .ok (.iastore, 1) := by decide +kernel
theorem dX12_names_78 : decode cX12_names 78 = .ok (.aload_n 0, 1) := by decide +kernel
theorem dX12_names_79 : decode cX12_names 79 = .ok (.dup, 1) := by decide +kernel
theorem dX12_names_80 : decode cX12_names 80 = .ok (.getfield 364, 3) := by decide +kernel
theorem dX12_names_83 : decode cX12_names 83 = .ok (.iconst 1, 1) := by decide +kernel
theorem dX12_names_84 : decode cX12_names 84 = .ok (.iadd, 1) := by decide +kernel
theorem dX12_names_85 : decode cX12_names 85 = .ok (.putfield 364, 3) := by decide +kernel
theorem dX12_names_88 : decode cX12_names 88 = .ok (.iconst 1, 1) := by decide +kernel
theorem dX12_names_89 : decode cX12_names 89 = .ok (.ireturn, 1) := by decide +kernel
theorem dX12_thingAt_0 : decode cX12_thingAt 0 = .ok (.iconst 0, 1) := by decide +kernel
theorem dX12_thingAt_1 : decode cX12_thingAt 1 = .ok (.istore_n 2, 1) := by decide +kernel
theorem dX12_thingAt_2 : decode cX12_thingAt 2 = .ok (.iload_n 2, 1) := by decide +kernel
theorem dX12_thingAt_3 : decode cX12_thingAt 3 = .ok (.aload_n 0, 1) := by decide +kernel
theorem dX12_thingAt_4 : decode cX12_thingAt 4 = .ok (.getfield 364, 3) := by decide +kernel
theorem dX12_thingAt_7 : decode cX12_thingAt 7 = .ok (.if_icmp .ge 41, 3) := by decide +kernel
theorem dX12_thingAt_10 : decode cX12_thingAt 10 = .ok (.aload_n 0, 1) := by decide +kernel
theorem dX12_thingAt_11 : decode cX12_thingAt 11 = .ok (.getfield 142, 3) := by decide +kernel
theorem dX12_thingAt_14 : decode cX12_thingAt 14 = .ok (.iload_n 2, 1) := by decide +kernel
theorem dX12_thingAt_15 : decode cX12_thingAt 15 = .ok (.laload, 1) := by decide +kernel
theorem dX12_thingAt_16 : decode cX12_thingAt 16 = .ok (.aload_n 0, 1) := by decide +kernel
theorem dX12_thingAt_17 : decode cX12_thingAt 17 = .ok (.getfield 22, 3) := by decide +kernel
theorem dX12_thingAt_20 : decode cX12_thingAt 20 = .ok (.iload_n 1, 1) := by decide +kernel
theorem dX12_thingAt_21 : decode cX12_thingAt 21 = .ok (.laload, 1) := by decide +kernel
theorem dX12_thingAt_22 : decode cX12_thingAt 22 = .ok (.lcmp, 1) := by decide +kernel
theorem dX12_thingAt_23 : decode cX12_thingAt 23 = .ok (.ifCond .ne 19, 3) := by decide +kernel
theorem dX12_thingAt_26 : decode cX12_thingAt 26 = .ok (.aload_n 0, 1) := by decide +kernel
theorem dX12_thingAt_27 : decode cX12_thingAt 27 = .ok (.getfield 145, 3) := by decide +kernel
theorem dX12_thingAt_30 : decode cX12_thingAt 30 = .ok (.iload_n 2, 1) := by decide +kernel
theorem dX12_thingAt_31 : decode cX12_thingAt 31 = .ok (.iaload, 1) := by decide +kernel
theorem dX12_thingAt_32 : decode cX12_thingAt 32 = .ok (.ifCond .lt 10, 3) := by decide +kernel
theorem dX12_thingAt_35 : decode cX12_thingAt 35 = .ok (.aload_n 0, 1) := by decide +kernel
theorem dX12_thingAt_36 : decode cX12_thingAt 36 = .ok (.getfield 145, 3) := by decide +kernel
theorem dX12_thingAt_39 : decode cX12_thingAt 39 = .ok (.iload_n 2, 1) := by decide +kernel
theorem dX12_thingAt_40 : decode cX12_thingAt 40 = .ok (.iaload, 1) := by decide +kernel
theorem dX12_thingAt_41 : decode cX12_thingAt 41 = .ok (.ireturn, 1) := by decide +kernel
theorem dX12_thingAt_42 : decode cX12_thingAt 42 = .ok (.iinc 2 1, 3) := by decide +kernel
theorem dX12_thingAt_45 : decode cX12_thingAt 45 = .ok (.goto (-43), 3) := by decide +kernel
theorem dX12_thingAt_48 : decode cX12_thingAt 48 = .ok (.aload_n 0, 1) := by decide +kernel
theorem dX12_thingAt_49 : decode cX12_thingAt 49 = .ok (.iconst 4, 1) := by decide +kernel
theorem dX12_thingAt_50 : decode cX12_thingAt 50 = .ok (.iload_n 1, 1) := by decide +kernel
theorem dX12_thingAt_51 : decode cX12_thingAt 51 = .ok (.invokevirtual 327, 3) := by decide +kernel
theorem dX12_thingAt_54 : decode cX12_thingAt 54 = .ok (.iconst (-1), 1) := by decide +kernel
theorem dX12_thingAt_55 : decode cX12_thingAt 55 = .ok (.ireturn, 1) := by decide +kernel
theorem dX12_tellThing_0 : decode cX12_tellThing 0 = .ok (.aload_n 0, 1) := by decide +kernel
theorem dX12_tellThing_1 : decode cX12_tellThing 1 = .ok (.getfield 37, 3) := by decide +kernel
theorem dX12_tellThing_4 : decode cX12_tellThing 4 = .ok (.iconst 1, 1) := by decide +kernel
theorem dX12_tellThing_5 : decode cX12_tellThing 5 = .ok (.iaload, 1) := by decide +kernel
theorem dX12_tellThing_6 : decode cX12_tellThing 6 = .ok (.bipush 14, 2) := by decide +kernel
theorem dX12_tellThing_8 : decode cX12_tellThing 8 = .ok (.if_icmp .ne 9, 3) := by decide +kernel
theorem dX12_tellThing_11 : decode cX12_tellThing 11 = .ok (.aload_n 0, 1) := by decide +kernel
theorem dX12_tellThing_12 : decode cX12_tellThing 12 = .ok (.iconst 2, 1) := by decide +kernel
theorem dX12_tellThing_13 : decode cX12_tellThing 13 = .ok (.invokevirtual 314, 3) := by decide +kernel
theorem dX12_tellThing_16 : decode cX12_tellThing 16 = .ok (.ireturn, 1) := by decide +kernel
theorem dX12_tellThing_17 : decode cX12_tellThing 17 = .ok (.bipush 14, 2) := by decide +kernel
theorem dX12_tellThing_19 : decode cX12_tellThing 19 = .ok (.aload_n 0, 1) := by decide +kernel
theorem dX12_tellThing_20 : decode cX12_tellThing 20 = .ok (.getfield 37, 3) := by decide +kernel
theorem dX12_tellThing_23 : decode cX12_tellThing 23 = .ok (.iconst 1, 1) := by decide +kernel
theorem dX12_tellThing_24 : decode cX12_tellThing 24 = .ok (.iaload, 1) := by decide +kernel
theorem dX12_tellThing_25 : decode cX12_tellThing 25 = .ok (.iadd, 1) := by decide +kernel
theorem dX12_tellThing_26 : decode cX12_tellThing 26 = .ok (.istore_n 2, 1) := by decide +kernel
theorem dX12_tellThing_27 : decode cX12_tellThing 27 = .ok (.aload_n 0, 1) := by decide +kernel
theorem dX12_tellThing_28 : decode cX12_tellThing 28 = .ok (.invokevirtual 317, 3) := by decide +kernel
theorem dX12_tellThing_31 : decode cX12_tellThing 31 = .ok (.ifCond .eq 16, 3) := by decide +kernel
theorem dX12_tellThing_34 : decode cX12_tellThing 34 = .ok (.aload_n 0, 1) := by decide +kernel
theorem dX12_tellThing_35 : decode cX12_tellThing 35 = .ok (.aload_n 0, 1) := by decide +kernel
theorem dX12_tellThing_36 : decode cX12_tellThing 36 = .ok (.getfield 37, 3) := by decide +kernel
theorem dX12_tellThing_39 : decode cX12_tellThing 39 = .ok (.iconst 1, 1) := by decide +kernel
theorem dX12_tellThing_40 : decode cX12_tellThing 40 = .ok (.iaload, 1) := by decide +kernel
theorem dX12_tellThing_41 : decode cX12_tellThing 41 = .ok (.invokevirtual 367, 3) := by decide +kernel
theorem dX12_tellThing_44 : decode cX12_tellThing 44 = .ok (.ifCond .ne 5, 3) := by decide +kernel
theorem dX12_tellThing_47 : decode cX12_tellThing 47 = .ok (.iconst 0, 1) := by decide +kernel
theorem dX12_tellThing_48 : decode cX12_tellThing 48 = .ok (.ireturn, 1) := by decide +kernel
theorem dX12_tellThing_49 : decode cX12_tellThing 49 = .ok (.aload_n 0, 1) := by decide +kernel
theorem dX12_tellThing_50 : decode cX12_tellThing 50 = .ok (.iconst 0, 1) := by decide +kernel
theorem dX12_tellThing_51 : decode cX12_tellThing 51 = .ok (.sipush 999, 3) := by decide +kernel
theorem dX12_tellThing_54 : decode cX12_tellThing 54 = .ok (.invokevirtual 369, 3) := by decide +kernel
theorem dX12_tellThing_57 : decode cX12_tellThing 57 = .ok (.ifCond .ne 5, 3) := by decide +kernel
theorem dX12_tellThing_60 : decode cX12_tellThing 60 = .ok (.iconst 0, 1) := by decide +kernel
theorem dX12_tellThing_61 : decode cX12_tellThing 61 = .ok (.ireturn, 1) := by decide +kernel
theorem dX12_tellThing_62 : decode cX12_tellThing 62 = .ok (.aload_n 0, 1) := by decide +kernel
theorem dX12_tellThing_63 : decode cX12_tellThing 63 = .ok (.getfield 43, 3) := by decide +kernel
theorem dX12_tellThing_66 : decode cX12_tellThing 66 = .ok (.iload_n 2, 1) := by decide +kernel
theorem dX12_tellThing_67 : decode cX12_tellThing 67 = .ok (.aload_n 0, 1) := by decide +kernel
theorem dX12_tellThing_68 : decode cX12_tellThing 68 = .ok (.getfield 324, 3) := by decide +kernel
theorem dX12_tellThing_71 : decode cX12_tellThing 71 = .ok (.iastore, 1) := by decide +kernel
theorem dX12_tellThing_72 : decode cX12_tellThing 72 = .ok (.aload_n 0, 1) := by decide +kernel
theorem dX12_tellThing_73 : decode cX12_tellThing 73 = .ok (.getfield 305, 3) := by decide +kernel
theorem dX12_tellThing_76 : decode cX12_tellThing 76 = .ok (.istore_n 3, 1) := by decide +kernel
theorem dX12_tellThing_77 : decode cX12_tellThing 77 = .ok (.aload_n 0, 1) := by decide +kernel
theorem dX12_tellThing_78 : decode cX12_tellThing 78 = .ok (.iconst 0, 1) := by decide +kernel
theorem dX12_tellThing_79 : decode cX12_tellThing 79 = .ok (.sipush 999, 3) := by decide +kernel
theorem dX12_tellThing_82 : decode cX12_tellThing 82 = .ok (.invokevirtual 369, 3) := by decide +kernel
theorem dX12_tellThing_85 : decode cX12_tellThing 85 = .ok (.ifCond .ne 5, 3) := by decide +kernel
theorem dX12_tellThing_88 : decode cX12_tellThing 88 = .ok (.iconst 0, 1) := by decide +kernel
theorem dX12_tellThing_89 : decode cX12_tellThing 89 = .ok (.ireturn, 1) := by decide +kernel
theorem dX12_tellThing_90 : decode cX12_tellThing 90 = .ok (.aload_n 0, 1) := by decide +kernel
theorem dX12_tellThing_91 : decode cX12_tellThing 91 = .ok (.getfield 46, 3) := by decide +kernel
theorem dX12_tellThing_94 : decode cX12_tellThing 94 = .ok (.iload_n 2, 1) := by decide +kernel
theorem dX12_tellThing_95 : decode cX12_tellThing 95 = .ok (.aload_n 0, 1) := by decide +kernel
theorem dX12_tellThing_96 : decode cX12_tellThing 96 = .ok (.getfield 324, 3) := by decide +kernel
theorem dX12_tellThing_99 : decode cX12_tellThing 99 = .ok (.iastore, 1) := by decide +kernel
theorem dX12_tellThing_100 : decode cX12_tellThing 100 = .ok (.bipush 14, 2) := by decide +kernel
theorem dX12_tellThing_102 : decode cX12_tellThing 102 = .ok (.istore 4, 2) := by decide +kernel
theorem dX12_tellThing_104 : decode cX12_tellThing 104 = .ok (.iload 4, 2) := by decide +kernel
theorem dX12_tellThing_106 : decode cX12_tellThing 106 = .ok (.iload_n 2, 1) := by decide +kernel
theorem dX12_tellThing_107 : decode cX12_tellThing 107 = .ok (.if_icmp .ge 47, 3) := by decide +kernel
theorem dX12_tellThing_110 : decode cX12_tellThing 110 = .ok (.aload_n 0, 1) := by decide +kernel
theorem dX12_tellThing_111 : decode cX12_tellThing 111 = .ok (.getfield 43, 3) := by decide +kernel
theorem dX12_tellThing_114 : decode cX12_tellThing 114 = .ok (.iload 4, 2) := by decide +kernel
theorem dX12_tellThing_116 : decode cX12_tellThing 116 = .ok (.iaload, 1) := by decide +kernel
theorem dX12_tellThing_117 : decode cX12_tellThing 117 = .ok (.aload_n 0, 1) := by decide +kernel
theorem dX12_tellThing_118 : decode cX12_tellThing 118 = .ok (.getfield 43, 3) := by decide +kernel
theorem dX12_tellThing_121 : decode cX12_tellThing 121 = .ok (.iload_n 2, 1) := by decide +kernel
theorem dX12_tellThing_122 : decode cX12_tellThing 122 = .ok (.iaload, 1) := by decide +kernel
theorem dX12_tellThing_123 : decode cX12_tellThing 123 = .ok (.if_icmp .ne 25, 3) := by decide +kernel
theorem dX12_tellThing_126 : decode cX12_tellThing 126 = .ok (.aload_n 0, 1) := by decide +kernel
theorem dX12_tellThing_127 : decode cX12_tellThing 127 = .ok (.getfield 46, 3) := by decide +kernel
theorem dX12_tellThing_130 : decode cX12_tellThing 130 = .ok (.iload 4, 2) := by decide +kernel
theorem dX12_tellThing_132 : decode cX12_tellThing 132 = .ok (.iaload, 1) := by decide +kernel
theorem dX12_tellThing_133 : decode cX12_tellThing 133 = .ok (.aload_n 0, 1) := by decide +kernel
theorem dX12_tellThing_134 : decode cX12_tellThing 134 = .ok (.getfield 46, 3) := by decide +kernel
theorem dX12_tellThing_137 : decode cX12_tellThing 137 = .ok (.iload_n 2, 1) := by decide +kernel
theorem dX12_tellThing_138 : decode cX12_tellThing 138 = .ok (.iaload, 1) := by decide +kernel
theorem dX12_tellThing_139 : decode cX12_tellThing 139 = .ok (.if_icmp .ne 9, 3) := by decide +kernel
theorem dX12_tellThing_142 : decode cX12_tellThing 142 = .ok (.aload_n 0, 1) := by decide +kernel
theorem dX12_tellThing_143 : decode cX12_tellThing 143 = .ok (.iconst 3, 1) := by decide +kernel
theorem dX12_tellThing_144 : decode cX12_tellThing 144 = .ok (.iload_n 3, 1) := by decide +kernel
theorem dX12_tellThing_145 : decode cX12_tellThing 145 = .ok (.invokevirtual 327, 3) := by decide +kernel
theorem dX12_tellThing_148 : decode cX12_tellThing 148 = .ok (.iinc 4 1, 3) := by decide +kernel
theorem dX12_tellThing_151 : decode cX12_tellThing 151 = .ok (.goto (-47), 3) := by decide +kernel
theorem dX12_tellThing_154 : decode cX12_tellThing 154 = .ok (.aload_n 0, 1) := by decide +kernel
theorem dX12_tellThing_155 : decode cX12_tellThing 155 = .ok (.iconst 0, 1) := by decide +kernel
theorem dX12_tellThing_156 : decode cX12_tellThing 156 = .ok (.sipush 9999, 3) := by decide +kernel
theorem dX12_tellThing_159 : decode cX12_tellThing 159 = .ok (.invokevirtual 369, 3) := by decide +kernel
theorem dX12_tellThing_162 : decode cX12_tellThing 162 = .ok (.ifCond .ne 5, 3) := by decide +kernel
theorem dX12_tellThing_165 : decode cX12_tellThing 165 = .ok (.iconst 0, 1) := by decide +kernel
theorem dX12_tellThing_166 : decode cX12_tellThing 166 = .ok (.ireturn, 1) := by decide +kernel
theorem dX12_tellThing_167 : decode cX12_tellThing 167 = .ok (.aload_n 0, 1) := by decide +kernel
theorem dX12_tellThing_168 : decode cX12_tellThing 168 = .ok (.getfield 49, 3) := by decide +kernel
theorem dX12_tellThing_171 : decode cX12_tellThing 171 = .ok (.iload_n 2, 1) := by decide +kernel
theorem dX12_tellThing_172 : decode cX12_tellThing 172 = .ok (.aload_n 0, 1) := by decide +kernel
theorem dX12_tellThing_173 : decode cX12_tellThing 173 = .ok (.getfield 324, 3) := by decide +kernel
theorem dX12_tellThing_176 : decode cX12_tellThing 176 = .ok (.iastore, 1) := by decide +kernel
theorem dX12_tellThing_177 : decode cX12_tellThing 177 = .ok (.aload_n 0, 1) := by decide +kernel
theorem dX12_tellThing_178 : decode cX12_tellThing 178 = .ok (.getfield 40, 3) := by decide +kernel
theorem dX12_tellThing_181 : decode cX12_tellThing 181 = .ok (.iload_n 2, 1) := by decide +kernel
theorem dX12_tellThing_182 : decode cX12_tellThing 182 = .ok (.iload_n 1, 1) := by decide +kernel
theorem dX12_tellThing_183 : decode cX12_tellThing 183 = .ok (.bastore, 1) := by decide +kernel
theorem dX12_tellThing_184 : decode cX12_tellThing 184 = .ok (.aload_n 0, 1) := by decide +kernel
theorem dX12_tellThing_185 : decode cX12_tellThing 185 = .ok (.getfield 52, 3) := by decide +kernel
theorem dX12_tellThing_188 : decode cX12_tellThing 188 = .ok (.iload_n 2, 1) := by decide +kernel
theorem dX12_tellThing_189 : decode cX12_tellThing 189 = .ok (.iconst (-1), 1) := by decide +kernel
theorem dX12_tellThing_190 : decode cX12_tellThing 190 = .ok (.iastore, 1) := by decide +kernel
theorem dX12_tellThing_191 : decode cX12_tellThing 191 = .ok (.aload_n 0, 1) := by decide +kernel
theorem dX12_tellThing_192 : decode cX12_tellThing 192 = .ok (.getfield 37, 3) := by decide +kernel
theorem dX12_tellThing_195 : decode cX12_tellThing 195 = .ok (.iconst 1, 1) := by decide +kernel
theorem dX12_tellThing_196 : decode cX12_tellThing 196 = .ok (.dup2, 1) := by decide +kernel
theorem dX12_tellThing_197 : decode cX12_tellThing 197 = .ok (.iaload, 1) := by decide +kernel
theorem dX12_tellThing_198 : decode cX12_tellThing 198 = .ok (.iconst 1, 1) := by decide +kernel
theorem dX12_tellThing_199 : decode cX12_tellThing 199 = .ok (.iadd, 1) := by decide +kernel
theorem dX12_tellThing_200 : decode cX12_tellThing 200 = .ok (.iastore, 1) := by decide +kernel
theorem dX12_tellThing_201 : decode cX12_tellThing 201 = .ok (.iconst 1, 1) := by decide +kernel
theorem dX12_tellThing_202 : decode cX12_tellThing 202 = .ok (.ireturn, 1) := by decide +kernel
theorem dX12_tellDoor_0 : decode cX12_tellDoor 0 = .ok (.aload_n 0, 1) := by decide +kernel
theorem dX12_tellDoor_1 : decode cX12_tellDoor 1 = .ok (.getfield 55, 3) := by decide +kernel
theorem dX12_tellDoor_4 : decode cX12_tellDoor 4 = .ok (.iconst 1, 1) := by decide +kernel
theorem dX12_tellDoor_5 : decode cX12_tellDoor 5 = .ok (.iaload, 1) := by decide +kernel
theorem dX12_tellDoor_6 : decode cX12_tellDoor 6 = .ok (.bipush 8, 2) := by decide +kernel
theorem dX12_tellDoor_8 : decode cX12_tellDoor 8 = .ok (.if_icmp .ne 9, 3) := by decide +kernel
theorem dX12_tellDoor_11 : decode cX12_tellDoor 11 = .ok (.aload_n 0, 1) := by decide +kernel
theorem dX12_tellDoor_12 : decode cX12_tellDoor 12 = .ok (.iconst 2, 1) := by decide +kernel
theorem dX12_tellDoor_13 : decode cX12_tellDoor 13 = .ok (.invokevirtual 314, 3) := by decide +kernel
theorem dX12_tellDoor_16 : decode cX12_tellDoor 16 = .ok (.ireturn, 1) := by decide +kernel
theorem dX12_tellDoor_17 : decode cX12_tellDoor 17 = .ok (.aload_n 0, 1) := by decide +kernel
theorem dX12_tellDoor_18 : decode cX12_tellDoor 18 = .ok (.getfield 305, 3) := by decide +kernel
theorem dX12_tellDoor_21 : decode cX12_tellDoor 21 = .ok (.iconst 1, 1) := by decide +kernel
theorem dX12_tellDoor_22 : decode cX12_tellDoor 22 = .ok (.iadd, 1) := by decide +kernel
theorem dX12_tellDoor_23 : decode cX12_tellDoor 23 = .ok (.istore_n 1, 1) := by decide +kernel
theorem dX12_tellDoor_24 : decode cX12_tellDoor 24 = .ok (.aload_n 0, 1) := by decide +kernel
theorem dX12_tellDoor_25 : decode cX12_tellDoor 25 = .ok (.invokevirtual 317, 3) := by decide +kernel
theorem dX12_tellDoor_28 : decode cX12_tellDoor 28 = .ok (.ifCond .eq 19, 3) := by decide +kernel
theorem dX12_tellDoor_31 : decode cX12_tellDoor 31 = .ok (.aload_n 0, 1) := by decide +kernel
theorem dX12_tellDoor_32 : decode cX12_tellDoor 32 = .ok (.iconst 0, 1) := by decide +kernel
theorem dX12_tellDoor_33 : decode cX12_tellDoor 33 = .ok (.invokevirtual 321, 3) := by decide +kernel
theorem dX12_tellDoor_36 : decode cX12_tellDoor 36 = .ok (.ifCond .eq 11, 3) := by decide +kernel
theorem dX12_tellDoor_39 : decode cX12_tellDoor 39 = .ok (.aload_n 0, 1) := by decide +kernel
theorem dX12_tellDoor_40 : decode cX12_tellDoor 40 = .ok (.iconst 0, 1) := by decide +kernel
theorem dX12_tellDoor_41 : decode cX12_tellDoor 41 = .ok (.invokevirtual 321, 3) := by decide +kernel
theorem dX12_tellDoor_44 : decode cX12_tellDoor 44 = .ok (.ifCond .ne 5, 3) := by decide +kernel
theorem dX12_tellDoor_47 : decode cX12_tellDoor 47 = .ok (.iconst 0, 1) := by decide +kernel
theorem dX12_tellDoor_48 : decode cX12_tellDoor 48 = .ok (.ireturn, 1) := by decide +kernel
theorem dX12_tellDoor_49 : decode cX12_tellDoor 49 = .ok (.bipush 8, 2) := by decide +kernel
theorem dX12_tellDoor_51 : decode cX12_tellDoor 51 = .ok (.aload_n 0, 1) := by decide +kernel
theorem dX12_tellDoor_52 : decode cX12_tellDoor 52 = .ok (.getfield 55, 3) := by decide +kernel
theorem dX12_tellDoor_55 : decode cX12_tellDoor 55 = .ok (.iconst 1, 1) := by decide +kernel
theorem dX12_tellDoor_56 : decode cX12_tellDoor 56 = .ok (.iaload, 1) := by decide +kernel
theorem dX12_tellDoor_57 : decode cX12_tellDoor 57 = .ok (.iadd, 1) := by decide +kernel
theorem dX12_tellDoor_58 : decode cX12_tellDoor 58 = .ok (.istore_n 2, 1) := by decide +kernel
theorem dX12_tellDoor_59 : decode cX12_tellDoor 59 = .ok (.aload_n 0, 1) := by decide +kernel
theorem dX12_tellDoor_60 : decode cX12_tellDoor 60 = .ok (.getfield 58, 3) := by decide +kernel
theorem dX12_tellDoor_63 : decode cX12_tellDoor 63 = .ok (.iload_n 2, 1) := by decide +kernel
theorem dX12_tellDoor_64 : decode cX12_tellDoor 64 = .ok (.aload_n 0, 1) := by decide +kernel
theorem dX12_tellDoor_65 : decode cX12_tellDoor 65 = .ok (.iload_n 1, 1) := by decide +kernel
theorem dX12_tellDoor_66 : decode cX12_tellDoor 66 = .ok (.invokevirtual 373, 3) := by decide +kernel
theorem dX12_tellDoor_69 : decode cX12_tellDoor 69 = .ok (.iastore, 1) := by decide +kernel
theorem dX12_tellDoor_70 : decode cX12_tellDoor 70 = .ok (.aload_n 0, 1) := by decide +kernel
theorem dX12_tellDoor_71 : decode cX12_tellDoor 71 = .ok (.getfield 61, 3) := by decide +kernel
theorem dX12_tellDoor_74 : decode cX12_tellDoor 74 = .ok (.iload_n 2, 1) := by decide +kernel
theorem dX12_tellDoor_75 : decode cX12_tellDoor 75 = .ok (.aload_n 0, 1) := by decide +kernel
theorem dX12_tellDoor_76 : decode cX12_tellDoor 76 = .ok (.iload_n 1, 1) := by decide +kernel
theorem dX12_tellDoor_77 : decode cX12_tellDoor 77 = .ok (.iconst 1, 1) := by decide +kernel
theorem dX12_tellDoor_78 : decode cX12_tellDoor 78 = .ok (.iadd, 1) := by decide +kernel
theorem dX12_tellDoor_79 : decode cX12_tellDoor 79 = .ok (.invokevirtual 373, 3) := by decide +kernel
theorem dX12_tellDoor_82 : decode cX12_tellDoor 82 = .ok (.iastore, 1) := by decide +kernel
theorem dX12_tellDoor_83 : decode cX12_tellDoor 83 = .ok (.aload_n 0, 1) := by decide +kernel
theorem dX12_tellDoor_84 : decode cX12_tellDoor 84 = .ok (.getfield 58, 3) := by decide +kernel
theorem dX12_tellDoor_87 : decode cX12_tellDoor 87 = .ok (.iload_n 2, 1) := by decide +kernel
theorem dX12_tellDoor_88 : decode cX12_tellDoor 88 = .ok (.iaload, 1) := by decide +kernel
theorem dX12_tellDoor_89 : decode cX12_tellDoor 89 = .ok (.ifCond .lt 29, 3) := by decide +kernel
theorem dX12_tellDoor_92 : decode cX12_tellDoor 92 = .ok (.aload_n 0, 1) := by decide +kernel
theorem dX12_tellDoor_93 : decode cX12_tellDoor 93 = .ok (.getfield 22, 3) := by decide +kernel
theorem dX12_tellDoor_96 : decode cX12_tellDoor 96 = .ok (.iload_n 1, 1) := by decide +kernel
theorem dX12_tellDoor_97 : decode cX12_tellDoor 97 = .ok (.laload, 1) := by decide +kernel
theorem dX12_tellDoor_98 : decode cX12_tellDoor 98 = .ok (.aload_n 0, 1) := by decide +kernel
theorem dX12_tellDoor_99 : decode cX12_tellDoor 99 = .ok (.getfield 22, 3) := by decide +kernel
theorem dX12_tellDoor_102 : decode cX12_tellDoor 102 = .ok (.iload_n 1, 1) := by decide +kernel
theorem dX12_tellDoor_103 : decode cX12_tellDoor 103 = .ok (.iconst 1, 1) := by decide +kernel
theorem dX12_tellDoor_104 : decode cX12_tellDoor 104 = .ok (.iadd, 1) := by decide +kernel
theorem dX12_tellDoor_105 : decode cX12_tellDoor 105 = .ok (.laload, 1) := by decide +kernel
theorem dX12_tellDoor_106 : decode cX12_tellDoor 106 = .ok (.lcmp, 1) := by decide +kernel
theorem dX12_tellDoor_107 : decode cX12_tellDoor 107 = .ok (.ifCond .ne 11, 3) := by decide +kernel
theorem dX12_tellDoor_110 : decode cX12_tellDoor 110 = .ok (.aload_n 0, 1) := by decide +kernel
theorem dX12_tellDoor_111 : decode cX12_tellDoor 111 = .ok (.iconst 5, 1) := by decide +kernel
theorem dX12_tellDoor_112 : decode cX12_tellDoor 112 = .ok (.iload_n 1, 1) := by decide +kernel
theorem dX12_tellDoor_113 : decode cX12_tellDoor 113 = .ok (.iconst 1, 1) := by decide +kernel
theorem dX12_tellDoor_114 : decode cX12_tellDoor 114 = .ok (.iadd, 1) := by decide +kernel
theorem dX12_tellDoor_115 : decode cX12_tellDoor 115 = .ok (.invokevirtual 327, 3) := by decide +kernel
theorem dX12_tellDoor_118 : decode cX12_tellDoor 118 = .ok (.aload_n 0, 1) := by decide +kernel
theorem dX12_tellDoor_119 : decode cX12_tellDoor 119 = .ok (.getfield 55, 3) := by decide +kernel
theorem dX12_tellDoor_122 : decode cX12_tellDoor 122 = .ok (.iconst 1, 1) := by decide +kernel
theorem dX12_tellDoor_123 : decode cX12_tellDoor 123 = .ok (.dup2, 1) := by decide +kernel
theorem dX12_tellDoor_124 : decode cX12_tellDoor 124 = .ok (.iaload, 1) := by decide +kernel
theorem dX12_tellDoor_125 : decode cX12_tellDoor 125 = .ok (.iconst 1, 1) := by decide +kernel
theorem dX12_tellDoor_126 : decode cX12_tellDoor 126 = .ok (.iadd, 1) := by decide +kernel
theorem dX12_tellDoor_127 : decode cX12_tellDoor 127 = .ok (.iastore, 1) := by decide +kernel
theorem dX12_tellDoor_128 : decode cX12_tellDoor 128 = .ok (.iconst 1, 1) := by decide +kernel
theorem dX12_tellDoor_129 : decode cX12_tellDoor 129 = .ok (.ireturn, 1) := by decide +kernel
theorem dX12_tellHill_0 : decode cX12_tellHill 0 = .ok (.aload_n 0, 1) := by decide +kernel
theorem dX12_tellHill_1 : decode cX12_tellHill 1 = .ok (.getfield 64, 3) := by decide +kernel
theorem dX12_tellHill_4 : decode cX12_tellHill 4 = .ok (.iconst 1, 1) := by decide +kernel
theorem dX12_tellHill_5 : decode cX12_tellHill 5 = .ok (.iaload, 1) := by decide +kernel
theorem dX12_tellHill_6 : decode cX12_tellHill 6 = .ok (.bipush 12, 2) := by decide +kernel
theorem dX12_tellHill_8 : decode cX12_tellHill 8 = .ok (.if_icmp .ne 9, 3) := by decide +kernel
theorem dX12_tellHill_11 : decode cX12_tellHill 11 = .ok (.aload_n 0, 1) := by decide +kernel
theorem dX12_tellHill_12 : decode cX12_tellHill 12 = .ok (.iconst 2, 1) := by decide +kernel
theorem dX12_tellHill_13 : decode cX12_tellHill 13 = .ok (.invokevirtual 314, 3) := by decide +kernel
theorem dX12_tellHill_16 : decode cX12_tellHill 16 = .ok (.ireturn, 1) := by decide +kernel
theorem dX12_tellHill_17 : decode cX12_tellHill 17 = .ok (.bipush 12, 2) := by decide +kernel
theorem dX12_tellHill_19 : decode cX12_tellHill 19 = .ok (.aload_n 0, 1) := by decide +kernel
theorem dX12_tellHill_20 : decode cX12_tellHill 20 = .ok (.getfield 64, 3) := by decide +kernel
theorem dX12_tellHill_23 : decode cX12_tellHill 23 = .ok (.iconst 1, 1) := by decide +kernel
theorem dX12_tellHill_24 : decode cX12_tellHill 24 = .ok (.iaload, 1) := by decide +kernel
theorem dX12_tellHill_25 : decode cX12_tellHill 25 = .ok (.iadd, 1) := by decide +kernel
theorem dX12_tellHill_26 : decode cX12_tellHill 26 = .ok (.istore_n 1, 1) := by decide +kernel
theorem dX12_tellHill_27 : decode cX12_tellHill 27 = .ok (.aload_n 0, 1) := by decide +kernel
theorem dX12_tellHill_28 : decode cX12_tellHill 28 = .ok (.invokevirtual 317, 3) := by decide +kernel
theorem dX12_tellHill_31 : decode cX12_tellHill 31 = .ok (.ifCond .eq 14, 3) := by decide +kernel
theorem dX12_tellHill_34 : decode cX12_tellHill 34 = .ok (.aload_n 0, 1) := by decide +kernel
theorem dX12_tellHill_35 : decode cX12_tellHill 35 = .ok (.iconst 0, 1) := by decide +kernel
theorem dX12_tellHill_36 : decode cX12_tellHill 36 = .ok (.sipush 359, 3) := by decide +kernel
theorem dX12_tellHill_39 : decode cX12_tellHill 39 = .ok (.invokevirtual 369, 3) := by decide +kernel
theorem dX12_tellHill_42 : decode cX12_tellHill 42 = .ok (.ifCond .ne 5, 3) := by decide +kernel
theorem dX12_tellHill_45 : decode cX12_tellHill 45 = .ok (.iconst 0, 1) := by decide +kernel
theorem dX12_tellHill_46 : decode cX12_tellHill 46 = .ok (.ireturn, 1) := by decide +kernel
theorem dX12_tellHill_47 : decode cX12_tellHill 47 = .ok (.aload_n 0, 1) := by decide +kernel
theorem dX12_tellHill_48 : decode cX12_tellHill 48 = .ok (.getfield 67, 3) := by decide +kernel
theorem dX12_tellHill_51 : decode cX12_tellHill 51 = .ok (.iload_n 1, 1) := by decide +kernel
theorem dX12_tellHill_52 : decode cX12_tellHill 52 = .ok (.aload_n 0, 1) := by decide +kernel
theorem dX12_tellHill_53 : decode cX12_tellHill 53 = .ok (.getfield 324, 3) := by decide +kernel
theorem dX12_tellHill_56 : decode cX12_tellHill 56 = .ok (.iastore, 1) := by decide +kernel
theorem dX12_tellHill_57 : decode cX12_tellHill 57 = .ok (.aload_n 0, 1) := by decide +kernel
theorem dX12_tellHill_58 : decode cX12_tellHill 58 = .ok (.iconst 0, 1) := by decide +kernel
theorem dX12_tellHill_59 : decode cX12_tellHill 59 = .ok (.sipush 359, 3) := by decide +kernel
theorem dX12_tellHill_62 : decode cX12_tellHill 62 = .ok (.invokevirtual 369, 3) := by decide +kernel
theorem dX12_tellHill_65 : decode cX12_tellHill 65 = .ok (.ifCond .ne 5, 3) := by decide +kernel
theorem dX12_tellHill_68 : decode cX12_tellHill 68 = .ok (.iconst 0, 1) := by decide +kernel
theorem dX12_tellHill_69 : decode cX12_tellHill 69 = .ok (.ireturn, 1) := by decide +kernel
theorem dX12_tellHill_70 : decode cX12_tellHill 70 = .ok (.aload_n 0, 1) := by decide +kernel
theorem dX12_tellHill_71 : decode cX12_tellHill 71 = .ok (.getfield 70, 3) := by decide +kernel
theorem dX12_tellHill_74 : decode cX12_tellHill 74 = .ok (.iload_n 1, 1) := by decide +kernel
theorem dX12_tellHill_75 : decode cX12_tellHill 75 = .ok (.aload_n 0, 1) := by decide +kernel
theorem dX12_tellHill_76 : decode cX12_tellHill 76 = .ok (.getfield 324, 3) := by decide +kernel
theorem dX12_tellHill_79 : decode cX12_tellHill 79 = .ok (.iastore, 1) := by decide +kernel
theorem dX12_tellHill_80 : decode cX12_tellHill 80 = .ok (.aload_n 0, 1) := by decide +kernel
theorem dX12_tellHill_81 : decode cX12_tellHill 81 = .ok (.iconst 0, 1) := by decide +kernel
theorem dX12_tellHill_82 : decode cX12_tellHill 82 = .ok (.bipush 20, 2) := by decide +kernel
theorem dX12_tellHill_84 : decode cX12_tellHill 84 = .ok (.invokevirtual 369, 3) := by decide +kernel
theorem dX12_tellHill_87 : decode cX12_tellHill 87 = .ok (.ifCond .ne 5, 3) := by decide +kernel
theorem dX12_tellHill_90 : decode cX12_tellHill 90 = .ok (.iconst 0, 1) := by decide +kernel
theorem dX12_tellHill_91 : decode cX12_tellHill 91 = .ok (.ireturn, 1) := by decide +kernel
theorem dX12_tellHill_92 : decode cX12_tellHill 92 = .ok (.aload_n 0, 1) := by decide +kernel
theorem dX12_tellHill_93 : decode cX12_tellHill 93 = .ok (.getfield 73, 3) := by decide +kernel
theorem dX12_tellHill_96 : decode cX12_tellHill 96 = .ok (.iload_n 1, 1) := by decide +kernel
theorem dX12_tellHill_97 : decode cX12_tellHill 97 = .ok (.aload_n 0, 1) := by decide +kernel
theorem dX12_tellHill_98 : decode cX12_tellHill 98 = .ok (.getfield 324, 3) := by decide +kernel
theorem dX12_tellHill_101 : decode cX12_tellHill 101 = .ok (.iastore, 1) := by decide +kernel
theorem dX12_tellHill_102 : decode cX12_tellHill 102 = .ok (.aload_n 0, 1) := by decide +kernel
theorem dX12_tellHill_103 : decode cX12_tellHill 103 = .ok (.getfield 64, 3) := by decide +kernel
theorem dX12_tellHill_106 : decode cX12_tellHill 106 = .ok (.iconst 1, 1) := by decide +kernel
theorem dX12_tellHill_107 : decode cX12_tellHill 107 = .ok (.dup2, 1) := by decide +kernel
theorem dX12_tellHill_108 : decode cX12_tellHill 108 = .ok (.iaload, 1) := by decide +kernel
theorem dX12_tellHill_109 : decode cX12_tellHill 109 = .ok (.iconst 1, 1) := by decide +kernel
theorem dX12_tellHill_110 : decode cX12_tellHill 110 = .ok (.iadd, 1) := by decide +kernel
theorem dX12_tellHill_111 : decode cX12_tellHill 111 = .ok (.iastore, 1) := by decide +kernel
theorem dX12_tellHill_112 : decode cX12_tellHill 112 = .ok (.iconst 1, 1) := by decide +kernel
theorem dX12_tellHill_113 : decode cX12_tellHill 113 = .ok (.ireturn, 1) := by decide +kernel
theorem dX12_tellSky_0 : decode cX12_tellSky 0 = .ok (.aload_n 0, 1) := by decide +kernel
theorem dX12_tellSky_1 : decode cX12_tellSky 1 = .ok (.getfield 76, 3) := by decide +kernel
theorem dX12_tellSky_4 : decode cX12_tellSky 4 = .ok (.iconst 1, 1) := by decide +kernel
theorem dX12_tellSky_5 : decode cX12_tellSky 5 = .ok (.iaload, 1) := by decide +kernel
theorem dX12_tellSky_6 : decode cX12_tellSky 6 = .ok (.iconst 5, 1) := by decide +kernel
theorem dX12_tellSky_7 : decode cX12_tellSky 7 = .ok (.if_icmp .ne 9, 3) := by decide +kernel
theorem dX12_tellSky_10 : decode cX12_tellSky 10 = .ok (.aload_n 0, 1) := by decide +kernel
theorem dX12_tellSky_11 : decode cX12_tellSky 11 = .ok (.iconst 2, 1) := by decide +kernel
theorem dX12_tellSky_12 : decode cX12_tellSky 12 = .ok (.invokevirtual 314, 3) := by decide +kernel
theorem dX12_tellSky_15 : decode cX12_tellSky 15 = .ok (.ireturn, 1) := by decide +kernel
theorem dX12_tellSky_16 : decode cX12_tellSky 16 = .ok (.iconst 5, 1) := by decide +kernel
theorem dX12_tellSky_17 : decode cX12_tellSky 17 = .ok (.aload_n 0, 1) := by decide +kernel
theorem dX12_tellSky_18 : decode cX12_tellSky 18 = .ok (.getfield 76, 3) := by decide +kernel
theorem dX12_tellSky_21 : decode cX12_tellSky 21 = .ok (.iconst 1, 1) := by decide +kernel
theorem dX12_tellSky_22 : decode cX12_tellSky 22 = .ok (.iaload, 1) := by decide +kernel
theorem dX12_tellSky_23 : decode cX12_tellSky 23 = .ok (.iadd, 1) := by decide +kernel
theorem dX12_tellSky_24 : decode cX12_tellSky 24 = .ok (.istore_n 1, 1) := by decide +kernel
theorem dX12_tellSky_25 : decode cX12_tellSky 25 = .ok (.aload_n 0, 1) := by decide +kernel
theorem dX12_tellSky_26 : decode cX12_tellSky 26 = .ok (.invokevirtual 317, 3) := by decide +kernel
theorem dX12_tellSky_29 : decode cX12_tellSky 29 = .ok (.ifCond .eq 11, 3) := by decide +kernel
theorem dX12_tellSky_32 : decode cX12_tellSky 32 = .ok (.aload_n 0, 1) := by decide +kernel
theorem dX12_tellSky_33 : decode cX12_tellSky 33 = .ok (.iconst (-1), 1) := by decide +kernel
theorem dX12_tellSky_34 : decode cX12_tellSky 34 = .ok (.invokevirtual 367, 3) := by decide +kernel
theorem dX12_tellSky_37 : decode cX12_tellSky 37 = .ok (.ifCond .ne 5, 3) := by decide +kernel
theorem dX12_tellSky_40 : decode cX12_tellSky 40 = .ok (.iconst 0, 1) := by decide +kernel
theorem dX12_tellSky_41 : decode cX12_tellSky 41 = .ok (.ireturn, 1) := by decide +kernel
theorem dX12_tellSky_42 : decode cX12_tellSky 42 = .ok (.aload_n 0, 1) := by decide +kernel
theorem dX12_tellSky_43 : decode cX12_tellSky 43 = .ok (.getfield 79, 3) := by decide +kernel
theorem dX12_tellSky_46 : decode cX12_tellSky 46 = .ok (.iload_n 1, 1) := by decide +kernel
theorem dX12_tellSky_47 : decode cX12_tellSky 47 = .ok (.iconst 0, 1) := by decide +kernel
theorem dX12_tellSky_48 : decode cX12_tellSky 48 = .ok (.iastore, 1) := by decide +kernel
theorem dX12_tellSky_49 : decode cX12_tellSky 49 = .ok (.aload_n 0, 1) := by decide +kernel
theorem dX12_tellSky_50 : decode cX12_tellSky 50 = .ok (.iconst 5, 1) := by decide +kernel
theorem dX12_tellSky_51 : decode cX12_tellSky 51 = .ok (.invokevirtual 358, 3) := by decide +kernel
theorem dX12_tellSky_54 : decode cX12_tellSky 54 = .ok (.ifCond .eq 32, 3) := by decide +kernel
theorem dX12_tellSky_57 : decode cX12_tellSky 57 = .ok (.aload_n 0, 1) := by decide +kernel
theorem dX12_tellSky_58 : decode cX12_tellSky 58 = .ok (.invokevirtual 317, 3) := by decide +kernel
theorem dX12_tellSky_61 : decode cX12_tellSky 61 = .ok (.ifCond .eq 13, 3) := by decide +kernel
theorem dX12_tellSky_64 : decode cX12_tellSky 64 = .ok (.aload_n 0, 1) := by decide +kernel
theorem dX12_tellSky_65 : decode cX12_tellSky 65 = .ok (.iconst 0, 1) := by decide +kernel
theorem dX12_tellSky_66 : decode cX12_tellSky 66 = .ok (.bipush 20, 2) := by decide +kernel
theorem dX12_tellSky_68 : decode cX12_tellSky 68 = .ok (.invokevirtual 369, 3) := by decide +kernel
theorem dX12_tellSky_71 : decode cX12_tellSky 71 = .ok (.ifCond .ne 5, 3) := by decide +kernel
theorem dX12_tellSky_74 : decode cX12_tellSky 74 = .ok (.iconst 0, 1) := by decide +kernel
theorem dX12_tellSky_75 : decode cX12_tellSky 75 = .ok (.ireturn, 1) := by decide +kernel
theorem dX12_tellSky_76 : decode cX12_tellSky 76 = .ok (.aload_n 0, 1) := by decide +kernel
theorem dX12_tellSky_77 : decode cX12_tellSky 77 = .ok (.getfield 79, 3) := by decide +kernel
theorem dX12_tellSky_80 : decode cX12_tellSky 80 = .ok (.iload_n 1, 1) := by decide +kernel
theorem dX12_tellSky_81 : decode cX12_tellSky 81 = .ok (.aload_n 0, 1) := by decide +kernel
theorem dX12_tellSky_82 : decode cX12_tellSky 82 = .ok (.getfield 324, 3) := by decide +kernel
theorem dX12_tellSky_85 : decode cX12_tellSky 85 = .ok (.iastore, 1) := by decide +kernel
theorem dX12_tellSky_86 : decode cX12_tellSky 86 = .ok (.aload_n 0, 1) := by decide +kernel
theorem dX12_tellSky_87 : decode cX12_tellSky 87 = .ok (.bipush 61, 2) := by decide +kernel
theorem dX12_tellSky_89 : decode cX12_tellSky 89 = .ok (.invokevirtual 343, 3) := by decide +kernel
theorem dX12_tellSky_92 : decode cX12_tellSky 92 = .ok (.ifCond .ne 9, 3) := by decide +kernel
theorem dX12_tellSky_95 : decode cX12_tellSky 95 = .ok (.aload_n 0, 1) := by decide +kernel
theorem dX12_tellSky_96 : decode cX12_tellSky 96 = .ok (.iconst 1, 1) := by decide +kernel
theorem dX12_tellSky_97 : decode cX12_tellSky 97 = .ok (.invokevirtual 314, 3) := by decide +kernel
theorem dX12_tellSky_100 : decode cX12_tellSky 100 = .ok (.ireturn, 1) := by decide +kernel
theorem dX12_tellSky_101 : decode cX12_tellSky 101 = .ok (.aload_n 0, 1) := by decide +kernel
theorem dX12_tellSky_102 : decode cX12_tellSky 102 = .ok (.invokevirtual 317, 3) := by decide +kernel
theorem dX12_tellSky_105 : decode cX12_tellSky 105 = .ok (.ifCond .eq 10, 3) := by decide +kernel
theorem dX12_tellSky_108 : decode cX12_tellSky 108 = .ok (.aload_n 0, 1) := by decide +kernel
theorem dX12_tellSky_109 : decode cX12_tellSky 109 = .ok (.invokevirtual 361, 3) := by decide +kernel
theorem dX12_tellSky_112 : decode cX12_tellSky 112 = .ok (.ifCond .ne 5, 3) := by decide +kernel
theorem dX12_tellSky_115 : decode cX12_tellSky 115 = .ok (.iconst 0, 1) := by decide +kernel
theorem dX12_tellSky_116 : decode cX12_tellSky 116 = .ok (.ireturn, 1) := by decide +kernel
theorem dX12_tellSky_117 : decode cX12_tellSky 117 = .ok (.aload_n 0, 1) := by decide +kernel
theorem dX12_tellSky_118 : decode cX12_tellSky 118 = .ok (.getfield 82, 3) := by decide +kernel
theorem dX12_tellSky_121 : decode cX12_tellSky 121 = .ok (.iload_n 1, 1) := by decide +kernel
theorem dX12_tellSky_122 : decode cX12_tellSky 122 = .ok (.aload_n 0, 1) := by decide +kernel
theorem dX12_tellSky_123 : decode cX12_tellSky 123 = .ok (.getfield 340, 3) := by decide +kernel
theorem dX12_tellSky_126 : decode cX12_tellSky 126 = .ok (.iastore, 1) := by decide +kernel
theorem dX12_tellSky_127 : decode cX12_tellSky 127 = .ok (.aload_n 0, 1) := by decide +kernel
theorem dX12_tellSky_128 : decode cX12_tellSky 128 = .ok (.getfield 85, 3) := by decide +kernel
theorem dX12_tellSky_131 : decode cX12_tellSky 131 = .ok (.iload_n 1, 1) := by decide +kernel
theorem dX12_tellSky_132 : decode cX12_tellSky 132 = .ok (.aload_n 0, 1) := by decide +kernel
theorem dX12_tellSky_133 : decode cX12_tellSky 133 = .ok (.getfield 97, 3) := by decide +kernel
theorem dX12_tellSky_136 : decode cX12_tellSky 136 = .ok (.iconst 1, 1) := by decide +kernel
theorem dX12_tellSky_137 : decode cX12_tellSky 137 = .ok (.iaload, 1) := by decide +kernel
theorem dX12_tellSky_138 : decode cX12_tellSky 138 = .ok (.iastore, 1) := by decide +kernel
theorem dX12_tellSky_139 : decode cX12_tellSky 139 = .ok (.aload_n 0, 1) := by decide +kernel
theorem dX12_tellSky_140 : decode cX12_tellSky 140 = .ok (.getfield 76, 3) := by decide +kernel
theorem dX12_tellSky_143 : decode cX12_tellSky 143 = .ok (.iconst 1, 1) := by decide +kernel
theorem dX12_tellSky_144 : decode cX12_tellSky 144 = .ok (.dup2, 1) := by decide +kernel
theorem dX12_tellSky_145 : decode cX12_tellSky 145 = .ok (.iaload, 1) := by decide +kernel
theorem dX12_tellSky_146 : decode cX12_tellSky 146 = .ok (.iconst 1, 1) := by decide +kernel
theorem dX12_tellSky_147 : decode cX12_tellSky 147 = .ok (.iadd, 1) := by decide +kernel
theorem dX12_tellSky_148 : decode cX12_tellSky 148 = .ok (.iastore, 1) := by decide +kernel
theorem dX12_tellSky_149 : decode cX12_tellSky 149 = .ok (.iconst 1, 1) := by decide +kernel
theorem dX12_tellSky_150 : decode cX12_tellSky 150 = .ok (.ireturn, 1) := by decide +kernel
theorem dX12_tellRule_0 : decode cX12_tellRule 0 = .ok (.aload_n 0, 1) := by decide +kernel
theorem dX12_tellRule_1 : decode cX12_tellRule 1 = .ok (.getfield 88, 3) := by decide +kernel
theorem dX12_tellRule_4 : decode cX12_tellRule 4 = .ok (.iconst 1, 1) := by decide +kernel
theorem dX12_tellRule_5 : decode cX12_tellRule 5 = .ok (.iaload, 1) := by decide +kernel
theorem dX12_tellRule_6 : decode cX12_tellRule 6 = .ok (.bipush 6, 2) := by decide +kernel
theorem dX12_tellRule_8 : decode cX12_tellRule 8 = .ok (.if_icmp .ne 9, 3) := by decide +kernel
theorem dX12_tellRule_11 : decode cX12_tellRule 11 = .ok (.aload_n 0, 1) := by decide +kernel
theorem dX12_tellRule_12 : decode cX12_tellRule 12 = .ok (.iconst 2, 1) := by decide +kernel
theorem dX12_tellRule_13 : decode cX12_tellRule 13 = .ok (.invokevirtual 314, 3) := by decide +kernel
theorem dX12_tellRule_16 : decode cX12_tellRule 16 = .ok (.ireturn, 1) := by decide +kernel
theorem dX12_tellRule_17 : decode cX12_tellRule 17 = .ok (.aload_n 0, 1) := by decide +kernel
theorem dX12_tellRule_18 : decode cX12_tellRule 18 = .ok (.invokevirtual 317, 3) := by decide +kernel
theorem dX12_tellRule_21 : decode cX12_tellRule 21 = .ok (.ifCond .ne 5, 3) := by decide +kernel
theorem dX12_tellRule_24 : decode cX12_tellRule 24 = .ok (.iconst 0, 1) := by decide +kernel
theorem dX12_tellRule_25 : decode cX12_tellRule 25 = .ok (.ireturn, 1) := by decide +kernel
theorem dX12_tellRule_26 : decode cX12_tellRule 26 = .ok (.aload_n 0, 1) := by decide +kernel
theorem dX12_tellRule_27 : decode cX12_tellRule 27 = .ok (.bipush 8, 2) := by decide +kernel
theorem dX12_tellRule_29 : decode cX12_tellRule 29 = .ok (.invokevirtual 358, 3) := by decide +kernel
theorem dX12_tellRule_32 : decode cX12_tellRule 32 = .ok (.ifCond .ne 9, 3) := by decide +kernel
theorem dX12_tellRule_35 : decode cX12_tellRule 35 = .ok (.aload_n 0, 1) := by decide +kernel
theorem dX12_tellRule_36 : decode cX12_tellRule 36 = .ok (.iconst 1, 1) := by decide +kernel
theorem dX12_tellRule_37 : decode cX12_tellRule 37 = .ok (.invokevirtual 314, 3) := by decide +kernel
theorem dX12_tellRule_40 : decode cX12_tellRule 40 = .ok (.ireturn, 1) := by decide +kernel
theorem dX12_tellRule_41 : decode cX12_tellRule 41 = .ok (.aload_n 0, 1) := by decide +kernel
theorem dX12_tellRule_42 : decode cX12_tellRule 42 = .ok (.invokevirtual 317, 3) := by decide +kernel
theorem dX12_tellRule_45 : decode cX12_tellRule 45 = .ok (.ifCond .eq 10, 3) := by decide +kernel
theorem dX12_tellRule_48 : decode cX12_tellRule 48 = .ok (.aload_n 0, 1) := by decide +kernel
theorem dX12_tellRule_49 : decode cX12_tellRule 49 = .ok (.invokevirtual 376, 3) := by decide +kernel
theorem dX12_tellRule_52 : decode cX12_tellRule 52 = .ok (.ifCond .ne 5, 3) := by decide +kernel
theorem dX12_tellRule_55 : decode cX12_tellRule 55 = .ok (.iconst 0, 1) := by decide +kernel
theorem dX12_tellRule_56 : decode cX12_tellRule 56 = .ok (.ireturn, 1) := by decide +kernel
theorem dX12_tellRule_57 : decode cX12_tellRule 57 = .ok (.aload_n 0, 1) := by decide +kernel
theorem dX12_tellRule_58 : decode cX12_tellRule 58 = .ok (.getfield 91, 3) := by decide +kernel
theorem dX12_tellRule_61 : decode cX12_tellRule 61 = .ok (.bipush 6, 2) := by decide +kernel
theorem dX12_tellRule_63 : decode cX12_tellRule 63 = .ok (.aload_n 0, 1) := by decide +kernel
theorem dX12_tellRule_64 : decode cX12_tellRule 64 = .ok (.getfield 88, 3) := by decide +kernel
theorem dX12_tellRule_67 : decode cX12_tellRule 67 = .ok (.iconst 1, 1) := by decide +kernel
theorem dX12_tellRule_68 : decode cX12_tellRule 68 = .ok (.iaload, 1) := by decide +kernel
theorem dX12_tellRule_69 : decode cX12_tellRule 69 = .ok (.iadd, 1) := by decide +kernel
theorem dX12_tellRule_70 : decode cX12_tellRule 70 = .ok (.aload_n 0, 1) := by decide +kernel
theorem dX12_tellRule_71 : decode cX12_tellRule 71 = .ok (.getfield 355, 3) := by decide +kernel
theorem dX12_tellRule_74 : decode cX12_tellRule 74 = .ok (.iastore, 1) := by decide +kernel
theorem dX12_tellRule_75 : decode cX12_tellRule 75 = .ok (.aload_n 0, 1) := by decide +kernel
theorem dX12_tellRule_76 : decode cX12_tellRule 76 = .ok (.getfield 94, 3) := by decide +kernel
theorem dX12_tellRule_79 : decode cX12_tellRule 79 = .ok (.bipush 6, 2) := by decide +kernel
theorem dX12_tellRule_81 : decode cX12_tellRule 81 = .ok (.aload_n 0, 1) := by decide +kernel
theorem dX12_tellRule_82 : decode cX12_tellRule 82 = .ok (.getfield 88, 3) := by decide +kernel
theorem dX12_tellRule_85 : decode cX12_tellRule 85 = .ok (.iconst 1, 1) := by decide +kernel
theorem dX12_tellRule_86 : decode cX12_tellRule 86 = .ok (.iaload, 1) := by decide +kernel
theorem dX12_tellRule_87 : decode cX12_tellRule 87 = .ok (.iadd, 1) := by decide +kernel
theorem dX12_tellRule_88 : decode cX12_tellRule 88 = .ok (.aload_n 0, 1) := by decide +kernel
theorem dX12_tellRule_89 : decode cX12_tellRule 89 = .ok (.getfield 106, 3) := by decide +kernel
theorem dX12_tellRule_92 : decode cX12_tellRule 92 = .ok (.iconst 1, 1) := by decide +kernel
theorem dX12_tellRule_93 : decode cX12_tellRule 93 = .ok (.iaload, 1) := by decide +kernel
theorem dX12_tellRule_94 : decode cX12_tellRule 94 = .ok (.iastore, 1) := by decide +kernel
theorem dX12_tellRule_95 : decode cX12_tellRule 95 = .ok (.aload_n 0, 1) := by decide +kernel
theorem dX12_tellRule_96 : decode cX12_tellRule 96 = .ok (.getfield 88, 3) := by decide +kernel
theorem dX12_tellRule_99 : decode cX12_tellRule 99 = .ok (.iconst 1, 1) := by decide +kernel
theorem dX12_tellRule_100 : decode cX12_tellRule 100 = .ok (.dup2, 1) := by decide +kernel
theorem dX12_tellRule_101 : decode cX12_tellRule 101 = .ok (.iaload, 1) := by decide +kernel
theorem dX12_tellRule_102 : decode cX12_tellRule 102 = .ok (.iconst 1, 1) := by decide +kernel
theorem dX12_tellRule_103 : decode cX12_tellRule 103 = .ok (.iadd, 1) := by decide +kernel
theorem dX12_tellRule_104 : decode cX12_tellRule 104 = .ok (.iastore, 1) := by decide +kernel
theorem dX12_tellRule_105 : decode cX12_tellRule 105 = .ok (.iconst 1, 1) := by decide +kernel
theorem dX12_tellRule_106 : decode cX12_tellRule 106 = .ok (.ireturn, 1) := by decide +kernel
theorem dX12_tell_0 : decode cX12_tell 0 = .ok (.aload_n 0, 1) := by decide +kernel
theorem dX12_tell_1 : decode cX12_tell 1 = .ok (.getfield 13, 3) := by decide +kernel
theorem dX12_tell_4 : decode cX12_tell 4 = .ok (.aload_n 0, 1) := by decide +kernel
theorem dX12_tell_5 : decode cX12_tell 5 = .ok (.getfield 305, 3) := by decide +kernel
theorem dX12_tell_8 : decode cX12_tell 8 = .ok (.iaload, 1) := by decide +kernel
theorem dX12_tell_9 : decode cX12_tell 9 = .ok (.iconst 3, 1) := by decide +kernel
theorem dX12_tell_10 : decode cX12_tell 10 = .ok (.if_icmp .ne 15, 3) := by decide +kernel
theorem dX12_tell_13 : decode cX12_tell 13 = .ok (.aload_n 0, 1) := by decide +kernel
theorem dX12_tell_14 : decode cX12_tell 14 = .ok (.getfield 19, 3) := by decide +kernel
theorem dX12_tell_17 : decode cX12_tell 17 = .ok (.aload_n 0, 1) := by decide +kernel
theorem dX12_tell_18 : decode cX12_tell 18 = .ok (.getfield 305, 3) := by decide +kernel
theorem dX12_tell_21 : decode cX12_tell 21 = .ok (.iaload, 1) := by decide +kernel
theorem dX12_tell_22 : decode cX12_tell 22 = .ok (.goto 4, 3) := by decide +kernel
theorem dX12_tell_25 : decode cX12_tell 25 = .ok (.iconst (-1), 1) := by decide +kernel
theorem dX12_tell_26 : decode cX12_tell 26 = .ok (.istore_n 1, 1) := by decide +kernel
theorem dX12_tell_27 : decode cX12_tell 27 = .ok (.iload_n 1, 1) := by decide +kernel
theorem dX12_tell_28 : decode cX12_tell 28 = .ok (.ifCond .eq 8, 3) := by decide +kernel
theorem dX12_tell_31 : decode cX12_tell 31 = .ok (.iload_n 1, 1) := by decide +kernel
theorem dX12_tell_32 : decode cX12_tell 32 = .ok (.iconst 1, 1) := by decide +kernel
theorem dX12_tell_33 : decode cX12_tell 33 = .ok (.if_icmp .ne 17, 3) := by decide +kernel
theorem dX12_tell_36 : decode cX12_tell 36 = .ok (.aload_n 0, 1) := by decide +kernel
theorem dX12_tell_37 : decode cX12_tell 37 = .ok (.iload_n 1, 1) := by decide +kernel
theorem dX12_tell_38 : decode cX12_tell 38 = .ok (.ifCond .ne 7, 3) := by decide +kernel
theorem dX12_tell_41 : decode cX12_tell 41 = .ok (.iconst 1, 1) := by decide +kernel
theorem dX12_tell_42 : decode cX12_tell 42 = .ok (.goto 4, 3) := by decide +kernel
theorem dX12_tell_45 : decode cX12_tell 45 = .ok (.iconst 0, 1) := by decide +kernel
theorem dX12_tell_46 : decode cX12_tell 46 = .ok (.invokevirtual 379, 3) := by decide +kernel
theorem dX12_tell_49 : decode cX12_tell 49 = .ok (.ireturn, 1) := by decide +kernel
theorem dX12_tell_50 : decode cX12_tell 50 = .ok (.iload_n 1, 1) := by decide +kernel
theorem dX12_tell_51 : decode cX12_tell 51 = .ok (.iconst 2, 1) := by decide +kernel
theorem dX12_tell_52 : decode cX12_tell 52 = .ok (.if_icmp .ne 8, 3) := by decide +kernel
theorem dX12_tell_55 : decode cX12_tell 55 = .ok (.aload_n 0, 1) := by decide +kernel
theorem dX12_tell_56 : decode cX12_tell 56 = .ok (.invokevirtual 383, 3) := by decide +kernel
theorem dX12_tell_59 : decode cX12_tell 59 = .ok (.ireturn, 1) := by decide +kernel
theorem dX12_tell_60 : decode cX12_tell 60 = .ok (.iload_n 1, 1) := by decide +kernel
theorem dX12_tell_61 : decode cX12_tell 61 = .ok (.iconst 3, 1) := by decide +kernel
theorem dX12_tell_62 : decode cX12_tell 62 = .ok (.if_icmp .ne 8, 3) := by decide +kernel
theorem dX12_tell_65 : decode cX12_tell 65 = .ok (.aload_n 0, 1) := by decide +kernel
theorem dX12_tell_66 : decode cX12_tell 66 = .ok (.invokevirtual 386, 3) := by decide +kernel
theorem dX12_tell_69 : decode cX12_tell 69 = .ok (.ireturn, 1) := by decide +kernel
theorem dX12_tell_70 : decode cX12_tell 70 = .ok (.iload_n 1, 1) := by decide +kernel
theorem dX12_tell_71 : decode cX12_tell 71 = .ok (.iconst 4, 1) := by decide +kernel
theorem dX12_tell_72 : decode cX12_tell 72 = .ok (.if_icmp .ne 8, 3) := by decide +kernel
theorem dX12_tell_75 : decode cX12_tell 75 = .ok (.aload_n 0, 1) := by decide +kernel
theorem dX12_tell_76 : decode cX12_tell 76 = .ok (.invokevirtual 389, 3) := by decide +kernel
theorem dX12_tell_79 : decode cX12_tell 79 = .ok (.ireturn, 1) := by decide +kernel
theorem dX12_tell_80 : decode cX12_tell 80 = .ok (.iload_n 1, 1) := by decide +kernel
theorem dX12_tell_81 : decode cX12_tell 81 = .ok (.bipush 7, 2) := by decide +kernel
theorem dX12_tell_83 : decode cX12_tell 83 = .ok (.if_icmp .ne 8, 3) := by decide +kernel
theorem dX12_tell_86 : decode cX12_tell 86 = .ok (.aload_n 0, 1) := by decide +kernel
theorem dX12_tell_87 : decode cX12_tell 87 = .ok (.invokevirtual 392, 3) := by decide +kernel
theorem dX12_tell_90 : decode cX12_tell 90 = .ok (.ireturn, 1) := by decide +kernel
theorem dX12_tell_91 : decode cX12_tell 91 = .ok (.iload_n 1, 1) := by decide +kernel
theorem dX12_tell_92 : decode cX12_tell 92 = .ok (.bipush 6, 2) := by decide +kernel
theorem dX12_tell_94 : decode cX12_tell 94 = .ok (.if_icmp .eq 9, 3) := by decide +kernel
theorem dX12_tell_97 : decode cX12_tell 97 = .ok (.aload_n 0, 1) := by decide +kernel
theorem dX12_tell_98 : decode cX12_tell 98 = .ok (.iconst 1, 1) := by decide +kernel
theorem dX12_tell_99 : decode cX12_tell 99 = .ok (.invokevirtual 314, 3) := by decide +kernel
theorem dX12_tell_102 : decode cX12_tell 102 = .ok (.ireturn, 1) := by decide +kernel
theorem dX12_tell_103 : decode cX12_tell 103 = .ok (.aload_n 0, 1) := by decide +kernel
theorem dX12_tell_104 : decode cX12_tell 104 = .ok (.invokevirtual 317, 3) := by decide +kernel
theorem dX12_tell_107 : decode cX12_tell 107 = .ok (.ifCond .eq 13, 3) := by decide +kernel
theorem dX12_tell_110 : decode cX12_tell 110 = .ok (.aload_n 0, 1) := by decide +kernel
theorem dX12_tell_111 : decode cX12_tell 111 = .ok (.iconst 0, 1) := by decide +kernel
theorem dX12_tell_112 : decode cX12_tell 112 = .ok (.bipush 20, 2) := by decide +kernel
theorem dX12_tell_114 : decode cX12_tell 114 = .ok (.invokevirtual 369, 3) := by decide +kernel
theorem dX12_tell_117 : decode cX12_tell 117 = .ok (.ifCond .ne 5, 3) := by decide +kernel
theorem dX12_tell_120 : decode cX12_tell 120 = .ok (.iconst 0, 1) := by decide +kernel
theorem dX12_tell_121 : decode cX12_tell 121 = .ok (.ireturn, 1) := by decide +kernel
theorem dX12_tell_122 : decode cX12_tell 122 = .ok (.aload_n 0, 1) := by decide +kernel
theorem dX12_tell_123 : decode cX12_tell 123 = .ok (.getfield 34, 3) := by decide +kernel
theorem dX12_tell_126 : decode cX12_tell 126 = .ok (.iconst 1, 1) := by decide +kernel
theorem dX12_tell_127 : decode cX12_tell 127 = .ok (.aload_n 0, 1) := by decide +kernel
theorem dX12_tell_128 : decode cX12_tell 128 = .ok (.getfield 324, 3) := by decide +kernel
theorem dX12_tell_131 : decode cX12_tell 131 = .ok (.iastore, 1) := by decide +kernel
theorem dX12_tell_132 : decode cX12_tell 132 = .ok (.iconst 1, 1) := by decide +kernel
theorem dX12_tell_133 : decode cX12_tell 133 = .ok (.ireturn, 1) := by decide +kernel
theorem dX12_parses_0 : decode cX12_parses 0 = .ok (.aload_n 0, 1) := by decide +kernel
theorem dX12_parses_1 : decode cX12_parses 1 = .ok (.iconst 0, 1) := by decide +kernel
theorem dX12_parses_2 : decode cX12_parses 2 = .ok (.putfield 305, 3) := by decide +kernel
theorem dX12_parses_5 : decode cX12_parses 5 = .ok (.aload_n 0, 1) := by decide +kernel
theorem dX12_parses_6 : decode cX12_parses 6 = .ok (.getfield 13, 3) := by decide +kernel
theorem dX12_parses_9 : decode cX12_parses 9 = .ok (.aload_n 0, 1) := by decide +kernel
theorem dX12_parses_10 : decode cX12_parses 10 = .ok (.getfield 305, 3) := by decide +kernel
theorem dX12_parses_13 : decode cX12_parses 13 = .ok (.iaload, 1) := by decide +kernel
theorem dX12_parses_14 : decode cX12_parses 14 = .ok (.iconst 4, 1) := by decide +kernel
theorem dX12_parses_15 : decode cX12_parses 15 = .ok (.if_icmp .eq 36, 3) := by decide +kernel
theorem dX12_parses_18 : decode cX12_parses 18 = .ok (.aload_n 0, 1) := by decide +kernel
theorem dX12_parses_19 : decode cX12_parses 19 = .ok (.invokevirtual 395, 3) := by decide +kernel
theorem dX12_parses_22 : decode cX12_parses 22 = .ok (.ifCond .ne 5, 3) := by decide +kernel
theorem dX12_parses_25 : decode cX12_parses 25 = .ok (.iconst 0, 1) := by decide +kernel
theorem dX12_parses_26 : decode cX12_parses 26 = .ok (.ireturn, 1) := by decide +kernel
theorem dX12_parses_27 : decode cX12_parses 27 = .ok (.aload_n 0, 1) := by decide +kernel
theorem dX12_parses_28 : decode cX12_parses 28 = .ok (.bipush 59, 2) := by decide +kernel
theorem dX12_parses_30 : decode cX12_parses 30 = .ok (.invokevirtual 343, 3) := by decide +kernel
theorem dX12_parses_33 : decode cX12_parses 33 = .ok (.ifCond .ne 9, 3) := by decide +kernel
theorem dX12_parses_36 : decode cX12_parses 36 = .ok (.aload_n 0, 1) := by decide +kernel
theorem dX12_parses_37 : decode cX12_parses 37 = .ok (.iconst 1, 1) := by decide +kernel
theorem dX12_parses_38 : decode cX12_parses 38 = .ok (.invokevirtual 314, 3) := by decide +kernel
theorem dX12_parses_41 : decode cX12_parses 41 = .ok (.ireturn, 1) := by decide +kernel
theorem dX12_parses_42 : decode cX12_parses 42 = .ok (.aload_n 0, 1) := by decide +kernel
theorem dX12_parses_43 : decode cX12_parses 43 = .ok (.invokevirtual 317, 3) := by decide +kernel
theorem dX12_parses_46 : decode cX12_parses 46 = .ok (.ifCond .ne (-41), 3) := by decide +kernel
theorem dX12_parses_49 : decode cX12_parses 49 = .ok (.iconst 0, 1) := by decide +kernel
theorem dX12_parses_50 : decode cX12_parses 50 = .ok (.ireturn, 1) := by decide +kernel
theorem dX12_parses_51 : decode cX12_parses 51 = .ok (.iconst 1, 1) := by decide +kernel
theorem dX12_parses_52 : decode cX12_parses 52 = .ok (.ireturn, 1) := by decide +kernel
theorem dX12_read_0 : decode cX12_read 0 = .ok (.aload_n 0, 1) := by decide +kernel
theorem dX12_read_1 : decode cX12_read 1 = .ok (.invokevirtual 398, 3) := by decide +kernel
theorem dX12_read_4 : decode cX12_read 4 = .ok (.aload_n 0, 1) := by decide +kernel
theorem dX12_read_5 : decode cX12_read 5 = .ok (.iconst 0, 1) := by decide +kernel
theorem dX12_read_6 : decode cX12_read 6 = .ok (.putfield 302, 3) := by decide +kernel
theorem dX12_read_9 : decode cX12_read 9 = .ok (.aload_n 0, 1) := by decide +kernel
theorem dX12_read_10 : decode cX12_read 10 = .ok (.iconst (-1), 1) := by decide +kernel
theorem dX12_read_11 : decode cX12_read 11 = .ok (.putfield 26, 3) := by decide +kernel
theorem dX12_read_14 : decode cX12_read 14 = .ok (.aload_n 0, 1) := by decide +kernel
theorem dX12_read_15 : decode cX12_read 15 = .ok (.iconst 0, 1) := by decide +kernel
theorem dX12_read_16 : decode cX12_read 16 = .ok (.putfield 308, 3) := by decide +kernel
theorem dX12_read_19 : decode cX12_read 19 = .ok (.aload_n 0, 1) := by decide +kernel
theorem dX12_read_20 : decode cX12_read 20 = .ok (.iconst 1, 1) := by decide +kernel
theorem dX12_read_21 : decode cX12_read 21 = .ok (.invokevirtual 218, 3) := by decide +kernel
theorem dX12_read_24 : decode cX12_read 24 = .ok (.aload_n 0, 1) := by decide +kernel
theorem dX12_read_25 : decode cX12_read 25 = .ok (.invokevirtual 401, 3) := by decide +kernel
theorem dX12_read_28 : decode cX12_read 28 = .ok (.ifCond .eq 26, 3) := by decide +kernel
theorem dX12_read_31 : decode cX12_read 31 = .ok (.aload_n 0, 1) := by decide +kernel
theorem dX12_read_32 : decode cX12_read 32 = .ok (.getfield 308, 3) := by decide +kernel
theorem dX12_read_35 : decode cX12_read 35 = .ok (.ifCond .eq 19, 3) := by decide +kernel
theorem dX12_read_38 : decode cX12_read 38 = .ok (.aload_n 0, 1) := by decide +kernel
theorem dX12_read_39 : decode cX12_read 39 = .ok (.aload_n 0, 1) := by decide +kernel
theorem dX12_read_40 : decode cX12_read 40 = .ok (.getfield 308, 3) := by decide +kernel
theorem dX12_read_43 : decode cX12_read 43 = .ok (.putfield 302, 3) := by decide +kernel
theorem dX12_read_46 : decode cX12_read 46 = .ok (.aload_n 0, 1) := by decide +kernel
theorem dX12_read_47 : decode cX12_read 47 = .ok (.aload_n 0, 1) := by decide +kernel
theorem dX12_read_48 : decode cX12_read 48 = .ok (.getfield 311, 3) := by decide +kernel
theorem dX12_read_51 : decode cX12_read 51 = .ok (.putfield 26, 3) := by decide +kernel
theorem dX12_read_54 : decode cX12_read 54 = .ok (.aload_n 0, 1) := by decide +kernel
theorem dX12_read_55 : decode cX12_read 55 = .ok (.iconst 0, 1) := by decide +kernel
theorem dX12_read_56 : decode cX12_read 56 = .ok (.putfield 222, 3) := by decide +kernel
theorem dX12_read_59 : decode cX12_read 59 = .ok (.aload_n 0, 1) := by decide +kernel
theorem dX12_read_60 : decode cX12_read 60 = .ok (.getfield 302, 3) := by decide +kernel
theorem dX12_read_63 : decode cX12_read 63 = .ok (.ifCond .ne 9, 3) := by decide +kernel
theorem dX12_read_66 : decode cX12_read 66 = .ok (.aload_n 0, 1) := by decide +kernel
theorem dX12_read_67 : decode cX12_read 67 = .ok (.iconst 1, 1) := by decide +kernel
theorem dX12_read_68 : decode cX12_read 68 = .ok (.iconst 0, 1) := by decide +kernel
theorem dX12_read_69 : decode cX12_read 69 = .ok (.invokevirtual 404, 3) := by decide +kernel
theorem dX12_read_72 : decode cX12_read 72 = .ok (.aload_n 0, 1) := by decide +kernel
theorem dX12_read_73 : decode cX12_read 73 = .ok (.getfield 302, 3) := by decide +kernel
theorem dX12_read_76 : decode cX12_read 76 = .ok (.ireturn, 1) := by decide +kernel
theorem dX12_place_0 : decode cX12_place 0 = .ok (.aload_n 0, 1) := by decide +kernel
theorem dX12_place_1 : decode cX12_place 1 = .ok (.getfield 26, 3) := by decide +kernel
theorem dX12_place_4 : decode cX12_place 4 = .ok (.ireturn, 1) := by decide +kernel
theorem dX12_hold_0 : decode cX12_hold 0 = .ok (.iload_n 1, 1) := by decide +kernel
theorem dX12_hold_1 : decode cX12_hold 1 = .ok (.ifCond .lt 8, 3) := by decide +kernel
theorem dX12_hold_4 : decode cX12_hold 4 = .ok (.iload_n 1, 1) := by decide +kernel
theorem dX12_hold_5 : decode cX12_hold 5 = .ok (.iconst 2, 1) := by decide +kernel
theorem dX12_hold_6 : decode cX12_hold 6 = .ok (.if_icmp .le 5, 3) := by decide +kernel
theorem dX12_hold_9 : decode cX12_hold 9 = .ok (.iconst 0, 1) := by decide +kernel
theorem dX12_hold_10 : decode cX12_hold 10 = .ok (.ireturn, 1) := by decide +kernel
theorem dX12_hold_11 : decode cX12_hold 11 = .ok (.aload_n 0, 1) := by decide +kernel
theorem dX12_hold_12 : decode cX12_hold 12 = .ok (.iconst 0, 1) := by decide +kernel
theorem dX12_hold_13 : decode cX12_hold 13 = .ok (.iconst 2, 1) := by decide +kernel
theorem dX12_hold_14 : decode cX12_hold 14 = .ok (.iload_n 1, 1) := by decide +kernel
theorem dX12_hold_15 : decode cX12_hold 15 = .ok (.iadd, 1) := by decide +kernel
theorem dX12_hold_16 : decode cX12_hold 16 = .ok (.invokevirtual 404, 3) := by decide +kernel
theorem dX12_hold_19 : decode cX12_hold 19 = .ok (.aload_n 0, 1) := by decide +kernel
theorem dX12_hold_20 : decode cX12_hold 20 = .ok (.getfield 30, 3) := by decide +kernel
theorem dX12_hold_23 : decode cX12_hold 23 = .ok (.iconst 2, 1) := by decide +kernel
theorem dX12_hold_24 : decode cX12_hold 24 = .ok (.iload_n 1, 1) := by decide +kernel
theorem dX12_hold_25 : decode cX12_hold 25 = .ok (.iadd, 1) := by decide +kernel
theorem dX12_hold_26 : decode cX12_hold 26 = .ok (.iconst 1, 1) := by decide +kernel
theorem dX12_hold_27 : decode cX12_hold 27 = .ok (.bastore, 1) := by decide +kernel
theorem dX12_hold_28 : decode cX12_hold 28 = .ok (.iconst 1, 1) := by decide +kernel
theorem dX12_hold_29 : decode cX12_hold 29 = .ok (.ireturn, 1) := by decide +kernel
theorem dX12_again_0 : decode cX12_again 0 = .ok (.iload_n 1, 1) := by decide +kernel
theorem dX12_again_1 : decode cX12_again 1 = .ok (.ifCond .lt 19, 3) := by decide +kernel
theorem dX12_again_4 : decode cX12_again 4 = .ok (.iload_n 1, 1) := by decide +kernel
theorem dX12_again_5 : decode cX12_again 5 = .ok (.iconst 2, 1) := by decide +kernel
theorem dX12_again_6 : decode cX12_again 6 = .ok (.if_icmp .gt 14, 3) := by decide +kernel
theorem dX12_again_9 : decode cX12_again 9 = .ok (.aload_n 0, 1) := by decide +kernel
theorem dX12_again_10 : decode cX12_again 10 = .ok (.getfield 30, 3) := by decide +kernel
theorem dX12_again_13 : decode cX12_again 13 = .ok (.iconst 2, 1) := by decide +kernel
theorem dX12_again_14 : decode cX12_again 14 = .ok (.iload_n 1, 1) := by decide +kernel
theorem dX12_again_15 : decode cX12_again 15 = .ok (.iadd, 1) := by decide +kernel
theorem dX12_again_16 : decode cX12_again 16 = .ok (.baload, 1) := by decide +kernel
theorem dX12_again_17 : decode cX12_again 17 = .ok (.ifCond .ne 5, 3) := by decide +kernel
theorem dX12_again_20 : decode cX12_again 20 = .ok (.iconst 0, 1) := by decide +kernel
theorem dX12_again_21 : decode cX12_again 21 = .ok (.ireturn, 1) := by decide +kernel
theorem dX12_again_22 : decode cX12_again 22 = .ok (.aload_n 0, 1) := by decide +kernel
theorem dX12_again_23 : decode cX12_again 23 = .ok (.iconst 2, 1) := by decide +kernel
theorem dX12_again_24 : decode cX12_again 24 = .ok (.iload_n 1, 1) := by decide +kernel
theorem dX12_again_25 : decode cX12_again 25 = .ok (.iadd, 1) := by decide +kernel
theorem dX12_again_26 : decode cX12_again 26 = .ok (.iconst 0, 1) := by decide +kernel
theorem dX12_again_27 : decode cX12_again 27 = .ok (.invokevirtual 404, 3) := by decide +kernel
theorem dX12_again_30 : decode cX12_again 30 = .ok (.iconst 1, 1) := by decide +kernel
theorem dX12_again_31 : decode cX12_again 31 = .ok (.ireturn, 1) := by decide +kernel
theorem dX12_isIn_0 : decode cX12_isIn 0 = .ok (.iload_n 0, 1) := by decide +kernel
theorem dX12_isIn_1 : decode cX12_isIn 1 = .ok (.iload_n 1, 1) := by decide +kernel
theorem dX12_isIn_2 : decode cX12_isIn 2 = .ok (.if_icmp .lt 12, 3) := by decide +kernel
theorem dX12_isIn_5 : decode cX12_isIn 5 = .ok (.iload_n 0, 1) := by decide +kernel
theorem dX12_isIn_6 : decode cX12_isIn 6 = .ok (.iload_n 2, 1) := by decide +kernel
theorem dX12_isIn_7 : decode cX12_isIn 7 = .ok (.if_icmp .gt 7, 3) := by decide +kernel
theorem dX12_isIn_10 : decode cX12_isIn 10 = .ok (.iconst 1, 1) := by decide +kernel
theorem dX12_isIn_11 : decode cX12_isIn 11 = .ok (.goto 4, 3) := by decide +kernel
theorem dX12_isIn_14 : decode cX12_isIn 14 = .ok (.iconst 0, 1) := by decide +kernel
theorem dX12_isIn_15 : decode cX12_isIn 15 = .ok (.ireturn, 1) := by decide +kernel
theorem dX12_fact_0 : decode cX12_fact 0 = .ok (.aload_n 0, 1) := by decide +kernel
theorem dX12_fact_1 : decode cX12_fact 1 = .ok (.getfield 127, 3) := by decide +kernel
theorem dX12_fact_4 : decode cX12_fact 4 = .ok (.iconst 0, 1) := by decide +kernel
theorem dX12_fact_5 : decode cX12_fact 5 = .ok (.iaload, 1) := by decide +kernel
theorem dX12_fact_6 : decode cX12_fact 6 = .ok (.bipush 60, 2) := by decide +kernel
theorem dX12_fact_8 : decode cX12_fact 8 = .ok (.if_icmp .ne 5, 3) := by decide +kernel
theorem dX12_fact_11 : decode cX12_fact 11 = .ok (.iconst (-1), 1) := by decide +kernel
theorem dX12_fact_12 : decode cX12_fact 12 = .ok (.ireturn, 1) := by decide +kernel
theorem dX12_fact_13 : decode cX12_fact 13 = .ok (.aload_n 0, 1) := by decide +kernel
theorem dX12_fact_14 : decode cX12_fact 14 = .ok (.getfield 127, 3) := by decide +kernel
theorem dX12_fact_17 : decode cX12_fact 17 = .ok (.iconst 0, 1) := by decide +kernel
theorem dX12_fact_18 : decode cX12_fact 18 = .ok (.iaload, 1) := by decide +kernel
theorem dX12_fact_19 : decode cX12_fact 19 = .ok (.istore 5, 2) := by decide +kernel
theorem dX12_fact_21 : decode cX12_fact 21 = .ok (.aload_n 0, 1) := by decide +kernel
theorem dX12_fact_22 : decode cX12_fact 22 = .ok (.getfield 130, 3) := by decide +kernel
theorem dX12_fact_25 : decode cX12_fact 25 = .ok (.iload 5, 2) := by decide +kernel
theorem dX12_fact_27 : decode cX12_fact 27 = .ok (.iload_n 1, 1) := by decide +kernel
theorem dX12_fact_28 : decode cX12_fact 28 = .ok (.iastore, 1) := by decide +kernel
theorem dX12_fact_29 : decode cX12_fact 29 = .ok (.aload_n 0, 1) := by decide +kernel
theorem dX12_fact_30 : decode cX12_fact 30 = .ok (.getfield 133, 3) := by decide +kernel
theorem dX12_fact_33 : decode cX12_fact 33 = .ok (.iload 5, 2) := by decide +kernel
theorem dX12_fact_35 : decode cX12_fact 35 = .ok (.iload_n 2, 1) := by decide +kernel
theorem dX12_fact_36 : decode cX12_fact 36 = .ok (.iastore, 1) := by decide +kernel
theorem dX12_fact_37 : decode cX12_fact 37 = .ok (.aload_n 0, 1) := by decide +kernel
theorem dX12_fact_38 : decode cX12_fact 38 = .ok (.getfield 136, 3) := by decide +kernel
theorem dX12_fact_41 : decode cX12_fact 41 = .ok (.iload 5, 2) := by decide +kernel
theorem dX12_fact_43 : decode cX12_fact 43 = .ok (.iload_n 3, 1) := by decide +kernel
theorem dX12_fact_44 : decode cX12_fact 44 = .ok (.iastore, 1) := by decide +kernel
theorem dX12_fact_45 : decode cX12_fact 45 = .ok (.aload_n 0, 1) := by decide +kernel
theorem dX12_fact_46 : decode cX12_fact 46 = .ok (.getfield 139, 3) := by decide +kernel
theorem dX12_fact_49 : decode cX12_fact 49 = .ok (.iload 5, 2) := by decide +kernel
theorem dX12_fact_51 : decode cX12_fact 51 = .ok (.iload 4, 2) := by decide +kernel
theorem dX12_fact_53 : decode cX12_fact 53 = .ok (.iastore, 1) := by decide +kernel
theorem dX12_fact_54 : decode cX12_fact 54 = .ok (.aload_n 0, 1) := by decide +kernel
theorem dX12_fact_55 : decode cX12_fact 55 = .ok (.getfield 127, 3) := by decide +kernel
theorem dX12_fact_58 : decode cX12_fact 58 = .ok (.iconst 0, 1) := by decide +kernel
theorem dX12_fact_59 : decode cX12_fact 59 = .ok (.dup2, 1) := by decide +kernel
theorem dX12_fact_60 : decode cX12_fact 60 = .ok (.iaload, 1) := by decide +kernel
theorem dX12_fact_61 : decode cX12_fact 61 = .ok (.iconst 1, 1) := by decide +kernel
theorem dX12_fact_62 : decode cX12_fact 62 = .ok (.iadd, 1) := by decide +kernel
theorem dX12_fact_63 : decode cX12_fact 63 = .ok (.iastore, 1) := by decide +kernel
theorem dX12_fact_64 : decode cX12_fact 64 = .ok (.iload 5, 2) := by decide +kernel
theorem dX12_fact_66 : decode cX12_fact 66 = .ok (.ireturn, 1) := by decide +kernel
theorem dX12_isThing_0 : decode cX12_isThing 0 = .ok (.iload_n 1, 1) := by decide +kernel
theorem dX12_isThing_1 : decode cX12_isThing 1 = .ok (.ifCond .lt 17, 3) := by decide +kernel
theorem dX12_isThing_4 : decode cX12_isThing 4 = .ok (.iload_n 1, 1) := by decide +kernel
theorem dX12_isThing_5 : decode cX12_isThing 5 = .ok (.aload_n 0, 1) := by decide +kernel
theorem dX12_isThing_6 : decode cX12_isThing 6 = .ok (.getfield 37, 3) := by decide +kernel
theorem dX12_isThing_9 : decode cX12_isThing 9 = .ok (.iconst 0, 1) := by decide +kernel
theorem dX12_isThing_10 : decode cX12_isThing 10 = .ok (.iaload, 1) := by decide +kernel
theorem dX12_isThing_11 : decode cX12_isThing 11 = .ok (.if_icmp .ge 7, 3) := by decide +kernel
theorem dX12_isThing_14 : decode cX12_isThing 14 = .ok (.iconst 1, 1) := by decide +kernel
theorem dX12_isThing_15 : decode cX12_isThing 15 = .ok (.goto 4, 3) := by decide +kernel
theorem dX12_isThing_18 : decode cX12_isThing 18 = .ok (.iconst 0, 1) := by decide +kernel
theorem dX12_isThing_19 : decode cX12_isThing 19 = .ok (.ireturn, 1) := by decide +kernel
theorem dX12_found_0 : decode cX12_found 0 = .ok (.aload_n 0, 1) := by decide +kernel
theorem dX12_found_1 : decode cX12_found 1 = .ok (.getfield 37, 3) := by decide +kernel
theorem dX12_found_4 : decode cX12_found 4 = .ok (.iconst 0, 1) := by decide +kernel
theorem dX12_found_5 : decode cX12_found 5 = .ok (.iaload, 1) := by decide +kernel
theorem dX12_found_6 : decode cX12_found 6 = .ok (.bipush 14, 2) := by decide +kernel
theorem dX12_found_8 : decode cX12_found 8 = .ok (.if_icmp .eq 47, 3) := by decide +kernel
theorem dX12_found_11 : decode cX12_found 11 = .ok (.aload_n 0, 1) := by decide +kernel
theorem dX12_found_12 : decode cX12_found 12 = .ok (.getfield 127, 3) := by decide +kernel
theorem dX12_found_15 : decode cX12_found 15 = .ok (.iconst 0, 1) := by decide +kernel
theorem dX12_found_16 : decode cX12_found 16 = .ok (.iaload, 1) := by decide +kernel
theorem dX12_found_17 : decode cX12_found 17 = .ok (.bipush 60, 2) := by decide +kernel
theorem dX12_found_19 : decode cX12_found 19 = .ok (.if_icmp .eq 36, 3) := by decide +kernel
theorem dX12_found_22 : decode cX12_found 22 = .ok (.iload_n 1, 1) := by decide +kernel
theorem dX12_found_23 : decode cX12_found 23 = .ok (.iconst 0, 1) := by decide +kernel
theorem dX12_found_24 : decode cX12_found 24 = .ok (.sipush 999, 3) := by decide +kernel
theorem dX12_found_27 : decode cX12_found 27 = .ok (.invokestatic 407, 3) := by decide +kernel
theorem dX12_found_30 : decode cX12_found 30 = .ok (.ifCond .eq 25, 3) := by decide +kernel
theorem dX12_found_33 : decode cX12_found 33 = .ok (.iload_n 2, 1) := by decide +kernel
theorem dX12_found_34 : decode cX12_found 34 = .ok (.iconst 0, 1) := by decide +kernel
theorem dX12_found_35 : decode cX12_found 35 = .ok (.sipush 999, 3) := by decide +kernel
theorem dX12_found_38 : decode cX12_found 38 = .ok (.invokestatic 407, 3) := by decide +kernel
theorem dX12_found_41 : decode cX12_found 41 = .ok (.ifCond .eq 14, 3) := by decide +kernel
theorem dX12_found_44 : decode cX12_found 44 = .ok (.iload_n 3, 1) := by decide +kernel
theorem dX12_found_45 : decode cX12_found 45 = .ok (.iconst 0, 1) := by decide +kernel
theorem dX12_found_46 : decode cX12_found 46 = .ok (.sipush 9999, 3) := by decide +kernel
theorem dX12_found_49 : decode cX12_found 49 = .ok (.invokestatic 407, 3) := by decide +kernel
theorem dX12_found_52 : decode cX12_found 52 = .ok (.ifCond .ne 5, 3) := by decide +kernel
theorem dX12_found_55 : decode cX12_found 55 = .ok (.iconst (-1), 1) := by decide +kernel
theorem dX12_found_56 : decode cX12_found 56 = .ok (.ireturn, 1) := by decide +kernel
theorem dX12_found_57 : decode cX12_found 57 = .ok (.aload_n 0, 1) := by decide +kernel
theorem dX12_found_58 : decode cX12_found 58 = .ok (.getfield 37, 3) := by decide +kernel
theorem dX12_found_61 : decode cX12_found 61 = .ok (.iconst 0, 1) := by decide +kernel
theorem dX12_found_62 : decode cX12_found 62 = .ok (.iaload, 1) := by decide +kernel
theorem dX12_found_63 : decode cX12_found 63 = .ok (.istore 4, 2) := by decide +kernel
theorem dX12_found_65 : decode cX12_found 65 = .ok (.aload_n 0, 1) := by decide +kernel
theorem dX12_found_66 : decode cX12_found 66 = .ok (.getfield 52, 3) := by decide +kernel
theorem dX12_found_69 : decode cX12_found 69 = .ok (.iload 4, 2) := by decide +kernel
theorem dX12_found_71 : decode cX12_found 71 = .ok (.aload_n 0, 1) := by decide +kernel
theorem dX12_found_72 : decode cX12_found 72 = .ok (.iconst 0, 1) := by decide +kernel
theorem dX12_found_73 : decode cX12_found 73 = .ok (.iload 4, 2) := by decide +kernel
theorem dX12_found_75 : decode cX12_found 75 = .ok (.iload_n 1, 1) := by decide +kernel
theorem dX12_found_76 : decode cX12_found 76 = .ok (.iload_n 2, 1) := by decide +kernel
theorem dX12_found_77 : decode cX12_found 77 = .ok (.invokevirtual 411, 3) := by decide +kernel
theorem dX12_found_80 : decode cX12_found 80 = .ok (.iastore, 1) := by decide +kernel
theorem dX12_found_81 : decode cX12_found 81 = .ok (.aload_n 0, 1) := by decide +kernel
theorem dX12_found_82 : decode cX12_found 82 = .ok (.getfield 40, 3) := by decide +kernel
theorem dX12_found_85 : decode cX12_found 85 = .ok (.iload 4, 2) := by decide +kernel
theorem dX12_found_87 : decode cX12_found 87 = .ok (.iconst 0, 1) := by decide +kernel
theorem dX12_found_88 : decode cX12_found 88 = .ok (.bastore, 1) := by decide +kernel
theorem dX12_found_89 : decode cX12_found 89 = .ok (.aload_n 0, 1) := by decide +kernel
theorem dX12_found_90 : decode cX12_found 90 = .ok (.getfield 43, 3) := by decide +kernel
theorem dX12_found_93 : decode cX12_found 93 = .ok (.iload 4, 2) := by decide +kernel
theorem dX12_found_95 : decode cX12_found 95 = .ok (.iload_n 1, 1) := by decide +kernel
theorem dX12_found_96 : decode cX12_found 96 = .ok (.iastore, 1) := by decide +kernel
theorem dX12_found_97 : decode cX12_found 97 = .ok (.aload_n 0, 1) := by decide +kernel
theorem dX12_found_98 : decode cX12_found 98 = .ok (.getfield 46, 3) := by decide +kernel
theorem dX12_found_101 : decode cX12_found 101 = .ok (.iload 4, 2) := by decide +kernel
theorem dX12_found_103 : decode cX12_found 103 = .ok (.iload_n 2, 1) := by decide +kernel
theorem dX12_found_104 : decode cX12_found 104 = .ok (.iastore, 1) := by decide +kernel
theorem dX12_found_105 : decode cX12_found 105 = .ok (.aload_n 0, 1) := by decide +kernel
theorem dX12_found_106 : decode cX12_found 106 = .ok (.getfield 49, 3) := by decide +kernel
theorem dX12_found_109 : decode cX12_found 109 = .ok (.iload 4, 2) := by decide +kernel
theorem dX12_found_111 : decode cX12_found 111 = .ok (.iload_n 3, 1) := by decide +kernel
theorem dX12_found_112 : decode cX12_found 112 = .ok (.iastore, 1) := by decide +kernel
theorem dX12_found_113 : decode cX12_found 113 = .ok (.aload_n 0, 1) := by decide +kernel
theorem dX12_found_114 : decode cX12_found 114 = .ok (.getfield 37, 3) := by decide +kernel
theorem dX12_found_117 : decode cX12_found 117 = .ok (.iconst 0, 1) := by decide +kernel
theorem dX12_found_118 : decode cX12_found 118 = .ok (.dup2, 1) := by decide +kernel
theorem dX12_found_119 : decode cX12_found 119 = .ok (.iaload, 1) := by decide +kernel
theorem dX12_found_120 : decode cX12_found 120 = .ok (.iconst 1, 1) := by decide +kernel
theorem dX12_found_121 : decode cX12_found 121 = .ok (.iadd, 1) := by decide +kernel
theorem dX12_found_122 : decode cX12_found 122 = .ok (.iastore, 1) := by decide +kernel
theorem dX12_found_123 : decode cX12_found 123 = .ok (.iload 4, 2) := by decide +kernel
theorem dX12_found_125 : decode cX12_found 125 = .ok (.ireturn, 1) := by decide +kernel
theorem dX12_move_0 : decode cX12_move 0 = .ok (.aload_n 0, 1) := by decide +kernel
theorem dX12_move_1 : decode cX12_move 1 = .ok (.iload_n 1, 1) := by decide +kernel
theorem dX12_move_2 : decode cX12_move 2 = .ok (.invokevirtual 415, 3) := by decide +kernel
theorem dX12_move_5 : decode cX12_move 5 = .ok (.ifCond .eq 36, 3) := by decide +kernel
theorem dX12_move_8 : decode cX12_move 8 = .ok (.iload_n 2, 1) := by decide +kernel
theorem dX12_move_9 : decode cX12_move 9 = .ok (.iconst 0, 1) := by decide +kernel
theorem dX12_move_10 : decode cX12_move 10 = .ok (.sipush 999, 3) := by decide +kernel
theorem dX12_move_13 : decode cX12_move 13 = .ok (.invokestatic 407, 3) := by decide +kernel
theorem dX12_move_16 : decode cX12_move 16 = .ok (.ifCond .eq 25, 3) := by decide +kernel
theorem dX12_move_19 : decode cX12_move 19 = .ok (.iload_n 3, 1) := by decide +kernel
theorem dX12_move_20 : decode cX12_move 20 = .ok (.iconst 0, 1) := by decide +kernel
theorem dX12_move_21 : decode cX12_move 21 = .ok (.sipush 999, 3) := by decide +kernel
theorem dX12_move_24 : decode cX12_move 24 = .ok (.invokestatic 407, 3) := by decide +kernel
theorem dX12_move_27 : decode cX12_move 27 = .ok (.ifCond .eq 14, 3) := by decide +kernel
theorem dX12_move_30 : decode cX12_move 30 = .ok (.aload_n 0, 1) := by decide +kernel
theorem dX12_move_31 : decode cX12_move 31 = .ok (.iconst 1, 1) := by decide +kernel
theorem dX12_move_32 : decode cX12_move 32 = .ok (.iload_n 1, 1) := by decide +kernel
theorem dX12_move_33 : decode cX12_move 33 = .ok (.iload_n 2, 1) := by decide +kernel
theorem dX12_move_34 : decode cX12_move 34 = .ok (.iload_n 3, 1) := by decide +kernel
theorem dX12_move_35 : decode cX12_move 35 = .ok (.invokevirtual 411, 3) := by decide +kernel
theorem dX12_move_38 : decode cX12_move 38 = .ok (.goto 4, 3) := by decide +kernel
theorem dX12_move_41 : decode cX12_move 41 = .ok (.iconst (-1), 1) := by decide +kernel
theorem dX12_move_42 : decode cX12_move 42 = .ok (.ireturn, 1) := by decide +kernel
theorem dX12_gone_0 : decode cX12_gone 0 = .ok (.aload_n 0, 1) := by decide +kernel
theorem dX12_gone_1 : decode cX12_gone 1 = .ok (.iload_n 1, 1) := by decide +kernel
theorem dX12_gone_2 : decode cX12_gone 2 = .ok (.invokevirtual 415, 3) := by decide +kernel
theorem dX12_gone_5 : decode cX12_gone 5 = .ok (.ifCond .eq 14, 3) := by decide +kernel
theorem dX12_gone_8 : decode cX12_gone 8 = .ok (.aload_n 0, 1) := by decide +kernel
theorem dX12_gone_9 : decode cX12_gone 9 = .ok (.iconst 2, 1) := by decide +kernel
theorem dX12_gone_10 : decode cX12_gone 10 = .ok (.iload_n 1, 1) := by decide +kernel
theorem dX12_gone_11 : decode cX12_gone 11 = .ok (.iconst 0, 1) := by decide +kernel
theorem dX12_gone_12 : decode cX12_gone 12 = .ok (.iconst 0, 1) := by decide +kernel
theorem dX12_gone_13 : decode cX12_gone 13 = .ok (.invokevirtual 411, 3) := by decide +kernel
theorem dX12_gone_16 : decode cX12_gone 16 = .ok (.goto 4, 3) := by decide +kernel
theorem dX12_gone_19 : decode cX12_gone 19 = .ok (.iconst (-1), 1) := by decide +kernel
theorem dX12_gone_20 : decode cX12_gone 20 = .ok (.ireturn, 1) := by decide +kernel
theorem dX12_date_0 : decode cX12_date 0 = .ok (.aload_n 0, 1) := by decide +kernel
theorem dX12_date_1 : decode cX12_date 1 = .ok (.iload_n 1, 1) := by decide +kernel
theorem dX12_date_2 : decode cX12_date 2 = .ok (.invokevirtual 415, 3) := by decide +kernel
theorem dX12_date_5 : decode cX12_date 5 = .ok (.ifCond .eq 25, 3) := by decide +kernel
theorem dX12_date_8 : decode cX12_date 8 = .ok (.iload_n 2, 1) := by decide +kernel
theorem dX12_date_9 : decode cX12_date 9 = .ok (.iconst 0, 1) := by decide +kernel
theorem dX12_date_10 : decode cX12_date 10 = .ok (.sipush 9999, 3) := by decide +kernel
theorem dX12_date_13 : decode cX12_date 13 = .ok (.invokestatic 407, 3) := by decide +kernel
theorem dX12_date_16 : decode cX12_date 16 = .ok (.ifCond .eq 14, 3) := by decide +kernel
theorem dX12_date_19 : decode cX12_date 19 = .ok (.aload_n 0, 1) := by decide +kernel
theorem dX12_date_20 : decode cX12_date 20 = .ok (.iconst 3, 1) := by decide +kernel
theorem dX12_date_21 : decode cX12_date 21 = .ok (.iload_n 1, 1) := by decide +kernel
theorem dX12_date_22 : decode cX12_date 22 = .ok (.iload_n 2, 1) := by decide +kernel
theorem dX12_date_23 : decode cX12_date 23 = .ok (.iconst 0, 1) := by decide +kernel
theorem dX12_date_24 : decode cX12_date 24 = .ok (.invokevirtual 411, 3) := by decide +kernel
theorem dX12_date_27 : decode cX12_date 27 = .ok (.goto 4, 3) := by decide +kernel
theorem dX12_date_30 : decode cX12_date 30 = .ok (.iconst (-1), 1) := by decide +kernel
theorem dX12_date_31 : decode cX12_date 31 = .ok (.ireturn, 1) := by decide +kernel
theorem dX12_annul_0 : decode cX12_annul 0 = .ok (.iload_n 1, 1) := by decide +kernel
theorem dX12_annul_1 : decode cX12_annul 1 = .ok (.iconst 0, 1) := by decide +kernel
theorem dX12_annul_2 : decode cX12_annul 2 = .ok (.aload_n 0, 1) := by decide +kernel
theorem dX12_annul_3 : decode cX12_annul 3 = .ok (.getfield 127, 3) := by decide +kernel
theorem dX12_annul_6 : decode cX12_annul 6 = .ok (.iconst 0, 1) := by decide +kernel
theorem dX12_annul_7 : decode cX12_annul 7 = .ok (.iaload, 1) := by decide +kernel
theorem dX12_annul_8 : decode cX12_annul 8 = .ok (.iconst 1, 1) := by decide +kernel
theorem dX12_annul_9 : decode cX12_annul 9 = .ok (.isub, 1) := by decide +kernel
theorem dX12_annul_10 : decode cX12_annul 10 = .ok (.invokestatic 407, 3) := by decide +kernel
theorem dX12_annul_13 : decode cX12_annul 13 = .ok (.ifCond .eq 24, 3) := by decide +kernel
theorem dX12_annul_16 : decode cX12_annul 16 = .ok (.aload_n 0, 1) := by decide +kernel
theorem dX12_annul_17 : decode cX12_annul 17 = .ok (.getfield 130, 3) := by decide +kernel
theorem dX12_annul_20 : decode cX12_annul 20 = .ok (.iload_n 1, 1) := by decide +kernel
theorem dX12_annul_21 : decode cX12_annul 21 = .ok (.iaload, 1) := by decide +kernel
theorem dX12_annul_22 : decode cX12_annul 22 = .ok (.iconst 4, 1) := by decide +kernel
theorem dX12_annul_23 : decode cX12_annul 23 = .ok (.if_icmp .eq 14, 3) := by decide +kernel
theorem dX12_annul_26 : decode cX12_annul 26 = .ok (.aload_n 0, 1) := by decide +kernel
theorem dX12_annul_27 : decode cX12_annul 27 = .ok (.iconst 4, 1) := by decide +kernel
theorem dX12_annul_28 : decode cX12_annul 28 = .ok (.iconst (-1), 1) := by decide +kernel
theorem dX12_annul_29 : decode cX12_annul 29 = .ok (.iload_n 1, 1) := by decide +kernel
theorem dX12_annul_30 : decode cX12_annul 30 = .ok (.iconst 0, 1) := by decide +kernel
theorem dX12_annul_31 : decode cX12_annul 31 = .ok (.invokevirtual 411, 3) := by decide +kernel
theorem dX12_annul_34 : decode cX12_annul 34 = .ok (.goto 4, 3) := by decide +kernel
theorem dX12_annul_37 : decode cX12_annul 37 = .ok (.iconst (-1), 1) := by decide +kernel
theorem dX12_annul_38 : decode cX12_annul 38 = .ok (.ireturn, 1) := by decide +kernel
theorem dX12_isKnown_0 : decode cX12_isKnown 0 = .ok (.iload_n 1, 1) := by decide +kernel
theorem dX12_isKnown_1 : decode cX12_isKnown 1 = .ok (.ifCond .lt 17, 3) := by decide +kernel
theorem dX12_isKnown_4 : decode cX12_isKnown 4 = .ok (.iload_n 1, 1) := by decide +kernel
theorem dX12_isKnown_5 : decode cX12_isKnown 5 = .ok (.aload_n 0, 1) := by decide +kernel
theorem dX12_isKnown_6 : decode cX12_isKnown 6 = .ok (.getfield 127, 3) := by decide +kernel
theorem dX12_isKnown_9 : decode cX12_isKnown 9 = .ok (.iconst 0, 1) := by decide +kernel
theorem dX12_isKnown_10 : decode cX12_isKnown 10 = .ok (.iaload, 1) := by decide +kernel
theorem dX12_isKnown_11 : decode cX12_isKnown 11 = .ok (.if_icmp .gt 7, 3) := by decide +kernel
theorem dX12_isKnown_14 : decode cX12_isKnown 14 = .ok (.iconst 1, 1) := by decide +kernel
theorem dX12_isKnown_15 : decode cX12_isKnown 15 = .ok (.goto 4, 3) := by decide +kernel
theorem dX12_isKnown_18 : decode cX12_isKnown 18 = .ok (.iconst 0, 1) := by decide +kernel
theorem dX12_isKnown_19 : decode cX12_isKnown 19 = .ok (.ireturn, 1) := by decide +kernel
theorem dX12_isLive_0 : decode cX12_isLive 0 = .ok (.iload_n 1, 1) := by decide +kernel
theorem dX12_isLive_1 : decode cX12_isLive 1 = .ok (.iload_n 2, 1) := by decide +kernel
theorem dX12_isLive_2 : decode cX12_isLive 2 = .ok (.if_icmp .lt 5, 3) := by decide +kernel
theorem dX12_isLive_5 : decode cX12_isLive 5 = .ok (.iconst 0, 1) := by decide +kernel
theorem dX12_isLive_6 : decode cX12_isLive 6 = .ok (.ireturn, 1) := by decide +kernel
theorem dX12_isLive_7 : decode cX12_isLive 7 = .ok (.iload_n 1, 1) := by decide +kernel
theorem dX12_isLive_8 : decode cX12_isLive 8 = .ok (.iconst 1, 1) := by decide +kernel
theorem dX12_isLive_9 : decode cX12_isLive 9 = .ok (.iadd, 1) := by decide +kernel
theorem dX12_isLive_10 : decode cX12_isLive 10 = .ok (.istore_n 3, 1) := by decide +kernel
theorem dX12_isLive_11 : decode cX12_isLive 11 = .ok (.iload_n 3, 1) := by decide +kernel
theorem dX12_isLive_12 : decode cX12_isLive 12 = .ok (.iload_n 2, 1) := by decide +kernel
theorem dX12_isLive_13 : decode cX12_isLive 13 = .ok (.if_icmp .ge 31, 3) := by decide +kernel
theorem dX12_isLive_16 : decode cX12_isLive 16 = .ok (.aload_n 0, 1) := by decide +kernel
theorem dX12_isLive_17 : decode cX12_isLive 17 = .ok (.getfield 130, 3) := by decide +kernel
theorem dX12_isLive_20 : decode cX12_isLive 20 = .ok (.iload_n 3, 1) := by decide +kernel
theorem dX12_isLive_21 : decode cX12_isLive 21 = .ok (.iaload, 1) := by decide +kernel
theorem dX12_isLive_22 : decode cX12_isLive 22 = .ok (.iconst 4, 1) := by decide +kernel
theorem dX12_isLive_23 : decode cX12_isLive 23 = .ok (.if_icmp .ne 15, 3) := by decide +kernel
theorem dX12_isLive_26 : decode cX12_isLive 26 = .ok (.aload_n 0, 1) := by decide +kernel
theorem dX12_isLive_27 : decode cX12_isLive 27 = .ok (.getfield 136, 3) := by decide +kernel
theorem dX12_isLive_30 : decode cX12_isLive 30 = .ok (.iload_n 3, 1) := by decide +kernel
theorem dX12_isLive_31 : decode cX12_isLive 31 = .ok (.iaload, 1) := by decide +kernel
theorem dX12_isLive_32 : decode cX12_isLive 32 = .ok (.iload_n 1, 1) := by decide +kernel
theorem dX12_isLive_33 : decode cX12_isLive 33 = .ok (.if_icmp .ne 5, 3) := by decide +kernel
theorem dX12_isLive_36 : decode cX12_isLive 36 = .ok (.iconst 0, 1) := by decide +kernel
theorem dX12_isLive_37 : decode cX12_isLive 37 = .ok (.ireturn, 1) := by decide +kernel
theorem dX12_isLive_38 : decode cX12_isLive 38 = .ok (.iinc 3 1, 3) := by decide +kernel
theorem dX12_isLive_41 : decode cX12_isLive 41 = .ok (.goto (-30), 3) := by decide +kernel
theorem dX12_isLive_44 : decode cX12_isLive 44 = .ok (.iconst 1, 1) := by decide +kernel
theorem dX12_isLive_45 : decode cX12_isLive 45 = .ok (.ireturn, 1) := by decide +kernel
theorem dX12_lastOf_0 : decode cX12_lastOf 0 = .ok (.iload_n 3, 1) := by decide +kernel
theorem dX12_lastOf_1 : decode cX12_lastOf 1 = .ok (.iconst 1, 1) := by decide +kernel
theorem dX12_lastOf_2 : decode cX12_lastOf 2 = .ok (.isub, 1) := by decide +kernel
theorem dX12_lastOf_3 : decode cX12_lastOf 3 = .ok (.istore 4, 2) := by decide +kernel
theorem dX12_lastOf_5 : decode cX12_lastOf 5 = .ok (.iload 4, 2) := by decide +kernel
theorem dX12_lastOf_7 : decode cX12_lastOf 7 = .ok (.ifCond .lt 44, 3) := by decide +kernel
theorem dX12_lastOf_10 : decode cX12_lastOf 10 = .ok (.aload_n 0, 1) := by decide +kernel
theorem dX12_lastOf_11 : decode cX12_lastOf 11 = .ok (.getfield 130, 3) := by decide +kernel
theorem dX12_lastOf_14 : decode cX12_lastOf 14 = .ok (.iload 4, 2) := by decide +kernel
theorem dX12_lastOf_16 : decode cX12_lastOf 16 = .ok (.iaload, 1) := by decide +kernel
theorem dX12_lastOf_17 : decode cX12_lastOf 17 = .ok (.iload_n 2, 1) := by decide +kernel
theorem dX12_lastOf_18 : decode cX12_lastOf 18 = .ok (.if_icmp .ne 27, 3) := by decide +kernel
theorem dX12_lastOf_21 : decode cX12_lastOf 21 = .ok (.aload_n 0, 1) := by decide +kernel
theorem dX12_lastOf_22 : decode cX12_lastOf 22 = .ok (.getfield 133, 3) := by decide +kernel
theorem dX12_lastOf_25 : decode cX12_lastOf 25 = .ok (.iload 4, 2) := by decide +kernel
theorem dX12_lastOf_27 : decode cX12_lastOf 27 = .ok (.iaload, 1) := by decide +kernel
theorem dX12_lastOf_28 : decode cX12_lastOf 28 = .ok (.iload_n 1, 1) := by decide +kernel
theorem dX12_lastOf_29 : decode cX12_lastOf 29 = .ok (.if_icmp .ne 16, 3) := by decide +kernel
theorem dX12_lastOf_32 : decode cX12_lastOf 32 = .ok (.aload_n 0, 1) := by decide +kernel
theorem dX12_lastOf_33 : decode cX12_lastOf 33 = .ok (.iload 4, 2) := by decide +kernel
theorem dX12_lastOf_35 : decode cX12_lastOf 35 = .ok (.iload_n 3, 1) := by decide +kernel
theorem dX12_lastOf_36 : decode cX12_lastOf 36 = .ok (.invokevirtual 418, 3) := by decide +kernel
theorem dX12_lastOf_39 : decode cX12_lastOf 39 = .ok (.ifCond .eq 6, 3) := by decide +kernel
theorem dX12_lastOf_42 : decode cX12_lastOf 42 = .ok (.iload 4, 2) := by decide +kernel
theorem dX12_lastOf_44 : decode cX12_lastOf 44 = .ok (.ireturn, 1) := by decide +kernel
theorem dX12_lastOf_45 : decode cX12_lastOf 45 = .ok (.iinc 4 (-1), 3) := by decide +kernel
theorem dX12_lastOf_48 : decode cX12_lastOf 48 = .ok (.goto (-43), 3) := by decide +kernel
theorem dX12_lastOf_51 : decode cX12_lastOf 51 = .ok (.iconst (-1), 1) := by decide +kernel
theorem dX12_lastOf_52 : decode cX12_lastOf 52 = .ok (.ireturn, 1) := by decide +kernel
theorem dX12_layThings_0 : decode cX12_layThings 0 = .ok (.iconst 0, 1) := by decide +kernel
theorem dX12_layThings_1 : decode cX12_layThings 1 = .ok (.istore_n 2, 1) := by decide +kernel
theorem dX12_layThings_2 : decode cX12_layThings 2 = .ok (.iload_n 2, 1) := by decide +kernel
theorem dX12_layThings_3 : decode cX12_layThings 3 = .ok (.aload_n 0, 1) := by decide +kernel
theorem dX12_layThings_4 : decode cX12_layThings 4 = .ok (.getfield 37, 3) := by decide +kernel
theorem dX12_layThings_7 : decode cX12_layThings 7 = .ok (.iconst 0, 1) := by decide +kernel
theorem dX12_layThings_8 : decode cX12_layThings 8 = .ok (.iaload, 1) := by decide +kernel
theorem dX12_layThings_9 : decode cX12_layThings 9 = .ok (.if_icmp .ge 147, 3) := by decide +kernel
theorem dX12_layThings_12 : decode cX12_layThings 12 = .ok (.aload_n 0, 1) := by decide +kernel
theorem dX12_layThings_13 : decode cX12_layThings 13 = .ok (.iload_n 2, 1) := by decide +kernel
theorem dX12_layThings_14 : decode cX12_layThings 14 = .ok (.iconst 1, 1) := by decide +kernel
theorem dX12_layThings_15 : decode cX12_layThings 15 = .ok (.iload_n 1, 1) := by decide +kernel
theorem dX12_layThings_16 : decode cX12_layThings 16 = .ok (.invokevirtual 421, 3) := by decide +kernel
theorem dX12_layThings_19 : decode cX12_layThings 19 = .ok (.istore_n 3, 1) := by decide +kernel
theorem dX12_layThings_20 : decode cX12_layThings 20 = .ok (.aload_n 0, 1) := by decide +kernel
theorem dX12_layThings_21 : decode cX12_layThings 21 = .ok (.getfield 157, 3) := by decide +kernel
theorem dX12_layThings_24 : decode cX12_layThings 24 = .ok (.iload_n 2, 1) := by decide +kernel
theorem dX12_layThings_25 : decode cX12_layThings 25 = .ok (.iload_n 3, 1) := by decide +kernel
theorem dX12_layThings_26 : decode cX12_layThings 26 = .ok (.ifCond .ge 12, 3) := by decide +kernel
theorem dX12_layThings_29 : decode cX12_layThings 29 = .ok (.aload_n 0, 1) := by decide +kernel
theorem dX12_layThings_30 : decode cX12_layThings 30 = .ok (.getfield 43, 3) := by decide +kernel
theorem dX12_layThings_33 : decode cX12_layThings 33 = .ok (.iload_n 2, 1) := by decide +kernel
theorem dX12_layThings_34 : decode cX12_layThings 34 = .ok (.iaload, 1) := by decide +kernel
theorem dX12_layThings_35 : decode cX12_layThings 35 = .ok (.goto 9, 3) := by decide +kernel
theorem dX12_layThings_38 : decode cX12_layThings 38 = .ok (.aload_n 0, 1) := by decide +kernel
theorem dX12_layThings_39 : decode cX12_layThings 39 = .ok (.getfield 136, 3) := by decide +kernel
theorem dX12_layThings_42 : decode cX12_layThings 42 = .ok (.iload_n 3, 1) := by decide +kernel
theorem dX12_layThings_43 : decode cX12_layThings 43 = .ok (.iaload, 1) := by decide +kernel
theorem dX12_layThings_44 : decode cX12_layThings 44 = .ok (.iastore, 1) := by decide +kernel
theorem dX12_layThings_45 : decode cX12_layThings 45 = .ok (.aload_n 0, 1) := by decide +kernel
theorem dX12_layThings_46 : decode cX12_layThings 46 = .ok (.getfield 160, 3) := by decide +kernel
theorem dX12_layThings_49 : decode cX12_layThings 49 = .ok (.iload_n 2, 1) := by decide +kernel
theorem dX12_layThings_50 : decode cX12_layThings 50 = .ok (.iload_n 3, 1) := by decide +kernel
theorem dX12_layThings_51 : decode cX12_layThings 51 = .ok (.ifCond .ge 12, 3) := by decide +kernel
theorem dX12_layThings_54 : decode cX12_layThings 54 = .ok (.aload_n 0, 1) := by decide +kernel
theorem dX12_layThings_55 : decode cX12_layThings 55 = .ok (.getfield 46, 3) := by decide +kernel
theorem dX12_layThings_58 : decode cX12_layThings 58 = .ok (.iload_n 2, 1) := by decide +kernel
theorem dX12_layThings_59 : decode cX12_layThings 59 = .ok (.iaload, 1) := by decide +kernel
theorem dX12_layThings_60 : decode cX12_layThings 60 = .ok (.goto 9, 3) := by decide +kernel
theorem dX12_layThings_63 : decode cX12_layThings 63 = .ok (.aload_n 0, 1) := by decide +kernel
theorem dX12_layThings_64 : decode cX12_layThings 64 = .ok (.getfield 139, 3) := by decide +kernel
theorem dX12_layThings_67 : decode cX12_layThings 67 = .ok (.iload_n 3, 1) := by decide +kernel
theorem dX12_layThings_68 : decode cX12_layThings 68 = .ok (.iaload, 1) := by decide +kernel
theorem dX12_layThings_69 : decode cX12_layThings 69 = .ok (.iastore, 1) := by decide +kernel
theorem dX12_layThings_70 : decode cX12_layThings 70 = .ok (.aload_n 0, 1) := by decide +kernel
theorem dX12_layThings_71 : decode cX12_layThings 71 = .ok (.iload_n 2, 1) := by decide +kernel
theorem dX12_layThings_72 : decode cX12_layThings 72 = .ok (.iconst 3, 1) := by decide +kernel
theorem dX12_layThings_73 : decode cX12_layThings 73 = .ok (.iload_n 1, 1) := by decide +kernel
theorem dX12_layThings_74 : decode cX12_layThings 74 = .ok (.invokevirtual 421, 3) := by decide +kernel
theorem dX12_layThings_77 : decode cX12_layThings 77 = .ok (.istore 4, 2) := by decide +kernel
theorem dX12_layThings_79 : decode cX12_layThings 79 = .ok (.aload_n 0, 1) := by decide +kernel
theorem dX12_layThings_80 : decode cX12_layThings 80 = .ok (.getfield 163, 3) := by decide +kernel
theorem dX12_layThings_83 : decode cX12_layThings 83 = .ok (.iload_n 2, 1) := by decide +kernel
theorem dX12_layThings_84 : decode cX12_layThings 84 = .ok (.iload 4, 2) := by decide +kernel
theorem dX12_layThings_86 : decode cX12_layThings 86 = .ok (.ifCond .ge 12, 3) := by decide +kernel
theorem dX12_layThings_89 : decode cX12_layThings 89 = .ok (.aload_n 0, 1) := by decide +kernel
theorem dX12_layThings_90 : decode cX12_layThings 90 = .ok (.getfield 49, 3) := by decide +kernel
theorem dX12_layThings_93 : decode cX12_layThings 93 = .ok (.iload_n 2, 1) := by decide +kernel
theorem dX12_layThings_94 : decode cX12_layThings 94 = .ok (.iaload, 1) := by decide +kernel
theorem dX12_layThings_95 : decode cX12_layThings 95 = .ok (.goto 10, 3) := by decide +kernel
theorem dX12_layThings_98 : decode cX12_layThings 98 = .ok (.aload_n 0, 1) := by decide +kernel
theorem dX12_layThings_99 : decode cX12_layThings 99 = .ok (.getfield 136, 3) := by decide +kernel
theorem dX12_layThings_102 : decode cX12_layThings 102 = .ok (.iload 4, 2) := by decide +kernel
theorem dX12_layThings_104 : decode cX12_layThings 104 = .ok (.iaload, 1) := by decide +kernel
theorem dX12_layThings_105 : decode cX12_layThings 105 = .ok (.iastore, 1) := by decide +kernel
theorem dX12_layThings_106 : decode cX12_layThings 106 = .ok (.aload_n 0, 1) := by decide +kernel
theorem dX12_layThings_107 : decode cX12_layThings 107 = .ok (.getfield 166, 3) := by decide +kernel
theorem dX12_layThings_110 : decode cX12_layThings 110 = .ok (.iload_n 2, 1) := by decide +kernel
theorem dX12_layThings_111 : decode cX12_layThings 111 = .ok (.aload_n 0, 1) := by decide +kernel
theorem dX12_layThings_112 : decode cX12_layThings 112 = .ok (.iload_n 2, 1) := by decide +kernel
theorem dX12_layThings_113 : decode cX12_layThings 113 = .ok (.iconst 2, 1) := by decide +kernel
theorem dX12_layThings_114 : decode cX12_layThings 114 = .ok (.iload_n 1, 1) := by decide +kernel
theorem dX12_layThings_115 : decode cX12_layThings 115 = .ok (.invokevirtual 421, 3) := by decide +kernel
theorem dX12_layThings_118 : decode cX12_layThings 118 = .ok (.ifCond .ge 26, 3) := by decide +kernel
theorem dX12_layThings_121 : decode cX12_layThings 121 = .ok (.aload_n 0, 1) := by decide +kernel
theorem dX12_layThings_122 : decode cX12_layThings 122 = .ok (.getfield 52, 3) := by decide +kernel
theorem dX12_layThings_125 : decode cX12_layThings 125 = .ok (.iload_n 2, 1) := by decide +kernel
theorem dX12_layThings_126 : decode cX12_layThings 126 = .ok (.iaload, 1) := by decide +kernel
theorem dX12_layThings_127 : decode cX12_layThings 127 = .ok (.ifCond .lt 21, 3) := by decide +kernel
theorem dX12_layThings_130 : decode cX12_layThings 130 = .ok (.aload_n 0, 1) := by decide +kernel
theorem dX12_layThings_131 : decode cX12_layThings 131 = .ok (.aload_n 0, 1) := by decide +kernel
theorem dX12_layThings_132 : decode cX12_layThings 132 = .ok (.getfield 52, 3) := by decide +kernel
theorem dX12_layThings_135 : decode cX12_layThings 135 = .ok (.iload_n 2, 1) := by decide +kernel
theorem dX12_layThings_136 : decode cX12_layThings 136 = .ok (.iaload, 1) := by decide +kernel
theorem dX12_layThings_137 : decode cX12_layThings 137 = .ok (.iload_n 1, 1) := by decide +kernel
theorem dX12_layThings_138 : decode cX12_layThings 138 = .ok (.invokevirtual 418, 3) := by decide +kernel
theorem dX12_layThings_141 : decode cX12_layThings 141 = .ok (.ifCond .ne 7, 3) := by decide +kernel
theorem dX12_layThings_144 : decode cX12_layThings 144 = .ok (.iconst 1, 1) := by decide +kernel
theorem dX12_layThings_145 : decode cX12_layThings 145 = .ok (.goto 4, 3) := by decide +kernel
theorem dX12_layThings_148 : decode cX12_layThings 148 = .ok (.iconst 0, 1) := by decide +kernel
theorem dX12_layThings_149 : decode cX12_layThings 149 = .ok (.bastore, 1) := by decide +kernel
theorem dX12_layThings_150 : decode cX12_layThings 150 = .ok (.iinc 2 1, 3) := by decide +kernel
theorem dX12_layThings_153 : decode cX12_layThings 153 = .ok (.goto (-151), 3) := by decide +kernel
theorem dX12_layThings_156 : decode cX12_layThings 156 = .ok (.return_, 1) := by decide +kernel
theorem dX12_plain_0 : decode cX12_plain 0 = .ok (.iload_n 0, 1) := by decide +kernel
theorem dX12_plain_1 : decode cX12_plain 1 = .ok (.ifCond .ge 8, 3) := by decide +kernel
