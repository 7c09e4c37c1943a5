/-! Written by wip/whole/gen. The law's instructions. -/
theorem d_law_0 : decode code 0 = .ok (.new 7, 3) := by decide +kernel
theorem d_law_3 : decode code 3 = .ok (.dup, 1) := by decide +kernel
theorem d_law_4 : decode code 4 = .ok (.invokespecial 9, 3) := by decide +kernel
theorem d_law_7 : decode code 7 = .ok (.astore_n 1, 1) := by decide +kernel
theorem d_law_8 : decode code 8 = .ok (.new 10, 3) := by decide +kernel
theorem d_law_11 : decode code 11 = .ok (.dup, 1) := by decide +kernel
theorem d_law_12 : decode code 12 = .ok (.invokespecial 12, 3) := by decide +kernel
theorem d_law_15 : decode code 15 = .ok (.astore_n 2, 1) := by decide +kernel
theorem d_law_16 : decode code 16 = .ok (.iconst 0, 1) := by decide +kernel
theorem d_law_17 : decode code 17 = .ok (.istore_n 3, 1) := by decide +kernel
theorem d_law_18 : decode code 18 = .ok (.iload_n 3, 1) := by decide +kernel
theorem d_law_19 : decode code 19 = .ok (.aload_n 0, 1) := by decide +kernel
theorem d_law_20 : decode code 20 = .ok (.arraylength, 1) := by decide +kernel
theorem d_law_21 : decode code 21 = .ok (.bipush 6, 2) := by decide +kernel
theorem d_law_23 : decode code 23 = .ok (.isub, 1) := by decide +kernel
theorem d_law_24 : decode code 24 = .ok (.if_icmp .gt 1544, 3) := by decide +kernel
theorem d_law_27 : decode code 27 = .ok (.aload_n 0, 1) := by decide +kernel
theorem d_law_28 : decode code 28 = .ok (.iload_n 3, 1) := by decide +kernel
theorem d_law_29 : decode code 29 = .ok (.iaload, 1) := by decide +kernel
theorem d_law_30 : decode code 30 = .ok (.bipush 63, 2) := by decide +kernel
theorem d_law_32 : decode code 32 = .ok (.iand, 1) := by decide +kernel
theorem d_law_33 : decode code 33 = .ok (.tableswitch 1529 0 36 #[163, 186, 219, 272, 305, 338, 371, 414, 447, 480, 533, 576, 619, 662, 695, 728, 771, 814, 858, 881, 914, 958, 981, 1005, 1058, 1091, 1134, 1157, 1180, 1194, 1237, 1260, 1293, 1316, 1359, 1432, 1466], 163) := by decide +kernel
theorem d_law_196 : decode code 196 = .ok (.aload_n 1, 1) := by decide +kernel
theorem d_law_197 : decode code 197 = .ok (.aload_n 0, 1) := by decide +kernel
theorem d_law_198 : decode code 198 = .ok (.iload_n 3, 1) := by decide +kernel
theorem d_law_199 : decode code 199 = .ok (.iconst 1, 1) := by decide +kernel
theorem d_law_200 : decode code 200 = .ok (.iadd, 1) := by decide +kernel
theorem d_law_201 : decode code 201 = .ok (.iaload, 1) := by decide +kernel
theorem d_law_202 : decode code 202 = .ok (.invokevirtual 13, 3) := by decide +kernel
theorem d_law_205 : decode code 205 = .ok (.aload_n 2, 1) := by decide +kernel
theorem d_law_206 : decode code 206 = .ok (.aload_n 0, 1) := by decide +kernel
theorem d_law_207 : decode code 207 = .ok (.iload_n 3, 1) := by decide +kernel
theorem d_law_208 : decode code 208 = .ok (.iconst 1, 1) := by decide +kernel
theorem d_law_209 : decode code 209 = .ok (.iadd, 1) := by decide +kernel
theorem d_law_210 : decode code 210 = .ok (.iaload, 1) := by decide +kernel
theorem d_law_211 : decode code 211 = .ok (.invokevirtual 17, 3) := by decide +kernel
theorem d_law_214 : decode code 214 = .ok (.if_icmp .eq 1348, 3) := by decide +kernel
theorem d_law_217 : decode code 217 = .ok (.iconst 0, 1) := by decide +kernel
theorem d_law_218 : decode code 218 = .ok (.ireturn, 1) := by decide +kernel
theorem d_law_219 : decode code 219 = .ok (.aload_n 1, 1) := by decide +kernel
theorem d_law_220 : decode code 220 = .ok (.aload_n 0, 1) := by decide +kernel
theorem d_law_221 : decode code 221 = .ok (.iload_n 3, 1) := by decide +kernel
theorem d_law_222 : decode code 222 = .ok (.iconst 1, 1) := by decide +kernel
theorem d_law_223 : decode code 223 = .ok (.iadd, 1) := by decide +kernel
theorem d_law_224 : decode code 224 = .ok (.iaload, 1) := by decide +kernel
theorem d_law_225 : decode code 225 = .ok (.aload_n 0, 1) := by decide +kernel
theorem d_law_226 : decode code 226 = .ok (.iload_n 3, 1) := by decide +kernel
theorem d_law_227 : decode code 227 = .ok (.iconst 2, 1) := by decide +kernel
theorem d_law_228 : decode code 228 = .ok (.iadd, 1) := by decide +kernel
theorem d_law_229 : decode code 229 = .ok (.iaload, 1) := by decide +kernel
theorem d_law_230 : decode code 230 = .ok (.invokevirtual 18, 3) := by decide +kernel
theorem d_law_233 : decode code 233 = .ok (.aload_n 2, 1) := by decide +kernel
theorem d_law_234 : decode code 234 = .ok (.aload_n 0, 1) := by decide +kernel
theorem d_law_235 : decode code 235 = .ok (.iload_n 3, 1) := by decide +kernel
theorem d_law_236 : decode code 236 = .ok (.iconst 1, 1) := by decide +kernel
theorem d_law_237 : decode code 237 = .ok (.iadd, 1) := by decide +kernel
theorem d_law_238 : decode code 238 = .ok (.iaload, 1) := by decide +kernel
theorem d_law_239 : decode code 239 = .ok (.aload_n 0, 1) := by decide +kernel
theorem d_law_240 : decode code 240 = .ok (.iload_n 3, 1) := by decide +kernel
theorem d_law_241 : decode code 241 = .ok (.iconst 2, 1) := by decide +kernel
theorem d_law_242 : decode code 242 = .ok (.iadd, 1) := by decide +kernel
theorem d_law_243 : decode code 243 = .ok (.iaload, 1) := by decide +kernel
theorem d_law_244 : decode code 244 = .ok (.invokevirtual 22, 3) := by decide +kernel
theorem d_law_247 : decode code 247 = .ok (.if_icmp .eq 1315, 3) := by decide +kernel
theorem d_law_250 : decode code 250 = .ok (.iconst 0, 1) := by decide +kernel
theorem d_law_251 : decode code 251 = .ok (.ireturn, 1) := by decide +kernel
theorem d_law_252 : decode code 252 = .ok (.aload_n 1, 1) := by decide +kernel
theorem d_law_253 : decode code 253 = .ok (.aload_n 0, 1) := by decide +kernel
theorem d_law_254 : decode code 254 = .ok (.iload_n 3, 1) := by decide +kernel
theorem d_law_255 : decode code 255 = .ok (.iconst 1, 1) := by decide +kernel
theorem d_law_256 : decode code 256 = .ok (.iadd, 1) := by decide +kernel
theorem d_law_257 : decode code 257 = .ok (.iaload, 1) := by decide +kernel
theorem d_law_258 : decode code 258 = .ok (.aload_n 0, 1) := by decide +kernel
theorem d_law_259 : decode code 259 = .ok (.iload_n 3, 1) := by decide +kernel
theorem d_law_260 : decode code 260 = .ok (.iconst 2, 1) := by decide +kernel
theorem d_law_261 : decode code 261 = .ok (.iadd, 1) := by decide +kernel
theorem d_law_262 : decode code 262 = .ok (.iaload, 1) := by decide +kernel
theorem d_law_263 : decode code 263 = .ok (.aload_n 0, 1) := by decide +kernel
theorem d_law_264 : decode code 264 = .ok (.iload_n 3, 1) := by decide +kernel
theorem d_law_265 : decode code 265 = .ok (.iconst 3, 1) := by decide +kernel
theorem d_law_266 : decode code 266 = .ok (.iadd, 1) := by decide +kernel
theorem d_law_267 : decode code 267 = .ok (.iaload, 1) := by decide +kernel
theorem d_law_268 : decode code 268 = .ok (.aload_n 0, 1) := by decide +kernel
theorem d_law_269 : decode code 269 = .ok (.iload_n 3, 1) := by decide +kernel
theorem d_law_270 : decode code 270 = .ok (.iconst 4, 1) := by decide +kernel
theorem d_law_271 : decode code 271 = .ok (.iadd, 1) := by decide +kernel
theorem d_law_272 : decode code 272 = .ok (.iaload, 1) := by decide +kernel
theorem d_law_273 : decode code 273 = .ok (.invokevirtual 23, 3) := by decide +kernel
theorem d_law_276 : decode code 276 = .ok (.aload_n 2, 1) := by decide +kernel
theorem d_law_277 : decode code 277 = .ok (.aload_n 0, 1) := by decide +kernel
theorem d_law_278 : decode code 278 = .ok (.iload_n 3, 1) := by decide +kernel
theorem d_law_279 : decode code 279 = .ok (.iconst 1, 1) := by decide +kernel
theorem d_law_280 : decode code 280 = .ok (.iadd, 1) := by decide +kernel
theorem d_law_281 : decode code 281 = .ok (.iaload, 1) := by decide +kernel
theorem d_law_282 : decode code 282 = .ok (.aload_n 0, 1) := by decide +kernel
theorem d_law_283 : decode code 283 = .ok (.iload_n 3, 1) := by decide +kernel
theorem d_law_284 : decode code 284 = .ok (.iconst 2, 1) := by decide +kernel
theorem d_law_285 : decode code 285 = .ok (.iadd, 1) := by decide +kernel
theorem d_law_286 : decode code 286 = .ok (.iaload, 1) := by decide +kernel
theorem d_law_287 : decode code 287 = .ok (.aload_n 0, 1) := by decide +kernel
theorem d_law_288 : decode code 288 = .ok (.iload_n 3, 1) := by decide +kernel
theorem d_law_289 : decode code 289 = .ok (.iconst 3, 1) := by decide +kernel
theorem d_law_290 : decode code 290 = .ok (.iadd, 1) := by decide +kernel
theorem d_law_291 : decode code 291 = .ok (.iaload, 1) := by decide +kernel
theorem d_law_292 : decode code 292 = .ok (.aload_n 0, 1) := by decide +kernel
theorem d_law_293 : decode code 293 = .ok (.iload_n 3, 1) := by decide +kernel
theorem d_law_294 : decode code 294 = .ok (.iconst 4, 1) := by decide +kernel
theorem d_law_295 : decode code 295 = .ok (.iadd, 1) := by decide +kernel
theorem d_law_296 : decode code 296 = .ok (.iaload, 1) := by decide +kernel
theorem d_law_297 : decode code 297 = .ok (.invokevirtual 27, 3) := by decide +kernel
theorem d_law_300 : decode code 300 = .ok (.if_icmp .eq 1262, 3) := by decide +kernel
theorem d_law_303 : decode code 303 = .ok (.iconst 0, 1) := by decide +kernel
theorem d_law_304 : decode code 304 = .ok (.ireturn, 1) := by decide +kernel
theorem d_law_305 : decode code 305 = .ok (.aload_n 1, 1) := by decide +kernel
theorem d_law_306 : decode code 306 = .ok (.aload_n 0, 1) := by decide +kernel
theorem d_law_307 : decode code 307 = .ok (.iload_n 3, 1) := by decide +kernel
theorem d_law_308 : decode code 308 = .ok (.iconst 1, 1) := by decide +kernel
theorem d_law_309 : decode code 309 = .ok (.iadd, 1) := by decide +kernel
theorem d_law_310 : decode code 310 = .ok (.iaload, 1) := by decide +kernel
theorem d_law_311 : decode code 311 = .ok (.aload_n 0, 1) := by decide +kernel
theorem d_law_312 : decode code 312 = .ok (.iload_n 3, 1) := by decide +kernel
theorem d_law_313 : decode code 313 = .ok (.iconst 2, 1) := by decide +kernel
theorem d_law_314 : decode code 314 = .ok (.iadd, 1) := by decide +kernel
theorem d_law_315 : decode code 315 = .ok (.iaload, 1) := by decide +kernel
theorem d_law_316 : decode code 316 = .ok (.invokevirtual 28, 3) := by decide +kernel
theorem d_law_319 : decode code 319 = .ok (.aload_n 2, 1) := by decide +kernel
theorem d_law_320 : decode code 320 = .ok (.aload_n 0, 1) := by decide +kernel
theorem d_law_321 : decode code 321 = .ok (.iload_n 3, 1) := by decide +kernel
theorem d_law_322 : decode code 322 = .ok (.iconst 1, 1) := by decide +kernel
theorem d_law_323 : decode code 323 = .ok (.iadd, 1) := by decide +kernel
theorem d_law_324 : decode code 324 = .ok (.iaload, 1) := by decide +kernel
theorem d_law_325 : decode code 325 = .ok (.aload_n 0, 1) := by decide +kernel
theorem d_law_326 : decode code 326 = .ok (.iload_n 3, 1) := by decide +kernel
theorem d_law_327 : decode code 327 = .ok (.iconst 2, 1) := by decide +kernel
theorem d_law_328 : decode code 328 = .ok (.iadd, 1) := by decide +kernel
theorem d_law_329 : decode code 329 = .ok (.iaload, 1) := by decide +kernel
theorem d_law_330 : decode code 330 = .ok (.invokevirtual 31, 3) := by decide +kernel
theorem d_law_333 : decode code 333 = .ok (.if_icmp .eq 1229, 3) := by decide +kernel
theorem d_law_336 : decode code 336 = .ok (.iconst 0, 1) := by decide +kernel
theorem d_law_337 : decode code 337 = .ok (.ireturn, 1) := by decide +kernel
theorem d_law_338 : decode code 338 = .ok (.aload_n 1, 1) := by decide +kernel
theorem d_law_339 : decode code 339 = .ok (.aload_n 0, 1) := by decide +kernel
theorem d_law_340 : decode code 340 = .ok (.iload_n 3, 1) := by decide +kernel
theorem d_law_341 : decode code 341 = .ok (.iconst 1, 1) := by decide +kernel
theorem d_law_342 : decode code 342 = .ok (.iadd, 1) := by decide +kernel
theorem d_law_343 : decode code 343 = .ok (.iaload, 1) := by decide +kernel
theorem d_law_344 : decode code 344 = .ok (.aload_n 0, 1) := by decide +kernel
theorem d_law_345 : decode code 345 = .ok (.iload_n 3, 1) := by decide +kernel
theorem d_law_346 : decode code 346 = .ok (.iconst 2, 1) := by decide +kernel
theorem d_law_347 : decode code 347 = .ok (.iadd, 1) := by decide +kernel
theorem d_law_348 : decode code 348 = .ok (.iaload, 1) := by decide +kernel
theorem d_law_349 : decode code 349 = .ok (.invokevirtual 32, 3) := by decide +kernel
theorem d_law_352 : decode code 352 = .ok (.aload_n 2, 1) := by decide +kernel
theorem d_law_353 : decode code 353 = .ok (.aload_n 0, 1) := by decide +kernel
theorem d_law_354 : decode code 354 = .ok (.iload_n 3, 1) := by decide +kernel
theorem d_law_355 : decode code 355 = .ok (.iconst 1, 1) := by decide +kernel
theorem d_law_356 : decode code 356 = .ok (.iadd, 1) := by decide +kernel
theorem d_law_357 : decode code 357 = .ok (.iaload, 1) := by decide +kernel
theorem d_law_358 : decode code 358 = .ok (.aload_n 0, 1) := by decide +kernel
theorem d_law_359 : decode code 359 = .ok (.iload_n 3, 1) := by decide +kernel
theorem d_law_360 : decode code 360 = .ok (.iconst 2, 1) := by decide +kernel
theorem d_law_361 : decode code 361 = .ok (.iadd, 1) := by decide +kernel
theorem d_law_362 : decode code 362 = .ok (.iaload, 1) := by decide +kernel
theorem d_law_363 : decode code 363 = .ok (.invokevirtual 35, 3) := by decide +kernel
theorem d_law_366 : decode code 366 = .ok (.if_icmp .eq 1196, 3) := by decide +kernel
theorem d_law_369 : decode code 369 = .ok (.iconst 0, 1) := by decide +kernel
theorem d_law_370 : decode code 370 = .ok (.ireturn, 1) := by decide +kernel
theorem d_law_371 : decode code 371 = .ok (.aload_n 1, 1) := by decide +kernel
theorem d_law_372 : decode code 372 = .ok (.aload_n 0, 1) := by decide +kernel
theorem d_law_373 : decode code 373 = .ok (.iload_n 3, 1) := by decide +kernel
theorem d_law_374 : decode code 374 = .ok (.iconst 1, 1) := by decide +kernel
theorem d_law_375 : decode code 375 = .ok (.iadd, 1) := by decide +kernel
theorem d_law_376 : decode code 376 = .ok (.iaload, 1) := by decide +kernel
theorem d_law_377 : decode code 377 = .ok (.aload_n 0, 1) := by decide +kernel
theorem d_law_378 : decode code 378 = .ok (.iload_n 3, 1) := by decide +kernel
theorem d_law_379 : decode code 379 = .ok (.iconst 2, 1) := by decide +kernel
theorem d_law_380 : decode code 380 = .ok (.iadd, 1) := by decide +kernel
theorem d_law_381 : decode code 381 = .ok (.iaload, 1) := by decide +kernel
theorem d_law_382 : decode code 382 = .ok (.invokevirtual 36, 3) := by decide +kernel
theorem d_law_385 : decode code 385 = .ok (.aload_n 2, 1) := by decide +kernel
theorem d_law_386 : decode code 386 = .ok (.aload_n 0, 1) := by decide +kernel
theorem d_law_387 : decode code 387 = .ok (.iload_n 3, 1) := by decide +kernel
theorem d_law_388 : decode code 388 = .ok (.iconst 1, 1) := by decide +kernel
theorem d_law_389 : decode code 389 = .ok (.iadd, 1) := by decide +kernel
theorem d_law_390 : decode code 390 = .ok (.iaload, 1) := by decide +kernel
theorem d_law_391 : decode code 391 = .ok (.aload_n 0, 1) := by decide +kernel
theorem d_law_392 : decode code 392 = .ok (.iload_n 3, 1) := by decide +kernel
theorem d_law_393 : decode code 393 = .ok (.iconst 2, 1) := by decide +kernel
theorem d_law_394 : decode code 394 = .ok (.iadd, 1) := by decide +kernel
theorem d_law_395 : decode code 395 = .ok (.iaload, 1) := by decide +kernel
theorem d_law_396 : decode code 396 = .ok (.invokevirtual 39, 3) := by decide +kernel
theorem d_law_399 : decode code 399 = .ok (.if_icmp .eq 1163, 3) := by decide +kernel
theorem d_law_402 : decode code 402 = .ok (.iconst 0, 1) := by decide +kernel
theorem d_law_403 : decode code 403 = .ok (.ireturn, 1) := by decide +kernel
theorem d_law_404 : decode code 404 = .ok (.aload_n 1, 1) := by decide +kernel
theorem d_law_405 : decode code 405 = .ok (.aload_n 0, 1) := by decide +kernel
theorem d_law_406 : decode code 406 = .ok (.iload_n 3, 1) := by decide +kernel
theorem d_law_407 : decode code 407 = .ok (.iconst 1, 1) := by decide +kernel
theorem d_law_408 : decode code 408 = .ok (.iadd, 1) := by decide +kernel
theorem d_law_409 : decode code 409 = .ok (.iaload, 1) := by decide +kernel
theorem d_law_410 : decode code 410 = .ok (.aload_n 0, 1) := by decide +kernel
theorem d_law_411 : decode code 411 = .ok (.iload_n 3, 1) := by decide +kernel
theorem d_law_412 : decode code 412 = .ok (.iconst 2, 1) := by decide +kernel
theorem d_law_413 : decode code 413 = .ok (.iadd, 1) := by decide +kernel
theorem d_law_414 : decode code 414 = .ok (.iaload, 1) := by decide +kernel
theorem d_law_415 : decode code 415 = .ok (.aload_n 0, 1) := by decide +kernel
theorem d_law_416 : decode code 416 = .ok (.iload_n 3, 1) := by decide +kernel
theorem d_law_417 : decode code 417 = .ok (.iconst 3, 1) := by decide +kernel
theorem d_law_418 : decode code 418 = .ok (.iadd, 1) := by decide +kernel
theorem d_law_419 : decode code 419 = .ok (.iaload, 1) := by decide +kernel
theorem d_law_420 : decode code 420 = .ok (.invokevirtual 40, 3) := by decide +kernel
theorem d_law_423 : decode code 423 = .ok (.aload_n 2, 1) := by decide +kernel
theorem d_law_424 : decode code 424 = .ok (.aload_n 0, 1) := by decide +kernel
theorem d_law_425 : decode code 425 = .ok (.iload_n 3, 1) := by decide +kernel
theorem d_law_426 : decode code 426 = .ok (.iconst 1, 1) := by decide +kernel
theorem d_law_427 : decode code 427 = .ok (.iadd, 1) := by decide +kernel
theorem d_law_428 : decode code 428 = .ok (.iaload, 1) := by decide +kernel
theorem d_law_429 : decode code 429 = .ok (.aload_n 0, 1) := by decide +kernel
theorem d_law_430 : decode code 430 = .ok (.iload_n 3, 1) := by decide +kernel
theorem d_law_431 : decode code 431 = .ok (.iconst 2, 1) := by decide +kernel
theorem d_law_432 : decode code 432 = .ok (.iadd, 1) := by decide +kernel
theorem d_law_433 : decode code 433 = .ok (.iaload, 1) := by decide +kernel
theorem d_law_434 : decode code 434 = .ok (.aload_n 0, 1) := by decide +kernel
theorem d_law_435 : decode code 435 = .ok (.iload_n 3, 1) := by decide +kernel
theorem d_law_436 : decode code 436 = .ok (.iconst 3, 1) := by decide +kernel
theorem d_law_437 : decode code 437 = .ok (.iadd, 1) := by decide +kernel
theorem d_law_438 : decode code 438 = .ok (.iaload, 1) := by decide +kernel
theorem d_law_439 : decode code 439 = .ok (.invokevirtual 44, 3) := by decide +kernel
theorem d_law_442 : decode code 442 = .ok (.if_icmp .eq 1120, 3) := by decide +kernel
theorem d_law_445 : decode code 445 = .ok (.iconst 0, 1) := by decide +kernel
theorem d_law_446 : decode code 446 = .ok (.ireturn, 1) := by decide +kernel
theorem d_law_447 : decode code 447 = .ok (.aload_n 1, 1) := by decide +kernel
theorem d_law_448 : decode code 448 = .ok (.aload_n 0, 1) := by decide +kernel
theorem d_law_449 : decode code 449 = .ok (.iload_n 3, 1) := by decide +kernel
theorem d_law_450 : decode code 450 = .ok (.iconst 1, 1) := by decide +kernel
theorem d_law_451 : decode code 451 = .ok (.iadd, 1) := by decide +kernel
theorem d_law_452 : decode code 452 = .ok (.iaload, 1) := by decide +kernel
theorem d_law_453 : decode code 453 = .ok (.aload_n 0, 1) := by decide +kernel
theorem d_law_454 : decode code 454 = .ok (.iload_n 3, 1) := by decide +kernel
theorem d_law_455 : decode code 455 = .ok (.iconst 2, 1) := by decide +kernel
theorem d_law_456 : decode code 456 = .ok (.iadd, 1) := by decide +kernel
theorem d_law_457 : decode code 457 = .ok (.iaload, 1) := by decide +kernel
theorem d_law_458 : decode code 458 = .ok (.invokevirtual 45, 3) := by decide +kernel
theorem d_law_461 : decode code 461 = .ok (.aload_n 2, 1) := by decide +kernel
theorem d_law_462 : decode code 462 = .ok (.aload_n 0, 1) := by decide +kernel
theorem d_law_463 : decode code 463 = .ok (.iload_n 3, 1) := by decide +kernel
theorem d_law_464 : decode code 464 = .ok (.iconst 1, 1) := by decide +kernel
theorem d_law_465 : decode code 465 = .ok (.iadd, 1) := by decide +kernel
theorem d_law_466 : decode code 466 = .ok (.iaload, 1) := by decide +kernel
theorem d_law_467 : decode code 467 = .ok (.aload_n 0, 1) := by decide +kernel
theorem d_law_468 : decode code 468 = .ok (.iload_n 3, 1) := by decide +kernel
theorem d_law_469 : decode code 469 = .ok (.iconst 2, 1) := by decide +kernel
theorem d_law_470 : decode code 470 = .ok (.iadd, 1) := by decide +kernel
theorem d_law_471 : decode code 471 = .ok (.iaload, 1) := by decide +kernel
theorem d_law_472 : decode code 472 = .ok (.invokevirtual 48, 3) := by decide +kernel
theorem d_law_475 : decode code 475 = .ok (.if_icmp .eq 1087, 3) := by decide +kernel
theorem d_law_478 : decode code 478 = .ok (.iconst 0, 1) := by decide +kernel
theorem d_law_479 : decode code 479 = .ok (.ireturn, 1) := by decide +kernel
theorem d_law_480 : decode code 480 = .ok (.aload_n 1, 1) := by decide +kernel
theorem d_law_481 : decode code 481 = .ok (.aload_n 0, 1) := by decide +kernel
theorem d_law_482 : decode code 482 = .ok (.iload_n 3, 1) := by decide +kernel
theorem d_law_483 : decode code 483 = .ok (.iconst 1, 1) := by decide +kernel
theorem d_law_484 : decode code 484 = .ok (.iadd, 1) := by decide +kernel
theorem d_law_485 : decode code 485 = .ok (.iaload, 1) := by decide +kernel
theorem d_law_486 : decode code 486 = .ok (.aload_n 0, 1) := by decide +kernel
theorem d_law_487 : decode code 487 = .ok (.iload_n 3, 1) := by decide +kernel
theorem d_law_488 : decode code 488 = .ok (.iconst 2, 1) := by decide +kernel
theorem d_law_489 : decode code 489 = .ok (.iadd, 1) := by decide +kernel
theorem d_law_490 : decode code 490 = .ok (.iaload, 1) := by decide +kernel
theorem d_law_491 : decode code 491 = .ok (.invokevirtual 49, 3) := by decide +kernel
theorem d_law_494 : decode code 494 = .ok (.aload_n 2, 1) := by decide +kernel
theorem d_law_495 : decode code 495 = .ok (.aload_n 0, 1) := by decide +kernel
theorem d_law_496 : decode code 496 = .ok (.iload_n 3, 1) := by decide +kernel
theorem d_law_497 : decode code 497 = .ok (.iconst 1, 1) := by decide +kernel
theorem d_law_498 : decode code 498 = .ok (.iadd, 1) := by decide +kernel
theorem d_law_499 : decode code 499 = .ok (.iaload, 1) := by decide +kernel
theorem d_law_500 : decode code 500 = .ok (.aload_n 0, 1) := by decide +kernel
theorem d_law_501 : decode code 501 = .ok (.iload_n 3, 1) := by decide +kernel
theorem d_law_502 : decode code 502 = .ok (.iconst 2, 1) := by decide +kernel
theorem d_law_503 : decode code 503 = .ok (.iadd, 1) := by decide +kernel
theorem d_law_504 : decode code 504 = .ok (.iaload, 1) := by decide +kernel
theorem d_law_505 : decode code 505 = .ok (.invokevirtual 52, 3) := by decide +kernel
theorem d_law_508 : decode code 508 = .ok (.if_icmp .eq 1054, 3) := by decide +kernel
theorem d_law_511 : decode code 511 = .ok (.iconst 0, 1) := by decide +kernel
theorem d_law_512 : decode code 512 = .ok (.ireturn, 1) := by decide +kernel
theorem d_law_513 : decode code 513 = .ok (.aload_n 1, 1) := by decide +kernel
theorem d_law_514 : decode code 514 = .ok (.aload_n 0, 1) := by decide +kernel
theorem d_law_515 : decode code 515 = .ok (.iload_n 3, 1) := by decide +kernel
theorem d_law_516 : decode code 516 = .ok (.iconst 1, 1) := by decide +kernel
theorem d_law_517 : decode code 517 = .ok (.iadd, 1) := by decide +kernel
theorem d_law_518 : decode code 518 = .ok (.iaload, 1) := by decide +kernel
theorem d_law_519 : decode code 519 = .ok (.aload_n 0, 1) := by decide +kernel
theorem d_law_520 : decode code 520 = .ok (.iload_n 3, 1) := by decide +kernel
theorem d_law_521 : decode code 521 = .ok (.iconst 2, 1) := by decide +kernel
theorem d_law_522 : decode code 522 = .ok (.iadd, 1) := by decide +kernel
theorem d_law_523 : decode code 523 = .ok (.iaload, 1) := by decide +kernel
theorem d_law_524 : decode code 524 = .ok (.aload_n 0, 1) := by decide +kernel
theorem d_law_525 : decode code 525 = .ok (.iload_n 3, 1) := by decide +kernel
theorem d_law_526 : decode code 526 = .ok (.iconst 3, 1) := by decide +kernel
theorem d_law_527 : decode code 527 = .ok (.iadd, 1) := by decide +kernel
theorem d_law_528 : decode code 528 = .ok (.iaload, 1) := by decide +kernel
theorem d_law_529 : decode code 529 = .ok (.aload_n 0, 1) := by decide +kernel
theorem d_law_530 : decode code 530 = .ok (.iload_n 3, 1) := by decide +kernel
theorem d_law_531 : decode code 531 = .ok (.iconst 4, 1) := by decide +kernel
theorem d_law_532 : decode code 532 = .ok (.iadd, 1) := by decide +kernel
theorem d_law_533 : decode code 533 = .ok (.iaload, 1) := by decide +kernel
theorem d_law_534 : decode code 534 = .ok (.invokevirtual 53, 3) := by decide +kernel
theorem d_law_537 : decode code 537 = .ok (.aload_n 2, 1) := by decide +kernel
theorem d_law_538 : decode code 538 = .ok (.aload_n 0, 1) := by decide +kernel
theorem d_law_539 : decode code 539 = .ok (.iload_n 3, 1) := by decide +kernel
theorem d_law_540 : decode code 540 = .ok (.iconst 1, 1) := by decide +kernel
theorem d_law_541 : decode code 541 = .ok (.iadd, 1) := by decide +kernel
theorem d_law_542 : decode code 542 = .ok (.iaload, 1) := by decide +kernel
theorem d_law_543 : decode code 543 = .ok (.aload_n 0, 1) := by decide +kernel
theorem d_law_544 : decode code 544 = .ok (.iload_n 3, 1) := by decide +kernel
theorem d_law_545 : decode code 545 = .ok (.iconst 2, 1) := by decide +kernel
theorem d_law_546 : decode code 546 = .ok (.iadd, 1) := by decide +kernel
theorem d_law_547 : decode code 547 = .ok (.iaload, 1) := by decide +kernel
theorem d_law_548 : decode code 548 = .ok (.aload_n 0, 1) := by decide +kernel
theorem d_law_549 : decode code 549 = .ok (.iload_n 3, 1) := by decide +kernel
theorem d_law_550 : decode code 550 = .ok (.iconst 3, 1) := by decide +kernel
theorem d_law_551 : decode code 551 = .ok (.iadd, 1) := by decide +kernel
theorem d_law_552 : decode code 552 = .ok (.iaload, 1) := by decide +kernel
theorem d_law_553 : decode code 553 = .ok (.aload_n 0, 1) := by decide +kernel
theorem d_law_554 : decode code 554 = .ok (.iload_n 3, 1) := by decide +kernel
theorem d_law_555 : decode code 555 = .ok (.iconst 4, 1) := by decide +kernel
theorem d_law_556 : decode code 556 = .ok (.iadd, 1) := by decide +kernel
theorem d_law_557 : decode code 557 = .ok (.iaload, 1) := by decide +kernel
theorem d_law_558 : decode code 558 = .ok (.invokevirtual 56, 3) := by decide +kernel
theorem d_law_561 : decode code 561 = .ok (.if_icmp .eq 1001, 3) := by decide +kernel
theorem d_law_564 : decode code 564 = .ok (.iconst 0, 1) := by decide +kernel
theorem d_law_565 : decode code 565 = .ok (.ireturn, 1) := by decide +kernel
theorem d_law_566 : decode code 566 = .ok (.aload_n 1, 1) := by decide +kernel
theorem d_law_567 : decode code 567 = .ok (.aload_n 0, 1) := by decide +kernel
theorem d_law_568 : decode code 568 = .ok (.iload_n 3, 1) := by decide +kernel
theorem d_law_569 : decode code 569 = .ok (.iconst 1, 1) := by decide +kernel
theorem d_law_570 : decode code 570 = .ok (.iadd, 1) := by decide +kernel
theorem d_law_571 : decode code 571 = .ok (.iaload, 1) := by decide +kernel
theorem d_law_572 : decode code 572 = .ok (.aload_n 0, 1) := by decide +kernel
theorem d_law_573 : decode code 573 = .ok (.iload_n 3, 1) := by decide +kernel
theorem d_law_574 : decode code 574 = .ok (.iconst 2, 1) := by decide +kernel
theorem d_law_575 : decode code 575 = .ok (.iadd, 1) := by decide +kernel
theorem d_law_576 : decode code 576 = .ok (.iaload, 1) := by decide +kernel
theorem d_law_577 : decode code 577 = .ok (.aload_n 0, 1) := by decide +kernel
theorem d_law_578 : decode code 578 = .ok (.iload_n 3, 1) := by decide +kernel
theorem d_law_579 : decode code 579 = .ok (.iconst 3, 1) := by decide +kernel
theorem d_law_580 : decode code 580 = .ok (.iadd, 1) := by decide +kernel
theorem d_law_581 : decode code 581 = .ok (.iaload, 1) := by decide +kernel
theorem d_law_582 : decode code 582 = .ok (.invokevirtual 57, 3) := by decide +kernel
theorem d_law_585 : decode code 585 = .ok (.aload_n 2, 1) := by decide +kernel
theorem d_law_586 : decode code 586 = .ok (.aload_n 0, 1) := by decide +kernel
theorem d_law_587 : decode code 587 = .ok (.iload_n 3, 1) := by decide +kernel
theorem d_law_588 : decode code 588 = .ok (.iconst 1, 1) := by decide +kernel
theorem d_law_589 : decode code 589 = .ok (.iadd, 1) := by decide +kernel
theorem d_law_590 : decode code 590 = .ok (.iaload, 1) := by decide +kernel
theorem d_law_591 : decode code 591 = .ok (.aload_n 0, 1) := by decide +kernel
theorem d_law_592 : decode code 592 = .ok (.iload_n 3, 1) := by decide +kernel
theorem d_law_593 : decode code 593 = .ok (.iconst 2, 1) := by decide +kernel
theorem d_law_594 : decode code 594 = .ok (.iadd, 1) := by decide +kernel
theorem d_law_595 : decode code 595 = .ok (.iaload, 1) := by decide +kernel
theorem d_law_596 : decode code 596 = .ok (.aload_n 0, 1) := by decide +kernel
theorem d_law_597 : decode code 597 = .ok (.iload_n 3, 1) := by decide +kernel
theorem d_law_598 : decode code 598 = .ok (.iconst 3, 1) := by decide +kernel
theorem d_law_599 : decode code 599 = .ok (.iadd, 1) := by decide +kernel
theorem d_law_600 : decode code 600 = .ok (.iaload, 1) := by decide +kernel
theorem d_law_601 : decode code 601 = .ok (.invokevirtual 60, 3) := by decide +kernel
theorem d_law_604 : decode code 604 = .ok (.if_icmp .eq 958, 3) := by decide +kernel
theorem d_law_607 : decode code 607 = .ok (.iconst 0, 1) := by decide +kernel
theorem d_law_608 : decode code 608 = .ok (.ireturn, 1) := by decide +kernel
theorem d_law_609 : decode code 609 = .ok (.aload_n 1, 1) := by decide +kernel
theorem d_law_610 : decode code 610 = .ok (.aload_n 0, 1) := by decide +kernel
theorem d_law_611 : decode code 611 = .ok (.iload_n 3, 1) := by decide +kernel
theorem d_law_612 : decode code 612 = .ok (.iconst 1, 1) := by decide +kernel
theorem d_law_613 : decode code 613 = .ok (.iadd, 1) := by decide +kernel
theorem d_law_614 : decode code 614 = .ok (.iaload, 1) := by decide +kernel
theorem d_law_615 : decode code 615 = .ok (.aload_n 0, 1) := by decide +kernel
theorem d_law_616 : decode code 616 = .ok (.iload_n 3, 1) := by decide +kernel
theorem d_law_617 : decode code 617 = .ok (.iconst 2, 1) := by decide +kernel
theorem d_law_618 : decode code 618 = .ok (.iadd, 1) := by decide +kernel
theorem d_law_619 : decode code 619 = .ok (.iaload, 1) := by decide +kernel
theorem d_law_620 : decode code 620 = .ok (.aload_n 0, 1) := by decide +kernel
theorem d_law_621 : decode code 621 = .ok (.iload_n 3, 1) := by decide +kernel
theorem d_law_622 : decode code 622 = .ok (.iconst 3, 1) := by decide +kernel
theorem d_law_623 : decode code 623 = .ok (.iadd, 1) := by decide +kernel
theorem d_law_624 : decode code 624 = .ok (.iaload, 1) := by decide +kernel
theorem d_law_625 : decode code 625 = .ok (.invokevirtual 61, 3) := by decide +kernel
theorem d_law_628 : decode code 628 = .ok (.aload_n 2, 1) := by decide +kernel
theorem d_law_629 : decode code 629 = .ok (.aload_n 0, 1) := by decide +kernel
theorem d_law_630 : decode code 630 = .ok (.iload_n 3, 1) := by decide +kernel
theorem d_law_631 : decode code 631 = .ok (.iconst 1, 1) := by decide +kernel
theorem d_law_632 : decode code 632 = .ok (.iadd, 1) := by decide +kernel
theorem d_law_633 : decode code 633 = .ok (.iaload, 1) := by decide +kernel
theorem d_law_634 : decode code 634 = .ok (.aload_n 0, 1) := by decide +kernel
theorem d_law_635 : decode code 635 = .ok (.iload_n 3, 1) := by decide +kernel
theorem d_law_636 : decode code 636 = .ok (.iconst 2, 1) := by decide +kernel
theorem d_law_637 : decode code 637 = .ok (.iadd, 1) := by decide +kernel
theorem d_law_638 : decode code 638 = .ok (.iaload, 1) := by decide +kernel
theorem d_law_639 : decode code 639 = .ok (.aload_n 0, 1) := by decide +kernel
theorem d_law_640 : decode code 640 = .ok (.iload_n 3, 1) := by decide +kernel
theorem d_law_641 : decode code 641 = .ok (.iconst 3, 1) := by decide +kernel
theorem d_law_642 : decode code 642 = .ok (.iadd, 1) := by decide +kernel
theorem d_law_643 : decode code 643 = .ok (.iaload, 1) := by decide +kernel
theorem d_law_644 : decode code 644 = .ok (.invokevirtual 64, 3) := by decide +kernel
theorem d_law_647 : decode code 647 = .ok (.if_icmp .eq 915, 3) := by decide +kernel
theorem d_law_650 : decode code 650 = .ok (.iconst 0, 1) := by decide +kernel
theorem d_law_651 : decode code 651 = .ok (.ireturn, 1) := by decide +kernel
theorem d_law_652 : decode code 652 = .ok (.aload_n 1, 1) := by decide +kernel
theorem d_law_653 : decode code 653 = .ok (.aload_n 0, 1) := by decide +kernel
theorem d_law_654 : decode code 654 = .ok (.iload_n 3, 1) := by decide +kernel
theorem d_law_655 : decode code 655 = .ok (.iconst 1, 1) := by decide +kernel
theorem d_law_656 : decode code 656 = .ok (.iadd, 1) := by decide +kernel
theorem d_law_657 : decode code 657 = .ok (.iaload, 1) := by decide +kernel
theorem d_law_658 : decode code 658 = .ok (.aload_n 0, 1) := by decide +kernel
theorem d_law_659 : decode code 659 = .ok (.iload_n 3, 1) := by decide +kernel
theorem d_law_660 : decode code 660 = .ok (.iconst 2, 1) := by decide +kernel
theorem d_law_661 : decode code 661 = .ok (.iadd, 1) := by decide +kernel
theorem d_law_662 : decode code 662 = .ok (.iaload, 1) := by decide +kernel
theorem d_law_663 : decode code 663 = .ok (.aload_n 0, 1) := by decide +kernel
theorem d_law_664 : decode code 664 = .ok (.iload_n 3, 1) := by decide +kernel
theorem d_law_665 : decode code 665 = .ok (.iconst 3, 1) := by decide +kernel
theorem d_law_666 : decode code 666 = .ok (.iadd, 1) := by decide +kernel
theorem d_law_667 : decode code 667 = .ok (.iaload, 1) := by decide +kernel
theorem d_law_668 : decode code 668 = .ok (.invokevirtual 65, 3) := by decide +kernel
theorem d_law_671 : decode code 671 = .ok (.aload_n 2, 1) := by decide +kernel
theorem d_law_672 : decode code 672 = .ok (.aload_n 0, 1) := by decide +kernel
theorem d_law_673 : decode code 673 = .ok (.iload_n 3, 1) := by decide +kernel
theorem d_law_674 : decode code 674 = .ok (.iconst 1, 1) := by decide +kernel
theorem d_law_675 : decode code 675 = .ok (.iadd, 1) := by decide +kernel
theorem d_law_676 : decode code 676 = .ok (.iaload, 1) := by decide +kernel
theorem d_law_677 : decode code 677 = .ok (.aload_n 0, 1) := by decide +kernel
theorem d_law_678 : decode code 678 = .ok (.iload_n 3, 1) := by decide +kernel
theorem d_law_679 : decode code 679 = .ok (.iconst 2, 1) := by decide +kernel
theorem d_law_680 : decode code 680 = .ok (.iadd, 1) := by decide +kernel
theorem d_law_681 : decode code 681 = .ok (.iaload, 1) := by decide +kernel
theorem d_law_682 : decode code 682 = .ok (.aload_n 0, 1) := by decide +kernel
theorem d_law_683 : decode code 683 = .ok (.iload_n 3, 1) := by decide +kernel
theorem d_law_684 : decode code 684 = .ok (.iconst 3, 1) := by decide +kernel
theorem d_law_685 : decode code 685 = .ok (.iadd, 1) := by decide +kernel
theorem d_law_686 : decode code 686 = .ok (.iaload, 1) := by decide +kernel
theorem d_law_687 : decode code 687 = .ok (.invokevirtual 68, 3) := by decide +kernel
theorem d_law_690 : decode code 690 = .ok (.if_icmp .eq 872, 3) := by decide +kernel
theorem d_law_693 : decode code 693 = .ok (.iconst 0, 1) := by decide +kernel
theorem d_law_694 : decode code 694 = .ok (.ireturn, 1) := by decide +kernel
theorem d_law_695 : decode code 695 = .ok (.aload_n 1, 1) := by decide +kernel
theorem d_law_696 : decode code 696 = .ok (.aload_n 0, 1) := by decide +kernel
theorem d_law_697 : decode code 697 = .ok (.iload_n 3, 1) := by decide +kernel
theorem d_law_698 : decode code 698 = .ok (.iconst 1, 1) := by decide +kernel
theorem d_law_699 : decode code 699 = .ok (.iadd, 1) := by decide +kernel
theorem d_law_700 : decode code 700 = .ok (.iaload, 1) := by decide +kernel
theorem d_law_701 : decode code 701 = .ok (.aload_n 0, 1) := by decide +kernel
theorem d_law_702 : decode code 702 = .ok (.iload_n 3, 1) := by decide +kernel
theorem d_law_703 : decode code 703 = .ok (.iconst 2, 1) := by decide +kernel
theorem d_law_704 : decode code 704 = .ok (.iadd, 1) := by decide +kernel
theorem d_law_705 : decode code 705 = .ok (.iaload, 1) := by decide +kernel
theorem d_law_706 : decode code 706 = .ok (.invokevirtual 69, 3) := by decide +kernel
theorem d_law_709 : decode code 709 = .ok (.aload_n 2, 1) := by decide +kernel
theorem d_law_710 : decode code 710 = .ok (.aload_n 0, 1) := by decide +kernel
theorem d_law_711 : decode code 711 = .ok (.iload_n 3, 1) := by decide +kernel
theorem d_law_712 : decode code 712 = .ok (.iconst 1, 1) := by decide +kernel
theorem d_law_713 : decode code 713 = .ok (.iadd, 1) := by decide +kernel
theorem d_law_714 : decode code 714 = .ok (.iaload, 1) := by decide +kernel
theorem d_law_715 : decode code 715 = .ok (.aload_n 0, 1) := by decide +kernel
theorem d_law_716 : decode code 716 = .ok (.iload_n 3, 1) := by decide +kernel
theorem d_law_717 : decode code 717 = .ok (.iconst 2, 1) := by decide +kernel
theorem d_law_718 : decode code 718 = .ok (.iadd, 1) := by decide +kernel
theorem d_law_719 : decode code 719 = .ok (.iaload, 1) := by decide +kernel
theorem d_law_720 : decode code 720 = .ok (.invokevirtual 72, 3) := by decide +kernel
theorem d_law_723 : decode code 723 = .ok (.if_icmp .eq 839, 3) := by decide +kernel
theorem d_law_726 : decode code 726 = .ok (.iconst 0, 1) := by decide +kernel
theorem d_law_727 : decode code 727 = .ok (.ireturn, 1) := by decide +kernel
theorem d_law_728 : decode code 728 = .ok (.aload_n 1, 1) := by decide +kernel
theorem d_law_729 : decode code 729 = .ok (.aload_n 0, 1) := by decide +kernel
theorem d_law_730 : decode code 730 = .ok (.iload_n 3, 1) := by decide +kernel
theorem d_law_731 : decode code 731 = .ok (.iconst 1, 1) := by decide +kernel
theorem d_law_732 : decode code 732 = .ok (.iadd, 1) := by decide +kernel
theorem d_law_733 : decode code 733 = .ok (.iaload, 1) := by decide +kernel
theorem d_law_734 : decode code 734 = .ok (.aload_n 0, 1) := by decide +kernel
theorem d_law_735 : decode code 735 = .ok (.iload_n 3, 1) := by decide +kernel
theorem d_law_736 : decode code 736 = .ok (.iconst 2, 1) := by decide +kernel
theorem d_law_737 : decode code 737 = .ok (.iadd, 1) := by decide +kernel
theorem d_law_738 : decode code 738 = .ok (.iaload, 1) := by decide +kernel
theorem d_law_739 : decode code 739 = .ok (.invokevirtual 73, 3) := by decide +kernel
theorem d_law_742 : decode code 742 = .ok (.aload_n 2, 1) := by decide +kernel
theorem d_law_743 : decode code 743 = .ok (.aload_n 0, 1) := by decide +kernel
theorem d_law_744 : decode code 744 = .ok (.iload_n 3, 1) := by decide +kernel
theorem d_law_745 : decode code 745 = .ok (.iconst 1, 1) := by decide +kernel
theorem d_law_746 : decode code 746 = .ok (.iadd, 1) := by decide +kernel
theorem d_law_747 : decode code 747 = .ok (.iaload, 1) := by decide +kernel
theorem d_law_748 : decode code 748 = .ok (.aload_n 0, 1) := by decide +kernel
theorem d_law_749 : decode code 749 = .ok (.iload_n 3, 1) := by decide +kernel
theorem d_law_750 : decode code 750 = .ok (.iconst 2, 1) := by decide +kernel
theorem d_law_751 : decode code 751 = .ok (.iadd, 1) := by decide +kernel
theorem d_law_752 : decode code 752 = .ok (.iaload, 1) := by decide +kernel
theorem d_law_753 : decode code 753 = .ok (.invokevirtual 76, 3) := by decide +kernel
theorem d_law_756 : decode code 756 = .ok (.if_icmp .eq 806, 3) := by decide +kernel
theorem d_law_759 : decode code 759 = .ok (.iconst 0, 1) := by decide +kernel
theorem d_law_760 : decode code 760 = .ok (.ireturn, 1) := by decide +kernel
theorem d_law_761 : decode code 761 = .ok (.aload_n 1, 1) := by decide +kernel
theorem d_law_762 : decode code 762 = .ok (.aload_n 0, 1) := by decide +kernel
theorem d_law_763 : decode code 763 = .ok (.iload_n 3, 1) := by decide +kernel
theorem d_law_764 : decode code 764 = .ok (.iconst 1, 1) := by decide +kernel
theorem d_law_765 : decode code 765 = .ok (.iadd, 1) := by decide +kernel
theorem d_law_766 : decode code 766 = .ok (.iaload, 1) := by decide +kernel
theorem d_law_767 : decode code 767 = .ok (.aload_n 0, 1) := by decide +kernel
theorem d_law_768 : decode code 768 = .ok (.iload_n 3, 1) := by decide +kernel
theorem d_law_769 : decode code 769 = .ok (.iconst 2, 1) := by decide +kernel
theorem d_law_770 : decode code 770 = .ok (.iadd, 1) := by decide +kernel
theorem d_law_771 : decode code 771 = .ok (.iaload, 1) := by decide +kernel
theorem d_law_772 : decode code 772 = .ok (.aload_n 0, 1) := by decide +kernel
theorem d_law_773 : decode code 773 = .ok (.iload_n 3, 1) := by decide +kernel
theorem d_law_774 : decode code 774 = .ok (.iconst 3, 1) := by decide +kernel
theorem d_law_775 : decode code 775 = .ok (.iadd, 1) := by decide +kernel
theorem d_law_776 : decode code 776 = .ok (.iaload, 1) := by decide +kernel
theorem d_law_777 : decode code 777 = .ok (.invokevirtual 77, 3) := by decide +kernel
theorem d_law_780 : decode code 780 = .ok (.aload_n 2, 1) := by decide +kernel
theorem d_law_781 : decode code 781 = .ok (.aload_n 0, 1) := by decide +kernel
theorem d_law_782 : decode code 782 = .ok (.iload_n 3, 1) := by decide +kernel
theorem d_law_783 : decode code 783 = .ok (.iconst 1, 1) := by decide +kernel
theorem d_law_784 : decode code 784 = .ok (.iadd, 1) := by decide +kernel
theorem d_law_785 : decode code 785 = .ok (.iaload, 1) := by decide +kernel
theorem d_law_786 : decode code 786 = .ok (.aload_n 0, 1) := by decide +kernel
theorem d_law_787 : decode code 787 = .ok (.iload_n 3, 1) := by decide +kernel
theorem d_law_788 : decode code 788 = .ok (.iconst 2, 1) := by decide +kernel
theorem d_law_789 : decode code 789 = .ok (.iadd, 1) := by decide +kernel
theorem d_law_790 : decode code 790 = .ok (.iaload, 1) := by decide +kernel
theorem d_law_791 : decode code 791 = .ok (.aload_n 0, 1) := by decide +kernel
theorem d_law_792 : decode code 792 = .ok (.iload_n 3, 1) := by decide +kernel
theorem d_law_793 : decode code 793 = .ok (.iconst 3, 1) := by decide +kernel
theorem d_law_794 : decode code 794 = .ok (.iadd, 1) := by decide +kernel
theorem d_law_795 : decode code 795 = .ok (.iaload, 1) := by decide +kernel
theorem d_law_796 : decode code 796 = .ok (.invokevirtual 80, 3) := by decide +kernel
theorem d_law_799 : decode code 799 = .ok (.if_icmp .eq 763, 3) := by decide +kernel
theorem d_law_802 : decode code 802 = .ok (.iconst 0, 1) := by decide +kernel
theorem d_law_803 : decode code 803 = .ok (.ireturn, 1) := by decide +kernel
theorem d_law_804 : decode code 804 = .ok (.aload_n 1, 1) := by decide +kernel
theorem d_law_805 : decode code 805 = .ok (.aload_n 0, 1) := by decide +kernel
theorem d_law_806 : decode code 806 = .ok (.iload_n 3, 1) := by decide +kernel
theorem d_law_807 : decode code 807 = .ok (.iconst 1, 1) := by decide +kernel
theorem d_law_808 : decode code 808 = .ok (.iadd, 1) := by decide +kernel
theorem d_law_809 : decode code 809 = .ok (.iaload, 1) := by decide +kernel
theorem d_law_810 : decode code 810 = .ok (.aload_n 0, 1) := by decide +kernel
theorem d_law_811 : decode code 811 = .ok (.iload_n 3, 1) := by decide +kernel
theorem d_law_812 : decode code 812 = .ok (.iconst 2, 1) := by decide +kernel
theorem d_law_813 : decode code 813 = .ok (.iadd, 1) := by decide +kernel
theorem d_law_814 : decode code 814 = .ok (.iaload, 1) := by decide +kernel
theorem d_law_815 : decode code 815 = .ok (.aload_n 0, 1) := by decide +kernel
theorem d_law_816 : decode code 816 = .ok (.iload_n 3, 1) := by decide +kernel
theorem d_law_817 : decode code 817 = .ok (.iconst 3, 1) := by decide +kernel
theorem d_law_818 : decode code 818 = .ok (.iadd, 1) := by decide +kernel
theorem d_law_819 : decode code 819 = .ok (.iaload, 1) := by decide +kernel
theorem d_law_820 : decode code 820 = .ok (.invokevirtual 81, 3) := by decide +kernel
theorem d_law_823 : decode code 823 = .ok (.aload_n 2, 1) := by decide +kernel
theorem d_law_824 : decode code 824 = .ok (.aload_n 0, 1) := by decide +kernel
theorem d_law_825 : decode code 825 = .ok (.iload_n 3, 1) := by decide +kernel
theorem d_law_826 : decode code 826 = .ok (.iconst 1, 1) := by decide +kernel
theorem d_law_827 : decode code 827 = .ok (.iadd, 1) := by decide +kernel
theorem d_law_828 : decode code 828 = .ok (.iaload, 1) := by decide +kernel
theorem d_law_829 : decode code 829 = .ok (.aload_n 0, 1) := by decide +kernel
theorem d_law_830 : decode code 830 = .ok (.iload_n 3, 1) := by decide +kernel
theorem d_law_831 : decode code 831 = .ok (.iconst 2, 1) := by decide +kernel
theorem d_law_832 : decode code 832 = .ok (.iadd, 1) := by decide +kernel
theorem d_law_833 : decode code 833 = .ok (.iaload, 1) := by decide +kernel
theorem d_law_834 : decode code 834 = .ok (.aload_n 0, 1) := by decide +kernel
theorem d_law_835 : decode code 835 = .ok (.iload_n 3, 1) := by decide +kernel
theorem d_law_836 : decode code 836 = .ok (.iconst 3, 1) := by decide +kernel
theorem d_law_837 : decode code 837 = .ok (.iadd, 1) := by decide +kernel
theorem d_law_838 : decode code 838 = .ok (.iaload, 1) := by decide +kernel
theorem d_law_839 : decode code 839 = .ok (.invokevirtual 84, 3) := by decide +kernel
theorem d_law_842 : decode code 842 = .ok (.if_icmp .eq 720, 3) := by decide +kernel
theorem d_law_845 : decode code 845 = .ok (.iconst 0, 1) := by decide +kernel
theorem d_law_846 : decode code 846 = .ok (.ireturn, 1) := by decide +kernel
theorem d_law_847 : decode code 847 = .ok (.aload_n 1, 1) := by decide +kernel
theorem d_law_848 : decode code 848 = .ok (.aload_n 0, 1) := by decide +kernel
theorem d_law_849 : decode code 849 = .ok (.iload_n 3, 1) := by decide +kernel
theorem d_law_850 : decode code 850 = .ok (.iconst 1, 1) := by decide +kernel
theorem d_law_851 : decode code 851 = .ok (.iadd, 1) := by decide +kernel
theorem d_law_852 : decode code 852 = .ok (.iaload, 1) := by decide +kernel
theorem d_law_853 : decode code 853 = .ok (.aload_n 0, 1) := by decide +kernel
theorem d_law_854 : decode code 854 = .ok (.iload_n 3, 1) := by decide +kernel
theorem d_law_855 : decode code 855 = .ok (.iconst 2, 1) := by decide +kernel
theorem d_law_856 : decode code 856 = .ok (.iadd, 1) := by decide +kernel
theorem d_law_857 : decode code 857 = .ok (.iaload, 1) := by decide +kernel
theorem d_law_858 : decode code 858 = .ok (.aload_n 0, 1) := by decide +kernel
theorem d_law_859 : decode code 859 = .ok (.iload_n 3, 1) := by decide +kernel
theorem d_law_860 : decode code 860 = .ok (.iconst 3, 1) := by decide +kernel
theorem d_law_861 : decode code 861 = .ok (.iadd, 1) := by decide +kernel
theorem d_law_862 : decode code 862 = .ok (.iaload, 1) := by decide +kernel
theorem d_law_863 : decode code 863 = .ok (.invokevirtual 85, 3) := by decide +kernel
theorem d_law_866 : decode code 866 = .ok (.aload_n 2, 1) := by decide +kernel
theorem d_law_867 : decode code 867 = .ok (.aload_n 0, 1) := by decide +kernel
theorem d_law_868 : decode code 868 = .ok (.iload_n 3, 1) := by decide +kernel
theorem d_law_869 : decode code 869 = .ok (.iconst 1, 1) := by decide +kernel
theorem d_law_870 : decode code 870 = .ok (.iadd, 1) := by decide +kernel
theorem d_law_871 : decode code 871 = .ok (.iaload, 1) := by decide +kernel
theorem d_law_872 : decode code 872 = .ok (.aload_n 0, 1) := by decide +kernel
theorem d_law_873 : decode code 873 = .ok (.iload_n 3, 1) := by decide +kernel
theorem d_law_874 : decode code 874 = .ok (.iconst 2, 1) := by decide +kernel
theorem d_law_875 : decode code 875 = .ok (.iadd, 1) := by decide +kernel
theorem d_law_876 : decode code 876 = .ok (.iaload, 1) := by decide +kernel
theorem d_law_877 : decode code 877 = .ok (.aload_n 0, 1) := by decide +kernel
theorem d_law_878 : decode code 878 = .ok (.iload_n 3, 1) := by decide +kernel
theorem d_law_879 : decode code 879 = .ok (.iconst 3, 1) := by decide +kernel
theorem d_law_880 : decode code 880 = .ok (.iadd, 1) := by decide +kernel
theorem d_law_881 : decode code 881 = .ok (.iaload, 1) := by decide +kernel
theorem d_law_882 : decode code 882 = .ok (.invokevirtual 89, 3) := by decide +kernel
theorem d_law_885 : decode code 885 = .ok (.lcmp, 1) := by decide +kernel
theorem d_law_886 : decode code 886 = .ok (.ifCond .eq 676, 3) := by decide +kernel
theorem d_law_889 : decode code 889 = .ok (.iconst 0, 1) := by decide +kernel
theorem d_law_890 : decode code 890 = .ok (.ireturn, 1) := by decide +kernel
theorem d_law_891 : decode code 891 = .ok (.aload_n 1, 1) := by decide +kernel
theorem d_law_892 : decode code 892 = .ok (.aload_n 0, 1) := by decide +kernel
theorem d_law_893 : decode code 893 = .ok (.iload_n 3, 1) := by decide +kernel
theorem d_law_894 : decode code 894 = .ok (.iconst 1, 1) := by decide +kernel
theorem d_law_895 : decode code 895 = .ok (.iadd, 1) := by decide +kernel
theorem d_law_896 : decode code 896 = .ok (.iaload, 1) := by decide +kernel
theorem d_law_897 : decode code 897 = .ok (.invokevirtual 90, 3) := by decide +kernel
theorem d_law_900 : decode code 900 = .ok (.aload_n 2, 1) := by decide +kernel
theorem d_law_901 : decode code 901 = .ok (.aload_n 0, 1) := by decide +kernel
theorem d_law_902 : decode code 902 = .ok (.iload_n 3, 1) := by decide +kernel
theorem d_law_903 : decode code 903 = .ok (.iconst 1, 1) := by decide +kernel
theorem d_law_904 : decode code 904 = .ok (.iadd, 1) := by decide +kernel
theorem d_law_905 : decode code 905 = .ok (.iaload, 1) := by decide +kernel
theorem d_law_906 : decode code 906 = .ok (.invokevirtual 93, 3) := by decide +kernel
theorem d_law_909 : decode code 909 = .ok (.if_icmp .eq 653, 3) := by decide +kernel
theorem d_law_912 : decode code 912 = .ok (.iconst 0, 1) := by decide +kernel
theorem d_law_913 : decode code 913 = .ok (.ireturn, 1) := by decide +kernel
theorem d_law_914 : decode code 914 = .ok (.aload_n 1, 1) := by decide +kernel
theorem d_law_915 : decode code 915 = .ok (.aload_n 0, 1) := by decide +kernel
theorem d_law_916 : decode code 916 = .ok (.iload_n 3, 1) := by decide +kernel
theorem d_law_917 : decode code 917 = .ok (.iconst 1, 1) := by decide +kernel
theorem d_law_918 : decode code 918 = .ok (.iadd, 1) := by decide +kernel
theorem d_law_919 : decode code 919 = .ok (.iaload, 1) := by decide +kernel
theorem d_law_920 : decode code 920 = .ok (.aload_n 0, 1) := by decide +kernel
theorem d_law_921 : decode code 921 = .ok (.iload_n 3, 1) := by decide +kernel
theorem d_law_922 : decode code 922 = .ok (.iconst 2, 1) := by decide +kernel
theorem d_law_923 : decode code 923 = .ok (.iadd, 1) := by decide +kernel
theorem d_law_924 : decode code 924 = .ok (.iaload, 1) := by decide +kernel
theorem d_law_925 : decode code 925 = .ok (.invokevirtual 94, 3) := by decide +kernel
theorem d_law_928 : decode code 928 = .ok (.aload_n 2, 1) := by decide +kernel
theorem d_law_929 : decode code 929 = .ok (.aload_n 0, 1) := by decide +kernel
theorem d_law_930 : decode code 930 = .ok (.iload_n 3, 1) := by decide +kernel
theorem d_law_931 : decode code 931 = .ok (.iconst 1, 1) := by decide +kernel
theorem d_law_932 : decode code 932 = .ok (.iadd, 1) := by decide +kernel
theorem d_law_933 : decode code 933 = .ok (.iaload, 1) := by decide +kernel
theorem d_law_934 : decode code 934 = .ok (.aload_n 0, 1) := by decide +kernel
theorem d_law_935 : decode code 935 = .ok (.iload_n 3, 1) := by decide +kernel
theorem d_law_936 : decode code 936 = .ok (.iconst 2, 1) := by decide +kernel
theorem d_law_937 : decode code 937 = .ok (.iadd, 1) := by decide +kernel
theorem d_law_938 : decode code 938 = .ok (.iaload, 1) := by decide +kernel
theorem d_law_939 : decode code 939 = .ok (.invokevirtual 97, 3) := by decide +kernel
theorem d_law_942 : decode code 942 = .ok (.if_icmp .eq 620, 3) := by decide +kernel
theorem d_law_945 : decode code 945 = .ok (.iconst 0, 1) := by decide +kernel
theorem d_law_946 : decode code 946 = .ok (.ireturn, 1) := by decide +kernel
theorem d_law_947 : decode code 947 = .ok (.aload_n 1, 1) := by decide +kernel
theorem d_law_948 : decode code 948 = .ok (.aload_n 0, 1) := by decide +kernel
theorem d_law_949 : decode code 949 = .ok (.iload_n 3, 1) := by decide +kernel
theorem d_law_950 : decode code 950 = .ok (.iconst 1, 1) := by decide +kernel
theorem d_law_951 : decode code 951 = .ok (.iadd, 1) := by decide +kernel
theorem d_law_952 : decode code 952 = .ok (.iaload, 1) := by decide +kernel
theorem d_law_953 : decode code 953 = .ok (.aload_n 0, 1) := by decide +kernel
theorem d_law_954 : decode code 954 = .ok (.iload_n 3, 1) := by decide +kernel
theorem d_law_955 : decode code 955 = .ok (.iconst 2, 1) := by decide +kernel
theorem d_law_956 : decode code 956 = .ok (.iadd, 1) := by decide +kernel
theorem d_law_957 : decode code 957 = .ok (.iaload, 1) := by decide +kernel
theorem d_law_958 : decode code 958 = .ok (.aload_n 0, 1) := by decide +kernel
theorem d_law_959 : decode code 959 = .ok (.iload_n 3, 1) := by decide +kernel
theorem d_law_960 : decode code 960 = .ok (.iconst 3, 1) := by decide +kernel
theorem d_law_961 : decode code 961 = .ok (.iadd, 1) := by decide +kernel
theorem d_law_962 : decode code 962 = .ok (.iaload, 1) := by decide +kernel
theorem d_law_963 : decode code 963 = .ok (.invokevirtual 98, 3) := by decide +kernel
theorem d_law_966 : decode code 966 = .ok (.aload_n 2, 1) := by decide +kernel
theorem d_law_967 : decode code 967 = .ok (.aload_n 0, 1) := by decide +kernel
theorem d_law_968 : decode code 968 = .ok (.iload_n 3, 1) := by decide +kernel
theorem d_law_969 : decode code 969 = .ok (.iconst 1, 1) := by decide +kernel
theorem d_law_970 : decode code 970 = .ok (.iadd, 1) := by decide +kernel
theorem d_law_971 : decode code 971 = .ok (.iaload, 1) := by decide +kernel
theorem d_law_972 : decode code 972 = .ok (.aload_n 0, 1) := by decide +kernel
theorem d_law_973 : decode code 973 = .ok (.iload_n 3, 1) := by decide +kernel
theorem d_law_974 : decode code 974 = .ok (.iconst 2, 1) := by decide +kernel
theorem d_law_975 : decode code 975 = .ok (.iadd, 1) := by decide +kernel
theorem d_law_976 : decode code 976 = .ok (.iaload, 1) := by decide +kernel
theorem d_law_977 : decode code 977 = .ok (.aload_n 0, 1) := by decide +kernel
theorem d_law_978 : decode code 978 = .ok (.iload_n 3, 1) := by decide +kernel
theorem d_law_979 : decode code 979 = .ok (.iconst 3, 1) := by decide +kernel
theorem d_law_980 : decode code 980 = .ok (.iadd, 1) := by decide +kernel
theorem d_law_981 : decode code 981 = .ok (.iaload, 1) := by decide +kernel
theorem d_law_982 : decode code 982 = .ok (.invokevirtual 101, 3) := by decide +kernel
theorem d_law_985 : decode code 985 = .ok (.lcmp, 1) := by decide +kernel
theorem d_law_986 : decode code 986 = .ok (.ifCond .eq 576, 3) := by decide +kernel
theorem d_law_989 : decode code 989 = .ok (.iconst 0, 1) := by decide +kernel
theorem d_law_990 : decode code 990 = .ok (.ireturn, 1) := by decide +kernel
theorem d_law_991 : decode code 991 = .ok (.aload_n 1, 1) := by decide +kernel
theorem d_law_992 : decode code 992 = .ok (.aload_n 0, 1) := by decide +kernel
theorem d_law_993 : decode code 993 = .ok (.iload_n 3, 1) := by decide +kernel
theorem d_law_994 : decode code 994 = .ok (.iconst 1, 1) := by decide +kernel
theorem d_law_995 : decode code 995 = .ok (.iadd, 1) := by decide +kernel
theorem d_law_996 : decode code 996 = .ok (.iaload, 1) := by decide +kernel
theorem d_law_997 : decode code 997 = .ok (.invokevirtual 102, 3) := by decide +kernel
theorem d_law_1000 : decode code 1000 = .ok (.aload_n 2, 1) := by decide +kernel
theorem d_law_1001 : decode code 1001 = .ok (.aload_n 0, 1) := by decide +kernel
theorem d_law_1002 : decode code 1002 = .ok (.iload_n 3, 1) := by decide +kernel
theorem d_law_1003 : decode code 1003 = .ok (.iconst 1, 1) := by decide +kernel
theorem d_law_1004 : decode code 1004 = .ok (.iadd, 1) := by decide +kernel
theorem d_law_1005 : decode code 1005 = .ok (.iaload, 1) := by decide +kernel
theorem d_law_1006 : decode code 1006 = .ok (.invokevirtual 105, 3) := by decide +kernel
theorem d_law_1009 : decode code 1009 = .ok (.if_icmp .eq 553, 3) := by decide +kernel
theorem d_law_1012 : decode code 1012 = .ok (.iconst 0, 1) := by decide +kernel
theorem d_law_1013 : decode code 1013 = .ok (.ireturn, 1) := by decide +kernel
theorem d_law_1014 : decode code 1014 = .ok (.aload_n 1, 1) := by decide +kernel
theorem d_law_1015 : decode code 1015 = .ok (.aload_n 0, 1) := by decide +kernel
theorem d_law_1016 : decode code 1016 = .ok (.iload_n 3, 1) := by decide +kernel
theorem d_law_1017 : decode code 1017 = .ok (.iconst 1, 1) := by decide +kernel
theorem d_law_1018 : decode code 1018 = .ok (.iadd, 1) := by decide +kernel
theorem d_law_1019 : decode code 1019 = .ok (.iaload, 1) := by decide +kernel
theorem d_law_1020 : decode code 1020 = .ok (.invokevirtual 106, 3) := by decide +kernel
theorem d_law_1023 : decode code 1023 = .ok (.aload_n 2, 1) := by decide +kernel
theorem d_law_1024 : decode code 1024 = .ok (.aload_n 0, 1) := by decide +kernel
theorem d_law_1025 : decode code 1025 = .ok (.iload_n 3, 1) := by decide +kernel
theorem d_law_1026 : decode code 1026 = .ok (.iconst 1, 1) := by decide +kernel
theorem d_law_1027 : decode code 1027 = .ok (.iadd, 1) := by decide +kernel
theorem d_law_1028 : decode code 1028 = .ok (.iaload, 1) := by decide +kernel
theorem d_law_1029 : decode code 1029 = .ok (.invokevirtual 110, 3) := by decide +kernel
theorem d_law_1032 : decode code 1032 = .ok (.lcmp, 1) := by decide +kernel
theorem d_law_1033 : decode code 1033 = .ok (.ifCond .eq 529, 3) := by decide +kernel
theorem d_law_1036 : decode code 1036 = .ok (.iconst 0, 1) := by decide +kernel
theorem d_law_1037 : decode code 1037 = .ok (.ireturn, 1) := by decide +kernel
theorem d_law_1038 : decode code 1038 = .ok (.aload_n 1, 1) := by decide +kernel
theorem d_law_1039 : decode code 1039 = .ok (.aload_n 0, 1) := by decide +kernel
theorem d_law_1040 : decode code 1040 = .ok (.iload_n 3, 1) := by decide +kernel
theorem d_law_1041 : decode code 1041 = .ok (.iconst 1, 1) := by decide +kernel
theorem d_law_1042 : decode code 1042 = .ok (.iadd, 1) := by decide +kernel
theorem d_law_1043 : decode code 1043 = .ok (.iaload, 1) := by decide +kernel
theorem d_law_1044 : decode code 1044 = .ok (.aload_n 0, 1) := by decide +kernel
theorem d_law_1045 : decode code 1045 = .ok (.iload_n 3, 1) := by decide +kernel
theorem d_law_1046 : decode code 1046 = .ok (.iconst 2, 1) := by decide +kernel
theorem d_law_1047 : decode code 1047 = .ok (.iadd, 1) := by decide +kernel
theorem d_law_1048 : decode code 1048 = .ok (.iaload, 1) := by decide +kernel
theorem d_law_1049 : decode code 1049 = .ok (.aload_n 0, 1) := by decide +kernel
theorem d_law_1050 : decode code 1050 = .ok (.iload_n 3, 1) := by decide +kernel
theorem d_law_1051 : decode code 1051 = .ok (.iconst 3, 1) := by decide +kernel
theorem d_law_1052 : decode code 1052 = .ok (.iadd, 1) := by decide +kernel
theorem d_law_1053 : decode code 1053 = .ok (.iaload, 1) := by decide +kernel
theorem d_law_1054 : decode code 1054 = .ok (.aload_n 0, 1) := by decide +kernel
theorem d_law_1055 : decode code 1055 = .ok (.iload_n 3, 1) := by decide +kernel
theorem d_law_1056 : decode code 1056 = .ok (.iconst 4, 1) := by decide +kernel
theorem d_law_1057 : decode code 1057 = .ok (.iadd, 1) := by decide +kernel
theorem d_law_1058 : decode code 1058 = .ok (.iaload, 1) := by decide +kernel
theorem d_law_1059 : decode code 1059 = .ok (.invokevirtual 111, 3) := by decide +kernel
theorem d_law_1062 : decode code 1062 = .ok (.aload_n 2, 1) := by decide +kernel
theorem d_law_1063 : decode code 1063 = .ok (.aload_n 0, 1) := by decide +kernel
theorem d_law_1064 : decode code 1064 = .ok (.iload_n 3, 1) := by decide +kernel
theorem d_law_1065 : decode code 1065 = .ok (.iconst 1, 1) := by decide +kernel
theorem d_law_1066 : decode code 1066 = .ok (.iadd, 1) := by decide +kernel
theorem d_law_1067 : decode code 1067 = .ok (.iaload, 1) := by decide +kernel
theorem d_law_1068 : decode code 1068 = .ok (.aload_n 0, 1) := by decide +kernel
theorem d_law_1069 : decode code 1069 = .ok (.iload_n 3, 1) := by decide +kernel
theorem d_law_1070 : decode code 1070 = .ok (.iconst 2, 1) := by decide +kernel
theorem d_law_1071 : decode code 1071 = .ok (.iadd, 1) := by decide +kernel
theorem d_law_1072 : decode code 1072 = .ok (.iaload, 1) := by decide +kernel
theorem d_law_1073 : decode code 1073 = .ok (.aload_n 0, 1) := by decide +kernel
theorem d_law_1074 : decode code 1074 = .ok (.iload_n 3, 1) := by decide +kernel
theorem d_law_1075 : decode code 1075 = .ok (.iconst 3, 1) := by decide +kernel
theorem d_law_1076 : decode code 1076 = .ok (.iadd, 1) := by decide +kernel
theorem d_law_1077 : decode code 1077 = .ok (.iaload, 1) := by decide +kernel
theorem d_law_1078 : decode code 1078 = .ok (.aload_n 0, 1) := by decide +kernel
theorem d_law_1079 : decode code 1079 = .ok (.iload_n 3, 1) := by decide +kernel
theorem d_law_1080 : decode code 1080 = .ok (.iconst 4, 1) := by decide +kernel
theorem d_law_1081 : decode code 1081 = .ok (.iadd, 1) := by decide +kernel
theorem d_law_1082 : decode code 1082 = .ok (.iaload, 1) := by decide +kernel
theorem d_law_1083 : decode code 1083 = .ok (.invokevirtual 114, 3) := by decide +kernel
theorem d_law_1086 : decode code 1086 = .ok (.if_icmp .eq 476, 3) := by decide +kernel
theorem d_law_1089 : decode code 1089 = .ok (.iconst 0, 1) := by decide +kernel
theorem d_law_1090 : decode code 1090 = .ok (.ireturn, 1) := by decide +kernel
theorem d_law_1091 : decode code 1091 = .ok (.aload_n 1, 1) := by decide +kernel
theorem d_law_1092 : decode code 1092 = .ok (.aload_n 0, 1) := by decide +kernel
theorem d_law_1093 : decode code 1093 = .ok (.iload_n 3, 1) := by decide +kernel
theorem d_law_1094 : decode code 1094 = .ok (.iconst 1, 1) := by decide +kernel
theorem d_law_1095 : decode code 1095 = .ok (.iadd, 1) := by decide +kernel
theorem d_law_1096 : decode code 1096 = .ok (.iaload, 1) := by decide +kernel
theorem d_law_1097 : decode code 1097 = .ok (.aload_n 0, 1) := by decide +kernel
theorem d_law_1098 : decode code 1098 = .ok (.iload_n 3, 1) := by decide +kernel
theorem d_law_1099 : decode code 1099 = .ok (.iconst 2, 1) := by decide +kernel
theorem d_law_1100 : decode code 1100 = .ok (.iadd, 1) := by decide +kernel
theorem d_law_1101 : decode code 1101 = .ok (.iaload, 1) := by decide +kernel
theorem d_law_1102 : decode code 1102 = .ok (.invokevirtual 115, 3) := by decide +kernel
theorem d_law_1105 : decode code 1105 = .ok (.aload_n 2, 1) := by decide +kernel
theorem d_law_1106 : decode code 1106 = .ok (.aload_n 0, 1) := by decide +kernel
theorem d_law_1107 : decode code 1107 = .ok (.iload_n 3, 1) := by decide +kernel
theorem d_law_1108 : decode code 1108 = .ok (.iconst 1, 1) := by decide +kernel
theorem d_law_1109 : decode code 1109 = .ok (.iadd, 1) := by decide +kernel
theorem d_law_1110 : decode code 1110 = .ok (.iaload, 1) := by decide +kernel
theorem d_law_1111 : decode code 1111 = .ok (.aload_n 0, 1) := by decide +kernel
theorem d_law_1112 : decode code 1112 = .ok (.iload_n 3, 1) := by decide +kernel
theorem d_law_1113 : decode code 1113 = .ok (.iconst 2, 1) := by decide +kernel
theorem d_law_1114 : decode code 1114 = .ok (.iadd, 1) := by decide +kernel
theorem d_law_1115 : decode code 1115 = .ok (.iaload, 1) := by decide +kernel
theorem d_law_1116 : decode code 1116 = .ok (.invokevirtual 118, 3) := by decide +kernel
theorem d_law_1119 : decode code 1119 = .ok (.if_icmp .eq 443, 3) := by decide +kernel
theorem d_law_1122 : decode code 1122 = .ok (.iconst 0, 1) := by decide +kernel
theorem d_law_1123 : decode code 1123 = .ok (.ireturn, 1) := by decide +kernel
theorem d_law_1124 : decode code 1124 = .ok (.aload_n 1, 1) := by decide +kernel
theorem d_law_1125 : decode code 1125 = .ok (.aload_n 0, 1) := by decide +kernel
theorem d_law_1126 : decode code 1126 = .ok (.iload_n 3, 1) := by decide +kernel
theorem d_law_1127 : decode code 1127 = .ok (.iconst 1, 1) := by decide +kernel
theorem d_law_1128 : decode code 1128 = .ok (.iadd, 1) := by decide +kernel
theorem d_law_1129 : decode code 1129 = .ok (.iaload, 1) := by decide +kernel
theorem d_law_1130 : decode code 1130 = .ok (.aload_n 0, 1) := by decide +kernel
theorem d_law_1131 : decode code 1131 = .ok (.iload_n 3, 1) := by decide +kernel
theorem d_law_1132 : decode code 1132 = .ok (.iconst 2, 1) := by decide +kernel
theorem d_law_1133 : decode code 1133 = .ok (.iadd, 1) := by decide +kernel
theorem d_law_1134 : decode code 1134 = .ok (.iaload, 1) := by decide +kernel
theorem d_law_1135 : decode code 1135 = .ok (.aload_n 0, 1) := by decide +kernel
theorem d_law_1136 : decode code 1136 = .ok (.iload_n 3, 1) := by decide +kernel
theorem d_law_1137 : decode code 1137 = .ok (.iconst 3, 1) := by decide +kernel
theorem d_law_1138 : decode code 1138 = .ok (.iadd, 1) := by decide +kernel
theorem d_law_1139 : decode code 1139 = .ok (.iaload, 1) := by decide +kernel
theorem d_law_1140 : decode code 1140 = .ok (.invokevirtual 119, 3) := by decide +kernel
theorem d_law_1143 : decode code 1143 = .ok (.aload_n 2, 1) := by decide +kernel
theorem d_law_1144 : decode code 1144 = .ok (.aload_n 0, 1) := by decide +kernel
theorem d_law_1145 : decode code 1145 = .ok (.iload_n 3, 1) := by decide +kernel
theorem d_law_1146 : decode code 1146 = .ok (.iconst 1, 1) := by decide +kernel
theorem d_law_1147 : decode code 1147 = .ok (.iadd, 1) := by decide +kernel
theorem d_law_1148 : decode code 1148 = .ok (.iaload, 1) := by decide +kernel
theorem d_law_1149 : decode code 1149 = .ok (.aload_n 0, 1) := by decide +kernel
theorem d_law_1150 : decode code 1150 = .ok (.iload_n 3, 1) := by decide +kernel
theorem d_law_1151 : decode code 1151 = .ok (.iconst 2, 1) := by decide +kernel
theorem d_law_1152 : decode code 1152 = .ok (.iadd, 1) := by decide +kernel
theorem d_law_1153 : decode code 1153 = .ok (.iaload, 1) := by decide +kernel
theorem d_law_1154 : decode code 1154 = .ok (.aload_n 0, 1) := by decide +kernel
theorem d_law_1155 : decode code 1155 = .ok (.iload_n 3, 1) := by decide +kernel
theorem d_law_1156 : decode code 1156 = .ok (.iconst 3, 1) := by decide +kernel
theorem d_law_1157 : decode code 1157 = .ok (.iadd, 1) := by decide +kernel
theorem d_law_1158 : decode code 1158 = .ok (.iaload, 1) := by decide +kernel
theorem d_law_1159 : decode code 1159 = .ok (.invokevirtual 122, 3) := by decide +kernel
theorem d_law_1162 : decode code 1162 = .ok (.if_icmp .eq 400, 3) := by decide +kernel
theorem d_law_1165 : decode code 1165 = .ok (.iconst 0, 1) := by decide +kernel
theorem d_law_1166 : decode code 1166 = .ok (.ireturn, 1) := by decide +kernel
theorem d_law_1167 : decode code 1167 = .ok (.aload_n 1, 1) := by decide +kernel
theorem d_law_1168 : decode code 1168 = .ok (.aload_n 0, 1) := by decide +kernel
theorem d_law_1169 : decode code 1169 = .ok (.iload_n 3, 1) := by decide +kernel
theorem d_law_1170 : decode code 1170 = .ok (.iconst 1, 1) := by decide +kernel
theorem d_law_1171 : decode code 1171 = .ok (.iadd, 1) := by decide +kernel
theorem d_law_1172 : decode code 1172 = .ok (.iaload, 1) := by decide +kernel
theorem d_law_1173 : decode code 1173 = .ok (.invokevirtual 123, 3) := by decide +kernel
theorem d_law_1176 : decode code 1176 = .ok (.aload_n 2, 1) := by decide +kernel
theorem d_law_1177 : decode code 1177 = .ok (.aload_n 0, 1) := by decide +kernel
theorem d_law_1178 : decode code 1178 = .ok (.iload_n 3, 1) := by decide +kernel
theorem d_law_1179 : decode code 1179 = .ok (.iconst 1, 1) := by decide +kernel
theorem d_law_1180 : decode code 1180 = .ok (.iadd, 1) := by decide +kernel
theorem d_law_1181 : decode code 1181 = .ok (.iaload, 1) := by decide +kernel
theorem d_law_1182 : decode code 1182 = .ok (.invokevirtual 126, 3) := by decide +kernel
theorem d_law_1185 : decode code 1185 = .ok (.if_icmp .eq 377, 3) := by decide +kernel
theorem d_law_1188 : decode code 1188 = .ok (.iconst 0, 1) := by decide +kernel
theorem d_law_1189 : decode code 1189 = .ok (.ireturn, 1) := by decide +kernel
theorem d_law_1190 : decode code 1190 = .ok (.aload_n 1, 1) := by decide +kernel
theorem d_law_1191 : decode code 1191 = .ok (.aload_n 0, 1) := by decide +kernel
theorem d_law_1192 : decode code 1192 = .ok (.iload_n 3, 1) := by decide +kernel
theorem d_law_1193 : decode code 1193 = .ok (.iconst 1, 1) := by decide +kernel
theorem d_law_1194 : decode code 1194 = .ok (.iadd, 1) := by decide +kernel
theorem d_law_1195 : decode code 1195 = .ok (.iaload, 1) := by decide +kernel
theorem d_law_1196 : decode code 1196 = .ok (.invokevirtual 127, 3) := by decide +kernel
theorem d_law_1199 : decode code 1199 = .ok (.aload_n 2, 1) := by decide +kernel
theorem d_law_1200 : decode code 1200 = .ok (.aload_n 0, 1) := by decide +kernel
theorem d_law_1201 : decode code 1201 = .ok (.iload_n 3, 1) := by decide +kernel
theorem d_law_1202 : decode code 1202 = .ok (.iconst 1, 1) := by decide +kernel
theorem d_law_1203 : decode code 1203 = .ok (.iadd, 1) := by decide +kernel
theorem d_law_1204 : decode code 1204 = .ok (.iaload, 1) := by decide +kernel
theorem d_law_1205 : decode code 1205 = .ok (.invokevirtual 130, 3) := by decide +kernel
theorem d_law_1208 : decode code 1208 = .ok (.if_icmp .eq 354, 3) := by decide +kernel
theorem d_law_1211 : decode code 1211 = .ok (.iconst 0, 1) := by decide +kernel
theorem d_law_1212 : decode code 1212 = .ok (.ireturn, 1) := by decide +kernel
theorem d_law_1213 : decode code 1213 = .ok (.aload_n 1, 1) := by decide +kernel
theorem d_law_1214 : decode code 1214 = .ok (.invokevirtual 131, 3) := by decide +kernel
theorem d_law_1217 : decode code 1217 = .ok (.aload_n 2, 1) := by decide +kernel
theorem d_law_1218 : decode code 1218 = .ok (.invokevirtual 135, 3) := by decide +kernel
theorem d_law_1221 : decode code 1221 = .ok (.lcmp, 1) := by decide +kernel
theorem d_law_1222 : decode code 1222 = .ok (.ifCond .eq 340, 3) := by decide +kernel
theorem d_law_1225 : decode code 1225 = .ok (.iconst 0, 1) := by decide +kernel
theorem d_law_1226 : decode code 1226 = .ok (.ireturn, 1) := by decide +kernel
theorem d_law_1227 : decode code 1227 = .ok (.aload_n 1, 1) := by decide +kernel
theorem d_law_1228 : decode code 1228 = .ok (.aload_n 0, 1) := by decide +kernel
theorem d_law_1229 : decode code 1229 = .ok (.iload_n 3, 1) := by decide +kernel
theorem d_law_1230 : decode code 1230 = .ok (.iconst 1, 1) := by decide +kernel
theorem d_law_1231 : decode code 1231 = .ok (.iadd, 1) := by decide +kernel
theorem d_law_1232 : decode code 1232 = .ok (.iaload, 1) := by decide +kernel
theorem d_law_1233 : decode code 1233 = .ok (.aload_n 0, 1) := by decide +kernel
theorem d_law_1234 : decode code 1234 = .ok (.iload_n 3, 1) := by decide +kernel
theorem d_law_1235 : decode code 1235 = .ok (.iconst 2, 1) := by decide +kernel
theorem d_law_1236 : decode code 1236 = .ok (.iadd, 1) := by decide +kernel
theorem d_law_1237 : decode code 1237 = .ok (.iaload, 1) := by decide +kernel
theorem d_law_1238 : decode code 1238 = .ok (.aload_n 0, 1) := by decide +kernel
theorem d_law_1239 : decode code 1239 = .ok (.iload_n 3, 1) := by decide +kernel
theorem d_law_1240 : decode code 1240 = .ok (.iconst 3, 1) := by decide +kernel
theorem d_law_1241 : decode code 1241 = .ok (.iadd, 1) := by decide +kernel
theorem d_law_1242 : decode code 1242 = .ok (.iaload, 1) := by decide +kernel
theorem d_law_1243 : decode code 1243 = .ok (.invokevirtual 136, 3) := by decide +kernel
theorem d_law_1246 : decode code 1246 = .ok (.aload_n 2, 1) := by decide +kernel
theorem d_law_1247 : decode code 1247 = .ok (.aload_n 0, 1) := by decide +kernel
theorem d_law_1248 : decode code 1248 = .ok (.iload_n 3, 1) := by decide +kernel
theorem d_law_1249 : decode code 1249 = .ok (.iconst 1, 1) := by decide +kernel
theorem d_law_1250 : decode code 1250 = .ok (.iadd, 1) := by decide +kernel
theorem d_law_1251 : decode code 1251 = .ok (.iaload, 1) := by decide +kernel
theorem d_law_1252 : decode code 1252 = .ok (.aload_n 0, 1) := by decide +kernel
theorem d_law_1253 : decode code 1253 = .ok (.iload_n 3, 1) := by decide +kernel
theorem d_law_1254 : decode code 1254 = .ok (.iconst 2, 1) := by decide +kernel
theorem d_law_1255 : decode code 1255 = .ok (.iadd, 1) := by decide +kernel
theorem d_law_1256 : decode code 1256 = .ok (.iaload, 1) := by decide +kernel
theorem d_law_1257 : decode code 1257 = .ok (.aload_n 0, 1) := by decide +kernel
theorem d_law_1258 : decode code 1258 = .ok (.iload_n 3, 1) := by decide +kernel
theorem d_law_1259 : decode code 1259 = .ok (.iconst 3, 1) := by decide +kernel
theorem d_law_1260 : decode code 1260 = .ok (.iadd, 1) := by decide +kernel
theorem d_law_1261 : decode code 1261 = .ok (.iaload, 1) := by decide +kernel
theorem d_law_1262 : decode code 1262 = .ok (.invokevirtual 139, 3) := by decide +kernel
theorem d_law_1265 : decode code 1265 = .ok (.if_icmp .eq 297, 3) := by decide +kernel
theorem d_law_1268 : decode code 1268 = .ok (.iconst 0, 1) := by decide +kernel
theorem d_law_1269 : decode code 1269 = .ok (.ireturn, 1) := by decide +kernel
theorem d_law_1270 : decode code 1270 = .ok (.aload_n 1, 1) := by decide +kernel
theorem d_law_1271 : decode code 1271 = .ok (.aload_n 0, 1) := by decide +kernel
theorem d_law_1272 : decode code 1272 = .ok (.iload_n 3, 1) := by decide +kernel
theorem d_law_1273 : decode code 1273 = .ok (.iconst 1, 1) := by decide +kernel
theorem d_law_1274 : decode code 1274 = .ok (.iadd, 1) := by decide +kernel
theorem d_law_1275 : decode code 1275 = .ok (.iaload, 1) := by decide +kernel
theorem d_law_1276 : decode code 1276 = .ok (.invokevirtual 140, 3) := by decide +kernel
theorem d_law_1279 : decode code 1279 = .ok (.aload_n 2, 1) := by decide +kernel
theorem d_law_1280 : decode code 1280 = .ok (.aload_n 0, 1) := by decide +kernel
theorem d_law_1281 : decode code 1281 = .ok (.iload_n 3, 1) := by decide +kernel
theorem d_law_1282 : decode code 1282 = .ok (.iconst 1, 1) := by decide +kernel
theorem d_law_1283 : decode code 1283 = .ok (.iadd, 1) := by decide +kernel
theorem d_law_1284 : decode code 1284 = .ok (.iaload, 1) := by decide +kernel
theorem d_law_1285 : decode code 1285 = .ok (.invokevirtual 143, 3) := by decide +kernel
theorem d_law_1288 : decode code 1288 = .ok (.if_icmp .eq 274, 3) := by decide +kernel
theorem d_law_1291 : decode code 1291 = .ok (.iconst 0, 1) := by decide +kernel
theorem d_law_1292 : decode code 1292 = .ok (.ireturn, 1) := by decide +kernel
theorem d_law_1293 : decode code 1293 = .ok (.aload_n 1, 1) := by decide +kernel
theorem d_law_1294 : decode code 1294 = .ok (.aload_n 0, 1) := by decide +kernel
theorem d_law_1295 : decode code 1295 = .ok (.iload_n 3, 1) := by decide +kernel
theorem d_law_1296 : decode code 1296 = .ok (.iconst 1, 1) := by decide +kernel
theorem d_law_1297 : decode code 1297 = .ok (.iadd, 1) := by decide +kernel
theorem d_law_1298 : decode code 1298 = .ok (.iaload, 1) := by decide +kernel
theorem d_law_1299 : decode code 1299 = .ok (.aload_n 0, 1) := by decide +kernel
theorem d_law_1300 : decode code 1300 = .ok (.iload_n 3, 1) := by decide +kernel
theorem d_law_1301 : decode code 1301 = .ok (.iconst 2, 1) := by decide +kernel
theorem d_law_1302 : decode code 1302 = .ok (.iadd, 1) := by decide +kernel
theorem d_law_1303 : decode code 1303 = .ok (.iaload, 1) := by decide +kernel
theorem d_law_1304 : decode code 1304 = .ok (.invokevirtual 144, 3) := by decide +kernel
theorem d_law_1307 : decode code 1307 = .ok (.aload_n 2, 1) := by decide +kernel
theorem d_law_1308 : decode code 1308 = .ok (.aload_n 0, 1) := by decide +kernel
theorem d_law_1309 : decode code 1309 = .ok (.iload_n 3, 1) := by decide +kernel
theorem d_law_1310 : decode code 1310 = .ok (.iconst 1, 1) := by decide +kernel
theorem d_law_1311 : decode code 1311 = .ok (.iadd, 1) := by decide +kernel
theorem d_law_1312 : decode code 1312 = .ok (.iaload, 1) := by decide +kernel
theorem d_law_1313 : decode code 1313 = .ok (.aload_n 0, 1) := by decide +kernel
theorem d_law_1314 : decode code 1314 = .ok (.iload_n 3, 1) := by decide +kernel
theorem d_law_1315 : decode code 1315 = .ok (.iconst 2, 1) := by decide +kernel
theorem d_law_1316 : decode code 1316 = .ok (.iadd, 1) := by decide +kernel
theorem d_law_1317 : decode code 1317 = .ok (.iaload, 1) := by decide +kernel
theorem d_law_1318 : decode code 1318 = .ok (.invokevirtual 147, 3) := by decide +kernel
theorem d_law_1321 : decode code 1321 = .ok (.if_icmp .eq 241, 3) := by decide +kernel
theorem d_law_1324 : decode code 1324 = .ok (.iconst 0, 1) := by decide +kernel
theorem d_law_1325 : decode code 1325 = .ok (.ireturn, 1) := by decide +kernel
theorem d_law_1326 : decode code 1326 = .ok (.aload_n 1, 1) := by decide +kernel
theorem d_law_1327 : decode code 1327 = .ok (.aload_n 0, 1) := by decide +kernel
theorem d_law_1328 : decode code 1328 = .ok (.iload_n 3, 1) := by decide +kernel
theorem d_law_1329 : decode code 1329 = .ok (.iconst 1, 1) := by decide +kernel
theorem d_law_1330 : decode code 1330 = .ok (.iadd, 1) := by decide +kernel
theorem d_law_1331 : decode code 1331 = .ok (.iaload, 1) := by decide +kernel
theorem d_law_1332 : decode code 1332 = .ok (.invokevirtual 148, 3) := by decide +kernel
theorem d_law_1335 : decode code 1335 = .ok (.aload_n 2, 1) := by decide +kernel
theorem d_law_1336 : decode code 1336 = .ok (.aload_n 0, 1) := by decide +kernel
theorem d_law_1337 : decode code 1337 = .ok (.iload_n 3, 1) := by decide +kernel
theorem d_law_1338 : decode code 1338 = .ok (.iconst 1, 1) := by decide +kernel
theorem d_law_1339 : decode code 1339 = .ok (.iadd, 1) := by decide +kernel
theorem d_law_1340 : decode code 1340 = .ok (.iaload, 1) := by decide +kernel
theorem d_law_1341 : decode code 1341 = .ok (.invokevirtual 151, 3) := by decide +kernel
theorem d_law_1344 : decode code 1344 = .ok (.if_icmp .eq 218, 3) := by decide +kernel
theorem d_law_1347 : decode code 1347 = .ok (.iconst 0, 1) := by decide +kernel
theorem d_law_1348 : decode code 1348 = .ok (.ireturn, 1) := by decide +kernel
theorem d_law_1349 : decode code 1349 = .ok (.aload_n 1, 1) := by decide +kernel
theorem d_law_1350 : decode code 1350 = .ok (.aload_n 0, 1) := by decide +kernel
theorem d_law_1351 : decode code 1351 = .ok (.iload_n 3, 1) := by decide +kernel
theorem d_law_1352 : decode code 1352 = .ok (.iconst 1, 1) := by decide +kernel
theorem d_law_1353 : decode code 1353 = .ok (.iadd, 1) := by decide +kernel
theorem d_law_1354 : decode code 1354 = .ok (.iaload, 1) := by decide +kernel
theorem d_law_1355 : decode code 1355 = .ok (.aload_n 0, 1) := by decide +kernel
theorem d_law_1356 : decode code 1356 = .ok (.iload_n 3, 1) := by decide +kernel
theorem d_law_1357 : decode code 1357 = .ok (.iconst 2, 1) := by decide +kernel
theorem d_law_1358 : decode code 1358 = .ok (.iadd, 1) := by decide +kernel
theorem d_law_1359 : decode code 1359 = .ok (.iaload, 1) := by decide +kernel
theorem d_law_1360 : decode code 1360 = .ok (.aload_n 0, 1) := by decide +kernel
theorem d_law_1361 : decode code 1361 = .ok (.iload_n 3, 1) := by decide +kernel
theorem d_law_1362 : decode code 1362 = .ok (.iconst 3, 1) := by decide +kernel
theorem d_law_1363 : decode code 1363 = .ok (.iadd, 1) := by decide +kernel
theorem d_law_1364 : decode code 1364 = .ok (.iaload, 1) := by decide +kernel
theorem d_law_1365 : decode code 1365 = .ok (.invokevirtual 152, 3) := by decide +kernel
theorem d_law_1368 : decode code 1368 = .ok (.aload_n 2, 1) := by decide +kernel
theorem d_law_1369 : decode code 1369 = .ok (.aload_n 0, 1) := by decide +kernel
theorem d_law_1370 : decode code 1370 = .ok (.iload_n 3, 1) := by decide +kernel
theorem d_law_1371 : decode code 1371 = .ok (.iconst 1, 1) := by decide +kernel
theorem d_law_1372 : decode code 1372 = .ok (.iadd, 1) := by decide +kernel
theorem d_law_1373 : decode code 1373 = .ok (.iaload, 1) := by decide +kernel
theorem d_law_1374 : decode code 1374 = .ok (.aload_n 0, 1) := by decide +kernel
theorem d_law_1375 : decode code 1375 = .ok (.iload_n 3, 1) := by decide +kernel
theorem d_law_1376 : decode code 1376 = .ok (.iconst 2, 1) := by decide +kernel
theorem d_law_1377 : decode code 1377 = .ok (.iadd, 1) := by decide +kernel
theorem d_law_1378 : decode code 1378 = .ok (.iaload, 1) := by decide +kernel
theorem d_law_1379 : decode code 1379 = .ok (.aload_n 0, 1) := by decide +kernel
theorem d_law_1380 : decode code 1380 = .ok (.iload_n 3, 1) := by decide +kernel
theorem d_law_1381 : decode code 1381 = .ok (.iconst 3, 1) := by decide +kernel
theorem d_law_1382 : decode code 1382 = .ok (.iadd, 1) := by decide +kernel
theorem d_law_1383 : decode code 1383 = .ok (.iaload, 1) := by decide +kernel
theorem d_law_1384 : decode code 1384 = .ok (.invokevirtual 155, 3) := by decide +kernel
theorem d_law_1387 : decode code 1387 = .ok (.if_icmp .eq 175, 3) := by decide +kernel
theorem d_law_1390 : decode code 1390 = .ok (.iconst 0, 1) := by decide +kernel
theorem d_law_1391 : decode code 1391 = .ok (.ireturn, 1) := by decide +kernel
theorem d_law_1392 : decode code 1392 = .ok (.aload_n 1, 1) := by decide +kernel
theorem d_law_1393 : decode code 1393 = .ok (.aload_n 0, 1) := by decide +kernel
theorem d_law_1394 : decode code 1394 = .ok (.iload_n 3, 1) := by decide +kernel
theorem d_law_1395 : decode code 1395 = .ok (.iconst 1, 1) := by decide +kernel
theorem d_law_1396 : decode code 1396 = .ok (.iadd, 1) := by decide +kernel
theorem d_law_1397 : decode code 1397 = .ok (.iaload, 1) := by decide +kernel
theorem d_law_1398 : decode code 1398 = .ok (.aload_n 0, 1) := by decide +kernel
theorem d_law_1399 : decode code 1399 = .ok (.iload_n 3, 1) := by decide +kernel
theorem d_law_1400 : decode code 1400 = .ok (.iconst 2, 1) := by decide +kernel
theorem d_law_1401 : decode code 1401 = .ok (.iadd, 1) := by decide +kernel
theorem d_law_1402 : decode code 1402 = .ok (.iaload, 1) := by decide +kernel
theorem d_law_1403 : decode code 1403 = .ok (.aload_n 0, 1) := by decide +kernel
theorem d_law_1404 : decode code 1404 = .ok (.iload_n 3, 1) := by decide +kernel
theorem d_law_1405 : decode code 1405 = .ok (.iconst 3, 1) := by decide +kernel
theorem d_law_1406 : decode code 1406 = .ok (.iadd, 1) := by decide +kernel
theorem d_law_1407 : decode code 1407 = .ok (.iaload, 1) := by decide +kernel
theorem d_law_1408 : decode code 1408 = .ok (.i2l, 1) := by decide +kernel
theorem d_law_1409 : decode code 1409 = .ok (.bipush 32, 2) := by decide +kernel
theorem d_law_1411 : decode code 1411 = .ok (.lshl, 1) := by decide +kernel
theorem d_law_1412 : decode code 1412 = .ok (.aload_n 0, 1) := by decide +kernel
theorem d_law_1413 : decode code 1413 = .ok (.iload_n 3, 1) := by decide +kernel
theorem d_law_1414 : decode code 1414 = .ok (.iconst 4, 1) := by decide +kernel
theorem d_law_1415 : decode code 1415 = .ok (.iadd, 1) := by decide +kernel
theorem d_law_1416 : decode code 1416 = .ok (.iaload, 1) := by decide +kernel
theorem d_law_1417 : decode code 1417 = .ok (.i2l, 1) := by decide +kernel
theorem d_law_1418 : decode code 1418 = .ok (.ldc2_w 156, 3) := by decide +kernel
theorem d_law_1421 : decode code 1421 = .ok (.land, 1) := by decide +kernel
theorem d_law_1422 : decode code 1422 = .ok (.lor, 1) := by decide +kernel
theorem d_law_1423 : decode code 1423 = .ok (.invokevirtual 158, 3) := by decide +kernel
theorem d_law_1426 : decode code 1426 = .ok (.aload_n 2, 1) := by decide +kernel
theorem d_law_1427 : decode code 1427 = .ok (.aload_n 0, 1) := by decide +kernel
theorem d_law_1428 : decode code 1428 = .ok (.iload_n 3, 1) := by decide +kernel
theorem d_law_1429 : decode code 1429 = .ok (.iconst 1, 1) := by decide +kernel
theorem d_law_1430 : decode code 1430 = .ok (.iadd, 1) := by decide +kernel
theorem d_law_1431 : decode code 1431 = .ok (.iaload, 1) := by decide +kernel
theorem d_law_1432 : decode code 1432 = .ok (.aload_n 0, 1) := by decide +kernel
theorem d_law_1433 : decode code 1433 = .ok (.iload_n 3, 1) := by decide +kernel
theorem d_law_1434 : decode code 1434 = .ok (.iconst 2, 1) := by decide +kernel
theorem d_law_1435 : decode code 1435 = .ok (.iadd, 1) := by decide +kernel
theorem d_law_1436 : decode code 1436 = .ok (.iaload, 1) := by decide +kernel
theorem d_law_1437 : decode code 1437 = .ok (.aload_n 0, 1) := by decide +kernel
theorem d_law_1438 : decode code 1438 = .ok (.iload_n 3, 1) := by decide +kernel
theorem d_law_1439 : decode code 1439 = .ok (.iconst 3, 1) := by decide +kernel
theorem d_law_1440 : decode code 1440 = .ok (.iadd, 1) := by decide +kernel
theorem d_law_1441 : decode code 1441 = .ok (.iaload, 1) := by decide +kernel
theorem d_law_1442 : decode code 1442 = .ok (.i2l, 1) := by decide +kernel
theorem d_law_1443 : decode code 1443 = .ok (.bipush 32, 2) := by decide +kernel
theorem d_law_1445 : decode code 1445 = .ok (.lshl, 1) := by decide +kernel
theorem d_law_1446 : decode code 1446 = .ok (.aload_n 0, 1) := by decide +kernel
theorem d_law_1447 : decode code 1447 = .ok (.iload_n 3, 1) := by decide +kernel
theorem d_law_1448 : decode code 1448 = .ok (.iconst 4, 1) := by decide +kernel
theorem d_law_1449 : decode code 1449 = .ok (.iadd, 1) := by decide +kernel
theorem d_law_1450 : decode code 1450 = .ok (.iaload, 1) := by decide +kernel
theorem d_law_1451 : decode code 1451 = .ok (.i2l, 1) := by decide +kernel
theorem d_law_1452 : decode code 1452 = .ok (.ldc2_w 156, 3) := by decide +kernel
theorem d_law_1455 : decode code 1455 = .ok (.land, 1) := by decide +kernel
theorem d_law_1456 : decode code 1456 = .ok (.lor, 1) := by decide +kernel
theorem d_law_1457 : decode code 1457 = .ok (.invokevirtual 162, 3) := by decide +kernel
theorem d_law_1460 : decode code 1460 = .ok (.if_icmp .eq 102, 3) := by decide +kernel
theorem d_law_1463 : decode code 1463 = .ok (.iconst 0, 1) := by decide +kernel
theorem d_law_1464 : decode code 1464 = .ok (.ireturn, 1) := by decide +kernel
theorem d_law_1465 : decode code 1465 = .ok (.aload_n 1, 1) := by decide +kernel
theorem d_law_1466 : decode code 1466 = .ok (.aload_n 0, 1) := by decide +kernel
theorem d_law_1467 : decode code 1467 = .ok (.iload_n 3, 1) := by decide +kernel
theorem d_law_1468 : decode code 1468 = .ok (.iconst 1, 1) := by decide +kernel
theorem d_law_1469 : decode code 1469 = .ok (.iadd, 1) := by decide +kernel
theorem d_law_1470 : decode code 1470 = .ok (.iaload, 1) := by decide +kernel
theorem d_law_1471 : decode code 1471 = .ok (.aload_n 0, 1) := by decide +kernel
theorem d_law_1472 : decode code 1472 = .ok (.iload_n 3, 1) := by decide +kernel
theorem d_law_1473 : decode code 1473 = .ok (.iconst 2, 1) := by decide +kernel
theorem d_law_1474 : decode code 1474 = .ok (.iadd, 1) := by decide +kernel
theorem d_law_1475 : decode code 1475 = .ok (.iaload, 1) := by decide +kernel
theorem d_law_1476 : decode code 1476 = .ok (.invokevirtual 163, 3) := by decide +kernel
theorem d_law_1479 : decode code 1479 = .ok (.aload_n 2, 1) := by decide +kernel
theorem d_law_1480 : decode code 1480 = .ok (.aload_n 0, 1) := by decide +kernel
theorem d_law_1481 : decode code 1481 = .ok (.iload_n 3, 1) := by decide +kernel
theorem d_law_1482 : decode code 1482 = .ok (.iconst 1, 1) := by decide +kernel
theorem d_law_1483 : decode code 1483 = .ok (.iadd, 1) := by decide +kernel
theorem d_law_1484 : decode code 1484 = .ok (.iaload, 1) := by decide +kernel
theorem d_law_1485 : decode code 1485 = .ok (.aload_n 0, 1) := by decide +kernel
theorem d_law_1486 : decode code 1486 = .ok (.iload_n 3, 1) := by decide +kernel
theorem d_law_1487 : decode code 1487 = .ok (.iconst 2, 1) := by decide +kernel
theorem d_law_1488 : decode code 1488 = .ok (.iadd, 1) := by decide +kernel
theorem d_law_1489 : decode code 1489 = .ok (.iaload, 1) := by decide +kernel
theorem d_law_1490 : decode code 1490 = .ok (.invokevirtual 167, 3) := by decide +kernel
theorem d_law_1493 : decode code 1493 = .ok (.lcmp, 1) := by decide +kernel
theorem d_law_1494 : decode code 1494 = .ok (.ifCond .eq 68, 3) := by decide +kernel
theorem d_law_1497 : decode code 1497 = .ok (.iconst 0, 1) := by decide +kernel
theorem d_law_1498 : decode code 1498 = .ok (.ireturn, 1) := by decide +kernel
theorem d_law_1499 : decode code 1499 = .ok (.aload_n 1, 1) := by decide +kernel
theorem d_law_1500 : decode code 1500 = .ok (.aload_n 0, 1) := by decide +kernel
theorem d_law_1501 : decode code 1501 = .ok (.iload_n 3, 1) := by decide +kernel
theorem d_law_1502 : decode code 1502 = .ok (.iconst 1, 1) := by decide +kernel
theorem d_law_1503 : decode code 1503 = .ok (.iadd, 1) := by decide +kernel
theorem d_law_1504 : decode code 1504 = .ok (.iaload, 1) := by decide +kernel
theorem d_law_1505 : decode code 1505 = .ok (.aload_n 0, 1) := by decide +kernel
theorem d_law_1506 : decode code 1506 = .ok (.iload_n 3, 1) := by decide +kernel
theorem d_law_1507 : decode code 1507 = .ok (.iconst 2, 1) := by decide +kernel
theorem d_law_1508 : decode code 1508 = .ok (.iadd, 1) := by decide +kernel
theorem d_law_1509 : decode code 1509 = .ok (.iaload, 1) := by decide +kernel
theorem d_law_1510 : decode code 1510 = .ok (.aload_n 0, 1) := by decide +kernel
theorem d_law_1511 : decode code 1511 = .ok (.iload_n 3, 1) := by decide +kernel
theorem d_law_1512 : decode code 1512 = .ok (.iconst 3, 1) := by decide +kernel
theorem d_law_1513 : decode code 1513 = .ok (.iadd, 1) := by decide +kernel
theorem d_law_1514 : decode code 1514 = .ok (.iaload, 1) := by decide +kernel
theorem d_law_1515 : decode code 1515 = .ok (.aload_n 0, 1) := by decide +kernel
theorem d_law_1516 : decode code 1516 = .ok (.iload_n 3, 1) := by decide +kernel
theorem d_law_1517 : decode code 1517 = .ok (.iconst 4, 1) := by decide +kernel
theorem d_law_1518 : decode code 1518 = .ok (.iadd, 1) := by decide +kernel
theorem d_law_1519 : decode code 1519 = .ok (.iaload, 1) := by decide +kernel
theorem d_law_1520 : decode code 1520 = .ok (.aload_n 0, 1) := by decide +kernel
theorem d_law_1521 : decode code 1521 = .ok (.iload_n 3, 1) := by decide +kernel
theorem d_law_1522 : decode code 1522 = .ok (.iconst 5, 1) := by decide +kernel
theorem d_law_1523 : decode code 1523 = .ok (.iadd, 1) := by decide +kernel
theorem d_law_1524 : decode code 1524 = .ok (.iaload, 1) := by decide +kernel
theorem d_law_1525 : decode code 1525 = .ok (.invokevirtual 168, 3) := by decide +kernel
theorem d_law_1528 : decode code 1528 = .ok (.aload_n 2, 1) := by decide +kernel
theorem d_law_1529 : decode code 1529 = .ok (.aload_n 0, 1) := by decide +kernel
theorem d_law_1530 : decode code 1530 = .ok (.iload_n 3, 1) := by decide +kernel
theorem d_law_1531 : decode code 1531 = .ok (.iconst 1, 1) := by decide +kernel
theorem d_law_1532 : decode code 1532 = .ok (.iadd, 1) := by decide +kernel
theorem d_law_1533 : decode code 1533 = .ok (.iaload, 1) := by decide +kernel
theorem d_law_1534 : decode code 1534 = .ok (.aload_n 0, 1) := by decide +kernel
theorem d_law_1535 : decode code 1535 = .ok (.iload_n 3, 1) := by decide +kernel
theorem d_law_1536 : decode code 1536 = .ok (.iconst 2, 1) := by decide +kernel
theorem d_law_1537 : decode code 1537 = .ok (.iadd, 1) := by decide +kernel
theorem d_law_1538 : decode code 1538 = .ok (.iaload, 1) := by decide +kernel
theorem d_law_1539 : decode code 1539 = .ok (.aload_n 0, 1) := by decide +kernel
theorem d_law_1540 : decode code 1540 = .ok (.iload_n 3, 1) := by decide +kernel
theorem d_law_1541 : decode code 1541 = .ok (.iconst 3, 1) := by decide +kernel
theorem d_law_1542 : decode code 1542 = .ok (.iadd, 1) := by decide +kernel
theorem d_law_1543 : decode code 1543 = .ok (.iaload, 1) := by decide +kernel
theorem d_law_1544 : decode code 1544 = .ok (.aload_n 0, 1) := by decide +kernel
theorem d_law_1545 : decode code 1545 = .ok (.iload_n 3, 1) := by decide +kernel
theorem d_law_1546 : decode code 1546 = .ok (.iconst 4, 1) := by decide +kernel
theorem d_law_1547 : decode code 1547 = .ok (.iadd, 1) := by decide +kernel
theorem d_law_1548 : decode code 1548 = .ok (.iaload, 1) := by decide +kernel
theorem d_law_1549 : decode code 1549 = .ok (.aload_n 0, 1) := by decide +kernel
theorem d_law_1550 : decode code 1550 = .ok (.iload_n 3, 1) := by decide +kernel
theorem d_law_1551 : decode code 1551 = .ok (.iconst 5, 1) := by decide +kernel
theorem d_law_1552 : decode code 1552 = .ok (.iadd, 1) := by decide +kernel
theorem d_law_1553 : decode code 1553 = .ok (.iaload, 1) := by decide +kernel
theorem d_law_1554 : decode code 1554 = .ok (.invokevirtual 172, 3) := by decide +kernel
theorem d_law_1557 : decode code 1557 = .ok (.if_icmp .eq 5, 3) := by decide +kernel
theorem d_law_1560 : decode code 1560 = .ok (.iconst 0, 1) := by decide +kernel
theorem d_law_1561 : decode code 1561 = .ok (.ireturn, 1) := by decide +kernel
theorem d_law_1562 : decode code 1562 = .ok (.iinc 3 6, 3) := by decide +kernel
theorem d_law_1565 : decode code 1565 = .ok (.goto (-1547), 3) := by decide +kernel
theorem d_law_1568 : decode code 1568 = .ok (.iconst 1, 1) := by decide +kernel
theorem d_law_1569 : decode code 1569 = .ok (.ireturn, 1) := by decide +kernel
