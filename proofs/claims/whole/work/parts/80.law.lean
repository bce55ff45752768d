theorem dL_law_0 : decode code 0 = .ok (.new 7, 3) := by decide +kernel
theorem dL_law_3 : decode code 3 = .ok (.dup, 1) := by decide +kernel
theorem dL_law_4 : decode code 4 = .ok (.invokespecial 9, 3) := by decide +kernel
theorem dL_law_7 : decode code 7 = .ok (.astore_n 1, 1) := by decide +kernel
theorem dL_law_8 : decode code 8 = .ok (.new 10, 3) := by decide +kernel
theorem dL_law_11 : decode code 11 = .ok (.dup, 1) := by decide +kernel
theorem dL_law_12 : decode code 12 = .ok (.invokespecial 12, 3) := by decide +kernel
theorem dL_law_15 : decode code 15 = .ok (.astore_n 2, 1) := by decide +kernel
theorem dL_law_16 : decode code 16 = .ok (.iconst 0, 1) := by decide +kernel
theorem dL_law_17 : decode code 17 = .ok (.istore_n 3, 1) := by decide +kernel
theorem dL_law_18 : decode code 18 = .ok (.iload_n 3, 1) := by decide +kernel
theorem dL_law_19 : decode code 19 = .ok (.aload_n 0, 1) := by decide +kernel
theorem dL_law_20 : decode code 20 = .ok (.arraylength, 1) := by decide +kernel
theorem dL_law_21 : decode code 21 = .ok (.bipush 6, 2) := by decide +kernel
theorem dL_law_23 : decode code 23 = .ok (.isub, 1) := by decide +kernel
theorem dL_law_24 : decode code 24 = .ok (.if_icmp .gt 953, 3) := by decide +kernel
theorem dL_law_27 : decode code 27 = .ok (.aload_n 0, 1) := by decide +kernel
theorem dL_law_28 : decode code 28 = .ok (.iload_n 3, 1) := by decide +kernel
theorem dL_law_29 : decode code 29 = .ok (.iaload, 1) := by decide +kernel
theorem dL_law_30 : decode code 30 = .ok (.bipush 63, 2) := by decide +kernel
theorem dL_law_32 : decode code 32 = .ok (.iand, 1) := by decide +kernel
theorem dL_law_33 : decode code 33 = .ok (.tableswitch 938 0 32 #[147, 160, 203, 236, 259, 272, 285, 308, 321, 354, 387, 420, 443, 456, 479, 492, 515, 528, 551, 574, 637, 650, 673, 696, 719, 752, 775, 808, 832, 855, 878, 901, 924], 147) := by decide +kernel
theorem dL_law_180 : decode code 180 = .ok (.aload_n 1, 1) := by decide +kernel
theorem dL_law_181 : decode code 181 = .ok (.invokevirtual 13, 3) := by decide +kernel
theorem dL_law_184 : decode code 184 = .ok (.aload_n 2, 1) := by decide +kernel
theorem dL_law_185 : decode code 185 = .ok (.invokevirtual 17, 3) := by decide +kernel
theorem dL_law_188 : decode code 188 = .ok (.if_icmp .eq 783, 3) := by decide +kernel
theorem dL_law_191 : decode code 191 = .ok (.iconst 0, 1) := by decide +kernel
theorem dL_law_192 : decode code 192 = .ok (.ireturn, 1) := by decide +kernel
theorem dL_law_193 : decode code 193 = .ok (.aload_n 1, 1) := by decide +kernel
theorem dL_law_194 : decode code 194 = .ok (.aload_n 0, 1) := by decide +kernel
theorem dL_law_195 : decode code 195 = .ok (.iload_n 3, 1) := by decide +kernel
theorem dL_law_196 : decode code 196 = .ok (.iconst 1, 1) := by decide +kernel
theorem dL_law_197 : decode code 197 = .ok (.iadd, 1) := by decide +kernel
theorem dL_law_198 : decode code 198 = .ok (.iaload, 1) := by decide +kernel
theorem dL_law_199 : decode code 199 = .ok (.aload_n 0, 1) := by decide +kernel
theorem dL_law_200 : decode code 200 = .ok (.iload_n 3, 1) := by decide +kernel
theorem dL_law_201 : decode code 201 = .ok (.iconst 2, 1) := by decide +kernel
theorem dL_law_202 : decode code 202 = .ok (.iadd, 1) := by decide +kernel
theorem dL_law_203 : decode code 203 = .ok (.iaload, 1) := by decide +kernel
theorem dL_law_204 : decode code 204 = .ok (.aload_n 0, 1) := by decide +kernel
theorem dL_law_205 : decode code 205 = .ok (.iload_n 3, 1) := by decide +kernel
theorem dL_law_206 : decode code 206 = .ok (.iconst 3, 1) := by decide +kernel
theorem dL_law_207 : decode code 207 = .ok (.iadd, 1) := by decide +kernel
theorem dL_law_208 : decode code 208 = .ok (.iaload, 1) := by decide +kernel
theorem dL_law_209 : decode code 209 = .ok (.invokevirtual 18, 3) := by decide +kernel
theorem dL_law_212 : decode code 212 = .ok (.aload_n 2, 1) := by decide +kernel
theorem dL_law_213 : decode code 213 = .ok (.aload_n 0, 1) := by decide +kernel
theorem dL_law_214 : decode code 214 = .ok (.iload_n 3, 1) := by decide +kernel
theorem dL_law_215 : decode code 215 = .ok (.iconst 1, 1) := by decide +kernel
theorem dL_law_216 : decode code 216 = .ok (.iadd, 1) := by decide +kernel
theorem dL_law_217 : decode code 217 = .ok (.iaload, 1) := by decide +kernel
theorem dL_law_218 : decode code 218 = .ok (.aload_n 0, 1) := by decide +kernel
theorem dL_law_219 : decode code 219 = .ok (.iload_n 3, 1) := by decide +kernel
theorem dL_law_220 : decode code 220 = .ok (.iconst 2, 1) := by decide +kernel
theorem dL_law_221 : decode code 221 = .ok (.iadd, 1) := by decide +kernel
theorem dL_law_222 : decode code 222 = .ok (.iaload, 1) := by decide +kernel
theorem dL_law_223 : decode code 223 = .ok (.aload_n 0, 1) := by decide +kernel
theorem dL_law_224 : decode code 224 = .ok (.iload_n 3, 1) := by decide +kernel
theorem dL_law_225 : decode code 225 = .ok (.iconst 3, 1) := by decide +kernel
theorem dL_law_226 : decode code 226 = .ok (.iadd, 1) := by decide +kernel
theorem dL_law_227 : decode code 227 = .ok (.iaload, 1) := by decide +kernel
theorem dL_law_228 : decode code 228 = .ok (.invokevirtual 22, 3) := by decide +kernel
theorem dL_law_231 : decode code 231 = .ok (.if_icmp .eq 740, 3) := by decide +kernel
theorem dL_law_234 : decode code 234 = .ok (.iconst 0, 1) := by decide +kernel
theorem dL_law_235 : decode code 235 = .ok (.ireturn, 1) := by decide +kernel
theorem dL_law_236 : decode code 236 = .ok (.aload_n 1, 1) := by decide +kernel
theorem dL_law_237 : decode code 237 = .ok (.aload_n 0, 1) := by decide +kernel
theorem dL_law_238 : decode code 238 = .ok (.iload_n 3, 1) := by decide +kernel
theorem dL_law_239 : decode code 239 = .ok (.iconst 1, 1) := by decide +kernel
theorem dL_law_240 : decode code 240 = .ok (.iadd, 1) := by decide +kernel
theorem dL_law_241 : decode code 241 = .ok (.iaload, 1) := by decide +kernel
theorem dL_law_242 : decode code 242 = .ok (.aload_n 0, 1) := by decide +kernel
theorem dL_law_243 : decode code 243 = .ok (.iload_n 3, 1) := by decide +kernel
theorem dL_law_244 : decode code 244 = .ok (.iconst 2, 1) := by decide +kernel
theorem dL_law_245 : decode code 245 = .ok (.iadd, 1) := by decide +kernel
theorem dL_law_246 : decode code 246 = .ok (.iaload, 1) := by decide +kernel
theorem dL_law_247 : decode code 247 = .ok (.invokevirtual 23, 3) := by decide +kernel
theorem dL_law_250 : decode code 250 = .ok (.aload_n 2, 1) := by decide +kernel
theorem dL_law_251 : decode code 251 = .ok (.aload_n 0, 1) := by decide +kernel
theorem dL_law_252 : decode code 252 = .ok (.iload_n 3, 1) := by decide +kernel
theorem dL_law_253 : decode code 253 = .ok (.iconst 1, 1) := by decide +kernel
theorem dL_law_254 : decode code 254 = .ok (.iadd, 1) := by decide +kernel
theorem dL_law_255 : decode code 255 = .ok (.iaload, 1) := by decide +kernel
theorem dL_law_256 : decode code 256 = .ok (.aload_n 0, 1) := by decide +kernel
theorem dL_law_257 : decode code 257 = .ok (.iload_n 3, 1) := by decide +kernel
theorem dL_law_258 : decode code 258 = .ok (.iconst 2, 1) := by decide +kernel
theorem dL_law_259 : decode code 259 = .ok (.iadd, 1) := by decide +kernel
theorem dL_law_260 : decode code 260 = .ok (.iaload, 1) := by decide +kernel
theorem dL_law_261 : decode code 261 = .ok (.invokevirtual 27, 3) := by decide +kernel
theorem dL_law_264 : decode code 264 = .ok (.if_icmp .eq 707, 3) := by decide +kernel
theorem dL_law_267 : decode code 267 = .ok (.iconst 0, 1) := by decide +kernel
theorem dL_law_268 : decode code 268 = .ok (.ireturn, 1) := by decide +kernel
theorem dL_law_269 : decode code 269 = .ok (.aload_n 1, 1) := by decide +kernel
theorem dL_law_270 : decode code 270 = .ok (.aload_n 0, 1) := by decide +kernel
theorem dL_law_271 : decode code 271 = .ok (.iload_n 3, 1) := by decide +kernel
theorem dL_law_272 : decode code 272 = .ok (.iconst 1, 1) := by decide +kernel
theorem dL_law_273 : decode code 273 = .ok (.iadd, 1) := by decide +kernel
theorem dL_law_274 : decode code 274 = .ok (.iaload, 1) := by decide +kernel
theorem dL_law_275 : decode code 275 = .ok (.invokevirtual 28, 3) := by decide +kernel
theorem dL_law_278 : decode code 278 = .ok (.aload_n 2, 1) := by decide +kernel
theorem dL_law_279 : decode code 279 = .ok (.aload_n 0, 1) := by decide +kernel
theorem dL_law_280 : decode code 280 = .ok (.iload_n 3, 1) := by decide +kernel
theorem dL_law_281 : decode code 281 = .ok (.iconst 1, 1) := by decide +kernel
theorem dL_law_282 : decode code 282 = .ok (.iadd, 1) := by decide +kernel
theorem dL_law_283 : decode code 283 = .ok (.iaload, 1) := by decide +kernel
theorem dL_law_284 : decode code 284 = .ok (.invokevirtual 32, 3) := by decide +kernel
theorem dL_law_287 : decode code 287 = .ok (.if_icmp .eq 684, 3) := by decide +kernel
theorem dL_law_290 : decode code 290 = .ok (.iconst 0, 1) := by decide +kernel
theorem dL_law_291 : decode code 291 = .ok (.ireturn, 1) := by decide +kernel
theorem dL_law_292 : decode code 292 = .ok (.aload_n 1, 1) := by decide +kernel
theorem dL_law_293 : decode code 293 = .ok (.invokevirtual 33, 3) := by decide +kernel
theorem dL_law_296 : decode code 296 = .ok (.aload_n 2, 1) := by decide +kernel
theorem dL_law_297 : decode code 297 = .ok (.invokevirtual 36, 3) := by decide +kernel
theorem dL_law_300 : decode code 300 = .ok (.if_icmp .eq 671, 3) := by decide +kernel
theorem dL_law_303 : decode code 303 = .ok (.iconst 0, 1) := by decide +kernel
theorem dL_law_304 : decode code 304 = .ok (.ireturn, 1) := by decide +kernel
theorem dL_law_305 : decode code 305 = .ok (.aload_n 1, 1) := by decide +kernel
theorem dL_law_306 : decode code 306 = .ok (.invokevirtual 37, 3) := by decide +kernel
theorem dL_law_309 : decode code 309 = .ok (.aload_n 2, 1) := by decide +kernel
theorem dL_law_310 : decode code 310 = .ok (.invokevirtual 40, 3) := by decide +kernel
theorem dL_law_313 : decode code 313 = .ok (.if_icmp .eq 658, 3) := by decide +kernel
theorem dL_law_316 : decode code 316 = .ok (.iconst 0, 1) := by decide +kernel
theorem dL_law_317 : decode code 317 = .ok (.ireturn, 1) := by decide +kernel
theorem dL_law_318 : decode code 318 = .ok (.aload_n 1, 1) := by decide +kernel
theorem dL_law_319 : decode code 319 = .ok (.aload_n 0, 1) := by decide +kernel
theorem dL_law_320 : decode code 320 = .ok (.iload_n 3, 1) := by decide +kernel
theorem dL_law_321 : decode code 321 = .ok (.iconst 1, 1) := by decide +kernel
theorem dL_law_322 : decode code 322 = .ok (.iadd, 1) := by decide +kernel
theorem dL_law_323 : decode code 323 = .ok (.iaload, 1) := by decide +kernel
theorem dL_law_324 : decode code 324 = .ok (.invokevirtual 41, 3) := by decide +kernel
theorem dL_law_327 : decode code 327 = .ok (.aload_n 2, 1) := by decide +kernel
theorem dL_law_328 : decode code 328 = .ok (.aload_n 0, 1) := by decide +kernel
theorem dL_law_329 : decode code 329 = .ok (.iload_n 3, 1) := by decide +kernel
theorem dL_law_330 : decode code 330 = .ok (.iconst 1, 1) := by decide +kernel
theorem dL_law_331 : decode code 331 = .ok (.iadd, 1) := by decide +kernel
theorem dL_law_332 : decode code 332 = .ok (.iaload, 1) := by decide +kernel
theorem dL_law_333 : decode code 333 = .ok (.invokevirtual 44, 3) := by decide +kernel
theorem dL_law_336 : decode code 336 = .ok (.if_icmp .eq 635, 3) := by decide +kernel
theorem dL_law_339 : decode code 339 = .ok (.iconst 0, 1) := by decide +kernel
theorem dL_law_340 : decode code 340 = .ok (.ireturn, 1) := by decide +kernel
theorem dL_law_341 : decode code 341 = .ok (.aload_n 1, 1) := by decide +kernel
theorem dL_law_342 : decode code 342 = .ok (.invokevirtual 45, 3) := by decide +kernel
theorem dL_law_345 : decode code 345 = .ok (.aload_n 2, 1) := by decide +kernel
theorem dL_law_346 : decode code 346 = .ok (.invokevirtual 48, 3) := by decide +kernel
theorem dL_law_349 : decode code 349 = .ok (.if_icmp .eq 622, 3) := by decide +kernel
theorem dL_law_352 : decode code 352 = .ok (.iconst 0, 1) := by decide +kernel
theorem dL_law_353 : decode code 353 = .ok (.ireturn, 1) := by decide +kernel
theorem dL_law_354 : decode code 354 = .ok (.aload_n 1, 1) := by decide +kernel
theorem dL_law_355 : decode code 355 = .ok (.aload_n 0, 1) := by decide +kernel
theorem dL_law_356 : decode code 356 = .ok (.iload_n 3, 1) := by decide +kernel
theorem dL_law_357 : decode code 357 = .ok (.iconst 1, 1) := by decide +kernel
theorem dL_law_358 : decode code 358 = .ok (.iadd, 1) := by decide +kernel
theorem dL_law_359 : decode code 359 = .ok (.iaload, 1) := by decide +kernel
theorem dL_law_360 : decode code 360 = .ok (.aload_n 0, 1) := by decide +kernel
theorem dL_law_361 : decode code 361 = .ok (.iload_n 3, 1) := by decide +kernel
theorem dL_law_362 : decode code 362 = .ok (.iconst 2, 1) := by decide +kernel
theorem dL_law_363 : decode code 363 = .ok (.iadd, 1) := by decide +kernel
theorem dL_law_364 : decode code 364 = .ok (.iaload, 1) := by decide +kernel
theorem dL_law_365 : decode code 365 = .ok (.invokevirtual 49, 3) := by decide +kernel
theorem dL_law_368 : decode code 368 = .ok (.aload_n 2, 1) := by decide +kernel
theorem dL_law_369 : decode code 369 = .ok (.aload_n 0, 1) := by decide +kernel
theorem dL_law_370 : decode code 370 = .ok (.iload_n 3, 1) := by decide +kernel
theorem dL_law_371 : decode code 371 = .ok (.iconst 1, 1) := by decide +kernel
theorem dL_law_372 : decode code 372 = .ok (.iadd, 1) := by decide +kernel
theorem dL_law_373 : decode code 373 = .ok (.iaload, 1) := by decide +kernel
theorem dL_law_374 : decode code 374 = .ok (.aload_n 0, 1) := by decide +kernel
theorem dL_law_375 : decode code 375 = .ok (.iload_n 3, 1) := by decide +kernel
theorem dL_law_376 : decode code 376 = .ok (.iconst 2, 1) := by decide +kernel
theorem dL_law_377 : decode code 377 = .ok (.iadd, 1) := by decide +kernel
theorem dL_law_378 : decode code 378 = .ok (.iaload, 1) := by decide +kernel
theorem dL_law_379 : decode code 379 = .ok (.invokevirtual 52, 3) := by decide +kernel
theorem dL_law_382 : decode code 382 = .ok (.if_icmp .eq 589, 3) := by decide +kernel
theorem dL_law_385 : decode code 385 = .ok (.iconst 0, 1) := by decide +kernel
theorem dL_law_386 : decode code 386 = .ok (.ireturn, 1) := by decide +kernel
theorem dL_law_387 : decode code 387 = .ok (.aload_n 1, 1) := by decide +kernel
theorem dL_law_388 : decode code 388 = .ok (.aload_n 0, 1) := by decide +kernel
theorem dL_law_389 : decode code 389 = .ok (.iload_n 3, 1) := by decide +kernel
theorem dL_law_390 : decode code 390 = .ok (.iconst 1, 1) := by decide +kernel
theorem dL_law_391 : decode code 391 = .ok (.iadd, 1) := by decide +kernel
theorem dL_law_392 : decode code 392 = .ok (.iaload, 1) := by decide +kernel
theorem dL_law_393 : decode code 393 = .ok (.aload_n 0, 1) := by decide +kernel
theorem dL_law_394 : decode code 394 = .ok (.iload_n 3, 1) := by decide +kernel
theorem dL_law_395 : decode code 395 = .ok (.iconst 2, 1) := by decide +kernel
theorem dL_law_396 : decode code 396 = .ok (.iadd, 1) := by decide +kernel
theorem dL_law_397 : decode code 397 = .ok (.iaload, 1) := by decide +kernel
theorem dL_law_398 : decode code 398 = .ok (.invokevirtual 53, 3) := by decide +kernel
theorem dL_law_401 : decode code 401 = .ok (.aload_n 2, 1) := by decide +kernel
theorem dL_law_402 : decode code 402 = .ok (.aload_n 0, 1) := by decide +kernel
theorem dL_law_403 : decode code 403 = .ok (.iload_n 3, 1) := by decide +kernel
theorem dL_law_404 : decode code 404 = .ok (.iconst 1, 1) := by decide +kernel
theorem dL_law_405 : decode code 405 = .ok (.iadd, 1) := by decide +kernel
theorem dL_law_406 : decode code 406 = .ok (.iaload, 1) := by decide +kernel
theorem dL_law_407 : decode code 407 = .ok (.aload_n 0, 1) := by decide +kernel
theorem dL_law_408 : decode code 408 = .ok (.iload_n 3, 1) := by decide +kernel
theorem dL_law_409 : decode code 409 = .ok (.iconst 2, 1) := by decide +kernel
theorem dL_law_410 : decode code 410 = .ok (.iadd, 1) := by decide +kernel
theorem dL_law_411 : decode code 411 = .ok (.iaload, 1) := by decide +kernel
theorem dL_law_412 : decode code 412 = .ok (.invokevirtual 56, 3) := by decide +kernel
theorem dL_law_415 : decode code 415 = .ok (.if_icmp .eq 556, 3) := by decide +kernel
theorem dL_law_418 : decode code 418 = .ok (.iconst 0, 1) := by decide +kernel
theorem dL_law_419 : decode code 419 = .ok (.ireturn, 1) := by decide +kernel
theorem dL_law_420 : decode code 420 = .ok (.aload_n 1, 1) := by decide +kernel
theorem dL_law_421 : decode code 421 = .ok (.aload_n 0, 1) := by decide +kernel
theorem dL_law_422 : decode code 422 = .ok (.iload_n 3, 1) := by decide +kernel
theorem dL_law_423 : decode code 423 = .ok (.iconst 1, 1) := by decide +kernel
theorem dL_law_424 : decode code 424 = .ok (.iadd, 1) := by decide +kernel
theorem dL_law_425 : decode code 425 = .ok (.iaload, 1) := by decide +kernel
theorem dL_law_426 : decode code 426 = .ok (.aload_n 0, 1) := by decide +kernel
theorem dL_law_427 : decode code 427 = .ok (.iload_n 3, 1) := by decide +kernel
theorem dL_law_428 : decode code 428 = .ok (.iconst 2, 1) := by decide +kernel
theorem dL_law_429 : decode code 429 = .ok (.iadd, 1) := by decide +kernel
theorem dL_law_430 : decode code 430 = .ok (.iaload, 1) := by decide +kernel
theorem dL_law_431 : decode code 431 = .ok (.invokevirtual 57, 3) := by decide +kernel
theorem dL_law_434 : decode code 434 = .ok (.aload_n 2, 1) := by decide +kernel
theorem dL_law_435 : decode code 435 = .ok (.aload_n 0, 1) := by decide +kernel
theorem dL_law_436 : decode code 436 = .ok (.iload_n 3, 1) := by decide +kernel
theorem dL_law_437 : decode code 437 = .ok (.iconst 1, 1) := by decide +kernel
theorem dL_law_438 : decode code 438 = .ok (.iadd, 1) := by decide +kernel
theorem dL_law_439 : decode code 439 = .ok (.iaload, 1) := by decide +kernel
theorem dL_law_440 : decode code 440 = .ok (.aload_n 0, 1) := by decide +kernel
theorem dL_law_441 : decode code 441 = .ok (.iload_n 3, 1) := by decide +kernel
theorem dL_law_442 : decode code 442 = .ok (.iconst 2, 1) := by decide +kernel
theorem dL_law_443 : decode code 443 = .ok (.iadd, 1) := by decide +kernel
theorem dL_law_444 : decode code 444 = .ok (.iaload, 1) := by decide +kernel
theorem dL_law_445 : decode code 445 = .ok (.invokevirtual 60, 3) := by decide +kernel
theorem dL_law_448 : decode code 448 = .ok (.if_icmp .eq 523, 3) := by decide +kernel
theorem dL_law_451 : decode code 451 = .ok (.iconst 0, 1) := by decide +kernel
theorem dL_law_452 : decode code 452 = .ok (.ireturn, 1) := by decide +kernel
theorem dL_law_453 : decode code 453 = .ok (.aload_n 1, 1) := by decide +kernel
theorem dL_law_454 : decode code 454 = .ok (.aload_n 0, 1) := by decide +kernel
theorem dL_law_455 : decode code 455 = .ok (.iload_n 3, 1) := by decide +kernel
theorem dL_law_456 : decode code 456 = .ok (.iconst 1, 1) := by decide +kernel
theorem dL_law_457 : decode code 457 = .ok (.iadd, 1) := by decide +kernel
theorem dL_law_458 : decode code 458 = .ok (.iaload, 1) := by decide +kernel
theorem dL_law_459 : decode code 459 = .ok (.invokevirtual 61, 3) := by decide +kernel
theorem dL_law_462 : decode code 462 = .ok (.aload_n 2, 1) := by decide +kernel
theorem dL_law_463 : decode code 463 = .ok (.aload_n 0, 1) := by decide +kernel
theorem dL_law_464 : decode code 464 = .ok (.iload_n 3, 1) := by decide +kernel
theorem dL_law_465 : decode code 465 = .ok (.iconst 1, 1) := by decide +kernel
theorem dL_law_466 : decode code 466 = .ok (.iadd, 1) := by decide +kernel
theorem dL_law_467 : decode code 467 = .ok (.iaload, 1) := by decide +kernel
theorem dL_law_468 : decode code 468 = .ok (.invokevirtual 64, 3) := by decide +kernel
theorem dL_law_471 : decode code 471 = .ok (.if_icmp .eq 500, 3) := by decide +kernel
theorem dL_law_474 : decode code 474 = .ok (.iconst 0, 1) := by decide +kernel
theorem dL_law_475 : decode code 475 = .ok (.ireturn, 1) := by decide +kernel
theorem dL_law_476 : decode code 476 = .ok (.aload_n 1, 1) := by decide +kernel
theorem dL_law_477 : decode code 477 = .ok (.invokevirtual 65, 3) := by decide +kernel
theorem dL_law_480 : decode code 480 = .ok (.aload_n 2, 1) := by decide +kernel
theorem dL_law_481 : decode code 481 = .ok (.invokevirtual 68, 3) := by decide +kernel
theorem dL_law_484 : decode code 484 = .ok (.if_icmp .eq 487, 3) := by decide +kernel
theorem dL_law_487 : decode code 487 = .ok (.iconst 0, 1) := by decide +kernel
theorem dL_law_488 : decode code 488 = .ok (.ireturn, 1) := by decide +kernel
theorem dL_law_489 : decode code 489 = .ok (.aload_n 1, 1) := by decide +kernel
theorem dL_law_490 : decode code 490 = .ok (.aload_n 0, 1) := by decide +kernel
theorem dL_law_491 : decode code 491 = .ok (.iload_n 3, 1) := by decide +kernel
theorem dL_law_492 : decode code 492 = .ok (.iconst 1, 1) := by decide +kernel
theorem dL_law_493 : decode code 493 = .ok (.iadd, 1) := by decide +kernel
theorem dL_law_494 : decode code 494 = .ok (.iaload, 1) := by decide +kernel
theorem dL_law_495 : decode code 495 = .ok (.invokevirtual 69, 3) := by decide +kernel
theorem dL_law_498 : decode code 498 = .ok (.aload_n 2, 1) := by decide +kernel
theorem dL_law_499 : decode code 499 = .ok (.aload_n 0, 1) := by decide +kernel
theorem dL_law_500 : decode code 500 = .ok (.iload_n 3, 1) := by decide +kernel
theorem dL_law_501 : decode code 501 = .ok (.iconst 1, 1) := by decide +kernel
theorem dL_law_502 : decode code 502 = .ok (.iadd, 1) := by decide +kernel
theorem dL_law_503 : decode code 503 = .ok (.iaload, 1) := by decide +kernel
theorem dL_law_504 : decode code 504 = .ok (.invokevirtual 72, 3) := by decide +kernel
theorem dL_law_507 : decode code 507 = .ok (.if_icmp .eq 464, 3) := by decide +kernel
theorem dL_law_510 : decode code 510 = .ok (.iconst 0, 1) := by decide +kernel
theorem dL_law_511 : decode code 511 = .ok (.ireturn, 1) := by decide +kernel
theorem dL_law_512 : decode code 512 = .ok (.aload_n 1, 1) := by decide +kernel
theorem dL_law_513 : decode code 513 = .ok (.invokevirtual 73, 3) := by decide +kernel
theorem dL_law_516 : decode code 516 = .ok (.aload_n 2, 1) := by decide +kernel
theorem dL_law_517 : decode code 517 = .ok (.invokevirtual 76, 3) := by decide +kernel
theorem dL_law_520 : decode code 520 = .ok (.if_icmp .eq 451, 3) := by decide +kernel
theorem dL_law_523 : decode code 523 = .ok (.iconst 0, 1) := by decide +kernel
theorem dL_law_524 : decode code 524 = .ok (.ireturn, 1) := by decide +kernel
theorem dL_law_525 : decode code 525 = .ok (.aload_n 1, 1) := by decide +kernel
theorem dL_law_526 : decode code 526 = .ok (.aload_n 0, 1) := by decide +kernel
theorem dL_law_527 : decode code 527 = .ok (.iload_n 3, 1) := by decide +kernel
theorem dL_law_528 : decode code 528 = .ok (.iconst 1, 1) := by decide +kernel
theorem dL_law_529 : decode code 529 = .ok (.iadd, 1) := by decide +kernel
theorem dL_law_530 : decode code 530 = .ok (.iaload, 1) := by decide +kernel
theorem dL_law_531 : decode code 531 = .ok (.invokevirtual 77, 3) := by decide +kernel
theorem dL_law_534 : decode code 534 = .ok (.aload_n 2, 1) := by decide +kernel
theorem dL_law_535 : decode code 535 = .ok (.aload_n 0, 1) := by decide +kernel
theorem dL_law_536 : decode code 536 = .ok (.iload_n 3, 1) := by decide +kernel
theorem dL_law_537 : decode code 537 = .ok (.iconst 1, 1) := by decide +kernel
theorem dL_law_538 : decode code 538 = .ok (.iadd, 1) := by decide +kernel
theorem dL_law_539 : decode code 539 = .ok (.iaload, 1) := by decide +kernel
theorem dL_law_540 : decode code 540 = .ok (.invokevirtual 80, 3) := by decide +kernel
theorem dL_law_543 : decode code 543 = .ok (.if_icmp .eq 428, 3) := by decide +kernel
theorem dL_law_546 : decode code 546 = .ok (.iconst 0, 1) := by decide +kernel
theorem dL_law_547 : decode code 547 = .ok (.ireturn, 1) := by decide +kernel
theorem dL_law_548 : decode code 548 = .ok (.aload_n 1, 1) := by decide +kernel
theorem dL_law_549 : decode code 549 = .ok (.invokevirtual 81, 3) := by decide +kernel
theorem dL_law_552 : decode code 552 = .ok (.aload_n 2, 1) := by decide +kernel
theorem dL_law_553 : decode code 553 = .ok (.invokevirtual 84, 3) := by decide +kernel
theorem dL_law_556 : decode code 556 = .ok (.if_icmp .eq 415, 3) := by decide +kernel
theorem dL_law_559 : decode code 559 = .ok (.iconst 0, 1) := by decide +kernel
theorem dL_law_560 : decode code 560 = .ok (.ireturn, 1) := by decide +kernel
theorem dL_law_561 : decode code 561 = .ok (.aload_n 1, 1) := by decide +kernel
theorem dL_law_562 : decode code 562 = .ok (.aload_n 0, 1) := by decide +kernel
theorem dL_law_563 : decode code 563 = .ok (.iload_n 3, 1) := by decide +kernel
theorem dL_law_564 : decode code 564 = .ok (.iconst 1, 1) := by decide +kernel
theorem dL_law_565 : decode code 565 = .ok (.iadd, 1) := by decide +kernel
theorem dL_law_566 : decode code 566 = .ok (.iaload, 1) := by decide +kernel
theorem dL_law_567 : decode code 567 = .ok (.invokevirtual 85, 3) := by decide +kernel
theorem dL_law_570 : decode code 570 = .ok (.aload_n 2, 1) := by decide +kernel
theorem dL_law_571 : decode code 571 = .ok (.aload_n 0, 1) := by decide +kernel
theorem dL_law_572 : decode code 572 = .ok (.iload_n 3, 1) := by decide +kernel
theorem dL_law_573 : decode code 573 = .ok (.iconst 1, 1) := by decide +kernel
theorem dL_law_574 : decode code 574 = .ok (.iadd, 1) := by decide +kernel
theorem dL_law_575 : decode code 575 = .ok (.iaload, 1) := by decide +kernel
theorem dL_law_576 : decode code 576 = .ok (.invokevirtual 88, 3) := by decide +kernel
theorem dL_law_579 : decode code 579 = .ok (.if_icmp .eq 392, 3) := by decide +kernel
theorem dL_law_582 : decode code 582 = .ok (.iconst 0, 1) := by decide +kernel
theorem dL_law_583 : decode code 583 = .ok (.ireturn, 1) := by decide +kernel
theorem dL_law_584 : decode code 584 = .ok (.aload_n 1, 1) := by decide +kernel
theorem dL_law_585 : decode code 585 = .ok (.aload_n 0, 1) := by decide +kernel
theorem dL_law_586 : decode code 586 = .ok (.iload_n 3, 1) := by decide +kernel
theorem dL_law_587 : decode code 587 = .ok (.iconst 1, 1) := by decide +kernel
theorem dL_law_588 : decode code 588 = .ok (.iadd, 1) := by decide +kernel
theorem dL_law_589 : decode code 589 = .ok (.iaload, 1) := by decide +kernel
theorem dL_law_590 : decode code 590 = .ok (.invokevirtual 89, 3) := by decide +kernel
theorem dL_law_593 : decode code 593 = .ok (.aload_n 2, 1) := by decide +kernel
theorem dL_law_594 : decode code 594 = .ok (.aload_n 0, 1) := by decide +kernel
theorem dL_law_595 : decode code 595 = .ok (.iload_n 3, 1) := by decide +kernel
theorem dL_law_596 : decode code 596 = .ok (.iconst 1, 1) := by decide +kernel
theorem dL_law_597 : decode code 597 = .ok (.iadd, 1) := by decide +kernel
theorem dL_law_598 : decode code 598 = .ok (.iaload, 1) := by decide +kernel
theorem dL_law_599 : decode code 599 = .ok (.invokevirtual 92, 3) := by decide +kernel
theorem dL_law_602 : decode code 602 = .ok (.if_icmp .eq 369, 3) := by decide +kernel
theorem dL_law_605 : decode code 605 = .ok (.iconst 0, 1) := by decide +kernel
theorem dL_law_606 : decode code 606 = .ok (.ireturn, 1) := by decide +kernel
theorem dL_law_607 : decode code 607 = .ok (.aload_n 1, 1) := by decide +kernel
theorem dL_law_608 : decode code 608 = .ok (.aload_n 0, 1) := by decide +kernel
theorem dL_law_609 : decode code 609 = .ok (.iload_n 3, 1) := by decide +kernel
theorem dL_law_610 : decode code 610 = .ok (.iconst 1, 1) := by decide +kernel
theorem dL_law_611 : decode code 611 = .ok (.iadd, 1) := by decide +kernel
theorem dL_law_612 : decode code 612 = .ok (.iaload, 1) := by decide +kernel
theorem dL_law_613 : decode code 613 = .ok (.aload_n 0, 1) := by decide +kernel
theorem dL_law_614 : decode code 614 = .ok (.iload_n 3, 1) := by decide +kernel
theorem dL_law_615 : decode code 615 = .ok (.iconst 2, 1) := by decide +kernel
theorem dL_law_616 : decode code 616 = .ok (.iadd, 1) := by decide +kernel
theorem dL_law_617 : decode code 617 = .ok (.iaload, 1) := by decide +kernel
theorem dL_law_618 : decode code 618 = .ok (.aload_n 0, 1) := by decide +kernel
theorem dL_law_619 : decode code 619 = .ok (.iload_n 3, 1) := by decide +kernel
theorem dL_law_620 : decode code 620 = .ok (.iconst 3, 1) := by decide +kernel
theorem dL_law_621 : decode code 621 = .ok (.iadd, 1) := by decide +kernel
theorem dL_law_622 : decode code 622 = .ok (.iaload, 1) := by decide +kernel
theorem dL_law_623 : decode code 623 = .ok (.aload_n 0, 1) := by decide +kernel
theorem dL_law_624 : decode code 624 = .ok (.iload_n 3, 1) := by decide +kernel
theorem dL_law_625 : decode code 625 = .ok (.iconst 4, 1) := by decide +kernel
theorem dL_law_626 : decode code 626 = .ok (.iadd, 1) := by decide +kernel
theorem dL_law_627 : decode code 627 = .ok (.iaload, 1) := by decide +kernel
theorem dL_law_628 : decode code 628 = .ok (.aload_n 0, 1) := by decide +kernel
theorem dL_law_629 : decode code 629 = .ok (.iload_n 3, 1) := by decide +kernel
theorem dL_law_630 : decode code 630 = .ok (.iconst 5, 1) := by decide +kernel
theorem dL_law_631 : decode code 631 = .ok (.iadd, 1) := by decide +kernel
theorem dL_law_632 : decode code 632 = .ok (.iaload, 1) := by decide +kernel
theorem dL_law_633 : decode code 633 = .ok (.invokevirtual 93, 3) := by decide +kernel
theorem dL_law_636 : decode code 636 = .ok (.aload_n 2, 1) := by decide +kernel
theorem dL_law_637 : decode code 637 = .ok (.aload_n 0, 1) := by decide +kernel
theorem dL_law_638 : decode code 638 = .ok (.iload_n 3, 1) := by decide +kernel
theorem dL_law_639 : decode code 639 = .ok (.iconst 1, 1) := by decide +kernel
theorem dL_law_640 : decode code 640 = .ok (.iadd, 1) := by decide +kernel
theorem dL_law_641 : decode code 641 = .ok (.iaload, 1) := by decide +kernel
theorem dL_law_642 : decode code 642 = .ok (.aload_n 0, 1) := by decide +kernel
theorem dL_law_643 : decode code 643 = .ok (.iload_n 3, 1) := by decide +kernel
theorem dL_law_644 : decode code 644 = .ok (.iconst 2, 1) := by decide +kernel
theorem dL_law_645 : decode code 645 = .ok (.iadd, 1) := by decide +kernel
theorem dL_law_646 : decode code 646 = .ok (.iaload, 1) := by decide +kernel
theorem dL_law_647 : decode code 647 = .ok (.aload_n 0, 1) := by decide +kernel
theorem dL_law_648 : decode code 648 = .ok (.iload_n 3, 1) := by decide +kernel
theorem dL_law_649 : decode code 649 = .ok (.iconst 3, 1) := by decide +kernel
theorem dL_law_650 : decode code 650 = .ok (.iadd, 1) := by decide +kernel
theorem dL_law_651 : decode code 651 = .ok (.iaload, 1) := by decide +kernel
theorem dL_law_652 : decode code 652 = .ok (.aload_n 0, 1) := by decide +kernel
theorem dL_law_653 : decode code 653 = .ok (.iload_n 3, 1) := by decide +kernel
theorem dL_law_654 : decode code 654 = .ok (.iconst 4, 1) := by decide +kernel
theorem dL_law_655 : decode code 655 = .ok (.iadd, 1) := by decide +kernel
theorem dL_law_656 : decode code 656 = .ok (.iaload, 1) := by decide +kernel
theorem dL_law_657 : decode code 657 = .ok (.aload_n 0, 1) := by decide +kernel
theorem dL_law_658 : decode code 658 = .ok (.iload_n 3, 1) := by decide +kernel
theorem dL_law_659 : decode code 659 = .ok (.iconst 5, 1) := by decide +kernel
theorem dL_law_660 : decode code 660 = .ok (.iadd, 1) := by decide +kernel
theorem dL_law_661 : decode code 661 = .ok (.iaload, 1) := by decide +kernel
theorem dL_law_662 : decode code 662 = .ok (.invokevirtual 97, 3) := by decide +kernel
theorem dL_law_665 : decode code 665 = .ok (.if_icmp .eq 306, 3) := by decide +kernel
theorem dL_law_668 : decode code 668 = .ok (.iconst 0, 1) := by decide +kernel
theorem dL_law_669 : decode code 669 = .ok (.ireturn, 1) := by decide +kernel
theorem dL_law_670 : decode code 670 = .ok (.aload_n 1, 1) := by decide +kernel
theorem dL_law_671 : decode code 671 = .ok (.invokevirtual 98, 3) := by decide +kernel
theorem dL_law_674 : decode code 674 = .ok (.aload_n 2, 1) := by decide +kernel
theorem dL_law_675 : decode code 675 = .ok (.invokevirtual 101, 3) := by decide +kernel
theorem dL_law_678 : decode code 678 = .ok (.if_icmp .eq 293, 3) := by decide +kernel
theorem dL_law_681 : decode code 681 = .ok (.iconst 0, 1) := by decide +kernel
theorem dL_law_682 : decode code 682 = .ok (.ireturn, 1) := by decide +kernel
theorem dL_law_683 : decode code 683 = .ok (.aload_n 1, 1) := by decide +kernel
theorem dL_law_684 : decode code 684 = .ok (.aload_n 0, 1) := by decide +kernel
theorem dL_law_685 : decode code 685 = .ok (.iload_n 3, 1) := by decide +kernel
theorem dL_law_686 : decode code 686 = .ok (.iconst 1, 1) := by decide +kernel
theorem dL_law_687 : decode code 687 = .ok (.iadd, 1) := by decide +kernel
theorem dL_law_688 : decode code 688 = .ok (.iaload, 1) := by decide +kernel
theorem dL_law_689 : decode code 689 = .ok (.invokevirtual 102, 3) := by decide +kernel
theorem dL_law_692 : decode code 692 = .ok (.aload_n 2, 1) := by decide +kernel
theorem dL_law_693 : decode code 693 = .ok (.aload_n 0, 1) := by decide +kernel
theorem dL_law_694 : decode code 694 = .ok (.iload_n 3, 1) := by decide +kernel
theorem dL_law_695 : decode code 695 = .ok (.iconst 1, 1) := by decide +kernel
theorem dL_law_696 : decode code 696 = .ok (.iadd, 1) := by decide +kernel
theorem dL_law_697 : decode code 697 = .ok (.iaload, 1) := by decide +kernel
theorem dL_law_698 : decode code 698 = .ok (.invokevirtual 105, 3) := by decide +kernel
theorem dL_law_701 : decode code 701 = .ok (.if_icmp .eq 270, 3) := by decide +kernel
theorem dL_law_704 : decode code 704 = .ok (.iconst 0, 1) := by decide +kernel
theorem dL_law_705 : decode code 705 = .ok (.ireturn, 1) := by decide +kernel
theorem dL_law_706 : decode code 706 = .ok (.aload_n 1, 1) := by decide +kernel
theorem dL_law_707 : decode code 707 = .ok (.aload_n 0, 1) := by decide +kernel
theorem dL_law_708 : decode code 708 = .ok (.iload_n 3, 1) := by decide +kernel
theorem dL_law_709 : decode code 709 = .ok (.iconst 1, 1) := by decide +kernel
theorem dL_law_710 : decode code 710 = .ok (.iadd, 1) := by decide +kernel
theorem dL_law_711 : decode code 711 = .ok (.iaload, 1) := by decide +kernel
theorem dL_law_712 : decode code 712 = .ok (.invokevirtual 106, 3) := by decide +kernel
theorem dL_law_715 : decode code 715 = .ok (.aload_n 2, 1) := by decide +kernel
theorem dL_law_716 : decode code 716 = .ok (.aload_n 0, 1) := by decide +kernel
theorem dL_law_717 : decode code 717 = .ok (.iload_n 3, 1) := by decide +kernel
theorem dL_law_718 : decode code 718 = .ok (.iconst 1, 1) := by decide +kernel
theorem dL_law_719 : decode code 719 = .ok (.iadd, 1) := by decide +kernel
theorem dL_law_720 : decode code 720 = .ok (.iaload, 1) := by decide +kernel
theorem dL_law_721 : decode code 721 = .ok (.invokevirtual 109, 3) := by decide +kernel
theorem dL_law_724 : decode code 724 = .ok (.if_icmp .eq 247, 3) := by decide +kernel
theorem dL_law_727 : decode code 727 = .ok (.iconst 0, 1) := by decide +kernel
theorem dL_law_728 : decode code 728 = .ok (.ireturn, 1) := by decide +kernel
theorem dL_law_729 : decode code 729 = .ok (.aload_n 1, 1) := by decide +kernel
theorem dL_law_730 : decode code 730 = .ok (.aload_n 0, 1) := by decide +kernel
theorem dL_law_731 : decode code 731 = .ok (.iload_n 3, 1) := by decide +kernel
theorem dL_law_732 : decode code 732 = .ok (.iconst 1, 1) := by decide +kernel
theorem dL_law_733 : decode code 733 = .ok (.iadd, 1) := by decide +kernel
theorem dL_law_734 : decode code 734 = .ok (.iaload, 1) := by decide +kernel
theorem dL_law_735 : decode code 735 = .ok (.invokevirtual 110, 3) := by decide +kernel
theorem dL_law_738 : decode code 738 = .ok (.aload_n 2, 1) := by decide +kernel
theorem dL_law_739 : decode code 739 = .ok (.aload_n 0, 1) := by decide +kernel
theorem dL_law_740 : decode code 740 = .ok (.iload_n 3, 1) := by decide +kernel
theorem dL_law_741 : decode code 741 = .ok (.iconst 1, 1) := by decide +kernel
theorem dL_law_742 : decode code 742 = .ok (.iadd, 1) := by decide +kernel
theorem dL_law_743 : decode code 743 = .ok (.iaload, 1) := by decide +kernel
theorem dL_law_744 : decode code 744 = .ok (.invokevirtual 113, 3) := by decide +kernel
theorem dL_law_747 : decode code 747 = .ok (.if_icmp .eq 224, 3) := by decide +kernel
theorem dL_law_750 : decode code 750 = .ok (.iconst 0, 1) := by decide +kernel
theorem dL_law_751 : decode code 751 = .ok (.ireturn, 1) := by decide +kernel
theorem dL_law_752 : decode code 752 = .ok (.aload_n 1, 1) := by decide +kernel
theorem dL_law_753 : decode code 753 = .ok (.aload_n 0, 1) := by decide +kernel
theorem dL_law_754 : decode code 754 = .ok (.iload_n 3, 1) := by decide +kernel
theorem dL_law_755 : decode code 755 = .ok (.iconst 1, 1) := by decide +kernel
theorem dL_law_756 : decode code 756 = .ok (.iadd, 1) := by decide +kernel
theorem dL_law_757 : decode code 757 = .ok (.iaload, 1) := by decide +kernel
theorem dL_law_758 : decode code 758 = .ok (.aload_n 0, 1) := by decide +kernel
theorem dL_law_759 : decode code 759 = .ok (.iload_n 3, 1) := by decide +kernel
theorem dL_law_760 : decode code 760 = .ok (.iconst 2, 1) := by decide +kernel
theorem dL_law_761 : decode code 761 = .ok (.iadd, 1) := by decide +kernel
theorem dL_law_762 : decode code 762 = .ok (.iaload, 1) := by decide +kernel
theorem dL_law_763 : decode code 763 = .ok (.invokevirtual 114, 3) := by decide +kernel
theorem dL_law_766 : decode code 766 = .ok (.aload_n 2, 1) := by decide +kernel
theorem dL_law_767 : decode code 767 = .ok (.aload_n 0, 1) := by decide +kernel
theorem dL_law_768 : decode code 768 = .ok (.iload_n 3, 1) := by decide +kernel
theorem dL_law_769 : decode code 769 = .ok (.iconst 1, 1) := by decide +kernel
theorem dL_law_770 : decode code 770 = .ok (.iadd, 1) := by decide +kernel
theorem dL_law_771 : decode code 771 = .ok (.iaload, 1) := by decide +kernel
theorem dL_law_772 : decode code 772 = .ok (.aload_n 0, 1) := by decide +kernel
theorem dL_law_773 : decode code 773 = .ok (.iload_n 3, 1) := by decide +kernel
theorem dL_law_774 : decode code 774 = .ok (.iconst 2, 1) := by decide +kernel
theorem dL_law_775 : decode code 775 = .ok (.iadd, 1) := by decide +kernel
theorem dL_law_776 : decode code 776 = .ok (.iaload, 1) := by decide +kernel
theorem dL_law_777 : decode code 777 = .ok (.invokevirtual 117, 3) := by decide +kernel
theorem dL_law_780 : decode code 780 = .ok (.if_icmp .eq 191, 3) := by decide +kernel
theorem dL_law_783 : decode code 783 = .ok (.iconst 0, 1) := by decide +kernel
theorem dL_law_784 : decode code 784 = .ok (.ireturn, 1) := by decide +kernel
theorem dL_law_785 : decode code 785 = .ok (.aload_n 1, 1) := by decide +kernel
theorem dL_law_786 : decode code 786 = .ok (.aload_n 0, 1) := by decide +kernel
theorem dL_law_787 : decode code 787 = .ok (.iload_n 3, 1) := by decide +kernel
theorem dL_law_788 : decode code 788 = .ok (.iconst 1, 1) := by decide +kernel
theorem dL_law_789 : decode code 789 = .ok (.iadd, 1) := by decide +kernel
theorem dL_law_790 : decode code 790 = .ok (.iaload, 1) := by decide +kernel
theorem dL_law_791 : decode code 791 = .ok (.invokevirtual 118, 3) := by decide +kernel
theorem dL_law_794 : decode code 794 = .ok (.aload_n 2, 1) := by decide +kernel
theorem dL_law_795 : decode code 795 = .ok (.aload_n 0, 1) := by decide +kernel
theorem dL_law_796 : decode code 796 = .ok (.iload_n 3, 1) := by decide +kernel
theorem dL_law_797 : decode code 797 = .ok (.iconst 1, 1) := by decide +kernel
theorem dL_law_798 : decode code 798 = .ok (.iadd, 1) := by decide +kernel
theorem dL_law_799 : decode code 799 = .ok (.iaload, 1) := by decide +kernel
theorem dL_law_800 : decode code 800 = .ok (.invokevirtual 121, 3) := by decide +kernel
theorem dL_law_803 : decode code 803 = .ok (.if_icmp .eq 168, 3) := by decide +kernel
theorem dL_law_806 : decode code 806 = .ok (.iconst 0, 1) := by decide +kernel
theorem dL_law_807 : decode code 807 = .ok (.ireturn, 1) := by decide +kernel
theorem dL_law_808 : decode code 808 = .ok (.aload_n 1, 1) := by decide +kernel
theorem dL_law_809 : decode code 809 = .ok (.aload_n 0, 1) := by decide +kernel
theorem dL_law_810 : decode code 810 = .ok (.iload_n 3, 1) := by decide +kernel
theorem dL_law_811 : decode code 811 = .ok (.iconst 1, 1) := by decide +kernel
theorem dL_law_812 : decode code 812 = .ok (.iadd, 1) := by decide +kernel
theorem dL_law_813 : decode code 813 = .ok (.iaload, 1) := by decide +kernel
theorem dL_law_814 : decode code 814 = .ok (.aload_n 0, 1) := by decide +kernel
theorem dL_law_815 : decode code 815 = .ok (.iload_n 3, 1) := by decide +kernel
theorem dL_law_816 : decode code 816 = .ok (.iconst 2, 1) := by decide +kernel
theorem dL_law_817 : decode code 817 = .ok (.iadd, 1) := by decide +kernel
theorem dL_law_818 : decode code 818 = .ok (.iaload, 1) := by decide +kernel
theorem dL_law_819 : decode code 819 = .ok (.invokevirtual 122, 3) := by decide +kernel
theorem dL_law_822 : decode code 822 = .ok (.aload_n 2, 1) := by decide +kernel
theorem dL_law_823 : decode code 823 = .ok (.aload_n 0, 1) := by decide +kernel
theorem dL_law_824 : decode code 824 = .ok (.iload_n 3, 1) := by decide +kernel
theorem dL_law_825 : decode code 825 = .ok (.iconst 1, 1) := by decide +kernel
theorem dL_law_826 : decode code 826 = .ok (.iadd, 1) := by decide +kernel
theorem dL_law_827 : decode code 827 = .ok (.iaload, 1) := by decide +kernel
theorem dL_law_828 : decode code 828 = .ok (.aload_n 0, 1) := by decide +kernel
theorem dL_law_829 : decode code 829 = .ok (.iload_n 3, 1) := by decide +kernel
theorem dL_law_830 : decode code 830 = .ok (.iconst 2, 1) := by decide +kernel
theorem dL_law_831 : decode code 831 = .ok (.iadd, 1) := by decide +kernel
theorem dL_law_832 : decode code 832 = .ok (.iaload, 1) := by decide +kernel
theorem dL_law_833 : decode code 833 = .ok (.invokevirtual 125, 3) := by decide +kernel
theorem dL_law_836 : decode code 836 = .ok (.if_icmp .eq 135, 3) := by decide +kernel
theorem dL_law_839 : decode code 839 = .ok (.iconst 0, 1) := by decide +kernel
theorem dL_law_840 : decode code 840 = .ok (.ireturn, 1) := by decide +kernel
theorem dL_law_841 : decode code 841 = .ok (.aload_n 1, 1) := by decide +kernel
theorem dL_law_842 : decode code 842 = .ok (.aload_n 0, 1) := by decide +kernel
theorem dL_law_843 : decode code 843 = .ok (.iload_n 3, 1) := by decide +kernel
theorem dL_law_844 : decode code 844 = .ok (.iconst 1, 1) := by decide +kernel
theorem dL_law_845 : decode code 845 = .ok (.iadd, 1) := by decide +kernel
theorem dL_law_846 : decode code 846 = .ok (.iaload, 1) := by decide +kernel
theorem dL_law_847 : decode code 847 = .ok (.invokevirtual 126, 3) := by decide +kernel
theorem dL_law_850 : decode code 850 = .ok (.aload_n 2, 1) := by decide +kernel
theorem dL_law_851 : decode code 851 = .ok (.aload_n 0, 1) := by decide +kernel
theorem dL_law_852 : decode code 852 = .ok (.iload_n 3, 1) := by decide +kernel
theorem dL_law_853 : decode code 853 = .ok (.iconst 1, 1) := by decide +kernel
theorem dL_law_854 : decode code 854 = .ok (.iadd, 1) := by decide +kernel
theorem dL_law_855 : decode code 855 = .ok (.iaload, 1) := by decide +kernel
theorem dL_law_856 : decode code 856 = .ok (.invokevirtual 130, 3) := by decide +kernel
theorem dL_law_859 : decode code 859 = .ok (.lcmp, 1) := by decide +kernel
theorem dL_law_860 : decode code 860 = .ok (.ifCond .eq 111, 3) := by decide +kernel
theorem dL_law_863 : decode code 863 = .ok (.iconst 0, 1) := by decide +kernel
theorem dL_law_864 : decode code 864 = .ok (.ireturn, 1) := by decide +kernel
theorem dL_law_865 : decode code 865 = .ok (.aload_n 1, 1) := by decide +kernel
theorem dL_law_866 : decode code 866 = .ok (.aload_n 0, 1) := by decide +kernel
theorem dL_law_867 : decode code 867 = .ok (.iload_n 3, 1) := by decide +kernel
theorem dL_law_868 : decode code 868 = .ok (.iconst 1, 1) := by decide +kernel
theorem dL_law_869 : decode code 869 = .ok (.iadd, 1) := by decide +kernel
theorem dL_law_870 : decode code 870 = .ok (.iaload, 1) := by decide +kernel
theorem dL_law_871 : decode code 871 = .ok (.invokevirtual 131, 3) := by decide +kernel
theorem dL_law_874 : decode code 874 = .ok (.aload_n 2, 1) := by decide +kernel
theorem dL_law_875 : decode code 875 = .ok (.aload_n 0, 1) := by decide +kernel
theorem dL_law_876 : decode code 876 = .ok (.iload_n 3, 1) := by decide +kernel
theorem dL_law_877 : decode code 877 = .ok (.iconst 1, 1) := by decide +kernel
theorem dL_law_878 : decode code 878 = .ok (.iadd, 1) := by decide +kernel
theorem dL_law_879 : decode code 879 = .ok (.iaload, 1) := by decide +kernel
theorem dL_law_880 : decode code 880 = .ok (.invokevirtual 134, 3) := by decide +kernel
theorem dL_law_883 : decode code 883 = .ok (.if_icmp .eq 88, 3) := by decide +kernel
theorem dL_law_886 : decode code 886 = .ok (.iconst 0, 1) := by decide +kernel
theorem dL_law_887 : decode code 887 = .ok (.ireturn, 1) := by decide +kernel
theorem dL_law_888 : decode code 888 = .ok (.aload_n 1, 1) := by decide +kernel
theorem dL_law_889 : decode code 889 = .ok (.aload_n 0, 1) := by decide +kernel
theorem dL_law_890 : decode code 890 = .ok (.iload_n 3, 1) := by decide +kernel
theorem dL_law_891 : decode code 891 = .ok (.iconst 1, 1) := by decide +kernel
theorem dL_law_892 : decode code 892 = .ok (.iadd, 1) := by decide +kernel
theorem dL_law_893 : decode code 893 = .ok (.iaload, 1) := by decide +kernel
theorem dL_law_894 : decode code 894 = .ok (.invokevirtual 135, 3) := by decide +kernel
theorem dL_law_897 : decode code 897 = .ok (.aload_n 2, 1) := by decide +kernel
theorem dL_law_898 : decode code 898 = .ok (.aload_n 0, 1) := by decide +kernel
theorem dL_law_899 : decode code 899 = .ok (.iload_n 3, 1) := by decide +kernel
theorem dL_law_900 : decode code 900 = .ok (.iconst 1, 1) := by decide +kernel
theorem dL_law_901 : decode code 901 = .ok (.iadd, 1) := by decide +kernel
theorem dL_law_902 : decode code 902 = .ok (.iaload, 1) := by decide +kernel
theorem dL_law_903 : decode code 903 = .ok (.invokevirtual 138, 3) := by decide +kernel
theorem dL_law_906 : decode code 906 = .ok (.if_icmp .eq 65, 3) := by decide +kernel
theorem dL_law_909 : decode code 909 = .ok (.iconst 0, 1) := by decide +kernel
theorem dL_law_910 : decode code 910 = .ok (.ireturn, 1) := by decide +kernel
theorem dL_law_911 : decode code 911 = .ok (.aload_n 1, 1) := by decide +kernel
theorem dL_law_912 : decode code 912 = .ok (.aload_n 0, 1) := by decide +kernel
theorem dL_law_913 : decode code 913 = .ok (.iload_n 3, 1) := by decide +kernel
theorem dL_law_914 : decode code 914 = .ok (.iconst 1, 1) := by decide +kernel
theorem dL_law_915 : decode code 915 = .ok (.iadd, 1) := by decide +kernel
theorem dL_law_916 : decode code 916 = .ok (.iaload, 1) := by decide +kernel
theorem dL_law_917 : decode code 917 = .ok (.invokevirtual 139, 3) := by decide +kernel
theorem dL_law_920 : decode code 920 = .ok (.aload_n 2, 1) := by decide +kernel
theorem dL_law_921 : decode code 921 = .ok (.aload_n 0, 1) := by decide +kernel
theorem dL_law_922 : decode code 922 = .ok (.iload_n 3, 1) := by decide +kernel
theorem dL_law_923 : decode code 923 = .ok (.iconst 1, 1) := by decide +kernel
theorem dL_law_924 : decode code 924 = .ok (.iadd, 1) := by decide +kernel
theorem dL_law_925 : decode code 925 = .ok (.iaload, 1) := by decide +kernel
theorem dL_law_926 : decode code 926 = .ok (.invokevirtual 142, 3) := by decide +kernel
theorem dL_law_929 : decode code 929 = .ok (.if_icmp .eq 42, 3) := by decide +kernel
theorem dL_law_932 : decode code 932 = .ok (.iconst 0, 1) := by decide +kernel
theorem dL_law_933 : decode code 933 = .ok (.ireturn, 1) := by decide +kernel
theorem dL_law_934 : decode code 934 = .ok (.aload_n 1, 1) := by decide +kernel
theorem dL_law_935 : decode code 935 = .ok (.aload_n 0, 1) := by decide +kernel
theorem dL_law_936 : decode code 936 = .ok (.iload_n 3, 1) := by decide +kernel
theorem dL_law_937 : decode code 937 = .ok (.iconst 1, 1) := by decide +kernel
theorem dL_law_938 : decode code 938 = .ok (.iadd, 1) := by decide +kernel
theorem dL_law_939 : decode code 939 = .ok (.iaload, 1) := by decide +kernel
theorem dL_law_940 : decode code 940 = .ok (.invokevirtual 143, 3) := by decide +kernel
theorem dL_law_943 : decode code 943 = .ok (.aload_n 2, 1) := by decide +kernel
theorem dL_law_944 : decode code 944 = .ok (.aload_n 0, 1) := by decide +kernel
theorem dL_law_945 : decode code 945 = .ok (.iload_n 3, 1) := by decide +kernel
theorem dL_law_946 : decode code 946 = .ok (.iconst 1, 1) := by decide +kernel
theorem dL_law_947 : decode code 947 = .ok (.iadd, 1) := by decide +kernel
theorem dL_law_948 : decode code 948 = .ok (.iaload, 1) := by decide +kernel
theorem dL_law_949 : decode code 949 = .ok (.invokevirtual 146, 3) := by decide +kernel
theorem dL_law_952 : decode code 952 = .ok (.if_icmp .eq 19, 3) := by decide +kernel
theorem dL_law_955 : decode code 955 = .ok (.iconst 0, 1) := by decide +kernel
theorem dL_law_956 : decode code 956 = .ok (.ireturn, 1) := by decide +kernel
theorem dL_law_957 : decode code 957 = .ok (.aload_n 1, 1) := by decide +kernel
theorem dL_law_958 : decode code 958 = .ok (.invokevirtual 147, 3) := by decide +kernel
theorem dL_law_961 : decode code 961 = .ok (.aload_n 2, 1) := by decide +kernel
theorem dL_law_962 : decode code 962 = .ok (.invokevirtual 151, 3) := by decide +kernel
theorem dL_law_965 : decode code 965 = .ok (.lcmp, 1) := by decide +kernel
theorem dL_law_966 : decode code 966 = .ok (.ifCond .eq 5, 3) := by decide +kernel
theorem dL_law_969 : decode code 969 = .ok (.iconst 0, 1) := by decide +kernel
theorem dL_law_970 : decode code 970 = .ok (.ireturn, 1) := by decide +kernel
theorem dL_law_971 : decode code 971 = .ok (.iinc 3 6, 3) := by decide +kernel
theorem dL_law_974 : decode code 974 = .ok (.goto (-956), 3) := by decide +kernel
theorem dL_law_977 : decode code 977 = .ok (.iconst 1, 1) := by decide +kernel
theorem dL_law_978 : decode code 978 = .ok (.ireturn, 1) := by decide +kernel
section GLW
variable {X : gX} {Y : gY} {cc : ByteArray} {own : String} {nL fr lo pc : Nat} {lv : List (Nat × Value)} {st : List Value} {M : gMem}
theorem q_xld (hC : gC X Y cc own nL fr lo) {b L : Nat} {xs : Nat → Int32} {i : Int32} (hX : va_X b L xs (gxs X) (gxs X).heap) (hbl : b < (gxs X).heap.size) (hbA : ¬ gA Y b) (hi : vp_in i L) (hd : decode cc pc = .ok (.iaload, 1)) (kk : gWW X Y nL (pc + 1) lv (.int (xs i.toNatClampNeg) :: st) M) : gWW X Y nL pc lv (.int i :: .ref b :: st) M := fun H locs ls hS h => va_sld hC.1 hC.2.1 hX hbl hbA hS.2.2 hi hd (kk H locs ls hS h)
theorem q_xlen (hC : gC X Y cc own nL fr lo) {b L : Nat} {xs : Nat → Int32} (hX : va_X b L xs (gxs X) (gxs X).heap) (hbl : b < (gxs X).heap.size) (hbA : ¬ gA Y b) (hd : decode cc pc = .ok (.arraylength, 1)) (kk : gWW X Y nL (pc + 1) lv (.int (nI L) :: st) M) : gWW X Y nL pc lv (.ref b :: st) M := fun H locs ls hS h => va_slen hC.1 hC.2.1 hX hbl hbA hS.2.2 hd (kk H locs ls hS h)
end GLW
theorem lw_in {L i : Nat} (hL : L ≤ 384) (hi : i ≤ 400) (h : ¬ nI L - 6 < nI i) : i + 6 ≤ L := by
  rw [Int32.lt_iff_toInt_lt, show (6 : Int32) = nI 6 from rfl, pk_sub_toInt (by omega) (by omega), nI_toInt (by omega)] at h
  omega
theorem lg_cmp_self (x : Int64) : lg_cmp x x = 0 := by simp [lg_cmp]

set_option maxRecDepth 100000 in
set_option maxHeartbeats 8000000 in
theorem law_loop {X : gX} {Y : gY} {b L : Nat} {xs : Nat → Int32} (hL : L ≤ 384) (hC : gC X Y code "GuestStaffLaw" 4 11 386) (hX : va_X b L xs (gxs X) (gxs X).heap) (hbl : b < (gxs X).heap.size) (hbA : ¬ gA Y b) (hend : ∀ M : gMem, gWW X Y 4 977 [] [] M) : ∀ (n i : Nat) (M : gMem), i ≤ L + 5 → L + 1 ≤ i + n → INV M → gWW X Y 4 18 [(0, .ref b), (1, .ref (gad Y 0 34)), (2, .ref (gad Y 0 59)), (3, .int (nI i))] [] M := by
  intro n
  induction n with
  | zero =>
    intro i M hi hn h
    -- i > L: the exit
    refine q_iload_n hC 3 dL_law_18 rfl rfl ?_
    refine q_aload_n hC 0 dL_law_19 rfl rfl ?_
    refine q_xlen hC hX hbl hbA dL_law_20 ?_
    refine q_bipush hC 6 dL_law_21 rfl ?_
    refine q_isub hC dL_law_23 ?_
    refine q_ic_gt hC 977 dL_law_24 rfl (fun _ => q_sub [] rfl (hend M)) (fun h1 => ?_)
    have := lw_in hL (by omega) h1
    omega
  | succ n ih =>
    intro i M hi hn h
    refine q_iload_n hC 3 dL_law_18 rfl rfl ?_
    refine q_aload_n hC 0 dL_law_19 rfl rfl ?_
    refine q_xlen hC hX hbl hbA dL_law_20 ?_
    refine q_bipush hC 6 dL_law_21 rfl ?_
    refine q_isub hC dL_law_23 ?_
    refine q_ic_gt hC 977 dL_law_24 rfl (fun _ => q_sub [] rfl (hend M)) (fun h1 => ?_)
    have hin := lw_in hL (by omega) h1
    have v0 : vp_in (nI i) L := vp_in_nI (by omega) (by omega)
    have v1 : vp_in (nI i + 1) L := by rw [show nI i + 1 = nI (i + 1) from nI_add i 1]; exact vp_in_nI (by omega) (by omega)
    have v2 : vp_in (nI i + 2) L := by rw [show nI i + 2 = nI (i + 2) from nI_add i 2]; exact vp_in_nI (by omega) (by omega)
    have v3 : vp_in (nI i + 3) L := by rw [show nI i + 3 = nI (i + 3) from nI_add i 3]; exact vp_in_nI (by omega) (by omega)
    have v4 : vp_in (nI i + 4) L := by rw [show nI i + 4 = nI (i + 4) from nI_add i 4]; exact vp_in_nI (by omega) (by omega)
    have v5 : vp_in (nI i + 5) L := by rw [show nI i + 5 = nI (i + 5) from nI_add i 5]; exact vp_in_nI (by omega) (by omega)
    have go : ∀ M', INV M' → gWW X Y 4 971 [(0, .ref b), (1, .ref (gad Y 0 34)), (2, .ref (gad Y 0 59)), (3, .int (nI i))] [] M' := by
      intro M' h'
      refine q_iinc hC 3 6 [(3, .int (nI i + 6)), (0, .ref b), (1, .ref (gad Y 0 34)), (2, .ref (gad Y 0 59))] dL_law_971 rfl rfl (by decide) rfl ?_
      refine q_goto hC 18 dL_law_974 rfl ?_
      refine q_sub [1, 2, 3, 0] rfl ?_
      rw [show nI i + 6 = nI (i + 6) from nI_add i 6]
      exact ih (i + 6) M' (by omega) (by omega) h'
    refine q_aload_n hC 0 dL_law_27 rfl rfl ?_
    refine q_iload_n hC 3 dL_law_28 rfl rfl ?_
    refine q_xld hC hX hbl hbA v0 dL_law_29 ?_
    refine q_bipush hC 63 dL_law_30 rfl ?_
    refine q_iand hC dL_law_32 ?_
    by_cases hk0 : (xs (nI i).toNatClampNeg &&& 63) = 0
    · refine q_tin hC 0 180 hk0 dL_law_33 (by decide) (by decide) rfl rfl ?_
      obtain ⟨r1, r2, q1, q2, ee, hI⟩ := st_house h 
      refine q_aload_n hC 1 dL_law_180 rfl rfl ?_
      refine q_ki (q_rV (As := []) (rest := []) hC mm_X10_house wM_L_13 (c_X10_house q1) ⟨rfl, rfl, Nat.le_of_ble_eq_true rfl, Nat.le_of_ble_eq_true rfl⟩ (gV_t (by decide) (by decide)) rfl rfl rfl rfl (Nat.le_of_ble_eq_true rfl) dL_law_181) ?_
      refine q_aload_n hC 2 dL_law_184 rfl rfl ?_
      refine q_ki (q_rV (As := []) (rest := [.int r1.1]) hC mm_X11_house wM_L_17 (c_X11_house q2) ⟨rfl, rfl, Nat.le_of_ble_eq_true rfl, Nat.le_of_ble_eq_true rfl⟩ (gV_t (by decide) (by decide)) rfl rfl rfl rfl (Nat.le_of_ble_eq_true rfl) dL_law_185) ?_
      exact q_ic_eq hC 971 dL_law_188 rfl (fun _ => go _ hI) (fun hn => absurd ee hn)
    by_cases hk1 : (xs (nI i).toNatClampNeg &&& 63) = 1
    · refine q_tin hC 1 193 hk1 dL_law_33 (by decide) (by decide) rfl rfl ?_
      obtain ⟨r1, r2, q1, q2, ee, hI⟩ := st_guest h (xs (nI i + 1).toNatClampNeg) (xs (nI i + 2).toNatClampNeg) (xs (nI i + 3).toNatClampNeg)
      refine q_aload_n hC 1 dL_law_193 rfl rfl ?_
      refine q_aload_n hC 0 dL_law_194 rfl rfl ?_
      refine q_iload_n hC 3 dL_law_195 rfl rfl ?_
      refine q_iconst hC 1 dL_law_196 rfl ?_
      refine q_iadd hC dL_law_197 ?_
      refine q_xld hC hX hbl hbA v1 dL_law_198 ?_
      refine q_aload_n hC 0 dL_law_199 rfl rfl ?_
      refine q_iload_n hC 3 dL_law_200 rfl rfl ?_
      refine q_iconst hC 2 dL_law_201 rfl ?_
      refine q_iadd hC dL_law_202 ?_
      refine q_xld hC hX hbl hbA v2 dL_law_203 ?_
      refine q_aload_n hC 0 dL_law_204 rfl rfl ?_
      refine q_iload_n hC 3 dL_law_205 rfl rfl ?_
      refine q_iconst hC 3 dL_law_206 rfl ?_
      refine q_iadd hC dL_law_207 ?_
      refine q_xld hC hX hbl hbA v3 dL_law_208 ?_
      refine q_ki (q_rV (As := [.int (xs (nI i + 1).toNatClampNeg), .int (xs (nI i + 2).toNatClampNeg), .int (xs (nI i + 3).toNatClampNeg)]) (rest := []) hC mm_X10_guest wM_L_18 (c_X10_guest q1) ⟨rfl, rfl, Nat.le_of_ble_eq_true rfl, Nat.le_of_ble_eq_true rfl⟩ (gV_t (by decide) (by decide)) rfl rfl rfl rfl (Nat.le_of_ble_eq_true rfl) dL_law_209) ?_
      refine q_aload_n hC 2 dL_law_212 rfl rfl ?_
      refine q_aload_n hC 0 dL_law_213 rfl rfl ?_
      refine q_iload_n hC 3 dL_law_214 rfl rfl ?_
      refine q_iconst hC 1 dL_law_215 rfl ?_
      refine q_iadd hC dL_law_216 ?_
      refine q_xld hC hX hbl hbA v1 dL_law_217 ?_
      refine q_aload_n hC 0 dL_law_218 rfl rfl ?_
      refine q_iload_n hC 3 dL_law_219 rfl rfl ?_
      refine q_iconst hC 2 dL_law_220 rfl ?_
      refine q_iadd hC dL_law_221 ?_
      refine q_xld hC hX hbl hbA v2 dL_law_222 ?_
      refine q_aload_n hC 0 dL_law_223 rfl rfl ?_
      refine q_iload_n hC 3 dL_law_224 rfl rfl ?_
      refine q_iconst hC 3 dL_law_225 rfl ?_
      refine q_iadd hC dL_law_226 ?_
      refine q_xld hC hX hbl hbA v3 dL_law_227 ?_
      refine q_ki (q_rV (As := [.int (xs (nI i + 1).toNatClampNeg), .int (xs (nI i + 2).toNatClampNeg), .int (xs (nI i + 3).toNatClampNeg)]) (rest := [.int r1.1]) hC mm_X11_guest wM_L_22 (c_X11_guest q2) ⟨rfl, rfl, Nat.le_of_ble_eq_true rfl, Nat.le_of_ble_eq_true rfl⟩ (gV_t (by decide) (by decide)) rfl rfl rfl rfl (Nat.le_of_ble_eq_true rfl) dL_law_228) ?_
      exact q_ic_eq hC 971 dL_law_231 rfl (fun _ => go _ hI) (fun hn => absurd ee hn)
    by_cases hk2 : (xs (nI i).toNatClampNeg &&& 63) = 2
    · refine q_tin hC 2 236 hk2 dL_law_33 (by decide) (by decide) rfl rfl ?_
      obtain ⟨r1, r2, q1, q2, ee, hI⟩ := st_duty h (xs (nI i + 1).toNatClampNeg) (xs (nI i + 2).toNatClampNeg)
      refine q_aload_n hC 1 dL_law_236 rfl rfl ?_
      refine q_aload_n hC 0 dL_law_237 rfl rfl ?_
      refine q_iload_n hC 3 dL_law_238 rfl rfl ?_
      refine q_iconst hC 1 dL_law_239 rfl ?_
      refine q_iadd hC dL_law_240 ?_
      refine q_xld hC hX hbl hbA v1 dL_law_241 ?_
      refine q_aload_n hC 0 dL_law_242 rfl rfl ?_
      refine q_iload_n hC 3 dL_law_243 rfl rfl ?_
      refine q_iconst hC 2 dL_law_244 rfl ?_
      refine q_iadd hC dL_law_245 ?_
      refine q_xld hC hX hbl hbA v2 dL_law_246 ?_
      refine q_ki (q_rV (As := [.int (xs (nI i + 1).toNatClampNeg), .int (xs (nI i + 2).toNatClampNeg)]) (rest := []) hC mm_X10_duty wM_L_23 (c_X10_duty q1) ⟨rfl, rfl, Nat.le_of_ble_eq_true rfl, Nat.le_of_ble_eq_true rfl⟩ (gV_t (by decide) (by decide)) rfl rfl rfl rfl (Nat.le_of_ble_eq_true rfl) dL_law_247) ?_
      refine q_aload_n hC 2 dL_law_250 rfl rfl ?_
      refine q_aload_n hC 0 dL_law_251 rfl rfl ?_
      refine q_iload_n hC 3 dL_law_252 rfl rfl ?_
      refine q_iconst hC 1 dL_law_253 rfl ?_
      refine q_iadd hC dL_law_254 ?_
      refine q_xld hC hX hbl hbA v1 dL_law_255 ?_
      refine q_aload_n hC 0 dL_law_256 rfl rfl ?_
      refine q_iload_n hC 3 dL_law_257 rfl rfl ?_
      refine q_iconst hC 2 dL_law_258 rfl ?_
      refine q_iadd hC dL_law_259 ?_
      refine q_xld hC hX hbl hbA v2 dL_law_260 ?_
      refine q_ki (q_rV (As := [.int (xs (nI i + 1).toNatClampNeg), .int (xs (nI i + 2).toNatClampNeg)]) (rest := [.int r1.1]) hC mm_X11_duty wM_L_27 (c_X11_duty q2) ⟨rfl, rfl, Nat.le_of_ble_eq_true rfl, Nat.le_of_ble_eq_true rfl⟩ (gV_t (by decide) (by decide)) rfl rfl rfl rfl (Nat.le_of_ble_eq_true rfl) dL_law_261) ?_
      exact q_ic_eq hC 971 dL_law_264 rfl (fun _ => go _ hI) (fun hn => absurd ee hn)
    by_cases hk3 : (xs (nI i).toNatClampNeg &&& 63) = 3
    · refine q_tin hC 3 269 hk3 dL_law_33 (by decide) (by decide) rfl rfl ?_
      obtain ⟨r1, r2, q1, q2, ee, hI⟩ := st_type h (xs (nI i + 1).toNatClampNeg)
      refine q_aload_n hC 1 dL_law_269 rfl rfl ?_
      refine q_aload_n hC 0 dL_law_270 rfl rfl ?_
      refine q_iload_n hC 3 dL_law_271 rfl rfl ?_
      refine q_iconst hC 1 dL_law_272 rfl ?_
      refine q_iadd hC dL_law_273 ?_
      refine q_xld hC hX hbl hbA v1 dL_law_274 ?_
      refine q_ki (q_rV (As := [.int (xs (nI i + 1).toNatClampNeg)]) (rest := []) hC mm_X10_type wM_L_28 (c_X10_type q1) ⟨rfl, rfl, Nat.le_of_ble_eq_true rfl, Nat.le_of_ble_eq_true rfl⟩ (gV_t (by decide) (by decide)) rfl rfl rfl rfl (Nat.le_of_ble_eq_true rfl) dL_law_275) ?_
      refine q_aload_n hC 2 dL_law_278 rfl rfl ?_
      refine q_aload_n hC 0 dL_law_279 rfl rfl ?_
      refine q_iload_n hC 3 dL_law_280 rfl rfl ?_
      refine q_iconst hC 1 dL_law_281 rfl ?_
      refine q_iadd hC dL_law_282 ?_
      refine q_xld hC hX hbl hbA v1 dL_law_283 ?_
      refine q_ki (q_rV (As := [.int (xs (nI i + 1).toNatClampNeg)]) (rest := [.int r1.1]) hC mm_X11_type wM_L_32 (c_X11_type q2) ⟨rfl, rfl, Nat.le_of_ble_eq_true rfl, Nat.le_of_ble_eq_true rfl⟩ (gV_t (by decide) (by decide)) rfl rfl rfl rfl (Nat.le_of_ble_eq_true rfl) dL_law_284) ?_
      exact q_ic_eq hC 971 dL_law_287 rfl (fun _ => go _ hI) (fun hn => absurd ee hn)
    by_cases hk4 : (xs (nI i).toNatClampNeg &&& 63) = 4
    · refine q_tin hC 4 292 hk4 dL_law_33 (by decide) (by decide) rfl rfl ?_
      obtain ⟨r1, r2, q1, q2, ee, hI⟩ := st_clear h 
      refine q_aload_n hC 1 dL_law_292 rfl rfl ?_
      refine q_ki (q_rV (As := []) (rest := []) hC mm_X10_clear wM_L_33 (c_X10_clear q1) ⟨rfl, rfl, Nat.le_of_ble_eq_true rfl, Nat.le_of_ble_eq_true rfl⟩ (gV_t (by decide) (by decide)) rfl rfl rfl rfl (Nat.le_of_ble_eq_true rfl) dL_law_293) ?_
      refine q_aload_n hC 2 dL_law_296 rfl rfl ?_
      refine q_ki (q_rV (As := []) (rest := [.int r1.1]) hC mm_X11_clear wM_L_36 (c_X11_clear q2) ⟨rfl, rfl, Nat.le_of_ble_eq_true rfl, Nat.le_of_ble_eq_true rfl⟩ (gV_t (by decide) (by decide)) rfl rfl rfl rfl (Nat.le_of_ble_eq_true rfl) dL_law_297) ?_
      exact q_ic_eq hC 971 dL_law_300 rfl (fun _ => go _ hI) (fun hn => absurd ee hn)
    by_cases hk5 : (xs (nI i).toNatClampNeg &&& 63) = 5
    · refine q_tin hC 5 305 hk5 dL_law_33 (by decide) (by decide) rfl rfl ?_
      obtain ⟨r1, r2, q1, q2, ee, hI⟩ := st_read h 
      refine q_aload_n hC 1 dL_law_305 rfl rfl ?_
      refine q_ki (q_rV (As := []) (rest := []) hC mm_X10_read wM_L_37 (c_X10_read q1) ⟨rfl, rfl, Nat.le_of_ble_eq_true rfl, Nat.le_of_ble_eq_true rfl⟩ (gV_t (by decide) (by decide)) rfl rfl rfl rfl (Nat.le_of_ble_eq_true rfl) dL_law_306) ?_
      refine q_aload_n hC 2 dL_law_309 rfl rfl ?_
      refine q_ki (q_rV (As := []) (rest := [.int r1.1]) hC mm_X11_read wM_L_40 (c_X11_read q2) ⟨rfl, rfl, Nat.le_of_ble_eq_true rfl, Nat.le_of_ble_eq_true rfl⟩ (gV_t (by decide) (by decide)) rfl rfl rfl rfl (Nat.le_of_ble_eq_true rfl) dL_law_310) ?_
      exact q_ic_eq hC 971 dL_law_313 rfl (fun _ => go _ hI) (fun hn => absurd ee hn)
    by_cases hk6 : (xs (nI i).toNatClampNeg &&& 63) = 6
    · refine q_tin hC 6 318 hk6 dL_law_33 (by decide) (by decide) rfl rfl ?_
      obtain ⟨r1, r2, q1, q2, ee, hI⟩ := st_hour h (xs (nI i + 1).toNatClampNeg)
      refine q_aload_n hC 1 dL_law_318 rfl rfl ?_
      refine q_aload_n hC 0 dL_law_319 rfl rfl ?_
      refine q_iload_n hC 3 dL_law_320 rfl rfl ?_
      refine q_iconst hC 1 dL_law_321 rfl ?_
      refine q_iadd hC dL_law_322 ?_
      refine q_xld hC hX hbl hbA v1 dL_law_323 ?_
      refine q_ki (q_rV (As := [.int (xs (nI i + 1).toNatClampNeg)]) (rest := []) hC mm_X10_hour wM_L_41 (c_X10_hour q1) ⟨rfl, rfl, Nat.le_of_ble_eq_true rfl, Nat.le_of_ble_eq_true rfl⟩ (gV_t (by decide) (by decide)) rfl rfl rfl rfl (Nat.le_of_ble_eq_true rfl) dL_law_324) ?_
      refine q_aload_n hC 2 dL_law_327 rfl rfl ?_
      refine q_aload_n hC 0 dL_law_328 rfl rfl ?_
      refine q_iload_n hC 3 dL_law_329 rfl rfl ?_
      refine q_iconst hC 1 dL_law_330 rfl ?_
      refine q_iadd hC dL_law_331 ?_
      refine q_xld hC hX hbl hbA v1 dL_law_332 ?_
      refine q_ki (q_rV (As := [.int (xs (nI i + 1).toNatClampNeg)]) (rest := [.int r1.1]) hC mm_X11_hour wM_L_44 (c_X11_hour q2) ⟨rfl, rfl, Nat.le_of_ble_eq_true rfl, Nat.le_of_ble_eq_true rfl⟩ (gV_t (by decide) (by decide)) rfl rfl rfl rfl (Nat.le_of_ble_eq_true rfl) dL_law_333) ?_
      exact q_ic_eq hC 971 dL_law_336 rfl (fun _ => go _ hI) (fun hn => absurd ee hn)
    by_cases hk7 : (xs (nI i).toNatClampNeg &&& 63) = 7
    · refine q_tin hC 7 341 hk7 dL_law_33 (by decide) (by decide) rfl rfl ?_
      obtain ⟨r1, r2, q1, q2, ee, hI⟩ := st_undo h 
      refine q_aload_n hC 1 dL_law_341 rfl rfl ?_
      refine q_ki (q_rV (As := []) (rest := []) hC mm_X10_undo wM_L_45 (c_X10_undo q1) ⟨rfl, rfl, Nat.le_of_ble_eq_true rfl, Nat.le_of_ble_eq_true rfl⟩ (gV_t (by decide) (by decide)) rfl rfl rfl rfl (Nat.le_of_ble_eq_true rfl) dL_law_342) ?_
      refine q_aload_n hC 2 dL_law_345 rfl rfl ?_
      refine q_ki (q_rV (As := []) (rest := [.int r1.1]) hC mm_X11_undo wM_L_48 (c_X11_undo q2) ⟨rfl, rfl, Nat.le_of_ble_eq_true rfl, Nat.le_of_ble_eq_true rfl⟩ (gV_t (by decide) (by decide)) rfl rfl rfl rfl (Nat.le_of_ble_eq_true rfl) dL_law_346) ?_
      exact q_ic_eq hC 971 dL_law_349 rfl (fun _ => go _ hI) (fun hn => absurd ee hn)
    by_cases hk8 : (xs (nI i).toNatClampNeg &&& 63) = 8
    · refine q_tin hC 8 354 hk8 dL_law_33 (by decide) (by decide) rfl rfl ?_
      obtain ⟨r1, r2, q1, q2, ee, hI⟩ := st_of h (xs (nI i + 1).toNatClampNeg) (xs (nI i + 2).toNatClampNeg)
      refine q_aload_n hC 1 dL_law_354 rfl rfl ?_
      refine q_aload_n hC 0 dL_law_355 rfl rfl ?_
      refine q_iload_n hC 3 dL_law_356 rfl rfl ?_
      refine q_iconst hC 1 dL_law_357 rfl ?_
      refine q_iadd hC dL_law_358 ?_
      refine q_xld hC hX hbl hbA v1 dL_law_359 ?_
      refine q_aload_n hC 0 dL_law_360 rfl rfl ?_
      refine q_iload_n hC 3 dL_law_361 rfl rfl ?_
      refine q_iconst hC 2 dL_law_362 rfl ?_
      refine q_iadd hC dL_law_363 ?_
      refine q_xld hC hX hbl hbA v2 dL_law_364 ?_
      refine q_ki (q_rV (As := [.int (xs (nI i + 1).toNatClampNeg), .int (xs (nI i + 2).toNatClampNeg)]) (rest := []) hC mm_X10_of wM_L_49 (c_X10_of q1) ⟨rfl, rfl, Nat.le_of_ble_eq_true rfl, Nat.le_of_ble_eq_true rfl⟩ (gV_t (by decide) (by decide)) rfl rfl rfl rfl (Nat.le_of_ble_eq_true rfl) dL_law_365) ?_
      refine q_aload_n hC 2 dL_law_368 rfl rfl ?_
      refine q_aload_n hC 0 dL_law_369 rfl rfl ?_
      refine q_iload_n hC 3 dL_law_370 rfl rfl ?_
      refine q_iconst hC 1 dL_law_371 rfl ?_
      refine q_iadd hC dL_law_372 ?_
      refine q_xld hC hX hbl hbA v1 dL_law_373 ?_
      refine q_aload_n hC 0 dL_law_374 rfl rfl ?_
      refine q_iload_n hC 3 dL_law_375 rfl rfl ?_
      refine q_iconst hC 2 dL_law_376 rfl ?_
      refine q_iadd hC dL_law_377 ?_
      refine q_xld hC hX hbl hbA v2 dL_law_378 ?_
      refine q_ki (q_rV (As := [.int (xs (nI i + 1).toNatClampNeg), .int (xs (nI i + 2).toNatClampNeg)]) (rest := [.int r1.1]) hC mm_X11_of wM_L_52 (c_X11_of q2) ⟨rfl, rfl, Nat.le_of_ble_eq_true rfl, Nat.le_of_ble_eq_true rfl⟩ (gV_t (by decide) (by decide)) rfl rfl rfl rfl (Nat.le_of_ble_eq_true rfl) dL_law_379) ?_
      exact q_ic_eq hC 971 dL_law_382 rfl (fun _ => go _ hI) (fun hn => absurd ee hn)
    by_cases hk9 : (xs (nI i).toNatClampNeg &&& 63) = 9
    · refine q_tin hC 9 387 hk9 dL_law_33 (by decide) (by decide) rfl rfl ?_
      obtain ⟨r1, r2, q1, q2, ee, hI⟩ := st_can h (xs (nI i + 1).toNatClampNeg) (xs (nI i + 2).toNatClampNeg)
      refine q_aload_n hC 1 dL_law_387 rfl rfl ?_
      refine q_aload_n hC 0 dL_law_388 rfl rfl ?_
      refine q_iload_n hC 3 dL_law_389 rfl rfl ?_
      refine q_iconst hC 1 dL_law_390 rfl ?_
      refine q_iadd hC dL_law_391 ?_
      refine q_xld hC hX hbl hbA v1 dL_law_392 ?_
      refine q_aload_n hC 0 dL_law_393 rfl rfl ?_
      refine q_iload_n hC 3 dL_law_394 rfl rfl ?_
      refine q_iconst hC 2 dL_law_395 rfl ?_
      refine q_iadd hC dL_law_396 ?_
      refine q_xld hC hX hbl hbA v2 dL_law_397 ?_
      refine q_ki (q_rV (As := [.int (xs (nI i + 1).toNatClampNeg), .int (xs (nI i + 2).toNatClampNeg)]) (rest := []) hC mm_X10_can wM_L_53 (c_X10_can q1) ⟨rfl, rfl, Nat.le_of_ble_eq_true rfl, Nat.le_of_ble_eq_true rfl⟩ (gV_t (by decide) (by decide)) rfl rfl rfl rfl (Nat.le_of_ble_eq_true rfl) dL_law_398) ?_
      refine q_aload_n hC 2 dL_law_401 rfl rfl ?_
      refine q_aload_n hC 0 dL_law_402 rfl rfl ?_
      refine q_iload_n hC 3 dL_law_403 rfl rfl ?_
      refine q_iconst hC 1 dL_law_404 rfl ?_
      refine q_iadd hC dL_law_405 ?_
      refine q_xld hC hX hbl hbA v1 dL_law_406 ?_
      refine q_aload_n hC 0 dL_law_407 rfl rfl ?_
      refine q_iload_n hC 3 dL_law_408 rfl rfl ?_
      refine q_iconst hC 2 dL_law_409 rfl ?_
      refine q_iadd hC dL_law_410 ?_
      refine q_xld hC hX hbl hbA v2 dL_law_411 ?_
      refine q_ki (q_rV (As := [.int (xs (nI i + 1).toNatClampNeg), .int (xs (nI i + 2).toNatClampNeg)]) (rest := [.int r1.1]) hC mm_X11_can wM_L_56 (c_X11_can q2) ⟨rfl, rfl, Nat.le_of_ble_eq_true rfl, Nat.le_of_ble_eq_true rfl⟩ (gV_t (by decide) (by decide)) rfl rfl rfl rfl (Nat.le_of_ble_eq_true rfl) dL_law_412) ?_
      exact q_ic_eq hC 971 dL_law_415 rfl (fun _ => go _ hI) (fun hn => absurd ee hn)
    by_cases hk10 : (xs (nI i).toNatClampNeg &&& 63) = 10
    · refine q_tin hC 10 420 hk10 dL_law_33 (by decide) (by decide) rfl rfl ?_
      obtain ⟨r1, r2, q1, q2, ee, hI⟩ := st_work h (xs (nI i + 1).toNatClampNeg) (xs (nI i + 2).toNatClampNeg)
      refine q_aload_n hC 1 dL_law_420 rfl rfl ?_
      refine q_aload_n hC 0 dL_law_421 rfl rfl ?_
      refine q_iload_n hC 3 dL_law_422 rfl rfl ?_
      refine q_iconst hC 1 dL_law_423 rfl ?_
      refine q_iadd hC dL_law_424 ?_
      refine q_xld hC hX hbl hbA v1 dL_law_425 ?_
      refine q_aload_n hC 0 dL_law_426 rfl rfl ?_
      refine q_iload_n hC 3 dL_law_427 rfl rfl ?_
      refine q_iconst hC 2 dL_law_428 rfl ?_
      refine q_iadd hC dL_law_429 ?_
      refine q_xld hC hX hbl hbA v2 dL_law_430 ?_
      refine q_ki (q_rV (As := [.int (xs (nI i + 1).toNatClampNeg), .int (xs (nI i + 2).toNatClampNeg)]) (rest := []) hC mm_X10_work wM_L_57 (c_X10_work q1) ⟨rfl, rfl, Nat.le_of_ble_eq_true rfl, Nat.le_of_ble_eq_true rfl⟩ (gV_t (by decide) (by decide)) rfl rfl rfl rfl (Nat.le_of_ble_eq_true rfl) dL_law_431) ?_
      refine q_aload_n hC 2 dL_law_434 rfl rfl ?_
      refine q_aload_n hC 0 dL_law_435 rfl rfl ?_
      refine q_iload_n hC 3 dL_law_436 rfl rfl ?_
      refine q_iconst hC 1 dL_law_437 rfl ?_
      refine q_iadd hC dL_law_438 ?_
      refine q_xld hC hX hbl hbA v1 dL_law_439 ?_
      refine q_aload_n hC 0 dL_law_440 rfl rfl ?_
      refine q_iload_n hC 3 dL_law_441 rfl rfl ?_
      refine q_iconst hC 2 dL_law_442 rfl ?_
      refine q_iadd hC dL_law_443 ?_
      refine q_xld hC hX hbl hbA v2 dL_law_444 ?_
      refine q_ki (q_rV (As := [.int (xs (nI i + 1).toNatClampNeg), .int (xs (nI i + 2).toNatClampNeg)]) (rest := [.int r1.1]) hC mm_X11_work wM_L_60 (c_X11_work q2) ⟨rfl, rfl, Nat.le_of_ble_eq_true rfl, Nat.le_of_ble_eq_true rfl⟩ (gV_t (by decide) (by decide)) rfl rfl rfl rfl (Nat.le_of_ble_eq_true rfl) dL_law_445) ?_
      exact q_ic_eq hC 971 dL_law_448 rfl (fun _ => go _ hI) (fun hn => absurd ee hn)
    by_cases hk11 : (xs (nI i).toNatClampNeg &&& 63) = 11
    · refine q_tin hC 11 453 hk11 dL_law_33 (by decide) (by decide) rfl rfl ?_
      obtain ⟨r1, r2, q1, q2, ee, hI⟩ := st_all h (xs (nI i + 1).toNatClampNeg)
      refine q_aload_n hC 1 dL_law_453 rfl rfl ?_
      refine q_aload_n hC 0 dL_law_454 rfl rfl ?_
      refine q_iload_n hC 3 dL_law_455 rfl rfl ?_
      refine q_iconst hC 1 dL_law_456 rfl ?_
      refine q_iadd hC dL_law_457 ?_
      refine q_xld hC hX hbl hbA v1 dL_law_458 ?_
      refine q_ki (q_rV (As := [.int (xs (nI i + 1).toNatClampNeg)]) (rest := []) hC mm_X10_all wM_L_61 (c_X10_all q1) ⟨rfl, rfl, Nat.le_of_ble_eq_true rfl, Nat.le_of_ble_eq_true rfl⟩ (gV_t (by decide) (by decide)) rfl rfl rfl rfl (Nat.le_of_ble_eq_true rfl) dL_law_459) ?_
      refine q_aload_n hC 2 dL_law_462 rfl rfl ?_
      refine q_aload_n hC 0 dL_law_463 rfl rfl ?_
      refine q_iload_n hC 3 dL_law_464 rfl rfl ?_
      refine q_iconst hC 1 dL_law_465 rfl ?_
      refine q_iadd hC dL_law_466 ?_
      refine q_xld hC hX hbl hbA v1 dL_law_467 ?_
      refine q_ki (q_rV (As := [.int (xs (nI i + 1).toNatClampNeg)]) (rest := [.int r1.1]) hC mm_X11_all wM_L_64 (c_X11_all q2) ⟨rfl, rfl, Nat.le_of_ble_eq_true rfl, Nat.le_of_ble_eq_true rfl⟩ (gV_t (by decide) (by decide)) rfl rfl rfl rfl (Nat.le_of_ble_eq_true rfl) dL_law_468) ?_
      exact q_ic_eq hC 971 dL_law_471 rfl (fun _ => go _ hI) (fun hn => absurd ee hn)
    by_cases hk12 : (xs (nI i).toNatClampNeg &&& 63) = 12
    · refine q_tin hC 12 476 hk12 dL_law_33 (by decide) (by decide) rfl rfl ?_
      obtain ⟨r1, r2, q1, q2, ee, hI⟩ := st_least h 
      refine q_aload_n hC 1 dL_law_476 rfl rfl ?_
      refine q_ki (q_rV (As := []) (rest := []) hC mm_X10_least wM_L_65 (c_X10_least q1) ⟨rfl, rfl, Nat.le_of_ble_eq_true rfl, Nat.le_of_ble_eq_true rfl⟩ (gV_t (by decide) (by decide)) rfl rfl rfl rfl (Nat.le_of_ble_eq_true rfl) dL_law_477) ?_
      refine q_aload_n hC 2 dL_law_480 rfl rfl ?_
      refine q_ki (q_rV (As := []) (rest := [.int r1.1]) hC mm_X11_least wM_L_68 (c_X11_least q2) ⟨rfl, rfl, Nat.le_of_ble_eq_true rfl, Nat.le_of_ble_eq_true rfl⟩ (gV_t (by decide) (by decide)) rfl rfl rfl rfl (Nat.le_of_ble_eq_true rfl) dL_law_481) ?_
      exact q_ic_eq hC 971 dL_law_484 rfl (fun _ => go _ hI) (fun hn => absurd ee hn)
    by_cases hk13 : (xs (nI i).toNatClampNeg &&& 63) = 13
    · refine q_tin hC 13 489 hk13 dL_law_33 (by decide) (by decide) rfl rfl ?_
      obtain ⟨r1, r2, q1, q2, ee, hI⟩ := st_most h (xs (nI i + 1).toNatClampNeg)
      refine q_aload_n hC 1 dL_law_489 rfl rfl ?_
      refine q_aload_n hC 0 dL_law_490 rfl rfl ?_
      refine q_iload_n hC 3 dL_law_491 rfl rfl ?_
      refine q_iconst hC 1 dL_law_492 rfl ?_
      refine q_iadd hC dL_law_493 ?_
      refine q_xld hC hX hbl hbA v1 dL_law_494 ?_
      refine q_ki (q_rV (As := [.int (xs (nI i + 1).toNatClampNeg)]) (rest := []) hC mm_X10_most wM_L_69 (c_X10_most q1) ⟨rfl, rfl, Nat.le_of_ble_eq_true rfl, Nat.le_of_ble_eq_true rfl⟩ (gV_t (by decide) (by decide)) rfl rfl rfl rfl (Nat.le_of_ble_eq_true rfl) dL_law_495) ?_
      refine q_aload_n hC 2 dL_law_498 rfl rfl ?_
      refine q_aload_n hC 0 dL_law_499 rfl rfl ?_
      refine q_iload_n hC 3 dL_law_500 rfl rfl ?_
      refine q_iconst hC 1 dL_law_501 rfl ?_
      refine q_iadd hC dL_law_502 ?_
      refine q_xld hC hX hbl hbA v1 dL_law_503 ?_
      refine q_ki (q_rV (As := [.int (xs (nI i + 1).toNatClampNeg)]) (rest := [.int r1.1]) hC mm_X11_most wM_L_72 (c_X11_most q2) ⟨rfl, rfl, Nat.le_of_ble_eq_true rfl, Nat.le_of_ble_eq_true rfl⟩ (gV_t (by decide) (by decide)) rfl rfl rfl rfl (Nat.le_of_ble_eq_true rfl) dL_law_504) ?_
      exact q_ic_eq hC 971 dL_law_507 rfl (fun _ => go _ hI) (fun hn => absurd ee hn)
    by_cases hk14 : (xs (nI i).toNatClampNeg &&& 63) = 14
    · refine q_tin hC 14 512 hk14 dL_law_33 (by decide) (by decide) rfl rfl ?_
      obtain ⟨r1, r2, q1, q2, ee, hI⟩ := st_lone h 
      refine q_aload_n hC 1 dL_law_512 rfl rfl ?_
      refine q_kip (q_rV (As := []) (rest := []) hC mm_X10_lone wM_L_73 (c_X10_lone q1) ⟨rfl, rfl, Nat.le_of_ble_eq_true rfl, Nat.le_of_ble_eq_true rfl⟩ (gV_t (by decide) (by decide)) rfl rfl rfl rfl (Nat.le_of_ble_eq_true rfl) dL_law_513) ?_
      refine q_aload_n hC 2 dL_law_516 rfl rfl ?_
      refine q_kip (q_rV (As := []) (rest := [.int r1]) hC mm_X11_lone wM_L_76 (c_X11_lone q2) ⟨rfl, rfl, Nat.le_of_ble_eq_true rfl, Nat.le_of_ble_eq_true rfl⟩ (gV_t (by decide) (by decide)) rfl rfl rfl rfl (Nat.le_of_ble_eq_true rfl) dL_law_517) ?_
      exact q_ic_eq hC 971 dL_law_520 rfl (fun _ => go _ hI) (fun hn => absurd ee hn)
    by_cases hk15 : (xs (nI i).toNatClampNeg &&& 63) = 15
    · refine q_tin hC 15 525 hk15 dL_law_33 (by decide) (by decide) rfl rfl ?_
      obtain ⟨r1, r2, q1, q2, ee, hI⟩ := st_rings h (xs (nI i + 1).toNatClampNeg)
      refine q_aload_n hC 1 dL_law_525 rfl rfl ?_
      refine q_aload_n hC 0 dL_law_526 rfl rfl ?_
      refine q_iload_n hC 3 dL_law_527 rfl rfl ?_
      refine q_iconst hC 1 dL_law_528 rfl ?_
      refine q_iadd hC dL_law_529 ?_
      refine q_xld hC hX hbl hbA v1 dL_law_530 ?_
      refine q_ki (q_rV (As := [.int (xs (nI i + 1).toNatClampNeg)]) (rest := []) hC mm_X10_rings wM_L_77 (c_X10_rings q1) ⟨rfl, rfl, Nat.le_of_ble_eq_true rfl, Nat.le_of_ble_eq_true rfl⟩ (gV_t (by decide) (by decide)) rfl rfl rfl rfl (Nat.le_of_ble_eq_true rfl) dL_law_531) ?_
      refine q_aload_n hC 2 dL_law_534 rfl rfl ?_
      refine q_aload_n hC 0 dL_law_535 rfl rfl ?_
      refine q_iload_n hC 3 dL_law_536 rfl rfl ?_
      refine q_iconst hC 1 dL_law_537 rfl ?_
      refine q_iadd hC dL_law_538 ?_
      refine q_xld hC hX hbl hbA v1 dL_law_539 ?_
      refine q_ki (q_rV (As := [.int (xs (nI i + 1).toNatClampNeg)]) (rest := [.int r1.1]) hC mm_X11_rings wM_L_80 (c_X11_rings q2) ⟨rfl, rfl, Nat.le_of_ble_eq_true rfl, Nat.le_of_ble_eq_true rfl⟩ (gV_t (by decide) (by decide)) rfl rfl rfl rfl (Nat.le_of_ble_eq_true rfl) dL_law_540) ?_
      exact q_ic_eq hC 971 dL_law_543 rfl (fun _ => go _ hI) (fun hn => absurd ee hn)
    by_cases hk16 : (xs (nI i).toNatClampNeg &&& 63) = 16
    · refine q_tin hC 16 548 hk16 dL_law_33 (by decide) (by decide) rfl rfl ?_
      obtain ⟨r1, r2, q1, q2, ee, hI⟩ := st_smallest h 
      refine q_aload_n hC 1 dL_law_548 rfl rfl ?_
      refine q_ki (q_rV (As := []) (rest := []) hC mm_X10_smallest wM_L_81 (c_X10_smallest q1) ⟨rfl, rfl, Nat.le_of_ble_eq_true rfl, Nat.le_of_ble_eq_true rfl⟩ (gV_t (by decide) (by decide)) rfl rfl rfl rfl (Nat.le_of_ble_eq_true rfl) dL_law_549) ?_
      refine q_aload_n hC 2 dL_law_552 rfl rfl ?_
      refine q_ki (q_rV (As := []) (rest := [.int r1.1]) hC mm_X11_smallest wM_L_84 (c_X11_smallest q2) ⟨rfl, rfl, Nat.le_of_ble_eq_true rfl, Nat.le_of_ble_eq_true rfl⟩ (gV_t (by decide) (by decide)) rfl rfl rfl rfl (Nat.le_of_ble_eq_true rfl) dL_law_553) ?_
      exact q_ic_eq hC 971 dL_law_556 rfl (fun _ => go _ hI) (fun hn => absurd ee hn)
    by_cases hk17 : (xs (nI i).toNatClampNeg &&& 63) = 17
    · refine q_tin hC 17 561 hk17 dL_law_33 (by decide) (by decide) rfl rfl ?_
      obtain ⟨r1, r2, q1, q2, ee, hI⟩ := st_swap h (xs (nI i + 1).toNatClampNeg)
      refine q_aload_n hC 1 dL_law_561 rfl rfl ?_
      refine q_aload_n hC 0 dL_law_562 rfl rfl ?_
      refine q_iload_n hC 3 dL_law_563 rfl rfl ?_
      refine q_iconst hC 1 dL_law_564 rfl ?_
      refine q_iadd hC dL_law_565 ?_
      refine q_xld hC hX hbl hbA v1 dL_law_566 ?_
      refine q_ki (q_rV (As := [.int (xs (nI i + 1).toNatClampNeg)]) (rest := []) hC mm_X10_swap wM_L_85 (c_X10_swap q1) ⟨rfl, rfl, Nat.le_of_ble_eq_true rfl, Nat.le_of_ble_eq_true rfl⟩ (gV_t (by decide) (by decide)) rfl rfl rfl rfl (Nat.le_of_ble_eq_true rfl) dL_law_567) ?_
      refine q_aload_n hC 2 dL_law_570 rfl rfl ?_
      refine q_aload_n hC 0 dL_law_571 rfl rfl ?_
      refine q_iload_n hC 3 dL_law_572 rfl rfl ?_
      refine q_iconst hC 1 dL_law_573 rfl ?_
      refine q_iadd hC dL_law_574 ?_
      refine q_xld hC hX hbl hbA v1 dL_law_575 ?_
      refine q_ki (q_rV (As := [.int (xs (nI i + 1).toNatClampNeg)]) (rest := [.int r1.1]) hC mm_X11_swap wM_L_88 (c_X11_swap q2) ⟨rfl, rfl, Nat.le_of_ble_eq_true rfl, Nat.le_of_ble_eq_true rfl⟩ (gV_t (by decide) (by decide)) rfl rfl rfl rfl (Nat.le_of_ble_eq_true rfl) dL_law_576) ?_
      exact q_ic_eq hC 971 dL_law_579 rfl (fun _ => go _ hI) (fun hn => absurd ee hn)
    by_cases hk18 : (xs (nI i).toNatClampNeg &&& 63) = 18
    · refine q_tin hC 18 584 hk18 dL_law_33 (by decide) (by decide) rfl rfl ?_
      obtain ⟨r1, r2, q1, q2, ee, hI⟩ := st_takeIn h (xs (nI i + 1).toNatClampNeg)
      refine q_aload_n hC 1 dL_law_584 rfl rfl ?_
      refine q_aload_n hC 0 dL_law_585 rfl rfl ?_
      refine q_iload_n hC 3 dL_law_586 rfl rfl ?_
      refine q_iconst hC 1 dL_law_587 rfl ?_
      refine q_iadd hC dL_law_588 ?_
      refine q_xld hC hX hbl hbA v1 dL_law_589 ?_
      refine q_ki (q_rV (As := [.int (xs (nI i + 1).toNatClampNeg)]) (rest := []) hC mm_X10_takeIn wM_L_89 (c_X10_takeIn q1) ⟨rfl, rfl, Nat.le_of_ble_eq_true rfl, Nat.le_of_ble_eq_true rfl⟩ (gV_t (by decide) (by decide)) rfl rfl rfl rfl (Nat.le_of_ble_eq_true rfl) dL_law_590) ?_
      refine q_aload_n hC 2 dL_law_593 rfl rfl ?_
      refine q_aload_n hC 0 dL_law_594 rfl rfl ?_
      refine q_iload_n hC 3 dL_law_595 rfl rfl ?_
      refine q_iconst hC 1 dL_law_596 rfl ?_
      refine q_iadd hC dL_law_597 ?_
      refine q_xld hC hX hbl hbA v1 dL_law_598 ?_
      refine q_ki (q_rV (As := [.int (xs (nI i + 1).toNatClampNeg)]) (rest := [.int r1.1]) hC mm_X11_takeIn wM_L_92 (c_X11_takeIn q2) ⟨rfl, rfl, Nat.le_of_ble_eq_true rfl, Nat.le_of_ble_eq_true rfl⟩ (gV_t (by decide) (by decide)) rfl rfl rfl rfl (Nat.le_of_ble_eq_true rfl) dL_law_599) ?_
      exact q_ic_eq hC 971 dL_law_602 rfl (fun _ => go _ hI) (fun hn => absurd ee hn)
    by_cases hk19 : (xs (nI i).toNatClampNeg &&& 63) = 19
    · refine q_tin hC 19 607 hk19 dL_law_33 (by decide) (by decide) rfl rfl ?_
      obtain ⟨r1, r2, q1, q2, ee, hI⟩ := st_note h (xs (nI i + 1).toNatClampNeg) (xs (nI i + 2).toNatClampNeg) (xs (nI i + 3).toNatClampNeg) (xs (nI i + 4).toNatClampNeg) (xs (nI i + 5).toNatClampNeg)
      refine q_aload_n hC 1 dL_law_607 rfl rfl ?_
      refine q_aload_n hC 0 dL_law_608 rfl rfl ?_
      refine q_iload_n hC 3 dL_law_609 rfl rfl ?_
      refine q_iconst hC 1 dL_law_610 rfl ?_
      refine q_iadd hC dL_law_611 ?_
      refine q_xld hC hX hbl hbA v1 dL_law_612 ?_
      refine q_aload_n hC 0 dL_law_613 rfl rfl ?_
      refine q_iload_n hC 3 dL_law_614 rfl rfl ?_
      refine q_iconst hC 2 dL_law_615 rfl ?_
      refine q_iadd hC dL_law_616 ?_
      refine q_xld hC hX hbl hbA v2 dL_law_617 ?_
      refine q_aload_n hC 0 dL_law_618 rfl rfl ?_
      refine q_iload_n hC 3 dL_law_619 rfl rfl ?_
      refine q_iconst hC 3 dL_law_620 rfl ?_
      refine q_iadd hC dL_law_621 ?_
      refine q_xld hC hX hbl hbA v3 dL_law_622 ?_
      refine q_aload_n hC 0 dL_law_623 rfl rfl ?_
      refine q_iload_n hC 3 dL_law_624 rfl rfl ?_
      refine q_iconst hC 4 dL_law_625 rfl ?_
      refine q_iadd hC dL_law_626 ?_
      refine q_xld hC hX hbl hbA v4 dL_law_627 ?_
      refine q_aload_n hC 0 dL_law_628 rfl rfl ?_
      refine q_iload_n hC 3 dL_law_629 rfl rfl ?_
      refine q_iconst hC 5 dL_law_630 rfl ?_
      refine q_iadd hC dL_law_631 ?_
      refine q_xld hC hX hbl hbA v5 dL_law_632 ?_
      refine q_ki (q_rV (As := [.int (xs (nI i + 1).toNatClampNeg), .int (xs (nI i + 2).toNatClampNeg), .int (xs (nI i + 3).toNatClampNeg), .int (xs (nI i + 4).toNatClampNeg), .int (xs (nI i + 5).toNatClampNeg)]) (rest := []) hC mm_X10_note wM_L_93 (c_X10_note q1) ⟨rfl, rfl, Nat.le_of_ble_eq_true rfl, Nat.le_of_ble_eq_true rfl⟩ (gV_t (by decide) (by decide)) rfl rfl rfl rfl (Nat.le_of_ble_eq_true rfl) dL_law_633) ?_
      refine q_aload_n hC 2 dL_law_636 rfl rfl ?_
      refine q_aload_n hC 0 dL_law_637 rfl rfl ?_
      refine q_iload_n hC 3 dL_law_638 rfl rfl ?_
      refine q_iconst hC 1 dL_law_639 rfl ?_
      refine q_iadd hC dL_law_640 ?_
      refine q_xld hC hX hbl hbA v1 dL_law_641 ?_
      refine q_aload_n hC 0 dL_law_642 rfl rfl ?_
      refine q_iload_n hC 3 dL_law_643 rfl rfl ?_
      refine q_iconst hC 2 dL_law_644 rfl ?_
      refine q_iadd hC dL_law_645 ?_
      refine q_xld hC hX hbl hbA v2 dL_law_646 ?_
      refine q_aload_n hC 0 dL_law_647 rfl rfl ?_
      refine q_iload_n hC 3 dL_law_648 rfl rfl ?_
      refine q_iconst hC 3 dL_law_649 rfl ?_
      refine q_iadd hC dL_law_650 ?_
      refine q_xld hC hX hbl hbA v3 dL_law_651 ?_
      refine q_aload_n hC 0 dL_law_652 rfl rfl ?_
      refine q_iload_n hC 3 dL_law_653 rfl rfl ?_
      refine q_iconst hC 4 dL_law_654 rfl ?_
      refine q_iadd hC dL_law_655 ?_
      refine q_xld hC hX hbl hbA v4 dL_law_656 ?_
      refine q_aload_n hC 0 dL_law_657 rfl rfl ?_
      refine q_iload_n hC 3 dL_law_658 rfl rfl ?_
      refine q_iconst hC 5 dL_law_659 rfl ?_
      refine q_iadd hC dL_law_660 ?_
      refine q_xld hC hX hbl hbA v5 dL_law_661 ?_
      refine q_ki (q_rV (As := [.int (xs (nI i + 1).toNatClampNeg), .int (xs (nI i + 2).toNatClampNeg), .int (xs (nI i + 3).toNatClampNeg), .int (xs (nI i + 4).toNatClampNeg), .int (xs (nI i + 5).toNatClampNeg)]) (rest := [.int r1.1]) hC mm_X11_note wM_L_97 (c_X11_note q2) ⟨rfl, rfl, Nat.le_of_ble_eq_true rfl, Nat.le_of_ble_eq_true rfl⟩ (gV_t (by decide) (by decide)) rfl rfl rfl rfl (Nat.le_of_ble_eq_true rfl) dL_law_662) ?_
      exact q_ic_eq hC 971 dL_law_665 rfl (fun _ => go _ hI) (fun hn => absurd ee hn)
    by_cases hk20 : (xs (nI i).toNatClampNeg &&& 63) = 20
    · refine q_tin hC 20 670 hk20 dL_law_33 (by decide) (by decide) rfl rfl ?_
      obtain ⟨r1, r2, q1, q2, ee, hI⟩ := st_forget h 
      refine q_aload_n hC 1 dL_law_670 rfl rfl ?_
      refine q_ki (q_rV (As := []) (rest := []) hC mm_X10_forget wM_L_98 (c_X10_forget q1) ⟨rfl, rfl, Nat.le_of_ble_eq_true rfl, Nat.le_of_ble_eq_true rfl⟩ (gV_t (by decide) (by decide)) rfl rfl rfl rfl (Nat.le_of_ble_eq_true rfl) dL_law_671) ?_
      refine q_aload_n hC 2 dL_law_674 rfl rfl ?_
      refine q_ki (q_rV (As := []) (rest := [.int r1.1]) hC mm_X11_forget wM_L_101 (c_X11_forget q2) ⟨rfl, rfl, Nat.le_of_ble_eq_true rfl, Nat.le_of_ble_eq_true rfl⟩ (gV_t (by decide) (by decide)) rfl rfl rfl rfl (Nat.le_of_ble_eq_true rfl) dL_law_675) ?_
      exact q_ic_eq hC 971 dL_law_678 rfl (fun _ => go _ hI) (fun hn => absurd ee hn)
    by_cases hk21 : (xs (nI i).toNatClampNeg &&& 63) = 21
    · refine q_tin hC 21 683 hk21 dL_law_33 (by decide) (by decide) rfl rfl ?_
      obtain ⟨r1, r2, q1, q2, ee, hI⟩ := st_wants h (xs (nI i + 1).toNatClampNeg)
      refine q_aload_n hC 1 dL_law_683 rfl rfl ?_
      refine q_aload_n hC 0 dL_law_684 rfl rfl ?_
      refine q_iload_n hC 3 dL_law_685 rfl rfl ?_
      refine q_iconst hC 1 dL_law_686 rfl ?_
      refine q_iadd hC dL_law_687 ?_
      refine q_xld hC hX hbl hbA v1 dL_law_688 ?_
      refine q_ki (q_rV (As := [.int (xs (nI i + 1).toNatClampNeg)]) (rest := []) hC mm_X10_wants wM_L_102 (c_X10_wants q1) ⟨rfl, rfl, Nat.le_of_ble_eq_true rfl, Nat.le_of_ble_eq_true rfl⟩ (gV_t (by decide) (by decide)) rfl rfl rfl rfl (Nat.le_of_ble_eq_true rfl) dL_law_689) ?_
      refine q_aload_n hC 2 dL_law_692 rfl rfl ?_
      refine q_aload_n hC 0 dL_law_693 rfl rfl ?_
      refine q_iload_n hC 3 dL_law_694 rfl rfl ?_
      refine q_iconst hC 1 dL_law_695 rfl ?_
      refine q_iadd hC dL_law_696 ?_
      refine q_xld hC hX hbl hbA v1 dL_law_697 ?_
      refine q_ki (q_rV (As := [.int (xs (nI i + 1).toNatClampNeg)]) (rest := [.int r1.1]) hC mm_X11_wants wM_L_105 (c_X11_wants q2) ⟨rfl, rfl, Nat.le_of_ble_eq_true rfl, Nat.le_of_ble_eq_true rfl⟩ (gV_t (by decide) (by decide)) rfl rfl rfl rfl (Nat.le_of_ble_eq_true rfl) dL_law_698) ?_
      exact q_ic_eq hC 971 dL_law_701 rfl (fun _ => go _ hI) (fun hn => absurd ee hn)
    by_cases hk22 : (xs (nI i).toNatClampNeg &&& 63) = 22
    · refine q_tin hC 22 706 hk22 dL_law_33 (by decide) (by decide) rfl rfl ?_
      obtain ⟨r1, r2, q1, q2, ee, hI⟩ := st_is h (xs (nI i + 1).toNatClampNeg)
      refine q_aload_n hC 1 dL_law_706 rfl rfl ?_
      refine q_aload_n hC 0 dL_law_707 rfl rfl ?_
      refine q_iload_n hC 3 dL_law_708 rfl rfl ?_
      refine q_iconst hC 1 dL_law_709 rfl ?_
      refine q_iadd hC dL_law_710 ?_
      refine q_xld hC hX hbl hbA v1 dL_law_711 ?_
      refine q_ki (q_rV (As := [.int (xs (nI i + 1).toNatClampNeg)]) (rest := []) hC mm_X10_is wM_L_106 (c_X10_is q1) ⟨rfl, rfl, Nat.le_of_ble_eq_true rfl, Nat.le_of_ble_eq_true rfl⟩ (gV_t (by decide) (by decide)) rfl rfl rfl rfl (Nat.le_of_ble_eq_true rfl) dL_law_712) ?_
      refine q_aload_n hC 2 dL_law_715 rfl rfl ?_
      refine q_aload_n hC 0 dL_law_716 rfl rfl ?_
      refine q_iload_n hC 3 dL_law_717 rfl rfl ?_
      refine q_iconst hC 1 dL_law_718 rfl ?_
      refine q_iadd hC dL_law_719 ?_
      refine q_xld hC hX hbl hbA v1 dL_law_720 ?_
      refine q_ki (q_rV (As := [.int (xs (nI i + 1).toNatClampNeg)]) (rest := [.int r1.1]) hC mm_X11_is wM_L_109 (c_X11_is q2) ⟨rfl, rfl, Nat.le_of_ble_eq_true rfl, Nat.le_of_ble_eq_true rfl⟩ (gV_t (by decide) (by decide)) rfl rfl rfl rfl (Nat.le_of_ble_eq_true rfl) dL_law_721) ?_
      exact q_ic_eq hC 971 dL_law_724 rfl (fun _ => go _ hI) (fun hn => absurd ee hn)
    by_cases hk23 : (xs (nI i).toNatClampNeg &&& 63) = 23
    · refine q_tin hC 23 729 hk23 dL_law_33 (by decide) (by decide) rfl rfl ?_
      obtain ⟨r1, r2, q1, q2, ee, hI⟩ := st_next h (xs (nI i + 1).toNatClampNeg)
      refine q_aload_n hC 1 dL_law_729 rfl rfl ?_
      refine q_aload_n hC 0 dL_law_730 rfl rfl ?_
      refine q_iload_n hC 3 dL_law_731 rfl rfl ?_
      refine q_iconst hC 1 dL_law_732 rfl ?_
      refine q_iadd hC dL_law_733 ?_
      refine q_xld hC hX hbl hbA v1 dL_law_734 ?_
      refine q_ki (q_rV (As := [.int (xs (nI i + 1).toNatClampNeg)]) (rest := []) hC mm_X10_next wM_L_110 (c_X10_next q1) ⟨rfl, rfl, Nat.le_of_ble_eq_true rfl, Nat.le_of_ble_eq_true rfl⟩ (gV_t (by decide) (by decide)) rfl rfl rfl rfl (Nat.le_of_ble_eq_true rfl) dL_law_735) ?_
      refine q_aload_n hC 2 dL_law_738 rfl rfl ?_
      refine q_aload_n hC 0 dL_law_739 rfl rfl ?_
      refine q_iload_n hC 3 dL_law_740 rfl rfl ?_
      refine q_iconst hC 1 dL_law_741 rfl ?_
      refine q_iadd hC dL_law_742 ?_
      refine q_xld hC hX hbl hbA v1 dL_law_743 ?_
      refine q_ki (q_rV (As := [.int (xs (nI i + 1).toNatClampNeg)]) (rest := [.int r1.1]) hC mm_X11_next wM_L_113 (c_X11_next q2) ⟨rfl, rfl, Nat.le_of_ble_eq_true rfl, Nat.le_of_ble_eq_true rfl⟩ (gV_t (by decide) (by decide)) rfl rfl rfl rfl (Nat.le_of_ble_eq_true rfl) dL_law_744) ?_
      exact q_ic_eq hC 971 dL_law_747 rfl (fun _ => go _ hI) (fun hn => absurd ee hn)
    by_cases hk24 : (xs (nI i).toNatClampNeg &&& 63) = 24
    · refine q_tin hC 24 752 hk24 dL_law_33 (by decide) (by decide) rfl rfl ?_
      obtain ⟨r1, r2, q1, q2, ee, hI⟩ := st_tips h (xs (nI i + 1).toNatClampNeg) (xs (nI i + 2).toNatClampNeg)
      refine q_aload_n hC 1 dL_law_752 rfl rfl ?_
      refine q_aload_n hC 0 dL_law_753 rfl rfl ?_
      refine q_iload_n hC 3 dL_law_754 rfl rfl ?_
      refine q_iconst hC 1 dL_law_755 rfl ?_
      refine q_iadd hC dL_law_756 ?_
      refine q_xld hC hX hbl hbA v1 dL_law_757 ?_
      refine q_aload_n hC 0 dL_law_758 rfl rfl ?_
      refine q_iload_n hC 3 dL_law_759 rfl rfl ?_
      refine q_iconst hC 2 dL_law_760 rfl ?_
      refine q_iadd hC dL_law_761 ?_
      refine q_xld hC hX hbl hbA v2 dL_law_762 ?_
      refine q_ki (q_rV (As := [.int (xs (nI i + 1).toNatClampNeg), .int (xs (nI i + 2).toNatClampNeg)]) (rest := []) hC mm_X10_tips wM_L_114 (c_X10_tips q1) ⟨rfl, rfl, Nat.le_of_ble_eq_true rfl, Nat.le_of_ble_eq_true rfl⟩ (gV_t (by decide) (by decide)) rfl rfl rfl rfl (Nat.le_of_ble_eq_true rfl) dL_law_763) ?_
      refine q_aload_n hC 2 dL_law_766 rfl rfl ?_
      refine q_aload_n hC 0 dL_law_767 rfl rfl ?_
      refine q_iload_n hC 3 dL_law_768 rfl rfl ?_
      refine q_iconst hC 1 dL_law_769 rfl ?_
      refine q_iadd hC dL_law_770 ?_
      refine q_xld hC hX hbl hbA v1 dL_law_771 ?_
      refine q_aload_n hC 0 dL_law_772 rfl rfl ?_
      refine q_iload_n hC 3 dL_law_773 rfl rfl ?_
      refine q_iconst hC 2 dL_law_774 rfl ?_
      refine q_iadd hC dL_law_775 ?_
      refine q_xld hC hX hbl hbA v2 dL_law_776 ?_
      refine q_ki (q_rV (As := [.int (xs (nI i + 1).toNatClampNeg), .int (xs (nI i + 2).toNatClampNeg)]) (rest := [.int r1.1]) hC mm_X11_tips wM_L_117 (c_X11_tips q2) ⟨rfl, rfl, Nat.le_of_ble_eq_true rfl, Nat.le_of_ble_eq_true rfl⟩ (gV_t (by decide) (by decide)) rfl rfl rfl rfl (Nat.le_of_ble_eq_true rfl) dL_law_777) ?_
      exact q_ic_eq hC 971 dL_law_780 rfl (fun _ => go _ hI) (fun hn => absurd ee hn)
    by_cases hk25 : (xs (nI i).toNatClampNeg &&& 63) = 25
    · refine q_tin hC 25 785 hk25 dL_law_33 (by decide) (by decide) rfl rfl ?_
      obtain ⟨r1, r2, q1, q2, ee, hI⟩ := st_moods h (xs (nI i + 1).toNatClampNeg)
      refine q_aload_n hC 1 dL_law_785 rfl rfl ?_
      refine q_aload_n hC 0 dL_law_786 rfl rfl ?_
      refine q_iload_n hC 3 dL_law_787 rfl rfl ?_
      refine q_iconst hC 1 dL_law_788 rfl ?_
      refine q_iadd hC dL_law_789 ?_
      refine q_xld hC hX hbl hbA v1 dL_law_790 ?_
      refine q_ki (q_rV (As := [.int (xs (nI i + 1).toNatClampNeg)]) (rest := []) hC mm_X10_moods wM_L_118 (c_X10_moods q1) ⟨rfl, rfl, Nat.le_of_ble_eq_true rfl, Nat.le_of_ble_eq_true rfl⟩ (gV_t (by decide) (by decide)) rfl rfl rfl rfl (Nat.le_of_ble_eq_true rfl) dL_law_791) ?_
      refine q_aload_n hC 2 dL_law_794 rfl rfl ?_
      refine q_aload_n hC 0 dL_law_795 rfl rfl ?_
      refine q_iload_n hC 3 dL_law_796 rfl rfl ?_
      refine q_iconst hC 1 dL_law_797 rfl ?_
      refine q_iadd hC dL_law_798 ?_
      refine q_xld hC hX hbl hbA v1 dL_law_799 ?_
      refine q_ki (q_rV (As := [.int (xs (nI i + 1).toNatClampNeg)]) (rest := [.int r1.1]) hC mm_X11_moods wM_L_121 (c_X11_moods q2) ⟨rfl, rfl, Nat.le_of_ble_eq_true rfl, Nat.le_of_ble_eq_true rfl⟩ (gV_t (by decide) (by decide)) rfl rfl rfl rfl (Nat.le_of_ble_eq_true rfl) dL_law_800) ?_
      exact q_ic_eq hC 971 dL_law_803 rfl (fun _ => go _ hI) (fun hn => absurd ee hn)
    by_cases hk26 : (xs (nI i).toNatClampNeg &&& 63) = 26
    · refine q_tin hC 26 808 hk26 dL_law_33 (by decide) (by decide) rfl rfl ?_
      obtain ⟨r1, r2, q1, q2, ee, hI⟩ := st_hours h (xs (nI i + 1).toNatClampNeg) (xs (nI i + 2).toNatClampNeg)
      refine q_aload_n hC 1 dL_law_808 rfl rfl ?_
      refine q_aload_n hC 0 dL_law_809 rfl rfl ?_
      refine q_iload_n hC 3 dL_law_810 rfl rfl ?_
      refine q_iconst hC 1 dL_law_811 rfl ?_
      refine q_iadd hC dL_law_812 ?_
      refine q_xld hC hX hbl hbA v1 dL_law_813 ?_
      refine q_aload_n hC 0 dL_law_814 rfl rfl ?_
      refine q_iload_n hC 3 dL_law_815 rfl rfl ?_
      refine q_iconst hC 2 dL_law_816 rfl ?_
      refine q_iadd hC dL_law_817 ?_
      refine q_xld hC hX hbl hbA v2 dL_law_818 ?_
      refine q_ki (q_rV (As := [.int (xs (nI i + 1).toNatClampNeg), .int (xs (nI i + 2).toNatClampNeg)]) (rest := []) hC mm_X10_hours wM_L_122 (c_X10_hours q1) ⟨rfl, rfl, Nat.le_of_ble_eq_true rfl, Nat.le_of_ble_eq_true rfl⟩ (gV_t (by decide) (by decide)) rfl rfl rfl rfl (Nat.le_of_ble_eq_true rfl) dL_law_819) ?_
      refine q_aload_n hC 2 dL_law_822 rfl rfl ?_
      refine q_aload_n hC 0 dL_law_823 rfl rfl ?_
      refine q_iload_n hC 3 dL_law_824 rfl rfl ?_
      refine q_iconst hC 1 dL_law_825 rfl ?_
      refine q_iadd hC dL_law_826 ?_
      refine q_xld hC hX hbl hbA v1 dL_law_827 ?_
      refine q_aload_n hC 0 dL_law_828 rfl rfl ?_
      refine q_iload_n hC 3 dL_law_829 rfl rfl ?_
      refine q_iconst hC 2 dL_law_830 rfl ?_
      refine q_iadd hC dL_law_831 ?_
      refine q_xld hC hX hbl hbA v2 dL_law_832 ?_
      refine q_ki (q_rV (As := [.int (xs (nI i + 1).toNatClampNeg), .int (xs (nI i + 2).toNatClampNeg)]) (rest := [.int r1.1]) hC mm_X11_hours wM_L_125 (c_X11_hours q2) ⟨rfl, rfl, Nat.le_of_ble_eq_true rfl, Nat.le_of_ble_eq_true rfl⟩ (gV_t (by decide) (by decide)) rfl rfl rfl rfl (Nat.le_of_ble_eq_true rfl) dL_law_833) ?_
      exact q_ic_eq hC 971 dL_law_836 rfl (fun _ => go _ hI) (fun hn => absurd ee hn)
    by_cases hk27 : (xs (nI i).toNatClampNeg &&& 63) = 27
    · refine q_tin hC 27 841 hk27 dL_law_33 (by decide) (by decide) rfl rfl ?_
      obtain ⟨r1, r2, q1, q2, ee, hI⟩ := st_part h (xs (nI i + 1).toNatClampNeg)
      refine q_aload_n hC 1 dL_law_841 rfl rfl ?_
      refine q_aload_n hC 0 dL_law_842 rfl rfl ?_
      refine q_iload_n hC 3 dL_law_843 rfl rfl ?_
      refine q_iconst hC 1 dL_law_844 rfl ?_
      refine q_iadd hC dL_law_845 ?_
      refine q_xld hC hX hbl hbA v1 dL_law_846 ?_
      refine q_kl (q_rV (As := [.int (xs (nI i + 1).toNatClampNeg)]) (rest := []) hC mm_X10_part wM_L_126 (c_X10_part q1) ⟨rfl, rfl, Nat.le_of_ble_eq_true rfl, Nat.le_of_ble_eq_true rfl⟩ (gV_t (by decide) (by decide)) rfl rfl rfl rfl (Nat.le_of_ble_eq_true rfl) dL_law_847) ?_
      refine q_aload_n hC 2 dL_law_850 rfl rfl ?_
      refine q_aload_n hC 0 dL_law_851 rfl rfl ?_
      refine q_iload_n hC 3 dL_law_852 rfl rfl ?_
      refine q_iconst hC 1 dL_law_853 rfl ?_
      refine q_iadd hC dL_law_854 ?_
      refine q_xld hC hX hbl hbA v1 dL_law_855 ?_
      refine q_kl (q_rV (As := [.int (xs (nI i + 1).toNatClampNeg)]) (rest := [.long r1.1]) hC mm_X11_part wM_L_130 (c_X11_part q2) ⟨rfl, rfl, Nat.le_of_ble_eq_true rfl, Nat.le_of_ble_eq_true rfl⟩ (gV_t (by decide) (by decide)) rfl rfl rfl rfl (Nat.le_of_ble_eq_true rfl) dL_law_856) ?_
      refine q_lcmp hC dL_law_859 ?_
      exact q_if_eq hC 971 dL_law_860 rfl (fun _ => go _ hI) (fun hn => absurd (by rw [ee]; exact lg_cmp_self _) hn)
    by_cases hk28 : (xs (nI i).toNatClampNeg &&& 63) = 28
    · refine q_tin hC 28 865 hk28 dL_law_33 (by decide) (by decide) rfl rfl ?_
      obtain ⟨r1, r2, q1, q2, ee, hI⟩ := st_image h (xs (nI i + 1).toNatClampNeg)
      refine q_aload_n hC 1 dL_law_865 rfl rfl ?_
      refine q_aload_n hC 0 dL_law_866 rfl rfl ?_
      refine q_iload_n hC 3 dL_law_867 rfl rfl ?_
      refine q_iconst hC 1 dL_law_868 rfl ?_
      refine q_iadd hC dL_law_869 ?_
      refine q_xld hC hX hbl hbA v1 dL_law_870 ?_
      refine q_ki (q_rV (As := [.int (xs (nI i + 1).toNatClampNeg)]) (rest := []) hC mm_X10_image wM_L_131 (c_X10_image q1) ⟨rfl, rfl, Nat.le_of_ble_eq_true rfl, Nat.le_of_ble_eq_true rfl⟩ (gV_t (by decide) (by decide)) rfl rfl rfl rfl (Nat.le_of_ble_eq_true rfl) dL_law_871) ?_
      refine q_aload_n hC 2 dL_law_874 rfl rfl ?_
      refine q_aload_n hC 0 dL_law_875 rfl rfl ?_
      refine q_iload_n hC 3 dL_law_876 rfl rfl ?_
      refine q_iconst hC 1 dL_law_877 rfl ?_
      refine q_iadd hC dL_law_878 ?_
      refine q_xld hC hX hbl hbA v1 dL_law_879 ?_
      refine q_ki (q_rV (As := [.int (xs (nI i + 1).toNatClampNeg)]) (rest := [.int r1.1]) hC mm_X11_image wM_L_134 (c_X11_image q2) ⟨rfl, rfl, Nat.le_of_ble_eq_true rfl, Nat.le_of_ble_eq_true rfl⟩ (gV_t (by decide) (by decide)) rfl rfl rfl rfl (Nat.le_of_ble_eq_true rfl) dL_law_880) ?_
      exact q_ic_eq hC 971 dL_law_883 rfl (fun _ => go _ hI) (fun hn => absurd ee hn)
    by_cases hk29 : (xs (nI i).toNatClampNeg &&& 63) = 29
    · refine q_tin hC 29 888 hk29 dL_law_33 (by decide) (by decide) rfl rfl ?_
      obtain ⟨r1, r2, q1, q2, ee, hI⟩ := st_from h (xs (nI i + 1).toNatClampNeg)
      refine q_aload_n hC 1 dL_law_888 rfl rfl ?_
      refine q_aload_n hC 0 dL_law_889 rfl rfl ?_
      refine q_iload_n hC 3 dL_law_890 rfl rfl ?_
      refine q_iconst hC 1 dL_law_891 rfl ?_
      refine q_iadd hC dL_law_892 ?_
      refine q_xld hC hX hbl hbA v1 dL_law_893 ?_
      refine q_ki (q_rV (As := [.int (xs (nI i + 1).toNatClampNeg)]) (rest := []) hC mm_X10_from wM_L_135 (c_X10_from q1) ⟨rfl, rfl, Nat.le_of_ble_eq_true rfl, Nat.le_of_ble_eq_true rfl⟩ (gV_t (by decide) (by decide)) rfl rfl rfl rfl (Nat.le_of_ble_eq_true rfl) dL_law_894) ?_
      refine q_aload_n hC 2 dL_law_897 rfl rfl ?_
      refine q_aload_n hC 0 dL_law_898 rfl rfl ?_
      refine q_iload_n hC 3 dL_law_899 rfl rfl ?_
      refine q_iconst hC 1 dL_law_900 rfl ?_
      refine q_iadd hC dL_law_901 ?_
      refine q_xld hC hX hbl hbA v1 dL_law_902 ?_
      refine q_ki (q_rV (As := [.int (xs (nI i + 1).toNatClampNeg)]) (rest := [.int r1.1]) hC mm_X11_from wM_L_138 (c_X11_from q2) ⟨rfl, rfl, Nat.le_of_ble_eq_true rfl, Nat.le_of_ble_eq_true rfl⟩ (gV_t (by decide) (by decide)) rfl rfl rfl rfl (Nat.le_of_ble_eq_true rfl) dL_law_903) ?_
      exact q_ic_eq hC 971 dL_law_906 rfl (fun _ => go _ hI) (fun hn => absurd ee hn)
    by_cases hk30 : (xs (nI i).toNatClampNeg &&& 63) = 30
    · refine q_tin hC 30 911 hk30 dL_law_33 (by decide) (by decide) rfl rfl ?_
      obtain ⟨r1, r2, q1, q2, ee, hI⟩ := st_status h (xs (nI i + 1).toNatClampNeg)
      refine q_aload_n hC 1 dL_law_911 rfl rfl ?_
      refine q_aload_n hC 0 dL_law_912 rfl rfl ?_
      refine q_iload_n hC 3 dL_law_913 rfl rfl ?_
      refine q_iconst hC 1 dL_law_914 rfl ?_
      refine q_iadd hC dL_law_915 ?_
      refine q_xld hC hX hbl hbA v1 dL_law_916 ?_
      refine q_ki (q_rV (As := [.int (xs (nI i + 1).toNatClampNeg)]) (rest := []) hC mm_X10_status wM_L_139 (c_X10_status q1) ⟨rfl, rfl, Nat.le_of_ble_eq_true rfl, Nat.le_of_ble_eq_true rfl⟩ (gV_t (by decide) (by decide)) rfl rfl rfl rfl (Nat.le_of_ble_eq_true rfl) dL_law_917) ?_
      refine q_aload_n hC 2 dL_law_920 rfl rfl ?_
      refine q_aload_n hC 0 dL_law_921 rfl rfl ?_
      refine q_iload_n hC 3 dL_law_922 rfl rfl ?_
      refine q_iconst hC 1 dL_law_923 rfl ?_
      refine q_iadd hC dL_law_924 ?_
      refine q_xld hC hX hbl hbA v1 dL_law_925 ?_
      refine q_ki (q_rV (As := [.int (xs (nI i + 1).toNatClampNeg)]) (rest := [.int r1.1]) hC mm_X11_status wM_L_142 (c_X11_status q2) ⟨rfl, rfl, Nat.le_of_ble_eq_true rfl, Nat.le_of_ble_eq_true rfl⟩ (gV_t (by decide) (by decide)) rfl rfl rfl rfl (Nat.le_of_ble_eq_true rfl) dL_law_926) ?_
      exact q_ic_eq hC 971 dL_law_929 rfl (fun _ => go _ hI) (fun hn => absurd ee hn)
    by_cases hk31 : (xs (nI i).toNatClampNeg &&& 63) = 31
    · refine q_tin hC 31 934 hk31 dL_law_33 (by decide) (by decide) rfl rfl ?_
      obtain ⟨r1, r2, q1, q2, ee, hI⟩ := st_count h (xs (nI i + 1).toNatClampNeg)
      refine q_aload_n hC 1 dL_law_934 rfl rfl ?_
      refine q_aload_n hC 0 dL_law_935 rfl rfl ?_
      refine q_iload_n hC 3 dL_law_936 rfl rfl ?_
      refine q_iconst hC 1 dL_law_937 rfl ?_
      refine q_iadd hC dL_law_938 ?_
      refine q_xld hC hX hbl hbA v1 dL_law_939 ?_
      refine q_ki (q_rV (As := [.int (xs (nI i + 1).toNatClampNeg)]) (rest := []) hC mm_X10_count wM_L_143 (c_X10_count q1) ⟨rfl, rfl, Nat.le_of_ble_eq_true rfl, Nat.le_of_ble_eq_true rfl⟩ (gV_t (by decide) (by decide)) rfl rfl rfl rfl (Nat.le_of_ble_eq_true rfl) dL_law_940) ?_
      refine q_aload_n hC 2 dL_law_943 rfl rfl ?_
      refine q_aload_n hC 0 dL_law_944 rfl rfl ?_
      refine q_iload_n hC 3 dL_law_945 rfl rfl ?_
      refine q_iconst hC 1 dL_law_946 rfl ?_
      refine q_iadd hC dL_law_947 ?_
      refine q_xld hC hX hbl hbA v1 dL_law_948 ?_
      refine q_ki (q_rV (As := [.int (xs (nI i + 1).toNatClampNeg)]) (rest := [.int r1.1]) hC mm_X11_count wM_L_146 (c_X11_count q2) ⟨rfl, rfl, Nat.le_of_ble_eq_true rfl, Nat.le_of_ble_eq_true rfl⟩ (gV_t (by decide) (by decide)) rfl rfl rfl rfl (Nat.le_of_ble_eq_true rfl) dL_law_949) ?_
      exact q_ic_eq hC 971 dL_law_952 rfl (fun _ => go _ hI) (fun hn => absurd ee hn)
    by_cases hk32 : (xs (nI i).toNatClampNeg &&& 63) = 32
    · refine q_tin hC 32 957 hk32 dL_law_33 (by decide) (by decide) rfl rfl ?_
      obtain ⟨r1, r2, q1, q2, ee, hI⟩ := st_digest h 
      refine q_aload_n hC 1 dL_law_957 rfl rfl ?_
      refine q_klp (q_rV (As := []) (rest := []) hC mm_X10_digest wM_L_147 (c_X10_digest q1) ⟨rfl, rfl, Nat.le_of_ble_eq_true rfl, Nat.le_of_ble_eq_true rfl⟩ (gV_t (by decide) (by decide)) rfl rfl rfl rfl (Nat.le_of_ble_eq_true rfl) dL_law_958) ?_
      refine q_aload_n hC 2 dL_law_961 rfl rfl ?_
      refine q_klp (q_rV (As := []) (rest := [.long r1]) hC mm_X11_digest wM_L_151 (c_X11_digest q2) ⟨rfl, rfl, Nat.le_of_ble_eq_true rfl, Nat.le_of_ble_eq_true rfl⟩ (gV_t (by decide) (by decide)) rfl rfl rfl rfl (Nat.le_of_ble_eq_true rfl) dL_law_962) ?_
      refine q_lcmp hC dL_law_965 ?_
      exact q_if_eq hC 971 dL_law_966 rfl (fun _ => go _ hI) (fun hn => absurd (by rw [ee]; exact lg_cmp_self _) hn)
    have thk0 := lv_neT (a := 0) hk0 (by decide)
    have thk1 := lv_neT (a := 1) hk1 (by decide)
    have thk2 := lv_neT (a := 2) hk2 (by decide)
    have thk3 := lv_neT (a := 3) hk3 (by decide)
    have thk4 := lv_neT (a := 4) hk4 (by decide)
    have thk5 := lv_neT (a := 5) hk5 (by decide)
    have thk6 := lv_neT (a := 6) hk6 (by decide)
    have thk7 := lv_neT (a := 7) hk7 (by decide)
    have thk8 := lv_neT (a := 8) hk8 (by decide)
    have thk9 := lv_neT (a := 9) hk9 (by decide)
    have thk10 := lv_neT (a := 10) hk10 (by decide)
    have thk11 := lv_neT (a := 11) hk11 (by decide)
    have thk12 := lv_neT (a := 12) hk12 (by decide)
    have thk13 := lv_neT (a := 13) hk13 (by decide)
    have thk14 := lv_neT (a := 14) hk14 (by decide)
    have thk15 := lv_neT (a := 15) hk15 (by decide)
    have thk16 := lv_neT (a := 16) hk16 (by decide)
    have thk17 := lv_neT (a := 17) hk17 (by decide)
    have thk18 := lv_neT (a := 18) hk18 (by decide)
    have thk19 := lv_neT (a := 19) hk19 (by decide)
    have thk20 := lv_neT (a := 20) hk20 (by decide)
    have thk21 := lv_neT (a := 21) hk21 (by decide)
    have thk22 := lv_neT (a := 22) hk22 (by decide)
    have thk23 := lv_neT (a := 23) hk23 (by decide)
    have thk24 := lv_neT (a := 24) hk24 (by decide)
    have thk25 := lv_neT (a := 25) hk25 (by decide)
    have thk26 := lv_neT (a := 26) hk26 (by decide)
    have thk27 := lv_neT (a := 27) hk27 (by decide)
    have thk28 := lv_neT (a := 28) hk28 (by decide)
    have thk29 := lv_neT (a := 29) hk29 (by decide)
    have thk30 := lv_neT (a := 30) hk30 (by decide)
    have thk31 := lv_neT (a := 31) hk31 (by decide)
    have thk32 := lv_neT (a := 32) hk32 (by decide)
    refine q_tout hC 971 (by omega) dL_law_33 rfl ?_
    exact go _ h
