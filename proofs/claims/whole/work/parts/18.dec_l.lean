theorem dL_law_0 : decode (m_code mL_law) 0 = .ok (.new 7, 3) := by decide +kernel
theorem dL_law_3 : decode (m_code mL_law) 3 = .ok (.dup, 1) := by decide +kernel
theorem dL_law_4 : decode (m_code mL_law) 4 = .ok (.invokespecial 9, 3) := by decide +kernel
theorem dL_law_7 : decode (m_code mL_law) 7 = .ok (.astore_n 1, 1) := by decide +kernel
theorem dL_law_8 : decode (m_code mL_law) 8 = .ok (.new 10, 3) := by decide +kernel
theorem dL_law_11 : decode (m_code mL_law) 11 = .ok (.dup, 1) := by decide +kernel
theorem dL_law_12 : decode (m_code mL_law) 12 = .ok (.invokespecial 12, 3) := by decide +kernel
theorem dL_law_15 : decode (m_code mL_law) 15 = .ok (.astore_n 2, 1) := by decide +kernel
theorem dL_law_16 : decode (m_code mL_law) 16 = .ok (.iconst 0, 1) := by decide +kernel
theorem dL_law_17 : decode (m_code mL_law) 17 = .ok (.istore_n 3, 1) := by decide +kernel
theorem dL_law_18 : decode (m_code mL_law) 18 = .ok (.iload_n 3, 1) := by decide +kernel
theorem dL_law_19 : decode (m_code mL_law) 19 = .ok (.aload_n 0, 1) := by decide +kernel
theorem dL_law_20 : decode (m_code mL_law) 20 = .ok (.arraylength, 1) := by decide +kernel
theorem dL_law_21 : decode (m_code mL_law) 21 = .ok (.bipush 6, 2) := by decide +kernel
theorem dL_law_23 : decode (m_code mL_law) 23 = .ok (.isub, 1) := by decide +kernel
theorem dL_law_24 : decode (m_code mL_law) 24 = .ok (.if_icmp .gt 1539, 3) := by decide +kernel
theorem dL_law_27 : decode (m_code mL_law) 27 = .ok (.aload_n 0, 1) := by decide +kernel
theorem dL_law_28 : decode (m_code mL_law) 28 = .ok (.iload_n 3, 1) := by decide +kernel
theorem dL_law_29 : decode (m_code mL_law) 29 = .ok (.iaload, 1) := by decide +kernel
theorem dL_law_30 : decode (m_code mL_law) 30 = .ok (.bipush 63, 2) := by decide +kernel
theorem dL_law_32 : decode (m_code mL_law) 32 = .ok (.iand, 1) := by decide +kernel
theorem dL_law_33 : decode (m_code mL_law) 33 = .ok (.tableswitch 1524 0 42 #[187, 210, 243, 276, 299, 362, 385, 408, 431, 454, 513, 536, 569, 592, 625, 658, 681, 704, 767, 790, 803, 826, 849, 882, 915, 948, 981, 1014, 1047, 1080, 1113, 1172, 1195, 1218, 1251, 1284, 1317, 1340, 1353, 1396, 1429, 1462, 1501], 187) := by decide +kernel
theorem dL_law_220 : decode (m_code mL_law) 220 = .ok (.aload_n 1, 1) := by decide +kernel
theorem dL_law_221 : decode (m_code mL_law) 221 = .ok (.aload_n 0, 1) := by decide +kernel
theorem dL_law_222 : decode (m_code mL_law) 222 = .ok (.iload_n 3, 1) := by decide +kernel
theorem dL_law_223 : decode (m_code mL_law) 223 = .ok (.iconst 1, 1) := by decide +kernel
theorem dL_law_224 : decode (m_code mL_law) 224 = .ok (.iadd, 1) := by decide +kernel
theorem dL_law_225 : decode (m_code mL_law) 225 = .ok (.iaload, 1) := by decide +kernel
theorem dL_law_226 : decode (m_code mL_law) 226 = .ok (.invokevirtual 13, 3) := by decide +kernel
theorem dL_law_229 : decode (m_code mL_law) 229 = .ok (.aload_n 2, 1) := by decide +kernel
theorem dL_law_230 : decode (m_code mL_law) 230 = .ok (.aload_n 0, 1) := by decide +kernel
theorem dL_law_231 : decode (m_code mL_law) 231 = .ok (.iload_n 3, 1) := by decide +kernel
theorem dL_law_232 : decode (m_code mL_law) 232 = .ok (.iconst 1, 1) := by decide +kernel
theorem dL_law_233 : decode (m_code mL_law) 233 = .ok (.iadd, 1) := by decide +kernel
theorem dL_law_234 : decode (m_code mL_law) 234 = .ok (.iaload, 1) := by decide +kernel
theorem dL_law_235 : decode (m_code mL_law) 235 = .ok (.invokevirtual 17, 3) := by decide +kernel
theorem dL_law_238 : decode (m_code mL_law) 238 = .ok (.if_icmp .eq 1319, 3) := by decide +kernel
theorem dL_law_241 : decode (m_code mL_law) 241 = .ok (.iconst 0, 1) := by decide +kernel
theorem dL_law_242 : decode (m_code mL_law) 242 = .ok (.ireturn, 1) := by decide +kernel
theorem dL_law_243 : decode (m_code mL_law) 243 = .ok (.aload_n 1, 1) := by decide +kernel
theorem dL_law_244 : decode (m_code mL_law) 244 = .ok (.aload_n 0, 1) := by decide +kernel
theorem dL_law_245 : decode (m_code mL_law) 245 = .ok (.iload_n 3, 1) := by decide +kernel
theorem dL_law_246 : decode (m_code mL_law) 246 = .ok (.iconst 1, 1) := by decide +kernel
theorem dL_law_247 : decode (m_code mL_law) 247 = .ok (.iadd, 1) := by decide +kernel
theorem dL_law_248 : decode (m_code mL_law) 248 = .ok (.iaload, 1) := by decide +kernel
theorem dL_law_249 : decode (m_code mL_law) 249 = .ok (.aload_n 0, 1) := by decide +kernel
theorem dL_law_250 : decode (m_code mL_law) 250 = .ok (.iload_n 3, 1) := by decide +kernel
theorem dL_law_251 : decode (m_code mL_law) 251 = .ok (.iconst 2, 1) := by decide +kernel
theorem dL_law_252 : decode (m_code mL_law) 252 = .ok (.iadd, 1) := by decide +kernel
theorem dL_law_253 : decode (m_code mL_law) 253 = .ok (.iaload, 1) := by decide +kernel
theorem dL_law_254 : decode (m_code mL_law) 254 = .ok (.invokevirtual 18, 3) := by decide +kernel
theorem dL_law_257 : decode (m_code mL_law) 257 = .ok (.aload_n 2, 1) := by decide +kernel
theorem dL_law_258 : decode (m_code mL_law) 258 = .ok (.aload_n 0, 1) := by decide +kernel
theorem dL_law_259 : decode (m_code mL_law) 259 = .ok (.iload_n 3, 1) := by decide +kernel
theorem dL_law_260 : decode (m_code mL_law) 260 = .ok (.iconst 1, 1) := by decide +kernel
theorem dL_law_261 : decode (m_code mL_law) 261 = .ok (.iadd, 1) := by decide +kernel
theorem dL_law_262 : decode (m_code mL_law) 262 = .ok (.iaload, 1) := by decide +kernel
theorem dL_law_263 : decode (m_code mL_law) 263 = .ok (.aload_n 0, 1) := by decide +kernel
theorem dL_law_264 : decode (m_code mL_law) 264 = .ok (.iload_n 3, 1) := by decide +kernel
theorem dL_law_265 : decode (m_code mL_law) 265 = .ok (.iconst 2, 1) := by decide +kernel
theorem dL_law_266 : decode (m_code mL_law) 266 = .ok (.iadd, 1) := by decide +kernel
theorem dL_law_267 : decode (m_code mL_law) 267 = .ok (.iaload, 1) := by decide +kernel
theorem dL_law_268 : decode (m_code mL_law) 268 = .ok (.invokevirtual 22, 3) := by decide +kernel
theorem dL_law_271 : decode (m_code mL_law) 271 = .ok (.if_icmp .eq 1286, 3) := by decide +kernel
theorem dL_law_274 : decode (m_code mL_law) 274 = .ok (.iconst 0, 1) := by decide +kernel
theorem dL_law_275 : decode (m_code mL_law) 275 = .ok (.ireturn, 1) := by decide +kernel
theorem dL_law_276 : decode (m_code mL_law) 276 = .ok (.aload_n 1, 1) := by decide +kernel
theorem dL_law_277 : decode (m_code mL_law) 277 = .ok (.aload_n 0, 1) := by decide +kernel
theorem dL_law_278 : decode (m_code mL_law) 278 = .ok (.iload_n 3, 1) := by decide +kernel
theorem dL_law_279 : decode (m_code mL_law) 279 = .ok (.iconst 1, 1) := by decide +kernel
theorem dL_law_280 : decode (m_code mL_law) 280 = .ok (.iadd, 1) := by decide +kernel
theorem dL_law_281 : decode (m_code mL_law) 281 = .ok (.iaload, 1) := by decide +kernel
theorem dL_law_282 : decode (m_code mL_law) 282 = .ok (.aload_n 0, 1) := by decide +kernel
theorem dL_law_283 : decode (m_code mL_law) 283 = .ok (.iload_n 3, 1) := by decide +kernel
theorem dL_law_284 : decode (m_code mL_law) 284 = .ok (.iconst 2, 1) := by decide +kernel
theorem dL_law_285 : decode (m_code mL_law) 285 = .ok (.iadd, 1) := by decide +kernel
theorem dL_law_286 : decode (m_code mL_law) 286 = .ok (.iaload, 1) := by decide +kernel
theorem dL_law_287 : decode (m_code mL_law) 287 = .ok (.invokevirtual 23, 3) := by decide +kernel
theorem dL_law_290 : decode (m_code mL_law) 290 = .ok (.aload_n 2, 1) := by decide +kernel
theorem dL_law_291 : decode (m_code mL_law) 291 = .ok (.aload_n 0, 1) := by decide +kernel
theorem dL_law_292 : decode (m_code mL_law) 292 = .ok (.iload_n 3, 1) := by decide +kernel
theorem dL_law_293 : decode (m_code mL_law) 293 = .ok (.iconst 1, 1) := by decide +kernel
theorem dL_law_294 : decode (m_code mL_law) 294 = .ok (.iadd, 1) := by decide +kernel
theorem dL_law_295 : decode (m_code mL_law) 295 = .ok (.iaload, 1) := by decide +kernel
theorem dL_law_296 : decode (m_code mL_law) 296 = .ok (.aload_n 0, 1) := by decide +kernel
theorem dL_law_297 : decode (m_code mL_law) 297 = .ok (.iload_n 3, 1) := by decide +kernel
theorem dL_law_298 : decode (m_code mL_law) 298 = .ok (.iconst 2, 1) := by decide +kernel
theorem dL_law_299 : decode (m_code mL_law) 299 = .ok (.iadd, 1) := by decide +kernel
theorem dL_law_300 : decode (m_code mL_law) 300 = .ok (.iaload, 1) := by decide +kernel
theorem dL_law_301 : decode (m_code mL_law) 301 = .ok (.invokevirtual 27, 3) := by decide +kernel
theorem dL_law_304 : decode (m_code mL_law) 304 = .ok (.if_icmp .eq 1253, 3) := by decide +kernel
theorem dL_law_307 : decode (m_code mL_law) 307 = .ok (.iconst 0, 1) := by decide +kernel
theorem dL_law_308 : decode (m_code mL_law) 308 = .ok (.ireturn, 1) := by decide +kernel
theorem dL_law_309 : decode (m_code mL_law) 309 = .ok (.aload_n 1, 1) := by decide +kernel
theorem dL_law_310 : decode (m_code mL_law) 310 = .ok (.aload_n 0, 1) := by decide +kernel
theorem dL_law_311 : decode (m_code mL_law) 311 = .ok (.iload_n 3, 1) := by decide +kernel
theorem dL_law_312 : decode (m_code mL_law) 312 = .ok (.iconst 1, 1) := by decide +kernel
theorem dL_law_313 : decode (m_code mL_law) 313 = .ok (.iadd, 1) := by decide +kernel
theorem dL_law_314 : decode (m_code mL_law) 314 = .ok (.iaload, 1) := by decide +kernel
theorem dL_law_315 : decode (m_code mL_law) 315 = .ok (.invokevirtual 28, 3) := by decide +kernel
theorem dL_law_318 : decode (m_code mL_law) 318 = .ok (.aload_n 2, 1) := by decide +kernel
theorem dL_law_319 : decode (m_code mL_law) 319 = .ok (.aload_n 0, 1) := by decide +kernel
theorem dL_law_320 : decode (m_code mL_law) 320 = .ok (.iload_n 3, 1) := by decide +kernel
theorem dL_law_321 : decode (m_code mL_law) 321 = .ok (.iconst 1, 1) := by decide +kernel
theorem dL_law_322 : decode (m_code mL_law) 322 = .ok (.iadd, 1) := by decide +kernel
theorem dL_law_323 : decode (m_code mL_law) 323 = .ok (.iaload, 1) := by decide +kernel
theorem dL_law_324 : decode (m_code mL_law) 324 = .ok (.invokevirtual 31, 3) := by decide +kernel
theorem dL_law_327 : decode (m_code mL_law) 327 = .ok (.if_icmp .eq 1230, 3) := by decide +kernel
theorem dL_law_330 : decode (m_code mL_law) 330 = .ok (.iconst 0, 1) := by decide +kernel
theorem dL_law_331 : decode (m_code mL_law) 331 = .ok (.ireturn, 1) := by decide +kernel
theorem dL_law_332 : decode (m_code mL_law) 332 = .ok (.aload_n 1, 1) := by decide +kernel
theorem dL_law_333 : decode (m_code mL_law) 333 = .ok (.aload_n 0, 1) := by decide +kernel
theorem dL_law_334 : decode (m_code mL_law) 334 = .ok (.iload_n 3, 1) := by decide +kernel
theorem dL_law_335 : decode (m_code mL_law) 335 = .ok (.iconst 1, 1) := by decide +kernel
theorem dL_law_336 : decode (m_code mL_law) 336 = .ok (.iadd, 1) := by decide +kernel
theorem dL_law_337 : decode (m_code mL_law) 337 = .ok (.iaload, 1) := by decide +kernel
theorem dL_law_338 : decode (m_code mL_law) 338 = .ok (.aload_n 0, 1) := by decide +kernel
theorem dL_law_339 : decode (m_code mL_law) 339 = .ok (.iload_n 3, 1) := by decide +kernel
theorem dL_law_340 : decode (m_code mL_law) 340 = .ok (.iconst 2, 1) := by decide +kernel
theorem dL_law_341 : decode (m_code mL_law) 341 = .ok (.iadd, 1) := by decide +kernel
theorem dL_law_342 : decode (m_code mL_law) 342 = .ok (.iaload, 1) := by decide +kernel
theorem dL_law_343 : decode (m_code mL_law) 343 = .ok (.aload_n 0, 1) := by decide +kernel
theorem dL_law_344 : decode (m_code mL_law) 344 = .ok (.iload_n 3, 1) := by decide +kernel
theorem dL_law_345 : decode (m_code mL_law) 345 = .ok (.iconst 3, 1) := by decide +kernel
theorem dL_law_346 : decode (m_code mL_law) 346 = .ok (.iadd, 1) := by decide +kernel
theorem dL_law_347 : decode (m_code mL_law) 347 = .ok (.iaload, 1) := by decide +kernel
theorem dL_law_348 : decode (m_code mL_law) 348 = .ok (.aload_n 0, 1) := by decide +kernel
theorem dL_law_349 : decode (m_code mL_law) 349 = .ok (.iload_n 3, 1) := by decide +kernel
theorem dL_law_350 : decode (m_code mL_law) 350 = .ok (.iconst 4, 1) := by decide +kernel
theorem dL_law_351 : decode (m_code mL_law) 351 = .ok (.iadd, 1) := by decide +kernel
theorem dL_law_352 : decode (m_code mL_law) 352 = .ok (.iaload, 1) := by decide +kernel
theorem dL_law_353 : decode (m_code mL_law) 353 = .ok (.aload_n 0, 1) := by decide +kernel
theorem dL_law_354 : decode (m_code mL_law) 354 = .ok (.iload_n 3, 1) := by decide +kernel
theorem dL_law_355 : decode (m_code mL_law) 355 = .ok (.iconst 5, 1) := by decide +kernel
theorem dL_law_356 : decode (m_code mL_law) 356 = .ok (.iadd, 1) := by decide +kernel
theorem dL_law_357 : decode (m_code mL_law) 357 = .ok (.iaload, 1) := by decide +kernel
theorem dL_law_358 : decode (m_code mL_law) 358 = .ok (.invokevirtual 32, 3) := by decide +kernel
theorem dL_law_361 : decode (m_code mL_law) 361 = .ok (.aload_n 2, 1) := by decide +kernel
theorem dL_law_362 : decode (m_code mL_law) 362 = .ok (.aload_n 0, 1) := by decide +kernel
theorem dL_law_363 : decode (m_code mL_law) 363 = .ok (.iload_n 3, 1) := by decide +kernel
theorem dL_law_364 : decode (m_code mL_law) 364 = .ok (.iconst 1, 1) := by decide +kernel
theorem dL_law_365 : decode (m_code mL_law) 365 = .ok (.iadd, 1) := by decide +kernel
theorem dL_law_366 : decode (m_code mL_law) 366 = .ok (.iaload, 1) := by decide +kernel
theorem dL_law_367 : decode (m_code mL_law) 367 = .ok (.aload_n 0, 1) := by decide +kernel
theorem dL_law_368 : decode (m_code mL_law) 368 = .ok (.iload_n 3, 1) := by decide +kernel
theorem dL_law_369 : decode (m_code mL_law) 369 = .ok (.iconst 2, 1) := by decide +kernel
theorem dL_law_370 : decode (m_code mL_law) 370 = .ok (.iadd, 1) := by decide +kernel
theorem dL_law_371 : decode (m_code mL_law) 371 = .ok (.iaload, 1) := by decide +kernel
theorem dL_law_372 : decode (m_code mL_law) 372 = .ok (.aload_n 0, 1) := by decide +kernel
theorem dL_law_373 : decode (m_code mL_law) 373 = .ok (.iload_n 3, 1) := by decide +kernel
theorem dL_law_374 : decode (m_code mL_law) 374 = .ok (.iconst 3, 1) := by decide +kernel
theorem dL_law_375 : decode (m_code mL_law) 375 = .ok (.iadd, 1) := by decide +kernel
theorem dL_law_376 : decode (m_code mL_law) 376 = .ok (.iaload, 1) := by decide +kernel
theorem dL_law_377 : decode (m_code mL_law) 377 = .ok (.aload_n 0, 1) := by decide +kernel
theorem dL_law_378 : decode (m_code mL_law) 378 = .ok (.iload_n 3, 1) := by decide +kernel
theorem dL_law_379 : decode (m_code mL_law) 379 = .ok (.iconst 4, 1) := by decide +kernel
theorem dL_law_380 : decode (m_code mL_law) 380 = .ok (.iadd, 1) := by decide +kernel
theorem dL_law_381 : decode (m_code mL_law) 381 = .ok (.iaload, 1) := by decide +kernel
theorem dL_law_382 : decode (m_code mL_law) 382 = .ok (.aload_n 0, 1) := by decide +kernel
theorem dL_law_383 : decode (m_code mL_law) 383 = .ok (.iload_n 3, 1) := by decide +kernel
theorem dL_law_384 : decode (m_code mL_law) 384 = .ok (.iconst 5, 1) := by decide +kernel
theorem dL_law_385 : decode (m_code mL_law) 385 = .ok (.iadd, 1) := by decide +kernel
theorem dL_law_386 : decode (m_code mL_law) 386 = .ok (.iaload, 1) := by decide +kernel
theorem dL_law_387 : decode (m_code mL_law) 387 = .ok (.invokevirtual 36, 3) := by decide +kernel
theorem dL_law_390 : decode (m_code mL_law) 390 = .ok (.if_icmp .eq 1167, 3) := by decide +kernel
theorem dL_law_393 : decode (m_code mL_law) 393 = .ok (.iconst 0, 1) := by decide +kernel
theorem dL_law_394 : decode (m_code mL_law) 394 = .ok (.ireturn, 1) := by decide +kernel
theorem dL_law_395 : decode (m_code mL_law) 395 = .ok (.aload_n 1, 1) := by decide +kernel
theorem dL_law_396 : decode (m_code mL_law) 396 = .ok (.aload_n 0, 1) := by decide +kernel
theorem dL_law_397 : decode (m_code mL_law) 397 = .ok (.iload_n 3, 1) := by decide +kernel
theorem dL_law_398 : decode (m_code mL_law) 398 = .ok (.iconst 1, 1) := by decide +kernel
theorem dL_law_399 : decode (m_code mL_law) 399 = .ok (.iadd, 1) := by decide +kernel
theorem dL_law_400 : decode (m_code mL_law) 400 = .ok (.iaload, 1) := by decide +kernel
theorem dL_law_401 : decode (m_code mL_law) 401 = .ok (.invokevirtual 37, 3) := by decide +kernel
theorem dL_law_404 : decode (m_code mL_law) 404 = .ok (.aload_n 2, 1) := by decide +kernel
theorem dL_law_405 : decode (m_code mL_law) 405 = .ok (.aload_n 0, 1) := by decide +kernel
theorem dL_law_406 : decode (m_code mL_law) 406 = .ok (.iload_n 3, 1) := by decide +kernel
theorem dL_law_407 : decode (m_code mL_law) 407 = .ok (.iconst 1, 1) := by decide +kernel
theorem dL_law_408 : decode (m_code mL_law) 408 = .ok (.iadd, 1) := by decide +kernel
theorem dL_law_409 : decode (m_code mL_law) 409 = .ok (.iaload, 1) := by decide +kernel
theorem dL_law_410 : decode (m_code mL_law) 410 = .ok (.invokevirtual 41, 3) := by decide +kernel
theorem dL_law_413 : decode (m_code mL_law) 413 = .ok (.if_icmp .eq 1144, 3) := by decide +kernel
theorem dL_law_416 : decode (m_code mL_law) 416 = .ok (.iconst 0, 1) := by decide +kernel
theorem dL_law_417 : decode (m_code mL_law) 417 = .ok (.ireturn, 1) := by decide +kernel
theorem dL_law_418 : decode (m_code mL_law) 418 = .ok (.aload_n 1, 1) := by decide +kernel
theorem dL_law_419 : decode (m_code mL_law) 419 = .ok (.aload_n 0, 1) := by decide +kernel
theorem dL_law_420 : decode (m_code mL_law) 420 = .ok (.iload_n 3, 1) := by decide +kernel
theorem dL_law_421 : decode (m_code mL_law) 421 = .ok (.iconst 1, 1) := by decide +kernel
theorem dL_law_422 : decode (m_code mL_law) 422 = .ok (.iadd, 1) := by decide +kernel
theorem dL_law_423 : decode (m_code mL_law) 423 = .ok (.iaload, 1) := by decide +kernel
theorem dL_law_424 : decode (m_code mL_law) 424 = .ok (.invokevirtual 42, 3) := by decide +kernel
theorem dL_law_427 : decode (m_code mL_law) 427 = .ok (.aload_n 2, 1) := by decide +kernel
theorem dL_law_428 : decode (m_code mL_law) 428 = .ok (.aload_n 0, 1) := by decide +kernel
theorem dL_law_429 : decode (m_code mL_law) 429 = .ok (.iload_n 3, 1) := by decide +kernel
theorem dL_law_430 : decode (m_code mL_law) 430 = .ok (.iconst 1, 1) := by decide +kernel
theorem dL_law_431 : decode (m_code mL_law) 431 = .ok (.iadd, 1) := by decide +kernel
theorem dL_law_432 : decode (m_code mL_law) 432 = .ok (.iaload, 1) := by decide +kernel
theorem dL_law_433 : decode (m_code mL_law) 433 = .ok (.invokevirtual 45, 3) := by decide +kernel
theorem dL_law_436 : decode (m_code mL_law) 436 = .ok (.if_icmp .eq 1121, 3) := by decide +kernel
theorem dL_law_439 : decode (m_code mL_law) 439 = .ok (.iconst 0, 1) := by decide +kernel
theorem dL_law_440 : decode (m_code mL_law) 440 = .ok (.ireturn, 1) := by decide +kernel
theorem dL_law_441 : decode (m_code mL_law) 441 = .ok (.aload_n 1, 1) := by decide +kernel
theorem dL_law_442 : decode (m_code mL_law) 442 = .ok (.aload_n 0, 1) := by decide +kernel
theorem dL_law_443 : decode (m_code mL_law) 443 = .ok (.iload_n 3, 1) := by decide +kernel
theorem dL_law_444 : decode (m_code mL_law) 444 = .ok (.iconst 1, 1) := by decide +kernel
theorem dL_law_445 : decode (m_code mL_law) 445 = .ok (.iadd, 1) := by decide +kernel
theorem dL_law_446 : decode (m_code mL_law) 446 = .ok (.iaload, 1) := by decide +kernel
theorem dL_law_447 : decode (m_code mL_law) 447 = .ok (.invokevirtual 46, 3) := by decide +kernel
theorem dL_law_450 : decode (m_code mL_law) 450 = .ok (.aload_n 2, 1) := by decide +kernel
theorem dL_law_451 : decode (m_code mL_law) 451 = .ok (.aload_n 0, 1) := by decide +kernel
theorem dL_law_452 : decode (m_code mL_law) 452 = .ok (.iload_n 3, 1) := by decide +kernel
theorem dL_law_453 : decode (m_code mL_law) 453 = .ok (.iconst 1, 1) := by decide +kernel
theorem dL_law_454 : decode (m_code mL_law) 454 = .ok (.iadd, 1) := by decide +kernel
theorem dL_law_455 : decode (m_code mL_law) 455 = .ok (.iaload, 1) := by decide +kernel
theorem dL_law_456 : decode (m_code mL_law) 456 = .ok (.invokevirtual 49, 3) := by decide +kernel
theorem dL_law_459 : decode (m_code mL_law) 459 = .ok (.if_icmp .eq 1098, 3) := by decide +kernel
theorem dL_law_462 : decode (m_code mL_law) 462 = .ok (.iconst 0, 1) := by decide +kernel
theorem dL_law_463 : decode (m_code mL_law) 463 = .ok (.ireturn, 1) := by decide +kernel
theorem dL_law_464 : decode (m_code mL_law) 464 = .ok (.aload_n 1, 1) := by decide +kernel
theorem dL_law_465 : decode (m_code mL_law) 465 = .ok (.aload_n 0, 1) := by decide +kernel
theorem dL_law_466 : decode (m_code mL_law) 466 = .ok (.iload_n 3, 1) := by decide +kernel
theorem dL_law_467 : decode (m_code mL_law) 467 = .ok (.iconst 1, 1) := by decide +kernel
theorem dL_law_468 : decode (m_code mL_law) 468 = .ok (.iadd, 1) := by decide +kernel
theorem dL_law_469 : decode (m_code mL_law) 469 = .ok (.iaload, 1) := by decide +kernel
theorem dL_law_470 : decode (m_code mL_law) 470 = .ok (.invokevirtual 50, 3) := by decide +kernel
theorem dL_law_473 : decode (m_code mL_law) 473 = .ok (.aload_n 2, 1) := by decide +kernel
theorem dL_law_474 : decode (m_code mL_law) 474 = .ok (.aload_n 0, 1) := by decide +kernel
theorem dL_law_475 : decode (m_code mL_law) 475 = .ok (.iload_n 3, 1) := by decide +kernel
theorem dL_law_476 : decode (m_code mL_law) 476 = .ok (.iconst 1, 1) := by decide +kernel
theorem dL_law_477 : decode (m_code mL_law) 477 = .ok (.iadd, 1) := by decide +kernel
theorem dL_law_478 : decode (m_code mL_law) 478 = .ok (.iaload, 1) := by decide +kernel
theorem dL_law_479 : decode (m_code mL_law) 479 = .ok (.invokevirtual 53, 3) := by decide +kernel
theorem dL_law_482 : decode (m_code mL_law) 482 = .ok (.if_icmp .eq 1075, 3) := by decide +kernel
theorem dL_law_485 : decode (m_code mL_law) 485 = .ok (.iconst 0, 1) := by decide +kernel
theorem dL_law_486 : decode (m_code mL_law) 486 = .ok (.ireturn, 1) := by decide +kernel
theorem dL_law_487 : decode (m_code mL_law) 487 = .ok (.aload_n 1, 1) := by decide +kernel
theorem dL_law_488 : decode (m_code mL_law) 488 = .ok (.aload_n 0, 1) := by decide +kernel
theorem dL_law_489 : decode (m_code mL_law) 489 = .ok (.iload_n 3, 1) := by decide +kernel
theorem dL_law_490 : decode (m_code mL_law) 490 = .ok (.iconst 1, 1) := by decide +kernel
theorem dL_law_491 : decode (m_code mL_law) 491 = .ok (.iadd, 1) := by decide +kernel
theorem dL_law_492 : decode (m_code mL_law) 492 = .ok (.iaload, 1) := by decide +kernel
theorem dL_law_493 : decode (m_code mL_law) 493 = .ok (.aload_n 0, 1) := by decide +kernel
theorem dL_law_494 : decode (m_code mL_law) 494 = .ok (.iload_n 3, 1) := by decide +kernel
theorem dL_law_495 : decode (m_code mL_law) 495 = .ok (.iconst 2, 1) := by decide +kernel
theorem dL_law_496 : decode (m_code mL_law) 496 = .ok (.iadd, 1) := by decide +kernel
theorem dL_law_497 : decode (m_code mL_law) 497 = .ok (.iaload, 1) := by decide +kernel
theorem dL_law_498 : decode (m_code mL_law) 498 = .ok (.aload_n 0, 1) := by decide +kernel
theorem dL_law_499 : decode (m_code mL_law) 499 = .ok (.iload_n 3, 1) := by decide +kernel
theorem dL_law_500 : decode (m_code mL_law) 500 = .ok (.iconst 3, 1) := by decide +kernel
theorem dL_law_501 : decode (m_code mL_law) 501 = .ok (.iadd, 1) := by decide +kernel
theorem dL_law_502 : decode (m_code mL_law) 502 = .ok (.iaload, 1) := by decide +kernel
theorem dL_law_503 : decode (m_code mL_law) 503 = .ok (.ifCond .eq 7, 3) := by decide +kernel
theorem dL_law_506 : decode (m_code mL_law) 506 = .ok (.iconst 1, 1) := by decide +kernel
theorem dL_law_507 : decode (m_code mL_law) 507 = .ok (.goto 4, 3) := by decide +kernel
theorem dL_law_510 : decode (m_code mL_law) 510 = .ok (.iconst 0, 1) := by decide +kernel
theorem dL_law_511 : decode (m_code mL_law) 511 = .ok (.invokevirtual 54, 3) := by decide +kernel
theorem dL_law_514 : decode (m_code mL_law) 514 = .ok (.aload_n 2, 1) := by decide +kernel
theorem dL_law_515 : decode (m_code mL_law) 515 = .ok (.aload_n 0, 1) := by decide +kernel
theorem dL_law_516 : decode (m_code mL_law) 516 = .ok (.iload_n 3, 1) := by decide +kernel
theorem dL_law_517 : decode (m_code mL_law) 517 = .ok (.iconst 1, 1) := by decide +kernel
theorem dL_law_518 : decode (m_code mL_law) 518 = .ok (.iadd, 1) := by decide +kernel
theorem dL_law_519 : decode (m_code mL_law) 519 = .ok (.iaload, 1) := by decide +kernel
theorem dL_law_520 : decode (m_code mL_law) 520 = .ok (.aload_n 0, 1) := by decide +kernel
theorem dL_law_521 : decode (m_code mL_law) 521 = .ok (.iload_n 3, 1) := by decide +kernel
theorem dL_law_522 : decode (m_code mL_law) 522 = .ok (.iconst 2, 1) := by decide +kernel
theorem dL_law_523 : decode (m_code mL_law) 523 = .ok (.iadd, 1) := by decide +kernel
theorem dL_law_524 : decode (m_code mL_law) 524 = .ok (.iaload, 1) := by decide +kernel
theorem dL_law_525 : decode (m_code mL_law) 525 = .ok (.aload_n 0, 1) := by decide +kernel
theorem dL_law_526 : decode (m_code mL_law) 526 = .ok (.iload_n 3, 1) := by decide +kernel
theorem dL_law_527 : decode (m_code mL_law) 527 = .ok (.iconst 3, 1) := by decide +kernel
theorem dL_law_528 : decode (m_code mL_law) 528 = .ok (.iadd, 1) := by decide +kernel
theorem dL_law_529 : decode (m_code mL_law) 529 = .ok (.iaload, 1) := by decide +kernel
theorem dL_law_530 : decode (m_code mL_law) 530 = .ok (.ifCond .eq 7, 3) := by decide +kernel
theorem dL_law_533 : decode (m_code mL_law) 533 = .ok (.iconst 1, 1) := by decide +kernel
theorem dL_law_534 : decode (m_code mL_law) 534 = .ok (.goto 4, 3) := by decide +kernel
theorem dL_law_537 : decode (m_code mL_law) 537 = .ok (.iconst 0, 1) := by decide +kernel
theorem dL_law_538 : decode (m_code mL_law) 538 = .ok (.invokevirtual 58, 3) := by decide +kernel
theorem dL_law_541 : decode (m_code mL_law) 541 = .ok (.if_icmp .eq 1016, 3) := by decide +kernel
theorem dL_law_544 : decode (m_code mL_law) 544 = .ok (.iconst 0, 1) := by decide +kernel
theorem dL_law_545 : decode (m_code mL_law) 545 = .ok (.ireturn, 1) := by decide +kernel
theorem dL_law_546 : decode (m_code mL_law) 546 = .ok (.aload_n 1, 1) := by decide +kernel
theorem dL_law_547 : decode (m_code mL_law) 547 = .ok (.aload_n 0, 1) := by decide +kernel
theorem dL_law_548 : decode (m_code mL_law) 548 = .ok (.iload_n 3, 1) := by decide +kernel
theorem dL_law_549 : decode (m_code mL_law) 549 = .ok (.iconst 1, 1) := by decide +kernel
theorem dL_law_550 : decode (m_code mL_law) 550 = .ok (.iadd, 1) := by decide +kernel
theorem dL_law_551 : decode (m_code mL_law) 551 = .ok (.iaload, 1) := by decide +kernel
theorem dL_law_552 : decode (m_code mL_law) 552 = .ok (.invokevirtual 59, 3) := by decide +kernel
theorem dL_law_555 : decode (m_code mL_law) 555 = .ok (.aload_n 2, 1) := by decide +kernel
theorem dL_law_556 : decode (m_code mL_law) 556 = .ok (.aload_n 0, 1) := by decide +kernel
theorem dL_law_557 : decode (m_code mL_law) 557 = .ok (.iload_n 3, 1) := by decide +kernel
theorem dL_law_558 : decode (m_code mL_law) 558 = .ok (.iconst 1, 1) := by decide +kernel
theorem dL_law_559 : decode (m_code mL_law) 559 = .ok (.iadd, 1) := by decide +kernel
theorem dL_law_560 : decode (m_code mL_law) 560 = .ok (.iaload, 1) := by decide +kernel
theorem dL_law_561 : decode (m_code mL_law) 561 = .ok (.invokevirtual 62, 3) := by decide +kernel
theorem dL_law_564 : decode (m_code mL_law) 564 = .ok (.if_icmp .eq 993, 3) := by decide +kernel
theorem dL_law_567 : decode (m_code mL_law) 567 = .ok (.iconst 0, 1) := by decide +kernel
theorem dL_law_568 : decode (m_code mL_law) 568 = .ok (.ireturn, 1) := by decide +kernel
theorem dL_law_569 : decode (m_code mL_law) 569 = .ok (.aload_n 1, 1) := by decide +kernel
theorem dL_law_570 : decode (m_code mL_law) 570 = .ok (.aload_n 0, 1) := by decide +kernel
theorem dL_law_571 : decode (m_code mL_law) 571 = .ok (.iload_n 3, 1) := by decide +kernel
theorem dL_law_572 : decode (m_code mL_law) 572 = .ok (.iconst 1, 1) := by decide +kernel
theorem dL_law_573 : decode (m_code mL_law) 573 = .ok (.iadd, 1) := by decide +kernel
theorem dL_law_574 : decode (m_code mL_law) 574 = .ok (.iaload, 1) := by decide +kernel
theorem dL_law_575 : decode (m_code mL_law) 575 = .ok (.aload_n 0, 1) := by decide +kernel
theorem dL_law_576 : decode (m_code mL_law) 576 = .ok (.iload_n 3, 1) := by decide +kernel
theorem dL_law_577 : decode (m_code mL_law) 577 = .ok (.iconst 2, 1) := by decide +kernel
theorem dL_law_578 : decode (m_code mL_law) 578 = .ok (.iadd, 1) := by decide +kernel
theorem dL_law_579 : decode (m_code mL_law) 579 = .ok (.iaload, 1) := by decide +kernel
theorem dL_law_580 : decode (m_code mL_law) 580 = .ok (.invokevirtual 63, 3) := by decide +kernel
theorem dL_law_583 : decode (m_code mL_law) 583 = .ok (.aload_n 2, 1) := by decide +kernel
theorem dL_law_584 : decode (m_code mL_law) 584 = .ok (.aload_n 0, 1) := by decide +kernel
theorem dL_law_585 : decode (m_code mL_law) 585 = .ok (.iload_n 3, 1) := by decide +kernel
theorem dL_law_586 : decode (m_code mL_law) 586 = .ok (.iconst 1, 1) := by decide +kernel
theorem dL_law_587 : decode (m_code mL_law) 587 = .ok (.iadd, 1) := by decide +kernel
theorem dL_law_588 : decode (m_code mL_law) 588 = .ok (.iaload, 1) := by decide +kernel
theorem dL_law_589 : decode (m_code mL_law) 589 = .ok (.aload_n 0, 1) := by decide +kernel
theorem dL_law_590 : decode (m_code mL_law) 590 = .ok (.iload_n 3, 1) := by decide +kernel
theorem dL_law_591 : decode (m_code mL_law) 591 = .ok (.iconst 2, 1) := by decide +kernel
theorem dL_law_592 : decode (m_code mL_law) 592 = .ok (.iadd, 1) := by decide +kernel
theorem dL_law_593 : decode (m_code mL_law) 593 = .ok (.iaload, 1) := by decide +kernel
theorem dL_law_594 : decode (m_code mL_law) 594 = .ok (.invokevirtual 66, 3) := by decide +kernel
theorem dL_law_597 : decode (m_code mL_law) 597 = .ok (.if_icmp .eq 960, 3) := by decide +kernel
theorem dL_law_600 : decode (m_code mL_law) 600 = .ok (.iconst 0, 1) := by decide +kernel
theorem dL_law_601 : decode (m_code mL_law) 601 = .ok (.ireturn, 1) := by decide +kernel
theorem dL_law_602 : decode (m_code mL_law) 602 = .ok (.aload_n 1, 1) := by decide +kernel
theorem dL_law_603 : decode (m_code mL_law) 603 = .ok (.aload_n 0, 1) := by decide +kernel
theorem dL_law_604 : decode (m_code mL_law) 604 = .ok (.iload_n 3, 1) := by decide +kernel
theorem dL_law_605 : decode (m_code mL_law) 605 = .ok (.iconst 1, 1) := by decide +kernel
theorem dL_law_606 : decode (m_code mL_law) 606 = .ok (.iadd, 1) := by decide +kernel
theorem dL_law_607 : decode (m_code mL_law) 607 = .ok (.iaload, 1) := by decide +kernel
theorem dL_law_608 : decode (m_code mL_law) 608 = .ok (.invokevirtual 67, 3) := by decide +kernel
theorem dL_law_611 : decode (m_code mL_law) 611 = .ok (.aload_n 2, 1) := by decide +kernel
theorem dL_law_612 : decode (m_code mL_law) 612 = .ok (.aload_n 0, 1) := by decide +kernel
theorem dL_law_613 : decode (m_code mL_law) 613 = .ok (.iload_n 3, 1) := by decide +kernel
theorem dL_law_614 : decode (m_code mL_law) 614 = .ok (.iconst 1, 1) := by decide +kernel
theorem dL_law_615 : decode (m_code mL_law) 615 = .ok (.iadd, 1) := by decide +kernel
theorem dL_law_616 : decode (m_code mL_law) 616 = .ok (.iaload, 1) := by decide +kernel
theorem dL_law_617 : decode (m_code mL_law) 617 = .ok (.invokevirtual 70, 3) := by decide +kernel
theorem dL_law_620 : decode (m_code mL_law) 620 = .ok (.if_icmp .eq 937, 3) := by decide +kernel
theorem dL_law_623 : decode (m_code mL_law) 623 = .ok (.iconst 0, 1) := by decide +kernel
theorem dL_law_624 : decode (m_code mL_law) 624 = .ok (.ireturn, 1) := by decide +kernel
theorem dL_law_625 : decode (m_code mL_law) 625 = .ok (.aload_n 1, 1) := by decide +kernel
theorem dL_law_626 : decode (m_code mL_law) 626 = .ok (.aload_n 0, 1) := by decide +kernel
theorem dL_law_627 : decode (m_code mL_law) 627 = .ok (.iload_n 3, 1) := by decide +kernel
theorem dL_law_628 : decode (m_code mL_law) 628 = .ok (.iconst 1, 1) := by decide +kernel
theorem dL_law_629 : decode (m_code mL_law) 629 = .ok (.iadd, 1) := by decide +kernel
theorem dL_law_630 : decode (m_code mL_law) 630 = .ok (.iaload, 1) := by decide +kernel
theorem dL_law_631 : decode (m_code mL_law) 631 = .ok (.aload_n 0, 1) := by decide +kernel
theorem dL_law_632 : decode (m_code mL_law) 632 = .ok (.iload_n 3, 1) := by decide +kernel
theorem dL_law_633 : decode (m_code mL_law) 633 = .ok (.iconst 2, 1) := by decide +kernel
theorem dL_law_634 : decode (m_code mL_law) 634 = .ok (.iadd, 1) := by decide +kernel
theorem dL_law_635 : decode (m_code mL_law) 635 = .ok (.iaload, 1) := by decide +kernel
theorem dL_law_636 : decode (m_code mL_law) 636 = .ok (.invokevirtual 71, 3) := by decide +kernel
theorem dL_law_639 : decode (m_code mL_law) 639 = .ok (.aload_n 2, 1) := by decide +kernel
theorem dL_law_640 : decode (m_code mL_law) 640 = .ok (.aload_n 0, 1) := by decide +kernel
theorem dL_law_641 : decode (m_code mL_law) 641 = .ok (.iload_n 3, 1) := by decide +kernel
theorem dL_law_642 : decode (m_code mL_law) 642 = .ok (.iconst 1, 1) := by decide +kernel
theorem dL_law_643 : decode (m_code mL_law) 643 = .ok (.iadd, 1) := by decide +kernel
theorem dL_law_644 : decode (m_code mL_law) 644 = .ok (.iaload, 1) := by decide +kernel
theorem dL_law_645 : decode (m_code mL_law) 645 = .ok (.aload_n 0, 1) := by decide +kernel
theorem dL_law_646 : decode (m_code mL_law) 646 = .ok (.iload_n 3, 1) := by decide +kernel
theorem dL_law_647 : decode (m_code mL_law) 647 = .ok (.iconst 2, 1) := by decide +kernel
theorem dL_law_648 : decode (m_code mL_law) 648 = .ok (.iadd, 1) := by decide +kernel
theorem dL_law_649 : decode (m_code mL_law) 649 = .ok (.iaload, 1) := by decide +kernel
theorem dL_law_650 : decode (m_code mL_law) 650 = .ok (.invokevirtual 74, 3) := by decide +kernel
theorem dL_law_653 : decode (m_code mL_law) 653 = .ok (.if_icmp .eq 904, 3) := by decide +kernel
theorem dL_law_656 : decode (m_code mL_law) 656 = .ok (.iconst 0, 1) := by decide +kernel
theorem dL_law_657 : decode (m_code mL_law) 657 = .ok (.ireturn, 1) := by decide +kernel
theorem dL_law_658 : decode (m_code mL_law) 658 = .ok (.aload_n 1, 1) := by decide +kernel
theorem dL_law_659 : decode (m_code mL_law) 659 = .ok (.aload_n 0, 1) := by decide +kernel
theorem dL_law_660 : decode (m_code mL_law) 660 = .ok (.iload_n 3, 1) := by decide +kernel
theorem dL_law_661 : decode (m_code mL_law) 661 = .ok (.iconst 1, 1) := by decide +kernel
theorem dL_law_662 : decode (m_code mL_law) 662 = .ok (.iadd, 1) := by decide +kernel
theorem dL_law_663 : decode (m_code mL_law) 663 = .ok (.iaload, 1) := by decide +kernel
theorem dL_law_664 : decode (m_code mL_law) 664 = .ok (.aload_n 0, 1) := by decide +kernel
theorem dL_law_665 : decode (m_code mL_law) 665 = .ok (.iload_n 3, 1) := by decide +kernel
theorem dL_law_666 : decode (m_code mL_law) 666 = .ok (.iconst 2, 1) := by decide +kernel
theorem dL_law_667 : decode (m_code mL_law) 667 = .ok (.iadd, 1) := by decide +kernel
theorem dL_law_668 : decode (m_code mL_law) 668 = .ok (.iaload, 1) := by decide +kernel
theorem dL_law_669 : decode (m_code mL_law) 669 = .ok (.invokevirtual 75, 3) := by decide +kernel
theorem dL_law_672 : decode (m_code mL_law) 672 = .ok (.aload_n 2, 1) := by decide +kernel
theorem dL_law_673 : decode (m_code mL_law) 673 = .ok (.aload_n 0, 1) := by decide +kernel
theorem dL_law_674 : decode (m_code mL_law) 674 = .ok (.iload_n 3, 1) := by decide +kernel
theorem dL_law_675 : decode (m_code mL_law) 675 = .ok (.iconst 1, 1) := by decide +kernel
theorem dL_law_676 : decode (m_code mL_law) 676 = .ok (.iadd, 1) := by decide +kernel
theorem dL_law_677 : decode (m_code mL_law) 677 = .ok (.iaload, 1) := by decide +kernel
theorem dL_law_678 : decode (m_code mL_law) 678 = .ok (.aload_n 0, 1) := by decide +kernel
theorem dL_law_679 : decode (m_code mL_law) 679 = .ok (.iload_n 3, 1) := by decide +kernel
theorem dL_law_680 : decode (m_code mL_law) 680 = .ok (.iconst 2, 1) := by decide +kernel
theorem dL_law_681 : decode (m_code mL_law) 681 = .ok (.iadd, 1) := by decide +kernel
theorem dL_law_682 : decode (m_code mL_law) 682 = .ok (.iaload, 1) := by decide +kernel
theorem dL_law_683 : decode (m_code mL_law) 683 = .ok (.invokevirtual 78, 3) := by decide +kernel
theorem dL_law_686 : decode (m_code mL_law) 686 = .ok (.if_icmp .eq 871, 3) := by decide +kernel
theorem dL_law_689 : decode (m_code mL_law) 689 = .ok (.iconst 0, 1) := by decide +kernel
theorem dL_law_690 : decode (m_code mL_law) 690 = .ok (.ireturn, 1) := by decide +kernel
theorem dL_law_691 : decode (m_code mL_law) 691 = .ok (.aload_n 1, 1) := by decide +kernel
theorem dL_law_692 : decode (m_code mL_law) 692 = .ok (.aload_n 0, 1) := by decide +kernel
theorem dL_law_693 : decode (m_code mL_law) 693 = .ok (.iload_n 3, 1) := by decide +kernel
theorem dL_law_694 : decode (m_code mL_law) 694 = .ok (.iconst 1, 1) := by decide +kernel
theorem dL_law_695 : decode (m_code mL_law) 695 = .ok (.iadd, 1) := by decide +kernel
theorem dL_law_696 : decode (m_code mL_law) 696 = .ok (.iaload, 1) := by decide +kernel
theorem dL_law_697 : decode (m_code mL_law) 697 = .ok (.invokevirtual 79, 3) := by decide +kernel
theorem dL_law_700 : decode (m_code mL_law) 700 = .ok (.aload_n 2, 1) := by decide +kernel
theorem dL_law_701 : decode (m_code mL_law) 701 = .ok (.aload_n 0, 1) := by decide +kernel
theorem dL_law_702 : decode (m_code mL_law) 702 = .ok (.iload_n 3, 1) := by decide +kernel
theorem dL_law_703 : decode (m_code mL_law) 703 = .ok (.iconst 1, 1) := by decide +kernel
theorem dL_law_704 : decode (m_code mL_law) 704 = .ok (.iadd, 1) := by decide +kernel
theorem dL_law_705 : decode (m_code mL_law) 705 = .ok (.iaload, 1) := by decide +kernel
theorem dL_law_706 : decode (m_code mL_law) 706 = .ok (.invokevirtual 82, 3) := by decide +kernel
theorem dL_law_709 : decode (m_code mL_law) 709 = .ok (.if_icmp .eq 848, 3) := by decide +kernel
theorem dL_law_712 : decode (m_code mL_law) 712 = .ok (.iconst 0, 1) := by decide +kernel
theorem dL_law_713 : decode (m_code mL_law) 713 = .ok (.ireturn, 1) := by decide +kernel
theorem dL_law_714 : decode (m_code mL_law) 714 = .ok (.aload_n 1, 1) := by decide +kernel
theorem dL_law_715 : decode (m_code mL_law) 715 = .ok (.aload_n 0, 1) := by decide +kernel
theorem dL_law_716 : decode (m_code mL_law) 716 = .ok (.iload_n 3, 1) := by decide +kernel
theorem dL_law_717 : decode (m_code mL_law) 717 = .ok (.iconst 1, 1) := by decide +kernel
theorem dL_law_718 : decode (m_code mL_law) 718 = .ok (.iadd, 1) := by decide +kernel
theorem dL_law_719 : decode (m_code mL_law) 719 = .ok (.iaload, 1) := by decide +kernel
theorem dL_law_720 : decode (m_code mL_law) 720 = .ok (.invokevirtual 83, 3) := by decide +kernel
theorem dL_law_723 : decode (m_code mL_law) 723 = .ok (.aload_n 2, 1) := by decide +kernel
theorem dL_law_724 : decode (m_code mL_law) 724 = .ok (.aload_n 0, 1) := by decide +kernel
theorem dL_law_725 : decode (m_code mL_law) 725 = .ok (.iload_n 3, 1) := by decide +kernel
theorem dL_law_726 : decode (m_code mL_law) 726 = .ok (.iconst 1, 1) := by decide +kernel
theorem dL_law_727 : decode (m_code mL_law) 727 = .ok (.iadd, 1) := by decide +kernel
theorem dL_law_728 : decode (m_code mL_law) 728 = .ok (.iaload, 1) := by decide +kernel
theorem dL_law_729 : decode (m_code mL_law) 729 = .ok (.invokevirtual 86, 3) := by decide +kernel
theorem dL_law_732 : decode (m_code mL_law) 732 = .ok (.if_icmp .eq 825, 3) := by decide +kernel
theorem dL_law_735 : decode (m_code mL_law) 735 = .ok (.iconst 0, 1) := by decide +kernel
theorem dL_law_736 : decode (m_code mL_law) 736 = .ok (.ireturn, 1) := by decide +kernel
theorem dL_law_737 : decode (m_code mL_law) 737 = .ok (.aload_n 1, 1) := by decide +kernel
theorem dL_law_738 : decode (m_code mL_law) 738 = .ok (.aload_n 0, 1) := by decide +kernel
theorem dL_law_739 : decode (m_code mL_law) 739 = .ok (.iload_n 3, 1) := by decide +kernel
theorem dL_law_740 : decode (m_code mL_law) 740 = .ok (.iconst 1, 1) := by decide +kernel
theorem dL_law_741 : decode (m_code mL_law) 741 = .ok (.iadd, 1) := by decide +kernel
theorem dL_law_742 : decode (m_code mL_law) 742 = .ok (.iaload, 1) := by decide +kernel
theorem dL_law_743 : decode (m_code mL_law) 743 = .ok (.aload_n 0, 1) := by decide +kernel
theorem dL_law_744 : decode (m_code mL_law) 744 = .ok (.iload_n 3, 1) := by decide +kernel
theorem dL_law_745 : decode (m_code mL_law) 745 = .ok (.iconst 2, 1) := by decide +kernel
theorem dL_law_746 : decode (m_code mL_law) 746 = .ok (.iadd, 1) := by decide +kernel
theorem dL_law_747 : decode (m_code mL_law) 747 = .ok (.iaload, 1) := by decide +kernel
theorem dL_law_748 : decode (m_code mL_law) 748 = .ok (.aload_n 0, 1) := by decide +kernel
theorem dL_law_749 : decode (m_code mL_law) 749 = .ok (.iload_n 3, 1) := by decide +kernel
theorem dL_law_750 : decode (m_code mL_law) 750 = .ok (.iconst 3, 1) := by decide +kernel
theorem dL_law_751 : decode (m_code mL_law) 751 = .ok (.iadd, 1) := by decide +kernel
theorem dL_law_752 : decode (m_code mL_law) 752 = .ok (.iaload, 1) := by decide +kernel
theorem dL_law_753 : decode (m_code mL_law) 753 = .ok (.aload_n 0, 1) := by decide +kernel
theorem dL_law_754 : decode (m_code mL_law) 754 = .ok (.iload_n 3, 1) := by decide +kernel
theorem dL_law_755 : decode (m_code mL_law) 755 = .ok (.iconst 4, 1) := by decide +kernel
theorem dL_law_756 : decode (m_code mL_law) 756 = .ok (.iadd, 1) := by decide +kernel
theorem dL_law_757 : decode (m_code mL_law) 757 = .ok (.iaload, 1) := by decide +kernel
theorem dL_law_758 : decode (m_code mL_law) 758 = .ok (.aload_n 0, 1) := by decide +kernel
theorem dL_law_759 : decode (m_code mL_law) 759 = .ok (.iload_n 3, 1) := by decide +kernel
theorem dL_law_760 : decode (m_code mL_law) 760 = .ok (.iconst 5, 1) := by decide +kernel
theorem dL_law_761 : decode (m_code mL_law) 761 = .ok (.iadd, 1) := by decide +kernel
theorem dL_law_762 : decode (m_code mL_law) 762 = .ok (.iaload, 1) := by decide +kernel
theorem dL_law_763 : decode (m_code mL_law) 763 = .ok (.invokevirtual 87, 3) := by decide +kernel
theorem dL_law_766 : decode (m_code mL_law) 766 = .ok (.aload_n 2, 1) := by decide +kernel
theorem dL_law_767 : decode (m_code mL_law) 767 = .ok (.aload_n 0, 1) := by decide +kernel
theorem dL_law_768 : decode (m_code mL_law) 768 = .ok (.iload_n 3, 1) := by decide +kernel
theorem dL_law_769 : decode (m_code mL_law) 769 = .ok (.iconst 1, 1) := by decide +kernel
theorem dL_law_770 : decode (m_code mL_law) 770 = .ok (.iadd, 1) := by decide +kernel
theorem dL_law_771 : decode (m_code mL_law) 771 = .ok (.iaload, 1) := by decide +kernel
theorem dL_law_772 : decode (m_code mL_law) 772 = .ok (.aload_n 0, 1) := by decide +kernel
theorem dL_law_773 : decode (m_code mL_law) 773 = .ok (.iload_n 3, 1) := by decide +kernel
theorem dL_law_774 : decode (m_code mL_law) 774 = .ok (.iconst 2, 1) := by decide +kernel
theorem dL_law_775 : decode (m_code mL_law) 775 = .ok (.iadd, 1) := by decide +kernel
theorem dL_law_776 : decode (m_code mL_law) 776 = .ok (.iaload, 1) := by decide +kernel
theorem dL_law_777 : decode (m_code mL_law) 777 = .ok (.aload_n 0, 1) := by decide +kernel
theorem dL_law_778 : decode (m_code mL_law) 778 = .ok (.iload_n 3, 1) := by decide +kernel
theorem dL_law_779 : decode (m_code mL_law) 779 = .ok (.iconst 3, 1) := by decide +kernel
theorem dL_law_780 : decode (m_code mL_law) 780 = .ok (.iadd, 1) := by decide +kernel
theorem dL_law_781 : decode (m_code mL_law) 781 = .ok (.iaload, 1) := by decide +kernel
theorem dL_law_782 : decode (m_code mL_law) 782 = .ok (.aload_n 0, 1) := by decide +kernel
theorem dL_law_783 : decode (m_code mL_law) 783 = .ok (.iload_n 3, 1) := by decide +kernel
theorem dL_law_784 : decode (m_code mL_law) 784 = .ok (.iconst 4, 1) := by decide +kernel
theorem dL_law_785 : decode (m_code mL_law) 785 = .ok (.iadd, 1) := by decide +kernel
theorem dL_law_786 : decode (m_code mL_law) 786 = .ok (.iaload, 1) := by decide +kernel
theorem dL_law_787 : decode (m_code mL_law) 787 = .ok (.aload_n 0, 1) := by decide +kernel
theorem dL_law_788 : decode (m_code mL_law) 788 = .ok (.iload_n 3, 1) := by decide +kernel
theorem dL_law_789 : decode (m_code mL_law) 789 = .ok (.iconst 5, 1) := by decide +kernel
theorem dL_law_790 : decode (m_code mL_law) 790 = .ok (.iadd, 1) := by decide +kernel
theorem dL_law_791 : decode (m_code mL_law) 791 = .ok (.iaload, 1) := by decide +kernel
theorem dL_law_792 : decode (m_code mL_law) 792 = .ok (.invokevirtual 90, 3) := by decide +kernel
theorem dL_law_795 : decode (m_code mL_law) 795 = .ok (.if_icmp .eq 762, 3) := by decide +kernel
theorem dL_law_798 : decode (m_code mL_law) 798 = .ok (.iconst 0, 1) := by decide +kernel
theorem dL_law_799 : decode (m_code mL_law) 799 = .ok (.ireturn, 1) := by decide +kernel
theorem dL_law_800 : decode (m_code mL_law) 800 = .ok (.aload_n 1, 1) := by decide +kernel
theorem dL_law_801 : decode (m_code mL_law) 801 = .ok (.aload_n 0, 1) := by decide +kernel
theorem dL_law_802 : decode (m_code mL_law) 802 = .ok (.iload_n 3, 1) := by decide +kernel
theorem dL_law_803 : decode (m_code mL_law) 803 = .ok (.iconst 1, 1) := by decide +kernel
theorem dL_law_804 : decode (m_code mL_law) 804 = .ok (.iadd, 1) := by decide +kernel
theorem dL_law_805 : decode (m_code mL_law) 805 = .ok (.iaload, 1) := by decide +kernel
theorem dL_law_806 : decode (m_code mL_law) 806 = .ok (.invokevirtual 91, 3) := by decide +kernel
theorem dL_law_809 : decode (m_code mL_law) 809 = .ok (.aload_n 2, 1) := by decide +kernel
theorem dL_law_810 : decode (m_code mL_law) 810 = .ok (.aload_n 0, 1) := by decide +kernel
theorem dL_law_811 : decode (m_code mL_law) 811 = .ok (.iload_n 3, 1) := by decide +kernel
theorem dL_law_812 : decode (m_code mL_law) 812 = .ok (.iconst 1, 1) := by decide +kernel
theorem dL_law_813 : decode (m_code mL_law) 813 = .ok (.iadd, 1) := by decide +kernel
theorem dL_law_814 : decode (m_code mL_law) 814 = .ok (.iaload, 1) := by decide +kernel
theorem dL_law_815 : decode (m_code mL_law) 815 = .ok (.invokevirtual 94, 3) := by decide +kernel
theorem dL_law_818 : decode (m_code mL_law) 818 = .ok (.if_icmp .eq 739, 3) := by decide +kernel
theorem dL_law_821 : decode (m_code mL_law) 821 = .ok (.iconst 0, 1) := by decide +kernel
theorem dL_law_822 : decode (m_code mL_law) 822 = .ok (.ireturn, 1) := by decide +kernel
theorem dL_law_823 : decode (m_code mL_law) 823 = .ok (.aload_n 1, 1) := by decide +kernel
theorem dL_law_824 : decode (m_code mL_law) 824 = .ok (.invokevirtual 95, 3) := by decide +kernel
theorem dL_law_827 : decode (m_code mL_law) 827 = .ok (.aload_n 2, 1) := by decide +kernel
theorem dL_law_828 : decode (m_code mL_law) 828 = .ok (.invokevirtual 99, 3) := by decide +kernel
theorem dL_law_831 : decode (m_code mL_law) 831 = .ok (.if_icmp .eq 726, 3) := by decide +kernel
theorem dL_law_834 : decode (m_code mL_law) 834 = .ok (.iconst 0, 1) := by decide +kernel
theorem dL_law_835 : decode (m_code mL_law) 835 = .ok (.ireturn, 1) := by decide +kernel
theorem dL_law_836 : decode (m_code mL_law) 836 = .ok (.aload_n 1, 1) := by decide +kernel
theorem dL_law_837 : decode (m_code mL_law) 837 = .ok (.aload_n 0, 1) := by decide +kernel
theorem dL_law_838 : decode (m_code mL_law) 838 = .ok (.iload_n 3, 1) := by decide +kernel
theorem dL_law_839 : decode (m_code mL_law) 839 = .ok (.iconst 1, 1) := by decide +kernel
theorem dL_law_840 : decode (m_code mL_law) 840 = .ok (.iadd, 1) := by decide +kernel
theorem dL_law_841 : decode (m_code mL_law) 841 = .ok (.iaload, 1) := by decide +kernel
theorem dL_law_842 : decode (m_code mL_law) 842 = .ok (.invokevirtual 100, 3) := by decide +kernel
theorem dL_law_845 : decode (m_code mL_law) 845 = .ok (.aload_n 2, 1) := by decide +kernel
theorem dL_law_846 : decode (m_code mL_law) 846 = .ok (.aload_n 0, 1) := by decide +kernel
theorem dL_law_847 : decode (m_code mL_law) 847 = .ok (.iload_n 3, 1) := by decide +kernel
theorem dL_law_848 : decode (m_code mL_law) 848 = .ok (.iconst 1, 1) := by decide +kernel
theorem dL_law_849 : decode (m_code mL_law) 849 = .ok (.iadd, 1) := by decide +kernel
theorem dL_law_850 : decode (m_code mL_law) 850 = .ok (.iaload, 1) := by decide +kernel
theorem dL_law_851 : decode (m_code mL_law) 851 = .ok (.invokevirtual 103, 3) := by decide +kernel
theorem dL_law_854 : decode (m_code mL_law) 854 = .ok (.if_icmp .eq 703, 3) := by decide +kernel
theorem dL_law_857 : decode (m_code mL_law) 857 = .ok (.iconst 0, 1) := by decide +kernel
theorem dL_law_858 : decode (m_code mL_law) 858 = .ok (.ireturn, 1) := by decide +kernel
theorem dL_law_859 : decode (m_code mL_law) 859 = .ok (.aload_n 1, 1) := by decide +kernel
theorem dL_law_860 : decode (m_code mL_law) 860 = .ok (.aload_n 0, 1) := by decide +kernel
theorem dL_law_861 : decode (m_code mL_law) 861 = .ok (.iload_n 3, 1) := by decide +kernel
theorem dL_law_862 : decode (m_code mL_law) 862 = .ok (.iconst 1, 1) := by decide +kernel
theorem dL_law_863 : decode (m_code mL_law) 863 = .ok (.iadd, 1) := by decide +kernel
theorem dL_law_864 : decode (m_code mL_law) 864 = .ok (.iaload, 1) := by decide +kernel
theorem dL_law_865 : decode (m_code mL_law) 865 = .ok (.invokevirtual 104, 3) := by decide +kernel
theorem dL_law_868 : decode (m_code mL_law) 868 = .ok (.aload_n 2, 1) := by decide +kernel
theorem dL_law_869 : decode (m_code mL_law) 869 = .ok (.aload_n 0, 1) := by decide +kernel
theorem dL_law_870 : decode (m_code mL_law) 870 = .ok (.iload_n 3, 1) := by decide +kernel
theorem dL_law_871 : decode (m_code mL_law) 871 = .ok (.iconst 1, 1) := by decide +kernel
theorem dL_law_872 : decode (m_code mL_law) 872 = .ok (.iadd, 1) := by decide +kernel
theorem dL_law_873 : decode (m_code mL_law) 873 = .ok (.iaload, 1) := by decide +kernel
theorem dL_law_874 : decode (m_code mL_law) 874 = .ok (.invokevirtual 107, 3) := by decide +kernel
theorem dL_law_877 : decode (m_code mL_law) 877 = .ok (.if_icmp .eq 680, 3) := by decide +kernel
theorem dL_law_880 : decode (m_code mL_law) 880 = .ok (.iconst 0, 1) := by decide +kernel
theorem dL_law_881 : decode (m_code mL_law) 881 = .ok (.ireturn, 1) := by decide +kernel
theorem dL_law_882 : decode (m_code mL_law) 882 = .ok (.aload_n 1, 1) := by decide +kernel
theorem dL_law_883 : decode (m_code mL_law) 883 = .ok (.aload_n 0, 1) := by decide +kernel
theorem dL_law_884 : decode (m_code mL_law) 884 = .ok (.iload_n 3, 1) := by decide +kernel
theorem dL_law_885 : decode (m_code mL_law) 885 = .ok (.iconst 1, 1) := by decide +kernel
theorem dL_law_886 : decode (m_code mL_law) 886 = .ok (.iadd, 1) := by decide +kernel
theorem dL_law_887 : decode (m_code mL_law) 887 = .ok (.iaload, 1) := by decide +kernel
theorem dL_law_888 : decode (m_code mL_law) 888 = .ok (.aload_n 0, 1) := by decide +kernel
theorem dL_law_889 : decode (m_code mL_law) 889 = .ok (.iload_n 3, 1) := by decide +kernel
theorem dL_law_890 : decode (m_code mL_law) 890 = .ok (.iconst 2, 1) := by decide +kernel
theorem dL_law_891 : decode (m_code mL_law) 891 = .ok (.iadd, 1) := by decide +kernel
theorem dL_law_892 : decode (m_code mL_law) 892 = .ok (.iaload, 1) := by decide +kernel
theorem dL_law_893 : decode (m_code mL_law) 893 = .ok (.invokevirtual 108, 3) := by decide +kernel
theorem dL_law_896 : decode (m_code mL_law) 896 = .ok (.aload_n 2, 1) := by decide +kernel
theorem dL_law_897 : decode (m_code mL_law) 897 = .ok (.aload_n 0, 1) := by decide +kernel
theorem dL_law_898 : decode (m_code mL_law) 898 = .ok (.iload_n 3, 1) := by decide +kernel
theorem dL_law_899 : decode (m_code mL_law) 899 = .ok (.iconst 1, 1) := by decide +kernel
theorem dL_law_900 : decode (m_code mL_law) 900 = .ok (.iadd, 1) := by decide +kernel
theorem dL_law_901 : decode (m_code mL_law) 901 = .ok (.iaload, 1) := by decide +kernel
theorem dL_law_902 : decode (m_code mL_law) 902 = .ok (.aload_n 0, 1) := by decide +kernel
theorem dL_law_903 : decode (m_code mL_law) 903 = .ok (.iload_n 3, 1) := by decide +kernel
theorem dL_law_904 : decode (m_code mL_law) 904 = .ok (.iconst 2, 1) := by decide +kernel
theorem dL_law_905 : decode (m_code mL_law) 905 = .ok (.iadd, 1) := by decide +kernel
theorem dL_law_906 : decode (m_code mL_law) 906 = .ok (.iaload, 1) := by decide +kernel
theorem dL_law_907 : decode (m_code mL_law) 907 = .ok (.invokevirtual 111, 3) := by decide +kernel
theorem dL_law_910 : decode (m_code mL_law) 910 = .ok (.if_icmp .eq 647, 3) := by decide +kernel
theorem dL_law_913 : decode (m_code mL_law) 913 = .ok (.iconst 0, 1) := by decide +kernel
theorem dL_law_914 : decode (m_code mL_law) 914 = .ok (.ireturn, 1) := by decide +kernel
theorem dL_law_915 : decode (m_code mL_law) 915 = .ok (.aload_n 1, 1) := by decide +kernel
theorem dL_law_916 : decode (m_code mL_law) 916 = .ok (.aload_n 0, 1) := by decide +kernel
theorem dL_law_917 : decode (m_code mL_law) 917 = .ok (.iload_n 3, 1) := by decide +kernel
theorem dL_law_918 : decode (m_code mL_law) 918 = .ok (.iconst 1, 1) := by decide +kernel
theorem dL_law_919 : decode (m_code mL_law) 919 = .ok (.iadd, 1) := by decide +kernel
theorem dL_law_920 : decode (m_code mL_law) 920 = .ok (.iaload, 1) := by decide +kernel
theorem dL_law_921 : decode (m_code mL_law) 921 = .ok (.aload_n 0, 1) := by decide +kernel
theorem dL_law_922 : decode (m_code mL_law) 922 = .ok (.iload_n 3, 1) := by decide +kernel
theorem dL_law_923 : decode (m_code mL_law) 923 = .ok (.iconst 2, 1) := by decide +kernel
theorem dL_law_924 : decode (m_code mL_law) 924 = .ok (.iadd, 1) := by decide +kernel
theorem dL_law_925 : decode (m_code mL_law) 925 = .ok (.iaload, 1) := by decide +kernel
theorem dL_law_926 : decode (m_code mL_law) 926 = .ok (.invokevirtual 112, 3) := by decide +kernel
theorem dL_law_929 : decode (m_code mL_law) 929 = .ok (.aload_n 2, 1) := by decide +kernel
theorem dL_law_930 : decode (m_code mL_law) 930 = .ok (.aload_n 0, 1) := by decide +kernel
theorem dL_law_931 : decode (m_code mL_law) 931 = .ok (.iload_n 3, 1) := by decide +kernel
theorem dL_law_932 : decode (m_code mL_law) 932 = .ok (.iconst 1, 1) := by decide +kernel
theorem dL_law_933 : decode (m_code mL_law) 933 = .ok (.iadd, 1) := by decide +kernel
theorem dL_law_934 : decode (m_code mL_law) 934 = .ok (.iaload, 1) := by decide +kernel
theorem dL_law_935 : decode (m_code mL_law) 935 = .ok (.aload_n 0, 1) := by decide +kernel
theorem dL_law_936 : decode (m_code mL_law) 936 = .ok (.iload_n 3, 1) := by decide +kernel
theorem dL_law_937 : decode (m_code mL_law) 937 = .ok (.iconst 2, 1) := by decide +kernel
theorem dL_law_938 : decode (m_code mL_law) 938 = .ok (.iadd, 1) := by decide +kernel
theorem dL_law_939 : decode (m_code mL_law) 939 = .ok (.iaload, 1) := by decide +kernel
theorem dL_law_940 : decode (m_code mL_law) 940 = .ok (.invokevirtual 115, 3) := by decide +kernel
theorem dL_law_943 : decode (m_code mL_law) 943 = .ok (.if_icmp .eq 614, 3) := by decide +kernel
theorem dL_law_946 : decode (m_code mL_law) 946 = .ok (.iconst 0, 1) := by decide +kernel
theorem dL_law_947 : decode (m_code mL_law) 947 = .ok (.ireturn, 1) := by decide +kernel
theorem dL_law_948 : decode (m_code mL_law) 948 = .ok (.aload_n 1, 1) := by decide +kernel
theorem dL_law_949 : decode (m_code mL_law) 949 = .ok (.aload_n 0, 1) := by decide +kernel
theorem dL_law_950 : decode (m_code mL_law) 950 = .ok (.iload_n 3, 1) := by decide +kernel
theorem dL_law_951 : decode (m_code mL_law) 951 = .ok (.iconst 1, 1) := by decide +kernel
theorem dL_law_952 : decode (m_code mL_law) 952 = .ok (.iadd, 1) := by decide +kernel
theorem dL_law_953 : decode (m_code mL_law) 953 = .ok (.iaload, 1) := by decide +kernel
theorem dL_law_954 : decode (m_code mL_law) 954 = .ok (.aload_n 0, 1) := by decide +kernel
theorem dL_law_955 : decode (m_code mL_law) 955 = .ok (.iload_n 3, 1) := by decide +kernel
theorem dL_law_956 : decode (m_code mL_law) 956 = .ok (.iconst 2, 1) := by decide +kernel
theorem dL_law_957 : decode (m_code mL_law) 957 = .ok (.iadd, 1) := by decide +kernel
theorem dL_law_958 : decode (m_code mL_law) 958 = .ok (.iaload, 1) := by decide +kernel
theorem dL_law_959 : decode (m_code mL_law) 959 = .ok (.invokevirtual 116, 3) := by decide +kernel
theorem dL_law_962 : decode (m_code mL_law) 962 = .ok (.aload_n 2, 1) := by decide +kernel
theorem dL_law_963 : decode (m_code mL_law) 963 = .ok (.aload_n 0, 1) := by decide +kernel
theorem dL_law_964 : decode (m_code mL_law) 964 = .ok (.iload_n 3, 1) := by decide +kernel
theorem dL_law_965 : decode (m_code mL_law) 965 = .ok (.iconst 1, 1) := by decide +kernel
theorem dL_law_966 : decode (m_code mL_law) 966 = .ok (.iadd, 1) := by decide +kernel
theorem dL_law_967 : decode (m_code mL_law) 967 = .ok (.iaload, 1) := by decide +kernel
theorem dL_law_968 : decode (m_code mL_law) 968 = .ok (.aload_n 0, 1) := by decide +kernel
theorem dL_law_969 : decode (m_code mL_law) 969 = .ok (.iload_n 3, 1) := by decide +kernel
theorem dL_law_970 : decode (m_code mL_law) 970 = .ok (.iconst 2, 1) := by decide +kernel
theorem dL_law_971 : decode (m_code mL_law) 971 = .ok (.iadd, 1) := by decide +kernel
theorem dL_law_972 : decode (m_code mL_law) 972 = .ok (.iaload, 1) := by decide +kernel
theorem dL_law_973 : decode (m_code mL_law) 973 = .ok (.invokevirtual 119, 3) := by decide +kernel
theorem dL_law_976 : decode (m_code mL_law) 976 = .ok (.if_icmp .eq 581, 3) := by decide +kernel
theorem dL_law_979 : decode (m_code mL_law) 979 = .ok (.iconst 0, 1) := by decide +kernel
theorem dL_law_980 : decode (m_code mL_law) 980 = .ok (.ireturn, 1) := by decide +kernel
theorem dL_law_981 : decode (m_code mL_law) 981 = .ok (.aload_n 1, 1) := by decide +kernel
theorem dL_law_982 : decode (m_code mL_law) 982 = .ok (.aload_n 0, 1) := by decide +kernel
theorem dL_law_983 : decode (m_code mL_law) 983 = .ok (.iload_n 3, 1) := by decide +kernel
theorem dL_law_984 : decode (m_code mL_law) 984 = .ok (.iconst 1, 1) := by decide +kernel
theorem dL_law_985 : decode (m_code mL_law) 985 = .ok (.iadd, 1) := by decide +kernel
theorem dL_law_986 : decode (m_code mL_law) 986 = .ok (.iaload, 1) := by decide +kernel
theorem dL_law_987 : decode (m_code mL_law) 987 = .ok (.aload_n 0, 1) := by decide +kernel
theorem dL_law_988 : decode (m_code mL_law) 988 = .ok (.iload_n 3, 1) := by decide +kernel
theorem dL_law_989 : decode (m_code mL_law) 989 = .ok (.iconst 2, 1) := by decide +kernel
theorem dL_law_990 : decode (m_code mL_law) 990 = .ok (.iadd, 1) := by decide +kernel
theorem dL_law_991 : decode (m_code mL_law) 991 = .ok (.iaload, 1) := by decide +kernel
theorem dL_law_992 : decode (m_code mL_law) 992 = .ok (.invokevirtual 120, 3) := by decide +kernel
theorem dL_law_995 : decode (m_code mL_law) 995 = .ok (.aload_n 2, 1) := by decide +kernel
theorem dL_law_996 : decode (m_code mL_law) 996 = .ok (.aload_n 0, 1) := by decide +kernel
theorem dL_law_997 : decode (m_code mL_law) 997 = .ok (.iload_n 3, 1) := by decide +kernel
theorem dL_law_998 : decode (m_code mL_law) 998 = .ok (.iconst 1, 1) := by decide +kernel
theorem dL_law_999 : decode (m_code mL_law) 999 = .ok (.iadd, 1) := by decide +kernel
theorem dL_law_1000 : decode (m_code mL_law) 1000 = .ok (.iaload, 1) := by decide +kernel
theorem dL_law_1001 : decode (m_code mL_law) 1001 = .ok (.aload_n 0, 1) := by decide +kernel
theorem dL_law_1002 : decode (m_code mL_law) 1002 = .ok (.iload_n 3, 1) := by decide +kernel
theorem dL_law_1003 : decode (m_code mL_law) 1003 = .ok (.iconst 2, 1) := by decide +kernel
theorem dL_law_1004 : decode (m_code mL_law) 1004 = .ok (.iadd, 1) := by decide +kernel
theorem dL_law_1005 : decode (m_code mL_law) 1005 = .ok (.iaload, 1) := by decide +kernel
theorem dL_law_1006 : decode (m_code mL_law) 1006 = .ok (.invokevirtual 123, 3) := by decide +kernel
theorem dL_law_1009 : decode (m_code mL_law) 1009 = .ok (.if_icmp .eq 548, 3) := by decide +kernel
theorem dL_law_1012 : decode (m_code mL_law) 1012 = .ok (.iconst 0, 1) := by decide +kernel
theorem dL_law_1013 : decode (m_code mL_law) 1013 = .ok (.ireturn, 1) := by decide +kernel
theorem dL_law_1014 : decode (m_code mL_law) 1014 = .ok (.aload_n 1, 1) := by decide +kernel
theorem dL_law_1015 : decode (m_code mL_law) 1015 = .ok (.aload_n 0, 1) := by decide +kernel
theorem dL_law_1016 : decode (m_code mL_law) 1016 = .ok (.iload_n 3, 1) := by decide +kernel
theorem dL_law_1017 : decode (m_code mL_law) 1017 = .ok (.iconst 1, 1) := by decide +kernel
theorem dL_law_1018 : decode (m_code mL_law) 1018 = .ok (.iadd, 1) := by decide +kernel
theorem dL_law_1019 : decode (m_code mL_law) 1019 = .ok (.iaload, 1) := by decide +kernel
theorem dL_law_1020 : decode (m_code mL_law) 1020 = .ok (.aload_n 0, 1) := by decide +kernel
theorem dL_law_1021 : decode (m_code mL_law) 1021 = .ok (.iload_n 3, 1) := by decide +kernel
theorem dL_law_1022 : decode (m_code mL_law) 1022 = .ok (.iconst 2, 1) := by decide +kernel
theorem dL_law_1023 : decode (m_code mL_law) 1023 = .ok (.iadd, 1) := by decide +kernel
theorem dL_law_1024 : decode (m_code mL_law) 1024 = .ok (.iaload, 1) := by decide +kernel
theorem dL_law_1025 : decode (m_code mL_law) 1025 = .ok (.invokevirtual 124, 3) := by decide +kernel
theorem dL_law_1028 : decode (m_code mL_law) 1028 = .ok (.aload_n 2, 1) := by decide +kernel
theorem dL_law_1029 : decode (m_code mL_law) 1029 = .ok (.aload_n 0, 1) := by decide +kernel
theorem dL_law_1030 : decode (m_code mL_law) 1030 = .ok (.iload_n 3, 1) := by decide +kernel
theorem dL_law_1031 : decode (m_code mL_law) 1031 = .ok (.iconst 1, 1) := by decide +kernel
theorem dL_law_1032 : decode (m_code mL_law) 1032 = .ok (.iadd, 1) := by decide +kernel
theorem dL_law_1033 : decode (m_code mL_law) 1033 = .ok (.iaload, 1) := by decide +kernel
theorem dL_law_1034 : decode (m_code mL_law) 1034 = .ok (.aload_n 0, 1) := by decide +kernel
theorem dL_law_1035 : decode (m_code mL_law) 1035 = .ok (.iload_n 3, 1) := by decide +kernel
theorem dL_law_1036 : decode (m_code mL_law) 1036 = .ok (.iconst 2, 1) := by decide +kernel
theorem dL_law_1037 : decode (m_code mL_law) 1037 = .ok (.iadd, 1) := by decide +kernel
theorem dL_law_1038 : decode (m_code mL_law) 1038 = .ok (.iaload, 1) := by decide +kernel
theorem dL_law_1039 : decode (m_code mL_law) 1039 = .ok (.invokevirtual 127, 3) := by decide +kernel
theorem dL_law_1042 : decode (m_code mL_law) 1042 = .ok (.if_icmp .eq 515, 3) := by decide +kernel
theorem dL_law_1045 : decode (m_code mL_law) 1045 = .ok (.iconst 0, 1) := by decide +kernel
theorem dL_law_1046 : decode (m_code mL_law) 1046 = .ok (.ireturn, 1) := by decide +kernel
theorem dL_law_1047 : decode (m_code mL_law) 1047 = .ok (.aload_n 1, 1) := by decide +kernel
theorem dL_law_1048 : decode (m_code mL_law) 1048 = .ok (.aload_n 0, 1) := by decide +kernel
theorem dL_law_1049 : decode (m_code mL_law) 1049 = .ok (.iload_n 3, 1) := by decide +kernel
theorem dL_law_1050 : decode (m_code mL_law) 1050 = .ok (.iconst 1, 1) := by decide +kernel
theorem dL_law_1051 : decode (m_code mL_law) 1051 = .ok (.iadd, 1) := by decide +kernel
theorem dL_law_1052 : decode (m_code mL_law) 1052 = .ok (.iaload, 1) := by decide +kernel
theorem dL_law_1053 : decode (m_code mL_law) 1053 = .ok (.aload_n 0, 1) := by decide +kernel
theorem dL_law_1054 : decode (m_code mL_law) 1054 = .ok (.iload_n 3, 1) := by decide +kernel
theorem dL_law_1055 : decode (m_code mL_law) 1055 = .ok (.iconst 2, 1) := by decide +kernel
theorem dL_law_1056 : decode (m_code mL_law) 1056 = .ok (.iadd, 1) := by decide +kernel
theorem dL_law_1057 : decode (m_code mL_law) 1057 = .ok (.iaload, 1) := by decide +kernel
theorem dL_law_1058 : decode (m_code mL_law) 1058 = .ok (.invokevirtual 128, 3) := by decide +kernel
theorem dL_law_1061 : decode (m_code mL_law) 1061 = .ok (.aload_n 2, 1) := by decide +kernel
theorem dL_law_1062 : decode (m_code mL_law) 1062 = .ok (.aload_n 0, 1) := by decide +kernel
theorem dL_law_1063 : decode (m_code mL_law) 1063 = .ok (.iload_n 3, 1) := by decide +kernel
theorem dL_law_1064 : decode (m_code mL_law) 1064 = .ok (.iconst 1, 1) := by decide +kernel
theorem dL_law_1065 : decode (m_code mL_law) 1065 = .ok (.iadd, 1) := by decide +kernel
theorem dL_law_1066 : decode (m_code mL_law) 1066 = .ok (.iaload, 1) := by decide +kernel
theorem dL_law_1067 : decode (m_code mL_law) 1067 = .ok (.aload_n 0, 1) := by decide +kernel
theorem dL_law_1068 : decode (m_code mL_law) 1068 = .ok (.iload_n 3, 1) := by decide +kernel
theorem dL_law_1069 : decode (m_code mL_law) 1069 = .ok (.iconst 2, 1) := by decide +kernel
theorem dL_law_1070 : decode (m_code mL_law) 1070 = .ok (.iadd, 1) := by decide +kernel
theorem dL_law_1071 : decode (m_code mL_law) 1071 = .ok (.iaload, 1) := by decide +kernel
theorem dL_law_1072 : decode (m_code mL_law) 1072 = .ok (.invokevirtual 131, 3) := by decide +kernel
theorem dL_law_1075 : decode (m_code mL_law) 1075 = .ok (.if_icmp .eq 482, 3) := by decide +kernel
theorem dL_law_1078 : decode (m_code mL_law) 1078 = .ok (.iconst 0, 1) := by decide +kernel
theorem dL_law_1079 : decode (m_code mL_law) 1079 = .ok (.ireturn, 1) := by decide +kernel
theorem dL_law_1080 : decode (m_code mL_law) 1080 = .ok (.aload_n 1, 1) := by decide +kernel
theorem dL_law_1081 : decode (m_code mL_law) 1081 = .ok (.aload_n 0, 1) := by decide +kernel
theorem dL_law_1082 : decode (m_code mL_law) 1082 = .ok (.iload_n 3, 1) := by decide +kernel
theorem dL_law_1083 : decode (m_code mL_law) 1083 = .ok (.iconst 1, 1) := by decide +kernel
theorem dL_law_1084 : decode (m_code mL_law) 1084 = .ok (.iadd, 1) := by decide +kernel
theorem dL_law_1085 : decode (m_code mL_law) 1085 = .ok (.iaload, 1) := by decide +kernel
theorem dL_law_1086 : decode (m_code mL_law) 1086 = .ok (.aload_n 0, 1) := by decide +kernel
theorem dL_law_1087 : decode (m_code mL_law) 1087 = .ok (.iload_n 3, 1) := by decide +kernel
theorem dL_law_1088 : decode (m_code mL_law) 1088 = .ok (.iconst 2, 1) := by decide +kernel
theorem dL_law_1089 : decode (m_code mL_law) 1089 = .ok (.iadd, 1) := by decide +kernel
theorem dL_law_1090 : decode (m_code mL_law) 1090 = .ok (.iaload, 1) := by decide +kernel
theorem dL_law_1091 : decode (m_code mL_law) 1091 = .ok (.invokevirtual 132, 3) := by decide +kernel
theorem dL_law_1094 : decode (m_code mL_law) 1094 = .ok (.aload_n 2, 1) := by decide +kernel
theorem dL_law_1095 : decode (m_code mL_law) 1095 = .ok (.aload_n 0, 1) := by decide +kernel
theorem dL_law_1096 : decode (m_code mL_law) 1096 = .ok (.iload_n 3, 1) := by decide +kernel
theorem dL_law_1097 : decode (m_code mL_law) 1097 = .ok (.iconst 1, 1) := by decide +kernel
theorem dL_law_1098 : decode (m_code mL_law) 1098 = .ok (.iadd, 1) := by decide +kernel
theorem dL_law_1099 : decode (m_code mL_law) 1099 = .ok (.iaload, 1) := by decide +kernel
theorem dL_law_1100 : decode (m_code mL_law) 1100 = .ok (.aload_n 0, 1) := by decide +kernel
theorem dL_law_1101 : decode (m_code mL_law) 1101 = .ok (.iload_n 3, 1) := by decide +kernel
theorem dL_law_1102 : decode (m_code mL_law) 1102 = .ok (.iconst 2, 1) := by decide +kernel
theorem dL_law_1103 : decode (m_code mL_law) 1103 = .ok (.iadd, 1) := by decide +kernel
theorem dL_law_1104 : decode (m_code mL_law) 1104 = .ok (.iaload, 1) := by decide +kernel
theorem dL_law_1105 : decode (m_code mL_law) 1105 = .ok (.invokevirtual 135, 3) := by decide +kernel
theorem dL_law_1108 : decode (m_code mL_law) 1108 = .ok (.if_icmp .eq 449, 3) := by decide +kernel
theorem dL_law_1111 : decode (m_code mL_law) 1111 = .ok (.iconst 0, 1) := by decide +kernel
theorem dL_law_1112 : decode (m_code mL_law) 1112 = .ok (.ireturn, 1) := by decide +kernel
theorem dL_law_1113 : decode (m_code mL_law) 1113 = .ok (.aload_n 1, 1) := by decide +kernel
theorem dL_law_1114 : decode (m_code mL_law) 1114 = .ok (.aload_n 0, 1) := by decide +kernel
theorem dL_law_1115 : decode (m_code mL_law) 1115 = .ok (.iload_n 3, 1) := by decide +kernel
theorem dL_law_1116 : decode (m_code mL_law) 1116 = .ok (.iconst 1, 1) := by decide +kernel
theorem dL_law_1117 : decode (m_code mL_law) 1117 = .ok (.iadd, 1) := by decide +kernel
theorem dL_law_1118 : decode (m_code mL_law) 1118 = .ok (.iaload, 1) := by decide +kernel
theorem dL_law_1119 : decode (m_code mL_law) 1119 = .ok (.aload_n 0, 1) := by decide +kernel
theorem dL_law_1120 : decode (m_code mL_law) 1120 = .ok (.iload_n 3, 1) := by decide +kernel
theorem dL_law_1121 : decode (m_code mL_law) 1121 = .ok (.iconst 2, 1) := by decide +kernel
theorem dL_law_1122 : decode (m_code mL_law) 1122 = .ok (.iadd, 1) := by decide +kernel
theorem dL_law_1123 : decode (m_code mL_law) 1123 = .ok (.iaload, 1) := by decide +kernel
theorem dL_law_1124 : decode (m_code mL_law) 1124 = .ok (.invokevirtual 136, 3) := by decide +kernel
theorem dL_law_1127 : decode (m_code mL_law) 1127 = .ok (.aload_n 2, 1) := by decide +kernel
theorem dL_law_1128 : decode (m_code mL_law) 1128 = .ok (.aload_n 0, 1) := by decide +kernel
theorem dL_law_1129 : decode (m_code mL_law) 1129 = .ok (.iload_n 3, 1) := by decide +kernel
theorem dL_law_1130 : decode (m_code mL_law) 1130 = .ok (.iconst 1, 1) := by decide +kernel
theorem dL_law_1131 : decode (m_code mL_law) 1131 = .ok (.iadd, 1) := by decide +kernel
theorem dL_law_1132 : decode (m_code mL_law) 1132 = .ok (.iaload, 1) := by decide +kernel
theorem dL_law_1133 : decode (m_code mL_law) 1133 = .ok (.aload_n 0, 1) := by decide +kernel
theorem dL_law_1134 : decode (m_code mL_law) 1134 = .ok (.iload_n 3, 1) := by decide +kernel
theorem dL_law_1135 : decode (m_code mL_law) 1135 = .ok (.iconst 2, 1) := by decide +kernel
theorem dL_law_1136 : decode (m_code mL_law) 1136 = .ok (.iadd, 1) := by decide +kernel
theorem dL_law_1137 : decode (m_code mL_law) 1137 = .ok (.iaload, 1) := by decide +kernel
theorem dL_law_1138 : decode (m_code mL_law) 1138 = .ok (.invokevirtual 139, 3) := by decide +kernel
theorem dL_law_1141 : decode (m_code mL_law) 1141 = .ok (.if_icmp .eq 416, 3) := by decide +kernel
theorem dL_law_1144 : decode (m_code mL_law) 1144 = .ok (.iconst 0, 1) := by decide +kernel
theorem dL_law_1145 : decode (m_code mL_law) 1145 = .ok (.ireturn, 1) := by decide +kernel
theorem dL_law_1146 : decode (m_code mL_law) 1146 = .ok (.aload_n 1, 1) := by decide +kernel
theorem dL_law_1147 : decode (m_code mL_law) 1147 = .ok (.aload_n 0, 1) := by decide +kernel
theorem dL_law_1148 : decode (m_code mL_law) 1148 = .ok (.iload_n 3, 1) := by decide +kernel
theorem dL_law_1149 : decode (m_code mL_law) 1149 = .ok (.iconst 1, 1) := by decide +kernel
theorem dL_law_1150 : decode (m_code mL_law) 1150 = .ok (.iadd, 1) := by decide +kernel
theorem dL_law_1151 : decode (m_code mL_law) 1151 = .ok (.iaload, 1) := by decide +kernel
theorem dL_law_1152 : decode (m_code mL_law) 1152 = .ok (.aload_n 0, 1) := by decide +kernel
theorem dL_law_1153 : decode (m_code mL_law) 1153 = .ok (.iload_n 3, 1) := by decide +kernel
theorem dL_law_1154 : decode (m_code mL_law) 1154 = .ok (.iconst 2, 1) := by decide +kernel
theorem dL_law_1155 : decode (m_code mL_law) 1155 = .ok (.iadd, 1) := by decide +kernel
theorem dL_law_1156 : decode (m_code mL_law) 1156 = .ok (.iaload, 1) := by decide +kernel
theorem dL_law_1157 : decode (m_code mL_law) 1157 = .ok (.ifCond .eq 7, 3) := by decide +kernel
theorem dL_law_1160 : decode (m_code mL_law) 1160 = .ok (.iconst 1, 1) := by decide +kernel
theorem dL_law_1161 : decode (m_code mL_law) 1161 = .ok (.goto 4, 3) := by decide +kernel
theorem dL_law_1164 : decode (m_code mL_law) 1164 = .ok (.iconst 0, 1) := by decide +kernel
theorem dL_law_1165 : decode (m_code mL_law) 1165 = .ok (.aload_n 0, 1) := by decide +kernel
theorem dL_law_1166 : decode (m_code mL_law) 1166 = .ok (.iload_n 3, 1) := by decide +kernel
theorem dL_law_1167 : decode (m_code mL_law) 1167 = .ok (.iconst 3, 1) := by decide +kernel
theorem dL_law_1168 : decode (m_code mL_law) 1168 = .ok (.iadd, 1) := by decide +kernel
theorem dL_law_1169 : decode (m_code mL_law) 1169 = .ok (.iaload, 1) := by decide +kernel
theorem dL_law_1170 : decode (m_code mL_law) 1170 = .ok (.invokevirtual 140, 3) := by decide +kernel
theorem dL_law_1173 : decode (m_code mL_law) 1173 = .ok (.aload_n 2, 1) := by decide +kernel
theorem dL_law_1174 : decode (m_code mL_law) 1174 = .ok (.aload_n 0, 1) := by decide +kernel
theorem dL_law_1175 : decode (m_code mL_law) 1175 = .ok (.iload_n 3, 1) := by decide +kernel
theorem dL_law_1176 : decode (m_code mL_law) 1176 = .ok (.iconst 1, 1) := by decide +kernel
theorem dL_law_1177 : decode (m_code mL_law) 1177 = .ok (.iadd, 1) := by decide +kernel
theorem dL_law_1178 : decode (m_code mL_law) 1178 = .ok (.iaload, 1) := by decide +kernel
theorem dL_law_1179 : decode (m_code mL_law) 1179 = .ok (.aload_n 0, 1) := by decide +kernel
theorem dL_law_1180 : decode (m_code mL_law) 1180 = .ok (.iload_n 3, 1) := by decide +kernel
theorem dL_law_1181 : decode (m_code mL_law) 1181 = .ok (.iconst 2, 1) := by decide +kernel
theorem dL_law_1182 : decode (m_code mL_law) 1182 = .ok (.iadd, 1) := by decide +kernel
theorem dL_law_1183 : decode (m_code mL_law) 1183 = .ok (.iaload, 1) := by decide +kernel
theorem dL_law_1184 : decode (m_code mL_law) 1184 = .ok (.ifCond .eq 7, 3) := by decide +kernel
theorem dL_law_1187 : decode (m_code mL_law) 1187 = .ok (.iconst 1, 1) := by decide +kernel
theorem dL_law_1188 : decode (m_code mL_law) 1188 = .ok (.goto 4, 3) := by decide +kernel
theorem dL_law_1191 : decode (m_code mL_law) 1191 = .ok (.iconst 0, 1) := by decide +kernel
theorem dL_law_1192 : decode (m_code mL_law) 1192 = .ok (.aload_n 0, 1) := by decide +kernel
theorem dL_law_1193 : decode (m_code mL_law) 1193 = .ok (.iload_n 3, 1) := by decide +kernel
theorem dL_law_1194 : decode (m_code mL_law) 1194 = .ok (.iconst 3, 1) := by decide +kernel
theorem dL_law_1195 : decode (m_code mL_law) 1195 = .ok (.iadd, 1) := by decide +kernel
theorem dL_law_1196 : decode (m_code mL_law) 1196 = .ok (.iaload, 1) := by decide +kernel
theorem dL_law_1197 : decode (m_code mL_law) 1197 = .ok (.invokevirtual 144, 3) := by decide +kernel
theorem dL_law_1200 : decode (m_code mL_law) 1200 = .ok (.if_icmp .eq 357, 3) := by decide +kernel
theorem dL_law_1203 : decode (m_code mL_law) 1203 = .ok (.iconst 0, 1) := by decide +kernel
theorem dL_law_1204 : decode (m_code mL_law) 1204 = .ok (.ireturn, 1) := by decide +kernel
theorem dL_law_1205 : decode (m_code mL_law) 1205 = .ok (.aload_n 1, 1) := by decide +kernel
theorem dL_law_1206 : decode (m_code mL_law) 1206 = .ok (.aload_n 0, 1) := by decide +kernel
theorem dL_law_1207 : decode (m_code mL_law) 1207 = .ok (.iload_n 3, 1) := by decide +kernel
theorem dL_law_1208 : decode (m_code mL_law) 1208 = .ok (.iconst 1, 1) := by decide +kernel
theorem dL_law_1209 : decode (m_code mL_law) 1209 = .ok (.iadd, 1) := by decide +kernel
theorem dL_law_1210 : decode (m_code mL_law) 1210 = .ok (.iaload, 1) := by decide +kernel
theorem dL_law_1211 : decode (m_code mL_law) 1211 = .ok (.invokevirtual 145, 3) := by decide +kernel
theorem dL_law_1214 : decode (m_code mL_law) 1214 = .ok (.aload_n 2, 1) := by decide +kernel
theorem dL_law_1215 : decode (m_code mL_law) 1215 = .ok (.aload_n 0, 1) := by decide +kernel
theorem dL_law_1216 : decode (m_code mL_law) 1216 = .ok (.iload_n 3, 1) := by decide +kernel
theorem dL_law_1217 : decode (m_code mL_law) 1217 = .ok (.iconst 1, 1) := by decide +kernel
theorem dL_law_1218 : decode (m_code mL_law) 1218 = .ok (.iadd, 1) := by decide +kernel
theorem dL_law_1219 : decode (m_code mL_law) 1219 = .ok (.iaload, 1) := by decide +kernel
theorem dL_law_1220 : decode (m_code mL_law) 1220 = .ok (.invokevirtual 148, 3) := by decide +kernel
theorem dL_law_1223 : decode (m_code mL_law) 1223 = .ok (.if_icmp .eq 334, 3) := by decide +kernel
theorem dL_law_1226 : decode (m_code mL_law) 1226 = .ok (.iconst 0, 1) := by decide +kernel
theorem dL_law_1227 : decode (m_code mL_law) 1227 = .ok (.ireturn, 1) := by decide +kernel
theorem dL_law_1228 : decode (m_code mL_law) 1228 = .ok (.aload_n 1, 1) := by decide +kernel
theorem dL_law_1229 : decode (m_code mL_law) 1229 = .ok (.aload_n 0, 1) := by decide +kernel
theorem dL_law_1230 : decode (m_code mL_law) 1230 = .ok (.iload_n 3, 1) := by decide +kernel
theorem dL_law_1231 : decode (m_code mL_law) 1231 = .ok (.iconst 1, 1) := by decide +kernel
theorem dL_law_1232 : decode (m_code mL_law) 1232 = .ok (.iadd, 1) := by decide +kernel
theorem dL_law_1233 : decode (m_code mL_law) 1233 = .ok (.iaload, 1) := by decide +kernel
theorem dL_law_1234 : decode (m_code mL_law) 1234 = .ok (.invokevirtual 149, 3) := by decide +kernel
theorem dL_law_1237 : decode (m_code mL_law) 1237 = .ok (.aload_n 2, 1) := by decide +kernel
theorem dL_law_1238 : decode (m_code mL_law) 1238 = .ok (.aload_n 0, 1) := by decide +kernel
theorem dL_law_1239 : decode (m_code mL_law) 1239 = .ok (.iload_n 3, 1) := by decide +kernel
theorem dL_law_1240 : decode (m_code mL_law) 1240 = .ok (.iconst 1, 1) := by decide +kernel
theorem dL_law_1241 : decode (m_code mL_law) 1241 = .ok (.iadd, 1) := by decide +kernel
theorem dL_law_1242 : decode (m_code mL_law) 1242 = .ok (.iaload, 1) := by decide +kernel
theorem dL_law_1243 : decode (m_code mL_law) 1243 = .ok (.invokevirtual 152, 3) := by decide +kernel
theorem dL_law_1246 : decode (m_code mL_law) 1246 = .ok (.if_icmp .eq 311, 3) := by decide +kernel
theorem dL_law_1249 : decode (m_code mL_law) 1249 = .ok (.iconst 0, 1) := by decide +kernel
theorem dL_law_1250 : decode (m_code mL_law) 1250 = .ok (.ireturn, 1) := by decide +kernel
theorem dL_law_1251 : decode (m_code mL_law) 1251 = .ok (.aload_n 1, 1) := by decide +kernel
theorem dL_law_1252 : decode (m_code mL_law) 1252 = .ok (.aload_n 0, 1) := by decide +kernel
theorem dL_law_1253 : decode (m_code mL_law) 1253 = .ok (.iload_n 3, 1) := by decide +kernel
theorem dL_law_1254 : decode (m_code mL_law) 1254 = .ok (.iconst 1, 1) := by decide +kernel
theorem dL_law_1255 : decode (m_code mL_law) 1255 = .ok (.iadd, 1) := by decide +kernel
theorem dL_law_1256 : decode (m_code mL_law) 1256 = .ok (.iaload, 1) := by decide +kernel
theorem dL_law_1257 : decode (m_code mL_law) 1257 = .ok (.aload_n 0, 1) := by decide +kernel
theorem dL_law_1258 : decode (m_code mL_law) 1258 = .ok (.iload_n 3, 1) := by decide +kernel
theorem dL_law_1259 : decode (m_code mL_law) 1259 = .ok (.iconst 2, 1) := by decide +kernel
theorem dL_law_1260 : decode (m_code mL_law) 1260 = .ok (.iadd, 1) := by decide +kernel
theorem dL_law_1261 : decode (m_code mL_law) 1261 = .ok (.iaload, 1) := by decide +kernel
theorem dL_law_1262 : decode (m_code mL_law) 1262 = .ok (.invokevirtual 153, 3) := by decide +kernel
theorem dL_law_1265 : decode (m_code mL_law) 1265 = .ok (.aload_n 2, 1) := by decide +kernel
theorem dL_law_1266 : decode (m_code mL_law) 1266 = .ok (.aload_n 0, 1) := by decide +kernel
theorem dL_law_1267 : decode (m_code mL_law) 1267 = .ok (.iload_n 3, 1) := by decide +kernel
theorem dL_law_1268 : decode (m_code mL_law) 1268 = .ok (.iconst 1, 1) := by decide +kernel
theorem dL_law_1269 : decode (m_code mL_law) 1269 = .ok (.iadd, 1) := by decide +kernel
theorem dL_law_1270 : decode (m_code mL_law) 1270 = .ok (.iaload, 1) := by decide +kernel
theorem dL_law_1271 : decode (m_code mL_law) 1271 = .ok (.aload_n 0, 1) := by decide +kernel
theorem dL_law_1272 : decode (m_code mL_law) 1272 = .ok (.iload_n 3, 1) := by decide +kernel
theorem dL_law_1273 : decode (m_code mL_law) 1273 = .ok (.iconst 2, 1) := by decide +kernel
theorem dL_law_1274 : decode (m_code mL_law) 1274 = .ok (.iadd, 1) := by decide +kernel
theorem dL_law_1275 : decode (m_code mL_law) 1275 = .ok (.iaload, 1) := by decide +kernel
theorem dL_law_1276 : decode (m_code mL_law) 1276 = .ok (.invokevirtual 156, 3) := by decide +kernel
theorem dL_law_1279 : decode (m_code mL_law) 1279 = .ok (.if_icmp .eq 278, 3) := by decide +kernel
theorem dL_law_1282 : decode (m_code mL_law) 1282 = .ok (.iconst 0, 1) := by decide +kernel
theorem dL_law_1283 : decode (m_code mL_law) 1283 = .ok (.ireturn, 1) := by decide +kernel
theorem dL_law_1284 : decode (m_code mL_law) 1284 = .ok (.aload_n 1, 1) := by decide +kernel
theorem dL_law_1285 : decode (m_code mL_law) 1285 = .ok (.aload_n 0, 1) := by decide +kernel
theorem dL_law_1286 : decode (m_code mL_law) 1286 = .ok (.iload_n 3, 1) := by decide +kernel
theorem dL_law_1287 : decode (m_code mL_law) 1287 = .ok (.iconst 1, 1) := by decide +kernel
theorem dL_law_1288 : decode (m_code mL_law) 1288 = .ok (.iadd, 1) := by decide +kernel
theorem dL_law_1289 : decode (m_code mL_law) 1289 = .ok (.iaload, 1) := by decide +kernel
theorem dL_law_1290 : decode (m_code mL_law) 1290 = .ok (.aload_n 0, 1) := by decide +kernel
theorem dL_law_1291 : decode (m_code mL_law) 1291 = .ok (.iload_n 3, 1) := by decide +kernel
theorem dL_law_1292 : decode (m_code mL_law) 1292 = .ok (.iconst 2, 1) := by decide +kernel
theorem dL_law_1293 : decode (m_code mL_law) 1293 = .ok (.iadd, 1) := by decide +kernel
theorem dL_law_1294 : decode (m_code mL_law) 1294 = .ok (.iaload, 1) := by decide +kernel
theorem dL_law_1295 : decode (m_code mL_law) 1295 = .ok (.invokevirtual 157, 3) := by decide +kernel
theorem dL_law_1298 : decode (m_code mL_law) 1298 = .ok (.aload_n 2, 1) := by decide +kernel
theorem dL_law_1299 : decode (m_code mL_law) 1299 = .ok (.aload_n 0, 1) := by decide +kernel
theorem dL_law_1300 : decode (m_code mL_law) 1300 = .ok (.iload_n 3, 1) := by decide +kernel
theorem dL_law_1301 : decode (m_code mL_law) 1301 = .ok (.iconst 1, 1) := by decide +kernel
theorem dL_law_1302 : decode (m_code mL_law) 1302 = .ok (.iadd, 1) := by decide +kernel
theorem dL_law_1303 : decode (m_code mL_law) 1303 = .ok (.iaload, 1) := by decide +kernel
theorem dL_law_1304 : decode (m_code mL_law) 1304 = .ok (.aload_n 0, 1) := by decide +kernel
theorem dL_law_1305 : decode (m_code mL_law) 1305 = .ok (.iload_n 3, 1) := by decide +kernel
theorem dL_law_1306 : decode (m_code mL_law) 1306 = .ok (.iconst 2, 1) := by decide +kernel
theorem dL_law_1307 : decode (m_code mL_law) 1307 = .ok (.iadd, 1) := by decide +kernel
theorem dL_law_1308 : decode (m_code mL_law) 1308 = .ok (.iaload, 1) := by decide +kernel
theorem dL_law_1309 : decode (m_code mL_law) 1309 = .ok (.invokevirtual 160, 3) := by decide +kernel
theorem dL_law_1312 : decode (m_code mL_law) 1312 = .ok (.if_icmp .eq 245, 3) := by decide +kernel
theorem dL_law_1315 : decode (m_code mL_law) 1315 = .ok (.iconst 0, 1) := by decide +kernel
theorem dL_law_1316 : decode (m_code mL_law) 1316 = .ok (.ireturn, 1) := by decide +kernel
theorem dL_law_1317 : decode (m_code mL_law) 1317 = .ok (.aload_n 1, 1) := by decide +kernel
theorem dL_law_1318 : decode (m_code mL_law) 1318 = .ok (.aload_n 0, 1) := by decide +kernel
theorem dL_law_1319 : decode (m_code mL_law) 1319 = .ok (.iload_n 3, 1) := by decide +kernel
theorem dL_law_1320 : decode (m_code mL_law) 1320 = .ok (.iconst 1, 1) := by decide +kernel
theorem dL_law_1321 : decode (m_code mL_law) 1321 = .ok (.iadd, 1) := by decide +kernel
theorem dL_law_1322 : decode (m_code mL_law) 1322 = .ok (.iaload, 1) := by decide +kernel
theorem dL_law_1323 : decode (m_code mL_law) 1323 = .ok (.aload_n 0, 1) := by decide +kernel
theorem dL_law_1324 : decode (m_code mL_law) 1324 = .ok (.iload_n 3, 1) := by decide +kernel
theorem dL_law_1325 : decode (m_code mL_law) 1325 = .ok (.iconst 2, 1) := by decide +kernel
theorem dL_law_1326 : decode (m_code mL_law) 1326 = .ok (.iadd, 1) := by decide +kernel
theorem dL_law_1327 : decode (m_code mL_law) 1327 = .ok (.iaload, 1) := by decide +kernel
theorem dL_law_1328 : decode (m_code mL_law) 1328 = .ok (.invokevirtual 161, 3) := by decide +kernel
theorem dL_law_1331 : decode (m_code mL_law) 1331 = .ok (.aload_n 2, 1) := by decide +kernel
theorem dL_law_1332 : decode (m_code mL_law) 1332 = .ok (.aload_n 0, 1) := by decide +kernel
theorem dL_law_1333 : decode (m_code mL_law) 1333 = .ok (.iload_n 3, 1) := by decide +kernel
theorem dL_law_1334 : decode (m_code mL_law) 1334 = .ok (.iconst 1, 1) := by decide +kernel
theorem dL_law_1335 : decode (m_code mL_law) 1335 = .ok (.iadd, 1) := by decide +kernel
theorem dL_law_1336 : decode (m_code mL_law) 1336 = .ok (.iaload, 1) := by decide +kernel
theorem dL_law_1337 : decode (m_code mL_law) 1337 = .ok (.aload_n 0, 1) := by decide +kernel
theorem dL_law_1338 : decode (m_code mL_law) 1338 = .ok (.iload_n 3, 1) := by decide +kernel
theorem dL_law_1339 : decode (m_code mL_law) 1339 = .ok (.iconst 2, 1) := by decide +kernel
theorem dL_law_1340 : decode (m_code mL_law) 1340 = .ok (.iadd, 1) := by decide +kernel
theorem dL_law_1341 : decode (m_code mL_law) 1341 = .ok (.iaload, 1) := by decide +kernel
theorem dL_law_1342 : decode (m_code mL_law) 1342 = .ok (.invokevirtual 164, 3) := by decide +kernel
theorem dL_law_1345 : decode (m_code mL_law) 1345 = .ok (.if_icmp .eq 212, 3) := by decide +kernel
theorem dL_law_1348 : decode (m_code mL_law) 1348 = .ok (.iconst 0, 1) := by decide +kernel
theorem dL_law_1349 : decode (m_code mL_law) 1349 = .ok (.ireturn, 1) := by decide +kernel
theorem dL_law_1350 : decode (m_code mL_law) 1350 = .ok (.aload_n 1, 1) := by decide +kernel
theorem dL_law_1351 : decode (m_code mL_law) 1351 = .ok (.aload_n 0, 1) := by decide +kernel
theorem dL_law_1352 : decode (m_code mL_law) 1352 = .ok (.iload_n 3, 1) := by decide +kernel
theorem dL_law_1353 : decode (m_code mL_law) 1353 = .ok (.iconst 1, 1) := by decide +kernel
theorem dL_law_1354 : decode (m_code mL_law) 1354 = .ok (.iadd, 1) := by decide +kernel
theorem dL_law_1355 : decode (m_code mL_law) 1355 = .ok (.iaload, 1) := by decide +kernel
theorem dL_law_1356 : decode (m_code mL_law) 1356 = .ok (.invokevirtual 165, 3) := by decide +kernel
theorem dL_law_1359 : decode (m_code mL_law) 1359 = .ok (.aload_n 2, 1) := by decide +kernel
theorem dL_law_1360 : decode (m_code mL_law) 1360 = .ok (.aload_n 0, 1) := by decide +kernel
theorem dL_law_1361 : decode (m_code mL_law) 1361 = .ok (.iload_n 3, 1) := by decide +kernel
theorem dL_law_1362 : decode (m_code mL_law) 1362 = .ok (.iconst 1, 1) := by decide +kernel
theorem dL_law_1363 : decode (m_code mL_law) 1363 = .ok (.iadd, 1) := by decide +kernel
theorem dL_law_1364 : decode (m_code mL_law) 1364 = .ok (.iaload, 1) := by decide +kernel
theorem dL_law_1365 : decode (m_code mL_law) 1365 = .ok (.invokevirtual 168, 3) := by decide +kernel
theorem dL_law_1368 : decode (m_code mL_law) 1368 = .ok (.if_icmp .eq 189, 3) := by decide +kernel
theorem dL_law_1371 : decode (m_code mL_law) 1371 = .ok (.iconst 0, 1) := by decide +kernel
theorem dL_law_1372 : decode (m_code mL_law) 1372 = .ok (.ireturn, 1) := by decide +kernel
theorem dL_law_1373 : decode (m_code mL_law) 1373 = .ok (.aload_n 1, 1) := by decide +kernel
theorem dL_law_1374 : decode (m_code mL_law) 1374 = .ok (.invokevirtual 169, 3) := by decide +kernel
theorem dL_law_1377 : decode (m_code mL_law) 1377 = .ok (.aload_n 2, 1) := by decide +kernel
theorem dL_law_1378 : decode (m_code mL_law) 1378 = .ok (.invokevirtual 172, 3) := by decide +kernel
theorem dL_law_1381 : decode (m_code mL_law) 1381 = .ok (.if_icmp .eq 176, 3) := by decide +kernel
theorem dL_law_1384 : decode (m_code mL_law) 1384 = .ok (.iconst 0, 1) := by decide +kernel
theorem dL_law_1385 : decode (m_code mL_law) 1385 = .ok (.ireturn, 1) := by decide +kernel
theorem dL_law_1386 : decode (m_code mL_law) 1386 = .ok (.aload_n 1, 1) := by decide +kernel
theorem dL_law_1387 : decode (m_code mL_law) 1387 = .ok (.aload_n 0, 1) := by decide +kernel
theorem dL_law_1388 : decode (m_code mL_law) 1388 = .ok (.iload_n 3, 1) := by decide +kernel
theorem dL_law_1389 : decode (m_code mL_law) 1389 = .ok (.iconst 1, 1) := by decide +kernel
theorem dL_law_1390 : decode (m_code mL_law) 1390 = .ok (.iadd, 1) := by decide +kernel
theorem dL_law_1391 : decode (m_code mL_law) 1391 = .ok (.iaload, 1) := by decide +kernel
theorem dL_law_1392 : decode (m_code mL_law) 1392 = .ok (.aload_n 0, 1) := by decide +kernel
theorem dL_law_1393 : decode (m_code mL_law) 1393 = .ok (.iload_n 3, 1) := by decide +kernel
theorem dL_law_1394 : decode (m_code mL_law) 1394 = .ok (.iconst 2, 1) := by decide +kernel
theorem dL_law_1395 : decode (m_code mL_law) 1395 = .ok (.iadd, 1) := by decide +kernel
theorem dL_law_1396 : decode (m_code mL_law) 1396 = .ok (.iaload, 1) := by decide +kernel
theorem dL_law_1397 : decode (m_code mL_law) 1397 = .ok (.aload_n 0, 1) := by decide +kernel
theorem dL_law_1398 : decode (m_code mL_law) 1398 = .ok (.iload_n 3, 1) := by decide +kernel
theorem dL_law_1399 : decode (m_code mL_law) 1399 = .ok (.iconst 3, 1) := by decide +kernel
theorem dL_law_1400 : decode (m_code mL_law) 1400 = .ok (.iadd, 1) := by decide +kernel
theorem dL_law_1401 : decode (m_code mL_law) 1401 = .ok (.iaload, 1) := by decide +kernel
theorem dL_law_1402 : decode (m_code mL_law) 1402 = .ok (.invokevirtual 173, 3) := by decide +kernel
theorem dL_law_1405 : decode (m_code mL_law) 1405 = .ok (.aload_n 2, 1) := by decide +kernel
theorem dL_law_1406 : decode (m_code mL_law) 1406 = .ok (.aload_n 0, 1) := by decide +kernel
theorem dL_law_1407 : decode (m_code mL_law) 1407 = .ok (.iload_n 3, 1) := by decide +kernel
theorem dL_law_1408 : decode (m_code mL_law) 1408 = .ok (.iconst 1, 1) := by decide +kernel
theorem dL_law_1409 : decode (m_code mL_law) 1409 = .ok (.iadd, 1) := by decide +kernel
theorem dL_law_1410 : decode (m_code mL_law) 1410 = .ok (.iaload, 1) := by decide +kernel
theorem dL_law_1411 : decode (m_code mL_law) 1411 = .ok (.aload_n 0, 1) := by decide +kernel
theorem dL_law_1412 : decode (m_code mL_law) 1412 = .ok (.iload_n 3, 1) := by decide +kernel
theorem dL_law_1413 : decode (m_code mL_law) 1413 = .ok (.iconst 2, 1) := by decide +kernel
theorem dL_law_1414 : decode (m_code mL_law) 1414 = .ok (.iadd, 1) := by decide +kernel
theorem dL_law_1415 : decode (m_code mL_law) 1415 = .ok (.iaload, 1) := by decide +kernel
theorem dL_law_1416 : decode (m_code mL_law) 1416 = .ok (.aload_n 0, 1) := by decide +kernel
theorem dL_law_1417 : decode (m_code mL_law) 1417 = .ok (.iload_n 3, 1) := by decide +kernel
theorem dL_law_1418 : decode (m_code mL_law) 1418 = .ok (.iconst 3, 1) := by decide +kernel
theorem dL_law_1419 : decode (m_code mL_law) 1419 = .ok (.iadd, 1) := by decide +kernel
theorem dL_law_1420 : decode (m_code mL_law) 1420 = .ok (.iaload, 1) := by decide +kernel
theorem dL_law_1421 : decode (m_code mL_law) 1421 = .ok (.invokevirtual 177, 3) := by decide +kernel
theorem dL_law_1424 : decode (m_code mL_law) 1424 = .ok (.if_icmp .eq 133, 3) := by decide +kernel
theorem dL_law_1427 : decode (m_code mL_law) 1427 = .ok (.iconst 0, 1) := by decide +kernel
theorem dL_law_1428 : decode (m_code mL_law) 1428 = .ok (.ireturn, 1) := by decide +kernel
theorem dL_law_1429 : decode (m_code mL_law) 1429 = .ok (.aload_n 1, 1) := by decide +kernel
theorem dL_law_1430 : decode (m_code mL_law) 1430 = .ok (.aload_n 0, 1) := by decide +kernel
theorem dL_law_1431 : decode (m_code mL_law) 1431 = .ok (.iload_n 3, 1) := by decide +kernel
theorem dL_law_1432 : decode (m_code mL_law) 1432 = .ok (.iconst 1, 1) := by decide +kernel
theorem dL_law_1433 : decode (m_code mL_law) 1433 = .ok (.iadd, 1) := by decide +kernel
theorem dL_law_1434 : decode (m_code mL_law) 1434 = .ok (.iaload, 1) := by decide +kernel
theorem dL_law_1435 : decode (m_code mL_law) 1435 = .ok (.aload_n 0, 1) := by decide +kernel
theorem dL_law_1436 : decode (m_code mL_law) 1436 = .ok (.iload_n 3, 1) := by decide +kernel
theorem dL_law_1437 : decode (m_code mL_law) 1437 = .ok (.iconst 2, 1) := by decide +kernel
theorem dL_law_1438 : decode (m_code mL_law) 1438 = .ok (.iadd, 1) := by decide +kernel
theorem dL_law_1439 : decode (m_code mL_law) 1439 = .ok (.iaload, 1) := by decide +kernel
theorem dL_law_1440 : decode (m_code mL_law) 1440 = .ok (.invokevirtual 178, 3) := by decide +kernel
theorem dL_law_1443 : decode (m_code mL_law) 1443 = .ok (.aload_n 2, 1) := by decide +kernel
theorem dL_law_1444 : decode (m_code mL_law) 1444 = .ok (.aload_n 0, 1) := by decide +kernel
theorem dL_law_1445 : decode (m_code mL_law) 1445 = .ok (.iload_n 3, 1) := by decide +kernel
theorem dL_law_1446 : decode (m_code mL_law) 1446 = .ok (.iconst 1, 1) := by decide +kernel
theorem dL_law_1447 : decode (m_code mL_law) 1447 = .ok (.iadd, 1) := by decide +kernel
theorem dL_law_1448 : decode (m_code mL_law) 1448 = .ok (.iaload, 1) := by decide +kernel
theorem dL_law_1449 : decode (m_code mL_law) 1449 = .ok (.aload_n 0, 1) := by decide +kernel
theorem dL_law_1450 : decode (m_code mL_law) 1450 = .ok (.iload_n 3, 1) := by decide +kernel
theorem dL_law_1451 : decode (m_code mL_law) 1451 = .ok (.iconst 2, 1) := by decide +kernel
theorem dL_law_1452 : decode (m_code mL_law) 1452 = .ok (.iadd, 1) := by decide +kernel
theorem dL_law_1453 : decode (m_code mL_law) 1453 = .ok (.iaload, 1) := by decide +kernel
theorem dL_law_1454 : decode (m_code mL_law) 1454 = .ok (.invokevirtual 181, 3) := by decide +kernel
theorem dL_law_1457 : decode (m_code mL_law) 1457 = .ok (.if_icmp .eq 100, 3) := by decide +kernel
theorem dL_law_1460 : decode (m_code mL_law) 1460 = .ok (.iconst 0, 1) := by decide +kernel
theorem dL_law_1461 : decode (m_code mL_law) 1461 = .ok (.ireturn, 1) := by decide +kernel
theorem dL_law_1462 : decode (m_code mL_law) 1462 = .ok (.aload_n 1, 1) := by decide +kernel
theorem dL_law_1463 : decode (m_code mL_law) 1463 = .ok (.aload_n 0, 1) := by decide +kernel
theorem dL_law_1464 : decode (m_code mL_law) 1464 = .ok (.iload_n 3, 1) := by decide +kernel
theorem dL_law_1465 : decode (m_code mL_law) 1465 = .ok (.iconst 1, 1) := by decide +kernel
theorem dL_law_1466 : decode (m_code mL_law) 1466 = .ok (.iadd, 1) := by decide +kernel
theorem dL_law_1467 : decode (m_code mL_law) 1467 = .ok (.iaload, 1) := by decide +kernel
theorem dL_law_1468 : decode (m_code mL_law) 1468 = .ok (.aload_n 0, 1) := by decide +kernel
theorem dL_law_1469 : decode (m_code mL_law) 1469 = .ok (.iload_n 3, 1) := by decide +kernel
theorem dL_law_1470 : decode (m_code mL_law) 1470 = .ok (.iconst 2, 1) := by decide +kernel
theorem dL_law_1471 : decode (m_code mL_law) 1471 = .ok (.iadd, 1) := by decide +kernel
theorem dL_law_1472 : decode (m_code mL_law) 1472 = .ok (.iaload, 1) := by decide +kernel
theorem dL_law_1473 : decode (m_code mL_law) 1473 = .ok (.invokevirtual 182, 3) := by decide +kernel
theorem dL_law_1476 : decode (m_code mL_law) 1476 = .ok (.aload_n 2, 1) := by decide +kernel
theorem dL_law_1477 : decode (m_code mL_law) 1477 = .ok (.aload_n 0, 1) := by decide +kernel
theorem dL_law_1478 : decode (m_code mL_law) 1478 = .ok (.iload_n 3, 1) := by decide +kernel
theorem dL_law_1479 : decode (m_code mL_law) 1479 = .ok (.iconst 1, 1) := by decide +kernel
theorem dL_law_1480 : decode (m_code mL_law) 1480 = .ok (.iadd, 1) := by decide +kernel
theorem dL_law_1481 : decode (m_code mL_law) 1481 = .ok (.iaload, 1) := by decide +kernel
theorem dL_law_1482 : decode (m_code mL_law) 1482 = .ok (.aload_n 0, 1) := by decide +kernel
theorem dL_law_1483 : decode (m_code mL_law) 1483 = .ok (.iload_n 3, 1) := by decide +kernel
theorem dL_law_1484 : decode (m_code mL_law) 1484 = .ok (.iconst 2, 1) := by decide +kernel
theorem dL_law_1485 : decode (m_code mL_law) 1485 = .ok (.iadd, 1) := by decide +kernel
theorem dL_law_1486 : decode (m_code mL_law) 1486 = .ok (.iaload, 1) := by decide +kernel
theorem dL_law_1487 : decode (m_code mL_law) 1487 = .ok (.invokevirtual 185, 3) := by decide +kernel
theorem dL_law_1490 : decode (m_code mL_law) 1490 = .ok (.if_icmp .eq 67, 3) := by decide +kernel
theorem dL_law_1493 : decode (m_code mL_law) 1493 = .ok (.iconst 0, 1) := by decide +kernel
theorem dL_law_1494 : decode (m_code mL_law) 1494 = .ok (.ireturn, 1) := by decide +kernel
theorem dL_law_1495 : decode (m_code mL_law) 1495 = .ok (.aload_n 1, 1) := by decide +kernel
theorem dL_law_1496 : decode (m_code mL_law) 1496 = .ok (.aload_n 0, 1) := by decide +kernel
theorem dL_law_1497 : decode (m_code mL_law) 1497 = .ok (.iload_n 3, 1) := by decide +kernel
theorem dL_law_1498 : decode (m_code mL_law) 1498 = .ok (.iconst 1, 1) := by decide +kernel
theorem dL_law_1499 : decode (m_code mL_law) 1499 = .ok (.iadd, 1) := by decide +kernel
theorem dL_law_1500 : decode (m_code mL_law) 1500 = .ok (.iaload, 1) := by decide +kernel
theorem dL_law_1501 : decode (m_code mL_law) 1501 = .ok (.ifCond .eq 7, 3) := by decide +kernel
theorem dL_law_1504 : decode (m_code mL_law) 1504 = .ok (.iconst 1, 1) := by decide +kernel
theorem dL_law_1505 : decode (m_code mL_law) 1505 = .ok (.goto 4, 3) := by decide +kernel
theorem dL_law_1508 : decode (m_code mL_law) 1508 = .ok (.iconst 0, 1) := by decide +kernel
theorem dL_law_1509 : decode (m_code mL_law) 1509 = .ok (.invokevirtual 186, 3) := by decide +kernel
theorem dL_law_1512 : decode (m_code mL_law) 1512 = .ok (.aload_n 2, 1) := by decide +kernel
theorem dL_law_1513 : decode (m_code mL_law) 1513 = .ok (.aload_n 0, 1) := by decide +kernel
theorem dL_law_1514 : decode (m_code mL_law) 1514 = .ok (.iload_n 3, 1) := by decide +kernel
theorem dL_law_1515 : decode (m_code mL_law) 1515 = .ok (.iconst 1, 1) := by decide +kernel
theorem dL_law_1516 : decode (m_code mL_law) 1516 = .ok (.iadd, 1) := by decide +kernel
theorem dL_law_1517 : decode (m_code mL_law) 1517 = .ok (.iaload, 1) := by decide +kernel
theorem dL_law_1518 : decode (m_code mL_law) 1518 = .ok (.ifCond .eq 7, 3) := by decide +kernel
theorem dL_law_1521 : decode (m_code mL_law) 1521 = .ok (.iconst 1, 1) := by decide +kernel
theorem dL_law_1522 : decode (m_code mL_law) 1522 = .ok (.goto 4, 3) := by decide +kernel
theorem dL_law_1525 : decode (m_code mL_law) 1525 = .ok (.iconst 0, 1) := by decide +kernel
theorem dL_law_1526 : decode (m_code mL_law) 1526 = .ok (.invokevirtual 190, 3) := by decide +kernel
theorem dL_law_1529 : decode (m_code mL_law) 1529 = .ok (.if_icmp .eq 28, 3) := by decide +kernel
theorem dL_law_1532 : decode (m_code mL_law) 1532 = .ok (.iconst 0, 1) := by decide +kernel
theorem dL_law_1533 : decode (m_code mL_law) 1533 = .ok (.ireturn, 1) := by decide +kernel
theorem dL_law_1534 : decode (m_code mL_law) 1534 = .ok (.aload_n 1, 1) := by decide +kernel
theorem dL_law_1535 : decode (m_code mL_law) 1535 = .ok (.aload_n 0, 1) := by decide +kernel
theorem dL_law_1536 : decode (m_code mL_law) 1536 = .ok (.iload_n 3, 1) := by decide +kernel
theorem dL_law_1537 : decode (m_code mL_law) 1537 = .ok (.iconst 1, 1) := by decide +kernel
theorem dL_law_1538 : decode (m_code mL_law) 1538 = .ok (.iadd, 1) := by decide +kernel
theorem dL_law_1539 : decode (m_code mL_law) 1539 = .ok (.iaload, 1) := by decide +kernel
theorem dL_law_1540 : decode (m_code mL_law) 1540 = .ok (.invokevirtual 191, 3) := by decide +kernel
theorem dL_law_1543 : decode (m_code mL_law) 1543 = .ok (.aload_n 2, 1) := by decide +kernel
theorem dL_law_1544 : decode (m_code mL_law) 1544 = .ok (.aload_n 0, 1) := by decide +kernel
theorem dL_law_1545 : decode (m_code mL_law) 1545 = .ok (.iload_n 3, 1) := by decide +kernel
theorem dL_law_1546 : decode (m_code mL_law) 1546 = .ok (.iconst 1, 1) := by decide +kernel
theorem dL_law_1547 : decode (m_code mL_law) 1547 = .ok (.iadd, 1) := by decide +kernel
theorem dL_law_1548 : decode (m_code mL_law) 1548 = .ok (.iaload, 1) := by decide +kernel
theorem dL_law_1549 : decode (m_code mL_law) 1549 = .ok (.invokevirtual 194, 3) := by decide +kernel
theorem dL_law_1552 : decode (m_code mL_law) 1552 = .ok (.if_icmp .eq 5, 3) := by decide +kernel
theorem dL_law_1555 : decode (m_code mL_law) 1555 = .ok (.iconst 0, 1) := by decide +kernel
theorem dL_law_1556 : decode (m_code mL_law) 1556 = .ok (.ireturn, 1) := by decide +kernel
theorem dL_law_1557 : decode (m_code mL_law) 1557 = .ok (.iinc 3 6, 3) := by decide +kernel
theorem dL_law_1560 : decode (m_code mL_law) 1560 = .ok (.goto (-1542), 3) := by decide +kernel
theorem dL_law_1563 : decode (m_code mL_law) 1563 = .ok (.iconst 1, 1) := by decide +kernel
theorem dL_law_1564 : decode (m_code mL_law) 1564 = .ok (.ireturn, 1) := by decide +kernel
