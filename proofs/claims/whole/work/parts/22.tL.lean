/-! ===== the law: decode rows and trees ===== -/
theorem dL_law_0 : decode cL_law 0 = .ok (.new 7, 3) := by decide +kernel
theorem dL_law_3 : decode cL_law 3 = .ok (.dup, 1) := by decide +kernel
theorem dL_law_4 : decode cL_law 4 = .ok (.invokespecial 9, 3) := by decide +kernel
theorem dL_law_7 : decode cL_law 7 = .ok (.astore_n 1, 1) := by decide +kernel
theorem dL_law_8 : decode cL_law 8 = .ok (.new 10, 3) := by decide +kernel
theorem dL_law_11 : decode cL_law 11 = .ok (.dup, 1) := by decide +kernel
theorem dL_law_12 : decode cL_law 12 = .ok (.invokespecial 12, 3) := by decide +kernel
theorem dL_law_15 : decode cL_law 15 = .ok (.astore_n 2, 1) := by decide +kernel
theorem dL_law_16 : decode cL_law 16 = .ok (.iconst 0, 1) := by decide +kernel
theorem dL_law_17 : decode cL_law 17 = .ok (.istore_n 3, 1) := by decide +kernel
theorem dL_law_18 : decode cL_law 18 = .ok (.iload_n 3, 1) := by decide +kernel
theorem dL_law_19 : decode cL_law 19 = .ok (.aload_n 0, 1) := by decide +kernel
theorem dL_law_20 : decode cL_law 20 = .ok (.arraylength, 1) := by decide +kernel
theorem dL_law_21 : decode cL_law 21 = .ok (.iconst 5, 1) := by decide +kernel
theorem dL_law_22 : decode cL_law 22 = .ok (.isub, 1) := by decide +kernel
theorem dL_law_23 : decode cL_law 23 = .ok (.if_icmp .gt 1109, 3) := by decide +kernel
theorem dL_law_26 : decode cL_law 26 = .ok (.aload_n 0, 1) := by decide +kernel
theorem dL_law_27 : decode cL_law 27 = .ok (.iload_n 3, 1) := by decide +kernel
theorem dL_law_28 : decode cL_law 28 = .ok (.iaload, 1) := by decide +kernel
theorem dL_law_29 : decode cL_law 29 = .ok (.bipush 63, 2) := by decide +kernel
theorem dL_law_31 : decode cL_law 31 = .ok (.iand, 1) := by decide +kernel
theorem dL_law_32 : decode cL_law 32 = .ok (.tableswitch 1094 0 33 #[152, 175, 188, 201, 214, 247, 280, 313, 346, 379, 402, 425, 448, 461, 494, 547, 590, 633, 676, 719, 752, 785, 808, 841, 874, 917, 940, 953, 986, 999, 1012, 1025, 1048, 1071], 152) := by decide +kernel
theorem dL_law_184 : decode cL_law 184 = .ok (.aload_n 1, 1) := by decide +kernel
theorem dL_law_185 : decode cL_law 185 = .ok (.aload_n 0, 1) := by decide +kernel
theorem dL_law_186 : decode cL_law 186 = .ok (.iload_n 3, 1) := by decide +kernel
theorem dL_law_187 : decode cL_law 187 = .ok (.iconst 1, 1) := by decide +kernel
theorem dL_law_188 : decode cL_law 188 = .ok (.iadd, 1) := by decide +kernel
theorem dL_law_189 : decode cL_law 189 = .ok (.iaload, 1) := by decide +kernel
theorem dL_law_190 : decode cL_law 190 = .ok (.invokevirtual 13, 3) := by decide +kernel
theorem dL_law_193 : decode cL_law 193 = .ok (.aload_n 2, 1) := by decide +kernel
theorem dL_law_194 : decode cL_law 194 = .ok (.aload_n 0, 1) := by decide +kernel
theorem dL_law_195 : decode cL_law 195 = .ok (.iload_n 3, 1) := by decide +kernel
theorem dL_law_196 : decode cL_law 196 = .ok (.iconst 1, 1) := by decide +kernel
theorem dL_law_197 : decode cL_law 197 = .ok (.iadd, 1) := by decide +kernel
theorem dL_law_198 : decode cL_law 198 = .ok (.iaload, 1) := by decide +kernel
theorem dL_law_199 : decode cL_law 199 = .ok (.invokevirtual 17, 3) := by decide +kernel
theorem dL_law_202 : decode cL_law 202 = .ok (.if_icmp .eq 924, 3) := by decide +kernel
theorem dL_law_205 : decode cL_law 205 = .ok (.iconst 0, 1) := by decide +kernel
theorem dL_law_206 : decode cL_law 206 = .ok (.ireturn, 1) := by decide +kernel
theorem dL_law_207 : decode cL_law 207 = .ok (.aload_n 1, 1) := by decide +kernel
theorem dL_law_208 : decode cL_law 208 = .ok (.invokevirtual 18, 3) := by decide +kernel
theorem dL_law_211 : decode cL_law 211 = .ok (.aload_n 2, 1) := by decide +kernel
theorem dL_law_212 : decode cL_law 212 = .ok (.invokevirtual 22, 3) := by decide +kernel
theorem dL_law_215 : decode cL_law 215 = .ok (.if_icmp .eq 911, 3) := by decide +kernel
theorem dL_law_218 : decode cL_law 218 = .ok (.iconst 0, 1) := by decide +kernel
theorem dL_law_219 : decode cL_law 219 = .ok (.ireturn, 1) := by decide +kernel
theorem dL_law_220 : decode cL_law 220 = .ok (.aload_n 1, 1) := by decide +kernel
theorem dL_law_221 : decode cL_law 221 = .ok (.invokevirtual 23, 3) := by decide +kernel
theorem dL_law_224 : decode cL_law 224 = .ok (.aload_n 2, 1) := by decide +kernel
theorem dL_law_225 : decode cL_law 225 = .ok (.invokevirtual 26, 3) := by decide +kernel
theorem dL_law_228 : decode cL_law 228 = .ok (.if_icmp .eq 898, 3) := by decide +kernel
theorem dL_law_231 : decode cL_law 231 = .ok (.iconst 0, 1) := by decide +kernel
theorem dL_law_232 : decode cL_law 232 = .ok (.ireturn, 1) := by decide +kernel
theorem dL_law_233 : decode cL_law 233 = .ok (.aload_n 1, 1) := by decide +kernel
theorem dL_law_234 : decode cL_law 234 = .ok (.invokevirtual 27, 3) := by decide +kernel
theorem dL_law_237 : decode cL_law 237 = .ok (.aload_n 2, 1) := by decide +kernel
theorem dL_law_238 : decode cL_law 238 = .ok (.invokevirtual 30, 3) := by decide +kernel
theorem dL_law_241 : decode cL_law 241 = .ok (.if_icmp .eq 885, 3) := by decide +kernel
theorem dL_law_244 : decode cL_law 244 = .ok (.iconst 0, 1) := by decide +kernel
theorem dL_law_245 : decode cL_law 245 = .ok (.ireturn, 1) := by decide +kernel
theorem dL_law_246 : decode cL_law 246 = .ok (.aload_n 1, 1) := by decide +kernel
theorem dL_law_247 : decode cL_law 247 = .ok (.aload_n 0, 1) := by decide +kernel
theorem dL_law_248 : decode cL_law 248 = .ok (.iload_n 3, 1) := by decide +kernel
theorem dL_law_249 : decode cL_law 249 = .ok (.iconst 1, 1) := by decide +kernel
theorem dL_law_250 : decode cL_law 250 = .ok (.iadd, 1) := by decide +kernel
theorem dL_law_251 : decode cL_law 251 = .ok (.iaload, 1) := by decide +kernel
theorem dL_law_252 : decode cL_law 252 = .ok (.aload_n 0, 1) := by decide +kernel
theorem dL_law_253 : decode cL_law 253 = .ok (.iload_n 3, 1) := by decide +kernel
theorem dL_law_254 : decode cL_law 254 = .ok (.iconst 2, 1) := by decide +kernel
theorem dL_law_255 : decode cL_law 255 = .ok (.iadd, 1) := by decide +kernel
theorem dL_law_256 : decode cL_law 256 = .ok (.iaload, 1) := by decide +kernel
theorem dL_law_257 : decode cL_law 257 = .ok (.invokevirtual 31, 3) := by decide +kernel
theorem dL_law_260 : decode cL_law 260 = .ok (.aload_n 2, 1) := by decide +kernel
theorem dL_law_261 : decode cL_law 261 = .ok (.aload_n 0, 1) := by decide +kernel
theorem dL_law_262 : decode cL_law 262 = .ok (.iload_n 3, 1) := by decide +kernel
theorem dL_law_263 : decode cL_law 263 = .ok (.iconst 1, 1) := by decide +kernel
theorem dL_law_264 : decode cL_law 264 = .ok (.iadd, 1) := by decide +kernel
theorem dL_law_265 : decode cL_law 265 = .ok (.iaload, 1) := by decide +kernel
theorem dL_law_266 : decode cL_law 266 = .ok (.aload_n 0, 1) := by decide +kernel
theorem dL_law_267 : decode cL_law 267 = .ok (.iload_n 3, 1) := by decide +kernel
theorem dL_law_268 : decode cL_law 268 = .ok (.iconst 2, 1) := by decide +kernel
theorem dL_law_269 : decode cL_law 269 = .ok (.iadd, 1) := by decide +kernel
theorem dL_law_270 : decode cL_law 270 = .ok (.iaload, 1) := by decide +kernel
theorem dL_law_271 : decode cL_law 271 = .ok (.invokevirtual 35, 3) := by decide +kernel
theorem dL_law_274 : decode cL_law 274 = .ok (.if_icmp .eq 852, 3) := by decide +kernel
theorem dL_law_277 : decode cL_law 277 = .ok (.iconst 0, 1) := by decide +kernel
theorem dL_law_278 : decode cL_law 278 = .ok (.ireturn, 1) := by decide +kernel
theorem dL_law_279 : decode cL_law 279 = .ok (.aload_n 1, 1) := by decide +kernel
theorem dL_law_280 : decode cL_law 280 = .ok (.aload_n 0, 1) := by decide +kernel
theorem dL_law_281 : decode cL_law 281 = .ok (.iload_n 3, 1) := by decide +kernel
theorem dL_law_282 : decode cL_law 282 = .ok (.iconst 1, 1) := by decide +kernel
theorem dL_law_283 : decode cL_law 283 = .ok (.iadd, 1) := by decide +kernel
theorem dL_law_284 : decode cL_law 284 = .ok (.iaload, 1) := by decide +kernel
theorem dL_law_285 : decode cL_law 285 = .ok (.aload_n 0, 1) := by decide +kernel
theorem dL_law_286 : decode cL_law 286 = .ok (.iload_n 3, 1) := by decide +kernel
theorem dL_law_287 : decode cL_law 287 = .ok (.iconst 2, 1) := by decide +kernel
theorem dL_law_288 : decode cL_law 288 = .ok (.iadd, 1) := by decide +kernel
theorem dL_law_289 : decode cL_law 289 = .ok (.iaload, 1) := by decide +kernel
theorem dL_law_290 : decode cL_law 290 = .ok (.invokevirtual 36, 3) := by decide +kernel
theorem dL_law_293 : decode cL_law 293 = .ok (.aload_n 2, 1) := by decide +kernel
theorem dL_law_294 : decode cL_law 294 = .ok (.aload_n 0, 1) := by decide +kernel
theorem dL_law_295 : decode cL_law 295 = .ok (.iload_n 3, 1) := by decide +kernel
theorem dL_law_296 : decode cL_law 296 = .ok (.iconst 1, 1) := by decide +kernel
theorem dL_law_297 : decode cL_law 297 = .ok (.iadd, 1) := by decide +kernel
theorem dL_law_298 : decode cL_law 298 = .ok (.iaload, 1) := by decide +kernel
theorem dL_law_299 : decode cL_law 299 = .ok (.aload_n 0, 1) := by decide +kernel
theorem dL_law_300 : decode cL_law 300 = .ok (.iload_n 3, 1) := by decide +kernel
theorem dL_law_301 : decode cL_law 301 = .ok (.iconst 2, 1) := by decide +kernel
theorem dL_law_302 : decode cL_law 302 = .ok (.iadd, 1) := by decide +kernel
theorem dL_law_303 : decode cL_law 303 = .ok (.iaload, 1) := by decide +kernel
theorem dL_law_304 : decode cL_law 304 = .ok (.invokevirtual 39, 3) := by decide +kernel
theorem dL_law_307 : decode cL_law 307 = .ok (.if_icmp .eq 819, 3) := by decide +kernel
theorem dL_law_310 : decode cL_law 310 = .ok (.iconst 0, 1) := by decide +kernel
theorem dL_law_311 : decode cL_law 311 = .ok (.ireturn, 1) := by decide +kernel
theorem dL_law_312 : decode cL_law 312 = .ok (.aload_n 1, 1) := by decide +kernel
theorem dL_law_313 : decode cL_law 313 = .ok (.aload_n 0, 1) := by decide +kernel
theorem dL_law_314 : decode cL_law 314 = .ok (.iload_n 3, 1) := by decide +kernel
theorem dL_law_315 : decode cL_law 315 = .ok (.iconst 1, 1) := by decide +kernel
theorem dL_law_316 : decode cL_law 316 = .ok (.iadd, 1) := by decide +kernel
theorem dL_law_317 : decode cL_law 317 = .ok (.iaload, 1) := by decide +kernel
theorem dL_law_318 : decode cL_law 318 = .ok (.aload_n 0, 1) := by decide +kernel
theorem dL_law_319 : decode cL_law 319 = .ok (.iload_n 3, 1) := by decide +kernel
theorem dL_law_320 : decode cL_law 320 = .ok (.iconst 2, 1) := by decide +kernel
theorem dL_law_321 : decode cL_law 321 = .ok (.iadd, 1) := by decide +kernel
theorem dL_law_322 : decode cL_law 322 = .ok (.iaload, 1) := by decide +kernel
theorem dL_law_323 : decode cL_law 323 = .ok (.invokevirtual 40, 3) := by decide +kernel
theorem dL_law_326 : decode cL_law 326 = .ok (.aload_n 2, 1) := by decide +kernel
theorem dL_law_327 : decode cL_law 327 = .ok (.aload_n 0, 1) := by decide +kernel
theorem dL_law_328 : decode cL_law 328 = .ok (.iload_n 3, 1) := by decide +kernel
theorem dL_law_329 : decode cL_law 329 = .ok (.iconst 1, 1) := by decide +kernel
theorem dL_law_330 : decode cL_law 330 = .ok (.iadd, 1) := by decide +kernel
theorem dL_law_331 : decode cL_law 331 = .ok (.iaload, 1) := by decide +kernel
theorem dL_law_332 : decode cL_law 332 = .ok (.aload_n 0, 1) := by decide +kernel
theorem dL_law_333 : decode cL_law 333 = .ok (.iload_n 3, 1) := by decide +kernel
theorem dL_law_334 : decode cL_law 334 = .ok (.iconst 2, 1) := by decide +kernel
theorem dL_law_335 : decode cL_law 335 = .ok (.iadd, 1) := by decide +kernel
theorem dL_law_336 : decode cL_law 336 = .ok (.iaload, 1) := by decide +kernel
theorem dL_law_337 : decode cL_law 337 = .ok (.invokevirtual 43, 3) := by decide +kernel
theorem dL_law_340 : decode cL_law 340 = .ok (.if_icmp .eq 786, 3) := by decide +kernel
theorem dL_law_343 : decode cL_law 343 = .ok (.iconst 0, 1) := by decide +kernel
theorem dL_law_344 : decode cL_law 344 = .ok (.ireturn, 1) := by decide +kernel
theorem dL_law_345 : decode cL_law 345 = .ok (.aload_n 1, 1) := by decide +kernel
theorem dL_law_346 : decode cL_law 346 = .ok (.aload_n 0, 1) := by decide +kernel
theorem dL_law_347 : decode cL_law 347 = .ok (.iload_n 3, 1) := by decide +kernel
theorem dL_law_348 : decode cL_law 348 = .ok (.iconst 1, 1) := by decide +kernel
theorem dL_law_349 : decode cL_law 349 = .ok (.iadd, 1) := by decide +kernel
theorem dL_law_350 : decode cL_law 350 = .ok (.iaload, 1) := by decide +kernel
theorem dL_law_351 : decode cL_law 351 = .ok (.aload_n 0, 1) := by decide +kernel
theorem dL_law_352 : decode cL_law 352 = .ok (.iload_n 3, 1) := by decide +kernel
theorem dL_law_353 : decode cL_law 353 = .ok (.iconst 2, 1) := by decide +kernel
theorem dL_law_354 : decode cL_law 354 = .ok (.iadd, 1) := by decide +kernel
theorem dL_law_355 : decode cL_law 355 = .ok (.iaload, 1) := by decide +kernel
theorem dL_law_356 : decode cL_law 356 = .ok (.invokevirtual 44, 3) := by decide +kernel
theorem dL_law_359 : decode cL_law 359 = .ok (.aload_n 2, 1) := by decide +kernel
theorem dL_law_360 : decode cL_law 360 = .ok (.aload_n 0, 1) := by decide +kernel
theorem dL_law_361 : decode cL_law 361 = .ok (.iload_n 3, 1) := by decide +kernel
theorem dL_law_362 : decode cL_law 362 = .ok (.iconst 1, 1) := by decide +kernel
theorem dL_law_363 : decode cL_law 363 = .ok (.iadd, 1) := by decide +kernel
theorem dL_law_364 : decode cL_law 364 = .ok (.iaload, 1) := by decide +kernel
theorem dL_law_365 : decode cL_law 365 = .ok (.aload_n 0, 1) := by decide +kernel
theorem dL_law_366 : decode cL_law 366 = .ok (.iload_n 3, 1) := by decide +kernel
theorem dL_law_367 : decode cL_law 367 = .ok (.iconst 2, 1) := by decide +kernel
theorem dL_law_368 : decode cL_law 368 = .ok (.iadd, 1) := by decide +kernel
theorem dL_law_369 : decode cL_law 369 = .ok (.iaload, 1) := by decide +kernel
theorem dL_law_370 : decode cL_law 370 = .ok (.invokevirtual 47, 3) := by decide +kernel
theorem dL_law_373 : decode cL_law 373 = .ok (.if_icmp .eq 753, 3) := by decide +kernel
theorem dL_law_376 : decode cL_law 376 = .ok (.iconst 0, 1) := by decide +kernel
theorem dL_law_377 : decode cL_law 377 = .ok (.ireturn, 1) := by decide +kernel
theorem dL_law_378 : decode cL_law 378 = .ok (.aload_n 1, 1) := by decide +kernel
theorem dL_law_379 : decode cL_law 379 = .ok (.aload_n 0, 1) := by decide +kernel
theorem dL_law_380 : decode cL_law 380 = .ok (.iload_n 3, 1) := by decide +kernel
theorem dL_law_381 : decode cL_law 381 = .ok (.iconst 1, 1) := by decide +kernel
theorem dL_law_382 : decode cL_law 382 = .ok (.iadd, 1) := by decide +kernel
theorem dL_law_383 : decode cL_law 383 = .ok (.iaload, 1) := by decide +kernel
theorem dL_law_384 : decode cL_law 384 = .ok (.aload_n 0, 1) := by decide +kernel
theorem dL_law_385 : decode cL_law 385 = .ok (.iload_n 3, 1) := by decide +kernel
theorem dL_law_386 : decode cL_law 386 = .ok (.iconst 2, 1) := by decide +kernel
theorem dL_law_387 : decode cL_law 387 = .ok (.iadd, 1) := by decide +kernel
theorem dL_law_388 : decode cL_law 388 = .ok (.iaload, 1) := by decide +kernel
theorem dL_law_389 : decode cL_law 389 = .ok (.invokevirtual 48, 3) := by decide +kernel
theorem dL_law_392 : decode cL_law 392 = .ok (.aload_n 2, 1) := by decide +kernel
theorem dL_law_393 : decode cL_law 393 = .ok (.aload_n 0, 1) := by decide +kernel
theorem dL_law_394 : decode cL_law 394 = .ok (.iload_n 3, 1) := by decide +kernel
theorem dL_law_395 : decode cL_law 395 = .ok (.iconst 1, 1) := by decide +kernel
theorem dL_law_396 : decode cL_law 396 = .ok (.iadd, 1) := by decide +kernel
theorem dL_law_397 : decode cL_law 397 = .ok (.iaload, 1) := by decide +kernel
theorem dL_law_398 : decode cL_law 398 = .ok (.aload_n 0, 1) := by decide +kernel
theorem dL_law_399 : decode cL_law 399 = .ok (.iload_n 3, 1) := by decide +kernel
theorem dL_law_400 : decode cL_law 400 = .ok (.iconst 2, 1) := by decide +kernel
theorem dL_law_401 : decode cL_law 401 = .ok (.iadd, 1) := by decide +kernel
theorem dL_law_402 : decode cL_law 402 = .ok (.iaload, 1) := by decide +kernel
theorem dL_law_403 : decode cL_law 403 = .ok (.invokevirtual 51, 3) := by decide +kernel
theorem dL_law_406 : decode cL_law 406 = .ok (.if_icmp .eq 720, 3) := by decide +kernel
theorem dL_law_409 : decode cL_law 409 = .ok (.iconst 0, 1) := by decide +kernel
theorem dL_law_410 : decode cL_law 410 = .ok (.ireturn, 1) := by decide +kernel
theorem dL_law_411 : decode cL_law 411 = .ok (.aload_n 1, 1) := by decide +kernel
theorem dL_law_412 : decode cL_law 412 = .ok (.aload_n 0, 1) := by decide +kernel
theorem dL_law_413 : decode cL_law 413 = .ok (.iload_n 3, 1) := by decide +kernel
theorem dL_law_414 : decode cL_law 414 = .ok (.iconst 1, 1) := by decide +kernel
theorem dL_law_415 : decode cL_law 415 = .ok (.iadd, 1) := by decide +kernel
theorem dL_law_416 : decode cL_law 416 = .ok (.iaload, 1) := by decide +kernel
theorem dL_law_417 : decode cL_law 417 = .ok (.invokevirtual 52, 3) := by decide +kernel
theorem dL_law_420 : decode cL_law 420 = .ok (.aload_n 2, 1) := by decide +kernel
theorem dL_law_421 : decode cL_law 421 = .ok (.aload_n 0, 1) := by decide +kernel
theorem dL_law_422 : decode cL_law 422 = .ok (.iload_n 3, 1) := by decide +kernel
theorem dL_law_423 : decode cL_law 423 = .ok (.iconst 1, 1) := by decide +kernel
theorem dL_law_424 : decode cL_law 424 = .ok (.iadd, 1) := by decide +kernel
theorem dL_law_425 : decode cL_law 425 = .ok (.iaload, 1) := by decide +kernel
theorem dL_law_426 : decode cL_law 426 = .ok (.invokevirtual 55, 3) := by decide +kernel
theorem dL_law_429 : decode cL_law 429 = .ok (.if_icmp .eq 697, 3) := by decide +kernel
theorem dL_law_432 : decode cL_law 432 = .ok (.iconst 0, 1) := by decide +kernel
theorem dL_law_433 : decode cL_law 433 = .ok (.ireturn, 1) := by decide +kernel
theorem dL_law_434 : decode cL_law 434 = .ok (.aload_n 1, 1) := by decide +kernel
theorem dL_law_435 : decode cL_law 435 = .ok (.aload_n 0, 1) := by decide +kernel
theorem dL_law_436 : decode cL_law 436 = .ok (.iload_n 3, 1) := by decide +kernel
theorem dL_law_437 : decode cL_law 437 = .ok (.iconst 1, 1) := by decide +kernel
theorem dL_law_438 : decode cL_law 438 = .ok (.iadd, 1) := by decide +kernel
theorem dL_law_439 : decode cL_law 439 = .ok (.iaload, 1) := by decide +kernel
theorem dL_law_440 : decode cL_law 440 = .ok (.invokevirtual 56, 3) := by decide +kernel
theorem dL_law_443 : decode cL_law 443 = .ok (.aload_n 2, 1) := by decide +kernel
theorem dL_law_444 : decode cL_law 444 = .ok (.aload_n 0, 1) := by decide +kernel
theorem dL_law_445 : decode cL_law 445 = .ok (.iload_n 3, 1) := by decide +kernel
theorem dL_law_446 : decode cL_law 446 = .ok (.iconst 1, 1) := by decide +kernel
theorem dL_law_447 : decode cL_law 447 = .ok (.iadd, 1) := by decide +kernel
theorem dL_law_448 : decode cL_law 448 = .ok (.iaload, 1) := by decide +kernel
theorem dL_law_449 : decode cL_law 449 = .ok (.invokevirtual 59, 3) := by decide +kernel
theorem dL_law_452 : decode cL_law 452 = .ok (.if_icmp .eq 674, 3) := by decide +kernel
theorem dL_law_455 : decode cL_law 455 = .ok (.iconst 0, 1) := by decide +kernel
theorem dL_law_456 : decode cL_law 456 = .ok (.ireturn, 1) := by decide +kernel
theorem dL_law_457 : decode cL_law 457 = .ok (.aload_n 1, 1) := by decide +kernel
theorem dL_law_458 : decode cL_law 458 = .ok (.aload_n 0, 1) := by decide +kernel
theorem dL_law_459 : decode cL_law 459 = .ok (.iload_n 3, 1) := by decide +kernel
theorem dL_law_460 : decode cL_law 460 = .ok (.iconst 1, 1) := by decide +kernel
theorem dL_law_461 : decode cL_law 461 = .ok (.iadd, 1) := by decide +kernel
theorem dL_law_462 : decode cL_law 462 = .ok (.iaload, 1) := by decide +kernel
theorem dL_law_463 : decode cL_law 463 = .ok (.invokevirtual 60, 3) := by decide +kernel
theorem dL_law_466 : decode cL_law 466 = .ok (.aload_n 2, 1) := by decide +kernel
theorem dL_law_467 : decode cL_law 467 = .ok (.aload_n 0, 1) := by decide +kernel
theorem dL_law_468 : decode cL_law 468 = .ok (.iload_n 3, 1) := by decide +kernel
theorem dL_law_469 : decode cL_law 469 = .ok (.iconst 1, 1) := by decide +kernel
theorem dL_law_470 : decode cL_law 470 = .ok (.iadd, 1) := by decide +kernel
theorem dL_law_471 : decode cL_law 471 = .ok (.iaload, 1) := by decide +kernel
theorem dL_law_472 : decode cL_law 472 = .ok (.invokevirtual 63, 3) := by decide +kernel
theorem dL_law_475 : decode cL_law 475 = .ok (.if_icmp .eq 651, 3) := by decide +kernel
theorem dL_law_478 : decode cL_law 478 = .ok (.iconst 0, 1) := by decide +kernel
theorem dL_law_479 : decode cL_law 479 = .ok (.ireturn, 1) := by decide +kernel
theorem dL_law_480 : decode cL_law 480 = .ok (.aload_n 1, 1) := by decide +kernel
theorem dL_law_481 : decode cL_law 481 = .ok (.invokevirtual 64, 3) := by decide +kernel
theorem dL_law_484 : decode cL_law 484 = .ok (.aload_n 2, 1) := by decide +kernel
theorem dL_law_485 : decode cL_law 485 = .ok (.invokevirtual 67, 3) := by decide +kernel
theorem dL_law_488 : decode cL_law 488 = .ok (.if_icmp .eq 638, 3) := by decide +kernel
theorem dL_law_491 : decode cL_law 491 = .ok (.iconst 0, 1) := by decide +kernel
theorem dL_law_492 : decode cL_law 492 = .ok (.ireturn, 1) := by decide +kernel
theorem dL_law_493 : decode cL_law 493 = .ok (.aload_n 1, 1) := by decide +kernel
theorem dL_law_494 : decode cL_law 494 = .ok (.aload_n 0, 1) := by decide +kernel
theorem dL_law_495 : decode cL_law 495 = .ok (.iload_n 3, 1) := by decide +kernel
theorem dL_law_496 : decode cL_law 496 = .ok (.iconst 1, 1) := by decide +kernel
theorem dL_law_497 : decode cL_law 497 = .ok (.iadd, 1) := by decide +kernel
theorem dL_law_498 : decode cL_law 498 = .ok (.iaload, 1) := by decide +kernel
theorem dL_law_499 : decode cL_law 499 = .ok (.aload_n 0, 1) := by decide +kernel
theorem dL_law_500 : decode cL_law 500 = .ok (.iload_n 3, 1) := by decide +kernel
theorem dL_law_501 : decode cL_law 501 = .ok (.iconst 2, 1) := by decide +kernel
theorem dL_law_502 : decode cL_law 502 = .ok (.iadd, 1) := by decide +kernel
theorem dL_law_503 : decode cL_law 503 = .ok (.iaload, 1) := by decide +kernel
theorem dL_law_504 : decode cL_law 504 = .ok (.invokevirtual 68, 3) := by decide +kernel
theorem dL_law_507 : decode cL_law 507 = .ok (.aload_n 2, 1) := by decide +kernel
theorem dL_law_508 : decode cL_law 508 = .ok (.aload_n 0, 1) := by decide +kernel
theorem dL_law_509 : decode cL_law 509 = .ok (.iload_n 3, 1) := by decide +kernel
theorem dL_law_510 : decode cL_law 510 = .ok (.iconst 1, 1) := by decide +kernel
theorem dL_law_511 : decode cL_law 511 = .ok (.iadd, 1) := by decide +kernel
theorem dL_law_512 : decode cL_law 512 = .ok (.iaload, 1) := by decide +kernel
theorem dL_law_513 : decode cL_law 513 = .ok (.aload_n 0, 1) := by decide +kernel
theorem dL_law_514 : decode cL_law 514 = .ok (.iload_n 3, 1) := by decide +kernel
theorem dL_law_515 : decode cL_law 515 = .ok (.iconst 2, 1) := by decide +kernel
theorem dL_law_516 : decode cL_law 516 = .ok (.iadd, 1) := by decide +kernel
theorem dL_law_517 : decode cL_law 517 = .ok (.iaload, 1) := by decide +kernel
theorem dL_law_518 : decode cL_law 518 = .ok (.invokevirtual 71, 3) := by decide +kernel
theorem dL_law_521 : decode cL_law 521 = .ok (.if_icmp .eq 605, 3) := by decide +kernel
theorem dL_law_524 : decode cL_law 524 = .ok (.iconst 0, 1) := by decide +kernel
theorem dL_law_525 : decode cL_law 525 = .ok (.ireturn, 1) := by decide +kernel
theorem dL_law_526 : decode cL_law 526 = .ok (.aload_n 1, 1) := by decide +kernel
theorem dL_law_527 : decode cL_law 527 = .ok (.aload_n 0, 1) := by decide +kernel
theorem dL_law_528 : decode cL_law 528 = .ok (.iload_n 3, 1) := by decide +kernel
theorem dL_law_529 : decode cL_law 529 = .ok (.iconst 1, 1) := by decide +kernel
theorem dL_law_530 : decode cL_law 530 = .ok (.iadd, 1) := by decide +kernel
theorem dL_law_531 : decode cL_law 531 = .ok (.iaload, 1) := by decide +kernel
theorem dL_law_532 : decode cL_law 532 = .ok (.aload_n 0, 1) := by decide +kernel
theorem dL_law_533 : decode cL_law 533 = .ok (.iload_n 3, 1) := by decide +kernel
theorem dL_law_534 : decode cL_law 534 = .ok (.iconst 2, 1) := by decide +kernel
theorem dL_law_535 : decode cL_law 535 = .ok (.iadd, 1) := by decide +kernel
theorem dL_law_536 : decode cL_law 536 = .ok (.iaload, 1) := by decide +kernel
theorem dL_law_537 : decode cL_law 537 = .ok (.aload_n 0, 1) := by decide +kernel
theorem dL_law_538 : decode cL_law 538 = .ok (.iload_n 3, 1) := by decide +kernel
theorem dL_law_539 : decode cL_law 539 = .ok (.iconst 3, 1) := by decide +kernel
theorem dL_law_540 : decode cL_law 540 = .ok (.iadd, 1) := by decide +kernel
theorem dL_law_541 : decode cL_law 541 = .ok (.iaload, 1) := by decide +kernel
theorem dL_law_542 : decode cL_law 542 = .ok (.aload_n 0, 1) := by decide +kernel
theorem dL_law_543 : decode cL_law 543 = .ok (.iload_n 3, 1) := by decide +kernel
theorem dL_law_544 : decode cL_law 544 = .ok (.iconst 4, 1) := by decide +kernel
theorem dL_law_545 : decode cL_law 545 = .ok (.iadd, 1) := by decide +kernel
theorem dL_law_546 : decode cL_law 546 = .ok (.iaload, 1) := by decide +kernel
theorem dL_law_547 : decode cL_law 547 = .ok (.invokevirtual 72, 3) := by decide +kernel
theorem dL_law_550 : decode cL_law 550 = .ok (.aload_n 2, 1) := by decide +kernel
theorem dL_law_551 : decode cL_law 551 = .ok (.aload_n 0, 1) := by decide +kernel
theorem dL_law_552 : decode cL_law 552 = .ok (.iload_n 3, 1) := by decide +kernel
theorem dL_law_553 : decode cL_law 553 = .ok (.iconst 1, 1) := by decide +kernel
theorem dL_law_554 : decode cL_law 554 = .ok (.iadd, 1) := by decide +kernel
theorem dL_law_555 : decode cL_law 555 = .ok (.iaload, 1) := by decide +kernel
theorem dL_law_556 : decode cL_law 556 = .ok (.aload_n 0, 1) := by decide +kernel
theorem dL_law_557 : decode cL_law 557 = .ok (.iload_n 3, 1) := by decide +kernel
theorem dL_law_558 : decode cL_law 558 = .ok (.iconst 2, 1) := by decide +kernel
theorem dL_law_559 : decode cL_law 559 = .ok (.iadd, 1) := by decide +kernel
theorem dL_law_560 : decode cL_law 560 = .ok (.iaload, 1) := by decide +kernel
theorem dL_law_561 : decode cL_law 561 = .ok (.aload_n 0, 1) := by decide +kernel
theorem dL_law_562 : decode cL_law 562 = .ok (.iload_n 3, 1) := by decide +kernel
theorem dL_law_563 : decode cL_law 563 = .ok (.iconst 3, 1) := by decide +kernel
theorem dL_law_564 : decode cL_law 564 = .ok (.iadd, 1) := by decide +kernel
theorem dL_law_565 : decode cL_law 565 = .ok (.iaload, 1) := by decide +kernel
theorem dL_law_566 : decode cL_law 566 = .ok (.aload_n 0, 1) := by decide +kernel
theorem dL_law_567 : decode cL_law 567 = .ok (.iload_n 3, 1) := by decide +kernel
theorem dL_law_568 : decode cL_law 568 = .ok (.iconst 4, 1) := by decide +kernel
theorem dL_law_569 : decode cL_law 569 = .ok (.iadd, 1) := by decide +kernel
theorem dL_law_570 : decode cL_law 570 = .ok (.iaload, 1) := by decide +kernel
theorem dL_law_571 : decode cL_law 571 = .ok (.invokevirtual 76, 3) := by decide +kernel
theorem dL_law_574 : decode cL_law 574 = .ok (.if_icmp .eq 552, 3) := by decide +kernel
theorem dL_law_577 : decode cL_law 577 = .ok (.iconst 0, 1) := by decide +kernel
theorem dL_law_578 : decode cL_law 578 = .ok (.ireturn, 1) := by decide +kernel
theorem dL_law_579 : decode cL_law 579 = .ok (.aload_n 1, 1) := by decide +kernel
theorem dL_law_580 : decode cL_law 580 = .ok (.aload_n 0, 1) := by decide +kernel
theorem dL_law_581 : decode cL_law 581 = .ok (.iload_n 3, 1) := by decide +kernel
theorem dL_law_582 : decode cL_law 582 = .ok (.iconst 1, 1) := by decide +kernel
theorem dL_law_583 : decode cL_law 583 = .ok (.iadd, 1) := by decide +kernel
theorem dL_law_584 : decode cL_law 584 = .ok (.iaload, 1) := by decide +kernel
theorem dL_law_585 : decode cL_law 585 = .ok (.aload_n 0, 1) := by decide +kernel
theorem dL_law_586 : decode cL_law 586 = .ok (.iload_n 3, 1) := by decide +kernel
theorem dL_law_587 : decode cL_law 587 = .ok (.iconst 2, 1) := by decide +kernel
theorem dL_law_588 : decode cL_law 588 = .ok (.iadd, 1) := by decide +kernel
theorem dL_law_589 : decode cL_law 589 = .ok (.iaload, 1) := by decide +kernel
theorem dL_law_590 : decode cL_law 590 = .ok (.aload_n 0, 1) := by decide +kernel
theorem dL_law_591 : decode cL_law 591 = .ok (.iload_n 3, 1) := by decide +kernel
theorem dL_law_592 : decode cL_law 592 = .ok (.iconst 3, 1) := by decide +kernel
theorem dL_law_593 : decode cL_law 593 = .ok (.iadd, 1) := by decide +kernel
theorem dL_law_594 : decode cL_law 594 = .ok (.iaload, 1) := by decide +kernel
theorem dL_law_595 : decode cL_law 595 = .ok (.invokevirtual 77, 3) := by decide +kernel
theorem dL_law_598 : decode cL_law 598 = .ok (.aload_n 2, 1) := by decide +kernel
theorem dL_law_599 : decode cL_law 599 = .ok (.aload_n 0, 1) := by decide +kernel
theorem dL_law_600 : decode cL_law 600 = .ok (.iload_n 3, 1) := by decide +kernel
theorem dL_law_601 : decode cL_law 601 = .ok (.iconst 1, 1) := by decide +kernel
theorem dL_law_602 : decode cL_law 602 = .ok (.iadd, 1) := by decide +kernel
theorem dL_law_603 : decode cL_law 603 = .ok (.iaload, 1) := by decide +kernel
theorem dL_law_604 : decode cL_law 604 = .ok (.aload_n 0, 1) := by decide +kernel
theorem dL_law_605 : decode cL_law 605 = .ok (.iload_n 3, 1) := by decide +kernel
theorem dL_law_606 : decode cL_law 606 = .ok (.iconst 2, 1) := by decide +kernel
theorem dL_law_607 : decode cL_law 607 = .ok (.iadd, 1) := by decide +kernel
theorem dL_law_608 : decode cL_law 608 = .ok (.iaload, 1) := by decide +kernel
theorem dL_law_609 : decode cL_law 609 = .ok (.aload_n 0, 1) := by decide +kernel
theorem dL_law_610 : decode cL_law 610 = .ok (.iload_n 3, 1) := by decide +kernel
theorem dL_law_611 : decode cL_law 611 = .ok (.iconst 3, 1) := by decide +kernel
theorem dL_law_612 : decode cL_law 612 = .ok (.iadd, 1) := by decide +kernel
theorem dL_law_613 : decode cL_law 613 = .ok (.iaload, 1) := by decide +kernel
theorem dL_law_614 : decode cL_law 614 = .ok (.invokevirtual 81, 3) := by decide +kernel
theorem dL_law_617 : decode cL_law 617 = .ok (.if_icmp .eq 509, 3) := by decide +kernel
theorem dL_law_620 : decode cL_law 620 = .ok (.iconst 0, 1) := by decide +kernel
theorem dL_law_621 : decode cL_law 621 = .ok (.ireturn, 1) := by decide +kernel
theorem dL_law_622 : decode cL_law 622 = .ok (.aload_n 1, 1) := by decide +kernel
theorem dL_law_623 : decode cL_law 623 = .ok (.aload_n 0, 1) := by decide +kernel
theorem dL_law_624 : decode cL_law 624 = .ok (.iload_n 3, 1) := by decide +kernel
theorem dL_law_625 : decode cL_law 625 = .ok (.iconst 1, 1) := by decide +kernel
theorem dL_law_626 : decode cL_law 626 = .ok (.iadd, 1) := by decide +kernel
theorem dL_law_627 : decode cL_law 627 = .ok (.iaload, 1) := by decide +kernel
theorem dL_law_628 : decode cL_law 628 = .ok (.aload_n 0, 1) := by decide +kernel
theorem dL_law_629 : decode cL_law 629 = .ok (.iload_n 3, 1) := by decide +kernel
theorem dL_law_630 : decode cL_law 630 = .ok (.iconst 2, 1) := by decide +kernel
theorem dL_law_631 : decode cL_law 631 = .ok (.iadd, 1) := by decide +kernel
theorem dL_law_632 : decode cL_law 632 = .ok (.iaload, 1) := by decide +kernel
theorem dL_law_633 : decode cL_law 633 = .ok (.aload_n 0, 1) := by decide +kernel
theorem dL_law_634 : decode cL_law 634 = .ok (.iload_n 3, 1) := by decide +kernel
theorem dL_law_635 : decode cL_law 635 = .ok (.iconst 3, 1) := by decide +kernel
theorem dL_law_636 : decode cL_law 636 = .ok (.iadd, 1) := by decide +kernel
theorem dL_law_637 : decode cL_law 637 = .ok (.iaload, 1) := by decide +kernel
theorem dL_law_638 : decode cL_law 638 = .ok (.invokevirtual 82, 3) := by decide +kernel
theorem dL_law_641 : decode cL_law 641 = .ok (.aload_n 2, 1) := by decide +kernel
theorem dL_law_642 : decode cL_law 642 = .ok (.aload_n 0, 1) := by decide +kernel
theorem dL_law_643 : decode cL_law 643 = .ok (.iload_n 3, 1) := by decide +kernel
theorem dL_law_644 : decode cL_law 644 = .ok (.iconst 1, 1) := by decide +kernel
theorem dL_law_645 : decode cL_law 645 = .ok (.iadd, 1) := by decide +kernel
theorem dL_law_646 : decode cL_law 646 = .ok (.iaload, 1) := by decide +kernel
theorem dL_law_647 : decode cL_law 647 = .ok (.aload_n 0, 1) := by decide +kernel
theorem dL_law_648 : decode cL_law 648 = .ok (.iload_n 3, 1) := by decide +kernel
theorem dL_law_649 : decode cL_law 649 = .ok (.iconst 2, 1) := by decide +kernel
theorem dL_law_650 : decode cL_law 650 = .ok (.iadd, 1) := by decide +kernel
theorem dL_law_651 : decode cL_law 651 = .ok (.iaload, 1) := by decide +kernel
theorem dL_law_652 : decode cL_law 652 = .ok (.aload_n 0, 1) := by decide +kernel
theorem dL_law_653 : decode cL_law 653 = .ok (.iload_n 3, 1) := by decide +kernel
theorem dL_law_654 : decode cL_law 654 = .ok (.iconst 3, 1) := by decide +kernel
theorem dL_law_655 : decode cL_law 655 = .ok (.iadd, 1) := by decide +kernel
theorem dL_law_656 : decode cL_law 656 = .ok (.iaload, 1) := by decide +kernel
theorem dL_law_657 : decode cL_law 657 = .ok (.invokevirtual 85, 3) := by decide +kernel
theorem dL_law_660 : decode cL_law 660 = .ok (.if_icmp .eq 466, 3) := by decide +kernel
theorem dL_law_663 : decode cL_law 663 = .ok (.iconst 0, 1) := by decide +kernel
theorem dL_law_664 : decode cL_law 664 = .ok (.ireturn, 1) := by decide +kernel
theorem dL_law_665 : decode cL_law 665 = .ok (.aload_n 1, 1) := by decide +kernel
theorem dL_law_666 : decode cL_law 666 = .ok (.aload_n 0, 1) := by decide +kernel
theorem dL_law_667 : decode cL_law 667 = .ok (.iload_n 3, 1) := by decide +kernel
theorem dL_law_668 : decode cL_law 668 = .ok (.iconst 1, 1) := by decide +kernel
theorem dL_law_669 : decode cL_law 669 = .ok (.iadd, 1) := by decide +kernel
theorem dL_law_670 : decode cL_law 670 = .ok (.iaload, 1) := by decide +kernel
theorem dL_law_671 : decode cL_law 671 = .ok (.aload_n 0, 1) := by decide +kernel
theorem dL_law_672 : decode cL_law 672 = .ok (.iload_n 3, 1) := by decide +kernel
theorem dL_law_673 : decode cL_law 673 = .ok (.iconst 2, 1) := by decide +kernel
theorem dL_law_674 : decode cL_law 674 = .ok (.iadd, 1) := by decide +kernel
theorem dL_law_675 : decode cL_law 675 = .ok (.iaload, 1) := by decide +kernel
theorem dL_law_676 : decode cL_law 676 = .ok (.aload_n 0, 1) := by decide +kernel
theorem dL_law_677 : decode cL_law 677 = .ok (.iload_n 3, 1) := by decide +kernel
theorem dL_law_678 : decode cL_law 678 = .ok (.iconst 3, 1) := by decide +kernel
theorem dL_law_679 : decode cL_law 679 = .ok (.iadd, 1) := by decide +kernel
theorem dL_law_680 : decode cL_law 680 = .ok (.iaload, 1) := by decide +kernel
theorem dL_law_681 : decode cL_law 681 = .ok (.invokevirtual 86, 3) := by decide +kernel
theorem dL_law_684 : decode cL_law 684 = .ok (.aload_n 2, 1) := by decide +kernel
theorem dL_law_685 : decode cL_law 685 = .ok (.aload_n 0, 1) := by decide +kernel
theorem dL_law_686 : decode cL_law 686 = .ok (.iload_n 3, 1) := by decide +kernel
theorem dL_law_687 : decode cL_law 687 = .ok (.iconst 1, 1) := by decide +kernel
theorem dL_law_688 : decode cL_law 688 = .ok (.iadd, 1) := by decide +kernel
theorem dL_law_689 : decode cL_law 689 = .ok (.iaload, 1) := by decide +kernel
theorem dL_law_690 : decode cL_law 690 = .ok (.aload_n 0, 1) := by decide +kernel
theorem dL_law_691 : decode cL_law 691 = .ok (.iload_n 3, 1) := by decide +kernel
theorem dL_law_692 : decode cL_law 692 = .ok (.iconst 2, 1) := by decide +kernel
theorem dL_law_693 : decode cL_law 693 = .ok (.iadd, 1) := by decide +kernel
theorem dL_law_694 : decode cL_law 694 = .ok (.iaload, 1) := by decide +kernel
theorem dL_law_695 : decode cL_law 695 = .ok (.aload_n 0, 1) := by decide +kernel
theorem dL_law_696 : decode cL_law 696 = .ok (.iload_n 3, 1) := by decide +kernel
theorem dL_law_697 : decode cL_law 697 = .ok (.iconst 3, 1) := by decide +kernel
theorem dL_law_698 : decode cL_law 698 = .ok (.iadd, 1) := by decide +kernel
theorem dL_law_699 : decode cL_law 699 = .ok (.iaload, 1) := by decide +kernel
theorem dL_law_700 : decode cL_law 700 = .ok (.invokevirtual 89, 3) := by decide +kernel
theorem dL_law_703 : decode cL_law 703 = .ok (.if_icmp .eq 423, 3) := by decide +kernel
theorem dL_law_706 : decode cL_law 706 = .ok (.iconst 0, 1) := by decide +kernel
theorem dL_law_707 : decode cL_law 707 = .ok (.ireturn, 1) := by decide +kernel
theorem dL_law_708 : decode cL_law 708 = .ok (.aload_n 1, 1) := by decide +kernel
theorem dL_law_709 : decode cL_law 709 = .ok (.aload_n 0, 1) := by decide +kernel
theorem dL_law_710 : decode cL_law 710 = .ok (.iload_n 3, 1) := by decide +kernel
theorem dL_law_711 : decode cL_law 711 = .ok (.iconst 1, 1) := by decide +kernel
theorem dL_law_712 : decode cL_law 712 = .ok (.iadd, 1) := by decide +kernel
theorem dL_law_713 : decode cL_law 713 = .ok (.iaload, 1) := by decide +kernel
theorem dL_law_714 : decode cL_law 714 = .ok (.aload_n 0, 1) := by decide +kernel
theorem dL_law_715 : decode cL_law 715 = .ok (.iload_n 3, 1) := by decide +kernel
theorem dL_law_716 : decode cL_law 716 = .ok (.iconst 2, 1) := by decide +kernel
theorem dL_law_717 : decode cL_law 717 = .ok (.iadd, 1) := by decide +kernel
theorem dL_law_718 : decode cL_law 718 = .ok (.iaload, 1) := by decide +kernel
theorem dL_law_719 : decode cL_law 719 = .ok (.aload_n 0, 1) := by decide +kernel
theorem dL_law_720 : decode cL_law 720 = .ok (.iload_n 3, 1) := by decide +kernel
theorem dL_law_721 : decode cL_law 721 = .ok (.iconst 3, 1) := by decide +kernel
theorem dL_law_722 : decode cL_law 722 = .ok (.iadd, 1) := by decide +kernel
theorem dL_law_723 : decode cL_law 723 = .ok (.iaload, 1) := by decide +kernel
theorem dL_law_724 : decode cL_law 724 = .ok (.invokevirtual 90, 3) := by decide +kernel
theorem dL_law_727 : decode cL_law 727 = .ok (.aload_n 2, 1) := by decide +kernel
theorem dL_law_728 : decode cL_law 728 = .ok (.aload_n 0, 1) := by decide +kernel
theorem dL_law_729 : decode cL_law 729 = .ok (.iload_n 3, 1) := by decide +kernel
theorem dL_law_730 : decode cL_law 730 = .ok (.iconst 1, 1) := by decide +kernel
theorem dL_law_731 : decode cL_law 731 = .ok (.iadd, 1) := by decide +kernel
theorem dL_law_732 : decode cL_law 732 = .ok (.iaload, 1) := by decide +kernel
theorem dL_law_733 : decode cL_law 733 = .ok (.aload_n 0, 1) := by decide +kernel
theorem dL_law_734 : decode cL_law 734 = .ok (.iload_n 3, 1) := by decide +kernel
theorem dL_law_735 : decode cL_law 735 = .ok (.iconst 2, 1) := by decide +kernel
theorem dL_law_736 : decode cL_law 736 = .ok (.iadd, 1) := by decide +kernel
theorem dL_law_737 : decode cL_law 737 = .ok (.iaload, 1) := by decide +kernel
theorem dL_law_738 : decode cL_law 738 = .ok (.aload_n 0, 1) := by decide +kernel
theorem dL_law_739 : decode cL_law 739 = .ok (.iload_n 3, 1) := by decide +kernel
theorem dL_law_740 : decode cL_law 740 = .ok (.iconst 3, 1) := by decide +kernel
theorem dL_law_741 : decode cL_law 741 = .ok (.iadd, 1) := by decide +kernel
theorem dL_law_742 : decode cL_law 742 = .ok (.iaload, 1) := by decide +kernel
theorem dL_law_743 : decode cL_law 743 = .ok (.invokevirtual 93, 3) := by decide +kernel
theorem dL_law_746 : decode cL_law 746 = .ok (.if_icmp .eq 380, 3) := by decide +kernel
theorem dL_law_749 : decode cL_law 749 = .ok (.iconst 0, 1) := by decide +kernel
theorem dL_law_750 : decode cL_law 750 = .ok (.ireturn, 1) := by decide +kernel
theorem dL_law_751 : decode cL_law 751 = .ok (.aload_n 1, 1) := by decide +kernel
theorem dL_law_752 : decode cL_law 752 = .ok (.aload_n 0, 1) := by decide +kernel
theorem dL_law_753 : decode cL_law 753 = .ok (.iload_n 3, 1) := by decide +kernel
theorem dL_law_754 : decode cL_law 754 = .ok (.iconst 1, 1) := by decide +kernel
theorem dL_law_755 : decode cL_law 755 = .ok (.iadd, 1) := by decide +kernel
theorem dL_law_756 : decode cL_law 756 = .ok (.iaload, 1) := by decide +kernel
theorem dL_law_757 : decode cL_law 757 = .ok (.aload_n 0, 1) := by decide +kernel
theorem dL_law_758 : decode cL_law 758 = .ok (.iload_n 3, 1) := by decide +kernel
theorem dL_law_759 : decode cL_law 759 = .ok (.iconst 2, 1) := by decide +kernel
theorem dL_law_760 : decode cL_law 760 = .ok (.iadd, 1) := by decide +kernel
theorem dL_law_761 : decode cL_law 761 = .ok (.iaload, 1) := by decide +kernel
theorem dL_law_762 : decode cL_law 762 = .ok (.invokevirtual 94, 3) := by decide +kernel
theorem dL_law_765 : decode cL_law 765 = .ok (.aload_n 2, 1) := by decide +kernel
theorem dL_law_766 : decode cL_law 766 = .ok (.aload_n 0, 1) := by decide +kernel
theorem dL_law_767 : decode cL_law 767 = .ok (.iload_n 3, 1) := by decide +kernel
theorem dL_law_768 : decode cL_law 768 = .ok (.iconst 1, 1) := by decide +kernel
theorem dL_law_769 : decode cL_law 769 = .ok (.iadd, 1) := by decide +kernel
theorem dL_law_770 : decode cL_law 770 = .ok (.iaload, 1) := by decide +kernel
theorem dL_law_771 : decode cL_law 771 = .ok (.aload_n 0, 1) := by decide +kernel
theorem dL_law_772 : decode cL_law 772 = .ok (.iload_n 3, 1) := by decide +kernel
theorem dL_law_773 : decode cL_law 773 = .ok (.iconst 2, 1) := by decide +kernel
theorem dL_law_774 : decode cL_law 774 = .ok (.iadd, 1) := by decide +kernel
theorem dL_law_775 : decode cL_law 775 = .ok (.iaload, 1) := by decide +kernel
theorem dL_law_776 : decode cL_law 776 = .ok (.invokevirtual 97, 3) := by decide +kernel
theorem dL_law_779 : decode cL_law 779 = .ok (.if_icmp .eq 347, 3) := by decide +kernel
theorem dL_law_782 : decode cL_law 782 = .ok (.iconst 0, 1) := by decide +kernel
theorem dL_law_783 : decode cL_law 783 = .ok (.ireturn, 1) := by decide +kernel
theorem dL_law_784 : decode cL_law 784 = .ok (.aload_n 1, 1) := by decide +kernel
theorem dL_law_785 : decode cL_law 785 = .ok (.aload_n 0, 1) := by decide +kernel
theorem dL_law_786 : decode cL_law 786 = .ok (.iload_n 3, 1) := by decide +kernel
theorem dL_law_787 : decode cL_law 787 = .ok (.iconst 1, 1) := by decide +kernel
theorem dL_law_788 : decode cL_law 788 = .ok (.iadd, 1) := by decide +kernel
theorem dL_law_789 : decode cL_law 789 = .ok (.iaload, 1) := by decide +kernel
theorem dL_law_790 : decode cL_law 790 = .ok (.aload_n 0, 1) := by decide +kernel
theorem dL_law_791 : decode cL_law 791 = .ok (.iload_n 3, 1) := by decide +kernel
theorem dL_law_792 : decode cL_law 792 = .ok (.iconst 2, 1) := by decide +kernel
theorem dL_law_793 : decode cL_law 793 = .ok (.iadd, 1) := by decide +kernel
theorem dL_law_794 : decode cL_law 794 = .ok (.iaload, 1) := by decide +kernel
theorem dL_law_795 : decode cL_law 795 = .ok (.invokevirtual 98, 3) := by decide +kernel
theorem dL_law_798 : decode cL_law 798 = .ok (.aload_n 2, 1) := by decide +kernel
theorem dL_law_799 : decode cL_law 799 = .ok (.aload_n 0, 1) := by decide +kernel
theorem dL_law_800 : decode cL_law 800 = .ok (.iload_n 3, 1) := by decide +kernel
theorem dL_law_801 : decode cL_law 801 = .ok (.iconst 1, 1) := by decide +kernel
theorem dL_law_802 : decode cL_law 802 = .ok (.iadd, 1) := by decide +kernel
theorem dL_law_803 : decode cL_law 803 = .ok (.iaload, 1) := by decide +kernel
theorem dL_law_804 : decode cL_law 804 = .ok (.aload_n 0, 1) := by decide +kernel
theorem dL_law_805 : decode cL_law 805 = .ok (.iload_n 3, 1) := by decide +kernel
theorem dL_law_806 : decode cL_law 806 = .ok (.iconst 2, 1) := by decide +kernel
theorem dL_law_807 : decode cL_law 807 = .ok (.iadd, 1) := by decide +kernel
theorem dL_law_808 : decode cL_law 808 = .ok (.iaload, 1) := by decide +kernel
theorem dL_law_809 : decode cL_law 809 = .ok (.invokevirtual 101, 3) := by decide +kernel
theorem dL_law_812 : decode cL_law 812 = .ok (.if_icmp .eq 314, 3) := by decide +kernel
theorem dL_law_815 : decode cL_law 815 = .ok (.iconst 0, 1) := by decide +kernel
theorem dL_law_816 : decode cL_law 816 = .ok (.ireturn, 1) := by decide +kernel
theorem dL_law_817 : decode cL_law 817 = .ok (.aload_n 1, 1) := by decide +kernel
theorem dL_law_818 : decode cL_law 818 = .ok (.aload_n 0, 1) := by decide +kernel
theorem dL_law_819 : decode cL_law 819 = .ok (.iload_n 3, 1) := by decide +kernel
theorem dL_law_820 : decode cL_law 820 = .ok (.iconst 1, 1) := by decide +kernel
theorem dL_law_821 : decode cL_law 821 = .ok (.iadd, 1) := by decide +kernel
theorem dL_law_822 : decode cL_law 822 = .ok (.iaload, 1) := by decide +kernel
theorem dL_law_823 : decode cL_law 823 = .ok (.invokevirtual 102, 3) := by decide +kernel
theorem dL_law_826 : decode cL_law 826 = .ok (.aload_n 2, 1) := by decide +kernel
theorem dL_law_827 : decode cL_law 827 = .ok (.aload_n 0, 1) := by decide +kernel
theorem dL_law_828 : decode cL_law 828 = .ok (.iload_n 3, 1) := by decide +kernel
theorem dL_law_829 : decode cL_law 829 = .ok (.iconst 1, 1) := by decide +kernel
theorem dL_law_830 : decode cL_law 830 = .ok (.iadd, 1) := by decide +kernel
theorem dL_law_831 : decode cL_law 831 = .ok (.iaload, 1) := by decide +kernel
theorem dL_law_832 : decode cL_law 832 = .ok (.invokevirtual 105, 3) := by decide +kernel
theorem dL_law_835 : decode cL_law 835 = .ok (.if_icmp .eq 291, 3) := by decide +kernel
theorem dL_law_838 : decode cL_law 838 = .ok (.iconst 0, 1) := by decide +kernel
theorem dL_law_839 : decode cL_law 839 = .ok (.ireturn, 1) := by decide +kernel
theorem dL_law_840 : decode cL_law 840 = .ok (.aload_n 1, 1) := by decide +kernel
theorem dL_law_841 : decode cL_law 841 = .ok (.aload_n 0, 1) := by decide +kernel
theorem dL_law_842 : decode cL_law 842 = .ok (.iload_n 3, 1) := by decide +kernel
theorem dL_law_843 : decode cL_law 843 = .ok (.iconst 1, 1) := by decide +kernel
theorem dL_law_844 : decode cL_law 844 = .ok (.iadd, 1) := by decide +kernel
theorem dL_law_845 : decode cL_law 845 = .ok (.iaload, 1) := by decide +kernel
theorem dL_law_846 : decode cL_law 846 = .ok (.aload_n 0, 1) := by decide +kernel
theorem dL_law_847 : decode cL_law 847 = .ok (.iload_n 3, 1) := by decide +kernel
theorem dL_law_848 : decode cL_law 848 = .ok (.iconst 2, 1) := by decide +kernel
theorem dL_law_849 : decode cL_law 849 = .ok (.iadd, 1) := by decide +kernel
theorem dL_law_850 : decode cL_law 850 = .ok (.iaload, 1) := by decide +kernel
theorem dL_law_851 : decode cL_law 851 = .ok (.invokevirtual 106, 3) := by decide +kernel
theorem dL_law_854 : decode cL_law 854 = .ok (.aload_n 2, 1) := by decide +kernel
theorem dL_law_855 : decode cL_law 855 = .ok (.aload_n 0, 1) := by decide +kernel
theorem dL_law_856 : decode cL_law 856 = .ok (.iload_n 3, 1) := by decide +kernel
theorem dL_law_857 : decode cL_law 857 = .ok (.iconst 1, 1) := by decide +kernel
theorem dL_law_858 : decode cL_law 858 = .ok (.iadd, 1) := by decide +kernel
theorem dL_law_859 : decode cL_law 859 = .ok (.iaload, 1) := by decide +kernel
theorem dL_law_860 : decode cL_law 860 = .ok (.aload_n 0, 1) := by decide +kernel
theorem dL_law_861 : decode cL_law 861 = .ok (.iload_n 3, 1) := by decide +kernel
theorem dL_law_862 : decode cL_law 862 = .ok (.iconst 2, 1) := by decide +kernel
theorem dL_law_863 : decode cL_law 863 = .ok (.iadd, 1) := by decide +kernel
theorem dL_law_864 : decode cL_law 864 = .ok (.iaload, 1) := by decide +kernel
theorem dL_law_865 : decode cL_law 865 = .ok (.invokevirtual 109, 3) := by decide +kernel
theorem dL_law_868 : decode cL_law 868 = .ok (.if_icmp .eq 258, 3) := by decide +kernel
theorem dL_law_871 : decode cL_law 871 = .ok (.iconst 0, 1) := by decide +kernel
theorem dL_law_872 : decode cL_law 872 = .ok (.ireturn, 1) := by decide +kernel
theorem dL_law_873 : decode cL_law 873 = .ok (.aload_n 1, 1) := by decide +kernel
theorem dL_law_874 : decode cL_law 874 = .ok (.aload_n 0, 1) := by decide +kernel
theorem dL_law_875 : decode cL_law 875 = .ok (.iload_n 3, 1) := by decide +kernel
theorem dL_law_876 : decode cL_law 876 = .ok (.iconst 1, 1) := by decide +kernel
theorem dL_law_877 : decode cL_law 877 = .ok (.iadd, 1) := by decide +kernel
theorem dL_law_878 : decode cL_law 878 = .ok (.iaload, 1) := by decide +kernel
theorem dL_law_879 : decode cL_law 879 = .ok (.aload_n 0, 1) := by decide +kernel
theorem dL_law_880 : decode cL_law 880 = .ok (.iload_n 3, 1) := by decide +kernel
theorem dL_law_881 : decode cL_law 881 = .ok (.iconst 2, 1) := by decide +kernel
theorem dL_law_882 : decode cL_law 882 = .ok (.iadd, 1) := by decide +kernel
theorem dL_law_883 : decode cL_law 883 = .ok (.iaload, 1) := by decide +kernel
theorem dL_law_884 : decode cL_law 884 = .ok (.invokevirtual 110, 3) := by decide +kernel
theorem dL_law_887 : decode cL_law 887 = .ok (.aload_n 2, 1) := by decide +kernel
theorem dL_law_888 : decode cL_law 888 = .ok (.aload_n 0, 1) := by decide +kernel
theorem dL_law_889 : decode cL_law 889 = .ok (.iload_n 3, 1) := by decide +kernel
theorem dL_law_890 : decode cL_law 890 = .ok (.iconst 1, 1) := by decide +kernel
theorem dL_law_891 : decode cL_law 891 = .ok (.iadd, 1) := by decide +kernel
theorem dL_law_892 : decode cL_law 892 = .ok (.iaload, 1) := by decide +kernel
theorem dL_law_893 : decode cL_law 893 = .ok (.aload_n 0, 1) := by decide +kernel
theorem dL_law_894 : decode cL_law 894 = .ok (.iload_n 3, 1) := by decide +kernel
theorem dL_law_895 : decode cL_law 895 = .ok (.iconst 2, 1) := by decide +kernel
theorem dL_law_896 : decode cL_law 896 = .ok (.iadd, 1) := by decide +kernel
theorem dL_law_897 : decode cL_law 897 = .ok (.iaload, 1) := by decide +kernel
theorem dL_law_898 : decode cL_law 898 = .ok (.invokevirtual 113, 3) := by decide +kernel
theorem dL_law_901 : decode cL_law 901 = .ok (.if_icmp .eq 225, 3) := by decide +kernel
theorem dL_law_904 : decode cL_law 904 = .ok (.iconst 0, 1) := by decide +kernel
theorem dL_law_905 : decode cL_law 905 = .ok (.ireturn, 1) := by decide +kernel
theorem dL_law_906 : decode cL_law 906 = .ok (.aload_n 1, 1) := by decide +kernel
theorem dL_law_907 : decode cL_law 907 = .ok (.aload_n 0, 1) := by decide +kernel
theorem dL_law_908 : decode cL_law 908 = .ok (.iload_n 3, 1) := by decide +kernel
theorem dL_law_909 : decode cL_law 909 = .ok (.iconst 1, 1) := by decide +kernel
theorem dL_law_910 : decode cL_law 910 = .ok (.iadd, 1) := by decide +kernel
theorem dL_law_911 : decode cL_law 911 = .ok (.iaload, 1) := by decide +kernel
theorem dL_law_912 : decode cL_law 912 = .ok (.aload_n 0, 1) := by decide +kernel
theorem dL_law_913 : decode cL_law 913 = .ok (.iload_n 3, 1) := by decide +kernel
theorem dL_law_914 : decode cL_law 914 = .ok (.iconst 2, 1) := by decide +kernel
theorem dL_law_915 : decode cL_law 915 = .ok (.iadd, 1) := by decide +kernel
theorem dL_law_916 : decode cL_law 916 = .ok (.iaload, 1) := by decide +kernel
theorem dL_law_917 : decode cL_law 917 = .ok (.aload_n 0, 1) := by decide +kernel
theorem dL_law_918 : decode cL_law 918 = .ok (.iload_n 3, 1) := by decide +kernel
theorem dL_law_919 : decode cL_law 919 = .ok (.iconst 3, 1) := by decide +kernel
theorem dL_law_920 : decode cL_law 920 = .ok (.iadd, 1) := by decide +kernel
theorem dL_law_921 : decode cL_law 921 = .ok (.iaload, 1) := by decide +kernel
theorem dL_law_922 : decode cL_law 922 = .ok (.invokevirtual 114, 3) := by decide +kernel
theorem dL_law_925 : decode cL_law 925 = .ok (.aload_n 2, 1) := by decide +kernel
theorem dL_law_926 : decode cL_law 926 = .ok (.aload_n 0, 1) := by decide +kernel
theorem dL_law_927 : decode cL_law 927 = .ok (.iload_n 3, 1) := by decide +kernel
theorem dL_law_928 : decode cL_law 928 = .ok (.iconst 1, 1) := by decide +kernel
theorem dL_law_929 : decode cL_law 929 = .ok (.iadd, 1) := by decide +kernel
theorem dL_law_930 : decode cL_law 930 = .ok (.iaload, 1) := by decide +kernel
theorem dL_law_931 : decode cL_law 931 = .ok (.aload_n 0, 1) := by decide +kernel
theorem dL_law_932 : decode cL_law 932 = .ok (.iload_n 3, 1) := by decide +kernel
theorem dL_law_933 : decode cL_law 933 = .ok (.iconst 2, 1) := by decide +kernel
theorem dL_law_934 : decode cL_law 934 = .ok (.iadd, 1) := by decide +kernel
theorem dL_law_935 : decode cL_law 935 = .ok (.iaload, 1) := by decide +kernel
theorem dL_law_936 : decode cL_law 936 = .ok (.aload_n 0, 1) := by decide +kernel
theorem dL_law_937 : decode cL_law 937 = .ok (.iload_n 3, 1) := by decide +kernel
theorem dL_law_938 : decode cL_law 938 = .ok (.iconst 3, 1) := by decide +kernel
theorem dL_law_939 : decode cL_law 939 = .ok (.iadd, 1) := by decide +kernel
theorem dL_law_940 : decode cL_law 940 = .ok (.iaload, 1) := by decide +kernel
theorem dL_law_941 : decode cL_law 941 = .ok (.invokevirtual 117, 3) := by decide +kernel
theorem dL_law_944 : decode cL_law 944 = .ok (.if_icmp .eq 182, 3) := by decide +kernel
theorem dL_law_947 : decode cL_law 947 = .ok (.iconst 0, 1) := by decide +kernel
theorem dL_law_948 : decode cL_law 948 = .ok (.ireturn, 1) := by decide +kernel
theorem dL_law_949 : decode cL_law 949 = .ok (.aload_n 1, 1) := by decide +kernel
theorem dL_law_950 : decode cL_law 950 = .ok (.aload_n 0, 1) := by decide +kernel
theorem dL_law_951 : decode cL_law 951 = .ok (.iload_n 3, 1) := by decide +kernel
theorem dL_law_952 : decode cL_law 952 = .ok (.iconst 1, 1) := by decide +kernel
theorem dL_law_953 : decode cL_law 953 = .ok (.iadd, 1) := by decide +kernel
theorem dL_law_954 : decode cL_law 954 = .ok (.iaload, 1) := by decide +kernel
theorem dL_law_955 : decode cL_law 955 = .ok (.invokevirtual 118, 3) := by decide +kernel
theorem dL_law_958 : decode cL_law 958 = .ok (.aload_n 2, 1) := by decide +kernel
theorem dL_law_959 : decode cL_law 959 = .ok (.aload_n 0, 1) := by decide +kernel
theorem dL_law_960 : decode cL_law 960 = .ok (.iload_n 3, 1) := by decide +kernel
theorem dL_law_961 : decode cL_law 961 = .ok (.iconst 1, 1) := by decide +kernel
theorem dL_law_962 : decode cL_law 962 = .ok (.iadd, 1) := by decide +kernel
theorem dL_law_963 : decode cL_law 963 = .ok (.iaload, 1) := by decide +kernel
theorem dL_law_964 : decode cL_law 964 = .ok (.invokevirtual 121, 3) := by decide +kernel
theorem dL_law_967 : decode cL_law 967 = .ok (.if_icmp .eq 159, 3) := by decide +kernel
theorem dL_law_970 : decode cL_law 970 = .ok (.iconst 0, 1) := by decide +kernel
theorem dL_law_971 : decode cL_law 971 = .ok (.ireturn, 1) := by decide +kernel
theorem dL_law_972 : decode cL_law 972 = .ok (.aload_n 1, 1) := by decide +kernel
theorem dL_law_973 : decode cL_law 973 = .ok (.invokevirtual 122, 3) := by decide +kernel
theorem dL_law_976 : decode cL_law 976 = .ok (.aload_n 2, 1) := by decide +kernel
theorem dL_law_977 : decode cL_law 977 = .ok (.invokevirtual 125, 3) := by decide +kernel
theorem dL_law_980 : decode cL_law 980 = .ok (.if_icmp .eq 146, 3) := by decide +kernel
theorem dL_law_983 : decode cL_law 983 = .ok (.iconst 0, 1) := by decide +kernel
theorem dL_law_984 : decode cL_law 984 = .ok (.ireturn, 1) := by decide +kernel
theorem dL_law_985 : decode cL_law 985 = .ok (.aload_n 1, 1) := by decide +kernel
theorem dL_law_986 : decode cL_law 986 = .ok (.aload_n 0, 1) := by decide +kernel
theorem dL_law_987 : decode cL_law 987 = .ok (.iload_n 3, 1) := by decide +kernel
theorem dL_law_988 : decode cL_law 988 = .ok (.iconst 1, 1) := by decide +kernel
theorem dL_law_989 : decode cL_law 989 = .ok (.iadd, 1) := by decide +kernel
theorem dL_law_990 : decode cL_law 990 = .ok (.iaload, 1) := by decide +kernel
theorem dL_law_991 : decode cL_law 991 = .ok (.aload_n 0, 1) := by decide +kernel
theorem dL_law_992 : decode cL_law 992 = .ok (.iload_n 3, 1) := by decide +kernel
theorem dL_law_993 : decode cL_law 993 = .ok (.iconst 2, 1) := by decide +kernel
theorem dL_law_994 : decode cL_law 994 = .ok (.iadd, 1) := by decide +kernel
theorem dL_law_995 : decode cL_law 995 = .ok (.iaload, 1) := by decide +kernel
theorem dL_law_996 : decode cL_law 996 = .ok (.invokevirtual 126, 3) := by decide +kernel
theorem dL_law_999 : decode cL_law 999 = .ok (.aload_n 2, 1) := by decide +kernel
theorem dL_law_1000 : decode cL_law 1000 = .ok (.aload_n 0, 1) := by decide +kernel
theorem dL_law_1001 : decode cL_law 1001 = .ok (.iload_n 3, 1) := by decide +kernel
theorem dL_law_1002 : decode cL_law 1002 = .ok (.iconst 1, 1) := by decide +kernel
theorem dL_law_1003 : decode cL_law 1003 = .ok (.iadd, 1) := by decide +kernel
theorem dL_law_1004 : decode cL_law 1004 = .ok (.iaload, 1) := by decide +kernel
theorem dL_law_1005 : decode cL_law 1005 = .ok (.aload_n 0, 1) := by decide +kernel
theorem dL_law_1006 : decode cL_law 1006 = .ok (.iload_n 3, 1) := by decide +kernel
theorem dL_law_1007 : decode cL_law 1007 = .ok (.iconst 2, 1) := by decide +kernel
theorem dL_law_1008 : decode cL_law 1008 = .ok (.iadd, 1) := by decide +kernel
theorem dL_law_1009 : decode cL_law 1009 = .ok (.iaload, 1) := by decide +kernel
theorem dL_law_1010 : decode cL_law 1010 = .ok (.invokevirtual 129, 3) := by decide +kernel
theorem dL_law_1013 : decode cL_law 1013 = .ok (.if_icmp .eq 113, 3) := by decide +kernel
theorem dL_law_1016 : decode cL_law 1016 = .ok (.iconst 0, 1) := by decide +kernel
theorem dL_law_1017 : decode cL_law 1017 = .ok (.ireturn, 1) := by decide +kernel
theorem dL_law_1018 : decode cL_law 1018 = .ok (.aload_n 1, 1) := by decide +kernel
theorem dL_law_1019 : decode cL_law 1019 = .ok (.invokevirtual 130, 3) := by decide +kernel
theorem dL_law_1022 : decode cL_law 1022 = .ok (.aload_n 2, 1) := by decide +kernel
theorem dL_law_1023 : decode cL_law 1023 = .ok (.invokevirtual 133, 3) := by decide +kernel
theorem dL_law_1026 : decode cL_law 1026 = .ok (.if_icmp .eq 100, 3) := by decide +kernel
theorem dL_law_1029 : decode cL_law 1029 = .ok (.iconst 0, 1) := by decide +kernel
theorem dL_law_1030 : decode cL_law 1030 = .ok (.ireturn, 1) := by decide +kernel
theorem dL_law_1031 : decode cL_law 1031 = .ok (.aload_n 1, 1) := by decide +kernel
theorem dL_law_1032 : decode cL_law 1032 = .ok (.invokevirtual 134, 3) := by decide +kernel
theorem dL_law_1035 : decode cL_law 1035 = .ok (.aload_n 2, 1) := by decide +kernel
theorem dL_law_1036 : decode cL_law 1036 = .ok (.invokevirtual 137, 3) := by decide +kernel
theorem dL_law_1039 : decode cL_law 1039 = .ok (.if_icmp .eq 87, 3) := by decide +kernel
theorem dL_law_1042 : decode cL_law 1042 = .ok (.iconst 0, 1) := by decide +kernel
theorem dL_law_1043 : decode cL_law 1043 = .ok (.ireturn, 1) := by decide +kernel
theorem dL_law_1044 : decode cL_law 1044 = .ok (.aload_n 1, 1) := by decide +kernel
theorem dL_law_1045 : decode cL_law 1045 = .ok (.invokevirtual 138, 3) := by decide +kernel
theorem dL_law_1048 : decode cL_law 1048 = .ok (.aload_n 2, 1) := by decide +kernel
theorem dL_law_1049 : decode cL_law 1049 = .ok (.invokevirtual 141, 3) := by decide +kernel
theorem dL_law_1052 : decode cL_law 1052 = .ok (.if_icmp .eq 74, 3) := by decide +kernel
theorem dL_law_1055 : decode cL_law 1055 = .ok (.iconst 0, 1) := by decide +kernel
theorem dL_law_1056 : decode cL_law 1056 = .ok (.ireturn, 1) := by decide +kernel
theorem dL_law_1057 : decode cL_law 1057 = .ok (.aload_n 1, 1) := by decide +kernel
theorem dL_law_1058 : decode cL_law 1058 = .ok (.aload_n 0, 1) := by decide +kernel
theorem dL_law_1059 : decode cL_law 1059 = .ok (.iload_n 3, 1) := by decide +kernel
theorem dL_law_1060 : decode cL_law 1060 = .ok (.iconst 1, 1) := by decide +kernel
theorem dL_law_1061 : decode cL_law 1061 = .ok (.iadd, 1) := by decide +kernel
theorem dL_law_1062 : decode cL_law 1062 = .ok (.iaload, 1) := by decide +kernel
theorem dL_law_1063 : decode cL_law 1063 = .ok (.invokevirtual 142, 3) := by decide +kernel
theorem dL_law_1066 : decode cL_law 1066 = .ok (.aload_n 2, 1) := by decide +kernel
theorem dL_law_1067 : decode cL_law 1067 = .ok (.aload_n 0, 1) := by decide +kernel
theorem dL_law_1068 : decode cL_law 1068 = .ok (.iload_n 3, 1) := by decide +kernel
theorem dL_law_1069 : decode cL_law 1069 = .ok (.iconst 1, 1) := by decide +kernel
theorem dL_law_1070 : decode cL_law 1070 = .ok (.iadd, 1) := by decide +kernel
theorem dL_law_1071 : decode cL_law 1071 = .ok (.iaload, 1) := by decide +kernel
theorem dL_law_1072 : decode cL_law 1072 = .ok (.invokevirtual 145, 3) := by decide +kernel
theorem dL_law_1075 : decode cL_law 1075 = .ok (.if_icmp .eq 51, 3) := by decide +kernel
theorem dL_law_1078 : decode cL_law 1078 = .ok (.iconst 0, 1) := by decide +kernel
theorem dL_law_1079 : decode cL_law 1079 = .ok (.ireturn, 1) := by decide +kernel
theorem dL_law_1080 : decode cL_law 1080 = .ok (.aload_n 1, 1) := by decide +kernel
theorem dL_law_1081 : decode cL_law 1081 = .ok (.aload_n 0, 1) := by decide +kernel
theorem dL_law_1082 : decode cL_law 1082 = .ok (.iload_n 3, 1) := by decide +kernel
theorem dL_law_1083 : decode cL_law 1083 = .ok (.iconst 1, 1) := by decide +kernel
theorem dL_law_1084 : decode cL_law 1084 = .ok (.iadd, 1) := by decide +kernel
theorem dL_law_1085 : decode cL_law 1085 = .ok (.iaload, 1) := by decide +kernel
theorem dL_law_1086 : decode cL_law 1086 = .ok (.invokevirtual 146, 3) := by decide +kernel
theorem dL_law_1089 : decode cL_law 1089 = .ok (.aload_n 2, 1) := by decide +kernel
theorem dL_law_1090 : decode cL_law 1090 = .ok (.aload_n 0, 1) := by decide +kernel
theorem dL_law_1091 : decode cL_law 1091 = .ok (.iload_n 3, 1) := by decide +kernel
theorem dL_law_1092 : decode cL_law 1092 = .ok (.iconst 1, 1) := by decide +kernel
theorem dL_law_1093 : decode cL_law 1093 = .ok (.iadd, 1) := by decide +kernel
theorem dL_law_1094 : decode cL_law 1094 = .ok (.iaload, 1) := by decide +kernel
theorem dL_law_1095 : decode cL_law 1095 = .ok (.invokevirtual 149, 3) := by decide +kernel
theorem dL_law_1098 : decode cL_law 1098 = .ok (.if_icmp .eq 28, 3) := by decide +kernel
theorem dL_law_1101 : decode cL_law 1101 = .ok (.iconst 0, 1) := by decide +kernel
theorem dL_law_1102 : decode cL_law 1102 = .ok (.ireturn, 1) := by decide +kernel
theorem dL_law_1103 : decode cL_law 1103 = .ok (.aload_n 1, 1) := by decide +kernel
theorem dL_law_1104 : decode cL_law 1104 = .ok (.aload_n 0, 1) := by decide +kernel
theorem dL_law_1105 : decode cL_law 1105 = .ok (.iload_n 3, 1) := by decide +kernel
theorem dL_law_1106 : decode cL_law 1106 = .ok (.iconst 1, 1) := by decide +kernel
theorem dL_law_1107 : decode cL_law 1107 = .ok (.iadd, 1) := by decide +kernel
theorem dL_law_1108 : decode cL_law 1108 = .ok (.iaload, 1) := by decide +kernel
theorem dL_law_1109 : decode cL_law 1109 = .ok (.invokevirtual 150, 3) := by decide +kernel
theorem dL_law_1112 : decode cL_law 1112 = .ok (.aload_n 2, 1) := by decide +kernel
theorem dL_law_1113 : decode cL_law 1113 = .ok (.aload_n 0, 1) := by decide +kernel
theorem dL_law_1114 : decode cL_law 1114 = .ok (.iload_n 3, 1) := by decide +kernel
theorem dL_law_1115 : decode cL_law 1115 = .ok (.iconst 1, 1) := by decide +kernel
theorem dL_law_1116 : decode cL_law 1116 = .ok (.iadd, 1) := by decide +kernel
theorem dL_law_1117 : decode cL_law 1117 = .ok (.iaload, 1) := by decide +kernel
theorem dL_law_1118 : decode cL_law 1118 = .ok (.invokevirtual 153, 3) := by decide +kernel
theorem dL_law_1121 : decode cL_law 1121 = .ok (.if_icmp .eq 5, 3) := by decide +kernel
theorem dL_law_1124 : decode cL_law 1124 = .ok (.iconst 0, 1) := by decide +kernel
theorem dL_law_1125 : decode cL_law 1125 = .ok (.ireturn, 1) := by decide +kernel
theorem dL_law_1126 : decode cL_law 1126 = .ok (.iinc 3 5, 3) := by decide +kernel
theorem dL_law_1129 : decode cL_law 1129 = .ok (.goto (-1111), 3) := by decide +kernel
theorem dL_law_1132 : decode cL_law 1132 = .ok (.iconst 1, 1) := by decide +kernel
theorem dL_law_1133 : decode cL_law 1133 = .ok (.ireturn, 1) := by decide +kernel
theorem bL_law_0 {d mc ms : Nat} {Q : Option jA → jH → Prop} (u1 : Option jA) (u2 : Option jA) (u3 : Option jA) (mc1 ms1 : Nat) (h : jH)
    (e1 : Ex MX8_init (d + 5) [.inr (jN h)] (jnew h 8 14) mc1 ms1 (fun v h2 => V ML_law (d + 13) 7 [some (.inr 1), u1, u2, u3] (v.toList ++ [.inr (jN h)]) h2 mc ms Q))
    (s1 : (jS (jnew h 8 14) (jN h)).1 = 8) :
    V ML_law (d + 13) 0 [some (.inr 1), u1, u2, u3] [] h ((mc1 + mc) + 1) ((ms1 + ms) + 14) Q := by
  refine V_new (ci := 8) (n := 14) dL_law_0 rfl (by decide) clL_7 in8 ini8 ?_
  refine V_dup dL_law_3 ?_
  exact V_callI (M := ML_law) (d := (d + 13)) (As := []) (rest := [.inr (jN h)]) dL_law_4 tX8_init iX8_init lL_9 rfl s1 (by decide) rfl rfl (Nat.le_of_ble_eq_true rfl) (show (d + 5) + 1 ≤ (d + 13) by omega) e1
theorem bL_law_18 {d : Nat} {Q : Option jA → jH → Prop} (a1 : Nat) (a2 : Nat) (i3 : Int) (h : jH)
    (r1 : jR ((((jS h 1).2 : Int)) - 5))
    (q1 : (((((jS h 1).2 : Int)) - 5) < i3) → Q (some (.inl 1)) h)
    (s1 : (¬ (((((jS h 1).2 : Int)) - 5) < i3)) → 0 ≤ i3)
    (s2 : (¬ (((((jS h 1).2 : Int)) - 5) < i3)) → i3 < ((jS h 1).2 : Int))
    (r2 : (¬ (((((jS h 1).2 : Int)) - 5) < i3)) → ((jand (jX h 1 ((i3).toNat)) 63) = 0) → jR (i3 + 1))
    (s3 : (¬ (((((jS h 1).2 : Int)) - 5) < i3)) → ((jand (jX h 1 ((i3).toNat)) 63) = 0) → 0 ≤ i3 + 1)
    (s4 : (¬ (((((jS h 1).2 : Int)) - 5) < i3)) → ((jand (jX h 1 ((i3).toNat)) 63) = 0) → i3 + 1 < ((jS h 1).2 : Int))
    (e1 : (¬ (((((jS h 1).2 : Int)) - 5) < i3)) → ((jand (jX h 1 ((i3).toNat)) 63) = 0) → Ex MX8_type (d + 1) [.inr a1, .inl (jX h 1 ((i3 + 1).toNat))] h 0 0 (fun v h2 => V ML_law (d + 13) 193 [some (.inr 1), some (.inr a1), some (.inr a2), some (.inl i3)] (v.toList ++ []) h2 0 0 Q))
    (s5 : (jS h a1).1 = 8)
    (e2 : (¬ (((((jS h 1).2 : Int)) - 5) < i3)) → (¬ ((jand (jX h 1 ((i3).toNat)) 63) = 0)) → ((jand (jX h 1 ((i3).toNat)) 63) = 1) → Ex MX8_clear (d + 1) [.inr a1] h 0 0 (fun v h2 => V ML_law (d + 13) 211 [some (.inr 1), some (.inr a1), some (.inr a2), some (.inl i3)] (v.toList ++ []) h2 0 0 Q))
    (e3 : (¬ (((((jS h 1).2 : Int)) - 5) < i3)) → (¬ ((jand (jX h 1 ((i3).toNat)) 63) = 0)) → (¬ ((jand (jX h 1 ((i3).toNat)) 63) = 1)) → ((jand (jX h 1 ((i3).toNat)) 63) = 2) → Ex MX8_tells (d + 12) [.inr a1] h 0 0 (fun v h2 => V ML_law (d + 13) 224 [some (.inr 1), some (.inr a1), some (.inr a2), some (.inl i3)] (v.toList ++ []) h2 0 0 Q))
    (e4 : (¬ (((((jS h 1).2 : Int)) - 5) < i3)) → (¬ ((jand (jX h 1 ((i3).toNat)) 63) = 0)) → (¬ ((jand (jX h 1 ((i3).toNat)) 63) = 1)) → (¬ ((jand (jX h 1 ((i3).toNat)) 63) = 2)) → ((jand (jX h 1 ((i3).toNat)) 63) = 3) → Ex MX8_node (d + 2) [.inr a1] h 0 0 (fun v h2 => V ML_law (d + 13) 237 [some (.inr 1), some (.inr a1), some (.inr a2), some (.inl i3)] (v.toList ++ []) h2 0 0 Q))
    (r3 : (¬ (((((jS h 1).2 : Int)) - 5) < i3)) → (¬ ((jand (jX h 1 ((i3).toNat)) 63) = 0)) → (¬ ((jand (jX h 1 ((i3).toNat)) 63) = 1)) → (¬ ((jand (jX h 1 ((i3).toNat)) 63) = 2)) → (¬ ((jand (jX h 1 ((i3).toNat)) 63) = 3)) → ((jand (jX h 1 ((i3).toNat)) 63) = 4) → jR (i3 + 1))
    (s6 : (¬ (((((jS h 1).2 : Int)) - 5) < i3)) → (¬ ((jand (jX h 1 ((i3).toNat)) 63) = 0)) → (¬ ((jand (jX h 1 ((i3).toNat)) 63) = 1)) → (¬ ((jand (jX h 1 ((i3).toNat)) 63) = 2)) → (¬ ((jand (jX h 1 ((i3).toNat)) 63) = 3)) → ((jand (jX h 1 ((i3).toNat)) 63) = 4) → 0 ≤ i3 + 1)
    (s7 : (¬ (((((jS h 1).2 : Int)) - 5) < i3)) → (¬ ((jand (jX h 1 ((i3).toNat)) 63) = 0)) → (¬ ((jand (jX h 1 ((i3).toNat)) 63) = 1)) → (¬ ((jand (jX h 1 ((i3).toNat)) 63) = 2)) → (¬ ((jand (jX h 1 ((i3).toNat)) 63) = 3)) → ((jand (jX h 1 ((i3).toNat)) 63) = 4) → i3 + 1 < ((jS h 1).2 : Int))
    (r4 : (¬ (((((jS h 1).2 : Int)) - 5) < i3)) → (¬ ((jand (jX h 1 ((i3).toNat)) 63) = 0)) → (¬ ((jand (jX h 1 ((i3).toNat)) 63) = 1)) → (¬ ((jand (jX h 1 ((i3).toNat)) 63) = 2)) → (¬ ((jand (jX h 1 ((i3).toNat)) 63) = 3)) → ((jand (jX h 1 ((i3).toNat)) 63) = 4) → jR (i3 + 2))
    (s8 : (¬ (((((jS h 1).2 : Int)) - 5) < i3)) → (¬ ((jand (jX h 1 ((i3).toNat)) 63) = 0)) → (¬ ((jand (jX h 1 ((i3).toNat)) 63) = 1)) → (¬ ((jand (jX h 1 ((i3).toNat)) 63) = 2)) → (¬ ((jand (jX h 1 ((i3).toNat)) 63) = 3)) → ((jand (jX h 1 ((i3).toNat)) 63) = 4) → 0 ≤ i3 + 2)
    (s9 : (¬ (((((jS h 1).2 : Int)) - 5) < i3)) → (¬ ((jand (jX h 1 ((i3).toNat)) 63) = 0)) → (¬ ((jand (jX h 1 ((i3).toNat)) 63) = 1)) → (¬ ((jand (jX h 1 ((i3).toNat)) 63) = 2)) → (¬ ((jand (jX h 1 ((i3).toNat)) 63) = 3)) → ((jand (jX h 1 ((i3).toNat)) 63) = 4) → i3 + 2 < ((jS h 1).2 : Int))
    (e5 : (¬ (((((jS h 1).2 : Int)) - 5) < i3)) → (¬ ((jand (jX h 1 ((i3).toNat)) 63) = 0)) → (¬ ((jand (jX h 1 ((i3).toNat)) 63) = 1)) → (¬ ((jand (jX h 1 ((i3).toNat)) 63) = 2)) → (¬ ((jand (jX h 1 ((i3).toNat)) 63) = 3)) → ((jand (jX h 1 ((i3).toNat)) 63) = 4) → Ex MX8_about (d + 3) [.inr a1, .inl (jX h 1 ((i3 + 1).toNat)), .inl (jX h 1 ((i3 + 2).toNat))] h 0 0 (fun v h2 => V ML_law (d + 13) 260 [some (.inr 1), some (.inr a1), some (.inr a2), some (.inl i3)] (v.toList ++ []) h2 0 0 Q))
    (r5 : (¬ (((((jS h 1).2 : Int)) - 5) < i3)) → (¬ ((jand (jX h 1 ((i3).toNat)) 63) = 0)) → (¬ ((jand (jX h 1 ((i3).toNat)) 63) = 1)) → (¬ ((jand (jX h 1 ((i3).toNat)) 63) = 2)) → (¬ ((jand (jX h 1 ((i3).toNat)) 63) = 3)) → (¬ ((jand (jX h 1 ((i3).toNat)) 63) = 4)) → ((jand (jX h 1 ((i3).toNat)) 63) = 5) → jR (i3 + 1))
    (s10 : (¬ (((((jS h 1).2 : Int)) - 5) < i3)) → (¬ ((jand (jX h 1 ((i3).toNat)) 63) = 0)) → (¬ ((jand (jX h 1 ((i3).toNat)) 63) = 1)) → (¬ ((jand (jX h 1 ((i3).toNat)) 63) = 2)) → (¬ ((jand (jX h 1 ((i3).toNat)) 63) = 3)) → (¬ ((jand (jX h 1 ((i3).toNat)) 63) = 4)) → ((jand (jX h 1 ((i3).toNat)) 63) = 5) → 0 ≤ i3 + 1)
    (s11 : (¬ (((((jS h 1).2 : Int)) - 5) < i3)) → (¬ ((jand (jX h 1 ((i3).toNat)) 63) = 0)) → (¬ ((jand (jX h 1 ((i3).toNat)) 63) = 1)) → (¬ ((jand (jX h 1 ((i3).toNat)) 63) = 2)) → (¬ ((jand (jX h 1 ((i3).toNat)) 63) = 3)) → (¬ ((jand (jX h 1 ((i3).toNat)) 63) = 4)) → ((jand (jX h 1 ((i3).toNat)) 63) = 5) → i3 + 1 < ((jS h 1).2 : Int))
    (r6 : (¬ (((((jS h 1).2 : Int)) - 5) < i3)) → (¬ ((jand (jX h 1 ((i3).toNat)) 63) = 0)) → (¬ ((jand (jX h 1 ((i3).toNat)) 63) = 1)) → (¬ ((jand (jX h 1 ((i3).toNat)) 63) = 2)) → (¬ ((jand (jX h 1 ((i3).toNat)) 63) = 3)) → (¬ ((jand (jX h 1 ((i3).toNat)) 63) = 4)) → ((jand (jX h 1 ((i3).toNat)) 63) = 5) → jR (i3 + 2))
    (s12 : (¬ (((((jS h 1).2 : Int)) - 5) < i3)) → (¬ ((jand (jX h 1 ((i3).toNat)) 63) = 0)) → (¬ ((jand (jX h 1 ((i3).toNat)) 63) = 1)) → (¬ ((jand (jX h 1 ((i3).toNat)) 63) = 2)) → (¬ ((jand (jX h 1 ((i3).toNat)) 63) = 3)) → (¬ ((jand (jX h 1 ((i3).toNat)) 63) = 4)) → ((jand (jX h 1 ((i3).toNat)) 63) = 5) → 0 ≤ i3 + 2)
    (s13 : (¬ (((((jS h 1).2 : Int)) - 5) < i3)) → (¬ ((jand (jX h 1 ((i3).toNat)) 63) = 0)) → (¬ ((jand (jX h 1 ((i3).toNat)) 63) = 1)) → (¬ ((jand (jX h 1 ((i3).toNat)) 63) = 2)) → (¬ ((jand (jX h 1 ((i3).toNat)) 63) = 3)) → (¬ ((jand (jX h 1 ((i3).toNat)) 63) = 4)) → ((jand (jX h 1 ((i3).toNat)) 63) = 5) → i3 + 2 < ((jS h 1).2 : Int))
    (e6 : (¬ (((((jS h 1).2 : Int)) - 5) < i3)) → (¬ ((jand (jX h 1 ((i3).toNat)) 63) = 0)) → (¬ ((jand (jX h 1 ((i3).toNat)) 63) = 1)) → (¬ ((jand (jX h 1 ((i3).toNat)) 63) = 2)) → (¬ ((jand (jX h 1 ((i3).toNat)) 63) = 3)) → (¬ ((jand (jX h 1 ((i3).toNat)) 63) = 4)) → ((jand (jX h 1 ((i3).toNat)) 63) = 5) → Ex MX8_scope (d + 1) [.inr a1, .inl (jX h 1 ((i3 + 1).toNat)), .inl (jX h 1 ((i3 + 2).toNat))] h 0 0 (fun v h2 => V ML_law (d + 13) 293 [some (.inr 1), some (.inr a1), some (.inr a2), some (.inl i3)] (v.toList ++ []) h2 0 0 Q))
    (r7 : (¬ (((((jS h 1).2 : Int)) - 5) < i3)) → (¬ ((jand (jX h 1 ((i3).toNat)) 63) = 0)) → (¬ ((jand (jX h 1 ((i3).toNat)) 63) = 1)) → (¬ ((jand (jX h 1 ((i3).toNat)) 63) = 2)) → (¬ ((jand (jX h 1 ((i3).toNat)) 63) = 3)) → (¬ ((jand (jX h 1 ((i3).toNat)) 63) = 4)) → (¬ ((jand (jX h 1 ((i3).toNat)) 63) = 5)) → ((jand (jX h 1 ((i3).toNat)) 63) = 6) → jR (i3 + 1))
    (s14 : (¬ (((((jS h 1).2 : Int)) - 5) < i3)) → (¬ ((jand (jX h 1 ((i3).toNat)) 63) = 0)) → (¬ ((jand (jX h 1 ((i3).toNat)) 63) = 1)) → (¬ ((jand (jX h 1 ((i3).toNat)) 63) = 2)) → (¬ ((jand (jX h 1 ((i3).toNat)) 63) = 3)) → (¬ ((jand (jX h 1 ((i3).toNat)) 63) = 4)) → (¬ ((jand (jX h 1 ((i3).toNat)) 63) = 5)) → ((jand (jX h 1 ((i3).toNat)) 63) = 6) → 0 ≤ i3 + 1)
    (s15 : (¬ (((((jS h 1).2 : Int)) - 5) < i3)) → (¬ ((jand (jX h 1 ((i3).toNat)) 63) = 0)) → (¬ ((jand (jX h 1 ((i3).toNat)) 63) = 1)) → (¬ ((jand (jX h 1 ((i3).toNat)) 63) = 2)) → (¬ ((jand (jX h 1 ((i3).toNat)) 63) = 3)) → (¬ ((jand (jX h 1 ((i3).toNat)) 63) = 4)) → (¬ ((jand (jX h 1 ((i3).toNat)) 63) = 5)) → ((jand (jX h 1 ((i3).toNat)) 63) = 6) → i3 + 1 < ((jS h 1).2 : Int))
    (r8 : (¬ (((((jS h 1).2 : Int)) - 5) < i3)) → (¬ ((jand (jX h 1 ((i3).toNat)) 63) = 0)) → (¬ ((jand (jX h 1 ((i3).toNat)) 63) = 1)) → (¬ ((jand (jX h 1 ((i3).toNat)) 63) = 2)) → (¬ ((jand (jX h 1 ((i3).toNat)) 63) = 3)) → (¬ ((jand (jX h 1 ((i3).toNat)) 63) = 4)) → (¬ ((jand (jX h 1 ((i3).toNat)) 63) = 5)) → ((jand (jX h 1 ((i3).toNat)) 63) = 6) → jR (i3 + 2))
    (s16 : (¬ (((((jS h 1).2 : Int)) - 5) < i3)) → (¬ ((jand (jX h 1 ((i3).toNat)) 63) = 0)) → (¬ ((jand (jX h 1 ((i3).toNat)) 63) = 1)) → (¬ ((jand (jX h 1 ((i3).toNat)) 63) = 2)) → (¬ ((jand (jX h 1 ((i3).toNat)) 63) = 3)) → (¬ ((jand (jX h 1 ((i3).toNat)) 63) = 4)) → (¬ ((jand (jX h 1 ((i3).toNat)) 63) = 5)) → ((jand (jX h 1 ((i3).toNat)) 63) = 6) → 0 ≤ i3 + 2)
    (s17 : (¬ (((((jS h 1).2 : Int)) - 5) < i3)) → (¬ ((jand (jX h 1 ((i3).toNat)) 63) = 0)) → (¬ ((jand (jX h 1 ((i3).toNat)) 63) = 1)) → (¬ ((jand (jX h 1 ((i3).toNat)) 63) = 2)) → (¬ ((jand (jX h 1 ((i3).toNat)) 63) = 3)) → (¬ ((jand (jX h 1 ((i3).toNat)) 63) = 4)) → (¬ ((jand (jX h 1 ((i3).toNat)) 63) = 5)) → ((jand (jX h 1 ((i3).toNat)) 63) = 6) → i3 + 2 < ((jS h 1).2 : Int))
    (e7 : (¬ (((((jS h 1).2 : Int)) - 5) < i3)) → (¬ ((jand (jX h 1 ((i3).toNat)) 63) = 0)) → (¬ ((jand (jX h 1 ((i3).toNat)) 63) = 1)) → (¬ ((jand (jX h 1 ((i3).toNat)) 63) = 2)) → (¬ ((jand (jX h 1 ((i3).toNat)) 63) = 3)) → (¬ ((jand (jX h 1 ((i3).toNat)) 63) = 4)) → (¬ ((jand (jX h 1 ((i3).toNat)) 63) = 5)) → ((jand (jX h 1 ((i3).toNat)) 63) = 6) → Ex MX8_listed (d + 1) [.inr a1, .inl (jX h 1 ((i3 + 1).toNat)), .inl (jX h 1 ((i3 + 2).toNat))] h 0 0 (fun v h2 => V ML_law (d + 13) 326 [some (.inr 1), some (.inr a1), some (.inr a2), some (.inl i3)] (v.toList ++ []) h2 0 0 Q))
    (r9 : (¬ (((((jS h 1).2 : Int)) - 5) < i3)) → (¬ ((jand (jX h 1 ((i3).toNat)) 63) = 0)) → (¬ ((jand (jX h 1 ((i3).toNat)) 63) = 1)) → (¬ ((jand (jX h 1 ((i3).toNat)) 63) = 2)) → (¬ ((jand (jX h 1 ((i3).toNat)) 63) = 3)) → (¬ ((jand (jX h 1 ((i3).toNat)) 63) = 4)) → (¬ ((jand (jX h 1 ((i3).toNat)) 63) = 5)) → (¬ ((jand (jX h 1 ((i3).toNat)) 63) = 6)) → ((jand (jX h 1 ((i3).toNat)) 63) = 7) → jR (i3 + 1))
    (s18 : (¬ (((((jS h 1).2 : Int)) - 5) < i3)) → (¬ ((jand (jX h 1 ((i3).toNat)) 63) = 0)) → (¬ ((jand (jX h 1 ((i3).toNat)) 63) = 1)) → (¬ ((jand (jX h 1 ((i3).toNat)) 63) = 2)) → (¬ ((jand (jX h 1 ((i3).toNat)) 63) = 3)) → (¬ ((jand (jX h 1 ((i3).toNat)) 63) = 4)) → (¬ ((jand (jX h 1 ((i3).toNat)) 63) = 5)) → (¬ ((jand (jX h 1 ((i3).toNat)) 63) = 6)) → ((jand (jX h 1 ((i3).toNat)) 63) = 7) → 0 ≤ i3 + 1)
    (s19 : (¬ (((((jS h 1).2 : Int)) - 5) < i3)) → (¬ ((jand (jX h 1 ((i3).toNat)) 63) = 0)) → (¬ ((jand (jX h 1 ((i3).toNat)) 63) = 1)) → (¬ ((jand (jX h 1 ((i3).toNat)) 63) = 2)) → (¬ ((jand (jX h 1 ((i3).toNat)) 63) = 3)) → (¬ ((jand (jX h 1 ((i3).toNat)) 63) = 4)) → (¬ ((jand (jX h 1 ((i3).toNat)) 63) = 5)) → (¬ ((jand (jX h 1 ((i3).toNat)) 63) = 6)) → ((jand (jX h 1 ((i3).toNat)) 63) = 7) → i3 + 1 < ((jS h 1).2 : Int))
    (r10 : (¬ (((((jS h 1).2 : Int)) - 5) < i3)) → (¬ ((jand (jX h 1 ((i3).toNat)) 63) = 0)) → (¬ ((jand (jX h 1 ((i3).toNat)) 63) = 1)) → (¬ ((jand (jX h 1 ((i3).toNat)) 63) = 2)) → (¬ ((jand (jX h 1 ((i3).toNat)) 63) = 3)) → (¬ ((jand (jX h 1 ((i3).toNat)) 63) = 4)) → (¬ ((jand (jX h 1 ((i3).toNat)) 63) = 5)) → (¬ ((jand (jX h 1 ((i3).toNat)) 63) = 6)) → ((jand (jX h 1 ((i3).toNat)) 63) = 7) → jR (i3 + 2))
    (s20 : (¬ (((((jS h 1).2 : Int)) - 5) < i3)) → (¬ ((jand (jX h 1 ((i3).toNat)) 63) = 0)) → (¬ ((jand (jX h 1 ((i3).toNat)) 63) = 1)) → (¬ ((jand (jX h 1 ((i3).toNat)) 63) = 2)) → (¬ ((jand (jX h 1 ((i3).toNat)) 63) = 3)) → (¬ ((jand (jX h 1 ((i3).toNat)) 63) = 4)) → (¬ ((jand (jX h 1 ((i3).toNat)) 63) = 5)) → (¬ ((jand (jX h 1 ((i3).toNat)) 63) = 6)) → ((jand (jX h 1 ((i3).toNat)) 63) = 7) → 0 ≤ i3 + 2)
    (s21 : (¬ (((((jS h 1).2 : Int)) - 5) < i3)) → (¬ ((jand (jX h 1 ((i3).toNat)) 63) = 0)) → (¬ ((jand (jX h 1 ((i3).toNat)) 63) = 1)) → (¬ ((jand (jX h 1 ((i3).toNat)) 63) = 2)) → (¬ ((jand (jX h 1 ((i3).toNat)) 63) = 3)) → (¬ ((jand (jX h 1 ((i3).toNat)) 63) = 4)) → (¬ ((jand (jX h 1 ((i3).toNat)) 63) = 5)) → (¬ ((jand (jX h 1 ((i3).toNat)) 63) = 6)) → ((jand (jX h 1 ((i3).toNat)) 63) = 7) → i3 + 2 < ((jS h 1).2 : Int))
    (e8 : (¬ (((((jS h 1).2 : Int)) - 5) < i3)) → (¬ ((jand (jX h 1 ((i3).toNat)) 63) = 0)) → (¬ ((jand (jX h 1 ((i3).toNat)) 63) = 1)) → (¬ ((jand (jX h 1 ((i3).toNat)) 63) = 2)) → (¬ ((jand (jX h 1 ((i3).toNat)) 63) = 3)) → (¬ ((jand (jX h 1 ((i3).toNat)) 63) = 4)) → (¬ ((jand (jX h 1 ((i3).toNat)) 63) = 5)) → (¬ ((jand (jX h 1 ((i3).toNat)) 63) = 6)) → ((jand (jX h 1 ((i3).toNat)) 63) = 7) → Ex MX8_path (d + 2) [.inr a1, .inl (jX h 1 ((i3 + 1).toNat)), .inl (jX h 1 ((i3 + 2).toNat))] h 0 0 (fun v h2 => V ML_law (d + 13) 359 [some (.inr 1), some (.inr a1), some (.inr a2), some (.inl i3)] (v.toList ++ []) h2 0 0 Q))
    (r11 : (¬ (((((jS h 1).2 : Int)) - 5) < i3)) → (¬ ((jand (jX h 1 ((i3).toNat)) 63) = 0)) → (¬ ((jand (jX h 1 ((i3).toNat)) 63) = 1)) → (¬ ((jand (jX h 1 ((i3).toNat)) 63) = 2)) → (¬ ((jand (jX h 1 ((i3).toNat)) 63) = 3)) → (¬ ((jand (jX h 1 ((i3).toNat)) 63) = 4)) → (¬ ((jand (jX h 1 ((i3).toNat)) 63) = 5)) → (¬ ((jand (jX h 1 ((i3).toNat)) 63) = 6)) → (¬ ((jand (jX h 1 ((i3).toNat)) 63) = 7)) → ((jand (jX h 1 ((i3).toNat)) 63) = 8) → jR (i3 + 1))
    (s22 : (¬ (((((jS h 1).2 : Int)) - 5) < i3)) → (¬ ((jand (jX h 1 ((i3).toNat)) 63) = 0)) → (¬ ((jand (jX h 1 ((i3).toNat)) 63) = 1)) → (¬ ((jand (jX h 1 ((i3).toNat)) 63) = 2)) → (¬ ((jand (jX h 1 ((i3).toNat)) 63) = 3)) → (¬ ((jand (jX h 1 ((i3).toNat)) 63) = 4)) → (¬ ((jand (jX h 1 ((i3).toNat)) 63) = 5)) → (¬ ((jand (jX h 1 ((i3).toNat)) 63) = 6)) → (¬ ((jand (jX h 1 ((i3).toNat)) 63) = 7)) → ((jand (jX h 1 ((i3).toNat)) 63) = 8) → 0 ≤ i3 + 1)
    (s23 : (¬ (((((jS h 1).2 : Int)) - 5) < i3)) → (¬ ((jand (jX h 1 ((i3).toNat)) 63) = 0)) → (¬ ((jand (jX h 1 ((i3).toNat)) 63) = 1)) → (¬ ((jand (jX h 1 ((i3).toNat)) 63) = 2)) → (¬ ((jand (jX h 1 ((i3).toNat)) 63) = 3)) → (¬ ((jand (jX h 1 ((i3).toNat)) 63) = 4)) → (¬ ((jand (jX h 1 ((i3).toNat)) 63) = 5)) → (¬ ((jand (jX h 1 ((i3).toNat)) 63) = 6)) → (¬ ((jand (jX h 1 ((i3).toNat)) 63) = 7)) → ((jand (jX h 1 ((i3).toNat)) 63) = 8) → i3 + 1 < ((jS h 1).2 : Int))
    (r12 : (¬ (((((jS h 1).2 : Int)) - 5) < i3)) → (¬ ((jand (jX h 1 ((i3).toNat)) 63) = 0)) → (¬ ((jand (jX h 1 ((i3).toNat)) 63) = 1)) → (¬ ((jand (jX h 1 ((i3).toNat)) 63) = 2)) → (¬ ((jand (jX h 1 ((i3).toNat)) 63) = 3)) → (¬ ((jand (jX h 1 ((i3).toNat)) 63) = 4)) → (¬ ((jand (jX h 1 ((i3).toNat)) 63) = 5)) → (¬ ((jand (jX h 1 ((i3).toNat)) 63) = 6)) → (¬ ((jand (jX h 1 ((i3).toNat)) 63) = 7)) → ((jand (jX h 1 ((i3).toNat)) 63) = 8) → jR (i3 + 2))
    (s24 : (¬ (((((jS h 1).2 : Int)) - 5) < i3)) → (¬ ((jand (jX h 1 ((i3).toNat)) 63) = 0)) → (¬ ((jand (jX h 1 ((i3).toNat)) 63) = 1)) → (¬ ((jand (jX h 1 ((i3).toNat)) 63) = 2)) → (¬ ((jand (jX h 1 ((i3).toNat)) 63) = 3)) → (¬ ((jand (jX h 1 ((i3).toNat)) 63) = 4)) → (¬ ((jand (jX h 1 ((i3).toNat)) 63) = 5)) → (¬ ((jand (jX h 1 ((i3).toNat)) 63) = 6)) → (¬ ((jand (jX h 1 ((i3).toNat)) 63) = 7)) → ((jand (jX h 1 ((i3).toNat)) 63) = 8) → 0 ≤ i3 + 2)
    (s25 : (¬ (((((jS h 1).2 : Int)) - 5) < i3)) → (¬ ((jand (jX h 1 ((i3).toNat)) 63) = 0)) → (¬ ((jand (jX h 1 ((i3).toNat)) 63) = 1)) → (¬ ((jand (jX h 1 ((i3).toNat)) 63) = 2)) → (¬ ((jand (jX h 1 ((i3).toNat)) 63) = 3)) → (¬ ((jand (jX h 1 ((i3).toNat)) 63) = 4)) → (¬ ((jand (jX h 1 ((i3).toNat)) 63) = 5)) → (¬ ((jand (jX h 1 ((i3).toNat)) 63) = 6)) → (¬ ((jand (jX h 1 ((i3).toNat)) 63) = 7)) → ((jand (jX h 1 ((i3).toNat)) 63) = 8) → i3 + 2 < ((jS h 1).2 : Int))
    (e9 : (¬ (((((jS h 1).2 : Int)) - 5) < i3)) → (¬ ((jand (jX h 1 ((i3).toNat)) 63) = 0)) → (¬ ((jand (jX h 1 ((i3).toNat)) 63) = 1)) → (¬ ((jand (jX h 1 ((i3).toNat)) 63) = 2)) → (¬ ((jand (jX h 1 ((i3).toNat)) 63) = 3)) → (¬ ((jand (jX h 1 ((i3).toNat)) 63) = 4)) → (¬ ((jand (jX h 1 ((i3).toNat)) 63) = 5)) → (¬ ((jand (jX h 1 ((i3).toNat)) 63) = 6)) → (¬ ((jand (jX h 1 ((i3).toNat)) 63) = 7)) → ((jand (jX h 1 ((i3).toNat)) 63) = 8) → Ex MX8_sets (d + 6) [.inr a1, .inl (jX h 1 ((i3 + 1).toNat)), .inl (jX h 1 ((i3 + 2).toNat))] h 0 0 (fun v h2 => V ML_law (d + 13) 392 [some (.inr 1), some (.inr a1), some (.inr a2), some (.inl i3)] (v.toList ++ []) h2 0 0 Q))
    (r13 : (¬ (((((jS h 1).2 : Int)) - 5) < i3)) → (¬ ((jand (jX h 1 ((i3).toNat)) 63) = 0)) → (¬ ((jand (jX h 1 ((i3).toNat)) 63) = 1)) → (¬ ((jand (jX h 1 ((i3).toNat)) 63) = 2)) → (¬ ((jand (jX h 1 ((i3).toNat)) 63) = 3)) → (¬ ((jand (jX h 1 ((i3).toNat)) 63) = 4)) → (¬ ((jand (jX h 1 ((i3).toNat)) 63) = 5)) → (¬ ((jand (jX h 1 ((i3).toNat)) 63) = 6)) → (¬ ((jand (jX h 1 ((i3).toNat)) 63) = 7)) → (¬ ((jand (jX h 1 ((i3).toNat)) 63) = 8)) → ((jand (jX h 1 ((i3).toNat)) 63) = 9) → jR (i3 + 1))
    (s26 : (¬ (((((jS h 1).2 : Int)) - 5) < i3)) → (¬ ((jand (jX h 1 ((i3).toNat)) 63) = 0)) → (¬ ((jand (jX h 1 ((i3).toNat)) 63) = 1)) → (¬ ((jand (jX h 1 ((i3).toNat)) 63) = 2)) → (¬ ((jand (jX h 1 ((i3).toNat)) 63) = 3)) → (¬ ((jand (jX h 1 ((i3).toNat)) 63) = 4)) → (¬ ((jand (jX h 1 ((i3).toNat)) 63) = 5)) → (¬ ((jand (jX h 1 ((i3).toNat)) 63) = 6)) → (¬ ((jand (jX h 1 ((i3).toNat)) 63) = 7)) → (¬ ((jand (jX h 1 ((i3).toNat)) 63) = 8)) → ((jand (jX h 1 ((i3).toNat)) 63) = 9) → 0 ≤ i3 + 1)
    (s27 : (¬ (((((jS h 1).2 : Int)) - 5) < i3)) → (¬ ((jand (jX h 1 ((i3).toNat)) 63) = 0)) → (¬ ((jand (jX h 1 ((i3).toNat)) 63) = 1)) → (¬ ((jand (jX h 1 ((i3).toNat)) 63) = 2)) → (¬ ((jand (jX h 1 ((i3).toNat)) 63) = 3)) → (¬ ((jand (jX h 1 ((i3).toNat)) 63) = 4)) → (¬ ((jand (jX h 1 ((i3).toNat)) 63) = 5)) → (¬ ((jand (jX h 1 ((i3).toNat)) 63) = 6)) → (¬ ((jand (jX h 1 ((i3).toNat)) 63) = 7)) → (¬ ((jand (jX h 1 ((i3).toNat)) 63) = 8)) → ((jand (jX h 1 ((i3).toNat)) 63) = 9) → i3 + 1 < ((jS h 1).2 : Int))
    (e10 : (¬ (((((jS h 1).2 : Int)) - 5) < i3)) → (¬ ((jand (jX h 1 ((i3).toNat)) 63) = 0)) → (¬ ((jand (jX h 1 ((i3).toNat)) 63) = 1)) → (¬ ((jand (jX h 1 ((i3).toNat)) 63) = 2)) → (¬ ((jand (jX h 1 ((i3).toNat)) 63) = 3)) → (¬ ((jand (jX h 1 ((i3).toNat)) 63) = 4)) → (¬ ((jand (jX h 1 ((i3).toNat)) 63) = 5)) → (¬ ((jand (jX h 1 ((i3).toNat)) 63) = 6)) → (¬ ((jand (jX h 1 ((i3).toNat)) 63) = 7)) → (¬ ((jand (jX h 1 ((i3).toNat)) 63) = 8)) → ((jand (jX h 1 ((i3).toNat)) 63) = 9) → Ex MX8_passes (d + 6) [.inr a1, .inl (jX h 1 ((i3 + 1).toNat))] h 0 0 (fun v h2 => V ML_law (d + 13) 420 [some (.inr 1), some (.inr a1), some (.inr a2), some (.inl i3)] (v.toList ++ []) h2 0 0 Q))
    (r14 : (¬ (((((jS h 1).2 : Int)) - 5) < i3)) → (¬ ((jand (jX h 1 ((i3).toNat)) 63) = 0)) → (¬ ((jand (jX h 1 ((i3).toNat)) 63) = 1)) → (¬ ((jand (jX h 1 ((i3).toNat)) 63) = 2)) → (¬ ((jand (jX h 1 ((i3).toNat)) 63) = 3)) → (¬ ((jand (jX h 1 ((i3).toNat)) 63) = 4)) → (¬ ((jand (jX h 1 ((i3).toNat)) 63) = 5)) → (¬ ((jand (jX h 1 ((i3).toNat)) 63) = 6)) → (¬ ((jand (jX h 1 ((i3).toNat)) 63) = 7)) → (¬ ((jand (jX h 1 ((i3).toNat)) 63) = 8)) → (¬ ((jand (jX h 1 ((i3).toNat)) 63) = 9)) → ((jand (jX h 1 ((i3).toNat)) 63) = 10) → jR (i3 + 1))
    (s28 : (¬ (((((jS h 1).2 : Int)) - 5) < i3)) → (¬ ((jand (jX h 1 ((i3).toNat)) 63) = 0)) → (¬ ((jand (jX h 1 ((i3).toNat)) 63) = 1)) → (¬ ((jand (jX h 1 ((i3).toNat)) 63) = 2)) → (¬ ((jand (jX h 1 ((i3).toNat)) 63) = 3)) → (¬ ((jand (jX h 1 ((i3).toNat)) 63) = 4)) → (¬ ((jand (jX h 1 ((i3).toNat)) 63) = 5)) → (¬ ((jand (jX h 1 ((i3).toNat)) 63) = 6)) → (¬ ((jand (jX h 1 ((i3).toNat)) 63) = 7)) → (¬ ((jand (jX h 1 ((i3).toNat)) 63) = 8)) → (¬ ((jand (jX h 1 ((i3).toNat)) 63) = 9)) → ((jand (jX h 1 ((i3).toNat)) 63) = 10) → 0 ≤ i3 + 1)
    (s29 : (¬ (((((jS h 1).2 : Int)) - 5) < i3)) → (¬ ((jand (jX h 1 ((i3).toNat)) 63) = 0)) → (¬ ((jand (jX h 1 ((i3).toNat)) 63) = 1)) → (¬ ((jand (jX h 1 ((i3).toNat)) 63) = 2)) → (¬ ((jand (jX h 1 ((i3).toNat)) 63) = 3)) → (¬ ((jand (jX h 1 ((i3).toNat)) 63) = 4)) → (¬ ((jand (jX h 1 ((i3).toNat)) 63) = 5)) → (¬ ((jand (jX h 1 ((i3).toNat)) 63) = 6)) → (¬ ((jand (jX h 1 ((i3).toNat)) 63) = 7)) → (¬ ((jand (jX h 1 ((i3).toNat)) 63) = 8)) → (¬ ((jand (jX h 1 ((i3).toNat)) 63) = 9)) → ((jand (jX h 1 ((i3).toNat)) 63) = 10) → i3 + 1 < ((jS h 1).2 : Int))
    (e11 : (¬ (((((jS h 1).2 : Int)) - 5) < i3)) → (¬ ((jand (jX h 1 ((i3).toNat)) 63) = 0)) → (¬ ((jand (jX h 1 ((i3).toNat)) 63) = 1)) → (¬ ((jand (jX h 1 ((i3).toNat)) 63) = 2)) → (¬ ((jand (jX h 1 ((i3).toNat)) 63) = 3)) → (¬ ((jand (jX h 1 ((i3).toNat)) 63) = 4)) → (¬ ((jand (jX h 1 ((i3).toNat)) 63) = 5)) → (¬ ((jand (jX h 1 ((i3).toNat)) 63) = 6)) → (¬ ((jand (jX h 1 ((i3).toNat)) 63) = 7)) → (¬ ((jand (jX h 1 ((i3).toNat)) 63) = 8)) → (¬ ((jand (jX h 1 ((i3).toNat)) 63) = 9)) → ((jand (jX h 1 ((i3).toNat)) 63) = 10) → Ex MX8_dumps (d + 6) [.inr a1, .inl (jX h 1 ((i3 + 1).toNat))] h 0 0 (fun v h2 => V ML_law (d + 13) 443 [some (.inr 1), some (.inr a1), some (.inr a2), some (.inl i3)] (v.toList ++ []) h2 0 0 Q))
    (r15 : (¬ (((((jS h 1).2 : Int)) - 5) < i3)) → (¬ ((jand (jX h 1 ((i3).toNat)) 63) = 0)) → (¬ ((jand (jX h 1 ((i3).toNat)) 63) = 1)) → (¬ ((jand (jX h 1 ((i3).toNat)) 63) = 2)) → (¬ ((jand (jX h 1 ((i3).toNat)) 63) = 3)) → (¬ ((jand (jX h 1 ((i3).toNat)) 63) = 4)) → (¬ ((jand (jX h 1 ((i3).toNat)) 63) = 5)) → (¬ ((jand (jX h 1 ((i3).toNat)) 63) = 6)) → (¬ ((jand (jX h 1 ((i3).toNat)) 63) = 7)) → (¬ ((jand (jX h 1 ((i3).toNat)) 63) = 8)) → (¬ ((jand (jX h 1 ((i3).toNat)) 63) = 9)) → (¬ ((jand (jX h 1 ((i3).toNat)) 63) = 10)) → ((jand (jX h 1 ((i3).toNat)) 63) = 11) → jR (i3 + 1))
    (s30 : (¬ (((((jS h 1).2 : Int)) - 5) < i3)) → (¬ ((jand (jX h 1 ((i3).toNat)) 63) = 0)) → (¬ ((jand (jX h 1 ((i3).toNat)) 63) = 1)) → (¬ ((jand (jX h 1 ((i3).toNat)) 63) = 2)) → (¬ ((jand (jX h 1 ((i3).toNat)) 63) = 3)) → (¬ ((jand (jX h 1 ((i3).toNat)) 63) = 4)) → (¬ ((jand (jX h 1 ((i3).toNat)) 63) = 5)) → (¬ ((jand (jX h 1 ((i3).toNat)) 63) = 6)) → (¬ ((jand (jX h 1 ((i3).toNat)) 63) = 7)) → (¬ ((jand (jX h 1 ((i3).toNat)) 63) = 8)) → (¬ ((jand (jX h 1 ((i3).toNat)) 63) = 9)) → (¬ ((jand (jX h 1 ((i3).toNat)) 63) = 10)) → ((jand (jX h 1 ((i3).toNat)) 63) = 11) → 0 ≤ i3 + 1)
    (s31 : (¬ (((((jS h 1).2 : Int)) - 5) < i3)) → (¬ ((jand (jX h 1 ((i3).toNat)) 63) = 0)) → (¬ ((jand (jX h 1 ((i3).toNat)) 63) = 1)) → (¬ ((jand (jX h 1 ((i3).toNat)) 63) = 2)) → (¬ ((jand (jX h 1 ((i3).toNat)) 63) = 3)) → (¬ ((jand (jX h 1 ((i3).toNat)) 63) = 4)) → (¬ ((jand (jX h 1 ((i3).toNat)) 63) = 5)) → (¬ ((jand (jX h 1 ((i3).toNat)) 63) = 6)) → (¬ ((jand (jX h 1 ((i3).toNat)) 63) = 7)) → (¬ ((jand (jX h 1 ((i3).toNat)) 63) = 8)) → (¬ ((jand (jX h 1 ((i3).toNat)) 63) = 9)) → (¬ ((jand (jX h 1 ((i3).toNat)) 63) = 10)) → ((jand (jX h 1 ((i3).toNat)) 63) = 11) → i3 + 1 < ((jS h 1).2 : Int))
    (e12 : (¬ (((((jS h 1).2 : Int)) - 5) < i3)) → (¬ ((jand (jX h 1 ((i3).toNat)) 63) = 0)) → (¬ ((jand (jX h 1 ((i3).toNat)) 63) = 1)) → (¬ ((jand (jX h 1 ((i3).toNat)) 63) = 2)) → (¬ ((jand (jX h 1 ((i3).toNat)) 63) = 3)) → (¬ ((jand (jX h 1 ((i3).toNat)) 63) = 4)) → (¬ ((jand (jX h 1 ((i3).toNat)) 63) = 5)) → (¬ ((jand (jX h 1 ((i3).toNat)) 63) = 6)) → (¬ ((jand (jX h 1 ((i3).toNat)) 63) = 7)) → (¬ ((jand (jX h 1 ((i3).toNat)) 63) = 8)) → (¬ ((jand (jX h 1 ((i3).toNat)) 63) = 9)) → (¬ ((jand (jX h 1 ((i3).toNat)) 63) = 10)) → ((jand (jX h 1 ((i3).toNat)) 63) = 11) → Ex MX8_sizes (d + 6) [.inr a1, .inl (jX h 1 ((i3 + 1).toNat))] h 0 0 (fun v h2 => V ML_law (d + 13) 466 [some (.inr 1), some (.inr a1), some (.inr a2), some (.inl i3)] (v.toList ++ []) h2 0 0 Q))
    (e13 : (¬ (((((jS h 1).2 : Int)) - 5) < i3)) → (¬ ((jand (jX h 1 ((i3).toNat)) 63) = 0)) → (¬ ((jand (jX h 1 ((i3).toNat)) 63) = 1)) → (¬ ((jand (jX h 1 ((i3).toNat)) 63) = 2)) → (¬ ((jand (jX h 1 ((i3).toNat)) 63) = 3)) → (¬ ((jand (jX h 1 ((i3).toNat)) 63) = 4)) → (¬ ((jand (jX h 1 ((i3).toNat)) 63) = 5)) → (¬ ((jand (jX h 1 ((i3).toNat)) 63) = 6)) → (¬ ((jand (jX h 1 ((i3).toNat)) 63) = 7)) → (¬ ((jand (jX h 1 ((i3).toNat)) 63) = 8)) → (¬ ((jand (jX h 1 ((i3).toNat)) 63) = 9)) → (¬ ((jand (jX h 1 ((i3).toNat)) 63) = 10)) → (¬ ((jand (jX h 1 ((i3).toNat)) 63) = 11)) → ((jand (jX h 1 ((i3).toNat)) 63) = 12) → Ex MX8_undo (d + 6) [.inr a1] h 0 0 (fun v h2 => V ML_law (d + 13) 484 [some (.inr 1), some (.inr a1), some (.inr a2), some (.inl i3)] (v.toList ++ []) h2 0 0 Q))
    (r16 : (¬ (((((jS h 1).2 : Int)) - 5) < i3)) → (¬ ((jand (jX h 1 ((i3).toNat)) 63) = 0)) → (¬ ((jand (jX h 1 ((i3).toNat)) 63) = 1)) → (¬ ((jand (jX h 1 ((i3).toNat)) 63) = 2)) → (¬ ((jand (jX h 1 ((i3).toNat)) 63) = 3)) → (¬ ((jand (jX h 1 ((i3).toNat)) 63) = 4)) → (¬ ((jand (jX h 1 ((i3).toNat)) 63) = 5)) → (¬ ((jand (jX h 1 ((i3).toNat)) 63) = 6)) → (¬ ((jand (jX h 1 ((i3).toNat)) 63) = 7)) → (¬ ((jand (jX h 1 ((i3).toNat)) 63) = 8)) → (¬ ((jand (jX h 1 ((i3).toNat)) 63) = 9)) → (¬ ((jand (jX h 1 ((i3).toNat)) 63) = 10)) → (¬ ((jand (jX h 1 ((i3).toNat)) 63) = 11)) → (¬ ((jand (jX h 1 ((i3).toNat)) 63) = 12)) → ((jand (jX h 1 ((i3).toNat)) 63) = 13) → jR (i3 + 1))
    (s32 : (¬ (((((jS h 1).2 : Int)) - 5) < i3)) → (¬ ((jand (jX h 1 ((i3).toNat)) 63) = 0)) → (¬ ((jand (jX h 1 ((i3).toNat)) 63) = 1)) → (¬ ((jand (jX h 1 ((i3).toNat)) 63) = 2)) → (¬ ((jand (jX h 1 ((i3).toNat)) 63) = 3)) → (¬ ((jand (jX h 1 ((i3).toNat)) 63) = 4)) → (¬ ((jand (jX h 1 ((i3).toNat)) 63) = 5)) → (¬ ((jand (jX h 1 ((i3).toNat)) 63) = 6)) → (¬ ((jand (jX h 1 ((i3).toNat)) 63) = 7)) → (¬ ((jand (jX h 1 ((i3).toNat)) 63) = 8)) → (¬ ((jand (jX h 1 ((i3).toNat)) 63) = 9)) → (¬ ((jand (jX h 1 ((i3).toNat)) 63) = 10)) → (¬ ((jand (jX h 1 ((i3).toNat)) 63) = 11)) → (¬ ((jand (jX h 1 ((i3).toNat)) 63) = 12)) → ((jand (jX h 1 ((i3).toNat)) 63) = 13) → 0 ≤ i3 + 1)
    (s33 : (¬ (((((jS h 1).2 : Int)) - 5) < i3)) → (¬ ((jand (jX h 1 ((i3).toNat)) 63) = 0)) → (¬ ((jand (jX h 1 ((i3).toNat)) 63) = 1)) → (¬ ((jand (jX h 1 ((i3).toNat)) 63) = 2)) → (¬ ((jand (jX h 1 ((i3).toNat)) 63) = 3)) → (¬ ((jand (jX h 1 ((i3).toNat)) 63) = 4)) → (¬ ((jand (jX h 1 ((i3).toNat)) 63) = 5)) → (¬ ((jand (jX h 1 ((i3).toNat)) 63) = 6)) → (¬ ((jand (jX h 1 ((i3).toNat)) 63) = 7)) → (¬ ((jand (jX h 1 ((i3).toNat)) 63) = 8)) → (¬ ((jand (jX h 1 ((i3).toNat)) 63) = 9)) → (¬ ((jand (jX h 1 ((i3).toNat)) 63) = 10)) → (¬ ((jand (jX h 1 ((i3).toNat)) 63) = 11)) → (¬ ((jand (jX h 1 ((i3).toNat)) 63) = 12)) → ((jand (jX h 1 ((i3).toNat)) 63) = 13) → i3 + 1 < ((jS h 1).2 : Int))
    (r17 : (¬ (((((jS h 1).2 : Int)) - 5) < i3)) → (¬ ((jand (jX h 1 ((i3).toNat)) 63) = 0)) → (¬ ((jand (jX h 1 ((i3).toNat)) 63) = 1)) → (¬ ((jand (jX h 1 ((i3).toNat)) 63) = 2)) → (¬ ((jand (jX h 1 ((i3).toNat)) 63) = 3)) → (¬ ((jand (jX h 1 ((i3).toNat)) 63) = 4)) → (¬ ((jand (jX h 1 ((i3).toNat)) 63) = 5)) → (¬ ((jand (jX h 1 ((i3).toNat)) 63) = 6)) → (¬ ((jand (jX h 1 ((i3).toNat)) 63) = 7)) → (¬ ((jand (jX h 1 ((i3).toNat)) 63) = 8)) → (¬ ((jand (jX h 1 ((i3).toNat)) 63) = 9)) → (¬ ((jand (jX h 1 ((i3).toNat)) 63) = 10)) → (¬ ((jand (jX h 1 ((i3).toNat)) 63) = 11)) → (¬ ((jand (jX h 1 ((i3).toNat)) 63) = 12)) → ((jand (jX h 1 ((i3).toNat)) 63) = 13) → jR (i3 + 2))
    (s34 : (¬ (((((jS h 1).2 : Int)) - 5) < i3)) → (¬ ((jand (jX h 1 ((i3).toNat)) 63) = 0)) → (¬ ((jand (jX h 1 ((i3).toNat)) 63) = 1)) → (¬ ((jand (jX h 1 ((i3).toNat)) 63) = 2)) → (¬ ((jand (jX h 1 ((i3).toNat)) 63) = 3)) → (¬ ((jand (jX h 1 ((i3).toNat)) 63) = 4)) → (¬ ((jand (jX h 1 ((i3).toNat)) 63) = 5)) → (¬ ((jand (jX h 1 ((i3).toNat)) 63) = 6)) → (¬ ((jand (jX h 1 ((i3).toNat)) 63) = 7)) → (¬ ((jand (jX h 1 ((i3).toNat)) 63) = 8)) → (¬ ((jand (jX h 1 ((i3).toNat)) 63) = 9)) → (¬ ((jand (jX h 1 ((i3).toNat)) 63) = 10)) → (¬ ((jand (jX h 1 ((i3).toNat)) 63) = 11)) → (¬ ((jand (jX h 1 ((i3).toNat)) 63) = 12)) → ((jand (jX h 1 ((i3).toNat)) 63) = 13) → 0 ≤ i3 + 2)
    (s35 : (¬ (((((jS h 1).2 : Int)) - 5) < i3)) → (¬ ((jand (jX h 1 ((i3).toNat)) 63) = 0)) → (¬ ((jand (jX h 1 ((i3).toNat)) 63) = 1)) → (¬ ((jand (jX h 1 ((i3).toNat)) 63) = 2)) → (¬ ((jand (jX h 1 ((i3).toNat)) 63) = 3)) → (¬ ((jand (jX h 1 ((i3).toNat)) 63) = 4)) → (¬ ((jand (jX h 1 ((i3).toNat)) 63) = 5)) → (¬ ((jand (jX h 1 ((i3).toNat)) 63) = 6)) → (¬ ((jand (jX h 1 ((i3).toNat)) 63) = 7)) → (¬ ((jand (jX h 1 ((i3).toNat)) 63) = 8)) → (¬ ((jand (jX h 1 ((i3).toNat)) 63) = 9)) → (¬ ((jand (jX h 1 ((i3).toNat)) 63) = 10)) → (¬ ((jand (jX h 1 ((i3).toNat)) 63) = 11)) → (¬ ((jand (jX h 1 ((i3).toNat)) 63) = 12)) → ((jand (jX h 1 ((i3).toNat)) 63) = 13) → i3 + 2 < ((jS h 1).2 : Int))
    (e14 : (¬ (((((jS h 1).2 : Int)) - 5) < i3)) → (¬ ((jand (jX h 1 ((i3).toNat)) 63) = 0)) → (¬ ((jand (jX h 1 ((i3).toNat)) 63) = 1)) → (¬ ((jand (jX h 1 ((i3).toNat)) 63) = 2)) → (¬ ((jand (jX h 1 ((i3).toNat)) 63) = 3)) → (¬ ((jand (jX h 1 ((i3).toNat)) 63) = 4)) → (¬ ((jand (jX h 1 ((i3).toNat)) 63) = 5)) → (¬ ((jand (jX h 1 ((i3).toNat)) 63) = 6)) → (¬ ((jand (jX h 1 ((i3).toNat)) 63) = 7)) → (¬ ((jand (jX h 1 ((i3).toNat)) 63) = 8)) → (¬ ((jand (jX h 1 ((i3).toNat)) 63) = 9)) → (¬ ((jand (jX h 1 ((i3).toNat)) 63) = 10)) → (¬ ((jand (jX h 1 ((i3).toNat)) 63) = 11)) → (¬ ((jand (jX h 1 ((i3).toNat)) 63) = 12)) → ((jand (jX h 1 ((i3).toNat)) 63) = 13) → Ex MX8_at (d + 4) [.inr a1, .inl (jX h 1 ((i3 + 1).toNat)), .inl (jX h 1 ((i3 + 2).toNat))] h 0 0 (fun v h2 => V ML_law (d + 13) 507 [some (.inr 1), some (.inr a1), some (.inr a2), some (.inl i3)] (v.toList ++ []) h2 0 0 Q))
    (r18 : (¬ (((((jS h 1).2 : Int)) - 5) < i3)) → (¬ ((jand (jX h 1 ((i3).toNat)) 63) = 0)) → (¬ ((jand (jX h 1 ((i3).toNat)) 63) = 1)) → (¬ ((jand (jX h 1 ((i3).toNat)) 63) = 2)) → (¬ ((jand (jX h 1 ((i3).toNat)) 63) = 3)) → (¬ ((jand (jX h 1 ((i3).toNat)) 63) = 4)) → (¬ ((jand (jX h 1 ((i3).toNat)) 63) = 5)) → (¬ ((jand (jX h 1 ((i3).toNat)) 63) = 6)) → (¬ ((jand (jX h 1 ((i3).toNat)) 63) = 7)) → (¬ ((jand (jX h 1 ((i3).toNat)) 63) = 8)) → (¬ ((jand (jX h 1 ((i3).toNat)) 63) = 9)) → (¬ ((jand (jX h 1 ((i3).toNat)) 63) = 10)) → (¬ ((jand (jX h 1 ((i3).toNat)) 63) = 11)) → (¬ ((jand (jX h 1 ((i3).toNat)) 63) = 12)) → (¬ ((jand (jX h 1 ((i3).toNat)) 63) = 13)) → ((jand (jX h 1 ((i3).toNat)) 63) = 14) → jR (i3 + 1))
    (s36 : (¬ (((((jS h 1).2 : Int)) - 5) < i3)) → (¬ ((jand (jX h 1 ((i3).toNat)) 63) = 0)) → (¬ ((jand (jX h 1 ((i3).toNat)) 63) = 1)) → (¬ ((jand (jX h 1 ((i3).toNat)) 63) = 2)) → (¬ ((jand (jX h 1 ((i3).toNat)) 63) = 3)) → (¬ ((jand (jX h 1 ((i3).toNat)) 63) = 4)) → (¬ ((jand (jX h 1 ((i3).toNat)) 63) = 5)) → (¬ ((jand (jX h 1 ((i3).toNat)) 63) = 6)) → (¬ ((jand (jX h 1 ((i3).toNat)) 63) = 7)) → (¬ ((jand (jX h 1 ((i3).toNat)) 63) = 8)) → (¬ ((jand (jX h 1 ((i3).toNat)) 63) = 9)) → (¬ ((jand (jX h 1 ((i3).toNat)) 63) = 10)) → (¬ ((jand (jX h 1 ((i3).toNat)) 63) = 11)) → (¬ ((jand (jX h 1 ((i3).toNat)) 63) = 12)) → (¬ ((jand (jX h 1 ((i3).toNat)) 63) = 13)) → ((jand (jX h 1 ((i3).toNat)) 63) = 14) → 0 ≤ i3 + 1)
    (s37 : (¬ (((((jS h 1).2 : Int)) - 5) < i3)) → (¬ ((jand (jX h 1 ((i3).toNat)) 63) = 0)) → (¬ ((jand (jX h 1 ((i3).toNat)) 63) = 1)) → (¬ ((jand (jX h 1 ((i3).toNat)) 63) = 2)) → (¬ ((jand (jX h 1 ((i3).toNat)) 63) = 3)) → (¬ ((jand (jX h 1 ((i3).toNat)) 63) = 4)) → (¬ ((jand (jX h 1 ((i3).toNat)) 63) = 5)) → (¬ ((jand (jX h 1 ((i3).toNat)) 63) = 6)) → (¬ ((jand (jX h 1 ((i3).toNat)) 63) = 7)) → (¬ ((jand (jX h 1 ((i3).toNat)) 63) = 8)) → (¬ ((jand (jX h 1 ((i3).toNat)) 63) = 9)) → (¬ ((jand (jX h 1 ((i3).toNat)) 63) = 10)) → (¬ ((jand (jX h 1 ((i3).toNat)) 63) = 11)) → (¬ ((jand (jX h 1 ((i3).toNat)) 63) = 12)) → (¬ ((jand (jX h 1 ((i3).toNat)) 63) = 13)) → ((jand (jX h 1 ((i3).toNat)) 63) = 14) → i3 + 1 < ((jS h 1).2 : Int))
    (r19 : (¬ (((((jS h 1).2 : Int)) - 5) < i3)) → (¬ ((jand (jX h 1 ((i3).toNat)) 63) = 0)) → (¬ ((jand (jX h 1 ((i3).toNat)) 63) = 1)) → (¬ ((jand (jX h 1 ((i3).toNat)) 63) = 2)) → (¬ ((jand (jX h 1 ((i3).toNat)) 63) = 3)) → (¬ ((jand (jX h 1 ((i3).toNat)) 63) = 4)) → (¬ ((jand (jX h 1 ((i3).toNat)) 63) = 5)) → (¬ ((jand (jX h 1 ((i3).toNat)) 63) = 6)) → (¬ ((jand (jX h 1 ((i3).toNat)) 63) = 7)) → (¬ ((jand (jX h 1 ((i3).toNat)) 63) = 8)) → (¬ ((jand (jX h 1 ((i3).toNat)) 63) = 9)) → (¬ ((jand (jX h 1 ((i3).toNat)) 63) = 10)) → (¬ ((jand (jX h 1 ((i3).toNat)) 63) = 11)) → (¬ ((jand (jX h 1 ((i3).toNat)) 63) = 12)) → (¬ ((jand (jX h 1 ((i3).toNat)) 63) = 13)) → ((jand (jX h 1 ((i3).toNat)) 63) = 14) → jR (i3 + 2))
    (s38 : (¬ (((((jS h 1).2 : Int)) - 5) < i3)) → (¬ ((jand (jX h 1 ((i3).toNat)) 63) = 0)) → (¬ ((jand (jX h 1 ((i3).toNat)) 63) = 1)) → (¬ ((jand (jX h 1 ((i3).toNat)) 63) = 2)) → (¬ ((jand (jX h 1 ((i3).toNat)) 63) = 3)) → (¬ ((jand (jX h 1 ((i3).toNat)) 63) = 4)) → (¬ ((jand (jX h 1 ((i3).toNat)) 63) = 5)) → (¬ ((jand (jX h 1 ((i3).toNat)) 63) = 6)) → (¬ ((jand (jX h 1 ((i3).toNat)) 63) = 7)) → (¬ ((jand (jX h 1 ((i3).toNat)) 63) = 8)) → (¬ ((jand (jX h 1 ((i3).toNat)) 63) = 9)) → (¬ ((jand (jX h 1 ((i3).toNat)) 63) = 10)) → (¬ ((jand (jX h 1 ((i3).toNat)) 63) = 11)) → (¬ ((jand (jX h 1 ((i3).toNat)) 63) = 12)) → (¬ ((jand (jX h 1 ((i3).toNat)) 63) = 13)) → ((jand (jX h 1 ((i3).toNat)) 63) = 14) → 0 ≤ i3 + 2)
    (s39 : (¬ (((((jS h 1).2 : Int)) - 5) < i3)) → (¬ ((jand (jX h 1 ((i3).toNat)) 63) = 0)) → (¬ ((jand (jX h 1 ((i3).toNat)) 63) = 1)) → (¬ ((jand (jX h 1 ((i3).toNat)) 63) = 2)) → (¬ ((jand (jX h 1 ((i3).toNat)) 63) = 3)) → (¬ ((jand (jX h 1 ((i3).toNat)) 63) = 4)) → (¬ ((jand (jX h 1 ((i3).toNat)) 63) = 5)) → (¬ ((jand (jX h 1 ((i3).toNat)) 63) = 6)) → (¬ ((jand (jX h 1 ((i3).toNat)) 63) = 7)) → (¬ ((jand (jX h 1 ((i3).toNat)) 63) = 8)) → (¬ ((jand (jX h 1 ((i3).toNat)) 63) = 9)) → (¬ ((jand (jX h 1 ((i3).toNat)) 63) = 10)) → (¬ ((jand (jX h 1 ((i3).toNat)) 63) = 11)) → (¬ ((jand (jX h 1 ((i3).toNat)) 63) = 12)) → (¬ ((jand (jX h 1 ((i3).toNat)) 63) = 13)) → ((jand (jX h 1 ((i3).toNat)) 63) = 14) → i3 + 2 < ((jS h 1).2 : Int))
    (r20 : (¬ (((((jS h 1).2 : Int)) - 5) < i3)) → (¬ ((jand (jX h 1 ((i3).toNat)) 63) = 0)) → (¬ ((jand (jX h 1 ((i3).toNat)) 63) = 1)) → (¬ ((jand (jX h 1 ((i3).toNat)) 63) = 2)) → (¬ ((jand (jX h 1 ((i3).toNat)) 63) = 3)) → (¬ ((jand (jX h 1 ((i3).toNat)) 63) = 4)) → (¬ ((jand (jX h 1 ((i3).toNat)) 63) = 5)) → (¬ ((jand (jX h 1 ((i3).toNat)) 63) = 6)) → (¬ ((jand (jX h 1 ((i3).toNat)) 63) = 7)) → (¬ ((jand (jX h 1 ((i3).toNat)) 63) = 8)) → (¬ ((jand (jX h 1 ((i3).toNat)) 63) = 9)) → (¬ ((jand (jX h 1 ((i3).toNat)) 63) = 10)) → (¬ ((jand (jX h 1 ((i3).toNat)) 63) = 11)) → (¬ ((jand (jX h 1 ((i3).toNat)) 63) = 12)) → (¬ ((jand (jX h 1 ((i3).toNat)) 63) = 13)) → ((jand (jX h 1 ((i3).toNat)) 63) = 14) → jR (i3 + 3))
    (s40 : (¬ (((((jS h 1).2 : Int)) - 5) < i3)) → (¬ ((jand (jX h 1 ((i3).toNat)) 63) = 0)) → (¬ ((jand (jX h 1 ((i3).toNat)) 63) = 1)) → (¬ ((jand (jX h 1 ((i3).toNat)) 63) = 2)) → (¬ ((jand (jX h 1 ((i3).toNat)) 63) = 3)) → (¬ ((jand (jX h 1 ((i3).toNat)) 63) = 4)) → (¬ ((jand (jX h 1 ((i3).toNat)) 63) = 5)) → (¬ ((jand (jX h 1 ((i3).toNat)) 63) = 6)) → (¬ ((jand (jX h 1 ((i3).toNat)) 63) = 7)) → (¬ ((jand (jX h 1 ((i3).toNat)) 63) = 8)) → (¬ ((jand (jX h 1 ((i3).toNat)) 63) = 9)) → (¬ ((jand (jX h 1 ((i3).toNat)) 63) = 10)) → (¬ ((jand (jX h 1 ((i3).toNat)) 63) = 11)) → (¬ ((jand (jX h 1 ((i3).toNat)) 63) = 12)) → (¬ ((jand (jX h 1 ((i3).toNat)) 63) = 13)) → ((jand (jX h 1 ((i3).toNat)) 63) = 14) → 0 ≤ i3 + 3)
    (s41 : (¬ (((((jS h 1).2 : Int)) - 5) < i3)) → (¬ ((jand (jX h 1 ((i3).toNat)) 63) = 0)) → (¬ ((jand (jX h 1 ((i3).toNat)) 63) = 1)) → (¬ ((jand (jX h 1 ((i3).toNat)) 63) = 2)) → (¬ ((jand (jX h 1 ((i3).toNat)) 63) = 3)) → (¬ ((jand (jX h 1 ((i3).toNat)) 63) = 4)) → (¬ ((jand (jX h 1 ((i3).toNat)) 63) = 5)) → (¬ ((jand (jX h 1 ((i3).toNat)) 63) = 6)) → (¬ ((jand (jX h 1 ((i3).toNat)) 63) = 7)) → (¬ ((jand (jX h 1 ((i3).toNat)) 63) = 8)) → (¬ ((jand (jX h 1 ((i3).toNat)) 63) = 9)) → (¬ ((jand (jX h 1 ((i3).toNat)) 63) = 10)) → (¬ ((jand (jX h 1 ((i3).toNat)) 63) = 11)) → (¬ ((jand (jX h 1 ((i3).toNat)) 63) = 12)) → (¬ ((jand (jX h 1 ((i3).toNat)) 63) = 13)) → ((jand (jX h 1 ((i3).toNat)) 63) = 14) → i3 + 3 < ((jS h 1).2 : Int))
    (r21 : (¬ (((((jS h 1).2 : Int)) - 5) < i3)) → (¬ ((jand (jX h 1 ((i3).toNat)) 63) = 0)) → (¬ ((jand (jX h 1 ((i3).toNat)) 63) = 1)) → (¬ ((jand (jX h 1 ((i3).toNat)) 63) = 2)) → (¬ ((jand (jX h 1 ((i3).toNat)) 63) = 3)) → (¬ ((jand (jX h 1 ((i3).toNat)) 63) = 4)) → (¬ ((jand (jX h 1 ((i3).toNat)) 63) = 5)) → (¬ ((jand (jX h 1 ((i3).toNat)) 63) = 6)) → (¬ ((jand (jX h 1 ((i3).toNat)) 63) = 7)) → (¬ ((jand (jX h 1 ((i3).toNat)) 63) = 8)) → (¬ ((jand (jX h 1 ((i3).toNat)) 63) = 9)) → (¬ ((jand (jX h 1 ((i3).toNat)) 63) = 10)) → (¬ ((jand (jX h 1 ((i3).toNat)) 63) = 11)) → (¬ ((jand (jX h 1 ((i3).toNat)) 63) = 12)) → (¬ ((jand (jX h 1 ((i3).toNat)) 63) = 13)) → ((jand (jX h 1 ((i3).toNat)) 63) = 14) → jR (i3 + 4))
    (s42 : (¬ (((((jS h 1).2 : Int)) - 5) < i3)) → (¬ ((jand (jX h 1 ((i3).toNat)) 63) = 0)) → (¬ ((jand (jX h 1 ((i3).toNat)) 63) = 1)) → (¬ ((jand (jX h 1 ((i3).toNat)) 63) = 2)) → (¬ ((jand (jX h 1 ((i3).toNat)) 63) = 3)) → (¬ ((jand (jX h 1 ((i3).toNat)) 63) = 4)) → (¬ ((jand (jX h 1 ((i3).toNat)) 63) = 5)) → (¬ ((jand (jX h 1 ((i3).toNat)) 63) = 6)) → (¬ ((jand (jX h 1 ((i3).toNat)) 63) = 7)) → (¬ ((jand (jX h 1 ((i3).toNat)) 63) = 8)) → (¬ ((jand (jX h 1 ((i3).toNat)) 63) = 9)) → (¬ ((jand (jX h 1 ((i3).toNat)) 63) = 10)) → (¬ ((jand (jX h 1 ((i3).toNat)) 63) = 11)) → (¬ ((jand (jX h 1 ((i3).toNat)) 63) = 12)) → (¬ ((jand (jX h 1 ((i3).toNat)) 63) = 13)) → ((jand (jX h 1 ((i3).toNat)) 63) = 14) → 0 ≤ i3 + 4)
    (s43 : (¬ (((((jS h 1).2 : Int)) - 5) < i3)) → (¬ ((jand (jX h 1 ((i3).toNat)) 63) = 0)) → (¬ ((jand (jX h 1 ((i3).toNat)) 63) = 1)) → (¬ ((jand (jX h 1 ((i3).toNat)) 63) = 2)) → (¬ ((jand (jX h 1 ((i3).toNat)) 63) = 3)) → (¬ ((jand (jX h 1 ((i3).toNat)) 63) = 4)) → (¬ ((jand (jX h 1 ((i3).toNat)) 63) = 5)) → (¬ ((jand (jX h 1 ((i3).toNat)) 63) = 6)) → (¬ ((jand (jX h 1 ((i3).toNat)) 63) = 7)) → (¬ ((jand (jX h 1 ((i3).toNat)) 63) = 8)) → (¬ ((jand (jX h 1 ((i3).toNat)) 63) = 9)) → (¬ ((jand (jX h 1 ((i3).toNat)) 63) = 10)) → (¬ ((jand (jX h 1 ((i3).toNat)) 63) = 11)) → (¬ ((jand (jX h 1 ((i3).toNat)) 63) = 12)) → (¬ ((jand (jX h 1 ((i3).toNat)) 63) = 13)) → ((jand (jX h 1 ((i3).toNat)) 63) = 14) → i3 + 4 < ((jS h 1).2 : Int))
    (e15 : (¬ (((((jS h 1).2 : Int)) - 5) < i3)) → (¬ ((jand (jX h 1 ((i3).toNat)) 63) = 0)) → (¬ ((jand (jX h 1 ((i3).toNat)) 63) = 1)) → (¬ ((jand (jX h 1 ((i3).toNat)) 63) = 2)) → (¬ ((jand (jX h 1 ((i3).toNat)) 63) = 3)) → (¬ ((jand (jX h 1 ((i3).toNat)) 63) = 4)) → (¬ ((jand (jX h 1 ((i3).toNat)) 63) = 5)) → (¬ ((jand (jX h 1 ((i3).toNat)) 63) = 6)) → (¬ ((jand (jX h 1 ((i3).toNat)) 63) = 7)) → (¬ ((jand (jX h 1 ((i3).toNat)) 63) = 8)) → (¬ ((jand (jX h 1 ((i3).toNat)) 63) = 9)) → (¬ ((jand (jX h 1 ((i3).toNat)) 63) = 10)) → (¬ ((jand (jX h 1 ((i3).toNat)) 63) = 11)) → (¬ ((jand (jX h 1 ((i3).toNat)) 63) = 12)) → (¬ ((jand (jX h 1 ((i3).toNat)) 63) = 13)) → ((jand (jX h 1 ((i3).toNat)) 63) = 14) → Ex MX8_edges (d + 4) [.inr a1, .inl (jX h 1 ((i3 + 1).toNat)), .inl (jX h 1 ((i3 + 2).toNat)), .inl (jX h 1 ((i3 + 3).toNat)), .inl (jX h 1 ((i3 + 4).toNat))] h 0 0 (fun v h2 => V ML_law (d + 13) 550 [some (.inr 1), some (.inr a1), some (.inr a2), some (.inl i3)] (v.toList ++ []) h2 0 0 Q))
    (r22 : (¬ (((((jS h 1).2 : Int)) - 5) < i3)) → (¬ ((jand (jX h 1 ((i3).toNat)) 63) = 0)) → (¬ ((jand (jX h 1 ((i3).toNat)) 63) = 1)) → (¬ ((jand (jX h 1 ((i3).toNat)) 63) = 2)) → (¬ ((jand (jX h 1 ((i3).toNat)) 63) = 3)) → (¬ ((jand (jX h 1 ((i3).toNat)) 63) = 4)) → (¬ ((jand (jX h 1 ((i3).toNat)) 63) = 5)) → (¬ ((jand (jX h 1 ((i3).toNat)) 63) = 6)) → (¬ ((jand (jX h 1 ((i3).toNat)) 63) = 7)) → (¬ ((jand (jX h 1 ((i3).toNat)) 63) = 8)) → (¬ ((jand (jX h 1 ((i3).toNat)) 63) = 9)) → (¬ ((jand (jX h 1 ((i3).toNat)) 63) = 10)) → (¬ ((jand (jX h 1 ((i3).toNat)) 63) = 11)) → (¬ ((jand (jX h 1 ((i3).toNat)) 63) = 12)) → (¬ ((jand (jX h 1 ((i3).toNat)) 63) = 13)) → (¬ ((jand (jX h 1 ((i3).toNat)) 63) = 14)) → ((jand (jX h 1 ((i3).toNat)) 63) = 15) → jR (i3 + 1))
    (s44 : (¬ (((((jS h 1).2 : Int)) - 5) < i3)) → (¬ ((jand (jX h 1 ((i3).toNat)) 63) = 0)) → (¬ ((jand (jX h 1 ((i3).toNat)) 63) = 1)) → (¬ ((jand (jX h 1 ((i3).toNat)) 63) = 2)) → (¬ ((jand (jX h 1 ((i3).toNat)) 63) = 3)) → (¬ ((jand (jX h 1 ((i3).toNat)) 63) = 4)) → (¬ ((jand (jX h 1 ((i3).toNat)) 63) = 5)) → (¬ ((jand (jX h 1 ((i3).toNat)) 63) = 6)) → (¬ ((jand (jX h 1 ((i3).toNat)) 63) = 7)) → (¬ ((jand (jX h 1 ((i3).toNat)) 63) = 8)) → (¬ ((jand (jX h 1 ((i3).toNat)) 63) = 9)) → (¬ ((jand (jX h 1 ((i3).toNat)) 63) = 10)) → (¬ ((jand (jX h 1 ((i3).toNat)) 63) = 11)) → (¬ ((jand (jX h 1 ((i3).toNat)) 63) = 12)) → (¬ ((jand (jX h 1 ((i3).toNat)) 63) = 13)) → (¬ ((jand (jX h 1 ((i3).toNat)) 63) = 14)) → ((jand (jX h 1 ((i3).toNat)) 63) = 15) → 0 ≤ i3 + 1)
    (s45 : (¬ (((((jS h 1).2 : Int)) - 5) < i3)) → (¬ ((jand (jX h 1 ((i3).toNat)) 63) = 0)) → (¬ ((jand (jX h 1 ((i3).toNat)) 63) = 1)) → (¬ ((jand (jX h 1 ((i3).toNat)) 63) = 2)) → (¬ ((jand (jX h 1 ((i3).toNat)) 63) = 3)) → (¬ ((jand (jX h 1 ((i3).toNat)) 63) = 4)) → (¬ ((jand (jX h 1 ((i3).toNat)) 63) = 5)) → (¬ ((jand (jX h 1 ((i3).toNat)) 63) = 6)) → (¬ ((jand (jX h 1 ((i3).toNat)) 63) = 7)) → (¬ ((jand (jX h 1 ((i3).toNat)) 63) = 8)) → (¬ ((jand (jX h 1 ((i3).toNat)) 63) = 9)) → (¬ ((jand (jX h 1 ((i3).toNat)) 63) = 10)) → (¬ ((jand (jX h 1 ((i3).toNat)) 63) = 11)) → (¬ ((jand (jX h 1 ((i3).toNat)) 63) = 12)) → (¬ ((jand (jX h 1 ((i3).toNat)) 63) = 13)) → (¬ ((jand (jX h 1 ((i3).toNat)) 63) = 14)) → ((jand (jX h 1 ((i3).toNat)) 63) = 15) → i3 + 1 < ((jS h 1).2 : Int))
    (r23 : (¬ (((((jS h 1).2 : Int)) - 5) < i3)) → (¬ ((jand (jX h 1 ((i3).toNat)) 63) = 0)) → (¬ ((jand (jX h 1 ((i3).toNat)) 63) = 1)) → (¬ ((jand (jX h 1 ((i3).toNat)) 63) = 2)) → (¬ ((jand (jX h 1 ((i3).toNat)) 63) = 3)) → (¬ ((jand (jX h 1 ((i3).toNat)) 63) = 4)) → (¬ ((jand (jX h 1 ((i3).toNat)) 63) = 5)) → (¬ ((jand (jX h 1 ((i3).toNat)) 63) = 6)) → (¬ ((jand (jX h 1 ((i3).toNat)) 63) = 7)) → (¬ ((jand (jX h 1 ((i3).toNat)) 63) = 8)) → (¬ ((jand (jX h 1 ((i3).toNat)) 63) = 9)) → (¬ ((jand (jX h 1 ((i3).toNat)) 63) = 10)) → (¬ ((jand (jX h 1 ((i3).toNat)) 63) = 11)) → (¬ ((jand (jX h 1 ((i3).toNat)) 63) = 12)) → (¬ ((jand (jX h 1 ((i3).toNat)) 63) = 13)) → (¬ ((jand (jX h 1 ((i3).toNat)) 63) = 14)) → ((jand (jX h 1 ((i3).toNat)) 63) = 15) → jR (i3 + 2))
    (s46 : (¬ (((((jS h 1).2 : Int)) - 5) < i3)) → (¬ ((jand (jX h 1 ((i3).toNat)) 63) = 0)) → (¬ ((jand (jX h 1 ((i3).toNat)) 63) = 1)) → (¬ ((jand (jX h 1 ((i3).toNat)) 63) = 2)) → (¬ ((jand (jX h 1 ((i3).toNat)) 63) = 3)) → (¬ ((jand (jX h 1 ((i3).toNat)) 63) = 4)) → (¬ ((jand (jX h 1 ((i3).toNat)) 63) = 5)) → (¬ ((jand (jX h 1 ((i3).toNat)) 63) = 6)) → (¬ ((jand (jX h 1 ((i3).toNat)) 63) = 7)) → (¬ ((jand (jX h 1 ((i3).toNat)) 63) = 8)) → (¬ ((jand (jX h 1 ((i3).toNat)) 63) = 9)) → (¬ ((jand (jX h 1 ((i3).toNat)) 63) = 10)) → (¬ ((jand (jX h 1 ((i3).toNat)) 63) = 11)) → (¬ ((jand (jX h 1 ((i3).toNat)) 63) = 12)) → (¬ ((jand (jX h 1 ((i3).toNat)) 63) = 13)) → (¬ ((jand (jX h 1 ((i3).toNat)) 63) = 14)) → ((jand (jX h 1 ((i3).toNat)) 63) = 15) → 0 ≤ i3 + 2)
    (s47 : (¬ (((((jS h 1).2 : Int)) - 5) < i3)) → (¬ ((jand (jX h 1 ((i3).toNat)) 63) = 0)) → (¬ ((jand (jX h 1 ((i3).toNat)) 63) = 1)) → (¬ ((jand (jX h 1 ((i3).toNat)) 63) = 2)) → (¬ ((jand (jX h 1 ((i3).toNat)) 63) = 3)) → (¬ ((jand (jX h 1 ((i3).toNat)) 63) = 4)) → (¬ ((jand (jX h 1 ((i3).toNat)) 63) = 5)) → (¬ ((jand (jX h 1 ((i3).toNat)) 63) = 6)) → (¬ ((jand (jX h 1 ((i3).toNat)) 63) = 7)) → (¬ ((jand (jX h 1 ((i3).toNat)) 63) = 8)) → (¬ ((jand (jX h 1 ((i3).toNat)) 63) = 9)) → (¬ ((jand (jX h 1 ((i3).toNat)) 63) = 10)) → (¬ ((jand (jX h 1 ((i3).toNat)) 63) = 11)) → (¬ ((jand (jX h 1 ((i3).toNat)) 63) = 12)) → (¬ ((jand (jX h 1 ((i3).toNat)) 63) = 13)) → (¬ ((jand (jX h 1 ((i3).toNat)) 63) = 14)) → ((jand (jX h 1 ((i3).toNat)) 63) = 15) → i3 + 2 < ((jS h 1).2 : Int))
    (r24 : (¬ (((((jS h 1).2 : Int)) - 5) < i3)) → (¬ ((jand (jX h 1 ((i3).toNat)) 63) = 0)) → (¬ ((jand (jX h 1 ((i3).toNat)) 63) = 1)) → (¬ ((jand (jX h 1 ((i3).toNat)) 63) = 2)) → (¬ ((jand (jX h 1 ((i3).toNat)) 63) = 3)) → (¬ ((jand (jX h 1 ((i3).toNat)) 63) = 4)) → (¬ ((jand (jX h 1 ((i3).toNat)) 63) = 5)) → (¬ ((jand (jX h 1 ((i3).toNat)) 63) = 6)) → (¬ ((jand (jX h 1 ((i3).toNat)) 63) = 7)) → (¬ ((jand (jX h 1 ((i3).toNat)) 63) = 8)) → (¬ ((jand (jX h 1 ((i3).toNat)) 63) = 9)) → (¬ ((jand (jX h 1 ((i3).toNat)) 63) = 10)) → (¬ ((jand (jX h 1 ((i3).toNat)) 63) = 11)) → (¬ ((jand (jX h 1 ((i3).toNat)) 63) = 12)) → (¬ ((jand (jX h 1 ((i3).toNat)) 63) = 13)) → (¬ ((jand (jX h 1 ((i3).toNat)) 63) = 14)) → ((jand (jX h 1 ((i3).toNat)) 63) = 15) → jR (i3 + 3))
    (s48 : (¬ (((((jS h 1).2 : Int)) - 5) < i3)) → (¬ ((jand (jX h 1 ((i3).toNat)) 63) = 0)) → (¬ ((jand (jX h 1 ((i3).toNat)) 63) = 1)) → (¬ ((jand (jX h 1 ((i3).toNat)) 63) = 2)) → (¬ ((jand (jX h 1 ((i3).toNat)) 63) = 3)) → (¬ ((jand (jX h 1 ((i3).toNat)) 63) = 4)) → (¬ ((jand (jX h 1 ((i3).toNat)) 63) = 5)) → (¬ ((jand (jX h 1 ((i3).toNat)) 63) = 6)) → (¬ ((jand (jX h 1 ((i3).toNat)) 63) = 7)) → (¬ ((jand (jX h 1 ((i3).toNat)) 63) = 8)) → (¬ ((jand (jX h 1 ((i3).toNat)) 63) = 9)) → (¬ ((jand (jX h 1 ((i3).toNat)) 63) = 10)) → (¬ ((jand (jX h 1 ((i3).toNat)) 63) = 11)) → (¬ ((jand (jX h 1 ((i3).toNat)) 63) = 12)) → (¬ ((jand (jX h 1 ((i3).toNat)) 63) = 13)) → (¬ ((jand (jX h 1 ((i3).toNat)) 63) = 14)) → ((jand (jX h 1 ((i3).toNat)) 63) = 15) → 0 ≤ i3 + 3)
    (s49 : (¬ (((((jS h 1).2 : Int)) - 5) < i3)) → (¬ ((jand (jX h 1 ((i3).toNat)) 63) = 0)) → (¬ ((jand (jX h 1 ((i3).toNat)) 63) = 1)) → (¬ ((jand (jX h 1 ((i3).toNat)) 63) = 2)) → (¬ ((jand (jX h 1 ((i3).toNat)) 63) = 3)) → (¬ ((jand (jX h 1 ((i3).toNat)) 63) = 4)) → (¬ ((jand (jX h 1 ((i3).toNat)) 63) = 5)) → (¬ ((jand (jX h 1 ((i3).toNat)) 63) = 6)) → (¬ ((jand (jX h 1 ((i3).toNat)) 63) = 7)) → (¬ ((jand (jX h 1 ((i3).toNat)) 63) = 8)) → (¬ ((jand (jX h 1 ((i3).toNat)) 63) = 9)) → (¬ ((jand (jX h 1 ((i3).toNat)) 63) = 10)) → (¬ ((jand (jX h 1 ((i3).toNat)) 63) = 11)) → (¬ ((jand (jX h 1 ((i3).toNat)) 63) = 12)) → (¬ ((jand (jX h 1 ((i3).toNat)) 63) = 13)) → (¬ ((jand (jX h 1 ((i3).toNat)) 63) = 14)) → ((jand (jX h 1 ((i3).toNat)) 63) = 15) → i3 + 3 < ((jS h 1).2 : Int))
    (e16 : (¬ (((((jS h 1).2 : Int)) - 5) < i3)) → (¬ ((jand (jX h 1 ((i3).toNat)) 63) = 0)) → (¬ ((jand (jX h 1 ((i3).toNat)) 63) = 1)) → (¬ ((jand (jX h 1 ((i3).toNat)) 63) = 2)) → (¬ ((jand (jX h 1 ((i3).toNat)) 63) = 3)) → (¬ ((jand (jX h 1 ((i3).toNat)) 63) = 4)) → (¬ ((jand (jX h 1 ((i3).toNat)) 63) = 5)) → (¬ ((jand (jX h 1 ((i3).toNat)) 63) = 6)) → (¬ ((jand (jX h 1 ((i3).toNat)) 63) = 7)) → (¬ ((jand (jX h 1 ((i3).toNat)) 63) = 8)) → (¬ ((jand (jX h 1 ((i3).toNat)) 63) = 9)) → (¬ ((jand (jX h 1 ((i3).toNat)) 63) = 10)) → (¬ ((jand (jX h 1 ((i3).toNat)) 63) = 11)) → (¬ ((jand (jX h 1 ((i3).toNat)) 63) = 12)) → (¬ ((jand (jX h 1 ((i3).toNat)) 63) = 13)) → (¬ ((jand (jX h 1 ((i3).toNat)) 63) = 14)) → ((jand (jX h 1 ((i3).toNat)) 63) = 15) → Ex MX8_next (d + 4) [.inr a1, .inl (jX h 1 ((i3 + 1).toNat)), .inl (jX h 1 ((i3 + 2).toNat)), .inl (jX h 1 ((i3 + 3).toNat))] h 0 0 (fun v h2 => V ML_law (d + 13) 598 [some (.inr 1), some (.inr a1), some (.inr a2), some (.inl i3)] (v.toList ++ []) h2 0 0 Q))
    (r25 : (¬ (((((jS h 1).2 : Int)) - 5) < i3)) → (¬ ((jand (jX h 1 ((i3).toNat)) 63) = 0)) → (¬ ((jand (jX h 1 ((i3).toNat)) 63) = 1)) → (¬ ((jand (jX h 1 ((i3).toNat)) 63) = 2)) → (¬ ((jand (jX h 1 ((i3).toNat)) 63) = 3)) → (¬ ((jand (jX h 1 ((i3).toNat)) 63) = 4)) → (¬ ((jand (jX h 1 ((i3).toNat)) 63) = 5)) → (¬ ((jand (jX h 1 ((i3).toNat)) 63) = 6)) → (¬ ((jand (jX h 1 ((i3).toNat)) 63) = 7)) → (¬ ((jand (jX h 1 ((i3).toNat)) 63) = 8)) → (¬ ((jand (jX h 1 ((i3).toNat)) 63) = 9)) → (¬ ((jand (jX h 1 ((i3).toNat)) 63) = 10)) → (¬ ((jand (jX h 1 ((i3).toNat)) 63) = 11)) → (¬ ((jand (jX h 1 ((i3).toNat)) 63) = 12)) → (¬ ((jand (jX h 1 ((i3).toNat)) 63) = 13)) → (¬ ((jand (jX h 1 ((i3).toNat)) 63) = 14)) → (¬ ((jand (jX h 1 ((i3).toNat)) 63) = 15)) → ((jand (jX h 1 ((i3).toNat)) 63) = 16) → jR (i3 + 1))
    (s50 : (¬ (((((jS h 1).2 : Int)) - 5) < i3)) → (¬ ((jand (jX h 1 ((i3).toNat)) 63) = 0)) → (¬ ((jand (jX h 1 ((i3).toNat)) 63) = 1)) → (¬ ((jand (jX h 1 ((i3).toNat)) 63) = 2)) → (¬ ((jand (jX h 1 ((i3).toNat)) 63) = 3)) → (¬ ((jand (jX h 1 ((i3).toNat)) 63) = 4)) → (¬ ((jand (jX h 1 ((i3).toNat)) 63) = 5)) → (¬ ((jand (jX h 1 ((i3).toNat)) 63) = 6)) → (¬ ((jand (jX h 1 ((i3).toNat)) 63) = 7)) → (¬ ((jand (jX h 1 ((i3).toNat)) 63) = 8)) → (¬ ((jand (jX h 1 ((i3).toNat)) 63) = 9)) → (¬ ((jand (jX h 1 ((i3).toNat)) 63) = 10)) → (¬ ((jand (jX h 1 ((i3).toNat)) 63) = 11)) → (¬ ((jand (jX h 1 ((i3).toNat)) 63) = 12)) → (¬ ((jand (jX h 1 ((i3).toNat)) 63) = 13)) → (¬ ((jand (jX h 1 ((i3).toNat)) 63) = 14)) → (¬ ((jand (jX h 1 ((i3).toNat)) 63) = 15)) → ((jand (jX h 1 ((i3).toNat)) 63) = 16) → 0 ≤ i3 + 1)
    (s51 : (¬ (((((jS h 1).2 : Int)) - 5) < i3)) → (¬ ((jand (jX h 1 ((i3).toNat)) 63) = 0)) → (¬ ((jand (jX h 1 ((i3).toNat)) 63) = 1)) → (¬ ((jand (jX h 1 ((i3).toNat)) 63) = 2)) → (¬ ((jand (jX h 1 ((i3).toNat)) 63) = 3)) → (¬ ((jand (jX h 1 ((i3).toNat)) 63) = 4)) → (¬ ((jand (jX h 1 ((i3).toNat)) 63) = 5)) → (¬ ((jand (jX h 1 ((i3).toNat)) 63) = 6)) → (¬ ((jand (jX h 1 ((i3).toNat)) 63) = 7)) → (¬ ((jand (jX h 1 ((i3).toNat)) 63) = 8)) → (¬ ((jand (jX h 1 ((i3).toNat)) 63) = 9)) → (¬ ((jand (jX h 1 ((i3).toNat)) 63) = 10)) → (¬ ((jand (jX h 1 ((i3).toNat)) 63) = 11)) → (¬ ((jand (jX h 1 ((i3).toNat)) 63) = 12)) → (¬ ((jand (jX h 1 ((i3).toNat)) 63) = 13)) → (¬ ((jand (jX h 1 ((i3).toNat)) 63) = 14)) → (¬ ((jand (jX h 1 ((i3).toNat)) 63) = 15)) → ((jand (jX h 1 ((i3).toNat)) 63) = 16) → i3 + 1 < ((jS h 1).2 : Int))
    (r26 : (¬ (((((jS h 1).2 : Int)) - 5) < i3)) → (¬ ((jand (jX h 1 ((i3).toNat)) 63) = 0)) → (¬ ((jand (jX h 1 ((i3).toNat)) 63) = 1)) → (¬ ((jand (jX h 1 ((i3).toNat)) 63) = 2)) → (¬ ((jand (jX h 1 ((i3).toNat)) 63) = 3)) → (¬ ((jand (jX h 1 ((i3).toNat)) 63) = 4)) → (¬ ((jand (jX h 1 ((i3).toNat)) 63) = 5)) → (¬ ((jand (jX h 1 ((i3).toNat)) 63) = 6)) → (¬ ((jand (jX h 1 ((i3).toNat)) 63) = 7)) → (¬ ((jand (jX h 1 ((i3).toNat)) 63) = 8)) → (¬ ((jand (jX h 1 ((i3).toNat)) 63) = 9)) → (¬ ((jand (jX h 1 ((i3).toNat)) 63) = 10)) → (¬ ((jand (jX h 1 ((i3).toNat)) 63) = 11)) → (¬ ((jand (jX h 1 ((i3).toNat)) 63) = 12)) → (¬ ((jand (jX h 1 ((i3).toNat)) 63) = 13)) → (¬ ((jand (jX h 1 ((i3).toNat)) 63) = 14)) → (¬ ((jand (jX h 1 ((i3).toNat)) 63) = 15)) → ((jand (jX h 1 ((i3).toNat)) 63) = 16) → jR (i3 + 2))
    (s52 : (¬ (((((jS h 1).2 : Int)) - 5) < i3)) → (¬ ((jand (jX h 1 ((i3).toNat)) 63) = 0)) → (¬ ((jand (jX h 1 ((i3).toNat)) 63) = 1)) → (¬ ((jand (jX h 1 ((i3).toNat)) 63) = 2)) → (¬ ((jand (jX h 1 ((i3).toNat)) 63) = 3)) → (¬ ((jand (jX h 1 ((i3).toNat)) 63) = 4)) → (¬ ((jand (jX h 1 ((i3).toNat)) 63) = 5)) → (¬ ((jand (jX h 1 ((i3).toNat)) 63) = 6)) → (¬ ((jand (jX h 1 ((i3).toNat)) 63) = 7)) → (¬ ((jand (jX h 1 ((i3).toNat)) 63) = 8)) → (¬ ((jand (jX h 1 ((i3).toNat)) 63) = 9)) → (¬ ((jand (jX h 1 ((i3).toNat)) 63) = 10)) → (¬ ((jand (jX h 1 ((i3).toNat)) 63) = 11)) → (¬ ((jand (jX h 1 ((i3).toNat)) 63) = 12)) → (¬ ((jand (jX h 1 ((i3).toNat)) 63) = 13)) → (¬ ((jand (jX h 1 ((i3).toNat)) 63) = 14)) → (¬ ((jand (jX h 1 ((i3).toNat)) 63) = 15)) → ((jand (jX h 1 ((i3).toNat)) 63) = 16) → 0 ≤ i3 + 2)
    (s53 : (¬ (((((jS h 1).2 : Int)) - 5) < i3)) → (¬ ((jand (jX h 1 ((i3).toNat)) 63) = 0)) → (¬ ((jand (jX h 1 ((i3).toNat)) 63) = 1)) → (¬ ((jand (jX h 1 ((i3).toNat)) 63) = 2)) → (¬ ((jand (jX h 1 ((i3).toNat)) 63) = 3)) → (¬ ((jand (jX h 1 ((i3).toNat)) 63) = 4)) → (¬ ((jand (jX h 1 ((i3).toNat)) 63) = 5)) → (¬ ((jand (jX h 1 ((i3).toNat)) 63) = 6)) → (¬ ((jand (jX h 1 ((i3).toNat)) 63) = 7)) → (¬ ((jand (jX h 1 ((i3).toNat)) 63) = 8)) → (¬ ((jand (jX h 1 ((i3).toNat)) 63) = 9)) → (¬ ((jand (jX h 1 ((i3).toNat)) 63) = 10)) → (¬ ((jand (jX h 1 ((i3).toNat)) 63) = 11)) → (¬ ((jand (jX h 1 ((i3).toNat)) 63) = 12)) → (¬ ((jand (jX h 1 ((i3).toNat)) 63) = 13)) → (¬ ((jand (jX h 1 ((i3).toNat)) 63) = 14)) → (¬ ((jand (jX h 1 ((i3).toNat)) 63) = 15)) → ((jand (jX h 1 ((i3).toNat)) 63) = 16) → i3 + 2 < ((jS h 1).2 : Int))
    (r27 : (¬ (((((jS h 1).2 : Int)) - 5) < i3)) → (¬ ((jand (jX h 1 ((i3).toNat)) 63) = 0)) → (¬ ((jand (jX h 1 ((i3).toNat)) 63) = 1)) → (¬ ((jand (jX h 1 ((i3).toNat)) 63) = 2)) → (¬ ((jand (jX h 1 ((i3).toNat)) 63) = 3)) → (¬ ((jand (jX h 1 ((i3).toNat)) 63) = 4)) → (¬ ((jand (jX h 1 ((i3).toNat)) 63) = 5)) → (¬ ((jand (jX h 1 ((i3).toNat)) 63) = 6)) → (¬ ((jand (jX h 1 ((i3).toNat)) 63) = 7)) → (¬ ((jand (jX h 1 ((i3).toNat)) 63) = 8)) → (¬ ((jand (jX h 1 ((i3).toNat)) 63) = 9)) → (¬ ((jand (jX h 1 ((i3).toNat)) 63) = 10)) → (¬ ((jand (jX h 1 ((i3).toNat)) 63) = 11)) → (¬ ((jand (jX h 1 ((i3).toNat)) 63) = 12)) → (¬ ((jand (jX h 1 ((i3).toNat)) 63) = 13)) → (¬ ((jand (jX h 1 ((i3).toNat)) 63) = 14)) → (¬ ((jand (jX h 1 ((i3).toNat)) 63) = 15)) → ((jand (jX h 1 ((i3).toNat)) 63) = 16) → jR (i3 + 3))
    (s54 : (¬ (((((jS h 1).2 : Int)) - 5) < i3)) → (¬ ((jand (jX h 1 ((i3).toNat)) 63) = 0)) → (¬ ((jand (jX h 1 ((i3).toNat)) 63) = 1)) → (¬ ((jand (jX h 1 ((i3).toNat)) 63) = 2)) → (¬ ((jand (jX h 1 ((i3).toNat)) 63) = 3)) → (¬ ((jand (jX h 1 ((i3).toNat)) 63) = 4)) → (¬ ((jand (jX h 1 ((i3).toNat)) 63) = 5)) → (¬ ((jand (jX h 1 ((i3).toNat)) 63) = 6)) → (¬ ((jand (jX h 1 ((i3).toNat)) 63) = 7)) → (¬ ((jand (jX h 1 ((i3).toNat)) 63) = 8)) → (¬ ((jand (jX h 1 ((i3).toNat)) 63) = 9)) → (¬ ((jand (jX h 1 ((i3).toNat)) 63) = 10)) → (¬ ((jand (jX h 1 ((i3).toNat)) 63) = 11)) → (¬ ((jand (jX h 1 ((i3).toNat)) 63) = 12)) → (¬ ((jand (jX h 1 ((i3).toNat)) 63) = 13)) → (¬ ((jand (jX h 1 ((i3).toNat)) 63) = 14)) → (¬ ((jand (jX h 1 ((i3).toNat)) 63) = 15)) → ((jand (jX h 1 ((i3).toNat)) 63) = 16) → 0 ≤ i3 + 3)
    (s55 : (¬ (((((jS h 1).2 : Int)) - 5) < i3)) → (¬ ((jand (jX h 1 ((i3).toNat)) 63) = 0)) → (¬ ((jand (jX h 1 ((i3).toNat)) 63) = 1)) → (¬ ((jand (jX h 1 ((i3).toNat)) 63) = 2)) → (¬ ((jand (jX h 1 ((i3).toNat)) 63) = 3)) → (¬ ((jand (jX h 1 ((i3).toNat)) 63) = 4)) → (¬ ((jand (jX h 1 ((i3).toNat)) 63) = 5)) → (¬ ((jand (jX h 1 ((i3).toNat)) 63) = 6)) → (¬ ((jand (jX h 1 ((i3).toNat)) 63) = 7)) → (¬ ((jand (jX h 1 ((i3).toNat)) 63) = 8)) → (¬ ((jand (jX h 1 ((i3).toNat)) 63) = 9)) → (¬ ((jand (jX h 1 ((i3).toNat)) 63) = 10)) → (¬ ((jand (jX h 1 ((i3).toNat)) 63) = 11)) → (¬ ((jand (jX h 1 ((i3).toNat)) 63) = 12)) → (¬ ((jand (jX h 1 ((i3).toNat)) 63) = 13)) → (¬ ((jand (jX h 1 ((i3).toNat)) 63) = 14)) → (¬ ((jand (jX h 1 ((i3).toNat)) 63) = 15)) → ((jand (jX h 1 ((i3).toNat)) 63) = 16) → i3 + 3 < ((jS h 1).2 : Int))
    (e17 : (¬ (((((jS h 1).2 : Int)) - 5) < i3)) → (¬ ((jand (jX h 1 ((i3).toNat)) 63) = 0)) → (¬ ((jand (jX h 1 ((i3).toNat)) 63) = 1)) → (¬ ((jand (jX h 1 ((i3).toNat)) 63) = 2)) → (¬ ((jand (jX h 1 ((i3).toNat)) 63) = 3)) → (¬ ((jand (jX h 1 ((i3).toNat)) 63) = 4)) → (¬ ((jand (jX h 1 ((i3).toNat)) 63) = 5)) → (¬ ((jand (jX h 1 ((i3).toNat)) 63) = 6)) → (¬ ((jand (jX h 1 ((i3).toNat)) 63) = 7)) → (¬ ((jand (jX h 1 ((i3).toNat)) 63) = 8)) → (¬ ((jand (jX h 1 ((i3).toNat)) 63) = 9)) → (¬ ((jand (jX h 1 ((i3).toNat)) 63) = 10)) → (¬ ((jand (jX h 1 ((i3).toNat)) 63) = 11)) → (¬ ((jand (jX h 1 ((i3).toNat)) 63) = 12)) → (¬ ((jand (jX h 1 ((i3).toNat)) 63) = 13)) → (¬ ((jand (jX h 1 ((i3).toNat)) 63) = 14)) → (¬ ((jand (jX h 1 ((i3).toNat)) 63) = 15)) → ((jand (jX h 1 ((i3).toNat)) 63) = 16) → Ex MX8_previous (d + 4) [.inr a1, .inl (jX h 1 ((i3 + 1).toNat)), .inl (jX h 1 ((i3 + 2).toNat)), .inl (jX h 1 ((i3 + 3).toNat))] h 0 0 (fun v h2 => V ML_law (d + 13) 641 [some (.inr 1), some (.inr a1), some (.inr a2), some (.inl i3)] (v.toList ++ []) h2 0 0 Q))
    (r28 : (¬ (((((jS h 1).2 : Int)) - 5) < i3)) → (¬ ((jand (jX h 1 ((i3).toNat)) 63) = 0)) → (¬ ((jand (jX h 1 ((i3).toNat)) 63) = 1)) → (¬ ((jand (jX h 1 ((i3).toNat)) 63) = 2)) → (¬ ((jand (jX h 1 ((i3).toNat)) 63) = 3)) → (¬ ((jand (jX h 1 ((i3).toNat)) 63) = 4)) → (¬ ((jand (jX h 1 ((i3).toNat)) 63) = 5)) → (¬ ((jand (jX h 1 ((i3).toNat)) 63) = 6)) → (¬ ((jand (jX h 1 ((i3).toNat)) 63) = 7)) → (¬ ((jand (jX h 1 ((i3).toNat)) 63) = 8)) → (¬ ((jand (jX h 1 ((i3).toNat)) 63) = 9)) → (¬ ((jand (jX h 1 ((i3).toNat)) 63) = 10)) → (¬ ((jand (jX h 1 ((i3).toNat)) 63) = 11)) → (¬ ((jand (jX h 1 ((i3).toNat)) 63) = 12)) → (¬ ((jand (jX h 1 ((i3).toNat)) 63) = 13)) → (¬ ((jand (jX h 1 ((i3).toNat)) 63) = 14)) → (¬ ((jand (jX h 1 ((i3).toNat)) 63) = 15)) → (¬ ((jand (jX h 1 ((i3).toNat)) 63) = 16)) → ((jand (jX h 1 ((i3).toNat)) 63) = 17) → jR (i3 + 1))
    (s56 : (¬ (((((jS h 1).2 : Int)) - 5) < i3)) → (¬ ((jand (jX h 1 ((i3).toNat)) 63) = 0)) → (¬ ((jand (jX h 1 ((i3).toNat)) 63) = 1)) → (¬ ((jand (jX h 1 ((i3).toNat)) 63) = 2)) → (¬ ((jand (jX h 1 ((i3).toNat)) 63) = 3)) → (¬ ((jand (jX h 1 ((i3).toNat)) 63) = 4)) → (¬ ((jand (jX h 1 ((i3).toNat)) 63) = 5)) → (¬ ((jand (jX h 1 ((i3).toNat)) 63) = 6)) → (¬ ((jand (jX h 1 ((i3).toNat)) 63) = 7)) → (¬ ((jand (jX h 1 ((i3).toNat)) 63) = 8)) → (¬ ((jand (jX h 1 ((i3).toNat)) 63) = 9)) → (¬ ((jand (jX h 1 ((i3).toNat)) 63) = 10)) → (¬ ((jand (jX h 1 ((i3).toNat)) 63) = 11)) → (¬ ((jand (jX h 1 ((i3).toNat)) 63) = 12)) → (¬ ((jand (jX h 1 ((i3).toNat)) 63) = 13)) → (¬ ((jand (jX h 1 ((i3).toNat)) 63) = 14)) → (¬ ((jand (jX h 1 ((i3).toNat)) 63) = 15)) → (¬ ((jand (jX h 1 ((i3).toNat)) 63) = 16)) → ((jand (jX h 1 ((i3).toNat)) 63) = 17) → 0 ≤ i3 + 1)
    (s57 : (¬ (((((jS h 1).2 : Int)) - 5) < i3)) → (¬ ((jand (jX h 1 ((i3).toNat)) 63) = 0)) → (¬ ((jand (jX h 1 ((i3).toNat)) 63) = 1)) → (¬ ((jand (jX h 1 ((i3).toNat)) 63) = 2)) → (¬ ((jand (jX h 1 ((i3).toNat)) 63) = 3)) → (¬ ((jand (jX h 1 ((i3).toNat)) 63) = 4)) → (¬ ((jand (jX h 1 ((i3).toNat)) 63) = 5)) → (¬ ((jand (jX h 1 ((i3).toNat)) 63) = 6)) → (¬ ((jand (jX h 1 ((i3).toNat)) 63) = 7)) → (¬ ((jand (jX h 1 ((i3).toNat)) 63) = 8)) → (¬ ((jand (jX h 1 ((i3).toNat)) 63) = 9)) → (¬ ((jand (jX h 1 ((i3).toNat)) 63) = 10)) → (¬ ((jand (jX h 1 ((i3).toNat)) 63) = 11)) → (¬ ((jand (jX h 1 ((i3).toNat)) 63) = 12)) → (¬ ((jand (jX h 1 ((i3).toNat)) 63) = 13)) → (¬ ((jand (jX h 1 ((i3).toNat)) 63) = 14)) → (¬ ((jand (jX h 1 ((i3).toNat)) 63) = 15)) → (¬ ((jand (jX h 1 ((i3).toNat)) 63) = 16)) → ((jand (jX h 1 ((i3).toNat)) 63) = 17) → i3 + 1 < ((jS h 1).2 : Int))
    (r29 : (¬ (((((jS h 1).2 : Int)) - 5) < i3)) → (¬ ((jand (jX h 1 ((i3).toNat)) 63) = 0)) → (¬ ((jand (jX h 1 ((i3).toNat)) 63) = 1)) → (¬ ((jand (jX h 1 ((i3).toNat)) 63) = 2)) → (¬ ((jand (jX h 1 ((i3).toNat)) 63) = 3)) → (¬ ((jand (jX h 1 ((i3).toNat)) 63) = 4)) → (¬ ((jand (jX h 1 ((i3).toNat)) 63) = 5)) → (¬ ((jand (jX h 1 ((i3).toNat)) 63) = 6)) → (¬ ((jand (jX h 1 ((i3).toNat)) 63) = 7)) → (¬ ((jand (jX h 1 ((i3).toNat)) 63) = 8)) → (¬ ((jand (jX h 1 ((i3).toNat)) 63) = 9)) → (¬ ((jand (jX h 1 ((i3).toNat)) 63) = 10)) → (¬ ((jand (jX h 1 ((i3).toNat)) 63) = 11)) → (¬ ((jand (jX h 1 ((i3).toNat)) 63) = 12)) → (¬ ((jand (jX h 1 ((i3).toNat)) 63) = 13)) → (¬ ((jand (jX h 1 ((i3).toNat)) 63) = 14)) → (¬ ((jand (jX h 1 ((i3).toNat)) 63) = 15)) → (¬ ((jand (jX h 1 ((i3).toNat)) 63) = 16)) → ((jand (jX h 1 ((i3).toNat)) 63) = 17) → jR (i3 + 2))
    (s58 : (¬ (((((jS h 1).2 : Int)) - 5) < i3)) → (¬ ((jand (jX h 1 ((i3).toNat)) 63) = 0)) → (¬ ((jand (jX h 1 ((i3).toNat)) 63) = 1)) → (¬ ((jand (jX h 1 ((i3).toNat)) 63) = 2)) → (¬ ((jand (jX h 1 ((i3).toNat)) 63) = 3)) → (¬ ((jand (jX h 1 ((i3).toNat)) 63) = 4)) → (¬ ((jand (jX h 1 ((i3).toNat)) 63) = 5)) → (¬ ((jand (jX h 1 ((i3).toNat)) 63) = 6)) → (¬ ((jand (jX h 1 ((i3).toNat)) 63) = 7)) → (¬ ((jand (jX h 1 ((i3).toNat)) 63) = 8)) → (¬ ((jand (jX h 1 ((i3).toNat)) 63) = 9)) → (¬ ((jand (jX h 1 ((i3).toNat)) 63) = 10)) → (¬ ((jand (jX h 1 ((i3).toNat)) 63) = 11)) → (¬ ((jand (jX h 1 ((i3).toNat)) 63) = 12)) → (¬ ((jand (jX h 1 ((i3).toNat)) 63) = 13)) → (¬ ((jand (jX h 1 ((i3).toNat)) 63) = 14)) → (¬ ((jand (jX h 1 ((i3).toNat)) 63) = 15)) → (¬ ((jand (jX h 1 ((i3).toNat)) 63) = 16)) → ((jand (jX h 1 ((i3).toNat)) 63) = 17) → 0 ≤ i3 + 2)
    (s59 : (¬ (((((jS h 1).2 : Int)) - 5) < i3)) → (¬ ((jand (jX h 1 ((i3).toNat)) 63) = 0)) → (¬ ((jand (jX h 1 ((i3).toNat)) 63) = 1)) → (¬ ((jand (jX h 1 ((i3).toNat)) 63) = 2)) → (¬ ((jand (jX h 1 ((i3).toNat)) 63) = 3)) → (¬ ((jand (jX h 1 ((i3).toNat)) 63) = 4)) → (¬ ((jand (jX h 1 ((i3).toNat)) 63) = 5)) → (¬ ((jand (jX h 1 ((i3).toNat)) 63) = 6)) → (¬ ((jand (jX h 1 ((i3).toNat)) 63) = 7)) → (¬ ((jand (jX h 1 ((i3).toNat)) 63) = 8)) → (¬ ((jand (jX h 1 ((i3).toNat)) 63) = 9)) → (¬ ((jand (jX h 1 ((i3).toNat)) 63) = 10)) → (¬ ((jand (jX h 1 ((i3).toNat)) 63) = 11)) → (¬ ((jand (jX h 1 ((i3).toNat)) 63) = 12)) → (¬ ((jand (jX h 1 ((i3).toNat)) 63) = 13)) → (¬ ((jand (jX h 1 ((i3).toNat)) 63) = 14)) → (¬ ((jand (jX h 1 ((i3).toNat)) 63) = 15)) → (¬ ((jand (jX h 1 ((i3).toNat)) 63) = 16)) → ((jand (jX h 1 ((i3).toNat)) 63) = 17) → i3 + 2 < ((jS h 1).2 : Int))
    (r30 : (¬ (((((jS h 1).2 : Int)) - 5) < i3)) → (¬ ((jand (jX h 1 ((i3).toNat)) 63) = 0)) → (¬ ((jand (jX h 1 ((i3).toNat)) 63) = 1)) → (¬ ((jand (jX h 1 ((i3).toNat)) 63) = 2)) → (¬ ((jand (jX h 1 ((i3).toNat)) 63) = 3)) → (¬ ((jand (jX h 1 ((i3).toNat)) 63) = 4)) → (¬ ((jand (jX h 1 ((i3).toNat)) 63) = 5)) → (¬ ((jand (jX h 1 ((i3).toNat)) 63) = 6)) → (¬ ((jand (jX h 1 ((i3).toNat)) 63) = 7)) → (¬ ((jand (jX h 1 ((i3).toNat)) 63) = 8)) → (¬ ((jand (jX h 1 ((i3).toNat)) 63) = 9)) → (¬ ((jand (jX h 1 ((i3).toNat)) 63) = 10)) → (¬ ((jand (jX h 1 ((i3).toNat)) 63) = 11)) → (¬ ((jand (jX h 1 ((i3).toNat)) 63) = 12)) → (¬ ((jand (jX h 1 ((i3).toNat)) 63) = 13)) → (¬ ((jand (jX h 1 ((i3).toNat)) 63) = 14)) → (¬ ((jand (jX h 1 ((i3).toNat)) 63) = 15)) → (¬ ((jand (jX h 1 ((i3).toNat)) 63) = 16)) → ((jand (jX h 1 ((i3).toNat)) 63) = 17) → jR (i3 + 3))
    (s60 : (¬ (((((jS h 1).2 : Int)) - 5) < i3)) → (¬ ((jand (jX h 1 ((i3).toNat)) 63) = 0)) → (¬ ((jand (jX h 1 ((i3).toNat)) 63) = 1)) → (¬ ((jand (jX h 1 ((i3).toNat)) 63) = 2)) → (¬ ((jand (jX h 1 ((i3).toNat)) 63) = 3)) → (¬ ((jand (jX h 1 ((i3).toNat)) 63) = 4)) → (¬ ((jand (jX h 1 ((i3).toNat)) 63) = 5)) → (¬ ((jand (jX h 1 ((i3).toNat)) 63) = 6)) → (¬ ((jand (jX h 1 ((i3).toNat)) 63) = 7)) → (¬ ((jand (jX h 1 ((i3).toNat)) 63) = 8)) → (¬ ((jand (jX h 1 ((i3).toNat)) 63) = 9)) → (¬ ((jand (jX h 1 ((i3).toNat)) 63) = 10)) → (¬ ((jand (jX h 1 ((i3).toNat)) 63) = 11)) → (¬ ((jand (jX h 1 ((i3).toNat)) 63) = 12)) → (¬ ((jand (jX h 1 ((i3).toNat)) 63) = 13)) → (¬ ((jand (jX h 1 ((i3).toNat)) 63) = 14)) → (¬ ((jand (jX h 1 ((i3).toNat)) 63) = 15)) → (¬ ((jand (jX h 1 ((i3).toNat)) 63) = 16)) → ((jand (jX h 1 ((i3).toNat)) 63) = 17) → 0 ≤ i3 + 3)
    (s61 : (¬ (((((jS h 1).2 : Int)) - 5) < i3)) → (¬ ((jand (jX h 1 ((i3).toNat)) 63) = 0)) → (¬ ((jand (jX h 1 ((i3).toNat)) 63) = 1)) → (¬ ((jand (jX h 1 ((i3).toNat)) 63) = 2)) → (¬ ((jand (jX h 1 ((i3).toNat)) 63) = 3)) → (¬ ((jand (jX h 1 ((i3).toNat)) 63) = 4)) → (¬ ((jand (jX h 1 ((i3).toNat)) 63) = 5)) → (¬ ((jand (jX h 1 ((i3).toNat)) 63) = 6)) → (¬ ((jand (jX h 1 ((i3).toNat)) 63) = 7)) → (¬ ((jand (jX h 1 ((i3).toNat)) 63) = 8)) → (¬ ((jand (jX h 1 ((i3).toNat)) 63) = 9)) → (¬ ((jand (jX h 1 ((i3).toNat)) 63) = 10)) → (¬ ((jand (jX h 1 ((i3).toNat)) 63) = 11)) → (¬ ((jand (jX h 1 ((i3).toNat)) 63) = 12)) → (¬ ((jand (jX h 1 ((i3).toNat)) 63) = 13)) → (¬ ((jand (jX h 1 ((i3).toNat)) 63) = 14)) → (¬ ((jand (jX h 1 ((i3).toNat)) 63) = 15)) → (¬ ((jand (jX h 1 ((i3).toNat)) 63) = 16)) → ((jand (jX h 1 ((i3).toNat)) 63) = 17) → i3 + 3 < ((jS h 1).2 : Int))
    (e18 : (¬ (((((jS h 1).2 : Int)) - 5) < i3)) → (¬ ((jand (jX h 1 ((i3).toNat)) 63) = 0)) → (¬ ((jand (jX h 1 ((i3).toNat)) 63) = 1)) → (¬ ((jand (jX h 1 ((i3).toNat)) 63) = 2)) → (¬ ((jand (jX h 1 ((i3).toNat)) 63) = 3)) → (¬ ((jand (jX h 1 ((i3).toNat)) 63) = 4)) → (¬ ((jand (jX h 1 ((i3).toNat)) 63) = 5)) → (¬ ((jand (jX h 1 ((i3).toNat)) 63) = 6)) → (¬ ((jand (jX h 1 ((i3).toNat)) 63) = 7)) → (¬ ((jand (jX h 1 ((i3).toNat)) 63) = 8)) → (¬ ((jand (jX h 1 ((i3).toNat)) 63) = 9)) → (¬ ((jand (jX h 1 ((i3).toNat)) 63) = 10)) → (¬ ((jand (jX h 1 ((i3).toNat)) 63) = 11)) → (¬ ((jand (jX h 1 ((i3).toNat)) 63) = 12)) → (¬ ((jand (jX h 1 ((i3).toNat)) 63) = 13)) → (¬ ((jand (jX h 1 ((i3).toNat)) 63) = 14)) → (¬ ((jand (jX h 1 ((i3).toNat)) 63) = 15)) → (¬ ((jand (jX h 1 ((i3).toNat)) 63) = 16)) → ((jand (jX h 1 ((i3).toNat)) 63) = 17) → Ex MX8_first (d + 4) [.inr a1, .inl (jX h 1 ((i3 + 1).toNat)), .inl (jX h 1 ((i3 + 2).toNat)), .inl (jX h 1 ((i3 + 3).toNat))] h 0 0 (fun v h2 => V ML_law (d + 13) 684 [some (.inr 1), some (.inr a1), some (.inr a2), some (.inl i3)] (v.toList ++ []) h2 0 0 Q))
    (r31 : (¬ (((((jS h 1).2 : Int)) - 5) < i3)) → (¬ ((jand (jX h 1 ((i3).toNat)) 63) = 0)) → (¬ ((jand (jX h 1 ((i3).toNat)) 63) = 1)) → (¬ ((jand (jX h 1 ((i3).toNat)) 63) = 2)) → (¬ ((jand (jX h 1 ((i3).toNat)) 63) = 3)) → (¬ ((jand (jX h 1 ((i3).toNat)) 63) = 4)) → (¬ ((jand (jX h 1 ((i3).toNat)) 63) = 5)) → (¬ ((jand (jX h 1 ((i3).toNat)) 63) = 6)) → (¬ ((jand (jX h 1 ((i3).toNat)) 63) = 7)) → (¬ ((jand (jX h 1 ((i3).toNat)) 63) = 8)) → (¬ ((jand (jX h 1 ((i3).toNat)) 63) = 9)) → (¬ ((jand (jX h 1 ((i3).toNat)) 63) = 10)) → (¬ ((jand (jX h 1 ((i3).toNat)) 63) = 11)) → (¬ ((jand (jX h 1 ((i3).toNat)) 63) = 12)) → (¬ ((jand (jX h 1 ((i3).toNat)) 63) = 13)) → (¬ ((jand (jX h 1 ((i3).toNat)) 63) = 14)) → (¬ ((jand (jX h 1 ((i3).toNat)) 63) = 15)) → (¬ ((jand (jX h 1 ((i3).toNat)) 63) = 16)) → (¬ ((jand (jX h 1 ((i3).toNat)) 63) = 17)) → ((jand (jX h 1 ((i3).toNat)) 63) = 18) → jR (i3 + 1))
    (s62 : (¬ (((((jS h 1).2 : Int)) - 5) < i3)) → (¬ ((jand (jX h 1 ((i3).toNat)) 63) = 0)) → (¬ ((jand (jX h 1 ((i3).toNat)) 63) = 1)) → (¬ ((jand (jX h 1 ((i3).toNat)) 63) = 2)) → (¬ ((jand (jX h 1 ((i3).toNat)) 63) = 3)) → (¬ ((jand (jX h 1 ((i3).toNat)) 63) = 4)) → (¬ ((jand (jX h 1 ((i3).toNat)) 63) = 5)) → (¬ ((jand (jX h 1 ((i3).toNat)) 63) = 6)) → (¬ ((jand (jX h 1 ((i3).toNat)) 63) = 7)) → (¬ ((jand (jX h 1 ((i3).toNat)) 63) = 8)) → (¬ ((jand (jX h 1 ((i3).toNat)) 63) = 9)) → (¬ ((jand (jX h 1 ((i3).toNat)) 63) = 10)) → (¬ ((jand (jX h 1 ((i3).toNat)) 63) = 11)) → (¬ ((jand (jX h 1 ((i3).toNat)) 63) = 12)) → (¬ ((jand (jX h 1 ((i3).toNat)) 63) = 13)) → (¬ ((jand (jX h 1 ((i3).toNat)) 63) = 14)) → (¬ ((jand (jX h 1 ((i3).toNat)) 63) = 15)) → (¬ ((jand (jX h 1 ((i3).toNat)) 63) = 16)) → (¬ ((jand (jX h 1 ((i3).toNat)) 63) = 17)) → ((jand (jX h 1 ((i3).toNat)) 63) = 18) → 0 ≤ i3 + 1)
    (s63 : (¬ (((((jS h 1).2 : Int)) - 5) < i3)) → (¬ ((jand (jX h 1 ((i3).toNat)) 63) = 0)) → (¬ ((jand (jX h 1 ((i3).toNat)) 63) = 1)) → (¬ ((jand (jX h 1 ((i3).toNat)) 63) = 2)) → (¬ ((jand (jX h 1 ((i3).toNat)) 63) = 3)) → (¬ ((jand (jX h 1 ((i3).toNat)) 63) = 4)) → (¬ ((jand (jX h 1 ((i3).toNat)) 63) = 5)) → (¬ ((jand (jX h 1 ((i3).toNat)) 63) = 6)) → (¬ ((jand (jX h 1 ((i3).toNat)) 63) = 7)) → (¬ ((jand (jX h 1 ((i3).toNat)) 63) = 8)) → (¬ ((jand (jX h 1 ((i3).toNat)) 63) = 9)) → (¬ ((jand (jX h 1 ((i3).toNat)) 63) = 10)) → (¬ ((jand (jX h 1 ((i3).toNat)) 63) = 11)) → (¬ ((jand (jX h 1 ((i3).toNat)) 63) = 12)) → (¬ ((jand (jX h 1 ((i3).toNat)) 63) = 13)) → (¬ ((jand (jX h 1 ((i3).toNat)) 63) = 14)) → (¬ ((jand (jX h 1 ((i3).toNat)) 63) = 15)) → (¬ ((jand (jX h 1 ((i3).toNat)) 63) = 16)) → (¬ ((jand (jX h 1 ((i3).toNat)) 63) = 17)) → ((jand (jX h 1 ((i3).toNat)) 63) = 18) → i3 + 1 < ((jS h 1).2 : Int))
    (r32 : (¬ (((((jS h 1).2 : Int)) - 5) < i3)) → (¬ ((jand (jX h 1 ((i3).toNat)) 63) = 0)) → (¬ ((jand (jX h 1 ((i3).toNat)) 63) = 1)) → (¬ ((jand (jX h 1 ((i3).toNat)) 63) = 2)) → (¬ ((jand (jX h 1 ((i3).toNat)) 63) = 3)) → (¬ ((jand (jX h 1 ((i3).toNat)) 63) = 4)) → (¬ ((jand (jX h 1 ((i3).toNat)) 63) = 5)) → (¬ ((jand (jX h 1 ((i3).toNat)) 63) = 6)) → (¬ ((jand (jX h 1 ((i3).toNat)) 63) = 7)) → (¬ ((jand (jX h 1 ((i3).toNat)) 63) = 8)) → (¬ ((jand (jX h 1 ((i3).toNat)) 63) = 9)) → (¬ ((jand (jX h 1 ((i3).toNat)) 63) = 10)) → (¬ ((jand (jX h 1 ((i3).toNat)) 63) = 11)) → (¬ ((jand (jX h 1 ((i3).toNat)) 63) = 12)) → (¬ ((jand (jX h 1 ((i3).toNat)) 63) = 13)) → (¬ ((jand (jX h 1 ((i3).toNat)) 63) = 14)) → (¬ ((jand (jX h 1 ((i3).toNat)) 63) = 15)) → (¬ ((jand (jX h 1 ((i3).toNat)) 63) = 16)) → (¬ ((jand (jX h 1 ((i3).toNat)) 63) = 17)) → ((jand (jX h 1 ((i3).toNat)) 63) = 18) → jR (i3 + 2))
    (s64 : (¬ (((((jS h 1).2 : Int)) - 5) < i3)) → (¬ ((jand (jX h 1 ((i3).toNat)) 63) = 0)) → (¬ ((jand (jX h 1 ((i3).toNat)) 63) = 1)) → (¬ ((jand (jX h 1 ((i3).toNat)) 63) = 2)) → (¬ ((jand (jX h 1 ((i3).toNat)) 63) = 3)) → (¬ ((jand (jX h 1 ((i3).toNat)) 63) = 4)) → (¬ ((jand (jX h 1 ((i3).toNat)) 63) = 5)) → (¬ ((jand (jX h 1 ((i3).toNat)) 63) = 6)) → (¬ ((jand (jX h 1 ((i3).toNat)) 63) = 7)) → (¬ ((jand (jX h 1 ((i3).toNat)) 63) = 8)) → (¬ ((jand (jX h 1 ((i3).toNat)) 63) = 9)) → (¬ ((jand (jX h 1 ((i3).toNat)) 63) = 10)) → (¬ ((jand (jX h 1 ((i3).toNat)) 63) = 11)) → (¬ ((jand (jX h 1 ((i3).toNat)) 63) = 12)) → (¬ ((jand (jX h 1 ((i3).toNat)) 63) = 13)) → (¬ ((jand (jX h 1 ((i3).toNat)) 63) = 14)) → (¬ ((jand (jX h 1 ((i3).toNat)) 63) = 15)) → (¬ ((jand (jX h 1 ((i3).toNat)) 63) = 16)) → (¬ ((jand (jX h 1 ((i3).toNat)) 63) = 17)) → ((jand (jX h 1 ((i3).toNat)) 63) = 18) → 0 ≤ i3 + 2)
    (s65 : (¬ (((((jS h 1).2 : Int)) - 5) < i3)) → (¬ ((jand (jX h 1 ((i3).toNat)) 63) = 0)) → (¬ ((jand (jX h 1 ((i3).toNat)) 63) = 1)) → (¬ ((jand (jX h 1 ((i3).toNat)) 63) = 2)) → (¬ ((jand (jX h 1 ((i3).toNat)) 63) = 3)) → (¬ ((jand (jX h 1 ((i3).toNat)) 63) = 4)) → (¬ ((jand (jX h 1 ((i3).toNat)) 63) = 5)) → (¬ ((jand (jX h 1 ((i3).toNat)) 63) = 6)) → (¬ ((jand (jX h 1 ((i3).toNat)) 63) = 7)) → (¬ ((jand (jX h 1 ((i3).toNat)) 63) = 8)) → (¬ ((jand (jX h 1 ((i3).toNat)) 63) = 9)) → (¬ ((jand (jX h 1 ((i3).toNat)) 63) = 10)) → (¬ ((jand (jX h 1 ((i3).toNat)) 63) = 11)) → (¬ ((jand (jX h 1 ((i3).toNat)) 63) = 12)) → (¬ ((jand (jX h 1 ((i3).toNat)) 63) = 13)) → (¬ ((jand (jX h 1 ((i3).toNat)) 63) = 14)) → (¬ ((jand (jX h 1 ((i3).toNat)) 63) = 15)) → (¬ ((jand (jX h 1 ((i3).toNat)) 63) = 16)) → (¬ ((jand (jX h 1 ((i3).toNat)) 63) = 17)) → ((jand (jX h 1 ((i3).toNat)) 63) = 18) → i3 + 2 < ((jS h 1).2 : Int))
    (r33 : (¬ (((((jS h 1).2 : Int)) - 5) < i3)) → (¬ ((jand (jX h 1 ((i3).toNat)) 63) = 0)) → (¬ ((jand (jX h 1 ((i3).toNat)) 63) = 1)) → (¬ ((jand (jX h 1 ((i3).toNat)) 63) = 2)) → (¬ ((jand (jX h 1 ((i3).toNat)) 63) = 3)) → (¬ ((jand (jX h 1 ((i3).toNat)) 63) = 4)) → (¬ ((jand (jX h 1 ((i3).toNat)) 63) = 5)) → (¬ ((jand (jX h 1 ((i3).toNat)) 63) = 6)) → (¬ ((jand (jX h 1 ((i3).toNat)) 63) = 7)) → (¬ ((jand (jX h 1 ((i3).toNat)) 63) = 8)) → (¬ ((jand (jX h 1 ((i3).toNat)) 63) = 9)) → (¬ ((jand (jX h 1 ((i3).toNat)) 63) = 10)) → (¬ ((jand (jX h 1 ((i3).toNat)) 63) = 11)) → (¬ ((jand (jX h 1 ((i3).toNat)) 63) = 12)) → (¬ ((jand (jX h 1 ((i3).toNat)) 63) = 13)) → (¬ ((jand (jX h 1 ((i3).toNat)) 63) = 14)) → (¬ ((jand (jX h 1 ((i3).toNat)) 63) = 15)) → (¬ ((jand (jX h 1 ((i3).toNat)) 63) = 16)) → (¬ ((jand (jX h 1 ((i3).toNat)) 63) = 17)) → ((jand (jX h 1 ((i3).toNat)) 63) = 18) → jR (i3 + 3))
    (s66 : (¬ (((((jS h 1).2 : Int)) - 5) < i3)) → (¬ ((jand (jX h 1 ((i3).toNat)) 63) = 0)) → (¬ ((jand (jX h 1 ((i3).toNat)) 63) = 1)) → (¬ ((jand (jX h 1 ((i3).toNat)) 63) = 2)) → (¬ ((jand (jX h 1 ((i3).toNat)) 63) = 3)) → (¬ ((jand (jX h 1 ((i3).toNat)) 63) = 4)) → (¬ ((jand (jX h 1 ((i3).toNat)) 63) = 5)) → (¬ ((jand (jX h 1 ((i3).toNat)) 63) = 6)) → (¬ ((jand (jX h 1 ((i3).toNat)) 63) = 7)) → (¬ ((jand (jX h 1 ((i3).toNat)) 63) = 8)) → (¬ ((jand (jX h 1 ((i3).toNat)) 63) = 9)) → (¬ ((jand (jX h 1 ((i3).toNat)) 63) = 10)) → (¬ ((jand (jX h 1 ((i3).toNat)) 63) = 11)) → (¬ ((jand (jX h 1 ((i3).toNat)) 63) = 12)) → (¬ ((jand (jX h 1 ((i3).toNat)) 63) = 13)) → (¬ ((jand (jX h 1 ((i3).toNat)) 63) = 14)) → (¬ ((jand (jX h 1 ((i3).toNat)) 63) = 15)) → (¬ ((jand (jX h 1 ((i3).toNat)) 63) = 16)) → (¬ ((jand (jX h 1 ((i3).toNat)) 63) = 17)) → ((jand (jX h 1 ((i3).toNat)) 63) = 18) → 0 ≤ i3 + 3)
    (s67 : (¬ (((((jS h 1).2 : Int)) - 5) < i3)) → (¬ ((jand (jX h 1 ((i3).toNat)) 63) = 0)) → (¬ ((jand (jX h 1 ((i3).toNat)) 63) = 1)) → (¬ ((jand (jX h 1 ((i3).toNat)) 63) = 2)) → (¬ ((jand (jX h 1 ((i3).toNat)) 63) = 3)) → (¬ ((jand (jX h 1 ((i3).toNat)) 63) = 4)) → (¬ ((jand (jX h 1 ((i3).toNat)) 63) = 5)) → (¬ ((jand (jX h 1 ((i3).toNat)) 63) = 6)) → (¬ ((jand (jX h 1 ((i3).toNat)) 63) = 7)) → (¬ ((jand (jX h 1 ((i3).toNat)) 63) = 8)) → (¬ ((jand (jX h 1 ((i3).toNat)) 63) = 9)) → (¬ ((jand (jX h 1 ((i3).toNat)) 63) = 10)) → (¬ ((jand (jX h 1 ((i3).toNat)) 63) = 11)) → (¬ ((jand (jX h 1 ((i3).toNat)) 63) = 12)) → (¬ ((jand (jX h 1 ((i3).toNat)) 63) = 13)) → (¬ ((jand (jX h 1 ((i3).toNat)) 63) = 14)) → (¬ ((jand (jX h 1 ((i3).toNat)) 63) = 15)) → (¬ ((jand (jX h 1 ((i3).toNat)) 63) = 16)) → (¬ ((jand (jX h 1 ((i3).toNat)) 63) = 17)) → ((jand (jX h 1 ((i3).toNat)) 63) = 18) → i3 + 3 < ((jS h 1).2 : Int))
    (e19 : (¬ (((((jS h 1).2 : Int)) - 5) < i3)) → (¬ ((jand (jX h 1 ((i3).toNat)) 63) = 0)) → (¬ ((jand (jX h 1 ((i3).toNat)) 63) = 1)) → (¬ ((jand (jX h 1 ((i3).toNat)) 63) = 2)) → (¬ ((jand (jX h 1 ((i3).toNat)) 63) = 3)) → (¬ ((jand (jX h 1 ((i3).toNat)) 63) = 4)) → (¬ ((jand (jX h 1 ((i3).toNat)) 63) = 5)) → (¬ ((jand (jX h 1 ((i3).toNat)) 63) = 6)) → (¬ ((jand (jX h 1 ((i3).toNat)) 63) = 7)) → (¬ ((jand (jX h 1 ((i3).toNat)) 63) = 8)) → (¬ ((jand (jX h 1 ((i3).toNat)) 63) = 9)) → (¬ ((jand (jX h 1 ((i3).toNat)) 63) = 10)) → (¬ ((jand (jX h 1 ((i3).toNat)) 63) = 11)) → (¬ ((jand (jX h 1 ((i3).toNat)) 63) = 12)) → (¬ ((jand (jX h 1 ((i3).toNat)) 63) = 13)) → (¬ ((jand (jX h 1 ((i3).toNat)) 63) = 14)) → (¬ ((jand (jX h 1 ((i3).toNat)) 63) = 15)) → (¬ ((jand (jX h 1 ((i3).toNat)) 63) = 16)) → (¬ ((jand (jX h 1 ((i3).toNat)) 63) = 17)) → ((jand (jX h 1 ((i3).toNat)) 63) = 18) → Ex MX8_holds (d + 4) [.inr a1, .inl (jX h 1 ((i3 + 1).toNat)), .inl (jX h 1 ((i3 + 2).toNat)), .inl (jX h 1 ((i3 + 3).toNat))] h 0 0 (fun v h2 => V ML_law (d + 13) 727 [some (.inr 1), some (.inr a1), some (.inr a2), some (.inl i3)] (v.toList ++ []) h2 0 0 Q))
    (r34 : (¬ (((((jS h 1).2 : Int)) - 5) < i3)) → (¬ ((jand (jX h 1 ((i3).toNat)) 63) = 0)) → (¬ ((jand (jX h 1 ((i3).toNat)) 63) = 1)) → (¬ ((jand (jX h 1 ((i3).toNat)) 63) = 2)) → (¬ ((jand (jX h 1 ((i3).toNat)) 63) = 3)) → (¬ ((jand (jX h 1 ((i3).toNat)) 63) = 4)) → (¬ ((jand (jX h 1 ((i3).toNat)) 63) = 5)) → (¬ ((jand (jX h 1 ((i3).toNat)) 63) = 6)) → (¬ ((jand (jX h 1 ((i3).toNat)) 63) = 7)) → (¬ ((jand (jX h 1 ((i3).toNat)) 63) = 8)) → (¬ ((jand (jX h 1 ((i3).toNat)) 63) = 9)) → (¬ ((jand (jX h 1 ((i3).toNat)) 63) = 10)) → (¬ ((jand (jX h 1 ((i3).toNat)) 63) = 11)) → (¬ ((jand (jX h 1 ((i3).toNat)) 63) = 12)) → (¬ ((jand (jX h 1 ((i3).toNat)) 63) = 13)) → (¬ ((jand (jX h 1 ((i3).toNat)) 63) = 14)) → (¬ ((jand (jX h 1 ((i3).toNat)) 63) = 15)) → (¬ ((jand (jX h 1 ((i3).toNat)) 63) = 16)) → (¬ ((jand (jX h 1 ((i3).toNat)) 63) = 17)) → (¬ ((jand (jX h 1 ((i3).toNat)) 63) = 18)) → ((jand (jX h 1 ((i3).toNat)) 63) = 19) → jR (i3 + 1))
    (s68 : (¬ (((((jS h 1).2 : Int)) - 5) < i3)) → (¬ ((jand (jX h 1 ((i3).toNat)) 63) = 0)) → (¬ ((jand (jX h 1 ((i3).toNat)) 63) = 1)) → (¬ ((jand (jX h 1 ((i3).toNat)) 63) = 2)) → (¬ ((jand (jX h 1 ((i3).toNat)) 63) = 3)) → (¬ ((jand (jX h 1 ((i3).toNat)) 63) = 4)) → (¬ ((jand (jX h 1 ((i3).toNat)) 63) = 5)) → (¬ ((jand (jX h 1 ((i3).toNat)) 63) = 6)) → (¬ ((jand (jX h 1 ((i3).toNat)) 63) = 7)) → (¬ ((jand (jX h 1 ((i3).toNat)) 63) = 8)) → (¬ ((jand (jX h 1 ((i3).toNat)) 63) = 9)) → (¬ ((jand (jX h 1 ((i3).toNat)) 63) = 10)) → (¬ ((jand (jX h 1 ((i3).toNat)) 63) = 11)) → (¬ ((jand (jX h 1 ((i3).toNat)) 63) = 12)) → (¬ ((jand (jX h 1 ((i3).toNat)) 63) = 13)) → (¬ ((jand (jX h 1 ((i3).toNat)) 63) = 14)) → (¬ ((jand (jX h 1 ((i3).toNat)) 63) = 15)) → (¬ ((jand (jX h 1 ((i3).toNat)) 63) = 16)) → (¬ ((jand (jX h 1 ((i3).toNat)) 63) = 17)) → (¬ ((jand (jX h 1 ((i3).toNat)) 63) = 18)) → ((jand (jX h 1 ((i3).toNat)) 63) = 19) → 0 ≤ i3 + 1)
    (s69 : (¬ (((((jS h 1).2 : Int)) - 5) < i3)) → (¬ ((jand (jX h 1 ((i3).toNat)) 63) = 0)) → (¬ ((jand (jX h 1 ((i3).toNat)) 63) = 1)) → (¬ ((jand (jX h 1 ((i3).toNat)) 63) = 2)) → (¬ ((jand (jX h 1 ((i3).toNat)) 63) = 3)) → (¬ ((jand (jX h 1 ((i3).toNat)) 63) = 4)) → (¬ ((jand (jX h 1 ((i3).toNat)) 63) = 5)) → (¬ ((jand (jX h 1 ((i3).toNat)) 63) = 6)) → (¬ ((jand (jX h 1 ((i3).toNat)) 63) = 7)) → (¬ ((jand (jX h 1 ((i3).toNat)) 63) = 8)) → (¬ ((jand (jX h 1 ((i3).toNat)) 63) = 9)) → (¬ ((jand (jX h 1 ((i3).toNat)) 63) = 10)) → (¬ ((jand (jX h 1 ((i3).toNat)) 63) = 11)) → (¬ ((jand (jX h 1 ((i3).toNat)) 63) = 12)) → (¬ ((jand (jX h 1 ((i3).toNat)) 63) = 13)) → (¬ ((jand (jX h 1 ((i3).toNat)) 63) = 14)) → (¬ ((jand (jX h 1 ((i3).toNat)) 63) = 15)) → (¬ ((jand (jX h 1 ((i3).toNat)) 63) = 16)) → (¬ ((jand (jX h 1 ((i3).toNat)) 63) = 17)) → (¬ ((jand (jX h 1 ((i3).toNat)) 63) = 18)) → ((jand (jX h 1 ((i3).toNat)) 63) = 19) → i3 + 1 < ((jS h 1).2 : Int))
    (r35 : (¬ (((((jS h 1).2 : Int)) - 5) < i3)) → (¬ ((jand (jX h 1 ((i3).toNat)) 63) = 0)) → (¬ ((jand (jX h 1 ((i3).toNat)) 63) = 1)) → (¬ ((jand (jX h 1 ((i3).toNat)) 63) = 2)) → (¬ ((jand (jX h 1 ((i3).toNat)) 63) = 3)) → (¬ ((jand (jX h 1 ((i3).toNat)) 63) = 4)) → (¬ ((jand (jX h 1 ((i3).toNat)) 63) = 5)) → (¬ ((jand (jX h 1 ((i3).toNat)) 63) = 6)) → (¬ ((jand (jX h 1 ((i3).toNat)) 63) = 7)) → (¬ ((jand (jX h 1 ((i3).toNat)) 63) = 8)) → (¬ ((jand (jX h 1 ((i3).toNat)) 63) = 9)) → (¬ ((jand (jX h 1 ((i3).toNat)) 63) = 10)) → (¬ ((jand (jX h 1 ((i3).toNat)) 63) = 11)) → (¬ ((jand (jX h 1 ((i3).toNat)) 63) = 12)) → (¬ ((jand (jX h 1 ((i3).toNat)) 63) = 13)) → (¬ ((jand (jX h 1 ((i3).toNat)) 63) = 14)) → (¬ ((jand (jX h 1 ((i3).toNat)) 63) = 15)) → (¬ ((jand (jX h 1 ((i3).toNat)) 63) = 16)) → (¬ ((jand (jX h 1 ((i3).toNat)) 63) = 17)) → (¬ ((jand (jX h 1 ((i3).toNat)) 63) = 18)) → ((jand (jX h 1 ((i3).toNat)) 63) = 19) → jR (i3 + 2))
    (s70 : (¬ (((((jS h 1).2 : Int)) - 5) < i3)) → (¬ ((jand (jX h 1 ((i3).toNat)) 63) = 0)) → (¬ ((jand (jX h 1 ((i3).toNat)) 63) = 1)) → (¬ ((jand (jX h 1 ((i3).toNat)) 63) = 2)) → (¬ ((jand (jX h 1 ((i3).toNat)) 63) = 3)) → (¬ ((jand (jX h 1 ((i3).toNat)) 63) = 4)) → (¬ ((jand (jX h 1 ((i3).toNat)) 63) = 5)) → (¬ ((jand (jX h 1 ((i3).toNat)) 63) = 6)) → (¬ ((jand (jX h 1 ((i3).toNat)) 63) = 7)) → (¬ ((jand (jX h 1 ((i3).toNat)) 63) = 8)) → (¬ ((jand (jX h 1 ((i3).toNat)) 63) = 9)) → (¬ ((jand (jX h 1 ((i3).toNat)) 63) = 10)) → (¬ ((jand (jX h 1 ((i3).toNat)) 63) = 11)) → (¬ ((jand (jX h 1 ((i3).toNat)) 63) = 12)) → (¬ ((jand (jX h 1 ((i3).toNat)) 63) = 13)) → (¬ ((jand (jX h 1 ((i3).toNat)) 63) = 14)) → (¬ ((jand (jX h 1 ((i3).toNat)) 63) = 15)) → (¬ ((jand (jX h 1 ((i3).toNat)) 63) = 16)) → (¬ ((jand (jX h 1 ((i3).toNat)) 63) = 17)) → (¬ ((jand (jX h 1 ((i3).toNat)) 63) = 18)) → ((jand (jX h 1 ((i3).toNat)) 63) = 19) → 0 ≤ i3 + 2)
    (s71 : (¬ (((((jS h 1).2 : Int)) - 5) < i3)) → (¬ ((jand (jX h 1 ((i3).toNat)) 63) = 0)) → (¬ ((jand (jX h 1 ((i3).toNat)) 63) = 1)) → (¬ ((jand (jX h 1 ((i3).toNat)) 63) = 2)) → (¬ ((jand (jX h 1 ((i3).toNat)) 63) = 3)) → (¬ ((jand (jX h 1 ((i3).toNat)) 63) = 4)) → (¬ ((jand (jX h 1 ((i3).toNat)) 63) = 5)) → (¬ ((jand (jX h 1 ((i3).toNat)) 63) = 6)) → (¬ ((jand (jX h 1 ((i3).toNat)) 63) = 7)) → (¬ ((jand (jX h 1 ((i3).toNat)) 63) = 8)) → (¬ ((jand (jX h 1 ((i3).toNat)) 63) = 9)) → (¬ ((jand (jX h 1 ((i3).toNat)) 63) = 10)) → (¬ ((jand (jX h 1 ((i3).toNat)) 63) = 11)) → (¬ ((jand (jX h 1 ((i3).toNat)) 63) = 12)) → (¬ ((jand (jX h 1 ((i3).toNat)) 63) = 13)) → (¬ ((jand (jX h 1 ((i3).toNat)) 63) = 14)) → (¬ ((jand (jX h 1 ((i3).toNat)) 63) = 15)) → (¬ ((jand (jX h 1 ((i3).toNat)) 63) = 16)) → (¬ ((jand (jX h 1 ((i3).toNat)) 63) = 17)) → (¬ ((jand (jX h 1 ((i3).toNat)) 63) = 18)) → ((jand (jX h 1 ((i3).toNat)) 63) = 19) → i3 + 2 < ((jS h 1).2 : Int))
    (e20 : (¬ (((((jS h 1).2 : Int)) - 5) < i3)) → (¬ ((jand (jX h 1 ((i3).toNat)) 63) = 0)) → (¬ ((jand (jX h 1 ((i3).toNat)) 63) = 1)) → (¬ ((jand (jX h 1 ((i3).toNat)) 63) = 2)) → (¬ ((jand (jX h 1 ((i3).toNat)) 63) = 3)) → (¬ ((jand (jX h 1 ((i3).toNat)) 63) = 4)) → (¬ ((jand (jX h 1 ((i3).toNat)) 63) = 5)) → (¬ ((jand (jX h 1 ((i3).toNat)) 63) = 6)) → (¬ ((jand (jX h 1 ((i3).toNat)) 63) = 7)) → (¬ ((jand (jX h 1 ((i3).toNat)) 63) = 8)) → (¬ ((jand (jX h 1 ((i3).toNat)) 63) = 9)) → (¬ ((jand (jX h 1 ((i3).toNat)) 63) = 10)) → (¬ ((jand (jX h 1 ((i3).toNat)) 63) = 11)) → (¬ ((jand (jX h 1 ((i3).toNat)) 63) = 12)) → (¬ ((jand (jX h 1 ((i3).toNat)) 63) = 13)) → (¬ ((jand (jX h 1 ((i3).toNat)) 63) = 14)) → (¬ ((jand (jX h 1 ((i3).toNat)) 63) = 15)) → (¬ ((jand (jX h 1 ((i3).toNat)) 63) = 16)) → (¬ ((jand (jX h 1 ((i3).toNat)) 63) = 17)) → (¬ ((jand (jX h 1 ((i3).toNat)) 63) = 18)) → ((jand (jX h 1 ((i3).toNat)) 63) = 19) → Ex MX8_ticks (d + 4) [.inr a1, .inl (jX h 1 ((i3 + 1).toNat)), .inl (jX h 1 ((i3 + 2).toNat))] h 0 0 (fun v h2 => V ML_law (d + 13) 765 [some (.inr 1), some (.inr a1), some (.inr a2), some (.inl i3)] (v.toList ++ []) h2 0 0 Q))
    (r36 : (¬ (((((jS h 1).2 : Int)) - 5) < i3)) → (¬ ((jand (jX h 1 ((i3).toNat)) 63) = 0)) → (¬ ((jand (jX h 1 ((i3).toNat)) 63) = 1)) → (¬ ((jand (jX h 1 ((i3).toNat)) 63) = 2)) → (¬ ((jand (jX h 1 ((i3).toNat)) 63) = 3)) → (¬ ((jand (jX h 1 ((i3).toNat)) 63) = 4)) → (¬ ((jand (jX h 1 ((i3).toNat)) 63) = 5)) → (¬ ((jand (jX h 1 ((i3).toNat)) 63) = 6)) → (¬ ((jand (jX h 1 ((i3).toNat)) 63) = 7)) → (¬ ((jand (jX h 1 ((i3).toNat)) 63) = 8)) → (¬ ((jand (jX h 1 ((i3).toNat)) 63) = 9)) → (¬ ((jand (jX h 1 ((i3).toNat)) 63) = 10)) → (¬ ((jand (jX h 1 ((i3).toNat)) 63) = 11)) → (¬ ((jand (jX h 1 ((i3).toNat)) 63) = 12)) → (¬ ((jand (jX h 1 ((i3).toNat)) 63) = 13)) → (¬ ((jand (jX h 1 ((i3).toNat)) 63) = 14)) → (¬ ((jand (jX h 1 ((i3).toNat)) 63) = 15)) → (¬ ((jand (jX h 1 ((i3).toNat)) 63) = 16)) → (¬ ((jand (jX h 1 ((i3).toNat)) 63) = 17)) → (¬ ((jand (jX h 1 ((i3).toNat)) 63) = 18)) → (¬ ((jand (jX h 1 ((i3).toNat)) 63) = 19)) → ((jand (jX h 1 ((i3).toNat)) 63) = 20) → jR (i3 + 1))
    (s72 : (¬ (((((jS h 1).2 : Int)) - 5) < i3)) → (¬ ((jand (jX h 1 ((i3).toNat)) 63) = 0)) → (¬ ((jand (jX h 1 ((i3).toNat)) 63) = 1)) → (¬ ((jand (jX h 1 ((i3).toNat)) 63) = 2)) → (¬ ((jand (jX h 1 ((i3).toNat)) 63) = 3)) → (¬ ((jand (jX h 1 ((i3).toNat)) 63) = 4)) → (¬ ((jand (jX h 1 ((i3).toNat)) 63) = 5)) → (¬ ((jand (jX h 1 ((i3).toNat)) 63) = 6)) → (¬ ((jand (jX h 1 ((i3).toNat)) 63) = 7)) → (¬ ((jand (jX h 1 ((i3).toNat)) 63) = 8)) → (¬ ((jand (jX h 1 ((i3).toNat)) 63) = 9)) → (¬ ((jand (jX h 1 ((i3).toNat)) 63) = 10)) → (¬ ((jand (jX h 1 ((i3).toNat)) 63) = 11)) → (¬ ((jand (jX h 1 ((i3).toNat)) 63) = 12)) → (¬ ((jand (jX h 1 ((i3).toNat)) 63) = 13)) → (¬ ((jand (jX h 1 ((i3).toNat)) 63) = 14)) → (¬ ((jand (jX h 1 ((i3).toNat)) 63) = 15)) → (¬ ((jand (jX h 1 ((i3).toNat)) 63) = 16)) → (¬ ((jand (jX h 1 ((i3).toNat)) 63) = 17)) → (¬ ((jand (jX h 1 ((i3).toNat)) 63) = 18)) → (¬ ((jand (jX h 1 ((i3).toNat)) 63) = 19)) → ((jand (jX h 1 ((i3).toNat)) 63) = 20) → 0 ≤ i3 + 1)
    (s73 : (¬ (((((jS h 1).2 : Int)) - 5) < i3)) → (¬ ((jand (jX h 1 ((i3).toNat)) 63) = 0)) → (¬ ((jand (jX h 1 ((i3).toNat)) 63) = 1)) → (¬ ((jand (jX h 1 ((i3).toNat)) 63) = 2)) → (¬ ((jand (jX h 1 ((i3).toNat)) 63) = 3)) → (¬ ((jand (jX h 1 ((i3).toNat)) 63) = 4)) → (¬ ((jand (jX h 1 ((i3).toNat)) 63) = 5)) → (¬ ((jand (jX h 1 ((i3).toNat)) 63) = 6)) → (¬ ((jand (jX h 1 ((i3).toNat)) 63) = 7)) → (¬ ((jand (jX h 1 ((i3).toNat)) 63) = 8)) → (¬ ((jand (jX h 1 ((i3).toNat)) 63) = 9)) → (¬ ((jand (jX h 1 ((i3).toNat)) 63) = 10)) → (¬ ((jand (jX h 1 ((i3).toNat)) 63) = 11)) → (¬ ((jand (jX h 1 ((i3).toNat)) 63) = 12)) → (¬ ((jand (jX h 1 ((i3).toNat)) 63) = 13)) → (¬ ((jand (jX h 1 ((i3).toNat)) 63) = 14)) → (¬ ((jand (jX h 1 ((i3).toNat)) 63) = 15)) → (¬ ((jand (jX h 1 ((i3).toNat)) 63) = 16)) → (¬ ((jand (jX h 1 ((i3).toNat)) 63) = 17)) → (¬ ((jand (jX h 1 ((i3).toNat)) 63) = 18)) → (¬ ((jand (jX h 1 ((i3).toNat)) 63) = 19)) → ((jand (jX h 1 ((i3).toNat)) 63) = 20) → i3 + 1 < ((jS h 1).2 : Int))
    (r37 : (¬ (((((jS h 1).2 : Int)) - 5) < i3)) → (¬ ((jand (jX h 1 ((i3).toNat)) 63) = 0)) → (¬ ((jand (jX h 1 ((i3).toNat)) 63) = 1)) → (¬ ((jand (jX h 1 ((i3).toNat)) 63) = 2)) → (¬ ((jand (jX h 1 ((i3).toNat)) 63) = 3)) → (¬ ((jand (jX h 1 ((i3).toNat)) 63) = 4)) → (¬ ((jand (jX h 1 ((i3).toNat)) 63) = 5)) → (¬ ((jand (jX h 1 ((i3).toNat)) 63) = 6)) → (¬ ((jand (jX h 1 ((i3).toNat)) 63) = 7)) → (¬ ((jand (jX h 1 ((i3).toNat)) 63) = 8)) → (¬ ((jand (jX h 1 ((i3).toNat)) 63) = 9)) → (¬ ((jand (jX h 1 ((i3).toNat)) 63) = 10)) → (¬ ((jand (jX h 1 ((i3).toNat)) 63) = 11)) → (¬ ((jand (jX h 1 ((i3).toNat)) 63) = 12)) → (¬ ((jand (jX h 1 ((i3).toNat)) 63) = 13)) → (¬ ((jand (jX h 1 ((i3).toNat)) 63) = 14)) → (¬ ((jand (jX h 1 ((i3).toNat)) 63) = 15)) → (¬ ((jand (jX h 1 ((i3).toNat)) 63) = 16)) → (¬ ((jand (jX h 1 ((i3).toNat)) 63) = 17)) → (¬ ((jand (jX h 1 ((i3).toNat)) 63) = 18)) → (¬ ((jand (jX h 1 ((i3).toNat)) 63) = 19)) → ((jand (jX h 1 ((i3).toNat)) 63) = 20) → jR (i3 + 2))
    (s74 : (¬ (((((jS h 1).2 : Int)) - 5) < i3)) → (¬ ((jand (jX h 1 ((i3).toNat)) 63) = 0)) → (¬ ((jand (jX h 1 ((i3).toNat)) 63) = 1)) → (¬ ((jand (jX h 1 ((i3).toNat)) 63) = 2)) → (¬ ((jand (jX h 1 ((i3).toNat)) 63) = 3)) → (¬ ((jand (jX h 1 ((i3).toNat)) 63) = 4)) → (¬ ((jand (jX h 1 ((i3).toNat)) 63) = 5)) → (¬ ((jand (jX h 1 ((i3).toNat)) 63) = 6)) → (¬ ((jand (jX h 1 ((i3).toNat)) 63) = 7)) → (¬ ((jand (jX h 1 ((i3).toNat)) 63) = 8)) → (¬ ((jand (jX h 1 ((i3).toNat)) 63) = 9)) → (¬ ((jand (jX h 1 ((i3).toNat)) 63) = 10)) → (¬ ((jand (jX h 1 ((i3).toNat)) 63) = 11)) → (¬ ((jand (jX h 1 ((i3).toNat)) 63) = 12)) → (¬ ((jand (jX h 1 ((i3).toNat)) 63) = 13)) → (¬ ((jand (jX h 1 ((i3).toNat)) 63) = 14)) → (¬ ((jand (jX h 1 ((i3).toNat)) 63) = 15)) → (¬ ((jand (jX h 1 ((i3).toNat)) 63) = 16)) → (¬ ((jand (jX h 1 ((i3).toNat)) 63) = 17)) → (¬ ((jand (jX h 1 ((i3).toNat)) 63) = 18)) → (¬ ((jand (jX h 1 ((i3).toNat)) 63) = 19)) → ((jand (jX h 1 ((i3).toNat)) 63) = 20) → 0 ≤ i3 + 2)
    (s75 : (¬ (((((jS h 1).2 : Int)) - 5) < i3)) → (¬ ((jand (jX h 1 ((i3).toNat)) 63) = 0)) → (¬ ((jand (jX h 1 ((i3).toNat)) 63) = 1)) → (¬ ((jand (jX h 1 ((i3).toNat)) 63) = 2)) → (¬ ((jand (jX h 1 ((i3).toNat)) 63) = 3)) → (¬ ((jand (jX h 1 ((i3).toNat)) 63) = 4)) → (¬ ((jand (jX h 1 ((i3).toNat)) 63) = 5)) → (¬ ((jand (jX h 1 ((i3).toNat)) 63) = 6)) → (¬ ((jand (jX h 1 ((i3).toNat)) 63) = 7)) → (¬ ((jand (jX h 1 ((i3).toNat)) 63) = 8)) → (¬ ((jand (jX h 1 ((i3).toNat)) 63) = 9)) → (¬ ((jand (jX h 1 ((i3).toNat)) 63) = 10)) → (¬ ((jand (jX h 1 ((i3).toNat)) 63) = 11)) → (¬ ((jand (jX h 1 ((i3).toNat)) 63) = 12)) → (¬ ((jand (jX h 1 ((i3).toNat)) 63) = 13)) → (¬ ((jand (jX h 1 ((i3).toNat)) 63) = 14)) → (¬ ((jand (jX h 1 ((i3).toNat)) 63) = 15)) → (¬ ((jand (jX h 1 ((i3).toNat)) 63) = 16)) → (¬ ((jand (jX h 1 ((i3).toNat)) 63) = 17)) → (¬ ((jand (jX h 1 ((i3).toNat)) 63) = 18)) → (¬ ((jand (jX h 1 ((i3).toNat)) 63) = 19)) → ((jand (jX h 1 ((i3).toNat)) 63) = 20) → i3 + 2 < ((jS h 1).2 : Int))
    (e21 : (¬ (((((jS h 1).2 : Int)) - 5) < i3)) → (¬ ((jand (jX h 1 ((i3).toNat)) 63) = 0)) → (¬ ((jand (jX h 1 ((i3).toNat)) 63) = 1)) → (¬ ((jand (jX h 1 ((i3).toNat)) 63) = 2)) → (¬ ((jand (jX h 1 ((i3).toNat)) 63) = 3)) → (¬ ((jand (jX h 1 ((i3).toNat)) 63) = 4)) → (¬ ((jand (jX h 1 ((i3).toNat)) 63) = 5)) → (¬ ((jand (jX h 1 ((i3).toNat)) 63) = 6)) → (¬ ((jand (jX h 1 ((i3).toNat)) 63) = 7)) → (¬ ((jand (jX h 1 ((i3).toNat)) 63) = 8)) → (¬ ((jand (jX h 1 ((i3).toNat)) 63) = 9)) → (¬ ((jand (jX h 1 ((i3).toNat)) 63) = 10)) → (¬ ((jand (jX h 1 ((i3).toNat)) 63) = 11)) → (¬ ((jand (jX h 1 ((i3).toNat)) 63) = 12)) → (¬ ((jand (jX h 1 ((i3).toNat)) 63) = 13)) → (¬ ((jand (jX h 1 ((i3).toNat)) 63) = 14)) → (¬ ((jand (jX h 1 ((i3).toNat)) 63) = 15)) → (¬ ((jand (jX h 1 ((i3).toNat)) 63) = 16)) → (¬ ((jand (jX h 1 ((i3).toNat)) 63) = 17)) → (¬ ((jand (jX h 1 ((i3).toNat)) 63) = 18)) → (¬ ((jand (jX h 1 ((i3).toNat)) 63) = 19)) → ((jand (jX h 1 ((i3).toNat)) 63) = 20) → Ex MX8_delay (d + 4) [.inr a1, .inl (jX h 1 ((i3 + 1).toNat)), .inl (jX h 1 ((i3 + 2).toNat))] h 0 0 (fun v h2 => V ML_law (d + 13) 798 [some (.inr 1), some (.inr a1), some (.inr a2), some (.inl i3)] (v.toList ++ []) h2 0 0 Q))
    (r38 : (¬ (((((jS h 1).2 : Int)) - 5) < i3)) → (¬ ((jand (jX h 1 ((i3).toNat)) 63) = 0)) → (¬ ((jand (jX h 1 ((i3).toNat)) 63) = 1)) → (¬ ((jand (jX h 1 ((i3).toNat)) 63) = 2)) → (¬ ((jand (jX h 1 ((i3).toNat)) 63) = 3)) → (¬ ((jand (jX h 1 ((i3).toNat)) 63) = 4)) → (¬ ((jand (jX h 1 ((i3).toNat)) 63) = 5)) → (¬ ((jand (jX h 1 ((i3).toNat)) 63) = 6)) → (¬ ((jand (jX h 1 ((i3).toNat)) 63) = 7)) → (¬ ((jand (jX h 1 ((i3).toNat)) 63) = 8)) → (¬ ((jand (jX h 1 ((i3).toNat)) 63) = 9)) → (¬ ((jand (jX h 1 ((i3).toNat)) 63) = 10)) → (¬ ((jand (jX h 1 ((i3).toNat)) 63) = 11)) → (¬ ((jand (jX h 1 ((i3).toNat)) 63) = 12)) → (¬ ((jand (jX h 1 ((i3).toNat)) 63) = 13)) → (¬ ((jand (jX h 1 ((i3).toNat)) 63) = 14)) → (¬ ((jand (jX h 1 ((i3).toNat)) 63) = 15)) → (¬ ((jand (jX h 1 ((i3).toNat)) 63) = 16)) → (¬ ((jand (jX h 1 ((i3).toNat)) 63) = 17)) → (¬ ((jand (jX h 1 ((i3).toNat)) 63) = 18)) → (¬ ((jand (jX h 1 ((i3).toNat)) 63) = 19)) → (¬ ((jand (jX h 1 ((i3).toNat)) 63) = 20)) → ((jand (jX h 1 ((i3).toNat)) 63) = 21) → jR (i3 + 1))
    (s76 : (¬ (((((jS h 1).2 : Int)) - 5) < i3)) → (¬ ((jand (jX h 1 ((i3).toNat)) 63) = 0)) → (¬ ((jand (jX h 1 ((i3).toNat)) 63) = 1)) → (¬ ((jand (jX h 1 ((i3).toNat)) 63) = 2)) → (¬ ((jand (jX h 1 ((i3).toNat)) 63) = 3)) → (¬ ((jand (jX h 1 ((i3).toNat)) 63) = 4)) → (¬ ((jand (jX h 1 ((i3).toNat)) 63) = 5)) → (¬ ((jand (jX h 1 ((i3).toNat)) 63) = 6)) → (¬ ((jand (jX h 1 ((i3).toNat)) 63) = 7)) → (¬ ((jand (jX h 1 ((i3).toNat)) 63) = 8)) → (¬ ((jand (jX h 1 ((i3).toNat)) 63) = 9)) → (¬ ((jand (jX h 1 ((i3).toNat)) 63) = 10)) → (¬ ((jand (jX h 1 ((i3).toNat)) 63) = 11)) → (¬ ((jand (jX h 1 ((i3).toNat)) 63) = 12)) → (¬ ((jand (jX h 1 ((i3).toNat)) 63) = 13)) → (¬ ((jand (jX h 1 ((i3).toNat)) 63) = 14)) → (¬ ((jand (jX h 1 ((i3).toNat)) 63) = 15)) → (¬ ((jand (jX h 1 ((i3).toNat)) 63) = 16)) → (¬ ((jand (jX h 1 ((i3).toNat)) 63) = 17)) → (¬ ((jand (jX h 1 ((i3).toNat)) 63) = 18)) → (¬ ((jand (jX h 1 ((i3).toNat)) 63) = 19)) → (¬ ((jand (jX h 1 ((i3).toNat)) 63) = 20)) → ((jand (jX h 1 ((i3).toNat)) 63) = 21) → 0 ≤ i3 + 1)
    (s77 : (¬ (((((jS h 1).2 : Int)) - 5) < i3)) → (¬ ((jand (jX h 1 ((i3).toNat)) 63) = 0)) → (¬ ((jand (jX h 1 ((i3).toNat)) 63) = 1)) → (¬ ((jand (jX h 1 ((i3).toNat)) 63) = 2)) → (¬ ((jand (jX h 1 ((i3).toNat)) 63) = 3)) → (¬ ((jand (jX h 1 ((i3).toNat)) 63) = 4)) → (¬ ((jand (jX h 1 ((i3).toNat)) 63) = 5)) → (¬ ((jand (jX h 1 ((i3).toNat)) 63) = 6)) → (¬ ((jand (jX h 1 ((i3).toNat)) 63) = 7)) → (¬ ((jand (jX h 1 ((i3).toNat)) 63) = 8)) → (¬ ((jand (jX h 1 ((i3).toNat)) 63) = 9)) → (¬ ((jand (jX h 1 ((i3).toNat)) 63) = 10)) → (¬ ((jand (jX h 1 ((i3).toNat)) 63) = 11)) → (¬ ((jand (jX h 1 ((i3).toNat)) 63) = 12)) → (¬ ((jand (jX h 1 ((i3).toNat)) 63) = 13)) → (¬ ((jand (jX h 1 ((i3).toNat)) 63) = 14)) → (¬ ((jand (jX h 1 ((i3).toNat)) 63) = 15)) → (¬ ((jand (jX h 1 ((i3).toNat)) 63) = 16)) → (¬ ((jand (jX h 1 ((i3).toNat)) 63) = 17)) → (¬ ((jand (jX h 1 ((i3).toNat)) 63) = 18)) → (¬ ((jand (jX h 1 ((i3).toNat)) 63) = 19)) → (¬ ((jand (jX h 1 ((i3).toNat)) 63) = 20)) → ((jand (jX h 1 ((i3).toNat)) 63) = 21) → i3 + 1 < ((jS h 1).2 : Int))
    (e22 : (¬ (((((jS h 1).2 : Int)) - 5) < i3)) → (¬ ((jand (jX h 1 ((i3).toNat)) 63) = 0)) → (¬ ((jand (jX h 1 ((i3).toNat)) 63) = 1)) → (¬ ((jand (jX h 1 ((i3).toNat)) 63) = 2)) → (¬ ((jand (jX h 1 ((i3).toNat)) 63) = 3)) → (¬ ((jand (jX h 1 ((i3).toNat)) 63) = 4)) → (¬ ((jand (jX h 1 ((i3).toNat)) 63) = 5)) → (¬ ((jand (jX h 1 ((i3).toNat)) 63) = 6)) → (¬ ((jand (jX h 1 ((i3).toNat)) 63) = 7)) → (¬ ((jand (jX h 1 ((i3).toNat)) 63) = 8)) → (¬ ((jand (jX h 1 ((i3).toNat)) 63) = 9)) → (¬ ((jand (jX h 1 ((i3).toNat)) 63) = 10)) → (¬ ((jand (jX h 1 ((i3).toNat)) 63) = 11)) → (¬ ((jand (jX h 1 ((i3).toNat)) 63) = 12)) → (¬ ((jand (jX h 1 ((i3).toNat)) 63) = 13)) → (¬ ((jand (jX h 1 ((i3).toNat)) 63) = 14)) → (¬ ((jand (jX h 1 ((i3).toNat)) 63) = 15)) → (¬ ((jand (jX h 1 ((i3).toNat)) 63) = 16)) → (¬ ((jand (jX h 1 ((i3).toNat)) 63) = 17)) → (¬ ((jand (jX h 1 ((i3).toNat)) 63) = 18)) → (¬ ((jand (jX h 1 ((i3).toNat)) 63) = 19)) → (¬ ((jand (jX h 1 ((i3).toNat)) 63) = 20)) → ((jand (jX h 1 ((i3).toNat)) 63) = 21) → Ex MX8_jump (d + 1) [.inr a1, .inl (jX h 1 ((i3 + 1).toNat))] h 0 0 (fun v h2 => V ML_law (d + 13) 826 [some (.inr 1), some (.inr a1), some (.inr a2), some (.inl i3)] (v.toList ++ []) h2 0 0 Q))
    (r39 : (¬ (((((jS h 1).2 : Int)) - 5) < i3)) → (¬ ((jand (jX h 1 ((i3).toNat)) 63) = 0)) → (¬ ((jand (jX h 1 ((i3).toNat)) 63) = 1)) → (¬ ((jand (jX h 1 ((i3).toNat)) 63) = 2)) → (¬ ((jand (jX h 1 ((i3).toNat)) 63) = 3)) → (¬ ((jand (jX h 1 ((i3).toNat)) 63) = 4)) → (¬ ((jand (jX h 1 ((i3).toNat)) 63) = 5)) → (¬ ((jand (jX h 1 ((i3).toNat)) 63) = 6)) → (¬ ((jand (jX h 1 ((i3).toNat)) 63) = 7)) → (¬ ((jand (jX h 1 ((i3).toNat)) 63) = 8)) → (¬ ((jand (jX h 1 ((i3).toNat)) 63) = 9)) → (¬ ((jand (jX h 1 ((i3).toNat)) 63) = 10)) → (¬ ((jand (jX h 1 ((i3).toNat)) 63) = 11)) → (¬ ((jand (jX h 1 ((i3).toNat)) 63) = 12)) → (¬ ((jand (jX h 1 ((i3).toNat)) 63) = 13)) → (¬ ((jand (jX h 1 ((i3).toNat)) 63) = 14)) → (¬ ((jand (jX h 1 ((i3).toNat)) 63) = 15)) → (¬ ((jand (jX h 1 ((i3).toNat)) 63) = 16)) → (¬ ((jand (jX h 1 ((i3).toNat)) 63) = 17)) → (¬ ((jand (jX h 1 ((i3).toNat)) 63) = 18)) → (¬ ((jand (jX h 1 ((i3).toNat)) 63) = 19)) → (¬ ((jand (jX h 1 ((i3).toNat)) 63) = 20)) → (¬ ((jand (jX h 1 ((i3).toNat)) 63) = 21)) → ((jand (jX h 1 ((i3).toNat)) 63) = 22) → jR (i3 + 1))
    (s78 : (¬ (((((jS h 1).2 : Int)) - 5) < i3)) → (¬ ((jand (jX h 1 ((i3).toNat)) 63) = 0)) → (¬ ((jand (jX h 1 ((i3).toNat)) 63) = 1)) → (¬ ((jand (jX h 1 ((i3).toNat)) 63) = 2)) → (¬ ((jand (jX h 1 ((i3).toNat)) 63) = 3)) → (¬ ((jand (jX h 1 ((i3).toNat)) 63) = 4)) → (¬ ((jand (jX h 1 ((i3).toNat)) 63) = 5)) → (¬ ((jand (jX h 1 ((i3).toNat)) 63) = 6)) → (¬ ((jand (jX h 1 ((i3).toNat)) 63) = 7)) → (¬ ((jand (jX h 1 ((i3).toNat)) 63) = 8)) → (¬ ((jand (jX h 1 ((i3).toNat)) 63) = 9)) → (¬ ((jand (jX h 1 ((i3).toNat)) 63) = 10)) → (¬ ((jand (jX h 1 ((i3).toNat)) 63) = 11)) → (¬ ((jand (jX h 1 ((i3).toNat)) 63) = 12)) → (¬ ((jand (jX h 1 ((i3).toNat)) 63) = 13)) → (¬ ((jand (jX h 1 ((i3).toNat)) 63) = 14)) → (¬ ((jand (jX h 1 ((i3).toNat)) 63) = 15)) → (¬ ((jand (jX h 1 ((i3).toNat)) 63) = 16)) → (¬ ((jand (jX h 1 ((i3).toNat)) 63) = 17)) → (¬ ((jand (jX h 1 ((i3).toNat)) 63) = 18)) → (¬ ((jand (jX h 1 ((i3).toNat)) 63) = 19)) → (¬ ((jand (jX h 1 ((i3).toNat)) 63) = 20)) → (¬ ((jand (jX h 1 ((i3).toNat)) 63) = 21)) → ((jand (jX h 1 ((i3).toNat)) 63) = 22) → 0 ≤ i3 + 1)
    (s79 : (¬ (((((jS h 1).2 : Int)) - 5) < i3)) → (¬ ((jand (jX h 1 ((i3).toNat)) 63) = 0)) → (¬ ((jand (jX h 1 ((i3).toNat)) 63) = 1)) → (¬ ((jand (jX h 1 ((i3).toNat)) 63) = 2)) → (¬ ((jand (jX h 1 ((i3).toNat)) 63) = 3)) → (¬ ((jand (jX h 1 ((i3).toNat)) 63) = 4)) → (¬ ((jand (jX h 1 ((i3).toNat)) 63) = 5)) → (¬ ((jand (jX h 1 ((i3).toNat)) 63) = 6)) → (¬ ((jand (jX h 1 ((i3).toNat)) 63) = 7)) → (¬ ((jand (jX h 1 ((i3).toNat)) 63) = 8)) → (¬ ((jand (jX h 1 ((i3).toNat)) 63) = 9)) → (¬ ((jand (jX h 1 ((i3).toNat)) 63) = 10)) → (¬ ((jand (jX h 1 ((i3).toNat)) 63) = 11)) → (¬ ((jand (jX h 1 ((i3).toNat)) 63) = 12)) → (¬ ((jand (jX h 1 ((i3).toNat)) 63) = 13)) → (¬ ((jand (jX h 1 ((i3).toNat)) 63) = 14)) → (¬ ((jand (jX h 1 ((i3).toNat)) 63) = 15)) → (¬ ((jand (jX h 1 ((i3).toNat)) 63) = 16)) → (¬ ((jand (jX h 1 ((i3).toNat)) 63) = 17)) → (¬ ((jand (jX h 1 ((i3).toNat)) 63) = 18)) → (¬ ((jand (jX h 1 ((i3).toNat)) 63) = 19)) → (¬ ((jand (jX h 1 ((i3).toNat)) 63) = 20)) → (¬ ((jand (jX h 1 ((i3).toNat)) 63) = 21)) → ((jand (jX h 1 ((i3).toNat)) 63) = 22) → i3 + 1 < ((jS h 1).2 : Int))
    (r40 : (¬ (((((jS h 1).2 : Int)) - 5) < i3)) → (¬ ((jand (jX h 1 ((i3).toNat)) 63) = 0)) → (¬ ((jand (jX h 1 ((i3).toNat)) 63) = 1)) → (¬ ((jand (jX h 1 ((i3).toNat)) 63) = 2)) → (¬ ((jand (jX h 1 ((i3).toNat)) 63) = 3)) → (¬ ((jand (jX h 1 ((i3).toNat)) 63) = 4)) → (¬ ((jand (jX h 1 ((i3).toNat)) 63) = 5)) → (¬ ((jand (jX h 1 ((i3).toNat)) 63) = 6)) → (¬ ((jand (jX h 1 ((i3).toNat)) 63) = 7)) → (¬ ((jand (jX h 1 ((i3).toNat)) 63) = 8)) → (¬ ((jand (jX h 1 ((i3).toNat)) 63) = 9)) → (¬ ((jand (jX h 1 ((i3).toNat)) 63) = 10)) → (¬ ((jand (jX h 1 ((i3).toNat)) 63) = 11)) → (¬ ((jand (jX h 1 ((i3).toNat)) 63) = 12)) → (¬ ((jand (jX h 1 ((i3).toNat)) 63) = 13)) → (¬ ((jand (jX h 1 ((i3).toNat)) 63) = 14)) → (¬ ((jand (jX h 1 ((i3).toNat)) 63) = 15)) → (¬ ((jand (jX h 1 ((i3).toNat)) 63) = 16)) → (¬ ((jand (jX h 1 ((i3).toNat)) 63) = 17)) → (¬ ((jand (jX h 1 ((i3).toNat)) 63) = 18)) → (¬ ((jand (jX h 1 ((i3).toNat)) 63) = 19)) → (¬ ((jand (jX h 1 ((i3).toNat)) 63) = 20)) → (¬ ((jand (jX h 1 ((i3).toNat)) 63) = 21)) → ((jand (jX h 1 ((i3).toNat)) 63) = 22) → jR (i3 + 2))
    (s80 : (¬ (((((jS h 1).2 : Int)) - 5) < i3)) → (¬ ((jand (jX h 1 ((i3).toNat)) 63) = 0)) → (¬ ((jand (jX h 1 ((i3).toNat)) 63) = 1)) → (¬ ((jand (jX h 1 ((i3).toNat)) 63) = 2)) → (¬ ((jand (jX h 1 ((i3).toNat)) 63) = 3)) → (¬ ((jand (jX h 1 ((i3).toNat)) 63) = 4)) → (¬ ((jand (jX h 1 ((i3).toNat)) 63) = 5)) → (¬ ((jand (jX h 1 ((i3).toNat)) 63) = 6)) → (¬ ((jand (jX h 1 ((i3).toNat)) 63) = 7)) → (¬ ((jand (jX h 1 ((i3).toNat)) 63) = 8)) → (¬ ((jand (jX h 1 ((i3).toNat)) 63) = 9)) → (¬ ((jand (jX h 1 ((i3).toNat)) 63) = 10)) → (¬ ((jand (jX h 1 ((i3).toNat)) 63) = 11)) → (¬ ((jand (jX h 1 ((i3).toNat)) 63) = 12)) → (¬ ((jand (jX h 1 ((i3).toNat)) 63) = 13)) → (¬ ((jand (jX h 1 ((i3).toNat)) 63) = 14)) → (¬ ((jand (jX h 1 ((i3).toNat)) 63) = 15)) → (¬ ((jand (jX h 1 ((i3).toNat)) 63) = 16)) → (¬ ((jand (jX h 1 ((i3).toNat)) 63) = 17)) → (¬ ((jand (jX h 1 ((i3).toNat)) 63) = 18)) → (¬ ((jand (jX h 1 ((i3).toNat)) 63) = 19)) → (¬ ((jand (jX h 1 ((i3).toNat)) 63) = 20)) → (¬ ((jand (jX h 1 ((i3).toNat)) 63) = 21)) → ((jand (jX h 1 ((i3).toNat)) 63) = 22) → 0 ≤ i3 + 2)
    (s81 : (¬ (((((jS h 1).2 : Int)) - 5) < i3)) → (¬ ((jand (jX h 1 ((i3).toNat)) 63) = 0)) → (¬ ((jand (jX h 1 ((i3).toNat)) 63) = 1)) → (¬ ((jand (jX h 1 ((i3).toNat)) 63) = 2)) → (¬ ((jand (jX h 1 ((i3).toNat)) 63) = 3)) → (¬ ((jand (jX h 1 ((i3).toNat)) 63) = 4)) → (¬ ((jand (jX h 1 ((i3).toNat)) 63) = 5)) → (¬ ((jand (jX h 1 ((i3).toNat)) 63) = 6)) → (¬ ((jand (jX h 1 ((i3).toNat)) 63) = 7)) → (¬ ((jand (jX h 1 ((i3).toNat)) 63) = 8)) → (¬ ((jand (jX h 1 ((i3).toNat)) 63) = 9)) → (¬ ((jand (jX h 1 ((i3).toNat)) 63) = 10)) → (¬ ((jand (jX h 1 ((i3).toNat)) 63) = 11)) → (¬ ((jand (jX h 1 ((i3).toNat)) 63) = 12)) → (¬ ((jand (jX h 1 ((i3).toNat)) 63) = 13)) → (¬ ((jand (jX h 1 ((i3).toNat)) 63) = 14)) → (¬ ((jand (jX h 1 ((i3).toNat)) 63) = 15)) → (¬ ((jand (jX h 1 ((i3).toNat)) 63) = 16)) → (¬ ((jand (jX h 1 ((i3).toNat)) 63) = 17)) → (¬ ((jand (jX h 1 ((i3).toNat)) 63) = 18)) → (¬ ((jand (jX h 1 ((i3).toNat)) 63) = 19)) → (¬ ((jand (jX h 1 ((i3).toNat)) 63) = 20)) → (¬ ((jand (jX h 1 ((i3).toNat)) 63) = 21)) → ((jand (jX h 1 ((i3).toNat)) 63) = 22) → i3 + 2 < ((jS h 1).2 : Int))
    (e23 : (¬ (((((jS h 1).2 : Int)) - 5) < i3)) → (¬ ((jand (jX h 1 ((i3).toNat)) 63) = 0)) → (¬ ((jand (jX h 1 ((i3).toNat)) 63) = 1)) → (¬ ((jand (jX h 1 ((i3).toNat)) 63) = 2)) → (¬ ((jand (jX h 1 ((i3).toNat)) 63) = 3)) → (¬ ((jand (jX h 1 ((i3).toNat)) 63) = 4)) → (¬ ((jand (jX h 1 ((i3).toNat)) 63) = 5)) → (¬ ((jand (jX h 1 ((i3).toNat)) 63) = 6)) → (¬ ((jand (jX h 1 ((i3).toNat)) 63) = 7)) → (¬ ((jand (jX h 1 ((i3).toNat)) 63) = 8)) → (¬ ((jand (jX h 1 ((i3).toNat)) 63) = 9)) → (¬ ((jand (jX h 1 ((i3).toNat)) 63) = 10)) → (¬ ((jand (jX h 1 ((i3).toNat)) 63) = 11)) → (¬ ((jand (jX h 1 ((i3).toNat)) 63) = 12)) → (¬ ((jand (jX h 1 ((i3).toNat)) 63) = 13)) → (¬ ((jand (jX h 1 ((i3).toNat)) 63) = 14)) → (¬ ((jand (jX h 1 ((i3).toNat)) 63) = 15)) → (¬ ((jand (jX h 1 ((i3).toNat)) 63) = 16)) → (¬ ((jand (jX h 1 ((i3).toNat)) 63) = 17)) → (¬ ((jand (jX h 1 ((i3).toNat)) 63) = 18)) → (¬ ((jand (jX h 1 ((i3).toNat)) 63) = 19)) → (¬ ((jand (jX h 1 ((i3).toNat)) 63) = 20)) → (¬ ((jand (jX h 1 ((i3).toNat)) 63) = 21)) → ((jand (jX h 1 ((i3).toNat)) 63) = 22) → Ex MX8_block (d + 5) [.inr a1, .inl (jX h 1 ((i3 + 1).toNat)), .inl (jX h 1 ((i3 + 2).toNat))] h 0 0 (fun v h2 => V ML_law (d + 13) 854 [some (.inr 1), some (.inr a1), some (.inr a2), some (.inl i3)] (v.toList ++ []) h2 0 0 Q))
    (r41 : (¬ (((((jS h 1).2 : Int)) - 5) < i3)) → (¬ ((jand (jX h 1 ((i3).toNat)) 63) = 0)) → (¬ ((jand (jX h 1 ((i3).toNat)) 63) = 1)) → (¬ ((jand (jX h 1 ((i3).toNat)) 63) = 2)) → (¬ ((jand (jX h 1 ((i3).toNat)) 63) = 3)) → (¬ ((jand (jX h 1 ((i3).toNat)) 63) = 4)) → (¬ ((jand (jX h 1 ((i3).toNat)) 63) = 5)) → (¬ ((jand (jX h 1 ((i3).toNat)) 63) = 6)) → (¬ ((jand (jX h 1 ((i3).toNat)) 63) = 7)) → (¬ ((jand (jX h 1 ((i3).toNat)) 63) = 8)) → (¬ ((jand (jX h 1 ((i3).toNat)) 63) = 9)) → (¬ ((jand (jX h 1 ((i3).toNat)) 63) = 10)) → (¬ ((jand (jX h 1 ((i3).toNat)) 63) = 11)) → (¬ ((jand (jX h 1 ((i3).toNat)) 63) = 12)) → (¬ ((jand (jX h 1 ((i3).toNat)) 63) = 13)) → (¬ ((jand (jX h 1 ((i3).toNat)) 63) = 14)) → (¬ ((jand (jX h 1 ((i3).toNat)) 63) = 15)) → (¬ ((jand (jX h 1 ((i3).toNat)) 63) = 16)) → (¬ ((jand (jX h 1 ((i3).toNat)) 63) = 17)) → (¬ ((jand (jX h 1 ((i3).toNat)) 63) = 18)) → (¬ ((jand (jX h 1 ((i3).toNat)) 63) = 19)) → (¬ ((jand (jX h 1 ((i3).toNat)) 63) = 20)) → (¬ ((jand (jX h 1 ((i3).toNat)) 63) = 21)) → (¬ ((jand (jX h 1 ((i3).toNat)) 63) = 22)) → ((jand (jX h 1 ((i3).toNat)) 63) = 23) → jR (i3 + 1))
    (s82 : (¬ (((((jS h 1).2 : Int)) - 5) < i3)) → (¬ ((jand (jX h 1 ((i3).toNat)) 63) = 0)) → (¬ ((jand (jX h 1 ((i3).toNat)) 63) = 1)) → (¬ ((jand (jX h 1 ((i3).toNat)) 63) = 2)) → (¬ ((jand (jX h 1 ((i3).toNat)) 63) = 3)) → (¬ ((jand (jX h 1 ((i3).toNat)) 63) = 4)) → (¬ ((jand (jX h 1 ((i3).toNat)) 63) = 5)) → (¬ ((jand (jX h 1 ((i3).toNat)) 63) = 6)) → (¬ ((jand (jX h 1 ((i3).toNat)) 63) = 7)) → (¬ ((jand (jX h 1 ((i3).toNat)) 63) = 8)) → (¬ ((jand (jX h 1 ((i3).toNat)) 63) = 9)) → (¬ ((jand (jX h 1 ((i3).toNat)) 63) = 10)) → (¬ ((jand (jX h 1 ((i3).toNat)) 63) = 11)) → (¬ ((jand (jX h 1 ((i3).toNat)) 63) = 12)) → (¬ ((jand (jX h 1 ((i3).toNat)) 63) = 13)) → (¬ ((jand (jX h 1 ((i3).toNat)) 63) = 14)) → (¬ ((jand (jX h 1 ((i3).toNat)) 63) = 15)) → (¬ ((jand (jX h 1 ((i3).toNat)) 63) = 16)) → (¬ ((jand (jX h 1 ((i3).toNat)) 63) = 17)) → (¬ ((jand (jX h 1 ((i3).toNat)) 63) = 18)) → (¬ ((jand (jX h 1 ((i3).toNat)) 63) = 19)) → (¬ ((jand (jX h 1 ((i3).toNat)) 63) = 20)) → (¬ ((jand (jX h 1 ((i3).toNat)) 63) = 21)) → (¬ ((jand (jX h 1 ((i3).toNat)) 63) = 22)) → ((jand (jX h 1 ((i3).toNat)) 63) = 23) → 0 ≤ i3 + 1)
    (s83 : (¬ (((((jS h 1).2 : Int)) - 5) < i3)) → (¬ ((jand (jX h 1 ((i3).toNat)) 63) = 0)) → (¬ ((jand (jX h 1 ((i3).toNat)) 63) = 1)) → (¬ ((jand (jX h 1 ((i3).toNat)) 63) = 2)) → (¬ ((jand (jX h 1 ((i3).toNat)) 63) = 3)) → (¬ ((jand (jX h 1 ((i3).toNat)) 63) = 4)) → (¬ ((jand (jX h 1 ((i3).toNat)) 63) = 5)) → (¬ ((jand (jX h 1 ((i3).toNat)) 63) = 6)) → (¬ ((jand (jX h 1 ((i3).toNat)) 63) = 7)) → (¬ ((jand (jX h 1 ((i3).toNat)) 63) = 8)) → (¬ ((jand (jX h 1 ((i3).toNat)) 63) = 9)) → (¬ ((jand (jX h 1 ((i3).toNat)) 63) = 10)) → (¬ ((jand (jX h 1 ((i3).toNat)) 63) = 11)) → (¬ ((jand (jX h 1 ((i3).toNat)) 63) = 12)) → (¬ ((jand (jX h 1 ((i3).toNat)) 63) = 13)) → (¬ ((jand (jX h 1 ((i3).toNat)) 63) = 14)) → (¬ ((jand (jX h 1 ((i3).toNat)) 63) = 15)) → (¬ ((jand (jX h 1 ((i3).toNat)) 63) = 16)) → (¬ ((jand (jX h 1 ((i3).toNat)) 63) = 17)) → (¬ ((jand (jX h 1 ((i3).toNat)) 63) = 18)) → (¬ ((jand (jX h 1 ((i3).toNat)) 63) = 19)) → (¬ ((jand (jX h 1 ((i3).toNat)) 63) = 20)) → (¬ ((jand (jX h 1 ((i3).toNat)) 63) = 21)) → (¬ ((jand (jX h 1 ((i3).toNat)) 63) = 22)) → ((jand (jX h 1 ((i3).toNat)) 63) = 23) → i3 + 1 < ((jS h 1).2 : Int))
    (r42 : (¬ (((((jS h 1).2 : Int)) - 5) < i3)) → (¬ ((jand (jX h 1 ((i3).toNat)) 63) = 0)) → (¬ ((jand (jX h 1 ((i3).toNat)) 63) = 1)) → (¬ ((jand (jX h 1 ((i3).toNat)) 63) = 2)) → (¬ ((jand (jX h 1 ((i3).toNat)) 63) = 3)) → (¬ ((jand (jX h 1 ((i3).toNat)) 63) = 4)) → (¬ ((jand (jX h 1 ((i3).toNat)) 63) = 5)) → (¬ ((jand (jX h 1 ((i3).toNat)) 63) = 6)) → (¬ ((jand (jX h 1 ((i3).toNat)) 63) = 7)) → (¬ ((jand (jX h 1 ((i3).toNat)) 63) = 8)) → (¬ ((jand (jX h 1 ((i3).toNat)) 63) = 9)) → (¬ ((jand (jX h 1 ((i3).toNat)) 63) = 10)) → (¬ ((jand (jX h 1 ((i3).toNat)) 63) = 11)) → (¬ ((jand (jX h 1 ((i3).toNat)) 63) = 12)) → (¬ ((jand (jX h 1 ((i3).toNat)) 63) = 13)) → (¬ ((jand (jX h 1 ((i3).toNat)) 63) = 14)) → (¬ ((jand (jX h 1 ((i3).toNat)) 63) = 15)) → (¬ ((jand (jX h 1 ((i3).toNat)) 63) = 16)) → (¬ ((jand (jX h 1 ((i3).toNat)) 63) = 17)) → (¬ ((jand (jX h 1 ((i3).toNat)) 63) = 18)) → (¬ ((jand (jX h 1 ((i3).toNat)) 63) = 19)) → (¬ ((jand (jX h 1 ((i3).toNat)) 63) = 20)) → (¬ ((jand (jX h 1 ((i3).toNat)) 63) = 21)) → (¬ ((jand (jX h 1 ((i3).toNat)) 63) = 22)) → ((jand (jX h 1 ((i3).toNat)) 63) = 23) → jR (i3 + 2))
    (s84 : (¬ (((((jS h 1).2 : Int)) - 5) < i3)) → (¬ ((jand (jX h 1 ((i3).toNat)) 63) = 0)) → (¬ ((jand (jX h 1 ((i3).toNat)) 63) = 1)) → (¬ ((jand (jX h 1 ((i3).toNat)) 63) = 2)) → (¬ ((jand (jX h 1 ((i3).toNat)) 63) = 3)) → (¬ ((jand (jX h 1 ((i3).toNat)) 63) = 4)) → (¬ ((jand (jX h 1 ((i3).toNat)) 63) = 5)) → (¬ ((jand (jX h 1 ((i3).toNat)) 63) = 6)) → (¬ ((jand (jX h 1 ((i3).toNat)) 63) = 7)) → (¬ ((jand (jX h 1 ((i3).toNat)) 63) = 8)) → (¬ ((jand (jX h 1 ((i3).toNat)) 63) = 9)) → (¬ ((jand (jX h 1 ((i3).toNat)) 63) = 10)) → (¬ ((jand (jX h 1 ((i3).toNat)) 63) = 11)) → (¬ ((jand (jX h 1 ((i3).toNat)) 63) = 12)) → (¬ ((jand (jX h 1 ((i3).toNat)) 63) = 13)) → (¬ ((jand (jX h 1 ((i3).toNat)) 63) = 14)) → (¬ ((jand (jX h 1 ((i3).toNat)) 63) = 15)) → (¬ ((jand (jX h 1 ((i3).toNat)) 63) = 16)) → (¬ ((jand (jX h 1 ((i3).toNat)) 63) = 17)) → (¬ ((jand (jX h 1 ((i3).toNat)) 63) = 18)) → (¬ ((jand (jX h 1 ((i3).toNat)) 63) = 19)) → (¬ ((jand (jX h 1 ((i3).toNat)) 63) = 20)) → (¬ ((jand (jX h 1 ((i3).toNat)) 63) = 21)) → (¬ ((jand (jX h 1 ((i3).toNat)) 63) = 22)) → ((jand (jX h 1 ((i3).toNat)) 63) = 23) → 0 ≤ i3 + 2)
    (s85 : (¬ (((((jS h 1).2 : Int)) - 5) < i3)) → (¬ ((jand (jX h 1 ((i3).toNat)) 63) = 0)) → (¬ ((jand (jX h 1 ((i3).toNat)) 63) = 1)) → (¬ ((jand (jX h 1 ((i3).toNat)) 63) = 2)) → (¬ ((jand (jX h 1 ((i3).toNat)) 63) = 3)) → (¬ ((jand (jX h 1 ((i3).toNat)) 63) = 4)) → (¬ ((jand (jX h 1 ((i3).toNat)) 63) = 5)) → (¬ ((jand (jX h 1 ((i3).toNat)) 63) = 6)) → (¬ ((jand (jX h 1 ((i3).toNat)) 63) = 7)) → (¬ ((jand (jX h 1 ((i3).toNat)) 63) = 8)) → (¬ ((jand (jX h 1 ((i3).toNat)) 63) = 9)) → (¬ ((jand (jX h 1 ((i3).toNat)) 63) = 10)) → (¬ ((jand (jX h 1 ((i3).toNat)) 63) = 11)) → (¬ ((jand (jX h 1 ((i3).toNat)) 63) = 12)) → (¬ ((jand (jX h 1 ((i3).toNat)) 63) = 13)) → (¬ ((jand (jX h 1 ((i3).toNat)) 63) = 14)) → (¬ ((jand (jX h 1 ((i3).toNat)) 63) = 15)) → (¬ ((jand (jX h 1 ((i3).toNat)) 63) = 16)) → (¬ ((jand (jX h 1 ((i3).toNat)) 63) = 17)) → (¬ ((jand (jX h 1 ((i3).toNat)) 63) = 18)) → (¬ ((jand (jX h 1 ((i3).toNat)) 63) = 19)) → (¬ ((jand (jX h 1 ((i3).toNat)) 63) = 20)) → (¬ ((jand (jX h 1 ((i3).toNat)) 63) = 21)) → (¬ ((jand (jX h 1 ((i3).toNat)) 63) = 22)) → ((jand (jX h 1 ((i3).toNat)) 63) = 23) → i3 + 2 < ((jS h 1).2 : Int))
    (e24 : (¬ (((((jS h 1).2 : Int)) - 5) < i3)) → (¬ ((jand (jX h 1 ((i3).toNat)) 63) = 0)) → (¬ ((jand (jX h 1 ((i3).toNat)) 63) = 1)) → (¬ ((jand (jX h 1 ((i3).toNat)) 63) = 2)) → (¬ ((jand (jX h 1 ((i3).toNat)) 63) = 3)) → (¬ ((jand (jX h 1 ((i3).toNat)) 63) = 4)) → (¬ ((jand (jX h 1 ((i3).toNat)) 63) = 5)) → (¬ ((jand (jX h 1 ((i3).toNat)) 63) = 6)) → (¬ ((jand (jX h 1 ((i3).toNat)) 63) = 7)) → (¬ ((jand (jX h 1 ((i3).toNat)) 63) = 8)) → (¬ ((jand (jX h 1 ((i3).toNat)) 63) = 9)) → (¬ ((jand (jX h 1 ((i3).toNat)) 63) = 10)) → (¬ ((jand (jX h 1 ((i3).toNat)) 63) = 11)) → (¬ ((jand (jX h 1 ((i3).toNat)) 63) = 12)) → (¬ ((jand (jX h 1 ((i3).toNat)) 63) = 13)) → (¬ ((jand (jX h 1 ((i3).toNat)) 63) = 14)) → (¬ ((jand (jX h 1 ((i3).toNat)) 63) = 15)) → (¬ ((jand (jX h 1 ((i3).toNat)) 63) = 16)) → (¬ ((jand (jX h 1 ((i3).toNat)) 63) = 17)) → (¬ ((jand (jX h 1 ((i3).toNat)) 63) = 18)) → (¬ ((jand (jX h 1 ((i3).toNat)) 63) = 19)) → (¬ ((jand (jX h 1 ((i3).toNat)) 63) = 20)) → (¬ ((jand (jX h 1 ((i3).toNat)) 63) = 21)) → (¬ ((jand (jX h 1 ((i3).toNat)) 63) = 22)) → ((jand (jX h 1 ((i3).toNat)) 63) = 23) → Ex MX8_frame (d + 2) [.inr a1, .inl (jX h 1 ((i3 + 1).toNat)), .inl (jX h 1 ((i3 + 2).toNat))] h 0 0 (fun v h2 => V ML_law (d + 13) 887 [some (.inr 1), some (.inr a1), some (.inr a2), some (.inl i3)] (v.toList ++ []) h2 0 0 Q))
    (r43 : (¬ (((((jS h 1).2 : Int)) - 5) < i3)) → (¬ ((jand (jX h 1 ((i3).toNat)) 63) = 0)) → (¬ ((jand (jX h 1 ((i3).toNat)) 63) = 1)) → (¬ ((jand (jX h 1 ((i3).toNat)) 63) = 2)) → (¬ ((jand (jX h 1 ((i3).toNat)) 63) = 3)) → (¬ ((jand (jX h 1 ((i3).toNat)) 63) = 4)) → (¬ ((jand (jX h 1 ((i3).toNat)) 63) = 5)) → (¬ ((jand (jX h 1 ((i3).toNat)) 63) = 6)) → (¬ ((jand (jX h 1 ((i3).toNat)) 63) = 7)) → (¬ ((jand (jX h 1 ((i3).toNat)) 63) = 8)) → (¬ ((jand (jX h 1 ((i3).toNat)) 63) = 9)) → (¬ ((jand (jX h 1 ((i3).toNat)) 63) = 10)) → (¬ ((jand (jX h 1 ((i3).toNat)) 63) = 11)) → (¬ ((jand (jX h 1 ((i3).toNat)) 63) = 12)) → (¬ ((jand (jX h 1 ((i3).toNat)) 63) = 13)) → (¬ ((jand (jX h 1 ((i3).toNat)) 63) = 14)) → (¬ ((jand (jX h 1 ((i3).toNat)) 63) = 15)) → (¬ ((jand (jX h 1 ((i3).toNat)) 63) = 16)) → (¬ ((jand (jX h 1 ((i3).toNat)) 63) = 17)) → (¬ ((jand (jX h 1 ((i3).toNat)) 63) = 18)) → (¬ ((jand (jX h 1 ((i3).toNat)) 63) = 19)) → (¬ ((jand (jX h 1 ((i3).toNat)) 63) = 20)) → (¬ ((jand (jX h 1 ((i3).toNat)) 63) = 21)) → (¬ ((jand (jX h 1 ((i3).toNat)) 63) = 22)) → (¬ ((jand (jX h 1 ((i3).toNat)) 63) = 23)) → ((jand (jX h 1 ((i3).toNat)) 63) = 24) → jR (i3 + 1))
    (s86 : (¬ (((((jS h 1).2 : Int)) - 5) < i3)) → (¬ ((jand (jX h 1 ((i3).toNat)) 63) = 0)) → (¬ ((jand (jX h 1 ((i3).toNat)) 63) = 1)) → (¬ ((jand (jX h 1 ((i3).toNat)) 63) = 2)) → (¬ ((jand (jX h 1 ((i3).toNat)) 63) = 3)) → (¬ ((jand (jX h 1 ((i3).toNat)) 63) = 4)) → (¬ ((jand (jX h 1 ((i3).toNat)) 63) = 5)) → (¬ ((jand (jX h 1 ((i3).toNat)) 63) = 6)) → (¬ ((jand (jX h 1 ((i3).toNat)) 63) = 7)) → (¬ ((jand (jX h 1 ((i3).toNat)) 63) = 8)) → (¬ ((jand (jX h 1 ((i3).toNat)) 63) = 9)) → (¬ ((jand (jX h 1 ((i3).toNat)) 63) = 10)) → (¬ ((jand (jX h 1 ((i3).toNat)) 63) = 11)) → (¬ ((jand (jX h 1 ((i3).toNat)) 63) = 12)) → (¬ ((jand (jX h 1 ((i3).toNat)) 63) = 13)) → (¬ ((jand (jX h 1 ((i3).toNat)) 63) = 14)) → (¬ ((jand (jX h 1 ((i3).toNat)) 63) = 15)) → (¬ ((jand (jX h 1 ((i3).toNat)) 63) = 16)) → (¬ ((jand (jX h 1 ((i3).toNat)) 63) = 17)) → (¬ ((jand (jX h 1 ((i3).toNat)) 63) = 18)) → (¬ ((jand (jX h 1 ((i3).toNat)) 63) = 19)) → (¬ ((jand (jX h 1 ((i3).toNat)) 63) = 20)) → (¬ ((jand (jX h 1 ((i3).toNat)) 63) = 21)) → (¬ ((jand (jX h 1 ((i3).toNat)) 63) = 22)) → (¬ ((jand (jX h 1 ((i3).toNat)) 63) = 23)) → ((jand (jX h 1 ((i3).toNat)) 63) = 24) → 0 ≤ i3 + 1)
    (s87 : (¬ (((((jS h 1).2 : Int)) - 5) < i3)) → (¬ ((jand (jX h 1 ((i3).toNat)) 63) = 0)) → (¬ ((jand (jX h 1 ((i3).toNat)) 63) = 1)) → (¬ ((jand (jX h 1 ((i3).toNat)) 63) = 2)) → (¬ ((jand (jX h 1 ((i3).toNat)) 63) = 3)) → (¬ ((jand (jX h 1 ((i3).toNat)) 63) = 4)) → (¬ ((jand (jX h 1 ((i3).toNat)) 63) = 5)) → (¬ ((jand (jX h 1 ((i3).toNat)) 63) = 6)) → (¬ ((jand (jX h 1 ((i3).toNat)) 63) = 7)) → (¬ ((jand (jX h 1 ((i3).toNat)) 63) = 8)) → (¬ ((jand (jX h 1 ((i3).toNat)) 63) = 9)) → (¬ ((jand (jX h 1 ((i3).toNat)) 63) = 10)) → (¬ ((jand (jX h 1 ((i3).toNat)) 63) = 11)) → (¬ ((jand (jX h 1 ((i3).toNat)) 63) = 12)) → (¬ ((jand (jX h 1 ((i3).toNat)) 63) = 13)) → (¬ ((jand (jX h 1 ((i3).toNat)) 63) = 14)) → (¬ ((jand (jX h 1 ((i3).toNat)) 63) = 15)) → (¬ ((jand (jX h 1 ((i3).toNat)) 63) = 16)) → (¬ ((jand (jX h 1 ((i3).toNat)) 63) = 17)) → (¬ ((jand (jX h 1 ((i3).toNat)) 63) = 18)) → (¬ ((jand (jX h 1 ((i3).toNat)) 63) = 19)) → (¬ ((jand (jX h 1 ((i3).toNat)) 63) = 20)) → (¬ ((jand (jX h 1 ((i3).toNat)) 63) = 21)) → (¬ ((jand (jX h 1 ((i3).toNat)) 63) = 22)) → (¬ ((jand (jX h 1 ((i3).toNat)) 63) = 23)) → ((jand (jX h 1 ((i3).toNat)) 63) = 24) → i3 + 1 < ((jS h 1).2 : Int))
    (r44 : (¬ (((((jS h 1).2 : Int)) - 5) < i3)) → (¬ ((jand (jX h 1 ((i3).toNat)) 63) = 0)) → (¬ ((jand (jX h 1 ((i3).toNat)) 63) = 1)) → (¬ ((jand (jX h 1 ((i3).toNat)) 63) = 2)) → (¬ ((jand (jX h 1 ((i3).toNat)) 63) = 3)) → (¬ ((jand (jX h 1 ((i3).toNat)) 63) = 4)) → (¬ ((jand (jX h 1 ((i3).toNat)) 63) = 5)) → (¬ ((jand (jX h 1 ((i3).toNat)) 63) = 6)) → (¬ ((jand (jX h 1 ((i3).toNat)) 63) = 7)) → (¬ ((jand (jX h 1 ((i3).toNat)) 63) = 8)) → (¬ ((jand (jX h 1 ((i3).toNat)) 63) = 9)) → (¬ ((jand (jX h 1 ((i3).toNat)) 63) = 10)) → (¬ ((jand (jX h 1 ((i3).toNat)) 63) = 11)) → (¬ ((jand (jX h 1 ((i3).toNat)) 63) = 12)) → (¬ ((jand (jX h 1 ((i3).toNat)) 63) = 13)) → (¬ ((jand (jX h 1 ((i3).toNat)) 63) = 14)) → (¬ ((jand (jX h 1 ((i3).toNat)) 63) = 15)) → (¬ ((jand (jX h 1 ((i3).toNat)) 63) = 16)) → (¬ ((jand (jX h 1 ((i3).toNat)) 63) = 17)) → (¬ ((jand (jX h 1 ((i3).toNat)) 63) = 18)) → (¬ ((jand (jX h 1 ((i3).toNat)) 63) = 19)) → (¬ ((jand (jX h 1 ((i3).toNat)) 63) = 20)) → (¬ ((jand (jX h 1 ((i3).toNat)) 63) = 21)) → (¬ ((jand (jX h 1 ((i3).toNat)) 63) = 22)) → (¬ ((jand (jX h 1 ((i3).toNat)) 63) = 23)) → ((jand (jX h 1 ((i3).toNat)) 63) = 24) → jR (i3 + 2))
    (s88 : (¬ (((((jS h 1).2 : Int)) - 5) < i3)) → (¬ ((jand (jX h 1 ((i3).toNat)) 63) = 0)) → (¬ ((jand (jX h 1 ((i3).toNat)) 63) = 1)) → (¬ ((jand (jX h 1 ((i3).toNat)) 63) = 2)) → (¬ ((jand (jX h 1 ((i3).toNat)) 63) = 3)) → (¬ ((jand (jX h 1 ((i3).toNat)) 63) = 4)) → (¬ ((jand (jX h 1 ((i3).toNat)) 63) = 5)) → (¬ ((jand (jX h 1 ((i3).toNat)) 63) = 6)) → (¬ ((jand (jX h 1 ((i3).toNat)) 63) = 7)) → (¬ ((jand (jX h 1 ((i3).toNat)) 63) = 8)) → (¬ ((jand (jX h 1 ((i3).toNat)) 63) = 9)) → (¬ ((jand (jX h 1 ((i3).toNat)) 63) = 10)) → (¬ ((jand (jX h 1 ((i3).toNat)) 63) = 11)) → (¬ ((jand (jX h 1 ((i3).toNat)) 63) = 12)) → (¬ ((jand (jX h 1 ((i3).toNat)) 63) = 13)) → (¬ ((jand (jX h 1 ((i3).toNat)) 63) = 14)) → (¬ ((jand (jX h 1 ((i3).toNat)) 63) = 15)) → (¬ ((jand (jX h 1 ((i3).toNat)) 63) = 16)) → (¬ ((jand (jX h 1 ((i3).toNat)) 63) = 17)) → (¬ ((jand (jX h 1 ((i3).toNat)) 63) = 18)) → (¬ ((jand (jX h 1 ((i3).toNat)) 63) = 19)) → (¬ ((jand (jX h 1 ((i3).toNat)) 63) = 20)) → (¬ ((jand (jX h 1 ((i3).toNat)) 63) = 21)) → (¬ ((jand (jX h 1 ((i3).toNat)) 63) = 22)) → (¬ ((jand (jX h 1 ((i3).toNat)) 63) = 23)) → ((jand (jX h 1 ((i3).toNat)) 63) = 24) → 0 ≤ i3 + 2)
    (s89 : (¬ (((((jS h 1).2 : Int)) - 5) < i3)) → (¬ ((jand (jX h 1 ((i3).toNat)) 63) = 0)) → (¬ ((jand (jX h 1 ((i3).toNat)) 63) = 1)) → (¬ ((jand (jX h 1 ((i3).toNat)) 63) = 2)) → (¬ ((jand (jX h 1 ((i3).toNat)) 63) = 3)) → (¬ ((jand (jX h 1 ((i3).toNat)) 63) = 4)) → (¬ ((jand (jX h 1 ((i3).toNat)) 63) = 5)) → (¬ ((jand (jX h 1 ((i3).toNat)) 63) = 6)) → (¬ ((jand (jX h 1 ((i3).toNat)) 63) = 7)) → (¬ ((jand (jX h 1 ((i3).toNat)) 63) = 8)) → (¬ ((jand (jX h 1 ((i3).toNat)) 63) = 9)) → (¬ ((jand (jX h 1 ((i3).toNat)) 63) = 10)) → (¬ ((jand (jX h 1 ((i3).toNat)) 63) = 11)) → (¬ ((jand (jX h 1 ((i3).toNat)) 63) = 12)) → (¬ ((jand (jX h 1 ((i3).toNat)) 63) = 13)) → (¬ ((jand (jX h 1 ((i3).toNat)) 63) = 14)) → (¬ ((jand (jX h 1 ((i3).toNat)) 63) = 15)) → (¬ ((jand (jX h 1 ((i3).toNat)) 63) = 16)) → (¬ ((jand (jX h 1 ((i3).toNat)) 63) = 17)) → (¬ ((jand (jX h 1 ((i3).toNat)) 63) = 18)) → (¬ ((jand (jX h 1 ((i3).toNat)) 63) = 19)) → (¬ ((jand (jX h 1 ((i3).toNat)) 63) = 20)) → (¬ ((jand (jX h 1 ((i3).toNat)) 63) = 21)) → (¬ ((jand (jX h 1 ((i3).toNat)) 63) = 22)) → (¬ ((jand (jX h 1 ((i3).toNat)) 63) = 23)) → ((jand (jX h 1 ((i3).toNat)) 63) = 24) → i3 + 2 < ((jS h 1).2 : Int))
    (r45 : (¬ (((((jS h 1).2 : Int)) - 5) < i3)) → (¬ ((jand (jX h 1 ((i3).toNat)) 63) = 0)) → (¬ ((jand (jX h 1 ((i3).toNat)) 63) = 1)) → (¬ ((jand (jX h 1 ((i3).toNat)) 63) = 2)) → (¬ ((jand (jX h 1 ((i3).toNat)) 63) = 3)) → (¬ ((jand (jX h 1 ((i3).toNat)) 63) = 4)) → (¬ ((jand (jX h 1 ((i3).toNat)) 63) = 5)) → (¬ ((jand (jX h 1 ((i3).toNat)) 63) = 6)) → (¬ ((jand (jX h 1 ((i3).toNat)) 63) = 7)) → (¬ ((jand (jX h 1 ((i3).toNat)) 63) = 8)) → (¬ ((jand (jX h 1 ((i3).toNat)) 63) = 9)) → (¬ ((jand (jX h 1 ((i3).toNat)) 63) = 10)) → (¬ ((jand (jX h 1 ((i3).toNat)) 63) = 11)) → (¬ ((jand (jX h 1 ((i3).toNat)) 63) = 12)) → (¬ ((jand (jX h 1 ((i3).toNat)) 63) = 13)) → (¬ ((jand (jX h 1 ((i3).toNat)) 63) = 14)) → (¬ ((jand (jX h 1 ((i3).toNat)) 63) = 15)) → (¬ ((jand (jX h 1 ((i3).toNat)) 63) = 16)) → (¬ ((jand (jX h 1 ((i3).toNat)) 63) = 17)) → (¬ ((jand (jX h 1 ((i3).toNat)) 63) = 18)) → (¬ ((jand (jX h 1 ((i3).toNat)) 63) = 19)) → (¬ ((jand (jX h 1 ((i3).toNat)) 63) = 20)) → (¬ ((jand (jX h 1 ((i3).toNat)) 63) = 21)) → (¬ ((jand (jX h 1 ((i3).toNat)) 63) = 22)) → (¬ ((jand (jX h 1 ((i3).toNat)) 63) = 23)) → ((jand (jX h 1 ((i3).toNat)) 63) = 24) → jR (i3 + 3))
    (s90 : (¬ (((((jS h 1).2 : Int)) - 5) < i3)) → (¬ ((jand (jX h 1 ((i3).toNat)) 63) = 0)) → (¬ ((jand (jX h 1 ((i3).toNat)) 63) = 1)) → (¬ ((jand (jX h 1 ((i3).toNat)) 63) = 2)) → (¬ ((jand (jX h 1 ((i3).toNat)) 63) = 3)) → (¬ ((jand (jX h 1 ((i3).toNat)) 63) = 4)) → (¬ ((jand (jX h 1 ((i3).toNat)) 63) = 5)) → (¬ ((jand (jX h 1 ((i3).toNat)) 63) = 6)) → (¬ ((jand (jX h 1 ((i3).toNat)) 63) = 7)) → (¬ ((jand (jX h 1 ((i3).toNat)) 63) = 8)) → (¬ ((jand (jX h 1 ((i3).toNat)) 63) = 9)) → (¬ ((jand (jX h 1 ((i3).toNat)) 63) = 10)) → (¬ ((jand (jX h 1 ((i3).toNat)) 63) = 11)) → (¬ ((jand (jX h 1 ((i3).toNat)) 63) = 12)) → (¬ ((jand (jX h 1 ((i3).toNat)) 63) = 13)) → (¬ ((jand (jX h 1 ((i3).toNat)) 63) = 14)) → (¬ ((jand (jX h 1 ((i3).toNat)) 63) = 15)) → (¬ ((jand (jX h 1 ((i3).toNat)) 63) = 16)) → (¬ ((jand (jX h 1 ((i3).toNat)) 63) = 17)) → (¬ ((jand (jX h 1 ((i3).toNat)) 63) = 18)) → (¬ ((jand (jX h 1 ((i3).toNat)) 63) = 19)) → (¬ ((jand (jX h 1 ((i3).toNat)) 63) = 20)) → (¬ ((jand (jX h 1 ((i3).toNat)) 63) = 21)) → (¬ ((jand (jX h 1 ((i3).toNat)) 63) = 22)) → (¬ ((jand (jX h 1 ((i3).toNat)) 63) = 23)) → ((jand (jX h 1 ((i3).toNat)) 63) = 24) → 0 ≤ i3 + 3)
    (s91 : (¬ (((((jS h 1).2 : Int)) - 5) < i3)) → (¬ ((jand (jX h 1 ((i3).toNat)) 63) = 0)) → (¬ ((jand (jX h 1 ((i3).toNat)) 63) = 1)) → (¬ ((jand (jX h 1 ((i3).toNat)) 63) = 2)) → (¬ ((jand (jX h 1 ((i3).toNat)) 63) = 3)) → (¬ ((jand (jX h 1 ((i3).toNat)) 63) = 4)) → (¬ ((jand (jX h 1 ((i3).toNat)) 63) = 5)) → (¬ ((jand (jX h 1 ((i3).toNat)) 63) = 6)) → (¬ ((jand (jX h 1 ((i3).toNat)) 63) = 7)) → (¬ ((jand (jX h 1 ((i3).toNat)) 63) = 8)) → (¬ ((jand (jX h 1 ((i3).toNat)) 63) = 9)) → (¬ ((jand (jX h 1 ((i3).toNat)) 63) = 10)) → (¬ ((jand (jX h 1 ((i3).toNat)) 63) = 11)) → (¬ ((jand (jX h 1 ((i3).toNat)) 63) = 12)) → (¬ ((jand (jX h 1 ((i3).toNat)) 63) = 13)) → (¬ ((jand (jX h 1 ((i3).toNat)) 63) = 14)) → (¬ ((jand (jX h 1 ((i3).toNat)) 63) = 15)) → (¬ ((jand (jX h 1 ((i3).toNat)) 63) = 16)) → (¬ ((jand (jX h 1 ((i3).toNat)) 63) = 17)) → (¬ ((jand (jX h 1 ((i3).toNat)) 63) = 18)) → (¬ ((jand (jX h 1 ((i3).toNat)) 63) = 19)) → (¬ ((jand (jX h 1 ((i3).toNat)) 63) = 20)) → (¬ ((jand (jX h 1 ((i3).toNat)) 63) = 21)) → (¬ ((jand (jX h 1 ((i3).toNat)) 63) = 22)) → (¬ ((jand (jX h 1 ((i3).toNat)) 63) = 23)) → ((jand (jX h 1 ((i3).toNat)) 63) = 24) → i3 + 3 < ((jS h 1).2 : Int))
    (e25 : (¬ (((((jS h 1).2 : Int)) - 5) < i3)) → (¬ ((jand (jX h 1 ((i3).toNat)) 63) = 0)) → (¬ ((jand (jX h 1 ((i3).toNat)) 63) = 1)) → (¬ ((jand (jX h 1 ((i3).toNat)) 63) = 2)) → (¬ ((jand (jX h 1 ((i3).toNat)) 63) = 3)) → (¬ ((jand (jX h 1 ((i3).toNat)) 63) = 4)) → (¬ ((jand (jX h 1 ((i3).toNat)) 63) = 5)) → (¬ ((jand (jX h 1 ((i3).toNat)) 63) = 6)) → (¬ ((jand (jX h 1 ((i3).toNat)) 63) = 7)) → (¬ ((jand (jX h 1 ((i3).toNat)) 63) = 8)) → (¬ ((jand (jX h 1 ((i3).toNat)) 63) = 9)) → (¬ ((jand (jX h 1 ((i3).toNat)) 63) = 10)) → (¬ ((jand (jX h 1 ((i3).toNat)) 63) = 11)) → (¬ ((jand (jX h 1 ((i3).toNat)) 63) = 12)) → (¬ ((jand (jX h 1 ((i3).toNat)) 63) = 13)) → (¬ ((jand (jX h 1 ((i3).toNat)) 63) = 14)) → (¬ ((jand (jX h 1 ((i3).toNat)) 63) = 15)) → (¬ ((jand (jX h 1 ((i3).toNat)) 63) = 16)) → (¬ ((jand (jX h 1 ((i3).toNat)) 63) = 17)) → (¬ ((jand (jX h 1 ((i3).toNat)) 63) = 18)) → (¬ ((jand (jX h 1 ((i3).toNat)) 63) = 19)) → (¬ ((jand (jX h 1 ((i3).toNat)) 63) = 20)) → (¬ ((jand (jX h 1 ((i3).toNat)) 63) = 21)) → (¬ ((jand (jX h 1 ((i3).toNat)) 63) = 22)) → (¬ ((jand (jX h 1 ((i3).toNat)) 63) = 23)) → ((jand (jX h 1 ((i3).toNat)) 63) = 24) → Ex MX8_change (d + 3) [.inr a1, .inl (jX h 1 ((i3 + 1).toNat)), .inl (jX h 1 ((i3 + 2).toNat)), .inl (jX h 1 ((i3 + 3).toNat))] h 0 0 (fun v h2 => V ML_law (d + 13) 925 [some (.inr 1), some (.inr a1), some (.inr a2), some (.inl i3)] (v.toList ++ []) h2 0 0 Q))
    (r46 : (¬ (((((jS h 1).2 : Int)) - 5) < i3)) → (¬ ((jand (jX h 1 ((i3).toNat)) 63) = 0)) → (¬ ((jand (jX h 1 ((i3).toNat)) 63) = 1)) → (¬ ((jand (jX h 1 ((i3).toNat)) 63) = 2)) → (¬ ((jand (jX h 1 ((i3).toNat)) 63) = 3)) → (¬ ((jand (jX h 1 ((i3).toNat)) 63) = 4)) → (¬ ((jand (jX h 1 ((i3).toNat)) 63) = 5)) → (¬ ((jand (jX h 1 ((i3).toNat)) 63) = 6)) → (¬ ((jand (jX h 1 ((i3).toNat)) 63) = 7)) → (¬ ((jand (jX h 1 ((i3).toNat)) 63) = 8)) → (¬ ((jand (jX h 1 ((i3).toNat)) 63) = 9)) → (¬ ((jand (jX h 1 ((i3).toNat)) 63) = 10)) → (¬ ((jand (jX h 1 ((i3).toNat)) 63) = 11)) → (¬ ((jand (jX h 1 ((i3).toNat)) 63) = 12)) → (¬ ((jand (jX h 1 ((i3).toNat)) 63) = 13)) → (¬ ((jand (jX h 1 ((i3).toNat)) 63) = 14)) → (¬ ((jand (jX h 1 ((i3).toNat)) 63) = 15)) → (¬ ((jand (jX h 1 ((i3).toNat)) 63) = 16)) → (¬ ((jand (jX h 1 ((i3).toNat)) 63) = 17)) → (¬ ((jand (jX h 1 ((i3).toNat)) 63) = 18)) → (¬ ((jand (jX h 1 ((i3).toNat)) 63) = 19)) → (¬ ((jand (jX h 1 ((i3).toNat)) 63) = 20)) → (¬ ((jand (jX h 1 ((i3).toNat)) 63) = 21)) → (¬ ((jand (jX h 1 ((i3).toNat)) 63) = 22)) → (¬ ((jand (jX h 1 ((i3).toNat)) 63) = 23)) → (¬ ((jand (jX h 1 ((i3).toNat)) 63) = 24)) → ((jand (jX h 1 ((i3).toNat)) 63) = 25) → jR (i3 + 1))
    (s92 : (¬ (((((jS h 1).2 : Int)) - 5) < i3)) → (¬ ((jand (jX h 1 ((i3).toNat)) 63) = 0)) → (¬ ((jand (jX h 1 ((i3).toNat)) 63) = 1)) → (¬ ((jand (jX h 1 ((i3).toNat)) 63) = 2)) → (¬ ((jand (jX h 1 ((i3).toNat)) 63) = 3)) → (¬ ((jand (jX h 1 ((i3).toNat)) 63) = 4)) → (¬ ((jand (jX h 1 ((i3).toNat)) 63) = 5)) → (¬ ((jand (jX h 1 ((i3).toNat)) 63) = 6)) → (¬ ((jand (jX h 1 ((i3).toNat)) 63) = 7)) → (¬ ((jand (jX h 1 ((i3).toNat)) 63) = 8)) → (¬ ((jand (jX h 1 ((i3).toNat)) 63) = 9)) → (¬ ((jand (jX h 1 ((i3).toNat)) 63) = 10)) → (¬ ((jand (jX h 1 ((i3).toNat)) 63) = 11)) → (¬ ((jand (jX h 1 ((i3).toNat)) 63) = 12)) → (¬ ((jand (jX h 1 ((i3).toNat)) 63) = 13)) → (¬ ((jand (jX h 1 ((i3).toNat)) 63) = 14)) → (¬ ((jand (jX h 1 ((i3).toNat)) 63) = 15)) → (¬ ((jand (jX h 1 ((i3).toNat)) 63) = 16)) → (¬ ((jand (jX h 1 ((i3).toNat)) 63) = 17)) → (¬ ((jand (jX h 1 ((i3).toNat)) 63) = 18)) → (¬ ((jand (jX h 1 ((i3).toNat)) 63) = 19)) → (¬ ((jand (jX h 1 ((i3).toNat)) 63) = 20)) → (¬ ((jand (jX h 1 ((i3).toNat)) 63) = 21)) → (¬ ((jand (jX h 1 ((i3).toNat)) 63) = 22)) → (¬ ((jand (jX h 1 ((i3).toNat)) 63) = 23)) → (¬ ((jand (jX h 1 ((i3).toNat)) 63) = 24)) → ((jand (jX h 1 ((i3).toNat)) 63) = 25) → 0 ≤ i3 + 1)
    (s93 : (¬ (((((jS h 1).2 : Int)) - 5) < i3)) → (¬ ((jand (jX h 1 ((i3).toNat)) 63) = 0)) → (¬ ((jand (jX h 1 ((i3).toNat)) 63) = 1)) → (¬ ((jand (jX h 1 ((i3).toNat)) 63) = 2)) → (¬ ((jand (jX h 1 ((i3).toNat)) 63) = 3)) → (¬ ((jand (jX h 1 ((i3).toNat)) 63) = 4)) → (¬ ((jand (jX h 1 ((i3).toNat)) 63) = 5)) → (¬ ((jand (jX h 1 ((i3).toNat)) 63) = 6)) → (¬ ((jand (jX h 1 ((i3).toNat)) 63) = 7)) → (¬ ((jand (jX h 1 ((i3).toNat)) 63) = 8)) → (¬ ((jand (jX h 1 ((i3).toNat)) 63) = 9)) → (¬ ((jand (jX h 1 ((i3).toNat)) 63) = 10)) → (¬ ((jand (jX h 1 ((i3).toNat)) 63) = 11)) → (¬ ((jand (jX h 1 ((i3).toNat)) 63) = 12)) → (¬ ((jand (jX h 1 ((i3).toNat)) 63) = 13)) → (¬ ((jand (jX h 1 ((i3).toNat)) 63) = 14)) → (¬ ((jand (jX h 1 ((i3).toNat)) 63) = 15)) → (¬ ((jand (jX h 1 ((i3).toNat)) 63) = 16)) → (¬ ((jand (jX h 1 ((i3).toNat)) 63) = 17)) → (¬ ((jand (jX h 1 ((i3).toNat)) 63) = 18)) → (¬ ((jand (jX h 1 ((i3).toNat)) 63) = 19)) → (¬ ((jand (jX h 1 ((i3).toNat)) 63) = 20)) → (¬ ((jand (jX h 1 ((i3).toNat)) 63) = 21)) → (¬ ((jand (jX h 1 ((i3).toNat)) 63) = 22)) → (¬ ((jand (jX h 1 ((i3).toNat)) 63) = 23)) → (¬ ((jand (jX h 1 ((i3).toNat)) 63) = 24)) → ((jand (jX h 1 ((i3).toNat)) 63) = 25) → i3 + 1 < ((jS h 1).2 : Int))
    (e26 : (¬ (((((jS h 1).2 : Int)) - 5) < i3)) → (¬ ((jand (jX h 1 ((i3).toNat)) 63) = 0)) → (¬ ((jand (jX h 1 ((i3).toNat)) 63) = 1)) → (¬ ((jand (jX h 1 ((i3).toNat)) 63) = 2)) → (¬ ((jand (jX h 1 ((i3).toNat)) 63) = 3)) → (¬ ((jand (jX h 1 ((i3).toNat)) 63) = 4)) → (¬ ((jand (jX h 1 ((i3).toNat)) 63) = 5)) → (¬ ((jand (jX h 1 ((i3).toNat)) 63) = 6)) → (¬ ((jand (jX h 1 ((i3).toNat)) 63) = 7)) → (¬ ((jand (jX h 1 ((i3).toNat)) 63) = 8)) → (¬ ((jand (jX h 1 ((i3).toNat)) 63) = 9)) → (¬ ((jand (jX h 1 ((i3).toNat)) 63) = 10)) → (¬ ((jand (jX h 1 ((i3).toNat)) 63) = 11)) → (¬ ((jand (jX h 1 ((i3).toNat)) 63) = 12)) → (¬ ((jand (jX h 1 ((i3).toNat)) 63) = 13)) → (¬ ((jand (jX h 1 ((i3).toNat)) 63) = 14)) → (¬ ((jand (jX h 1 ((i3).toNat)) 63) = 15)) → (¬ ((jand (jX h 1 ((i3).toNat)) 63) = 16)) → (¬ ((jand (jX h 1 ((i3).toNat)) 63) = 17)) → (¬ ((jand (jX h 1 ((i3).toNat)) 63) = 18)) → (¬ ((jand (jX h 1 ((i3).toNat)) 63) = 19)) → (¬ ((jand (jX h 1 ((i3).toNat)) 63) = 20)) → (¬ ((jand (jX h 1 ((i3).toNat)) 63) = 21)) → (¬ ((jand (jX h 1 ((i3).toNat)) 63) = 22)) → (¬ ((jand (jX h 1 ((i3).toNat)) 63) = 23)) → (¬ ((jand (jX h 1 ((i3).toNat)) 63) = 24)) → ((jand (jX h 1 ((i3).toNat)) 63) = 25) → Ex MX8_packed (d + 6) [.inr a1, .inl (jX h 1 ((i3 + 1).toNat))] h 0 0 (fun v h2 => V ML_law (d + 13) 958 [some (.inr 1), some (.inr a1), some (.inr a2), some (.inl i3)] (v.toList ++ []) h2 0 0 Q))
    (e27 : (¬ (((((jS h 1).2 : Int)) - 5) < i3)) → (¬ ((jand (jX h 1 ((i3).toNat)) 63) = 0)) → (¬ ((jand (jX h 1 ((i3).toNat)) 63) = 1)) → (¬ ((jand (jX h 1 ((i3).toNat)) 63) = 2)) → (¬ ((jand (jX h 1 ((i3).toNat)) 63) = 3)) → (¬ ((jand (jX h 1 ((i3).toNat)) 63) = 4)) → (¬ ((jand (jX h 1 ((i3).toNat)) 63) = 5)) → (¬ ((jand (jX h 1 ((i3).toNat)) 63) = 6)) → (¬ ((jand (jX h 1 ((i3).toNat)) 63) = 7)) → (¬ ((jand (jX h 1 ((i3).toNat)) 63) = 8)) → (¬ ((jand (jX h 1 ((i3).toNat)) 63) = 9)) → (¬ ((jand (jX h 1 ((i3).toNat)) 63) = 10)) → (¬ ((jand (jX h 1 ((i3).toNat)) 63) = 11)) → (¬ ((jand (jX h 1 ((i3).toNat)) 63) = 12)) → (¬ ((jand (jX h 1 ((i3).toNat)) 63) = 13)) → (¬ ((jand (jX h 1 ((i3).toNat)) 63) = 14)) → (¬ ((jand (jX h 1 ((i3).toNat)) 63) = 15)) → (¬ ((jand (jX h 1 ((i3).toNat)) 63) = 16)) → (¬ ((jand (jX h 1 ((i3).toNat)) 63) = 17)) → (¬ ((jand (jX h 1 ((i3).toNat)) 63) = 18)) → (¬ ((jand (jX h 1 ((i3).toNat)) 63) = 19)) → (¬ ((jand (jX h 1 ((i3).toNat)) 63) = 20)) → (¬ ((jand (jX h 1 ((i3).toNat)) 63) = 21)) → (¬ ((jand (jX h 1 ((i3).toNat)) 63) = 22)) → (¬ ((jand (jX h 1 ((i3).toNat)) 63) = 23)) → (¬ ((jand (jX h 1 ((i3).toNat)) 63) = 24)) → (¬ ((jand (jX h 1 ((i3).toNat)) 63) = 25)) → ((jand (jX h 1 ((i3).toNat)) 63) = 26) → Ex MX8_best (d + 6) [.inr a1] h 0 0 (fun v h2 => V ML_law (d + 13) 976 [some (.inr 1), some (.inr a1), some (.inr a2), some (.inl i3)] (v.toList ++ []) h2 0 0 Q))
    (r47 : (¬ (((((jS h 1).2 : Int)) - 5) < i3)) → (¬ ((jand (jX h 1 ((i3).toNat)) 63) = 0)) → (¬ ((jand (jX h 1 ((i3).toNat)) 63) = 1)) → (¬ ((jand (jX h 1 ((i3).toNat)) 63) = 2)) → (¬ ((jand (jX h 1 ((i3).toNat)) 63) = 3)) → (¬ ((jand (jX h 1 ((i3).toNat)) 63) = 4)) → (¬ ((jand (jX h 1 ((i3).toNat)) 63) = 5)) → (¬ ((jand (jX h 1 ((i3).toNat)) 63) = 6)) → (¬ ((jand (jX h 1 ((i3).toNat)) 63) = 7)) → (¬ ((jand (jX h 1 ((i3).toNat)) 63) = 8)) → (¬ ((jand (jX h 1 ((i3).toNat)) 63) = 9)) → (¬ ((jand (jX h 1 ((i3).toNat)) 63) = 10)) → (¬ ((jand (jX h 1 ((i3).toNat)) 63) = 11)) → (¬ ((jand (jX h 1 ((i3).toNat)) 63) = 12)) → (¬ ((jand (jX h 1 ((i3).toNat)) 63) = 13)) → (¬ ((jand (jX h 1 ((i3).toNat)) 63) = 14)) → (¬ ((jand (jX h 1 ((i3).toNat)) 63) = 15)) → (¬ ((jand (jX h 1 ((i3).toNat)) 63) = 16)) → (¬ ((jand (jX h 1 ((i3).toNat)) 63) = 17)) → (¬ ((jand (jX h 1 ((i3).toNat)) 63) = 18)) → (¬ ((jand (jX h 1 ((i3).toNat)) 63) = 19)) → (¬ ((jand (jX h 1 ((i3).toNat)) 63) = 20)) → (¬ ((jand (jX h 1 ((i3).toNat)) 63) = 21)) → (¬ ((jand (jX h 1 ((i3).toNat)) 63) = 22)) → (¬ ((jand (jX h 1 ((i3).toNat)) 63) = 23)) → (¬ ((jand (jX h 1 ((i3).toNat)) 63) = 24)) → (¬ ((jand (jX h 1 ((i3).toNat)) 63) = 25)) → (¬ ((jand (jX h 1 ((i3).toNat)) 63) = 26)) → ((jand (jX h 1 ((i3).toNat)) 63) = 27) → jR (i3 + 1))
    (s94 : (¬ (((((jS h 1).2 : Int)) - 5) < i3)) → (¬ ((jand (jX h 1 ((i3).toNat)) 63) = 0)) → (¬ ((jand (jX h 1 ((i3).toNat)) 63) = 1)) → (¬ ((jand (jX h 1 ((i3).toNat)) 63) = 2)) → (¬ ((jand (jX h 1 ((i3).toNat)) 63) = 3)) → (¬ ((jand (jX h 1 ((i3).toNat)) 63) = 4)) → (¬ ((jand (jX h 1 ((i3).toNat)) 63) = 5)) → (¬ ((jand (jX h 1 ((i3).toNat)) 63) = 6)) → (¬ ((jand (jX h 1 ((i3).toNat)) 63) = 7)) → (¬ ((jand (jX h 1 ((i3).toNat)) 63) = 8)) → (¬ ((jand (jX h 1 ((i3).toNat)) 63) = 9)) → (¬ ((jand (jX h 1 ((i3).toNat)) 63) = 10)) → (¬ ((jand (jX h 1 ((i3).toNat)) 63) = 11)) → (¬ ((jand (jX h 1 ((i3).toNat)) 63) = 12)) → (¬ ((jand (jX h 1 ((i3).toNat)) 63) = 13)) → (¬ ((jand (jX h 1 ((i3).toNat)) 63) = 14)) → (¬ ((jand (jX h 1 ((i3).toNat)) 63) = 15)) → (¬ ((jand (jX h 1 ((i3).toNat)) 63) = 16)) → (¬ ((jand (jX h 1 ((i3).toNat)) 63) = 17)) → (¬ ((jand (jX h 1 ((i3).toNat)) 63) = 18)) → (¬ ((jand (jX h 1 ((i3).toNat)) 63) = 19)) → (¬ ((jand (jX h 1 ((i3).toNat)) 63) = 20)) → (¬ ((jand (jX h 1 ((i3).toNat)) 63) = 21)) → (¬ ((jand (jX h 1 ((i3).toNat)) 63) = 22)) → (¬ ((jand (jX h 1 ((i3).toNat)) 63) = 23)) → (¬ ((jand (jX h 1 ((i3).toNat)) 63) = 24)) → (¬ ((jand (jX h 1 ((i3).toNat)) 63) = 25)) → (¬ ((jand (jX h 1 ((i3).toNat)) 63) = 26)) → ((jand (jX h 1 ((i3).toNat)) 63) = 27) → 0 ≤ i3 + 1)
    (s95 : (¬ (((((jS h 1).2 : Int)) - 5) < i3)) → (¬ ((jand (jX h 1 ((i3).toNat)) 63) = 0)) → (¬ ((jand (jX h 1 ((i3).toNat)) 63) = 1)) → (¬ ((jand (jX h 1 ((i3).toNat)) 63) = 2)) → (¬ ((jand (jX h 1 ((i3).toNat)) 63) = 3)) → (¬ ((jand (jX h 1 ((i3).toNat)) 63) = 4)) → (¬ ((jand (jX h 1 ((i3).toNat)) 63) = 5)) → (¬ ((jand (jX h 1 ((i3).toNat)) 63) = 6)) → (¬ ((jand (jX h 1 ((i3).toNat)) 63) = 7)) → (¬ ((jand (jX h 1 ((i3).toNat)) 63) = 8)) → (¬ ((jand (jX h 1 ((i3).toNat)) 63) = 9)) → (¬ ((jand (jX h 1 ((i3).toNat)) 63) = 10)) → (¬ ((jand (jX h 1 ((i3).toNat)) 63) = 11)) → (¬ ((jand (jX h 1 ((i3).toNat)) 63) = 12)) → (¬ ((jand (jX h 1 ((i3).toNat)) 63) = 13)) → (¬ ((jand (jX h 1 ((i3).toNat)) 63) = 14)) → (¬ ((jand (jX h 1 ((i3).toNat)) 63) = 15)) → (¬ ((jand (jX h 1 ((i3).toNat)) 63) = 16)) → (¬ ((jand (jX h 1 ((i3).toNat)) 63) = 17)) → (¬ ((jand (jX h 1 ((i3).toNat)) 63) = 18)) → (¬ ((jand (jX h 1 ((i3).toNat)) 63) = 19)) → (¬ ((jand (jX h 1 ((i3).toNat)) 63) = 20)) → (¬ ((jand (jX h 1 ((i3).toNat)) 63) = 21)) → (¬ ((jand (jX h 1 ((i3).toNat)) 63) = 22)) → (¬ ((jand (jX h 1 ((i3).toNat)) 63) = 23)) → (¬ ((jand (jX h 1 ((i3).toNat)) 63) = 24)) → (¬ ((jand (jX h 1 ((i3).toNat)) 63) = 25)) → (¬ ((jand (jX h 1 ((i3).toNat)) 63) = 26)) → ((jand (jX h 1 ((i3).toNat)) 63) = 27) → i3 + 1 < ((jS h 1).2 : Int))
    (r48 : (¬ (((((jS h 1).2 : Int)) - 5) < i3)) → (¬ ((jand (jX h 1 ((i3).toNat)) 63) = 0)) → (¬ ((jand (jX h 1 ((i3).toNat)) 63) = 1)) → (¬ ((jand (jX h 1 ((i3).toNat)) 63) = 2)) → (¬ ((jand (jX h 1 ((i3).toNat)) 63) = 3)) → (¬ ((jand (jX h 1 ((i3).toNat)) 63) = 4)) → (¬ ((jand (jX h 1 ((i3).toNat)) 63) = 5)) → (¬ ((jand (jX h 1 ((i3).toNat)) 63) = 6)) → (¬ ((jand (jX h 1 ((i3).toNat)) 63) = 7)) → (¬ ((jand (jX h 1 ((i3).toNat)) 63) = 8)) → (¬ ((jand (jX h 1 ((i3).toNat)) 63) = 9)) → (¬ ((jand (jX h 1 ((i3).toNat)) 63) = 10)) → (¬ ((jand (jX h 1 ((i3).toNat)) 63) = 11)) → (¬ ((jand (jX h 1 ((i3).toNat)) 63) = 12)) → (¬ ((jand (jX h 1 ((i3).toNat)) 63) = 13)) → (¬ ((jand (jX h 1 ((i3).toNat)) 63) = 14)) → (¬ ((jand (jX h 1 ((i3).toNat)) 63) = 15)) → (¬ ((jand (jX h 1 ((i3).toNat)) 63) = 16)) → (¬ ((jand (jX h 1 ((i3).toNat)) 63) = 17)) → (¬ ((jand (jX h 1 ((i3).toNat)) 63) = 18)) → (¬ ((jand (jX h 1 ((i3).toNat)) 63) = 19)) → (¬ ((jand (jX h 1 ((i3).toNat)) 63) = 20)) → (¬ ((jand (jX h 1 ((i3).toNat)) 63) = 21)) → (¬ ((jand (jX h 1 ((i3).toNat)) 63) = 22)) → (¬ ((jand (jX h 1 ((i3).toNat)) 63) = 23)) → (¬ ((jand (jX h 1 ((i3).toNat)) 63) = 24)) → (¬ ((jand (jX h 1 ((i3).toNat)) 63) = 25)) → (¬ ((jand (jX h 1 ((i3).toNat)) 63) = 26)) → ((jand (jX h 1 ((i3).toNat)) 63) = 27) → jR (i3 + 2))
    (s96 : (¬ (((((jS h 1).2 : Int)) - 5) < i3)) → (¬ ((jand (jX h 1 ((i3).toNat)) 63) = 0)) → (¬ ((jand (jX h 1 ((i3).toNat)) 63) = 1)) → (¬ ((jand (jX h 1 ((i3).toNat)) 63) = 2)) → (¬ ((jand (jX h 1 ((i3).toNat)) 63) = 3)) → (¬ ((jand (jX h 1 ((i3).toNat)) 63) = 4)) → (¬ ((jand (jX h 1 ((i3).toNat)) 63) = 5)) → (¬ ((jand (jX h 1 ((i3).toNat)) 63) = 6)) → (¬ ((jand (jX h 1 ((i3).toNat)) 63) = 7)) → (¬ ((jand (jX h 1 ((i3).toNat)) 63) = 8)) → (¬ ((jand (jX h 1 ((i3).toNat)) 63) = 9)) → (¬ ((jand (jX h 1 ((i3).toNat)) 63) = 10)) → (¬ ((jand (jX h 1 ((i3).toNat)) 63) = 11)) → (¬ ((jand (jX h 1 ((i3).toNat)) 63) = 12)) → (¬ ((jand (jX h 1 ((i3).toNat)) 63) = 13)) → (¬ ((jand (jX h 1 ((i3).toNat)) 63) = 14)) → (¬ ((jand (jX h 1 ((i3).toNat)) 63) = 15)) → (¬ ((jand (jX h 1 ((i3).toNat)) 63) = 16)) → (¬ ((jand (jX h 1 ((i3).toNat)) 63) = 17)) → (¬ ((jand (jX h 1 ((i3).toNat)) 63) = 18)) → (¬ ((jand (jX h 1 ((i3).toNat)) 63) = 19)) → (¬ ((jand (jX h 1 ((i3).toNat)) 63) = 20)) → (¬ ((jand (jX h 1 ((i3).toNat)) 63) = 21)) → (¬ ((jand (jX h 1 ((i3).toNat)) 63) = 22)) → (¬ ((jand (jX h 1 ((i3).toNat)) 63) = 23)) → (¬ ((jand (jX h 1 ((i3).toNat)) 63) = 24)) → (¬ ((jand (jX h 1 ((i3).toNat)) 63) = 25)) → (¬ ((jand (jX h 1 ((i3).toNat)) 63) = 26)) → ((jand (jX h 1 ((i3).toNat)) 63) = 27) → 0 ≤ i3 + 2)
    (s97 : (¬ (((((jS h 1).2 : Int)) - 5) < i3)) → (¬ ((jand (jX h 1 ((i3).toNat)) 63) = 0)) → (¬ ((jand (jX h 1 ((i3).toNat)) 63) = 1)) → (¬ ((jand (jX h 1 ((i3).toNat)) 63) = 2)) → (¬ ((jand (jX h 1 ((i3).toNat)) 63) = 3)) → (¬ ((jand (jX h 1 ((i3).toNat)) 63) = 4)) → (¬ ((jand (jX h 1 ((i3).toNat)) 63) = 5)) → (¬ ((jand (jX h 1 ((i3).toNat)) 63) = 6)) → (¬ ((jand (jX h 1 ((i3).toNat)) 63) = 7)) → (¬ ((jand (jX h 1 ((i3).toNat)) 63) = 8)) → (¬ ((jand (jX h 1 ((i3).toNat)) 63) = 9)) → (¬ ((jand (jX h 1 ((i3).toNat)) 63) = 10)) → (¬ ((jand (jX h 1 ((i3).toNat)) 63) = 11)) → (¬ ((jand (jX h 1 ((i3).toNat)) 63) = 12)) → (¬ ((jand (jX h 1 ((i3).toNat)) 63) = 13)) → (¬ ((jand (jX h 1 ((i3).toNat)) 63) = 14)) → (¬ ((jand (jX h 1 ((i3).toNat)) 63) = 15)) → (¬ ((jand (jX h 1 ((i3).toNat)) 63) = 16)) → (¬ ((jand (jX h 1 ((i3).toNat)) 63) = 17)) → (¬ ((jand (jX h 1 ((i3).toNat)) 63) = 18)) → (¬ ((jand (jX h 1 ((i3).toNat)) 63) = 19)) → (¬ ((jand (jX h 1 ((i3).toNat)) 63) = 20)) → (¬ ((jand (jX h 1 ((i3).toNat)) 63) = 21)) → (¬ ((jand (jX h 1 ((i3).toNat)) 63) = 22)) → (¬ ((jand (jX h 1 ((i3).toNat)) 63) = 23)) → (¬ ((jand (jX h 1 ((i3).toNat)) 63) = 24)) → (¬ ((jand (jX h 1 ((i3).toNat)) 63) = 25)) → (¬ ((jand (jX h 1 ((i3).toNat)) 63) = 26)) → ((jand (jX h 1 ((i3).toNat)) 63) = 27) → i3 + 2 < ((jS h 1).2 : Int))
    (e28 : (¬ (((((jS h 1).2 : Int)) - 5) < i3)) → (¬ ((jand (jX h 1 ((i3).toNat)) 63) = 0)) → (¬ ((jand (jX h 1 ((i3).toNat)) 63) = 1)) → (¬ ((jand (jX h 1 ((i3).toNat)) 63) = 2)) → (¬ ((jand (jX h 1 ((i3).toNat)) 63) = 3)) → (¬ ((jand (jX h 1 ((i3).toNat)) 63) = 4)) → (¬ ((jand (jX h 1 ((i3).toNat)) 63) = 5)) → (¬ ((jand (jX h 1 ((i3).toNat)) 63) = 6)) → (¬ ((jand (jX h 1 ((i3).toNat)) 63) = 7)) → (¬ ((jand (jX h 1 ((i3).toNat)) 63) = 8)) → (¬ ((jand (jX h 1 ((i3).toNat)) 63) = 9)) → (¬ ((jand (jX h 1 ((i3).toNat)) 63) = 10)) → (¬ ((jand (jX h 1 ((i3).toNat)) 63) = 11)) → (¬ ((jand (jX h 1 ((i3).toNat)) 63) = 12)) → (¬ ((jand (jX h 1 ((i3).toNat)) 63) = 13)) → (¬ ((jand (jX h 1 ((i3).toNat)) 63) = 14)) → (¬ ((jand (jX h 1 ((i3).toNat)) 63) = 15)) → (¬ ((jand (jX h 1 ((i3).toNat)) 63) = 16)) → (¬ ((jand (jX h 1 ((i3).toNat)) 63) = 17)) → (¬ ((jand (jX h 1 ((i3).toNat)) 63) = 18)) → (¬ ((jand (jX h 1 ((i3).toNat)) 63) = 19)) → (¬ ((jand (jX h 1 ((i3).toNat)) 63) = 20)) → (¬ ((jand (jX h 1 ((i3).toNat)) 63) = 21)) → (¬ ((jand (jX h 1 ((i3).toNat)) 63) = 22)) → (¬ ((jand (jX h 1 ((i3).toNat)) 63) = 23)) → (¬ ((jand (jX h 1 ((i3).toNat)) 63) = 24)) → (¬ ((jand (jX h 1 ((i3).toNat)) 63) = 25)) → (¬ ((jand (jX h 1 ((i3).toNat)) 63) = 26)) → ((jand (jX h 1 ((i3).toNat)) 63) = 27) → Ex MX8_sees (d + 1) [.inr a1, .inl (jX h 1 ((i3 + 1).toNat)), .inl (jX h 1 ((i3 + 2).toNat))] h 0 0 (fun v h2 => V ML_law (d + 13) 999 [some (.inr 1), some (.inr a1), some (.inr a2), some (.inl i3)] (v.toList ++ []) h2 0 0 Q))
    (e29 : (¬ (((((jS h 1).2 : Int)) - 5) < i3)) → (¬ ((jand (jX h 1 ((i3).toNat)) 63) = 0)) → (¬ ((jand (jX h 1 ((i3).toNat)) 63) = 1)) → (¬ ((jand (jX h 1 ((i3).toNat)) 63) = 2)) → (¬ ((jand (jX h 1 ((i3).toNat)) 63) = 3)) → (¬ ((jand (jX h 1 ((i3).toNat)) 63) = 4)) → (¬ ((jand (jX h 1 ((i3).toNat)) 63) = 5)) → (¬ ((jand (jX h 1 ((i3).toNat)) 63) = 6)) → (¬ ((jand (jX h 1 ((i3).toNat)) 63) = 7)) → (¬ ((jand (jX h 1 ((i3).toNat)) 63) = 8)) → (¬ ((jand (jX h 1 ((i3).toNat)) 63) = 9)) → (¬ ((jand (jX h 1 ((i3).toNat)) 63) = 10)) → (¬ ((jand (jX h 1 ((i3).toNat)) 63) = 11)) → (¬ ((jand (jX h 1 ((i3).toNat)) 63) = 12)) → (¬ ((jand (jX h 1 ((i3).toNat)) 63) = 13)) → (¬ ((jand (jX h 1 ((i3).toNat)) 63) = 14)) → (¬ ((jand (jX h 1 ((i3).toNat)) 63) = 15)) → (¬ ((jand (jX h 1 ((i3).toNat)) 63) = 16)) → (¬ ((jand (jX h 1 ((i3).toNat)) 63) = 17)) → (¬ ((jand (jX h 1 ((i3).toNat)) 63) = 18)) → (¬ ((jand (jX h 1 ((i3).toNat)) 63) = 19)) → (¬ ((jand (jX h 1 ((i3).toNat)) 63) = 20)) → (¬ ((jand (jX h 1 ((i3).toNat)) 63) = 21)) → (¬ ((jand (jX h 1 ((i3).toNat)) 63) = 22)) → (¬ ((jand (jX h 1 ((i3).toNat)) 63) = 23)) → (¬ ((jand (jX h 1 ((i3).toNat)) 63) = 24)) → (¬ ((jand (jX h 1 ((i3).toNat)) 63) = 25)) → (¬ ((jand (jX h 1 ((i3).toNat)) 63) = 26)) → (¬ ((jand (jX h 1 ((i3).toNat)) 63) = 27)) → ((jand (jX h 1 ((i3).toNat)) 63) = 28) → Ex MX8_forget d [.inr a1] h 0 0 (fun v h2 => V ML_law (d + 13) 1022 [some (.inr 1), some (.inr a1), some (.inr a2), some (.inl i3)] (v.toList ++ []) h2 0 0 Q))
    (e30 : (¬ (((((jS h 1).2 : Int)) - 5) < i3)) → (¬ ((jand (jX h 1 ((i3).toNat)) 63) = 0)) → (¬ ((jand (jX h 1 ((i3).toNat)) 63) = 1)) → (¬ ((jand (jX h 1 ((i3).toNat)) 63) = 2)) → (¬ ((jand (jX h 1 ((i3).toNat)) 63) = 3)) → (¬ ((jand (jX h 1 ((i3).toNat)) 63) = 4)) → (¬ ((jand (jX h 1 ((i3).toNat)) 63) = 5)) → (¬ ((jand (jX h 1 ((i3).toNat)) 63) = 6)) → (¬ ((jand (jX h 1 ((i3).toNat)) 63) = 7)) → (¬ ((jand (jX h 1 ((i3).toNat)) 63) = 8)) → (¬ ((jand (jX h 1 ((i3).toNat)) 63) = 9)) → (¬ ((jand (jX h 1 ((i3).toNat)) 63) = 10)) → (¬ ((jand (jX h 1 ((i3).toNat)) 63) = 11)) → (¬ ((jand (jX h 1 ((i3).toNat)) 63) = 12)) → (¬ ((jand (jX h 1 ((i3).toNat)) 63) = 13)) → (¬ ((jand (jX h 1 ((i3).toNat)) 63) = 14)) → (¬ ((jand (jX h 1 ((i3).toNat)) 63) = 15)) → (¬ ((jand (jX h 1 ((i3).toNat)) 63) = 16)) → (¬ ((jand (jX h 1 ((i3).toNat)) 63) = 17)) → (¬ ((jand (jX h 1 ((i3).toNat)) 63) = 18)) → (¬ ((jand (jX h 1 ((i3).toNat)) 63) = 19)) → (¬ ((jand (jX h 1 ((i3).toNat)) 63) = 20)) → (¬ ((jand (jX h 1 ((i3).toNat)) 63) = 21)) → (¬ ((jand (jX h 1 ((i3).toNat)) 63) = 22)) → (¬ ((jand (jX h 1 ((i3).toNat)) 63) = 23)) → (¬ ((jand (jX h 1 ((i3).toNat)) 63) = 24)) → (¬ ((jand (jX h 1 ((i3).toNat)) 63) = 25)) → (¬ ((jand (jX h 1 ((i3).toNat)) 63) = 26)) → (¬ ((jand (jX h 1 ((i3).toNat)) 63) = 27)) → (¬ ((jand (jX h 1 ((i3).toNat)) 63) = 28)) → ((jand (jX h 1 ((i3).toNat)) 63) = 29) → Ex MX8_which (d + 5) [.inr a1] h 0 0 (fun v h2 => V ML_law (d + 13) 1035 [some (.inr 1), some (.inr a1), some (.inr a2), some (.inl i3)] (v.toList ++ []) h2 0 0 Q))
    (e31 : (¬ (((((jS h 1).2 : Int)) - 5) < i3)) → (¬ ((jand (jX h 1 ((i3).toNat)) 63) = 0)) → (¬ ((jand (jX h 1 ((i3).toNat)) 63) = 1)) → (¬ ((jand (jX h 1 ((i3).toNat)) 63) = 2)) → (¬ ((jand (jX h 1 ((i3).toNat)) 63) = 3)) → (¬ ((jand (jX h 1 ((i3).toNat)) 63) = 4)) → (¬ ((jand (jX h 1 ((i3).toNat)) 63) = 5)) → (¬ ((jand (jX h 1 ((i3).toNat)) 63) = 6)) → (¬ ((jand (jX h 1 ((i3).toNat)) 63) = 7)) → (¬ ((jand (jX h 1 ((i3).toNat)) 63) = 8)) → (¬ ((jand (jX h 1 ((i3).toNat)) 63) = 9)) → (¬ ((jand (jX h 1 ((i3).toNat)) 63) = 10)) → (¬ ((jand (jX h 1 ((i3).toNat)) 63) = 11)) → (¬ ((jand (jX h 1 ((i3).toNat)) 63) = 12)) → (¬ ((jand (jX h 1 ((i3).toNat)) 63) = 13)) → (¬ ((jand (jX h 1 ((i3).toNat)) 63) = 14)) → (¬ ((jand (jX h 1 ((i3).toNat)) 63) = 15)) → (¬ ((jand (jX h 1 ((i3).toNat)) 63) = 16)) → (¬ ((jand (jX h 1 ((i3).toNat)) 63) = 17)) → (¬ ((jand (jX h 1 ((i3).toNat)) 63) = 18)) → (¬ ((jand (jX h 1 ((i3).toNat)) 63) = 19)) → (¬ ((jand (jX h 1 ((i3).toNat)) 63) = 20)) → (¬ ((jand (jX h 1 ((i3).toNat)) 63) = 21)) → (¬ ((jand (jX h 1 ((i3).toNat)) 63) = 22)) → (¬ ((jand (jX h 1 ((i3).toNat)) 63) = 23)) → (¬ ((jand (jX h 1 ((i3).toNat)) 63) = 24)) → (¬ ((jand (jX h 1 ((i3).toNat)) 63) = 25)) → (¬ ((jand (jX h 1 ((i3).toNat)) 63) = 26)) → (¬ ((jand (jX h 1 ((i3).toNat)) 63) = 27)) → (¬ ((jand (jX h 1 ((i3).toNat)) 63) = 28)) → (¬ ((jand (jX h 1 ((i3).toNat)) 63) = 29)) → ((jand (jX h 1 ((i3).toNat)) 63) = 30) → Ex MX8_look (d + 5) [.inr a1] h 0 0 (fun v h2 => V ML_law (d + 13) 1048 [some (.inr 1), some (.inr a1), some (.inr a2), some (.inl i3)] (v.toList ++ []) h2 0 0 Q))
    (r49 : (¬ (((((jS h 1).2 : Int)) - 5) < i3)) → (¬ ((jand (jX h 1 ((i3).toNat)) 63) = 0)) → (¬ ((jand (jX h 1 ((i3).toNat)) 63) = 1)) → (¬ ((jand (jX h 1 ((i3).toNat)) 63) = 2)) → (¬ ((jand (jX h 1 ((i3).toNat)) 63) = 3)) → (¬ ((jand (jX h 1 ((i3).toNat)) 63) = 4)) → (¬ ((jand (jX h 1 ((i3).toNat)) 63) = 5)) → (¬ ((jand (jX h 1 ((i3).toNat)) 63) = 6)) → (¬ ((jand (jX h 1 ((i3).toNat)) 63) = 7)) → (¬ ((jand (jX h 1 ((i3).toNat)) 63) = 8)) → (¬ ((jand (jX h 1 ((i3).toNat)) 63) = 9)) → (¬ ((jand (jX h 1 ((i3).toNat)) 63) = 10)) → (¬ ((jand (jX h 1 ((i3).toNat)) 63) = 11)) → (¬ ((jand (jX h 1 ((i3).toNat)) 63) = 12)) → (¬ ((jand (jX h 1 ((i3).toNat)) 63) = 13)) → (¬ ((jand (jX h 1 ((i3).toNat)) 63) = 14)) → (¬ ((jand (jX h 1 ((i3).toNat)) 63) = 15)) → (¬ ((jand (jX h 1 ((i3).toNat)) 63) = 16)) → (¬ ((jand (jX h 1 ((i3).toNat)) 63) = 17)) → (¬ ((jand (jX h 1 ((i3).toNat)) 63) = 18)) → (¬ ((jand (jX h 1 ((i3).toNat)) 63) = 19)) → (¬ ((jand (jX h 1 ((i3).toNat)) 63) = 20)) → (¬ ((jand (jX h 1 ((i3).toNat)) 63) = 21)) → (¬ ((jand (jX h 1 ((i3).toNat)) 63) = 22)) → (¬ ((jand (jX h 1 ((i3).toNat)) 63) = 23)) → (¬ ((jand (jX h 1 ((i3).toNat)) 63) = 24)) → (¬ ((jand (jX h 1 ((i3).toNat)) 63) = 25)) → (¬ ((jand (jX h 1 ((i3).toNat)) 63) = 26)) → (¬ ((jand (jX h 1 ((i3).toNat)) 63) = 27)) → (¬ ((jand (jX h 1 ((i3).toNat)) 63) = 28)) → (¬ ((jand (jX h 1 ((i3).toNat)) 63) = 29)) → (¬ ((jand (jX h 1 ((i3).toNat)) 63) = 30)) → ((jand (jX h 1 ((i3).toNat)) 63) = 31) → jR (i3 + 1))
    (s98 : (¬ (((((jS h 1).2 : Int)) - 5) < i3)) → (¬ ((jand (jX h 1 ((i3).toNat)) 63) = 0)) → (¬ ((jand (jX h 1 ((i3).toNat)) 63) = 1)) → (¬ ((jand (jX h 1 ((i3).toNat)) 63) = 2)) → (¬ ((jand (jX h 1 ((i3).toNat)) 63) = 3)) → (¬ ((jand (jX h 1 ((i3).toNat)) 63) = 4)) → (¬ ((jand (jX h 1 ((i3).toNat)) 63) = 5)) → (¬ ((jand (jX h 1 ((i3).toNat)) 63) = 6)) → (¬ ((jand (jX h 1 ((i3).toNat)) 63) = 7)) → (¬ ((jand (jX h 1 ((i3).toNat)) 63) = 8)) → (¬ ((jand (jX h 1 ((i3).toNat)) 63) = 9)) → (¬ ((jand (jX h 1 ((i3).toNat)) 63) = 10)) → (¬ ((jand (jX h 1 ((i3).toNat)) 63) = 11)) → (¬ ((jand (jX h 1 ((i3).toNat)) 63) = 12)) → (¬ ((jand (jX h 1 ((i3).toNat)) 63) = 13)) → (¬ ((jand (jX h 1 ((i3).toNat)) 63) = 14)) → (¬ ((jand (jX h 1 ((i3).toNat)) 63) = 15)) → (¬ ((jand (jX h 1 ((i3).toNat)) 63) = 16)) → (¬ ((jand (jX h 1 ((i3).toNat)) 63) = 17)) → (¬ ((jand (jX h 1 ((i3).toNat)) 63) = 18)) → (¬ ((jand (jX h 1 ((i3).toNat)) 63) = 19)) → (¬ ((jand (jX h 1 ((i3).toNat)) 63) = 20)) → (¬ ((jand (jX h 1 ((i3).toNat)) 63) = 21)) → (¬ ((jand (jX h 1 ((i3).toNat)) 63) = 22)) → (¬ ((jand (jX h 1 ((i3).toNat)) 63) = 23)) → (¬ ((jand (jX h 1 ((i3).toNat)) 63) = 24)) → (¬ ((jand (jX h 1 ((i3).toNat)) 63) = 25)) → (¬ ((jand (jX h 1 ((i3).toNat)) 63) = 26)) → (¬ ((jand (jX h 1 ((i3).toNat)) 63) = 27)) → (¬ ((jand (jX h 1 ((i3).toNat)) 63) = 28)) → (¬ ((jand (jX h 1 ((i3).toNat)) 63) = 29)) → (¬ ((jand (jX h 1 ((i3).toNat)) 63) = 30)) → ((jand (jX h 1 ((i3).toNat)) 63) = 31) → 0 ≤ i3 + 1)
    (s99 : (¬ (((((jS h 1).2 : Int)) - 5) < i3)) → (¬ ((jand (jX h 1 ((i3).toNat)) 63) = 0)) → (¬ ((jand (jX h 1 ((i3).toNat)) 63) = 1)) → (¬ ((jand (jX h 1 ((i3).toNat)) 63) = 2)) → (¬ ((jand (jX h 1 ((i3).toNat)) 63) = 3)) → (¬ ((jand (jX h 1 ((i3).toNat)) 63) = 4)) → (¬ ((jand (jX h 1 ((i3).toNat)) 63) = 5)) → (¬ ((jand (jX h 1 ((i3).toNat)) 63) = 6)) → (¬ ((jand (jX h 1 ((i3).toNat)) 63) = 7)) → (¬ ((jand (jX h 1 ((i3).toNat)) 63) = 8)) → (¬ ((jand (jX h 1 ((i3).toNat)) 63) = 9)) → (¬ ((jand (jX h 1 ((i3).toNat)) 63) = 10)) → (¬ ((jand (jX h 1 ((i3).toNat)) 63) = 11)) → (¬ ((jand (jX h 1 ((i3).toNat)) 63) = 12)) → (¬ ((jand (jX h 1 ((i3).toNat)) 63) = 13)) → (¬ ((jand (jX h 1 ((i3).toNat)) 63) = 14)) → (¬ ((jand (jX h 1 ((i3).toNat)) 63) = 15)) → (¬ ((jand (jX h 1 ((i3).toNat)) 63) = 16)) → (¬ ((jand (jX h 1 ((i3).toNat)) 63) = 17)) → (¬ ((jand (jX h 1 ((i3).toNat)) 63) = 18)) → (¬ ((jand (jX h 1 ((i3).toNat)) 63) = 19)) → (¬ ((jand (jX h 1 ((i3).toNat)) 63) = 20)) → (¬ ((jand (jX h 1 ((i3).toNat)) 63) = 21)) → (¬ ((jand (jX h 1 ((i3).toNat)) 63) = 22)) → (¬ ((jand (jX h 1 ((i3).toNat)) 63) = 23)) → (¬ ((jand (jX h 1 ((i3).toNat)) 63) = 24)) → (¬ ((jand (jX h 1 ((i3).toNat)) 63) = 25)) → (¬ ((jand (jX h 1 ((i3).toNat)) 63) = 26)) → (¬ ((jand (jX h 1 ((i3).toNat)) 63) = 27)) → (¬ ((jand (jX h 1 ((i3).toNat)) 63) = 28)) → (¬ ((jand (jX h 1 ((i3).toNat)) 63) = 29)) → (¬ ((jand (jX h 1 ((i3).toNat)) 63) = 30)) → ((jand (jX h 1 ((i3).toNat)) 63) = 31) → i3 + 1 < ((jS h 1).2 : Int))
    (e32 : (¬ (((((jS h 1).2 : Int)) - 5) < i3)) → (¬ ((jand (jX h 1 ((i3).toNat)) 63) = 0)) → (¬ ((jand (jX h 1 ((i3).toNat)) 63) = 1)) → (¬ ((jand (jX h 1 ((i3).toNat)) 63) = 2)) → (¬ ((jand (jX h 1 ((i3).toNat)) 63) = 3)) → (¬ ((jand (jX h 1 ((i3).toNat)) 63) = 4)) → (¬ ((jand (jX h 1 ((i3).toNat)) 63) = 5)) → (¬ ((jand (jX h 1 ((i3).toNat)) 63) = 6)) → (¬ ((jand (jX h 1 ((i3).toNat)) 63) = 7)) → (¬ ((jand (jX h 1 ((i3).toNat)) 63) = 8)) → (¬ ((jand (jX h 1 ((i3).toNat)) 63) = 9)) → (¬ ((jand (jX h 1 ((i3).toNat)) 63) = 10)) → (¬ ((jand (jX h 1 ((i3).toNat)) 63) = 11)) → (¬ ((jand (jX h 1 ((i3).toNat)) 63) = 12)) → (¬ ((jand (jX h 1 ((i3).toNat)) 63) = 13)) → (¬ ((jand (jX h 1 ((i3).toNat)) 63) = 14)) → (¬ ((jand (jX h 1 ((i3).toNat)) 63) = 15)) → (¬ ((jand (jX h 1 ((i3).toNat)) 63) = 16)) → (¬ ((jand (jX h 1 ((i3).toNat)) 63) = 17)) → (¬ ((jand (jX h 1 ((i3).toNat)) 63) = 18)) → (¬ ((jand (jX h 1 ((i3).toNat)) 63) = 19)) → (¬ ((jand (jX h 1 ((i3).toNat)) 63) = 20)) → (¬ ((jand (jX h 1 ((i3).toNat)) 63) = 21)) → (¬ ((jand (jX h 1 ((i3).toNat)) 63) = 22)) → (¬ ((jand (jX h 1 ((i3).toNat)) 63) = 23)) → (¬ ((jand (jX h 1 ((i3).toNat)) 63) = 24)) → (¬ ((jand (jX h 1 ((i3).toNat)) 63) = 25)) → (¬ ((jand (jX h 1 ((i3).toNat)) 63) = 26)) → (¬ ((jand (jX h 1 ((i3).toNat)) 63) = 27)) → (¬ ((jand (jX h 1 ((i3).toNat)) 63) = 28)) → (¬ ((jand (jX h 1 ((i3).toNat)) 63) = 29)) → (¬ ((jand (jX h 1 ((i3).toNat)) 63) = 30)) → ((jand (jX h 1 ((i3).toNat)) 63) = 31) → Ex MX8_keep (d + 5) [.inr a1, .inl (jX h 1 ((i3 + 1).toNat))] h 0 0 (fun v h2 => V ML_law (d + 13) 1066 [some (.inr 1), some (.inr a1), some (.inr a2), some (.inl i3)] (v.toList ++ []) h2 0 0 Q))
    (r50 : (¬ (((((jS h 1).2 : Int)) - 5) < i3)) → (¬ ((jand (jX h 1 ((i3).toNat)) 63) = 0)) → (¬ ((jand (jX h 1 ((i3).toNat)) 63) = 1)) → (¬ ((jand (jX h 1 ((i3).toNat)) 63) = 2)) → (¬ ((jand (jX h 1 ((i3).toNat)) 63) = 3)) → (¬ ((jand (jX h 1 ((i3).toNat)) 63) = 4)) → (¬ ((jand (jX h 1 ((i3).toNat)) 63) = 5)) → (¬ ((jand (jX h 1 ((i3).toNat)) 63) = 6)) → (¬ ((jand (jX h 1 ((i3).toNat)) 63) = 7)) → (¬ ((jand (jX h 1 ((i3).toNat)) 63) = 8)) → (¬ ((jand (jX h 1 ((i3).toNat)) 63) = 9)) → (¬ ((jand (jX h 1 ((i3).toNat)) 63) = 10)) → (¬ ((jand (jX h 1 ((i3).toNat)) 63) = 11)) → (¬ ((jand (jX h 1 ((i3).toNat)) 63) = 12)) → (¬ ((jand (jX h 1 ((i3).toNat)) 63) = 13)) → (¬ ((jand (jX h 1 ((i3).toNat)) 63) = 14)) → (¬ ((jand (jX h 1 ((i3).toNat)) 63) = 15)) → (¬ ((jand (jX h 1 ((i3).toNat)) 63) = 16)) → (¬ ((jand (jX h 1 ((i3).toNat)) 63) = 17)) → (¬ ((jand (jX h 1 ((i3).toNat)) 63) = 18)) → (¬ ((jand (jX h 1 ((i3).toNat)) 63) = 19)) → (¬ ((jand (jX h 1 ((i3).toNat)) 63) = 20)) → (¬ ((jand (jX h 1 ((i3).toNat)) 63) = 21)) → (¬ ((jand (jX h 1 ((i3).toNat)) 63) = 22)) → (¬ ((jand (jX h 1 ((i3).toNat)) 63) = 23)) → (¬ ((jand (jX h 1 ((i3).toNat)) 63) = 24)) → (¬ ((jand (jX h 1 ((i3).toNat)) 63) = 25)) → (¬ ((jand (jX h 1 ((i3).toNat)) 63) = 26)) → (¬ ((jand (jX h 1 ((i3).toNat)) 63) = 27)) → (¬ ((jand (jX h 1 ((i3).toNat)) 63) = 28)) → (¬ ((jand (jX h 1 ((i3).toNat)) 63) = 29)) → (¬ ((jand (jX h 1 ((i3).toNat)) 63) = 30)) → (¬ ((jand (jX h 1 ((i3).toNat)) 63) = 31)) → ((jand (jX h 1 ((i3).toNat)) 63) = 32) → jR (i3 + 1))
    (s100 : (¬ (((((jS h 1).2 : Int)) - 5) < i3)) → (¬ ((jand (jX h 1 ((i3).toNat)) 63) = 0)) → (¬ ((jand (jX h 1 ((i3).toNat)) 63) = 1)) → (¬ ((jand (jX h 1 ((i3).toNat)) 63) = 2)) → (¬ ((jand (jX h 1 ((i3).toNat)) 63) = 3)) → (¬ ((jand (jX h 1 ((i3).toNat)) 63) = 4)) → (¬ ((jand (jX h 1 ((i3).toNat)) 63) = 5)) → (¬ ((jand (jX h 1 ((i3).toNat)) 63) = 6)) → (¬ ((jand (jX h 1 ((i3).toNat)) 63) = 7)) → (¬ ((jand (jX h 1 ((i3).toNat)) 63) = 8)) → (¬ ((jand (jX h 1 ((i3).toNat)) 63) = 9)) → (¬ ((jand (jX h 1 ((i3).toNat)) 63) = 10)) → (¬ ((jand (jX h 1 ((i3).toNat)) 63) = 11)) → (¬ ((jand (jX h 1 ((i3).toNat)) 63) = 12)) → (¬ ((jand (jX h 1 ((i3).toNat)) 63) = 13)) → (¬ ((jand (jX h 1 ((i3).toNat)) 63) = 14)) → (¬ ((jand (jX h 1 ((i3).toNat)) 63) = 15)) → (¬ ((jand (jX h 1 ((i3).toNat)) 63) = 16)) → (¬ ((jand (jX h 1 ((i3).toNat)) 63) = 17)) → (¬ ((jand (jX h 1 ((i3).toNat)) 63) = 18)) → (¬ ((jand (jX h 1 ((i3).toNat)) 63) = 19)) → (¬ ((jand (jX h 1 ((i3).toNat)) 63) = 20)) → (¬ ((jand (jX h 1 ((i3).toNat)) 63) = 21)) → (¬ ((jand (jX h 1 ((i3).toNat)) 63) = 22)) → (¬ ((jand (jX h 1 ((i3).toNat)) 63) = 23)) → (¬ ((jand (jX h 1 ((i3).toNat)) 63) = 24)) → (¬ ((jand (jX h 1 ((i3).toNat)) 63) = 25)) → (¬ ((jand (jX h 1 ((i3).toNat)) 63) = 26)) → (¬ ((jand (jX h 1 ((i3).toNat)) 63) = 27)) → (¬ ((jand (jX h 1 ((i3).toNat)) 63) = 28)) → (¬ ((jand (jX h 1 ((i3).toNat)) 63) = 29)) → (¬ ((jand (jX h 1 ((i3).toNat)) 63) = 30)) → (¬ ((jand (jX h 1 ((i3).toNat)) 63) = 31)) → ((jand (jX h 1 ((i3).toNat)) 63) = 32) → 0 ≤ i3 + 1)
    (s101 : (¬ (((((jS h 1).2 : Int)) - 5) < i3)) → (¬ ((jand (jX h 1 ((i3).toNat)) 63) = 0)) → (¬ ((jand (jX h 1 ((i3).toNat)) 63) = 1)) → (¬ ((jand (jX h 1 ((i3).toNat)) 63) = 2)) → (¬ ((jand (jX h 1 ((i3).toNat)) 63) = 3)) → (¬ ((jand (jX h 1 ((i3).toNat)) 63) = 4)) → (¬ ((jand (jX h 1 ((i3).toNat)) 63) = 5)) → (¬ ((jand (jX h 1 ((i3).toNat)) 63) = 6)) → (¬ ((jand (jX h 1 ((i3).toNat)) 63) = 7)) → (¬ ((jand (jX h 1 ((i3).toNat)) 63) = 8)) → (¬ ((jand (jX h 1 ((i3).toNat)) 63) = 9)) → (¬ ((jand (jX h 1 ((i3).toNat)) 63) = 10)) → (¬ ((jand (jX h 1 ((i3).toNat)) 63) = 11)) → (¬ ((jand (jX h 1 ((i3).toNat)) 63) = 12)) → (¬ ((jand (jX h 1 ((i3).toNat)) 63) = 13)) → (¬ ((jand (jX h 1 ((i3).toNat)) 63) = 14)) → (¬ ((jand (jX h 1 ((i3).toNat)) 63) = 15)) → (¬ ((jand (jX h 1 ((i3).toNat)) 63) = 16)) → (¬ ((jand (jX h 1 ((i3).toNat)) 63) = 17)) → (¬ ((jand (jX h 1 ((i3).toNat)) 63) = 18)) → (¬ ((jand (jX h 1 ((i3).toNat)) 63) = 19)) → (¬ ((jand (jX h 1 ((i3).toNat)) 63) = 20)) → (¬ ((jand (jX h 1 ((i3).toNat)) 63) = 21)) → (¬ ((jand (jX h 1 ((i3).toNat)) 63) = 22)) → (¬ ((jand (jX h 1 ((i3).toNat)) 63) = 23)) → (¬ ((jand (jX h 1 ((i3).toNat)) 63) = 24)) → (¬ ((jand (jX h 1 ((i3).toNat)) 63) = 25)) → (¬ ((jand (jX h 1 ((i3).toNat)) 63) = 26)) → (¬ ((jand (jX h 1 ((i3).toNat)) 63) = 27)) → (¬ ((jand (jX h 1 ((i3).toNat)) 63) = 28)) → (¬ ((jand (jX h 1 ((i3).toNat)) 63) = 29)) → (¬ ((jand (jX h 1 ((i3).toNat)) 63) = 30)) → (¬ ((jand (jX h 1 ((i3).toNat)) 63) = 31)) → ((jand (jX h 1 ((i3).toNat)) 63) = 32) → i3 + 1 < ((jS h 1).2 : Int))
    (e33 : (¬ (((((jS h 1).2 : Int)) - 5) < i3)) → (¬ ((jand (jX h 1 ((i3).toNat)) 63) = 0)) → (¬ ((jand (jX h 1 ((i3).toNat)) 63) = 1)) → (¬ ((jand (jX h 1 ((i3).toNat)) 63) = 2)) → (¬ ((jand (jX h 1 ((i3).toNat)) 63) = 3)) → (¬ ((jand (jX h 1 ((i3).toNat)) 63) = 4)) → (¬ ((jand (jX h 1 ((i3).toNat)) 63) = 5)) → (¬ ((jand (jX h 1 ((i3).toNat)) 63) = 6)) → (¬ ((jand (jX h 1 ((i3).toNat)) 63) = 7)) → (¬ ((jand (jX h 1 ((i3).toNat)) 63) = 8)) → (¬ ((jand (jX h 1 ((i3).toNat)) 63) = 9)) → (¬ ((jand (jX h 1 ((i3).toNat)) 63) = 10)) → (¬ ((jand (jX h 1 ((i3).toNat)) 63) = 11)) → (¬ ((jand (jX h 1 ((i3).toNat)) 63) = 12)) → (¬ ((jand (jX h 1 ((i3).toNat)) 63) = 13)) → (¬ ((jand (jX h 1 ((i3).toNat)) 63) = 14)) → (¬ ((jand (jX h 1 ((i3).toNat)) 63) = 15)) → (¬ ((jand (jX h 1 ((i3).toNat)) 63) = 16)) → (¬ ((jand (jX h 1 ((i3).toNat)) 63) = 17)) → (¬ ((jand (jX h 1 ((i3).toNat)) 63) = 18)) → (¬ ((jand (jX h 1 ((i3).toNat)) 63) = 19)) → (¬ ((jand (jX h 1 ((i3).toNat)) 63) = 20)) → (¬ ((jand (jX h 1 ((i3).toNat)) 63) = 21)) → (¬ ((jand (jX h 1 ((i3).toNat)) 63) = 22)) → (¬ ((jand (jX h 1 ((i3).toNat)) 63) = 23)) → (¬ ((jand (jX h 1 ((i3).toNat)) 63) = 24)) → (¬ ((jand (jX h 1 ((i3).toNat)) 63) = 25)) → (¬ ((jand (jX h 1 ((i3).toNat)) 63) = 26)) → (¬ ((jand (jX h 1 ((i3).toNat)) 63) = 27)) → (¬ ((jand (jX h 1 ((i3).toNat)) 63) = 28)) → (¬ ((jand (jX h 1 ((i3).toNat)) 63) = 29)) → (¬ ((jand (jX h 1 ((i3).toNat)) 63) = 30)) → (¬ ((jand (jX h 1 ((i3).toNat)) 63) = 31)) → ((jand (jX h 1 ((i3).toNat)) 63) = 32) → Ex MX8_back (d + 5) [.inr a1, .inl (jX h 1 ((i3 + 1).toNat))] h 0 0 (fun v h2 => V ML_law (d + 13) 1089 [some (.inr 1), some (.inr a1), some (.inr a2), some (.inl i3)] (v.toList ++ []) h2 0 0 Q))
    (r51 : (¬ (((((jS h 1).2 : Int)) - 5) < i3)) → (¬ ((jand (jX h 1 ((i3).toNat)) 63) = 0)) → (¬ ((jand (jX h 1 ((i3).toNat)) 63) = 1)) → (¬ ((jand (jX h 1 ((i3).toNat)) 63) = 2)) → (¬ ((jand (jX h 1 ((i3).toNat)) 63) = 3)) → (¬ ((jand (jX h 1 ((i3).toNat)) 63) = 4)) → (¬ ((jand (jX h 1 ((i3).toNat)) 63) = 5)) → (¬ ((jand (jX h 1 ((i3).toNat)) 63) = 6)) → (¬ ((jand (jX h 1 ((i3).toNat)) 63) = 7)) → (¬ ((jand (jX h 1 ((i3).toNat)) 63) = 8)) → (¬ ((jand (jX h 1 ((i3).toNat)) 63) = 9)) → (¬ ((jand (jX h 1 ((i3).toNat)) 63) = 10)) → (¬ ((jand (jX h 1 ((i3).toNat)) 63) = 11)) → (¬ ((jand (jX h 1 ((i3).toNat)) 63) = 12)) → (¬ ((jand (jX h 1 ((i3).toNat)) 63) = 13)) → (¬ ((jand (jX h 1 ((i3).toNat)) 63) = 14)) → (¬ ((jand (jX h 1 ((i3).toNat)) 63) = 15)) → (¬ ((jand (jX h 1 ((i3).toNat)) 63) = 16)) → (¬ ((jand (jX h 1 ((i3).toNat)) 63) = 17)) → (¬ ((jand (jX h 1 ((i3).toNat)) 63) = 18)) → (¬ ((jand (jX h 1 ((i3).toNat)) 63) = 19)) → (¬ ((jand (jX h 1 ((i3).toNat)) 63) = 20)) → (¬ ((jand (jX h 1 ((i3).toNat)) 63) = 21)) → (¬ ((jand (jX h 1 ((i3).toNat)) 63) = 22)) → (¬ ((jand (jX h 1 ((i3).toNat)) 63) = 23)) → (¬ ((jand (jX h 1 ((i3).toNat)) 63) = 24)) → (¬ ((jand (jX h 1 ((i3).toNat)) 63) = 25)) → (¬ ((jand (jX h 1 ((i3).toNat)) 63) = 26)) → (¬ ((jand (jX h 1 ((i3).toNat)) 63) = 27)) → (¬ ((jand (jX h 1 ((i3).toNat)) 63) = 28)) → (¬ ((jand (jX h 1 ((i3).toNat)) 63) = 29)) → (¬ ((jand (jX h 1 ((i3).toNat)) 63) = 30)) → (¬ ((jand (jX h 1 ((i3).toNat)) 63) = 31)) → (¬ ((jand (jX h 1 ((i3).toNat)) 63) = 32)) → ((jand (jX h 1 ((i3).toNat)) 63) = 33) → jR (i3 + 1))
    (s102 : (¬ (((((jS h 1).2 : Int)) - 5) < i3)) → (¬ ((jand (jX h 1 ((i3).toNat)) 63) = 0)) → (¬ ((jand (jX h 1 ((i3).toNat)) 63) = 1)) → (¬ ((jand (jX h 1 ((i3).toNat)) 63) = 2)) → (¬ ((jand (jX h 1 ((i3).toNat)) 63) = 3)) → (¬ ((jand (jX h 1 ((i3).toNat)) 63) = 4)) → (¬ ((jand (jX h 1 ((i3).toNat)) 63) = 5)) → (¬ ((jand (jX h 1 ((i3).toNat)) 63) = 6)) → (¬ ((jand (jX h 1 ((i3).toNat)) 63) = 7)) → (¬ ((jand (jX h 1 ((i3).toNat)) 63) = 8)) → (¬ ((jand (jX h 1 ((i3).toNat)) 63) = 9)) → (¬ ((jand (jX h 1 ((i3).toNat)) 63) = 10)) → (¬ ((jand (jX h 1 ((i3).toNat)) 63) = 11)) → (¬ ((jand (jX h 1 ((i3).toNat)) 63) = 12)) → (¬ ((jand (jX h 1 ((i3).toNat)) 63) = 13)) → (¬ ((jand (jX h 1 ((i3).toNat)) 63) = 14)) → (¬ ((jand (jX h 1 ((i3).toNat)) 63) = 15)) → (¬ ((jand (jX h 1 ((i3).toNat)) 63) = 16)) → (¬ ((jand (jX h 1 ((i3).toNat)) 63) = 17)) → (¬ ((jand (jX h 1 ((i3).toNat)) 63) = 18)) → (¬ ((jand (jX h 1 ((i3).toNat)) 63) = 19)) → (¬ ((jand (jX h 1 ((i3).toNat)) 63) = 20)) → (¬ ((jand (jX h 1 ((i3).toNat)) 63) = 21)) → (¬ ((jand (jX h 1 ((i3).toNat)) 63) = 22)) → (¬ ((jand (jX h 1 ((i3).toNat)) 63) = 23)) → (¬ ((jand (jX h 1 ((i3).toNat)) 63) = 24)) → (¬ ((jand (jX h 1 ((i3).toNat)) 63) = 25)) → (¬ ((jand (jX h 1 ((i3).toNat)) 63) = 26)) → (¬ ((jand (jX h 1 ((i3).toNat)) 63) = 27)) → (¬ ((jand (jX h 1 ((i3).toNat)) 63) = 28)) → (¬ ((jand (jX h 1 ((i3).toNat)) 63) = 29)) → (¬ ((jand (jX h 1 ((i3).toNat)) 63) = 30)) → (¬ ((jand (jX h 1 ((i3).toNat)) 63) = 31)) → (¬ ((jand (jX h 1 ((i3).toNat)) 63) = 32)) → ((jand (jX h 1 ((i3).toNat)) 63) = 33) → 0 ≤ i3 + 1)
    (s103 : (¬ (((((jS h 1).2 : Int)) - 5) < i3)) → (¬ ((jand (jX h 1 ((i3).toNat)) 63) = 0)) → (¬ ((jand (jX h 1 ((i3).toNat)) 63) = 1)) → (¬ ((jand (jX h 1 ((i3).toNat)) 63) = 2)) → (¬ ((jand (jX h 1 ((i3).toNat)) 63) = 3)) → (¬ ((jand (jX h 1 ((i3).toNat)) 63) = 4)) → (¬ ((jand (jX h 1 ((i3).toNat)) 63) = 5)) → (¬ ((jand (jX h 1 ((i3).toNat)) 63) = 6)) → (¬ ((jand (jX h 1 ((i3).toNat)) 63) = 7)) → (¬ ((jand (jX h 1 ((i3).toNat)) 63) = 8)) → (¬ ((jand (jX h 1 ((i3).toNat)) 63) = 9)) → (¬ ((jand (jX h 1 ((i3).toNat)) 63) = 10)) → (¬ ((jand (jX h 1 ((i3).toNat)) 63) = 11)) → (¬ ((jand (jX h 1 ((i3).toNat)) 63) = 12)) → (¬ ((jand (jX h 1 ((i3).toNat)) 63) = 13)) → (¬ ((jand (jX h 1 ((i3).toNat)) 63) = 14)) → (¬ ((jand (jX h 1 ((i3).toNat)) 63) = 15)) → (¬ ((jand (jX h 1 ((i3).toNat)) 63) = 16)) → (¬ ((jand (jX h 1 ((i3).toNat)) 63) = 17)) → (¬ ((jand (jX h 1 ((i3).toNat)) 63) = 18)) → (¬ ((jand (jX h 1 ((i3).toNat)) 63) = 19)) → (¬ ((jand (jX h 1 ((i3).toNat)) 63) = 20)) → (¬ ((jand (jX h 1 ((i3).toNat)) 63) = 21)) → (¬ ((jand (jX h 1 ((i3).toNat)) 63) = 22)) → (¬ ((jand (jX h 1 ((i3).toNat)) 63) = 23)) → (¬ ((jand (jX h 1 ((i3).toNat)) 63) = 24)) → (¬ ((jand (jX h 1 ((i3).toNat)) 63) = 25)) → (¬ ((jand (jX h 1 ((i3).toNat)) 63) = 26)) → (¬ ((jand (jX h 1 ((i3).toNat)) 63) = 27)) → (¬ ((jand (jX h 1 ((i3).toNat)) 63) = 28)) → (¬ ((jand (jX h 1 ((i3).toNat)) 63) = 29)) → (¬ ((jand (jX h 1 ((i3).toNat)) 63) = 30)) → (¬ ((jand (jX h 1 ((i3).toNat)) 63) = 31)) → (¬ ((jand (jX h 1 ((i3).toNat)) 63) = 32)) → ((jand (jX h 1 ((i3).toNat)) 63) = 33) → i3 + 1 < ((jS h 1).2 : Int))
    (e34 : (¬ (((((jS h 1).2 : Int)) - 5) < i3)) → (¬ ((jand (jX h 1 ((i3).toNat)) 63) = 0)) → (¬ ((jand (jX h 1 ((i3).toNat)) 63) = 1)) → (¬ ((jand (jX h 1 ((i3).toNat)) 63) = 2)) → (¬ ((jand (jX h 1 ((i3).toNat)) 63) = 3)) → (¬ ((jand (jX h 1 ((i3).toNat)) 63) = 4)) → (¬ ((jand (jX h 1 ((i3).toNat)) 63) = 5)) → (¬ ((jand (jX h 1 ((i3).toNat)) 63) = 6)) → (¬ ((jand (jX h 1 ((i3).toNat)) 63) = 7)) → (¬ ((jand (jX h 1 ((i3).toNat)) 63) = 8)) → (¬ ((jand (jX h 1 ((i3).toNat)) 63) = 9)) → (¬ ((jand (jX h 1 ((i3).toNat)) 63) = 10)) → (¬ ((jand (jX h 1 ((i3).toNat)) 63) = 11)) → (¬ ((jand (jX h 1 ((i3).toNat)) 63) = 12)) → (¬ ((jand (jX h 1 ((i3).toNat)) 63) = 13)) → (¬ ((jand (jX h 1 ((i3).toNat)) 63) = 14)) → (¬ ((jand (jX h 1 ((i3).toNat)) 63) = 15)) → (¬ ((jand (jX h 1 ((i3).toNat)) 63) = 16)) → (¬ ((jand (jX h 1 ((i3).toNat)) 63) = 17)) → (¬ ((jand (jX h 1 ((i3).toNat)) 63) = 18)) → (¬ ((jand (jX h 1 ((i3).toNat)) 63) = 19)) → (¬ ((jand (jX h 1 ((i3).toNat)) 63) = 20)) → (¬ ((jand (jX h 1 ((i3).toNat)) 63) = 21)) → (¬ ((jand (jX h 1 ((i3).toNat)) 63) = 22)) → (¬ ((jand (jX h 1 ((i3).toNat)) 63) = 23)) → (¬ ((jand (jX h 1 ((i3).toNat)) 63) = 24)) → (¬ ((jand (jX h 1 ((i3).toNat)) 63) = 25)) → (¬ ((jand (jX h 1 ((i3).toNat)) 63) = 26)) → (¬ ((jand (jX h 1 ((i3).toNat)) 63) = 27)) → (¬ ((jand (jX h 1 ((i3).toNat)) 63) = 28)) → (¬ ((jand (jX h 1 ((i3).toNat)) 63) = 29)) → (¬ ((jand (jX h 1 ((i3).toNat)) 63) = 30)) → (¬ ((jand (jX h 1 ((i3).toNat)) 63) = 31)) → (¬ ((jand (jX h 1 ((i3).toNat)) 63) = 32)) → ((jand (jX h 1 ((i3).toNat)) 63) = 33) → Ex MX8_count (d + 6) [.inr a1, .inl (jX h 1 ((i3 + 1).toNat))] h 0 0 (fun v h2 => V ML_law (d + 13) 1112 [some (.inr 1), some (.inr a1), some (.inr a2), some (.inl i3)] (v.toList ++ []) h2 0 0 Q))
    (k1 : (¬ (((((jS h 1).2 : Int)) - 5) < i3)) → (¬ ((jand (jX h 1 ((i3).toNat)) 63) = 0)) → (¬ ((jand (jX h 1 ((i3).toNat)) 63) = 1)) → (¬ ((jand (jX h 1 ((i3).toNat)) 63) = 2)) → (¬ ((jand (jX h 1 ((i3).toNat)) 63) = 3)) → (¬ ((jand (jX h 1 ((i3).toNat)) 63) = 4)) → (¬ ((jand (jX h 1 ((i3).toNat)) 63) = 5)) → (¬ ((jand (jX h 1 ((i3).toNat)) 63) = 6)) → (¬ ((jand (jX h 1 ((i3).toNat)) 63) = 7)) → (¬ ((jand (jX h 1 ((i3).toNat)) 63) = 8)) → (¬ ((jand (jX h 1 ((i3).toNat)) 63) = 9)) → (¬ ((jand (jX h 1 ((i3).toNat)) 63) = 10)) → (¬ ((jand (jX h 1 ((i3).toNat)) 63) = 11)) → (¬ ((jand (jX h 1 ((i3).toNat)) 63) = 12)) → (¬ ((jand (jX h 1 ((i3).toNat)) 63) = 13)) → (¬ ((jand (jX h 1 ((i3).toNat)) 63) = 14)) → (¬ ((jand (jX h 1 ((i3).toNat)) 63) = 15)) → (¬ ((jand (jX h 1 ((i3).toNat)) 63) = 16)) → (¬ ((jand (jX h 1 ((i3).toNat)) 63) = 17)) → (¬ ((jand (jX h 1 ((i3).toNat)) 63) = 18)) → (¬ ((jand (jX h 1 ((i3).toNat)) 63) = 19)) → (¬ ((jand (jX h 1 ((i3).toNat)) 63) = 20)) → (¬ ((jand (jX h 1 ((i3).toNat)) 63) = 21)) → (¬ ((jand (jX h 1 ((i3).toNat)) 63) = 22)) → (¬ ((jand (jX h 1 ((i3).toNat)) 63) = 23)) → (¬ ((jand (jX h 1 ((i3).toNat)) 63) = 24)) → (¬ ((jand (jX h 1 ((i3).toNat)) 63) = 25)) → (¬ ((jand (jX h 1 ((i3).toNat)) 63) = 26)) → (¬ ((jand (jX h 1 ((i3).toNat)) 63) = 27)) → (¬ ((jand (jX h 1 ((i3).toNat)) 63) = 28)) → (¬ ((jand (jX h 1 ((i3).toNat)) 63) = 29)) → (¬ ((jand (jX h 1 ((i3).toNat)) 63) = 30)) → (¬ ((jand (jX h 1 ((i3).toNat)) 63) = 31)) → (¬ ((jand (jX h 1 ((i3).toNat)) 63) = 32)) → (¬ ((jand (jX h 1 ((i3).toNat)) 63) = 33)) → V ML_law (d + 13) 1126 [some (.inr 1), some (.inr a1), some (.inr a2), some (.inl i3)] [] h 0 0 Q) :
    V ML_law (d + 13) 18 [some (.inr 1), some (.inr a1), some (.inr a2), some (.inl i3)] [] h 0 0 Q := by
  refine V_iload_n (i := 3) dL_law_18 rfl rfl ?_
  refine V_aload_n (i := 0) dL_law_19 rfl rfl ?_
  refine V_slen dL_law_20 ?_
  refine V_iconst dL_law_21 ⟨by decide, by decide⟩ ?_
  refine V_isub dL_law_22 r1 ?_
  refine V_icmp_gt (tgt := 1132) dL_law_23 (by decide) (fun c1 => ?_) (fun c1 => ?_)
  · refine V_iconst dL_law_1132 ⟨by decide, by decide⟩ ?_
    exact V_retz rfl dL_law_1133 (by decide) (q1 c1)
  · refine V_aload_n (i := 0) dL_law_26 rfl rfl ?_
    refine V_iload_n (i := 3) dL_law_27 rfl rfl ?_
    refine V_sld dL_law_28 (s1 c1) (s2 c1) ?_
    refine V_bipush dL_law_29 (by decide +kernel) ⟨by decide, by decide⟩ ?_
    refine V_iand dL_law_31 ?_
    by_cases c2 : (jand (jX h 1 ((i3).toNat)) 63) = 0
    · refine V_tabIn (off := 152) (tgt := 184) dL_law_32 (by omega) (by omega) (by rw [c2]; rfl) (by decide) ?_
      refine V_aload_n (i := 1) dL_law_184 rfl rfl ?_
      refine V_aload_n (i := 0) dL_law_185 rfl rfl ?_
      refine V_iload_n (i := 3) dL_law_186 rfl rfl ?_
      refine V_iconst dL_law_187 ⟨by decide, by decide⟩ ?_
      refine V_iadd dL_law_188 (r2 c1 c2) ?_
      refine V_sld dL_law_189 (s3 c1 c2) (s4 c1 c2) ?_
      exact V_callV (M := ML_law) (d := (d + 13)) (mc' := 0) (ms' := 0) (mc := 0) (ms := 0) (As := [.inl (jX h 1 ((i3 + 1).toNat))]) (rest := []) dL_law_190 tX8_type vX8_type lL_13 s5 ⟨by decide, rfl⟩ rfl rfl (Nat.le_of_ble_eq_true rfl) (show (d + 1) + 1 ≤ (d + 13) by omega) (e1 c1 c2)
    by_cases c3 : (jand (jX h 1 ((i3).toNat)) 63) = 1
    · refine V_tabIn (off := 175) (tgt := 207) dL_law_32 (by omega) (by omega) (by rw [c3]; rfl) (by decide) ?_
      refine V_aload_n (i := 1) dL_law_207 rfl rfl ?_
      exact V_callV (M := ML_law) (d := (d + 13)) (mc' := 0) (ms' := 0) (mc := 0) (ms := 0) (As := []) (rest := []) dL_law_208 tX8_clear vX8_clear lL_18 s5 ⟨by decide, rfl⟩ rfl rfl (Nat.le_of_ble_eq_true rfl) (show (d + 1) + 1 ≤ (d + 13) by omega) (e2 c1 c2 c3)
    by_cases c4 : (jand (jX h 1 ((i3).toNat)) 63) = 2
    · refine V_tabIn (off := 188) (tgt := 220) dL_law_32 (by omega) (by omega) (by rw [c4]; rfl) (by decide) ?_
      refine V_aload_n (i := 1) dL_law_220 rfl rfl ?_
      exact V_callV (M := ML_law) (d := (d + 13)) (mc' := 0) (ms' := 0) (mc := 0) (ms := 0) (As := []) (rest := []) dL_law_221 tX8_tells vX8_tells lL_23 s5 ⟨by decide, rfl⟩ rfl rfl (Nat.le_of_ble_eq_true rfl) (show (d + 12) + 1 ≤ (d + 13) by omega) (e3 c1 c2 c3 c4)
    by_cases c5 : (jand (jX h 1 ((i3).toNat)) 63) = 3
    · refine V_tabIn (off := 201) (tgt := 233) dL_law_32 (by omega) (by omega) (by rw [c5]; rfl) (by decide) ?_
      refine V_aload_n (i := 1) dL_law_233 rfl rfl ?_
      exact V_callV (M := ML_law) (d := (d + 13)) (mc' := 0) (ms' := 0) (mc := 0) (ms := 0) (As := []) (rest := []) dL_law_234 tX8_node vX8_node lL_27 s5 ⟨by decide, rfl⟩ rfl rfl (Nat.le_of_ble_eq_true rfl) (show (d + 2) + 1 ≤ (d + 13) by omega) (e4 c1 c2 c3 c4 c5)
    by_cases c6 : (jand (jX h 1 ((i3).toNat)) 63) = 4
    · refine V_tabIn (off := 214) (tgt := 246) dL_law_32 (by omega) (by omega) (by rw [c6]; rfl) (by decide) ?_
      refine V_aload_n (i := 1) dL_law_246 rfl rfl ?_
      refine V_aload_n (i := 0) dL_law_247 rfl rfl ?_
      refine V_iload_n (i := 3) dL_law_248 rfl rfl ?_
      refine V_iconst dL_law_249 ⟨by decide, by decide⟩ ?_
      refine V_iadd dL_law_250 (r3 c1 c2 c3 c4 c5 c6) ?_
      refine V_sld dL_law_251 (s6 c1 c2 c3 c4 c5 c6) (s7 c1 c2 c3 c4 c5 c6) ?_
      refine V_aload_n (i := 0) dL_law_252 rfl rfl ?_
      refine V_iload_n (i := 3) dL_law_253 rfl rfl ?_
      refine V_iconst dL_law_254 ⟨by decide, by decide⟩ ?_
      refine V_iadd dL_law_255 (r4 c1 c2 c3 c4 c5 c6) ?_
      refine V_sld dL_law_256 (s8 c1 c2 c3 c4 c5 c6) (s9 c1 c2 c3 c4 c5 c6) ?_
      exact V_callV (M := ML_law) (d := (d + 13)) (mc' := 0) (ms' := 0) (mc := 0) (ms := 0) (As := [.inl (jX h 1 ((i3 + 1).toNat)), .inl (jX h 1 ((i3 + 2).toNat))]) (rest := []) dL_law_257 tX8_about vX8_about lL_31 s5 ⟨by decide, rfl⟩ rfl rfl (Nat.le_of_ble_eq_true rfl) (show (d + 3) + 1 ≤ (d + 13) by omega) (e5 c1 c2 c3 c4 c5 c6)
    by_cases c7 : (jand (jX h 1 ((i3).toNat)) 63) = 5
    · refine V_tabIn (off := 247) (tgt := 279) dL_law_32 (by omega) (by omega) (by rw [c7]; rfl) (by decide) ?_
      refine V_aload_n (i := 1) dL_law_279 rfl rfl ?_
      refine V_aload_n (i := 0) dL_law_280 rfl rfl ?_
      refine V_iload_n (i := 3) dL_law_281 rfl rfl ?_
      refine V_iconst dL_law_282 ⟨by decide, by decide⟩ ?_
      refine V_iadd dL_law_283 (r5 c1 c2 c3 c4 c5 c6 c7) ?_
      refine V_sld dL_law_284 (s10 c1 c2 c3 c4 c5 c6 c7) (s11 c1 c2 c3 c4 c5 c6 c7) ?_
      refine V_aload_n (i := 0) dL_law_285 rfl rfl ?_
      refine V_iload_n (i := 3) dL_law_286 rfl rfl ?_
      refine V_iconst dL_law_287 ⟨by decide, by decide⟩ ?_
      refine V_iadd dL_law_288 (r6 c1 c2 c3 c4 c5 c6 c7) ?_
      refine V_sld dL_law_289 (s12 c1 c2 c3 c4 c5 c6 c7) (s13 c1 c2 c3 c4 c5 c6 c7) ?_
      exact V_callV (M := ML_law) (d := (d + 13)) (mc' := 0) (ms' := 0) (mc := 0) (ms := 0) (As := [.inl (jX h 1 ((i3 + 1).toNat)), .inl (jX h 1 ((i3 + 2).toNat))]) (rest := []) dL_law_290 tX8_scope vX8_scope lL_36 s5 ⟨by decide, rfl⟩ rfl rfl (Nat.le_of_ble_eq_true rfl) (show (d + 1) + 1 ≤ (d + 13) by omega) (e6 c1 c2 c3 c4 c5 c6 c7)
    by_cases c8 : (jand (jX h 1 ((i3).toNat)) 63) = 6
    · refine V_tabIn (off := 280) (tgt := 312) dL_law_32 (by omega) (by omega) (by rw [c8]; rfl) (by decide) ?_
      refine V_aload_n (i := 1) dL_law_312 rfl rfl ?_
      refine V_aload_n (i := 0) dL_law_313 rfl rfl ?_
      refine V_iload_n (i := 3) dL_law_314 rfl rfl ?_
      refine V_iconst dL_law_315 ⟨by decide, by decide⟩ ?_
      refine V_iadd dL_law_316 (r7 c1 c2 c3 c4 c5 c6 c7 c8) ?_
      refine V_sld dL_law_317 (s14 c1 c2 c3 c4 c5 c6 c7 c8) (s15 c1 c2 c3 c4 c5 c6 c7 c8) ?_
      refine V_aload_n (i := 0) dL_law_318 rfl rfl ?_
      refine V_iload_n (i := 3) dL_law_319 rfl rfl ?_
      refine V_iconst dL_law_320 ⟨by decide, by decide⟩ ?_
      refine V_iadd dL_law_321 (r8 c1 c2 c3 c4 c5 c6 c7 c8) ?_
      refine V_sld dL_law_322 (s16 c1 c2 c3 c4 c5 c6 c7 c8) (s17 c1 c2 c3 c4 c5 c6 c7 c8) ?_
      exact V_callV (M := ML_law) (d := (d + 13)) (mc' := 0) (ms' := 0) (mc := 0) (ms := 0) (As := [.inl (jX h 1 ((i3 + 1).toNat)), .inl (jX h 1 ((i3 + 2).toNat))]) (rest := []) dL_law_323 tX8_listed vX8_listed lL_40 s5 ⟨by decide, rfl⟩ rfl rfl (Nat.le_of_ble_eq_true rfl) (show (d + 1) + 1 ≤ (d + 13) by omega) (e7 c1 c2 c3 c4 c5 c6 c7 c8)
    by_cases c9 : (jand (jX h 1 ((i3).toNat)) 63) = 7
    · refine V_tabIn (off := 313) (tgt := 345) dL_law_32 (by omega) (by omega) (by rw [c9]; rfl) (by decide) ?_
      refine V_aload_n (i := 1) dL_law_345 rfl rfl ?_
      refine V_aload_n (i := 0) dL_law_346 rfl rfl ?_
      refine V_iload_n (i := 3) dL_law_347 rfl rfl ?_
      refine V_iconst dL_law_348 ⟨by decide, by decide⟩ ?_
      refine V_iadd dL_law_349 (r9 c1 c2 c3 c4 c5 c6 c7 c8 c9) ?_
      refine V_sld dL_law_350 (s18 c1 c2 c3 c4 c5 c6 c7 c8 c9) (s19 c1 c2 c3 c4 c5 c6 c7 c8 c9) ?_
      refine V_aload_n (i := 0) dL_law_351 rfl rfl ?_
      refine V_iload_n (i := 3) dL_law_352 rfl rfl ?_
      refine V_iconst dL_law_353 ⟨by decide, by decide⟩ ?_
      refine V_iadd dL_law_354 (r10 c1 c2 c3 c4 c5 c6 c7 c8 c9) ?_
      refine V_sld dL_law_355 (s20 c1 c2 c3 c4 c5 c6 c7 c8 c9) (s21 c1 c2 c3 c4 c5 c6 c7 c8 c9) ?_
      exact V_callV (M := ML_law) (d := (d + 13)) (mc' := 0) (ms' := 0) (mc := 0) (ms := 0) (As := [.inl (jX h 1 ((i3 + 1).toNat)), .inl (jX h 1 ((i3 + 2).toNat))]) (rest := []) dL_law_356 tX8_path vX8_path lL_44 s5 ⟨by decide, rfl⟩ rfl rfl (Nat.le_of_ble_eq_true rfl) (show (d + 2) + 1 ≤ (d + 13) by omega) (e8 c1 c2 c3 c4 c5 c6 c7 c8 c9)
    by_cases c10 : (jand (jX h 1 ((i3).toNat)) 63) = 8
    · refine V_tabIn (off := 346) (tgt := 378) dL_law_32 (by omega) (by omega) (by rw [c10]; rfl) (by decide) ?_
      refine V_aload_n (i := 1) dL_law_378 rfl rfl ?_
      refine V_aload_n (i := 0) dL_law_379 rfl rfl ?_
      refine V_iload_n (i := 3) dL_law_380 rfl rfl ?_
      refine V_iconst dL_law_381 ⟨by decide, by decide⟩ ?_
      refine V_iadd dL_law_382 (r11 c1 c2 c3 c4 c5 c6 c7 c8 c9 c10) ?_
      refine V_sld dL_law_383 (s22 c1 c2 c3 c4 c5 c6 c7 c8 c9 c10) (s23 c1 c2 c3 c4 c5 c6 c7 c8 c9 c10) ?_
      refine V_aload_n (i := 0) dL_law_384 rfl rfl ?_
      refine V_iload_n (i := 3) dL_law_385 rfl rfl ?_
      refine V_iconst dL_law_386 ⟨by decide, by decide⟩ ?_
      refine V_iadd dL_law_387 (r12 c1 c2 c3 c4 c5 c6 c7 c8 c9 c10) ?_
      refine V_sld dL_law_388 (s24 c1 c2 c3 c4 c5 c6 c7 c8 c9 c10) (s25 c1 c2 c3 c4 c5 c6 c7 c8 c9 c10) ?_
      exact V_callV (M := ML_law) (d := (d + 13)) (mc' := 0) (ms' := 0) (mc := 0) (ms := 0) (As := [.inl (jX h 1 ((i3 + 1).toNat)), .inl (jX h 1 ((i3 + 2).toNat))]) (rest := []) dL_law_389 tX8_sets vX8_sets lL_48 s5 ⟨by decide, rfl⟩ rfl rfl (Nat.le_of_ble_eq_true rfl) (show (d + 6) + 1 ≤ (d + 13) by omega) (e9 c1 c2 c3 c4 c5 c6 c7 c8 c9 c10)
    by_cases c11 : (jand (jX h 1 ((i3).toNat)) 63) = 9
    · refine V_tabIn (off := 379) (tgt := 411) dL_law_32 (by omega) (by omega) (by rw [c11]; rfl) (by decide) ?_
      refine V_aload_n (i := 1) dL_law_411 rfl rfl ?_
      refine V_aload_n (i := 0) dL_law_412 rfl rfl ?_
      refine V_iload_n (i := 3) dL_law_413 rfl rfl ?_
      refine V_iconst dL_law_414 ⟨by decide, by decide⟩ ?_
      refine V_iadd dL_law_415 (r13 c1 c2 c3 c4 c5 c6 c7 c8 c9 c10 c11) ?_
      refine V_sld dL_law_416 (s26 c1 c2 c3 c4 c5 c6 c7 c8 c9 c10 c11) (s27 c1 c2 c3 c4 c5 c6 c7 c8 c9 c10 c11) ?_
      exact V_callV (M := ML_law) (d := (d + 13)) (mc' := 0) (ms' := 0) (mc := 0) (ms := 0) (As := [.inl (jX h 1 ((i3 + 1).toNat))]) (rest := []) dL_law_417 tX8_passes vX8_passes lL_52 s5 ⟨by decide, rfl⟩ rfl rfl (Nat.le_of_ble_eq_true rfl) (show (d + 6) + 1 ≤ (d + 13) by omega) (e10 c1 c2 c3 c4 c5 c6 c7 c8 c9 c10 c11)
    by_cases c12 : (jand (jX h 1 ((i3).toNat)) 63) = 10
    · refine V_tabIn (off := 402) (tgt := 434) dL_law_32 (by omega) (by omega) (by rw [c12]; rfl) (by decide) ?_
      refine V_aload_n (i := 1) dL_law_434 rfl rfl ?_
      refine V_aload_n (i := 0) dL_law_435 rfl rfl ?_
      refine V_iload_n (i := 3) dL_law_436 rfl rfl ?_
      refine V_iconst dL_law_437 ⟨by decide, by decide⟩ ?_
      refine V_iadd dL_law_438 (r14 c1 c2 c3 c4 c5 c6 c7 c8 c9 c10 c11 c12) ?_
      refine V_sld dL_law_439 (s28 c1 c2 c3 c4 c5 c6 c7 c8 c9 c10 c11 c12) (s29 c1 c2 c3 c4 c5 c6 c7 c8 c9 c10 c11 c12) ?_
      exact V_callV (M := ML_law) (d := (d + 13)) (mc' := 0) (ms' := 0) (mc := 0) (ms := 0) (As := [.inl (jX h 1 ((i3 + 1).toNat))]) (rest := []) dL_law_440 tX8_dumps vX8_dumps lL_56 s5 ⟨by decide, rfl⟩ rfl rfl (Nat.le_of_ble_eq_true rfl) (show (d + 6) + 1 ≤ (d + 13) by omega) (e11 c1 c2 c3 c4 c5 c6 c7 c8 c9 c10 c11 c12)
    by_cases c13 : (jand (jX h 1 ((i3).toNat)) 63) = 11
    · refine V_tabIn (off := 425) (tgt := 457) dL_law_32 (by omega) (by omega) (by rw [c13]; rfl) (by decide) ?_
      refine V_aload_n (i := 1) dL_law_457 rfl rfl ?_
      refine V_aload_n (i := 0) dL_law_458 rfl rfl ?_
      refine V_iload_n (i := 3) dL_law_459 rfl rfl ?_
      refine V_iconst dL_law_460 ⟨by decide, by decide⟩ ?_
      refine V_iadd dL_law_461 (r15 c1 c2 c3 c4 c5 c6 c7 c8 c9 c10 c11 c12 c13) ?_
      refine V_sld dL_law_462 (s30 c1 c2 c3 c4 c5 c6 c7 c8 c9 c10 c11 c12 c13) (s31 c1 c2 c3 c4 c5 c6 c7 c8 c9 c10 c11 c12 c13) ?_
      exact V_callV (M := ML_law) (d := (d + 13)) (mc' := 0) (ms' := 0) (mc := 0) (ms := 0) (As := [.inl (jX h 1 ((i3 + 1).toNat))]) (rest := []) dL_law_463 tX8_sizes vX8_sizes lL_60 s5 ⟨by decide, rfl⟩ rfl rfl (Nat.le_of_ble_eq_true rfl) (show (d + 6) + 1 ≤ (d + 13) by omega) (e12 c1 c2 c3 c4 c5 c6 c7 c8 c9 c10 c11 c12 c13)
    by_cases c14 : (jand (jX h 1 ((i3).toNat)) 63) = 12
    · refine V_tabIn (off := 448) (tgt := 480) dL_law_32 (by omega) (by omega) (by rw [c14]; rfl) (by decide) ?_
      refine V_aload_n (i := 1) dL_law_480 rfl rfl ?_
      exact V_callV (M := ML_law) (d := (d + 13)) (mc' := 0) (ms' := 0) (mc := 0) (ms := 0) (As := []) (rest := []) dL_law_481 tX8_undo vX8_undo lL_64 s5 ⟨by decide, rfl⟩ rfl rfl (Nat.le_of_ble_eq_true rfl) (show (d + 6) + 1 ≤ (d + 13) by omega) (e13 c1 c2 c3 c4 c5 c6 c7 c8 c9 c10 c11 c12 c13 c14)
    by_cases c15 : (jand (jX h 1 ((i3).toNat)) 63) = 13
    · refine V_tabIn (off := 461) (tgt := 493) dL_law_32 (by omega) (by omega) (by rw [c15]; rfl) (by decide) ?_
      refine V_aload_n (i := 1) dL_law_493 rfl rfl ?_
      refine V_aload_n (i := 0) dL_law_494 rfl rfl ?_
      refine V_iload_n (i := 3) dL_law_495 rfl rfl ?_
      refine V_iconst dL_law_496 ⟨by decide, by decide⟩ ?_
      refine V_iadd dL_law_497 (r16 c1 c2 c3 c4 c5 c6 c7 c8 c9 c10 c11 c12 c13 c14 c15) ?_
      refine V_sld dL_law_498 (s32 c1 c2 c3 c4 c5 c6 c7 c8 c9 c10 c11 c12 c13 c14 c15) (s33 c1 c2 c3 c4 c5 c6 c7 c8 c9 c10 c11 c12 c13 c14 c15) ?_
      refine V_aload_n (i := 0) dL_law_499 rfl rfl ?_
      refine V_iload_n (i := 3) dL_law_500 rfl rfl ?_
      refine V_iconst dL_law_501 ⟨by decide, by decide⟩ ?_
      refine V_iadd dL_law_502 (r17 c1 c2 c3 c4 c5 c6 c7 c8 c9 c10 c11 c12 c13 c14 c15) ?_
      refine V_sld dL_law_503 (s34 c1 c2 c3 c4 c5 c6 c7 c8 c9 c10 c11 c12 c13 c14 c15) (s35 c1 c2 c3 c4 c5 c6 c7 c8 c9 c10 c11 c12 c13 c14 c15) ?_
      exact V_callV (M := ML_law) (d := (d + 13)) (mc' := 0) (ms' := 0) (mc := 0) (ms := 0) (As := [.inl (jX h 1 ((i3 + 1).toNat)), .inl (jX h 1 ((i3 + 2).toNat))]) (rest := []) dL_law_504 tX8_at vX8_at lL_68 s5 ⟨by decide, rfl⟩ rfl rfl (Nat.le_of_ble_eq_true rfl) (show (d + 4) + 1 ≤ (d + 13) by omega) (e14 c1 c2 c3 c4 c5 c6 c7 c8 c9 c10 c11 c12 c13 c14 c15)
    by_cases c16 : (jand (jX h 1 ((i3).toNat)) 63) = 14
    · refine V_tabIn (off := 494) (tgt := 526) dL_law_32 (by omega) (by omega) (by rw [c16]; rfl) (by decide) ?_
      refine V_aload_n (i := 1) dL_law_526 rfl rfl ?_
      refine V_aload_n (i := 0) dL_law_527 rfl rfl ?_
      refine V_iload_n (i := 3) dL_law_528 rfl rfl ?_
      refine V_iconst dL_law_529 ⟨by decide, by decide⟩ ?_
      refine V_iadd dL_law_530 (r18 c1 c2 c3 c4 c5 c6 c7 c8 c9 c10 c11 c12 c13 c14 c15 c16) ?_
      refine V_sld dL_law_531 (s36 c1 c2 c3 c4 c5 c6 c7 c8 c9 c10 c11 c12 c13 c14 c15 c16) (s37 c1 c2 c3 c4 c5 c6 c7 c8 c9 c10 c11 c12 c13 c14 c15 c16) ?_
      refine V_aload_n (i := 0) dL_law_532 rfl rfl ?_
      refine V_iload_n (i := 3) dL_law_533 rfl rfl ?_
      refine V_iconst dL_law_534 ⟨by decide, by decide⟩ ?_
      refine V_iadd dL_law_535 (r19 c1 c2 c3 c4 c5 c6 c7 c8 c9 c10 c11 c12 c13 c14 c15 c16) ?_
      refine V_sld dL_law_536 (s38 c1 c2 c3 c4 c5 c6 c7 c8 c9 c10 c11 c12 c13 c14 c15 c16) (s39 c1 c2 c3 c4 c5 c6 c7 c8 c9 c10 c11 c12 c13 c14 c15 c16) ?_
      refine V_aload_n (i := 0) dL_law_537 rfl rfl ?_
      refine V_iload_n (i := 3) dL_law_538 rfl rfl ?_
      refine V_iconst dL_law_539 ⟨by decide, by decide⟩ ?_
      refine V_iadd dL_law_540 (r20 c1 c2 c3 c4 c5 c6 c7 c8 c9 c10 c11 c12 c13 c14 c15 c16) ?_
      refine V_sld dL_law_541 (s40 c1 c2 c3 c4 c5 c6 c7 c8 c9 c10 c11 c12 c13 c14 c15 c16) (s41 c1 c2 c3 c4 c5 c6 c7 c8 c9 c10 c11 c12 c13 c14 c15 c16) ?_
      refine V_aload_n (i := 0) dL_law_542 rfl rfl ?_
      refine V_iload_n (i := 3) dL_law_543 rfl rfl ?_
      refine V_iconst dL_law_544 ⟨by decide, by decide⟩ ?_
      refine V_iadd dL_law_545 (r21 c1 c2 c3 c4 c5 c6 c7 c8 c9 c10 c11 c12 c13 c14 c15 c16) ?_
      refine V_sld dL_law_546 (s42 c1 c2 c3 c4 c5 c6 c7 c8 c9 c10 c11 c12 c13 c14 c15 c16) (s43 c1 c2 c3 c4 c5 c6 c7 c8 c9 c10 c11 c12 c13 c14 c15 c16) ?_
      exact V_callV (M := ML_law) (d := (d + 13)) (mc' := 0) (ms' := 0) (mc := 0) (ms := 0) (As := [.inl (jX h 1 ((i3 + 1).toNat)), .inl (jX h 1 ((i3 + 2).toNat)), .inl (jX h 1 ((i3 + 3).toNat)), .inl (jX h 1 ((i3 + 4).toNat))]) (rest := []) dL_law_547 tX8_edges vX8_edges lL_72 s5 ⟨by decide, rfl⟩ rfl rfl (Nat.le_of_ble_eq_true rfl) (show (d + 4) + 1 ≤ (d + 13) by omega) (e15 c1 c2 c3 c4 c5 c6 c7 c8 c9 c10 c11 c12 c13 c14 c15 c16)
    by_cases c17 : (jand (jX h 1 ((i3).toNat)) 63) = 15
    · refine V_tabIn (off := 547) (tgt := 579) dL_law_32 (by omega) (by omega) (by rw [c17]; rfl) (by decide) ?_
      refine V_aload_n (i := 1) dL_law_579 rfl rfl ?_
      refine V_aload_n (i := 0) dL_law_580 rfl rfl ?_
      refine V_iload_n (i := 3) dL_law_581 rfl rfl ?_
      refine V_iconst dL_law_582 ⟨by decide, by decide⟩ ?_
      refine V_iadd dL_law_583 (r22 c1 c2 c3 c4 c5 c6 c7 c8 c9 c10 c11 c12 c13 c14 c15 c16 c17) ?_
      refine V_sld dL_law_584 (s44 c1 c2 c3 c4 c5 c6 c7 c8 c9 c10 c11 c12 c13 c14 c15 c16 c17) (s45 c1 c2 c3 c4 c5 c6 c7 c8 c9 c10 c11 c12 c13 c14 c15 c16 c17) ?_
      refine V_aload_n (i := 0) dL_law_585 rfl rfl ?_
      refine V_iload_n (i := 3) dL_law_586 rfl rfl ?_
      refine V_iconst dL_law_587 ⟨by decide, by decide⟩ ?_
      refine V_iadd dL_law_588 (r23 c1 c2 c3 c4 c5 c6 c7 c8 c9 c10 c11 c12 c13 c14 c15 c16 c17) ?_
      refine V_sld dL_law_589 (s46 c1 c2 c3 c4 c5 c6 c7 c8 c9 c10 c11 c12 c13 c14 c15 c16 c17) (s47 c1 c2 c3 c4 c5 c6 c7 c8 c9 c10 c11 c12 c13 c14 c15 c16 c17) ?_
      refine V_aload_n (i := 0) dL_law_590 rfl rfl ?_
      refine V_iload_n (i := 3) dL_law_591 rfl rfl ?_
      refine V_iconst dL_law_592 ⟨by decide, by decide⟩ ?_
      refine V_iadd dL_law_593 (r24 c1 c2 c3 c4 c5 c6 c7 c8 c9 c10 c11 c12 c13 c14 c15 c16 c17) ?_
      refine V_sld dL_law_594 (s48 c1 c2 c3 c4 c5 c6 c7 c8 c9 c10 c11 c12 c13 c14 c15 c16 c17) (s49 c1 c2 c3 c4 c5 c6 c7 c8 c9 c10 c11 c12 c13 c14 c15 c16 c17) ?_
      exact V_callV (M := ML_law) (d := (d + 13)) (mc' := 0) (ms' := 0) (mc := 0) (ms := 0) (As := [.inl (jX h 1 ((i3 + 1).toNat)), .inl (jX h 1 ((i3 + 2).toNat)), .inl (jX h 1 ((i3 + 3).toNat))]) (rest := []) dL_law_595 tX8_next vX8_next lL_77 s5 ⟨by decide, rfl⟩ rfl rfl (Nat.le_of_ble_eq_true rfl) (show (d + 4) + 1 ≤ (d + 13) by omega) (e16 c1 c2 c3 c4 c5 c6 c7 c8 c9 c10 c11 c12 c13 c14 c15 c16 c17)
    by_cases c18 : (jand (jX h 1 ((i3).toNat)) 63) = 16
    · refine V_tabIn (off := 590) (tgt := 622) dL_law_32 (by omega) (by omega) (by rw [c18]; rfl) (by decide) ?_
      refine V_aload_n (i := 1) dL_law_622 rfl rfl ?_
      refine V_aload_n (i := 0) dL_law_623 rfl rfl ?_
      refine V_iload_n (i := 3) dL_law_624 rfl rfl ?_
      refine V_iconst dL_law_625 ⟨by decide, by decide⟩ ?_
      refine V_iadd dL_law_626 (r25 c1 c2 c3 c4 c5 c6 c7 c8 c9 c10 c11 c12 c13 c14 c15 c16 c17 c18) ?_
      refine V_sld dL_law_627 (s50 c1 c2 c3 c4 c5 c6 c7 c8 c9 c10 c11 c12 c13 c14 c15 c16 c17 c18) (s51 c1 c2 c3 c4 c5 c6 c7 c8 c9 c10 c11 c12 c13 c14 c15 c16 c17 c18) ?_
      refine V_aload_n (i := 0) dL_law_628 rfl rfl ?_
      refine V_iload_n (i := 3) dL_law_629 rfl rfl ?_
      refine V_iconst dL_law_630 ⟨by decide, by decide⟩ ?_
      refine V_iadd dL_law_631 (r26 c1 c2 c3 c4 c5 c6 c7 c8 c9 c10 c11 c12 c13 c14 c15 c16 c17 c18) ?_
      refine V_sld dL_law_632 (s52 c1 c2 c3 c4 c5 c6 c7 c8 c9 c10 c11 c12 c13 c14 c15 c16 c17 c18) (s53 c1 c2 c3 c4 c5 c6 c7 c8 c9 c10 c11 c12 c13 c14 c15 c16 c17 c18) ?_
      refine V_aload_n (i := 0) dL_law_633 rfl rfl ?_
      refine V_iload_n (i := 3) dL_law_634 rfl rfl ?_
      refine V_iconst dL_law_635 ⟨by decide, by decide⟩ ?_
      refine V_iadd dL_law_636 (r27 c1 c2 c3 c4 c5 c6 c7 c8 c9 c10 c11 c12 c13 c14 c15 c16 c17 c18) ?_
      refine V_sld dL_law_637 (s54 c1 c2 c3 c4 c5 c6 c7 c8 c9 c10 c11 c12 c13 c14 c15 c16 c17 c18) (s55 c1 c2 c3 c4 c5 c6 c7 c8 c9 c10 c11 c12 c13 c14 c15 c16 c17 c18) ?_
      exact V_callV (M := ML_law) (d := (d + 13)) (mc' := 0) (ms' := 0) (mc := 0) (ms := 0) (As := [.inl (jX h 1 ((i3 + 1).toNat)), .inl (jX h 1 ((i3 + 2).toNat)), .inl (jX h 1 ((i3 + 3).toNat))]) (rest := []) dL_law_638 tX8_previous vX8_previous lL_82 s5 ⟨by decide, rfl⟩ rfl rfl (Nat.le_of_ble_eq_true rfl) (show (d + 4) + 1 ≤ (d + 13) by omega) (e17 c1 c2 c3 c4 c5 c6 c7 c8 c9 c10 c11 c12 c13 c14 c15 c16 c17 c18)
    by_cases c19 : (jand (jX h 1 ((i3).toNat)) 63) = 17
    · refine V_tabIn (off := 633) (tgt := 665) dL_law_32 (by omega) (by omega) (by rw [c19]; rfl) (by decide) ?_
      refine V_aload_n (i := 1) dL_law_665 rfl rfl ?_
      refine V_aload_n (i := 0) dL_law_666 rfl rfl ?_
      refine V_iload_n (i := 3) dL_law_667 rfl rfl ?_
      refine V_iconst dL_law_668 ⟨by decide, by decide⟩ ?_
      refine V_iadd dL_law_669 (r28 c1 c2 c3 c4 c5 c6 c7 c8 c9 c10 c11 c12 c13 c14 c15 c16 c17 c18 c19) ?_
      refine V_sld dL_law_670 (s56 c1 c2 c3 c4 c5 c6 c7 c8 c9 c10 c11 c12 c13 c14 c15 c16 c17 c18 c19) (s57 c1 c2 c3 c4 c5 c6 c7 c8 c9 c10 c11 c12 c13 c14 c15 c16 c17 c18 c19) ?_
      refine V_aload_n (i := 0) dL_law_671 rfl rfl ?_
      refine V_iload_n (i := 3) dL_law_672 rfl rfl ?_
      refine V_iconst dL_law_673 ⟨by decide, by decide⟩ ?_
      refine V_iadd dL_law_674 (r29 c1 c2 c3 c4 c5 c6 c7 c8 c9 c10 c11 c12 c13 c14 c15 c16 c17 c18 c19) ?_
      refine V_sld dL_law_675 (s58 c1 c2 c3 c4 c5 c6 c7 c8 c9 c10 c11 c12 c13 c14 c15 c16 c17 c18 c19) (s59 c1 c2 c3 c4 c5 c6 c7 c8 c9 c10 c11 c12 c13 c14 c15 c16 c17 c18 c19) ?_
      refine V_aload_n (i := 0) dL_law_676 rfl rfl ?_
      refine V_iload_n (i := 3) dL_law_677 rfl rfl ?_
      refine V_iconst dL_law_678 ⟨by decide, by decide⟩ ?_
      refine V_iadd dL_law_679 (r30 c1 c2 c3 c4 c5 c6 c7 c8 c9 c10 c11 c12 c13 c14 c15 c16 c17 c18 c19) ?_
      refine V_sld dL_law_680 (s60 c1 c2 c3 c4 c5 c6 c7 c8 c9 c10 c11 c12 c13 c14 c15 c16 c17 c18 c19) (s61 c1 c2 c3 c4 c5 c6 c7 c8 c9 c10 c11 c12 c13 c14 c15 c16 c17 c18 c19) ?_
      exact V_callV (M := ML_law) (d := (d + 13)) (mc' := 0) (ms' := 0) (mc := 0) (ms := 0) (As := [.inl (jX h 1 ((i3 + 1).toNat)), .inl (jX h 1 ((i3 + 2).toNat)), .inl (jX h 1 ((i3 + 3).toNat))]) (rest := []) dL_law_681 tX8_first vX8_first lL_86 s5 ⟨by decide, rfl⟩ rfl rfl (Nat.le_of_ble_eq_true rfl) (show (d + 4) + 1 ≤ (d + 13) by omega) (e18 c1 c2 c3 c4 c5 c6 c7 c8 c9 c10 c11 c12 c13 c14 c15 c16 c17 c18 c19)
    by_cases c20 : (jand (jX h 1 ((i3).toNat)) 63) = 18
    · refine V_tabIn (off := 676) (tgt := 708) dL_law_32 (by omega) (by omega) (by rw [c20]; rfl) (by decide) ?_
      refine V_aload_n (i := 1) dL_law_708 rfl rfl ?_
      refine V_aload_n (i := 0) dL_law_709 rfl rfl ?_
      refine V_iload_n (i := 3) dL_law_710 rfl rfl ?_
      refine V_iconst dL_law_711 ⟨by decide, by decide⟩ ?_
      refine V_iadd dL_law_712 (r31 c1 c2 c3 c4 c5 c6 c7 c8 c9 c10 c11 c12 c13 c14 c15 c16 c17 c18 c19 c20) ?_
      refine V_sld dL_law_713 (s62 c1 c2 c3 c4 c5 c6 c7 c8 c9 c10 c11 c12 c13 c14 c15 c16 c17 c18 c19 c20) (s63 c1 c2 c3 c4 c5 c6 c7 c8 c9 c10 c11 c12 c13 c14 c15 c16 c17 c18 c19 c20) ?_
      refine V_aload_n (i := 0) dL_law_714 rfl rfl ?_
      refine V_iload_n (i := 3) dL_law_715 rfl rfl ?_
      refine V_iconst dL_law_716 ⟨by decide, by decide⟩ ?_
      refine V_iadd dL_law_717 (r32 c1 c2 c3 c4 c5 c6 c7 c8 c9 c10 c11 c12 c13 c14 c15 c16 c17 c18 c19 c20) ?_
      refine V_sld dL_law_718 (s64 c1 c2 c3 c4 c5 c6 c7 c8 c9 c10 c11 c12 c13 c14 c15 c16 c17 c18 c19 c20) (s65 c1 c2 c3 c4 c5 c6 c7 c8 c9 c10 c11 c12 c13 c14 c15 c16 c17 c18 c19 c20) ?_
      refine V_aload_n (i := 0) dL_law_719 rfl rfl ?_
      refine V_iload_n (i := 3) dL_law_720 rfl rfl ?_
      refine V_iconst dL_law_721 ⟨by decide, by decide⟩ ?_
      refine V_iadd dL_law_722 (r33 c1 c2 c3 c4 c5 c6 c7 c8 c9 c10 c11 c12 c13 c14 c15 c16 c17 c18 c19 c20) ?_
      refine V_sld dL_law_723 (s66 c1 c2 c3 c4 c5 c6 c7 c8 c9 c10 c11 c12 c13 c14 c15 c16 c17 c18 c19 c20) (s67 c1 c2 c3 c4 c5 c6 c7 c8 c9 c10 c11 c12 c13 c14 c15 c16 c17 c18 c19 c20) ?_
      exact V_callV (M := ML_law) (d := (d + 13)) (mc' := 0) (ms' := 0) (mc := 0) (ms := 0) (As := [.inl (jX h 1 ((i3 + 1).toNat)), .inl (jX h 1 ((i3 + 2).toNat)), .inl (jX h 1 ((i3 + 3).toNat))]) (rest := []) dL_law_724 tX8_holds vX8_holds lL_90 s5 ⟨by decide, rfl⟩ rfl rfl (Nat.le_of_ble_eq_true rfl) (show (d + 4) + 1 ≤ (d + 13) by omega) (e19 c1 c2 c3 c4 c5 c6 c7 c8 c9 c10 c11 c12 c13 c14 c15 c16 c17 c18 c19 c20)
    by_cases c21 : (jand (jX h 1 ((i3).toNat)) 63) = 19
    · refine V_tabIn (off := 719) (tgt := 751) dL_law_32 (by omega) (by omega) (by rw [c21]; rfl) (by decide) ?_
      refine V_aload_n (i := 1) dL_law_751 rfl rfl ?_
      refine V_aload_n (i := 0) dL_law_752 rfl rfl ?_
      refine V_iload_n (i := 3) dL_law_753 rfl rfl ?_
      refine V_iconst dL_law_754 ⟨by decide, by decide⟩ ?_
      refine V_iadd dL_law_755 (r34 c1 c2 c3 c4 c5 c6 c7 c8 c9 c10 c11 c12 c13 c14 c15 c16 c17 c18 c19 c20 c21) ?_
      refine V_sld dL_law_756 (s68 c1 c2 c3 c4 c5 c6 c7 c8 c9 c10 c11 c12 c13 c14 c15 c16 c17 c18 c19 c20 c21) (s69 c1 c2 c3 c4 c5 c6 c7 c8 c9 c10 c11 c12 c13 c14 c15 c16 c17 c18 c19 c20 c21) ?_
      refine V_aload_n (i := 0) dL_law_757 rfl rfl ?_
      refine V_iload_n (i := 3) dL_law_758 rfl rfl ?_
      refine V_iconst dL_law_759 ⟨by decide, by decide⟩ ?_
      refine V_iadd dL_law_760 (r35 c1 c2 c3 c4 c5 c6 c7 c8 c9 c10 c11 c12 c13 c14 c15 c16 c17 c18 c19 c20 c21) ?_
      refine V_sld dL_law_761 (s70 c1 c2 c3 c4 c5 c6 c7 c8 c9 c10 c11 c12 c13 c14 c15 c16 c17 c18 c19 c20 c21) (s71 c1 c2 c3 c4 c5 c6 c7 c8 c9 c10 c11 c12 c13 c14 c15 c16 c17 c18 c19 c20 c21) ?_
      exact V_callV (M := ML_law) (d := (d + 13)) (mc' := 0) (ms' := 0) (mc := 0) (ms := 0) (As := [.inl (jX h 1 ((i3 + 1).toNat)), .inl (jX h 1 ((i3 + 2).toNat))]) (rest := []) dL_law_762 tX8_ticks vX8_ticks lL_94 s5 ⟨by decide, rfl⟩ rfl rfl (Nat.le_of_ble_eq_true rfl) (show (d + 4) + 1 ≤ (d + 13) by omega) (e20 c1 c2 c3 c4 c5 c6 c7 c8 c9 c10 c11 c12 c13 c14 c15 c16 c17 c18 c19 c20 c21)
    by_cases c22 : (jand (jX h 1 ((i3).toNat)) 63) = 20
    · refine V_tabIn (off := 752) (tgt := 784) dL_law_32 (by omega) (by omega) (by rw [c22]; rfl) (by decide) ?_
      refine V_aload_n (i := 1) dL_law_784 rfl rfl ?_
      refine V_aload_n (i := 0) dL_law_785 rfl rfl ?_
      refine V_iload_n (i := 3) dL_law_786 rfl rfl ?_
      refine V_iconst dL_law_787 ⟨by decide, by decide⟩ ?_
      refine V_iadd dL_law_788 (r36 c1 c2 c3 c4 c5 c6 c7 c8 c9 c10 c11 c12 c13 c14 c15 c16 c17 c18 c19 c20 c21 c22) ?_
      refine V_sld dL_law_789 (s72 c1 c2 c3 c4 c5 c6 c7 c8 c9 c10 c11 c12 c13 c14 c15 c16 c17 c18 c19 c20 c21 c22) (s73 c1 c2 c3 c4 c5 c6 c7 c8 c9 c10 c11 c12 c13 c14 c15 c16 c17 c18 c19 c20 c21 c22) ?_
      refine V_aload_n (i := 0) dL_law_790 rfl rfl ?_
      refine V_iload_n (i := 3) dL_law_791 rfl rfl ?_
      refine V_iconst dL_law_792 ⟨by decide, by decide⟩ ?_
      refine V_iadd dL_law_793 (r37 c1 c2 c3 c4 c5 c6 c7 c8 c9 c10 c11 c12 c13 c14 c15 c16 c17 c18 c19 c20 c21 c22) ?_
      refine V_sld dL_law_794 (s74 c1 c2 c3 c4 c5 c6 c7 c8 c9 c10 c11 c12 c13 c14 c15 c16 c17 c18 c19 c20 c21 c22) (s75 c1 c2 c3 c4 c5 c6 c7 c8 c9 c10 c11 c12 c13 c14 c15 c16 c17 c18 c19 c20 c21 c22) ?_
      exact V_callV (M := ML_law) (d := (d + 13)) (mc' := 0) (ms' := 0) (mc := 0) (ms := 0) (As := [.inl (jX h 1 ((i3 + 1).toNat)), .inl (jX h 1 ((i3 + 2).toNat))]) (rest := []) dL_law_795 tX8_delay vX8_delay lL_98 s5 ⟨by decide, rfl⟩ rfl rfl (Nat.le_of_ble_eq_true rfl) (show (d + 4) + 1 ≤ (d + 13) by omega) (e21 c1 c2 c3 c4 c5 c6 c7 c8 c9 c10 c11 c12 c13 c14 c15 c16 c17 c18 c19 c20 c21 c22)
    by_cases c23 : (jand (jX h 1 ((i3).toNat)) 63) = 21
    · refine V_tabIn (off := 785) (tgt := 817) dL_law_32 (by omega) (by omega) (by rw [c23]; rfl) (by decide) ?_
      refine V_aload_n (i := 1) dL_law_817 rfl rfl ?_
      refine V_aload_n (i := 0) dL_law_818 rfl rfl ?_
      refine V_iload_n (i := 3) dL_law_819 rfl rfl ?_
      refine V_iconst dL_law_820 ⟨by decide, by decide⟩ ?_
      refine V_iadd dL_law_821 (r38 c1 c2 c3 c4 c5 c6 c7 c8 c9 c10 c11 c12 c13 c14 c15 c16 c17 c18 c19 c20 c21 c22 c23) ?_
      refine V_sld dL_law_822 (s76 c1 c2 c3 c4 c5 c6 c7 c8 c9 c10 c11 c12 c13 c14 c15 c16 c17 c18 c19 c20 c21 c22 c23) (s77 c1 c2 c3 c4 c5 c6 c7 c8 c9 c10 c11 c12 c13 c14 c15 c16 c17 c18 c19 c20 c21 c22 c23) ?_
      exact V_callV (M := ML_law) (d := (d + 13)) (mc' := 0) (ms' := 0) (mc := 0) (ms := 0) (As := [.inl (jX h 1 ((i3 + 1).toNat))]) (rest := []) dL_law_823 tX8_jump vX8_jump lL_102 s5 ⟨by decide, rfl⟩ rfl rfl (Nat.le_of_ble_eq_true rfl) (show (d + 1) + 1 ≤ (d + 13) by omega) (e22 c1 c2 c3 c4 c5 c6 c7 c8 c9 c10 c11 c12 c13 c14 c15 c16 c17 c18 c19 c20 c21 c22 c23)
    by_cases c24 : (jand (jX h 1 ((i3).toNat)) 63) = 22
    · refine V_tabIn (off := 808) (tgt := 840) dL_law_32 (by omega) (by omega) (by rw [c24]; rfl) (by decide) ?_
      refine V_aload_n (i := 1) dL_law_840 rfl rfl ?_
      refine V_aload_n (i := 0) dL_law_841 rfl rfl ?_
      refine V_iload_n (i := 3) dL_law_842 rfl rfl ?_
      refine V_iconst dL_law_843 ⟨by decide, by decide⟩ ?_
      refine V_iadd dL_law_844 (r39 c1 c2 c3 c4 c5 c6 c7 c8 c9 c10 c11 c12 c13 c14 c15 c16 c17 c18 c19 c20 c21 c22 c23 c24) ?_
      refine V_sld dL_law_845 (s78 c1 c2 c3 c4 c5 c6 c7 c8 c9 c10 c11 c12 c13 c14 c15 c16 c17 c18 c19 c20 c21 c22 c23 c24) (s79 c1 c2 c3 c4 c5 c6 c7 c8 c9 c10 c11 c12 c13 c14 c15 c16 c17 c18 c19 c20 c21 c22 c23 c24) ?_
      refine V_aload_n (i := 0) dL_law_846 rfl rfl ?_
      refine V_iload_n (i := 3) dL_law_847 rfl rfl ?_
      refine V_iconst dL_law_848 ⟨by decide, by decide⟩ ?_
      refine V_iadd dL_law_849 (r40 c1 c2 c3 c4 c5 c6 c7 c8 c9 c10 c11 c12 c13 c14 c15 c16 c17 c18 c19 c20 c21 c22 c23 c24) ?_
      refine V_sld dL_law_850 (s80 c1 c2 c3 c4 c5 c6 c7 c8 c9 c10 c11 c12 c13 c14 c15 c16 c17 c18 c19 c20 c21 c22 c23 c24) (s81 c1 c2 c3 c4 c5 c6 c7 c8 c9 c10 c11 c12 c13 c14 c15 c16 c17 c18 c19 c20 c21 c22 c23 c24) ?_
      exact V_callV (M := ML_law) (d := (d + 13)) (mc' := 0) (ms' := 0) (mc := 0) (ms := 0) (As := [.inl (jX h 1 ((i3 + 1).toNat)), .inl (jX h 1 ((i3 + 2).toNat))]) (rest := []) dL_law_851 tX8_block vX8_block lL_106 s5 ⟨by decide, rfl⟩ rfl rfl (Nat.le_of_ble_eq_true rfl) (show (d + 5) + 1 ≤ (d + 13) by omega) (e23 c1 c2 c3 c4 c5 c6 c7 c8 c9 c10 c11 c12 c13 c14 c15 c16 c17 c18 c19 c20 c21 c22 c23 c24)
    by_cases c25 : (jand (jX h 1 ((i3).toNat)) 63) = 23
    · refine V_tabIn (off := 841) (tgt := 873) dL_law_32 (by omega) (by omega) (by rw [c25]; rfl) (by decide) ?_
      refine V_aload_n (i := 1) dL_law_873 rfl rfl ?_
      refine V_aload_n (i := 0) dL_law_874 rfl rfl ?_
      refine V_iload_n (i := 3) dL_law_875 rfl rfl ?_
      refine V_iconst dL_law_876 ⟨by decide, by decide⟩ ?_
      refine V_iadd dL_law_877 (r41 c1 c2 c3 c4 c5 c6 c7 c8 c9 c10 c11 c12 c13 c14 c15 c16 c17 c18 c19 c20 c21 c22 c23 c24 c25) ?_
      refine V_sld dL_law_878 (s82 c1 c2 c3 c4 c5 c6 c7 c8 c9 c10 c11 c12 c13 c14 c15 c16 c17 c18 c19 c20 c21 c22 c23 c24 c25) (s83 c1 c2 c3 c4 c5 c6 c7 c8 c9 c10 c11 c12 c13 c14 c15 c16 c17 c18 c19 c20 c21 c22 c23 c24 c25) ?_
      refine V_aload_n (i := 0) dL_law_879 rfl rfl ?_
      refine V_iload_n (i := 3) dL_law_880 rfl rfl ?_
      refine V_iconst dL_law_881 ⟨by decide, by decide⟩ ?_
      refine V_iadd dL_law_882 (r42 c1 c2 c3 c4 c5 c6 c7 c8 c9 c10 c11 c12 c13 c14 c15 c16 c17 c18 c19 c20 c21 c22 c23 c24 c25) ?_
      refine V_sld dL_law_883 (s84 c1 c2 c3 c4 c5 c6 c7 c8 c9 c10 c11 c12 c13 c14 c15 c16 c17 c18 c19 c20 c21 c22 c23 c24 c25) (s85 c1 c2 c3 c4 c5 c6 c7 c8 c9 c10 c11 c12 c13 c14 c15 c16 c17 c18 c19 c20 c21 c22 c23 c24 c25) ?_
      exact V_callV (M := ML_law) (d := (d + 13)) (mc' := 0) (ms' := 0) (mc := 0) (ms := 0) (As := [.inl (jX h 1 ((i3 + 1).toNat)), .inl (jX h 1 ((i3 + 2).toNat))]) (rest := []) dL_law_884 tX8_frame vX8_frame lL_110 s5 ⟨by decide, rfl⟩ rfl rfl (Nat.le_of_ble_eq_true rfl) (show (d + 2) + 1 ≤ (d + 13) by omega) (e24 c1 c2 c3 c4 c5 c6 c7 c8 c9 c10 c11 c12 c13 c14 c15 c16 c17 c18 c19 c20 c21 c22 c23 c24 c25)
    by_cases c26 : (jand (jX h 1 ((i3).toNat)) 63) = 24
    · refine V_tabIn (off := 874) (tgt := 906) dL_law_32 (by omega) (by omega) (by rw [c26]; rfl) (by decide) ?_
      refine V_aload_n (i := 1) dL_law_906 rfl rfl ?_
      refine V_aload_n (i := 0) dL_law_907 rfl rfl ?_
      refine V_iload_n (i := 3) dL_law_908 rfl rfl ?_
      refine V_iconst dL_law_909 ⟨by decide, by decide⟩ ?_
      refine V_iadd dL_law_910 (r43 c1 c2 c3 c4 c5 c6 c7 c8 c9 c10 c11 c12 c13 c14 c15 c16 c17 c18 c19 c20 c21 c22 c23 c24 c25 c26) ?_
      refine V_sld dL_law_911 (s86 c1 c2 c3 c4 c5 c6 c7 c8 c9 c10 c11 c12 c13 c14 c15 c16 c17 c18 c19 c20 c21 c22 c23 c24 c25 c26) (s87 c1 c2 c3 c4 c5 c6 c7 c8 c9 c10 c11 c12 c13 c14 c15 c16 c17 c18 c19 c20 c21 c22 c23 c24 c25 c26) ?_
      refine V_aload_n (i := 0) dL_law_912 rfl rfl ?_
      refine V_iload_n (i := 3) dL_law_913 rfl rfl ?_
      refine V_iconst dL_law_914 ⟨by decide, by decide⟩ ?_
      refine V_iadd dL_law_915 (r44 c1 c2 c3 c4 c5 c6 c7 c8 c9 c10 c11 c12 c13 c14 c15 c16 c17 c18 c19 c20 c21 c22 c23 c24 c25 c26) ?_
      refine V_sld dL_law_916 (s88 c1 c2 c3 c4 c5 c6 c7 c8 c9 c10 c11 c12 c13 c14 c15 c16 c17 c18 c19 c20 c21 c22 c23 c24 c25 c26) (s89 c1 c2 c3 c4 c5 c6 c7 c8 c9 c10 c11 c12 c13 c14 c15 c16 c17 c18 c19 c20 c21 c22 c23 c24 c25 c26) ?_
      refine V_aload_n (i := 0) dL_law_917 rfl rfl ?_
      refine V_iload_n (i := 3) dL_law_918 rfl rfl ?_
      refine V_iconst dL_law_919 ⟨by decide, by decide⟩ ?_
      refine V_iadd dL_law_920 (r45 c1 c2 c3 c4 c5 c6 c7 c8 c9 c10 c11 c12 c13 c14 c15 c16 c17 c18 c19 c20 c21 c22 c23 c24 c25 c26) ?_
      refine V_sld dL_law_921 (s90 c1 c2 c3 c4 c5 c6 c7 c8 c9 c10 c11 c12 c13 c14 c15 c16 c17 c18 c19 c20 c21 c22 c23 c24 c25 c26) (s91 c1 c2 c3 c4 c5 c6 c7 c8 c9 c10 c11 c12 c13 c14 c15 c16 c17 c18 c19 c20 c21 c22 c23 c24 c25 c26) ?_
      exact V_callV (M := ML_law) (d := (d + 13)) (mc' := 0) (ms' := 0) (mc := 0) (ms := 0) (As := [.inl (jX h 1 ((i3 + 1).toNat)), .inl (jX h 1 ((i3 + 2).toNat)), .inl (jX h 1 ((i3 + 3).toNat))]) (rest := []) dL_law_922 tX8_change vX8_change lL_114 s5 ⟨by decide, rfl⟩ rfl rfl (Nat.le_of_ble_eq_true rfl) (show (d + 3) + 1 ≤ (d + 13) by omega) (e25 c1 c2 c3 c4 c5 c6 c7 c8 c9 c10 c11 c12 c13 c14 c15 c16 c17 c18 c19 c20 c21 c22 c23 c24 c25 c26)
    by_cases c27 : (jand (jX h 1 ((i3).toNat)) 63) = 25
    · refine V_tabIn (off := 917) (tgt := 949) dL_law_32 (by omega) (by omega) (by rw [c27]; rfl) (by decide) ?_
      refine V_aload_n (i := 1) dL_law_949 rfl rfl ?_
      refine V_aload_n (i := 0) dL_law_950 rfl rfl ?_
      refine V_iload_n (i := 3) dL_law_951 rfl rfl ?_
      refine V_iconst dL_law_952 ⟨by decide, by decide⟩ ?_
      refine V_iadd dL_law_953 (r46 c1 c2 c3 c4 c5 c6 c7 c8 c9 c10 c11 c12 c13 c14 c15 c16 c17 c18 c19 c20 c21 c22 c23 c24 c25 c26 c27) ?_
      refine V_sld dL_law_954 (s92 c1 c2 c3 c4 c5 c6 c7 c8 c9 c10 c11 c12 c13 c14 c15 c16 c17 c18 c19 c20 c21 c22 c23 c24 c25 c26 c27) (s93 c1 c2 c3 c4 c5 c6 c7 c8 c9 c10 c11 c12 c13 c14 c15 c16 c17 c18 c19 c20 c21 c22 c23 c24 c25 c26 c27) ?_
      exact V_callV (M := ML_law) (d := (d + 13)) (mc' := 0) (ms' := 0) (mc := 0) (ms := 0) (As := [.inl (jX h 1 ((i3 + 1).toNat))]) (rest := []) dL_law_955 tX8_packed vX8_packed lL_118 s5 ⟨by decide, rfl⟩ rfl rfl (Nat.le_of_ble_eq_true rfl) (show (d + 6) + 1 ≤ (d + 13) by omega) (e26 c1 c2 c3 c4 c5 c6 c7 c8 c9 c10 c11 c12 c13 c14 c15 c16 c17 c18 c19 c20 c21 c22 c23 c24 c25 c26 c27)
    by_cases c28 : (jand (jX h 1 ((i3).toNat)) 63) = 26
    · refine V_tabIn (off := 940) (tgt := 972) dL_law_32 (by omega) (by omega) (by rw [c28]; rfl) (by decide) ?_
      refine V_aload_n (i := 1) dL_law_972 rfl rfl ?_
      exact V_callV (M := ML_law) (d := (d + 13)) (mc' := 0) (ms' := 0) (mc := 0) (ms := 0) (As := []) (rest := []) dL_law_973 tX8_best vX8_best lL_122 s5 ⟨by decide, rfl⟩ rfl rfl (Nat.le_of_ble_eq_true rfl) (show (d + 6) + 1 ≤ (d + 13) by omega) (e27 c1 c2 c3 c4 c5 c6 c7 c8 c9 c10 c11 c12 c13 c14 c15 c16 c17 c18 c19 c20 c21 c22 c23 c24 c25 c26 c27 c28)
    by_cases c29 : (jand (jX h 1 ((i3).toNat)) 63) = 27
    · refine V_tabIn (off := 953) (tgt := 985) dL_law_32 (by omega) (by omega) (by rw [c29]; rfl) (by decide) ?_
      refine V_aload_n (i := 1) dL_law_985 rfl rfl ?_
      refine V_aload_n (i := 0) dL_law_986 rfl rfl ?_
      refine V_iload_n (i := 3) dL_law_987 rfl rfl ?_
      refine V_iconst dL_law_988 ⟨by decide, by decide⟩ ?_
      refine V_iadd dL_law_989 (r47 c1 c2 c3 c4 c5 c6 c7 c8 c9 c10 c11 c12 c13 c14 c15 c16 c17 c18 c19 c20 c21 c22 c23 c24 c25 c26 c27 c28 c29) ?_
      refine V_sld dL_law_990 (s94 c1 c2 c3 c4 c5 c6 c7 c8 c9 c10 c11 c12 c13 c14 c15 c16 c17 c18 c19 c20 c21 c22 c23 c24 c25 c26 c27 c28 c29) (s95 c1 c2 c3 c4 c5 c6 c7 c8 c9 c10 c11 c12 c13 c14 c15 c16 c17 c18 c19 c20 c21 c22 c23 c24 c25 c26 c27 c28 c29) ?_
      refine V_aload_n (i := 0) dL_law_991 rfl rfl ?_
      refine V_iload_n (i := 3) dL_law_992 rfl rfl ?_
      refine V_iconst dL_law_993 ⟨by decide, by decide⟩ ?_
      refine V_iadd dL_law_994 (r48 c1 c2 c3 c4 c5 c6 c7 c8 c9 c10 c11 c12 c13 c14 c15 c16 c17 c18 c19 c20 c21 c22 c23 c24 c25 c26 c27 c28 c29) ?_
      refine V_sld dL_law_995 (s96 c1 c2 c3 c4 c5 c6 c7 c8 c9 c10 c11 c12 c13 c14 c15 c16 c17 c18 c19 c20 c21 c22 c23 c24 c25 c26 c27 c28 c29) (s97 c1 c2 c3 c4 c5 c6 c7 c8 c9 c10 c11 c12 c13 c14 c15 c16 c17 c18 c19 c20 c21 c22 c23 c24 c25 c26 c27 c28 c29) ?_
      exact V_callV (M := ML_law) (d := (d + 13)) (mc' := 0) (ms' := 0) (mc := 0) (ms := 0) (As := [.inl (jX h 1 ((i3 + 1).toNat)), .inl (jX h 1 ((i3 + 2).toNat))]) (rest := []) dL_law_996 tX8_sees vX8_sees lL_126 s5 ⟨by decide, rfl⟩ rfl rfl (Nat.le_of_ble_eq_true rfl) (show (d + 1) + 1 ≤ (d + 13) by omega) (e28 c1 c2 c3 c4 c5 c6 c7 c8 c9 c10 c11 c12 c13 c14 c15 c16 c17 c18 c19 c20 c21 c22 c23 c24 c25 c26 c27 c28 c29)
    by_cases c30 : (jand (jX h 1 ((i3).toNat)) 63) = 28
    · refine V_tabIn (off := 986) (tgt := 1018) dL_law_32 (by omega) (by omega) (by rw [c30]; rfl) (by decide) ?_
      refine V_aload_n (i := 1) dL_law_1018 rfl rfl ?_
      exact V_callV (M := ML_law) (d := (d + 13)) (mc' := 0) (ms' := 0) (mc := 0) (ms := 0) (As := []) (rest := []) dL_law_1019 tX8_forget vX8_forget lL_130 s5 ⟨by decide, rfl⟩ rfl rfl (Nat.le_of_ble_eq_true rfl) (show d + 1 ≤ (d + 13) by omega) (e29 c1 c2 c3 c4 c5 c6 c7 c8 c9 c10 c11 c12 c13 c14 c15 c16 c17 c18 c19 c20 c21 c22 c23 c24 c25 c26 c27 c28 c29 c30)
    by_cases c31 : (jand (jX h 1 ((i3).toNat)) 63) = 29
    · refine V_tabIn (off := 999) (tgt := 1031) dL_law_32 (by omega) (by omega) (by rw [c31]; rfl) (by decide) ?_
      refine V_aload_n (i := 1) dL_law_1031 rfl rfl ?_
      exact V_callV (M := ML_law) (d := (d + 13)) (mc' := 0) (ms' := 0) (mc := 0) (ms := 0) (As := []) (rest := []) dL_law_1032 tX8_which vX8_which lL_134 s5 ⟨by decide, rfl⟩ rfl rfl (Nat.le_of_ble_eq_true rfl) (show (d + 5) + 1 ≤ (d + 13) by omega) (e30 c1 c2 c3 c4 c5 c6 c7 c8 c9 c10 c11 c12 c13 c14 c15 c16 c17 c18 c19 c20 c21 c22 c23 c24 c25 c26 c27 c28 c29 c30 c31)
    by_cases c32 : (jand (jX h 1 ((i3).toNat)) 63) = 30
    · refine V_tabIn (off := 1012) (tgt := 1044) dL_law_32 (by omega) (by omega) (by rw [c32]; rfl) (by decide) ?_
      refine V_aload_n (i := 1) dL_law_1044 rfl rfl ?_
      exact V_callV (M := ML_law) (d := (d + 13)) (mc' := 0) (ms' := 0) (mc := 0) (ms := 0) (As := []) (rest := []) dL_law_1045 tX8_look vX8_look lL_138 s5 ⟨by decide, rfl⟩ rfl rfl (Nat.le_of_ble_eq_true rfl) (show (d + 5) + 1 ≤ (d + 13) by omega) (e31 c1 c2 c3 c4 c5 c6 c7 c8 c9 c10 c11 c12 c13 c14 c15 c16 c17 c18 c19 c20 c21 c22 c23 c24 c25 c26 c27 c28 c29 c30 c31 c32)
    by_cases c33 : (jand (jX h 1 ((i3).toNat)) 63) = 31
    · refine V_tabIn (off := 1025) (tgt := 1057) dL_law_32 (by omega) (by omega) (by rw [c33]; rfl) (by decide) ?_
      refine V_aload_n (i := 1) dL_law_1057 rfl rfl ?_
      refine V_aload_n (i := 0) dL_law_1058 rfl rfl ?_
      refine V_iload_n (i := 3) dL_law_1059 rfl rfl ?_
      refine V_iconst dL_law_1060 ⟨by decide, by decide⟩ ?_
      refine V_iadd dL_law_1061 (r49 c1 c2 c3 c4 c5 c6 c7 c8 c9 c10 c11 c12 c13 c14 c15 c16 c17 c18 c19 c20 c21 c22 c23 c24 c25 c26 c27 c28 c29 c30 c31 c32 c33) ?_
      refine V_sld dL_law_1062 (s98 c1 c2 c3 c4 c5 c6 c7 c8 c9 c10 c11 c12 c13 c14 c15 c16 c17 c18 c19 c20 c21 c22 c23 c24 c25 c26 c27 c28 c29 c30 c31 c32 c33) (s99 c1 c2 c3 c4 c5 c6 c7 c8 c9 c10 c11 c12 c13 c14 c15 c16 c17 c18 c19 c20 c21 c22 c23 c24 c25 c26 c27 c28 c29 c30 c31 c32 c33) ?_
      exact V_callV (M := ML_law) (d := (d + 13)) (mc' := 0) (ms' := 0) (mc := 0) (ms := 0) (As := [.inl (jX h 1 ((i3 + 1).toNat))]) (rest := []) dL_law_1063 tX8_keep vX8_keep lL_142 s5 ⟨by decide, rfl⟩ rfl rfl (Nat.le_of_ble_eq_true rfl) (show (d + 5) + 1 ≤ (d + 13) by omega) (e32 c1 c2 c3 c4 c5 c6 c7 c8 c9 c10 c11 c12 c13 c14 c15 c16 c17 c18 c19 c20 c21 c22 c23 c24 c25 c26 c27 c28 c29 c30 c31 c32 c33)
    by_cases c34 : (jand (jX h 1 ((i3).toNat)) 63) = 32
    · refine V_tabIn (off := 1048) (tgt := 1080) dL_law_32 (by omega) (by omega) (by rw [c34]; rfl) (by decide) ?_
      refine V_aload_n (i := 1) dL_law_1080 rfl rfl ?_
      refine V_aload_n (i := 0) dL_law_1081 rfl rfl ?_
      refine V_iload_n (i := 3) dL_law_1082 rfl rfl ?_
      refine V_iconst dL_law_1083 ⟨by decide, by decide⟩ ?_
      refine V_iadd dL_law_1084 (r50 c1 c2 c3 c4 c5 c6 c7 c8 c9 c10 c11 c12 c13 c14 c15 c16 c17 c18 c19 c20 c21 c22 c23 c24 c25 c26 c27 c28 c29 c30 c31 c32 c33 c34) ?_
      refine V_sld dL_law_1085 (s100 c1 c2 c3 c4 c5 c6 c7 c8 c9 c10 c11 c12 c13 c14 c15 c16 c17 c18 c19 c20 c21 c22 c23 c24 c25 c26 c27 c28 c29 c30 c31 c32 c33 c34) (s101 c1 c2 c3 c4 c5 c6 c7 c8 c9 c10 c11 c12 c13 c14 c15 c16 c17 c18 c19 c20 c21 c22 c23 c24 c25 c26 c27 c28 c29 c30 c31 c32 c33 c34) ?_
      exact V_callV (M := ML_law) (d := (d + 13)) (mc' := 0) (ms' := 0) (mc := 0) (ms := 0) (As := [.inl (jX h 1 ((i3 + 1).toNat))]) (rest := []) dL_law_1086 tX8_back vX8_back lL_146 s5 ⟨by decide, rfl⟩ rfl rfl (Nat.le_of_ble_eq_true rfl) (show (d + 5) + 1 ≤ (d + 13) by omega) (e33 c1 c2 c3 c4 c5 c6 c7 c8 c9 c10 c11 c12 c13 c14 c15 c16 c17 c18 c19 c20 c21 c22 c23 c24 c25 c26 c27 c28 c29 c30 c31 c32 c33 c34)
    by_cases c35 : (jand (jX h 1 ((i3).toNat)) 63) = 33
    · refine V_tabIn (off := 1071) (tgt := 1103) dL_law_32 (by omega) (by omega) (by rw [c35]; rfl) (by decide) ?_
      refine V_aload_n (i := 1) dL_law_1103 rfl rfl ?_
      refine V_aload_n (i := 0) dL_law_1104 rfl rfl ?_
      refine V_iload_n (i := 3) dL_law_1105 rfl rfl ?_
      refine V_iconst dL_law_1106 ⟨by decide, by decide⟩ ?_
      refine V_iadd dL_law_1107 (r51 c1 c2 c3 c4 c5 c6 c7 c8 c9 c10 c11 c12 c13 c14 c15 c16 c17 c18 c19 c20 c21 c22 c23 c24 c25 c26 c27 c28 c29 c30 c31 c32 c33 c34 c35) ?_
      refine V_sld dL_law_1108 (s102 c1 c2 c3 c4 c5 c6 c7 c8 c9 c10 c11 c12 c13 c14 c15 c16 c17 c18 c19 c20 c21 c22 c23 c24 c25 c26 c27 c28 c29 c30 c31 c32 c33 c34 c35) (s103 c1 c2 c3 c4 c5 c6 c7 c8 c9 c10 c11 c12 c13 c14 c15 c16 c17 c18 c19 c20 c21 c22 c23 c24 c25 c26 c27 c28 c29 c30 c31 c32 c33 c34 c35) ?_
      exact V_callV (M := ML_law) (d := (d + 13)) (mc' := 0) (ms' := 0) (mc := 0) (ms := 0) (As := [.inl (jX h 1 ((i3 + 1).toNat))]) (rest := []) dL_law_1109 tX8_count vX8_count lL_150 s5 ⟨by decide, rfl⟩ rfl rfl (Nat.le_of_ble_eq_true rfl) (show (d + 6) + 1 ≤ (d + 13) by omega) (e34 c1 c2 c3 c4 c5 c6 c7 c8 c9 c10 c11 c12 c13 c14 c15 c16 c17 c18 c19 c20 c21 c22 c23 c24 c25 c26 c27 c28 c29 c30 c31 c32 c33 c34 c35)
    refine V_tabOut (tgt := 1126) dL_law_32 (by omega) (by decide) ?_
    exact (k1 c1 c2 c3 c4 c5 c6 c7 c8 c9 c10 c11 c12 c13 c14 c15 c16 c17 c18 c19 c20 c21 c22 c23 c24 c25 c26 c27 c28 c29 c30 c31 c32 c33 c34 c35)
theorem bL_law_1126 {d : Nat} {Q : Option jA → jH → Prop} (a1 : Nat) (a2 : Nat) (i3 : Int) (h : jH)
    (r1 : jR (i3 + 5))
    (k1 : V ML_law (d + 13) 18 [some (.inr 1), some (.inr a1), some (.inr a2), some (.inl (i3 + 5))] [] h 0 0 Q) :
    V ML_law (d + 13) 1126 [some (.inr 1), some (.inr a1), some (.inr a2), some (.inl i3)] [] h 0 0 Q := by
  refine V_iinc (i := 3) dL_law_1126 rfl (by decide) r1 ?_
  refine V_goto (tgt := 18) dL_law_1129 (by decide) ?_
  exact k1
theorem bL_law_7 {d mc ms : Nat} {Q : Option jA → jH → Prop} (u1 : Option jA) (u2 : Option jA) (u3 : Option jA) (q0 : Nat) (mc1 ms1 : Nat) (h : jH)
    (e1 : Ex MX9_init (d + 3) [.inr (jN h)] (jnew h 9 50) mc1 ms1 (fun v h2 => V ML_law (d + 13) 15 [some (.inr 1), some (.inr q0), u2, u3] (v.toList ++ [.inr (jN h)]) h2 mc ms Q))
    (s1 : (jS (jnew h 9 50) (jN h)).1 = 9) :
    V ML_law (d + 13) 7 [some (.inr 1), u1, u2, u3] [.inr q0] h ((mc1 + mc) + 1) ((ms1 + ms) + 50) Q := by
  refine V_astore_n (i := 1) dL_law_7 rfl (by decide) ?_
  refine V_new (ci := 9) (n := 50) dL_law_8 rfl (by decide) clL_10 in9 ini9 ?_
  refine V_dup dL_law_11 ?_
  exact V_callI (M := ML_law) (d := (d + 13)) (As := []) (rest := [.inr (jN h)]) dL_law_12 tX9_init iX9_init lL_12 rfl s1 (by decide) rfl rfl (Nat.le_of_ble_eq_true rfl) (show (d + 3) + 1 ≤ (d + 13) by omega) e1
theorem bL_law_193 {d : Nat} {Q : Option jA → jH → Prop} (a1 : Nat) (a2 : Nat) (i3 : Int) (p0 : Int) (h : jH)
    (r1 : jR (i3 + 1))
    (s1 : 0 ≤ i3 + 1)
    (s2 : i3 + 1 < ((jS h 1).2 : Int))
    (e1 : Ex MX9_type (d + 1) [.inr a2, .inl (jX h 1 ((i3 + 1).toNat))] h 0 0 (fun v h2 => V ML_law (d + 13) 202 [some (.inr 1), some (.inr a1), some (.inr a2), some (.inl i3)] (v.toList ++ [.inl p0]) h2 0 0 Q))
    (s3 : (jS h a2).1 = 9) :
    V ML_law (d + 13) 193 [some (.inr 1), some (.inr a1), some (.inr a2), some (.inl i3)] [.inl p0] h 0 0 Q := by
  refine V_aload_n (i := 2) dL_law_193 rfl rfl ?_
  refine V_aload_n (i := 0) dL_law_194 rfl rfl ?_
  refine V_iload_n (i := 3) dL_law_195 rfl rfl ?_
  refine V_iconst dL_law_196 ⟨by decide, by decide⟩ ?_
  refine V_iadd dL_law_197 r1 ?_
  refine V_sld dL_law_198 s1 s2 ?_
  exact V_callV (M := ML_law) (d := (d + 13)) (mc' := 0) (ms' := 0) (mc := 0) (ms := 0) (As := [.inl (jX h 1 ((i3 + 1).toNat))]) (rest := [.inl p0]) dL_law_199 tX9_type vX9_type lL_17 s3 ⟨by decide, rfl⟩ rfl rfl (Nat.le_of_ble_eq_true rfl) (show (d + 1) + 1 ≤ (d + 13) by omega) e1
theorem bL_law_211 {d : Nat} {Q : Option jA → jH → Prop} (a1 : Nat) (a2 : Nat) (i3 : Int) (p0 : Int) (h : jH)
    (e1 : Ex MX9_clear d [.inr a2] h 0 0 (fun v h2 => V ML_law (d + 13) 215 [some (.inr 1), some (.inr a1), some (.inr a2), some (.inl i3)] (v.toList ++ [.inl p0]) h2 0 0 Q))
    (s1 : (jS h a2).1 = 9) :
    V ML_law (d + 13) 211 [some (.inr 1), some (.inr a1), some (.inr a2), some (.inl i3)] [.inl p0] h 0 0 Q := by
  refine V_aload_n (i := 2) dL_law_211 rfl rfl ?_
  exact V_callV (M := ML_law) (d := (d + 13)) (mc' := 0) (ms' := 0) (mc := 0) (ms := 0) (As := []) (rest := [.inl p0]) dL_law_212 tX9_clear vX9_clear lL_22 s1 ⟨by decide, rfl⟩ rfl rfl (Nat.le_of_ble_eq_true rfl) (show d + 1 ≤ (d + 13) by omega) e1
theorem bL_law_224 {d : Nat} {Q : Option jA → jH → Prop} (a1 : Nat) (a2 : Nat) (i3 : Int) (p0 : Int) (h : jH)
    (e1 : Ex MX9_tells (d + 9) [.inr a2] h 0 0 (fun v h2 => V ML_law (d + 13) 228 [some (.inr 1), some (.inr a1), some (.inr a2), some (.inl i3)] (v.toList ++ [.inl p0]) h2 0 0 Q))
    (s1 : (jS h a2).1 = 9) :
    V ML_law (d + 13) 224 [some (.inr 1), some (.inr a1), some (.inr a2), some (.inl i3)] [.inl p0] h 0 0 Q := by
  refine V_aload_n (i := 2) dL_law_224 rfl rfl ?_
  exact V_callV (M := ML_law) (d := (d + 13)) (mc' := 0) (ms' := 0) (mc := 0) (ms := 0) (As := []) (rest := [.inl p0]) dL_law_225 tX9_tells vX9_tells lL_26 s1 ⟨by decide, rfl⟩ rfl rfl (Nat.le_of_ble_eq_true rfl) (show (d + 9) + 1 ≤ (d + 13) by omega) e1
theorem bL_law_237 {d : Nat} {Q : Option jA → jH → Prop} (a1 : Nat) (a2 : Nat) (i3 : Int) (p0 : Int) (h : jH)
    (e1 : Ex MX9_node (d + 4) [.inr a2] h 0 0 (fun v h2 => V ML_law (d + 13) 241 [some (.inr 1), some (.inr a1), some (.inr a2), some (.inl i3)] (v.toList ++ [.inl p0]) h2 0 0 Q))
    (s1 : (jS h a2).1 = 9) :
    V ML_law (d + 13) 237 [some (.inr 1), some (.inr a1), some (.inr a2), some (.inl i3)] [.inl p0] h 0 0 Q := by
  refine V_aload_n (i := 2) dL_law_237 rfl rfl ?_
  exact V_callV (M := ML_law) (d := (d + 13)) (mc' := 0) (ms' := 0) (mc := 0) (ms := 0) (As := []) (rest := [.inl p0]) dL_law_238 tX9_node vX9_node lL_30 s1 ⟨by decide, rfl⟩ rfl rfl (Nat.le_of_ble_eq_true rfl) (show (d + 4) + 1 ≤ (d + 13) by omega) e1
theorem bL_law_260 {d : Nat} {Q : Option jA → jH → Prop} (a1 : Nat) (a2 : Nat) (i3 : Int) (p0 : Int) (h : jH)
    (r1 : jR (i3 + 1))
    (s1 : 0 ≤ i3 + 1)
    (s2 : i3 + 1 < ((jS h 1).2 : Int))
    (r2 : jR (i3 + 2))
    (s3 : 0 ≤ i3 + 2)
    (s4 : i3 + 2 < ((jS h 1).2 : Int))
    (e1 : Ex MX9_about (d + 3) [.inr a2, .inl (jX h 1 ((i3 + 1).toNat)), .inl (jX h 1 ((i3 + 2).toNat))] h 0 0 (fun v h2 => V ML_law (d + 13) 274 [some (.inr 1), some (.inr a1), some (.inr a2), some (.inl i3)] (v.toList ++ [.inl p0]) h2 0 0 Q))
    (s5 : (jS h a2).1 = 9) :
    V ML_law (d + 13) 260 [some (.inr 1), some (.inr a1), some (.inr a2), some (.inl i3)] [.inl p0] h 0 0 Q := by
  refine V_aload_n (i := 2) dL_law_260 rfl rfl ?_
  refine V_aload_n (i := 0) dL_law_261 rfl rfl ?_
  refine V_iload_n (i := 3) dL_law_262 rfl rfl ?_
  refine V_iconst dL_law_263 ⟨by decide, by decide⟩ ?_
  refine V_iadd dL_law_264 r1 ?_
  refine V_sld dL_law_265 s1 s2 ?_
  refine V_aload_n (i := 0) dL_law_266 rfl rfl ?_
  refine V_iload_n (i := 3) dL_law_267 rfl rfl ?_
  refine V_iconst dL_law_268 ⟨by decide, by decide⟩ ?_
  refine V_iadd dL_law_269 r2 ?_
  refine V_sld dL_law_270 s3 s4 ?_
  exact V_callV (M := ML_law) (d := (d + 13)) (mc' := 0) (ms' := 0) (mc := 0) (ms := 0) (As := [.inl (jX h 1 ((i3 + 1).toNat)), .inl (jX h 1 ((i3 + 2).toNat))]) (rest := [.inl p0]) dL_law_271 tX9_about vX9_about lL_35 s5 ⟨by decide, rfl⟩ rfl rfl (Nat.le_of_ble_eq_true rfl) (show (d + 3) + 1 ≤ (d + 13) by omega) e1
theorem bL_law_293 {d : Nat} {Q : Option jA → jH → Prop} (a1 : Nat) (a2 : Nat) (i3 : Int) (p0 : Int) (h : jH)
    (r1 : jR (i3 + 1))
    (s1 : 0 ≤ i3 + 1)
    (s2 : i3 + 1 < ((jS h 1).2 : Int))
    (r2 : jR (i3 + 2))
    (s3 : 0 ≤ i3 + 2)
    (s4 : i3 + 2 < ((jS h 1).2 : Int))
    (e1 : Ex MX9_scope (d + 1) [.inr a2, .inl (jX h 1 ((i3 + 1).toNat)), .inl (jX h 1 ((i3 + 2).toNat))] h 0 0 (fun v h2 => V ML_law (d + 13) 307 [some (.inr 1), some (.inr a1), some (.inr a2), some (.inl i3)] (v.toList ++ [.inl p0]) h2 0 0 Q))
    (s5 : (jS h a2).1 = 9) :
    V ML_law (d + 13) 293 [some (.inr 1), some (.inr a1), some (.inr a2), some (.inl i3)] [.inl p0] h 0 0 Q := by
  refine V_aload_n (i := 2) dL_law_293 rfl rfl ?_
  refine V_aload_n (i := 0) dL_law_294 rfl rfl ?_
  refine V_iload_n (i := 3) dL_law_295 rfl rfl ?_
  refine V_iconst dL_law_296 ⟨by decide, by decide⟩ ?_
  refine V_iadd dL_law_297 r1 ?_
  refine V_sld dL_law_298 s1 s2 ?_
  refine V_aload_n (i := 0) dL_law_299 rfl rfl ?_
  refine V_iload_n (i := 3) dL_law_300 rfl rfl ?_
  refine V_iconst dL_law_301 ⟨by decide, by decide⟩ ?_
  refine V_iadd dL_law_302 r2 ?_
  refine V_sld dL_law_303 s3 s4 ?_
  exact V_callV (M := ML_law) (d := (d + 13)) (mc' := 0) (ms' := 0) (mc := 0) (ms := 0) (As := [.inl (jX h 1 ((i3 + 1).toNat)), .inl (jX h 1 ((i3 + 2).toNat))]) (rest := [.inl p0]) dL_law_304 tX9_scope vX9_scope lL_39 s5 ⟨by decide, rfl⟩ rfl rfl (Nat.le_of_ble_eq_true rfl) (show (d + 1) + 1 ≤ (d + 13) by omega) e1
theorem bL_law_326 {d : Nat} {Q : Option jA → jH → Prop} (a1 : Nat) (a2 : Nat) (i3 : Int) (p0 : Int) (h : jH)
    (r1 : jR (i3 + 1))
    (s1 : 0 ≤ i3 + 1)
    (s2 : i3 + 1 < ((jS h 1).2 : Int))
    (r2 : jR (i3 + 2))
    (s3 : 0 ≤ i3 + 2)
    (s4 : i3 + 2 < ((jS h 1).2 : Int))
    (e1 : Ex MX9_listed (d + 2) [.inr a2, .inl (jX h 1 ((i3 + 1).toNat)), .inl (jX h 1 ((i3 + 2).toNat))] h 0 0 (fun v h2 => V ML_law (d + 13) 340 [some (.inr 1), some (.inr a1), some (.inr a2), some (.inl i3)] (v.toList ++ [.inl p0]) h2 0 0 Q))
    (s5 : (jS h a2).1 = 9) :
    V ML_law (d + 13) 326 [some (.inr 1), some (.inr a1), some (.inr a2), some (.inl i3)] [.inl p0] h 0 0 Q := by
  refine V_aload_n (i := 2) dL_law_326 rfl rfl ?_
  refine V_aload_n (i := 0) dL_law_327 rfl rfl ?_
  refine V_iload_n (i := 3) dL_law_328 rfl rfl ?_
  refine V_iconst dL_law_329 ⟨by decide, by decide⟩ ?_
  refine V_iadd dL_law_330 r1 ?_
  refine V_sld dL_law_331 s1 s2 ?_
  refine V_aload_n (i := 0) dL_law_332 rfl rfl ?_
  refine V_iload_n (i := 3) dL_law_333 rfl rfl ?_
  refine V_iconst dL_law_334 ⟨by decide, by decide⟩ ?_
  refine V_iadd dL_law_335 r2 ?_
  refine V_sld dL_law_336 s3 s4 ?_
  exact V_callV (M := ML_law) (d := (d + 13)) (mc' := 0) (ms' := 0) (mc := 0) (ms := 0) (As := [.inl (jX h 1 ((i3 + 1).toNat)), .inl (jX h 1 ((i3 + 2).toNat))]) (rest := [.inl p0]) dL_law_337 tX9_listed vX9_listed lL_43 s5 ⟨by decide, rfl⟩ rfl rfl (Nat.le_of_ble_eq_true rfl) (show (d + 2) + 1 ≤ (d + 13) by omega) e1
theorem bL_law_359 {d : Nat} {Q : Option jA → jH → Prop} (a1 : Nat) (a2 : Nat) (i3 : Int) (p0 : Int) (h : jH)
    (r1 : jR (i3 + 1))
    (s1 : 0 ≤ i3 + 1)
    (s2 : i3 + 1 < ((jS h 1).2 : Int))
    (r2 : jR (i3 + 2))
    (s3 : 0 ≤ i3 + 2)
    (s4 : i3 + 2 < ((jS h 1).2 : Int))
    (e1 : Ex MX9_path (d + 2) [.inr a2, .inl (jX h 1 ((i3 + 1).toNat)), .inl (jX h 1 ((i3 + 2).toNat))] h 0 0 (fun v h2 => V ML_law (d + 13) 373 [some (.inr 1), some (.inr a1), some (.inr a2), some (.inl i3)] (v.toList ++ [.inl p0]) h2 0 0 Q))
    (s5 : (jS h a2).1 = 9) :
    V ML_law (d + 13) 359 [some (.inr 1), some (.inr a1), some (.inr a2), some (.inl i3)] [.inl p0] h 0 0 Q := by
  refine V_aload_n (i := 2) dL_law_359 rfl rfl ?_
  refine V_aload_n (i := 0) dL_law_360 rfl rfl ?_
  refine V_iload_n (i := 3) dL_law_361 rfl rfl ?_
  refine V_iconst dL_law_362 ⟨by decide, by decide⟩ ?_
  refine V_iadd dL_law_363 r1 ?_
  refine V_sld dL_law_364 s1 s2 ?_
  refine V_aload_n (i := 0) dL_law_365 rfl rfl ?_
  refine V_iload_n (i := 3) dL_law_366 rfl rfl ?_
  refine V_iconst dL_law_367 ⟨by decide, by decide⟩ ?_
  refine V_iadd dL_law_368 r2 ?_
  refine V_sld dL_law_369 s3 s4 ?_
  exact V_callV (M := ML_law) (d := (d + 13)) (mc' := 0) (ms' := 0) (mc := 0) (ms := 0) (As := [.inl (jX h 1 ((i3 + 1).toNat)), .inl (jX h 1 ((i3 + 2).toNat))]) (rest := [.inl p0]) dL_law_370 tX9_path vX9_path lL_47 s5 ⟨by decide, rfl⟩ rfl rfl (Nat.le_of_ble_eq_true rfl) (show (d + 2) + 1 ≤ (d + 13) by omega) e1
theorem bL_law_392 {d : Nat} {Q : Option jA → jH → Prop} (a1 : Nat) (a2 : Nat) (i3 : Int) (p0 : Int) (h : jH)
    (r1 : jR (i3 + 1))
    (s1 : 0 ≤ i3 + 1)
    (s2 : i3 + 1 < ((jS h 1).2 : Int))
    (r2 : jR (i3 + 2))
    (s3 : 0 ≤ i3 + 2)
    (s4 : i3 + 2 < ((jS h 1).2 : Int))
    (e1 : Ex MX9_sets (d + 3) [.inr a2, .inl (jX h 1 ((i3 + 1).toNat)), .inl (jX h 1 ((i3 + 2).toNat))] h 0 0 (fun v h2 => V ML_law (d + 13) 406 [some (.inr 1), some (.inr a1), some (.inr a2), some (.inl i3)] (v.toList ++ [.inl p0]) h2 0 0 Q))
    (s5 : (jS h a2).1 = 9) :
    V ML_law (d + 13) 392 [some (.inr 1), some (.inr a1), some (.inr a2), some (.inl i3)] [.inl p0] h 0 0 Q := by
  refine V_aload_n (i := 2) dL_law_392 rfl rfl ?_
  refine V_aload_n (i := 0) dL_law_393 rfl rfl ?_
  refine V_iload_n (i := 3) dL_law_394 rfl rfl ?_
  refine V_iconst dL_law_395 ⟨by decide, by decide⟩ ?_
  refine V_iadd dL_law_396 r1 ?_
  refine V_sld dL_law_397 s1 s2 ?_
  refine V_aload_n (i := 0) dL_law_398 rfl rfl ?_
  refine V_iload_n (i := 3) dL_law_399 rfl rfl ?_
  refine V_iconst dL_law_400 ⟨by decide, by decide⟩ ?_
  refine V_iadd dL_law_401 r2 ?_
  refine V_sld dL_law_402 s3 s4 ?_
  exact V_callV (M := ML_law) (d := (d + 13)) (mc' := 0) (ms' := 0) (mc := 0) (ms := 0) (As := [.inl (jX h 1 ((i3 + 1).toNat)), .inl (jX h 1 ((i3 + 2).toNat))]) (rest := [.inl p0]) dL_law_403 tX9_sets vX9_sets lL_51 s5 ⟨by decide, rfl⟩ rfl rfl (Nat.le_of_ble_eq_true rfl) (show (d + 3) + 1 ≤ (d + 13) by omega) e1
theorem bL_law_420 {d : Nat} {Q : Option jA → jH → Prop} (a1 : Nat) (a2 : Nat) (i3 : Int) (p0 : Int) (h : jH)
    (r1 : jR (i3 + 1))
    (s1 : 0 ≤ i3 + 1)
    (s2 : i3 + 1 < ((jS h 1).2 : Int))
    (e1 : Ex MX9_passes_ (d + 1) [.inr a2, .inl (jX h 1 ((i3 + 1).toNat))] h 0 0 (fun v h2 => V ML_law (d + 13) 429 [some (.inr 1), some (.inr a1), some (.inr a2), some (.inl i3)] (v.toList ++ [.inl p0]) h2 0 0 Q))
    (s3 : (jS h a2).1 = 9) :
    V ML_law (d + 13) 420 [some (.inr 1), some (.inr a1), some (.inr a2), some (.inl i3)] [.inl p0] h 0 0 Q := by
  refine V_aload_n (i := 2) dL_law_420 rfl rfl ?_
  refine V_aload_n (i := 0) dL_law_421 rfl rfl ?_
  refine V_iload_n (i := 3) dL_law_422 rfl rfl ?_
  refine V_iconst dL_law_423 ⟨by decide, by decide⟩ ?_
  refine V_iadd dL_law_424 r1 ?_
  refine V_sld dL_law_425 s1 s2 ?_
  exact V_callV (M := ML_law) (d := (d + 13)) (mc' := 0) (ms' := 0) (mc := 0) (ms := 0) (As := [.inl (jX h 1 ((i3 + 1).toNat))]) (rest := [.inl p0]) dL_law_426 tX9_passes_ vX9_passes_ lL_55 s3 ⟨by decide, rfl⟩ rfl rfl (Nat.le_of_ble_eq_true rfl) (show (d + 1) + 1 ≤ (d + 13) by omega) e1
theorem bL_law_443 {d : Nat} {Q : Option jA → jH → Prop} (a1 : Nat) (a2 : Nat) (i3 : Int) (p0 : Int) (h : jH)
    (r1 : jR (i3 + 1))
    (s1 : 0 ≤ i3 + 1)
    (s2 : i3 + 1 < ((jS h 1).2 : Int))
    (e1 : Ex MX9_dumps (d + 2) [.inr a2, .inl (jX h 1 ((i3 + 1).toNat))] h 0 0 (fun v h2 => V ML_law (d + 13) 452 [some (.inr 1), some (.inr a1), some (.inr a2), some (.inl i3)] (v.toList ++ [.inl p0]) h2 0 0 Q))
    (s3 : (jS h a2).1 = 9) :
    V ML_law (d + 13) 443 [some (.inr 1), some (.inr a1), some (.inr a2), some (.inl i3)] [.inl p0] h 0 0 Q := by
  refine V_aload_n (i := 2) dL_law_443 rfl rfl ?_
  refine V_aload_n (i := 0) dL_law_444 rfl rfl ?_
  refine V_iload_n (i := 3) dL_law_445 rfl rfl ?_
  refine V_iconst dL_law_446 ⟨by decide, by decide⟩ ?_
  refine V_iadd dL_law_447 r1 ?_
  refine V_sld dL_law_448 s1 s2 ?_
  exact V_callV (M := ML_law) (d := (d + 13)) (mc' := 0) (ms' := 0) (mc := 0) (ms := 0) (As := [.inl (jX h 1 ((i3 + 1).toNat))]) (rest := [.inl p0]) dL_law_449 tX9_dumps vX9_dumps lL_59 s3 ⟨by decide, rfl⟩ rfl rfl (Nat.le_of_ble_eq_true rfl) (show (d + 2) + 1 ≤ (d + 13) by omega) e1
theorem bL_law_466 {d : Nat} {Q : Option jA → jH → Prop} (a1 : Nat) (a2 : Nat) (i3 : Int) (p0 : Int) (h : jH)
    (r1 : jR (i3 + 1))
    (s1 : 0 ≤ i3 + 1)
    (s2 : i3 + 1 < ((jS h 1).2 : Int))
    (e1 : Ex MX9_sizes (d + 1) [.inr a2, .inl (jX h 1 ((i3 + 1).toNat))] h 0 0 (fun v h2 => V ML_law (d + 13) 475 [some (.inr 1), some (.inr a1), some (.inr a2), some (.inl i3)] (v.toList ++ [.inl p0]) h2 0 0 Q))
    (s3 : (jS h a2).1 = 9) :
    V ML_law (d + 13) 466 [some (.inr 1), some (.inr a1), some (.inr a2), some (.inl i3)] [.inl p0] h 0 0 Q := by
  refine V_aload_n (i := 2) dL_law_466 rfl rfl ?_
  refine V_aload_n (i := 0) dL_law_467 rfl rfl ?_
  refine V_iload_n (i := 3) dL_law_468 rfl rfl ?_
  refine V_iconst dL_law_469 ⟨by decide, by decide⟩ ?_
  refine V_iadd dL_law_470 r1 ?_
  refine V_sld dL_law_471 s1 s2 ?_
  exact V_callV (M := ML_law) (d := (d + 13)) (mc' := 0) (ms' := 0) (mc := 0) (ms := 0) (As := [.inl (jX h 1 ((i3 + 1).toNat))]) (rest := [.inl p0]) dL_law_472 tX9_sizes vX9_sizes lL_63 s3 ⟨by decide, rfl⟩ rfl rfl (Nat.le_of_ble_eq_true rfl) (show (d + 1) + 1 ≤ (d + 13) by omega) e1
theorem bL_law_484 {d : Nat} {Q : Option jA → jH → Prop} (a1 : Nat) (a2 : Nat) (i3 : Int) (p0 : Int) (h : jH)
    (e1 : Ex MX9_undo d [.inr a2] h 0 0 (fun v h2 => V ML_law (d + 13) 488 [some (.inr 1), some (.inr a1), some (.inr a2), some (.inl i3)] (v.toList ++ [.inl p0]) h2 0 0 Q))
    (s1 : (jS h a2).1 = 9) :
    V ML_law (d + 13) 484 [some (.inr 1), some (.inr a1), some (.inr a2), some (.inl i3)] [.inl p0] h 0 0 Q := by
  refine V_aload_n (i := 2) dL_law_484 rfl rfl ?_
  exact V_callV (M := ML_law) (d := (d + 13)) (mc' := 0) (ms' := 0) (mc := 0) (ms := 0) (As := []) (rest := [.inl p0]) dL_law_485 tX9_undo vX9_undo lL_67 s1 ⟨by decide, rfl⟩ rfl rfl (Nat.le_of_ble_eq_true rfl) (show d + 1 ≤ (d + 13) by omega) e1
theorem bL_law_507 {d : Nat} {Q : Option jA → jH → Prop} (a1 : Nat) (a2 : Nat) (i3 : Int) (p0 : Int) (h : jH)
    (r1 : jR (i3 + 1))
    (s1 : 0 ≤ i3 + 1)
    (s2 : i3 + 1 < ((jS h 1).2 : Int))
    (r2 : jR (i3 + 2))
    (s3 : 0 ≤ i3 + 2)
    (s4 : i3 + 2 < ((jS h 1).2 : Int))
    (e1 : Ex MX9_at (d + 4) [.inr a2, .inl (jX h 1 ((i3 + 1).toNat)), .inl (jX h 1 ((i3 + 2).toNat))] h 0 0 (fun v h2 => V ML_law (d + 13) 521 [some (.inr 1), some (.inr a1), some (.inr a2), some (.inl i3)] (v.toList ++ [.inl p0]) h2 0 0 Q))
    (s5 : (jS h a2).1 = 9) :
    V ML_law (d + 13) 507 [some (.inr 1), some (.inr a1), some (.inr a2), some (.inl i3)] [.inl p0] h 0 0 Q := by
  refine V_aload_n (i := 2) dL_law_507 rfl rfl ?_
  refine V_aload_n (i := 0) dL_law_508 rfl rfl ?_
  refine V_iload_n (i := 3) dL_law_509 rfl rfl ?_
  refine V_iconst dL_law_510 ⟨by decide, by decide⟩ ?_
  refine V_iadd dL_law_511 r1 ?_
  refine V_sld dL_law_512 s1 s2 ?_
  refine V_aload_n (i := 0) dL_law_513 rfl rfl ?_
  refine V_iload_n (i := 3) dL_law_514 rfl rfl ?_
  refine V_iconst dL_law_515 ⟨by decide, by decide⟩ ?_
  refine V_iadd dL_law_516 r2 ?_
  refine V_sld dL_law_517 s3 s4 ?_
  exact V_callV (M := ML_law) (d := (d + 13)) (mc' := 0) (ms' := 0) (mc := 0) (ms := 0) (As := [.inl (jX h 1 ((i3 + 1).toNat)), .inl (jX h 1 ((i3 + 2).toNat))]) (rest := [.inl p0]) dL_law_518 tX9_at vX9_at lL_71 s5 ⟨by decide, rfl⟩ rfl rfl (Nat.le_of_ble_eq_true rfl) (show (d + 4) + 1 ≤ (d + 13) by omega) e1
theorem bL_law_550 {d : Nat} {Q : Option jA → jH → Prop} (a1 : Nat) (a2 : Nat) (i3 : Int) (p0 : Int) (h : jH)
    (r1 : jR (i3 + 1))
    (s1 : 0 ≤ i3 + 1)
    (s2 : i3 + 1 < ((jS h 1).2 : Int))
    (r2 : jR (i3 + 2))
    (s3 : 0 ≤ i3 + 2)
    (s4 : i3 + 2 < ((jS h 1).2 : Int))
    (r3 : jR (i3 + 3))
    (s5 : 0 ≤ i3 + 3)
    (s6 : i3 + 3 < ((jS h 1).2 : Int))
    (r4 : jR (i3 + 4))
    (s7 : 0 ≤ i3 + 4)
    (s8 : i3 + 4 < ((jS h 1).2 : Int))
    (e1 : Ex MX9_edges (d + 5) [.inr a2, .inl (jX h 1 ((i3 + 1).toNat)), .inl (jX h 1 ((i3 + 2).toNat)), .inl (jX h 1 ((i3 + 3).toNat)), .inl (jX h 1 ((i3 + 4).toNat))] h 0 0 (fun v h2 => V ML_law (d + 13) 574 [some (.inr 1), some (.inr a1), some (.inr a2), some (.inl i3)] (v.toList ++ [.inl p0]) h2 0 0 Q))
    (s9 : (jS h a2).1 = 9) :
    V ML_law (d + 13) 550 [some (.inr 1), some (.inr a1), some (.inr a2), some (.inl i3)] [.inl p0] h 0 0 Q := by
  refine V_aload_n (i := 2) dL_law_550 rfl rfl ?_
  refine V_aload_n (i := 0) dL_law_551 rfl rfl ?_
  refine V_iload_n (i := 3) dL_law_552 rfl rfl ?_
  refine V_iconst dL_law_553 ⟨by decide, by decide⟩ ?_
  refine V_iadd dL_law_554 r1 ?_
  refine V_sld dL_law_555 s1 s2 ?_
  refine V_aload_n (i := 0) dL_law_556 rfl rfl ?_
  refine V_iload_n (i := 3) dL_law_557 rfl rfl ?_
  refine V_iconst dL_law_558 ⟨by decide, by decide⟩ ?_
  refine V_iadd dL_law_559 r2 ?_
  refine V_sld dL_law_560 s3 s4 ?_
  refine V_aload_n (i := 0) dL_law_561 rfl rfl ?_
  refine V_iload_n (i := 3) dL_law_562 rfl rfl ?_
  refine V_iconst dL_law_563 ⟨by decide, by decide⟩ ?_
  refine V_iadd dL_law_564 r3 ?_
  refine V_sld dL_law_565 s5 s6 ?_
  refine V_aload_n (i := 0) dL_law_566 rfl rfl ?_
  refine V_iload_n (i := 3) dL_law_567 rfl rfl ?_
  refine V_iconst dL_law_568 ⟨by decide, by decide⟩ ?_
  refine V_iadd dL_law_569 r4 ?_
  refine V_sld dL_law_570 s7 s8 ?_
  exact V_callV (M := ML_law) (d := (d + 13)) (mc' := 0) (ms' := 0) (mc := 0) (ms := 0) (As := [.inl (jX h 1 ((i3 + 1).toNat)), .inl (jX h 1 ((i3 + 2).toNat)), .inl (jX h 1 ((i3 + 3).toNat)), .inl (jX h 1 ((i3 + 4).toNat))]) (rest := [.inl p0]) dL_law_571 tX9_edges vX9_edges lL_76 s9 ⟨by decide, rfl⟩ rfl rfl (Nat.le_of_ble_eq_true rfl) (show (d + 5) + 1 ≤ (d + 13) by omega) e1
theorem bL_law_598 {d : Nat} {Q : Option jA → jH → Prop} (a1 : Nat) (a2 : Nat) (i3 : Int) (p0 : Int) (h : jH)
    (r1 : jR (i3 + 1))
    (s1 : 0 ≤ i3 + 1)
    (s2 : i3 + 1 < ((jS h 1).2 : Int))
    (r2 : jR (i3 + 2))
    (s3 : 0 ≤ i3 + 2)
    (s4 : i3 + 2 < ((jS h 1).2 : Int))
    (r3 : jR (i3 + 3))
    (s5 : 0 ≤ i3 + 3)
    (s6 : i3 + 3 < ((jS h 1).2 : Int))
    (e1 : Ex MX9_next_ (d + 5) [.inr a2, .inl (jX h 1 ((i3 + 1).toNat)), .inl (jX h 1 ((i3 + 2).toNat)), .inl (jX h 1 ((i3 + 3).toNat))] h 0 0 (fun v h2 => V ML_law (d + 13) 617 [some (.inr 1), some (.inr a1), some (.inr a2), some (.inl i3)] (v.toList ++ [.inl p0]) h2 0 0 Q))
    (s7 : (jS h a2).1 = 9) :
    V ML_law (d + 13) 598 [some (.inr 1), some (.inr a1), some (.inr a2), some (.inl i3)] [.inl p0] h 0 0 Q := by
  refine V_aload_n (i := 2) dL_law_598 rfl rfl ?_
  refine V_aload_n (i := 0) dL_law_599 rfl rfl ?_
  refine V_iload_n (i := 3) dL_law_600 rfl rfl ?_
  refine V_iconst dL_law_601 ⟨by decide, by decide⟩ ?_
  refine V_iadd dL_law_602 r1 ?_
  refine V_sld dL_law_603 s1 s2 ?_
  refine V_aload_n (i := 0) dL_law_604 rfl rfl ?_
  refine V_iload_n (i := 3) dL_law_605 rfl rfl ?_
  refine V_iconst dL_law_606 ⟨by decide, by decide⟩ ?_
  refine V_iadd dL_law_607 r2 ?_
  refine V_sld dL_law_608 s3 s4 ?_
  refine V_aload_n (i := 0) dL_law_609 rfl rfl ?_
  refine V_iload_n (i := 3) dL_law_610 rfl rfl ?_
  refine V_iconst dL_law_611 ⟨by decide, by decide⟩ ?_
  refine V_iadd dL_law_612 r3 ?_
  refine V_sld dL_law_613 s5 s6 ?_
  exact V_callV (M := ML_law) (d := (d + 13)) (mc' := 0) (ms' := 0) (mc := 0) (ms := 0) (As := [.inl (jX h 1 ((i3 + 1).toNat)), .inl (jX h 1 ((i3 + 2).toNat)), .inl (jX h 1 ((i3 + 3).toNat))]) (rest := [.inl p0]) dL_law_614 tX9_next_ vX9_next_ lL_81 s7 ⟨by decide, rfl⟩ rfl rfl (Nat.le_of_ble_eq_true rfl) (show (d + 5) + 1 ≤ (d + 13) by omega) e1
theorem bL_law_641 {d : Nat} {Q : Option jA → jH → Prop} (a1 : Nat) (a2 : Nat) (i3 : Int) (p0 : Int) (h : jH)
    (r1 : jR (i3 + 1))
    (s1 : 0 ≤ i3 + 1)
    (s2 : i3 + 1 < ((jS h 1).2 : Int))
    (r2 : jR (i3 + 2))
    (s3 : 0 ≤ i3 + 2)
    (s4 : i3 + 2 < ((jS h 1).2 : Int))
    (r3 : jR (i3 + 3))
    (s5 : 0 ≤ i3 + 3)
    (s6 : i3 + 3 < ((jS h 1).2 : Int))
    (e1 : Ex MX9_previous (d + 5) [.inr a2, .inl (jX h 1 ((i3 + 1).toNat)), .inl (jX h 1 ((i3 + 2).toNat)), .inl (jX h 1 ((i3 + 3).toNat))] h 0 0 (fun v h2 => V ML_law (d + 13) 660 [some (.inr 1), some (.inr a1), some (.inr a2), some (.inl i3)] (v.toList ++ [.inl p0]) h2 0 0 Q))
    (s7 : (jS h a2).1 = 9) :
    V ML_law (d + 13) 641 [some (.inr 1), some (.inr a1), some (.inr a2), some (.inl i3)] [.inl p0] h 0 0 Q := by
  refine V_aload_n (i := 2) dL_law_641 rfl rfl ?_
  refine V_aload_n (i := 0) dL_law_642 rfl rfl ?_
  refine V_iload_n (i := 3) dL_law_643 rfl rfl ?_
  refine V_iconst dL_law_644 ⟨by decide, by decide⟩ ?_
  refine V_iadd dL_law_645 r1 ?_
  refine V_sld dL_law_646 s1 s2 ?_
  refine V_aload_n (i := 0) dL_law_647 rfl rfl ?_
  refine V_iload_n (i := 3) dL_law_648 rfl rfl ?_
  refine V_iconst dL_law_649 ⟨by decide, by decide⟩ ?_
  refine V_iadd dL_law_650 r2 ?_
  refine V_sld dL_law_651 s3 s4 ?_
  refine V_aload_n (i := 0) dL_law_652 rfl rfl ?_
  refine V_iload_n (i := 3) dL_law_653 rfl rfl ?_
  refine V_iconst dL_law_654 ⟨by decide, by decide⟩ ?_
  refine V_iadd dL_law_655 r3 ?_
  refine V_sld dL_law_656 s5 s6 ?_
  exact V_callV (M := ML_law) (d := (d + 13)) (mc' := 0) (ms' := 0) (mc := 0) (ms := 0) (As := [.inl (jX h 1 ((i3 + 1).toNat)), .inl (jX h 1 ((i3 + 2).toNat)), .inl (jX h 1 ((i3 + 3).toNat))]) (rest := [.inl p0]) dL_law_657 tX9_previous vX9_previous lL_85 s7 ⟨by decide, rfl⟩ rfl rfl (Nat.le_of_ble_eq_true rfl) (show (d + 5) + 1 ≤ (d + 13) by omega) e1
theorem bL_law_684 {d : Nat} {Q : Option jA → jH → Prop} (a1 : Nat) (a2 : Nat) (i3 : Int) (p0 : Int) (h : jH)
    (r1 : jR (i3 + 1))
    (s1 : 0 ≤ i3 + 1)
    (s2 : i3 + 1 < ((jS h 1).2 : Int))
    (r2 : jR (i3 + 2))
    (s3 : 0 ≤ i3 + 2)
    (s4 : i3 + 2 < ((jS h 1).2 : Int))
    (r3 : jR (i3 + 3))
    (s5 : 0 ≤ i3 + 3)
    (s6 : i3 + 3 < ((jS h 1).2 : Int))
    (e1 : Ex MX9_first (d + 5) [.inr a2, .inl (jX h 1 ((i3 + 1).toNat)), .inl (jX h 1 ((i3 + 2).toNat)), .inl (jX h 1 ((i3 + 3).toNat))] h 0 0 (fun v h2 => V ML_law (d + 13) 703 [some (.inr 1), some (.inr a1), some (.inr a2), some (.inl i3)] (v.toList ++ [.inl p0]) h2 0 0 Q))
    (s7 : (jS h a2).1 = 9) :
    V ML_law (d + 13) 684 [some (.inr 1), some (.inr a1), some (.inr a2), some (.inl i3)] [.inl p0] h 0 0 Q := by
  refine V_aload_n (i := 2) dL_law_684 rfl rfl ?_
  refine V_aload_n (i := 0) dL_law_685 rfl rfl ?_
  refine V_iload_n (i := 3) dL_law_686 rfl rfl ?_
  refine V_iconst dL_law_687 ⟨by decide, by decide⟩ ?_
  refine V_iadd dL_law_688 r1 ?_
  refine V_sld dL_law_689 s1 s2 ?_
  refine V_aload_n (i := 0) dL_law_690 rfl rfl ?_
  refine V_iload_n (i := 3) dL_law_691 rfl rfl ?_
  refine V_iconst dL_law_692 ⟨by decide, by decide⟩ ?_
  refine V_iadd dL_law_693 r2 ?_
  refine V_sld dL_law_694 s3 s4 ?_
  refine V_aload_n (i := 0) dL_law_695 rfl rfl ?_
  refine V_iload_n (i := 3) dL_law_696 rfl rfl ?_
  refine V_iconst dL_law_697 ⟨by decide, by decide⟩ ?_
  refine V_iadd dL_law_698 r3 ?_
  refine V_sld dL_law_699 s5 s6 ?_
  exact V_callV (M := ML_law) (d := (d + 13)) (mc' := 0) (ms' := 0) (mc := 0) (ms := 0) (As := [.inl (jX h 1 ((i3 + 1).toNat)), .inl (jX h 1 ((i3 + 2).toNat)), .inl (jX h 1 ((i3 + 3).toNat))]) (rest := [.inl p0]) dL_law_700 tX9_first vX9_first lL_89 s7 ⟨by decide, rfl⟩ rfl rfl (Nat.le_of_ble_eq_true rfl) (show (d + 5) + 1 ≤ (d + 13) by omega) e1
theorem bL_law_727 {d : Nat} {Q : Option jA → jH → Prop} (a1 : Nat) (a2 : Nat) (i3 : Int) (p0 : Int) (h : jH)
    (r1 : jR (i3 + 1))
    (s1 : 0 ≤ i3 + 1)
    (s2 : i3 + 1 < ((jS h 1).2 : Int))
    (r2 : jR (i3 + 2))
    (s3 : 0 ≤ i3 + 2)
    (s4 : i3 + 2 < ((jS h 1).2 : Int))
    (r3 : jR (i3 + 3))
    (s5 : 0 ≤ i3 + 3)
    (s6 : i3 + 3 < ((jS h 1).2 : Int))
    (e1 : Ex MX9_holds (d + 5) [.inr a2, .inl (jX h 1 ((i3 + 1).toNat)), .inl (jX h 1 ((i3 + 2).toNat)), .inl (jX h 1 ((i3 + 3).toNat))] h 0 0 (fun v h2 => V ML_law (d + 13) 746 [some (.inr 1), some (.inr a1), some (.inr a2), some (.inl i3)] (v.toList ++ [.inl p0]) h2 0 0 Q))
    (s7 : (jS h a2).1 = 9) :
    V ML_law (d + 13) 727 [some (.inr 1), some (.inr a1), some (.inr a2), some (.inl i3)] [.inl p0] h 0 0 Q := by
  refine V_aload_n (i := 2) dL_law_727 rfl rfl ?_
  refine V_aload_n (i := 0) dL_law_728 rfl rfl ?_
  refine V_iload_n (i := 3) dL_law_729 rfl rfl ?_
  refine V_iconst dL_law_730 ⟨by decide, by decide⟩ ?_
  refine V_iadd dL_law_731 r1 ?_
  refine V_sld dL_law_732 s1 s2 ?_
  refine V_aload_n (i := 0) dL_law_733 rfl rfl ?_
  refine V_iload_n (i := 3) dL_law_734 rfl rfl ?_
  refine V_iconst dL_law_735 ⟨by decide, by decide⟩ ?_
  refine V_iadd dL_law_736 r2 ?_
  refine V_sld dL_law_737 s3 s4 ?_
  refine V_aload_n (i := 0) dL_law_738 rfl rfl ?_
  refine V_iload_n (i := 3) dL_law_739 rfl rfl ?_
  refine V_iconst dL_law_740 ⟨by decide, by decide⟩ ?_
  refine V_iadd dL_law_741 r3 ?_
  refine V_sld dL_law_742 s5 s6 ?_
  exact V_callV (M := ML_law) (d := (d + 13)) (mc' := 0) (ms' := 0) (mc := 0) (ms := 0) (As := [.inl (jX h 1 ((i3 + 1).toNat)), .inl (jX h 1 ((i3 + 2).toNat)), .inl (jX h 1 ((i3 + 3).toNat))]) (rest := [.inl p0]) dL_law_743 tX9_holds vX9_holds lL_93 s7 ⟨by decide, rfl⟩ rfl rfl (Nat.le_of_ble_eq_true rfl) (show (d + 5) + 1 ≤ (d + 13) by omega) e1
theorem bL_law_765 {d : Nat} {Q : Option jA → jH → Prop} (a1 : Nat) (a2 : Nat) (i3 : Int) (p0 : Int) (h : jH)
    (r1 : jR (i3 + 1))
    (s1 : 0 ≤ i3 + 1)
    (s2 : i3 + 1 < ((jS h 1).2 : Int))
    (r2 : jR (i3 + 2))
    (s3 : 0 ≤ i3 + 2)
    (s4 : i3 + 2 < ((jS h 1).2 : Int))
    (e1 : Ex MX9_ticks (d + 4) [.inr a2, .inl (jX h 1 ((i3 + 1).toNat)), .inl (jX h 1 ((i3 + 2).toNat))] h 0 0 (fun v h2 => V ML_law (d + 13) 779 [some (.inr 1), some (.inr a1), some (.inr a2), some (.inl i3)] (v.toList ++ [.inl p0]) h2 0 0 Q))
    (s5 : (jS h a2).1 = 9) :
    V ML_law (d + 13) 765 [some (.inr 1), some (.inr a1), some (.inr a2), some (.inl i3)] [.inl p0] h 0 0 Q := by
  refine V_aload_n (i := 2) dL_law_765 rfl rfl ?_
  refine V_aload_n (i := 0) dL_law_766 rfl rfl ?_
  refine V_iload_n (i := 3) dL_law_767 rfl rfl ?_
  refine V_iconst dL_law_768 ⟨by decide, by decide⟩ ?_
  refine V_iadd dL_law_769 r1 ?_
  refine V_sld dL_law_770 s1 s2 ?_
  refine V_aload_n (i := 0) dL_law_771 rfl rfl ?_
  refine V_iload_n (i := 3) dL_law_772 rfl rfl ?_
  refine V_iconst dL_law_773 ⟨by decide, by decide⟩ ?_
  refine V_iadd dL_law_774 r2 ?_
  refine V_sld dL_law_775 s3 s4 ?_
  exact V_callV (M := ML_law) (d := (d + 13)) (mc' := 0) (ms' := 0) (mc := 0) (ms := 0) (As := [.inl (jX h 1 ((i3 + 1).toNat)), .inl (jX h 1 ((i3 + 2).toNat))]) (rest := [.inl p0]) dL_law_776 tX9_ticks vX9_ticks lL_97 s5 ⟨by decide, rfl⟩ rfl rfl (Nat.le_of_ble_eq_true rfl) (show (d + 4) + 1 ≤ (d + 13) by omega) e1
theorem bL_law_798 {d : Nat} {Q : Option jA → jH → Prop} (a1 : Nat) (a2 : Nat) (i3 : Int) (p0 : Int) (h : jH)
    (r1 : jR (i3 + 1))
    (s1 : 0 ≤ i3 + 1)
    (s2 : i3 + 1 < ((jS h 1).2 : Int))
    (r2 : jR (i3 + 2))
    (s3 : 0 ≤ i3 + 2)
    (s4 : i3 + 2 < ((jS h 1).2 : Int))
    (e1 : Ex MX9_delay (d + 5) [.inr a2, .inl (jX h 1 ((i3 + 1).toNat)), .inl (jX h 1 ((i3 + 2).toNat))] h 0 0 (fun v h2 => V ML_law (d + 13) 812 [some (.inr 1), some (.inr a1), some (.inr a2), some (.inl i3)] (v.toList ++ [.inl p0]) h2 0 0 Q))
    (s5 : (jS h a2).1 = 9) :
    V ML_law (d + 13) 798 [some (.inr 1), some (.inr a1), some (.inr a2), some (.inl i3)] [.inl p0] h 0 0 Q := by
  refine V_aload_n (i := 2) dL_law_798 rfl rfl ?_
  refine V_aload_n (i := 0) dL_law_799 rfl rfl ?_
  refine V_iload_n (i := 3) dL_law_800 rfl rfl ?_
  refine V_iconst dL_law_801 ⟨by decide, by decide⟩ ?_
  refine V_iadd dL_law_802 r1 ?_
  refine V_sld dL_law_803 s1 s2 ?_
  refine V_aload_n (i := 0) dL_law_804 rfl rfl ?_
  refine V_iload_n (i := 3) dL_law_805 rfl rfl ?_
  refine V_iconst dL_law_806 ⟨by decide, by decide⟩ ?_
  refine V_iadd dL_law_807 r2 ?_
  refine V_sld dL_law_808 s3 s4 ?_
  exact V_callV (M := ML_law) (d := (d + 13)) (mc' := 0) (ms' := 0) (mc := 0) (ms := 0) (As := [.inl (jX h 1 ((i3 + 1).toNat)), .inl (jX h 1 ((i3 + 2).toNat))]) (rest := [.inl p0]) dL_law_809 tX9_delay vX9_delay lL_101 s5 ⟨by decide, rfl⟩ rfl rfl (Nat.le_of_ble_eq_true rfl) (show (d + 5) + 1 ≤ (d + 13) by omega) e1
theorem bL_law_826 {d : Nat} {Q : Option jA → jH → Prop} (a1 : Nat) (a2 : Nat) (i3 : Int) (p0 : Int) (h : jH)
    (r1 : jR (i3 + 1))
    (s1 : 0 ≤ i3 + 1)
    (s2 : i3 + 1 < ((jS h 1).2 : Int))
    (e1 : Ex MX9_jump (d + 2) [.inr a2, .inl (jX h 1 ((i3 + 1).toNat))] h 0 0 (fun v h2 => V ML_law (d + 13) 835 [some (.inr 1), some (.inr a1), some (.inr a2), some (.inl i3)] (v.toList ++ [.inl p0]) h2 0 0 Q))
    (s3 : (jS h a2).1 = 9) :
    V ML_law (d + 13) 826 [some (.inr 1), some (.inr a1), some (.inr a2), some (.inl i3)] [.inl p0] h 0 0 Q := by
  refine V_aload_n (i := 2) dL_law_826 rfl rfl ?_
  refine V_aload_n (i := 0) dL_law_827 rfl rfl ?_
  refine V_iload_n (i := 3) dL_law_828 rfl rfl ?_
  refine V_iconst dL_law_829 ⟨by decide, by decide⟩ ?_
  refine V_iadd dL_law_830 r1 ?_
  refine V_sld dL_law_831 s1 s2 ?_
  exact V_callV (M := ML_law) (d := (d + 13)) (mc' := 0) (ms' := 0) (mc := 0) (ms := 0) (As := [.inl (jX h 1 ((i3 + 1).toNat))]) (rest := [.inl p0]) dL_law_832 tX9_jump vX9_jump lL_105 s3 ⟨by decide, rfl⟩ rfl rfl (Nat.le_of_ble_eq_true rfl) (show (d + 2) + 1 ≤ (d + 13) by omega) e1
theorem bL_law_854 {d : Nat} {Q : Option jA → jH → Prop} (a1 : Nat) (a2 : Nat) (i3 : Int) (p0 : Int) (h : jH)
    (r1 : jR (i3 + 1))
    (s1 : 0 ≤ i3 + 1)
    (s2 : i3 + 1 < ((jS h 1).2 : Int))
    (r2 : jR (i3 + 2))
    (s3 : 0 ≤ i3 + 2)
    (s4 : i3 + 2 < ((jS h 1).2 : Int))
    (e1 : Ex MX9_block (d + 3) [.inr a2, .inl (jX h 1 ((i3 + 1).toNat)), .inl (jX h 1 ((i3 + 2).toNat))] h 0 0 (fun v h2 => V ML_law (d + 13) 868 [some (.inr 1), some (.inr a1), some (.inr a2), some (.inl i3)] (v.toList ++ [.inl p0]) h2 0 0 Q))
    (s5 : (jS h a2).1 = 9) :
    V ML_law (d + 13) 854 [some (.inr 1), some (.inr a1), some (.inr a2), some (.inl i3)] [.inl p0] h 0 0 Q := by
  refine V_aload_n (i := 2) dL_law_854 rfl rfl ?_
  refine V_aload_n (i := 0) dL_law_855 rfl rfl ?_
  refine V_iload_n (i := 3) dL_law_856 rfl rfl ?_
  refine V_iconst dL_law_857 ⟨by decide, by decide⟩ ?_
  refine V_iadd dL_law_858 r1 ?_
  refine V_sld dL_law_859 s1 s2 ?_
  refine V_aload_n (i := 0) dL_law_860 rfl rfl ?_
  refine V_iload_n (i := 3) dL_law_861 rfl rfl ?_
  refine V_iconst dL_law_862 ⟨by decide, by decide⟩ ?_
  refine V_iadd dL_law_863 r2 ?_
  refine V_sld dL_law_864 s3 s4 ?_
  exact V_callV (M := ML_law) (d := (d + 13)) (mc' := 0) (ms' := 0) (mc := 0) (ms := 0) (As := [.inl (jX h 1 ((i3 + 1).toNat)), .inl (jX h 1 ((i3 + 2).toNat))]) (rest := [.inl p0]) dL_law_865 tX9_block vX9_block lL_109 s5 ⟨by decide, rfl⟩ rfl rfl (Nat.le_of_ble_eq_true rfl) (show (d + 3) + 1 ≤ (d + 13) by omega) e1
theorem bL_law_887 {d : Nat} {Q : Option jA → jH → Prop} (a1 : Nat) (a2 : Nat) (i3 : Int) (p0 : Int) (h : jH)
    (r1 : jR (i3 + 1))
    (s1 : 0 ≤ i3 + 1)
    (s2 : i3 + 1 < ((jS h 1).2 : Int))
    (r2 : jR (i3 + 2))
    (s3 : 0 ≤ i3 + 2)
    (s4 : i3 + 2 < ((jS h 1).2 : Int))
    (e1 : Ex MX9_frame (d + 3) [.inr a2, .inl (jX h 1 ((i3 + 1).toNat)), .inl (jX h 1 ((i3 + 2).toNat))] h 0 0 (fun v h2 => V ML_law (d + 13) 901 [some (.inr 1), some (.inr a1), some (.inr a2), some (.inl i3)] (v.toList ++ [.inl p0]) h2 0 0 Q))
    (s5 : (jS h a2).1 = 9) :
    V ML_law (d + 13) 887 [some (.inr 1), some (.inr a1), some (.inr a2), some (.inl i3)] [.inl p0] h 0 0 Q := by
  refine V_aload_n (i := 2) dL_law_887 rfl rfl ?_
  refine V_aload_n (i := 0) dL_law_888 rfl rfl ?_
  refine V_iload_n (i := 3) dL_law_889 rfl rfl ?_
  refine V_iconst dL_law_890 ⟨by decide, by decide⟩ ?_
  refine V_iadd dL_law_891 r1 ?_
  refine V_sld dL_law_892 s1 s2 ?_
  refine V_aload_n (i := 0) dL_law_893 rfl rfl ?_
  refine V_iload_n (i := 3) dL_law_894 rfl rfl ?_
  refine V_iconst dL_law_895 ⟨by decide, by decide⟩ ?_
  refine V_iadd dL_law_896 r2 ?_
  refine V_sld dL_law_897 s3 s4 ?_
  exact V_callV (M := ML_law) (d := (d + 13)) (mc' := 0) (ms' := 0) (mc := 0) (ms := 0) (As := [.inl (jX h 1 ((i3 + 1).toNat)), .inl (jX h 1 ((i3 + 2).toNat))]) (rest := [.inl p0]) dL_law_898 tX9_frame vX9_frame lL_113 s5 ⟨by decide, rfl⟩ rfl rfl (Nat.le_of_ble_eq_true rfl) (show (d + 3) + 1 ≤ (d + 13) by omega) e1
theorem bL_law_925 {d : Nat} {Q : Option jA → jH → Prop} (a1 : Nat) (a2 : Nat) (i3 : Int) (p0 : Int) (h : jH)
    (r1 : jR (i3 + 1))
    (s1 : 0 ≤ i3 + 1)
    (s2 : i3 + 1 < ((jS h 1).2 : Int))
    (r2 : jR (i3 + 2))
    (s3 : 0 ≤ i3 + 2)
    (s4 : i3 + 2 < ((jS h 1).2 : Int))
    (r3 : jR (i3 + 3))
    (s5 : 0 ≤ i3 + 3)
    (s6 : i3 + 3 < ((jS h 1).2 : Int))
    (e1 : Ex MX9_change (d + 3) [.inr a2, .inl (jX h 1 ((i3 + 1).toNat)), .inl (jX h 1 ((i3 + 2).toNat)), .inl (jX h 1 ((i3 + 3).toNat))] h 0 0 (fun v h2 => V ML_law (d + 13) 944 [some (.inr 1), some (.inr a1), some (.inr a2), some (.inl i3)] (v.toList ++ [.inl p0]) h2 0 0 Q))
    (s7 : (jS h a2).1 = 9) :
    V ML_law (d + 13) 925 [some (.inr 1), some (.inr a1), some (.inr a2), some (.inl i3)] [.inl p0] h 0 0 Q := by
  refine V_aload_n (i := 2) dL_law_925 rfl rfl ?_
  refine V_aload_n (i := 0) dL_law_926 rfl rfl ?_
  refine V_iload_n (i := 3) dL_law_927 rfl rfl ?_
  refine V_iconst dL_law_928 ⟨by decide, by decide⟩ ?_
  refine V_iadd dL_law_929 r1 ?_
  refine V_sld dL_law_930 s1 s2 ?_
  refine V_aload_n (i := 0) dL_law_931 rfl rfl ?_
  refine V_iload_n (i := 3) dL_law_932 rfl rfl ?_
  refine V_iconst dL_law_933 ⟨by decide, by decide⟩ ?_
  refine V_iadd dL_law_934 r2 ?_
  refine V_sld dL_law_935 s3 s4 ?_
  refine V_aload_n (i := 0) dL_law_936 rfl rfl ?_
  refine V_iload_n (i := 3) dL_law_937 rfl rfl ?_
  refine V_iconst dL_law_938 ⟨by decide, by decide⟩ ?_
  refine V_iadd dL_law_939 r3 ?_
  refine V_sld dL_law_940 s5 s6 ?_
  exact V_callV (M := ML_law) (d := (d + 13)) (mc' := 0) (ms' := 0) (mc := 0) (ms := 0) (As := [.inl (jX h 1 ((i3 + 1).toNat)), .inl (jX h 1 ((i3 + 2).toNat)), .inl (jX h 1 ((i3 + 3).toNat))]) (rest := [.inl p0]) dL_law_941 tX9_change vX9_change lL_117 s7 ⟨by decide, rfl⟩ rfl rfl (Nat.le_of_ble_eq_true rfl) (show (d + 3) + 1 ≤ (d + 13) by omega) e1
theorem bL_law_958 {d : Nat} {Q : Option jA → jH → Prop} (a1 : Nat) (a2 : Nat) (i3 : Int) (p0 : Int) (h : jH)
    (r1 : jR (i3 + 1))
    (s1 : 0 ≤ i3 + 1)
    (s2 : i3 + 1 < ((jS h 1).2 : Int))
    (e1 : Ex MX9_packed (d + 4) [.inr a2, .inl (jX h 1 ((i3 + 1).toNat))] h 0 0 (fun v h2 => V ML_law (d + 13) 967 [some (.inr 1), some (.inr a1), some (.inr a2), some (.inl i3)] (v.toList ++ [.inl p0]) h2 0 0 Q))
    (s3 : (jS h a2).1 = 9) :
    V ML_law (d + 13) 958 [some (.inr 1), some (.inr a1), some (.inr a2), some (.inl i3)] [.inl p0] h 0 0 Q := by
  refine V_aload_n (i := 2) dL_law_958 rfl rfl ?_
  refine V_aload_n (i := 0) dL_law_959 rfl rfl ?_
  refine V_iload_n (i := 3) dL_law_960 rfl rfl ?_
  refine V_iconst dL_law_961 ⟨by decide, by decide⟩ ?_
  refine V_iadd dL_law_962 r1 ?_
  refine V_sld dL_law_963 s1 s2 ?_
  exact V_callV (M := ML_law) (d := (d + 13)) (mc' := 0) (ms' := 0) (mc := 0) (ms := 0) (As := [.inl (jX h 1 ((i3 + 1).toNat))]) (rest := [.inl p0]) dL_law_964 tX9_packed vX9_packed lL_121 s3 ⟨by decide, rfl⟩ rfl rfl (Nat.le_of_ble_eq_true rfl) (show (d + 4) + 1 ≤ (d + 13) by omega) e1
theorem bL_law_976 {d : Nat} {Q : Option jA → jH → Prop} (a1 : Nat) (a2 : Nat) (i3 : Int) (p0 : Int) (h : jH)
    (e1 : Ex MX9_best (d + 4) [.inr a2] h 0 0 (fun v h2 => V ML_law (d + 13) 980 [some (.inr 1), some (.inr a1), some (.inr a2), some (.inl i3)] (v.toList ++ [.inl p0]) h2 0 0 Q))
    (s1 : (jS h a2).1 = 9) :
    V ML_law (d + 13) 976 [some (.inr 1), some (.inr a1), some (.inr a2), some (.inl i3)] [.inl p0] h 0 0 Q := by
  refine V_aload_n (i := 2) dL_law_976 rfl rfl ?_
  exact V_callV (M := ML_law) (d := (d + 13)) (mc' := 0) (ms' := 0) (mc := 0) (ms := 0) (As := []) (rest := [.inl p0]) dL_law_977 tX9_best vX9_best lL_125 s1 ⟨by decide, rfl⟩ rfl rfl (Nat.le_of_ble_eq_true rfl) (show (d + 4) + 1 ≤ (d + 13) by omega) e1
theorem bL_law_999 {d : Nat} {Q : Option jA → jH → Prop} (a1 : Nat) (a2 : Nat) (i3 : Int) (p0 : Int) (h : jH)
    (r1 : jR (i3 + 1))
    (s1 : 0 ≤ i3 + 1)
    (s2 : i3 + 1 < ((jS h 1).2 : Int))
    (r2 : jR (i3 + 2))
    (s3 : 0 ≤ i3 + 2)
    (s4 : i3 + 2 < ((jS h 1).2 : Int))
    (e1 : Ex MX9_sees (d + 1) [.inr a2, .inl (jX h 1 ((i3 + 1).toNat)), .inl (jX h 1 ((i3 + 2).toNat))] h 0 0 (fun v h2 => V ML_law (d + 13) 1013 [some (.inr 1), some (.inr a1), some (.inr a2), some (.inl i3)] (v.toList ++ [.inl p0]) h2 0 0 Q))
    (s5 : (jS h a2).1 = 9) :
    V ML_law (d + 13) 999 [some (.inr 1), some (.inr a1), some (.inr a2), some (.inl i3)] [.inl p0] h 0 0 Q := by
  refine V_aload_n (i := 2) dL_law_999 rfl rfl ?_
  refine V_aload_n (i := 0) dL_law_1000 rfl rfl ?_
  refine V_iload_n (i := 3) dL_law_1001 rfl rfl ?_
  refine V_iconst dL_law_1002 ⟨by decide, by decide⟩ ?_
  refine V_iadd dL_law_1003 r1 ?_
  refine V_sld dL_law_1004 s1 s2 ?_
  refine V_aload_n (i := 0) dL_law_1005 rfl rfl ?_
  refine V_iload_n (i := 3) dL_law_1006 rfl rfl ?_
  refine V_iconst dL_law_1007 ⟨by decide, by decide⟩ ?_
  refine V_iadd dL_law_1008 r2 ?_
  refine V_sld dL_law_1009 s3 s4 ?_
  exact V_callV (M := ML_law) (d := (d + 13)) (mc' := 0) (ms' := 0) (mc := 0) (ms := 0) (As := [.inl (jX h 1 ((i3 + 1).toNat)), .inl (jX h 1 ((i3 + 2).toNat))]) (rest := [.inl p0]) dL_law_1010 tX9_sees vX9_sees lL_129 s5 ⟨by decide, rfl⟩ rfl rfl (Nat.le_of_ble_eq_true rfl) (show (d + 1) + 1 ≤ (d + 13) by omega) e1
theorem bL_law_1022 {d : Nat} {Q : Option jA → jH → Prop} (a1 : Nat) (a2 : Nat) (i3 : Int) (p0 : Int) (h : jH)
    (e1 : Ex MX9_forget d [.inr a2] h 0 0 (fun v h2 => V ML_law (d + 13) 1026 [some (.inr 1), some (.inr a1), some (.inr a2), some (.inl i3)] (v.toList ++ [.inl p0]) h2 0 0 Q))
    (s1 : (jS h a2).1 = 9) :
    V ML_law (d + 13) 1022 [some (.inr 1), some (.inr a1), some (.inr a2), some (.inl i3)] [.inl p0] h 0 0 Q := by
  refine V_aload_n (i := 2) dL_law_1022 rfl rfl ?_
  exact V_callV (M := ML_law) (d := (d + 13)) (mc' := 0) (ms' := 0) (mc := 0) (ms := 0) (As := []) (rest := [.inl p0]) dL_law_1023 tX9_forget vX9_forget lL_133 s1 ⟨by decide, rfl⟩ rfl rfl (Nat.le_of_ble_eq_true rfl) (show d + 1 ≤ (d + 13) by omega) e1
theorem bL_law_1035 {d : Nat} {Q : Option jA → jH → Prop} (a1 : Nat) (a2 : Nat) (i3 : Int) (p0 : Int) (h : jH)
    (e1 : Ex MX9_which (d + 5) [.inr a2] h 0 0 (fun v h2 => V ML_law (d + 13) 1039 [some (.inr 1), some (.inr a1), some (.inr a2), some (.inl i3)] (v.toList ++ [.inl p0]) h2 0 0 Q))
    (s1 : (jS h a2).1 = 9) :
    V ML_law (d + 13) 1035 [some (.inr 1), some (.inr a1), some (.inr a2), some (.inl i3)] [.inl p0] h 0 0 Q := by
  refine V_aload_n (i := 2) dL_law_1035 rfl rfl ?_
  exact V_callV (M := ML_law) (d := (d + 13)) (mc' := 0) (ms' := 0) (mc := 0) (ms := 0) (As := []) (rest := [.inl p0]) dL_law_1036 tX9_which vX9_which lL_137 s1 ⟨by decide, rfl⟩ rfl rfl (Nat.le_of_ble_eq_true rfl) (show (d + 5) + 1 ≤ (d + 13) by omega) e1
theorem bL_law_1048 {d : Nat} {Q : Option jA → jH → Prop} (a1 : Nat) (a2 : Nat) (i3 : Int) (p0 : Int) (h : jH)
    (e1 : Ex MX9_look (d + 5) [.inr a2] h 0 0 (fun v h2 => V ML_law (d + 13) 1052 [some (.inr 1), some (.inr a1), some (.inr a2), some (.inl i3)] (v.toList ++ [.inl p0]) h2 0 0 Q))
    (s1 : (jS h a2).1 = 9) :
    V ML_law (d + 13) 1048 [some (.inr 1), some (.inr a1), some (.inr a2), some (.inl i3)] [.inl p0] h 0 0 Q := by
  refine V_aload_n (i := 2) dL_law_1048 rfl rfl ?_
  exact V_callV (M := ML_law) (d := (d + 13)) (mc' := 0) (ms' := 0) (mc := 0) (ms := 0) (As := []) (rest := [.inl p0]) dL_law_1049 tX9_look vX9_look lL_141 s1 ⟨by decide, rfl⟩ rfl rfl (Nat.le_of_ble_eq_true rfl) (show (d + 5) + 1 ≤ (d + 13) by omega) e1
theorem bL_law_1066 {d : Nat} {Q : Option jA → jH → Prop} (a1 : Nat) (a2 : Nat) (i3 : Int) (p0 : Int) (h : jH)
    (r1 : jR (i3 + 1))
    (s1 : 0 ≤ i3 + 1)
    (s2 : i3 + 1 < ((jS h 1).2 : Int))
    (e1 : Ex MX9_keep (d + 1) [.inr a2, .inl (jX h 1 ((i3 + 1).toNat))] h 0 0 (fun v h2 => V ML_law (d + 13) 1075 [some (.inr 1), some (.inr a1), some (.inr a2), some (.inl i3)] (v.toList ++ [.inl p0]) h2 0 0 Q))
    (s3 : (jS h a2).1 = 9) :
    V ML_law (d + 13) 1066 [some (.inr 1), some (.inr a1), some (.inr a2), some (.inl i3)] [.inl p0] h 0 0 Q := by
  refine V_aload_n (i := 2) dL_law_1066 rfl rfl ?_
  refine V_aload_n (i := 0) dL_law_1067 rfl rfl ?_
  refine V_iload_n (i := 3) dL_law_1068 rfl rfl ?_
  refine V_iconst dL_law_1069 ⟨by decide, by decide⟩ ?_
  refine V_iadd dL_law_1070 r1 ?_
  refine V_sld dL_law_1071 s1 s2 ?_
  exact V_callV (M := ML_law) (d := (d + 13)) (mc' := 0) (ms' := 0) (mc := 0) (ms := 0) (As := [.inl (jX h 1 ((i3 + 1).toNat))]) (rest := [.inl p0]) dL_law_1072 tX9_keep vX9_keep lL_145 s3 ⟨by decide, rfl⟩ rfl rfl (Nat.le_of_ble_eq_true rfl) (show (d + 1) + 1 ≤ (d + 13) by omega) e1
theorem bL_law_1089 {d : Nat} {Q : Option jA → jH → Prop} (a1 : Nat) (a2 : Nat) (i3 : Int) (p0 : Int) (h : jH)
    (r1 : jR (i3 + 1))
    (s1 : 0 ≤ i3 + 1)
    (s2 : i3 + 1 < ((jS h 1).2 : Int))
    (e1 : Ex MX9_back (d + 1) [.inr a2, .inl (jX h 1 ((i3 + 1).toNat))] h 0 0 (fun v h2 => V ML_law (d + 13) 1098 [some (.inr 1), some (.inr a1), some (.inr a2), some (.inl i3)] (v.toList ++ [.inl p0]) h2 0 0 Q))
    (s3 : (jS h a2).1 = 9) :
    V ML_law (d + 13) 1089 [some (.inr 1), some (.inr a1), some (.inr a2), some (.inl i3)] [.inl p0] h 0 0 Q := by
  refine V_aload_n (i := 2) dL_law_1089 rfl rfl ?_
  refine V_aload_n (i := 0) dL_law_1090 rfl rfl ?_
  refine V_iload_n (i := 3) dL_law_1091 rfl rfl ?_
  refine V_iconst dL_law_1092 ⟨by decide, by decide⟩ ?_
  refine V_iadd dL_law_1093 r1 ?_
  refine V_sld dL_law_1094 s1 s2 ?_
  exact V_callV (M := ML_law) (d := (d + 13)) (mc' := 0) (ms' := 0) (mc := 0) (ms := 0) (As := [.inl (jX h 1 ((i3 + 1).toNat))]) (rest := [.inl p0]) dL_law_1095 tX9_back vX9_back lL_149 s3 ⟨by decide, rfl⟩ rfl rfl (Nat.le_of_ble_eq_true rfl) (show (d + 1) + 1 ≤ (d + 13) by omega) e1
theorem bL_law_1112 {d : Nat} {Q : Option jA → jH → Prop} (a1 : Nat) (a2 : Nat) (i3 : Int) (p0 : Int) (h : jH)
    (r1 : jR (i3 + 1))
    (s1 : 0 ≤ i3 + 1)
    (s2 : i3 + 1 < ((jS h 1).2 : Int))
    (e1 : Ex MX9_count (d + 4) [.inr a2, .inl (jX h 1 ((i3 + 1).toNat))] h 0 0 (fun v h2 => V ML_law (d + 13) 1121 [some (.inr 1), some (.inr a1), some (.inr a2), some (.inl i3)] (v.toList ++ [.inl p0]) h2 0 0 Q))
    (s3 : (jS h a2).1 = 9) :
    V ML_law (d + 13) 1112 [some (.inr 1), some (.inr a1), some (.inr a2), some (.inl i3)] [.inl p0] h 0 0 Q := by
  refine V_aload_n (i := 2) dL_law_1112 rfl rfl ?_
  refine V_aload_n (i := 0) dL_law_1113 rfl rfl ?_
  refine V_iload_n (i := 3) dL_law_1114 rfl rfl ?_
  refine V_iconst dL_law_1115 ⟨by decide, by decide⟩ ?_
  refine V_iadd dL_law_1116 r1 ?_
  refine V_sld dL_law_1117 s1 s2 ?_
  exact V_callV (M := ML_law) (d := (d + 13)) (mc' := 0) (ms' := 0) (mc := 0) (ms := 0) (As := [.inl (jX h 1 ((i3 + 1).toNat))]) (rest := [.inl p0]) dL_law_1118 tX9_count vX9_count lL_153 s3 ⟨by decide, rfl⟩ rfl rfl (Nat.le_of_ble_eq_true rfl) (show (d + 4) + 1 ≤ (d + 13) by omega) e1
theorem bL_law_15 {d : Nat} {Q : Option jA → jH → Prop} (a1 : Nat) (u2 : Option jA) (u3 : Option jA) (q0 : Nat) (h : jH)
    (k1 : V ML_law (d + 13) 18 [some (.inr 1), some (.inr a1), some (.inr q0), some (.inl 0)] [] h 0 0 Q) :
    V ML_law (d + 13) 15 [some (.inr 1), some (.inr a1), u2, u3] [.inr q0] h 0 0 Q := by
  refine V_astore_n (i := 2) dL_law_15 rfl (by decide) ?_
  refine V_iconst dL_law_16 ⟨by decide, by decide⟩ ?_
  refine V_istore_n (i := 3) dL_law_17 rfl (by decide) ?_
  exact k1
theorem bL_law_202 {d : Nat} {Q : Option jA → jH → Prop} (a1 : Nat) (a2 : Nat) (i3 : Int) (p0 : Int) (p1 : Int) (h : jH)
    (k1 : (p1 = p0) → V ML_law (d + 13) 1126 [some (.inr 1), some (.inr a1), some (.inr a2), some (.inl i3)] [] h 0 0 Q)
    (q1 : (¬ (p1 = p0)) → Q (some (.inl 0)) h) :
    V ML_law (d + 13) 202 [some (.inr 1), some (.inr a1), some (.inr a2), some (.inl i3)] [.inl p0, .inl p1] h 0 0 Q := by
  refine V_icmp_eq (tgt := 1126) dL_law_202 (by decide) (fun c1 => ?_) (fun c1 => ?_)
  · exact (k1 c1)
  · refine V_iconst dL_law_205 ⟨by decide, by decide⟩ ?_
    exact V_retz rfl dL_law_206 (by decide) (q1 c1)
theorem bL_law_215 {d : Nat} {Q : Option jA → jH → Prop} (a1 : Nat) (a2 : Nat) (i3 : Int) (p0 : Int) (p1 : Int) (h : jH)
    (k1 : (p1 = p0) → V ML_law (d + 13) 1126 [some (.inr 1), some (.inr a1), some (.inr a2), some (.inl i3)] [] h 0 0 Q)
    (q1 : (¬ (p1 = p0)) → Q (some (.inl 0)) h) :
    V ML_law (d + 13) 215 [some (.inr 1), some (.inr a1), some (.inr a2), some (.inl i3)] [.inl p0, .inl p1] h 0 0 Q := by
  refine V_icmp_eq (tgt := 1126) dL_law_215 (by decide) (fun c1 => ?_) (fun c1 => ?_)
  · exact (k1 c1)
  · refine V_iconst dL_law_218 ⟨by decide, by decide⟩ ?_
    exact V_retz rfl dL_law_219 (by decide) (q1 c1)
theorem bL_law_228 {d : Nat} {Q : Option jA → jH → Prop} (a1 : Nat) (a2 : Nat) (i3 : Int) (p0 : Int) (p1 : Int) (h : jH)
    (k1 : (p1 = p0) → V ML_law (d + 13) 1126 [some (.inr 1), some (.inr a1), some (.inr a2), some (.inl i3)] [] h 0 0 Q)
    (q1 : (¬ (p1 = p0)) → Q (some (.inl 0)) h) :
    V ML_law (d + 13) 228 [some (.inr 1), some (.inr a1), some (.inr a2), some (.inl i3)] [.inl p0, .inl p1] h 0 0 Q := by
  refine V_icmp_eq (tgt := 1126) dL_law_228 (by decide) (fun c1 => ?_) (fun c1 => ?_)
  · exact (k1 c1)
  · refine V_iconst dL_law_231 ⟨by decide, by decide⟩ ?_
    exact V_retz rfl dL_law_232 (by decide) (q1 c1)
theorem bL_law_241 {d : Nat} {Q : Option jA → jH → Prop} (a1 : Nat) (a2 : Nat) (i3 : Int) (p0 : Int) (p1 : Int) (h : jH)
    (k1 : (p1 = p0) → V ML_law (d + 13) 1126 [some (.inr 1), some (.inr a1), some (.inr a2), some (.inl i3)] [] h 0 0 Q)
    (q1 : (¬ (p1 = p0)) → Q (some (.inl 0)) h) :
    V ML_law (d + 13) 241 [some (.inr 1), some (.inr a1), some (.inr a2), some (.inl i3)] [.inl p0, .inl p1] h 0 0 Q := by
  refine V_icmp_eq (tgt := 1126) dL_law_241 (by decide) (fun c1 => ?_) (fun c1 => ?_)
  · exact (k1 c1)
  · refine V_iconst dL_law_244 ⟨by decide, by decide⟩ ?_
    exact V_retz rfl dL_law_245 (by decide) (q1 c1)
theorem bL_law_274 {d : Nat} {Q : Option jA → jH → Prop} (a1 : Nat) (a2 : Nat) (i3 : Int) (p0 : Int) (p1 : Int) (h : jH)
    (k1 : (p1 = p0) → V ML_law (d + 13) 1126 [some (.inr 1), some (.inr a1), some (.inr a2), some (.inl i3)] [] h 0 0 Q)
    (q1 : (¬ (p1 = p0)) → Q (some (.inl 0)) h) :
    V ML_law (d + 13) 274 [some (.inr 1), some (.inr a1), some (.inr a2), some (.inl i3)] [.inl p0, .inl p1] h 0 0 Q := by
  refine V_icmp_eq (tgt := 1126) dL_law_274 (by decide) (fun c1 => ?_) (fun c1 => ?_)
  · exact (k1 c1)
  · refine V_iconst dL_law_277 ⟨by decide, by decide⟩ ?_
    exact V_retz rfl dL_law_278 (by decide) (q1 c1)
theorem bL_law_307 {d : Nat} {Q : Option jA → jH → Prop} (a1 : Nat) (a2 : Nat) (i3 : Int) (p0 : Int) (p1 : Int) (h : jH)
    (k1 : (p1 = p0) → V ML_law (d + 13) 1126 [some (.inr 1), some (.inr a1), some (.inr a2), some (.inl i3)] [] h 0 0 Q)
    (q1 : (¬ (p1 = p0)) → Q (some (.inl 0)) h) :
    V ML_law (d + 13) 307 [some (.inr 1), some (.inr a1), some (.inr a2), some (.inl i3)] [.inl p0, .inl p1] h 0 0 Q := by
  refine V_icmp_eq (tgt := 1126) dL_law_307 (by decide) (fun c1 => ?_) (fun c1 => ?_)
  · exact (k1 c1)
  · refine V_iconst dL_law_310 ⟨by decide, by decide⟩ ?_
    exact V_retz rfl dL_law_311 (by decide) (q1 c1)
theorem bL_law_340 {d : Nat} {Q : Option jA → jH → Prop} (a1 : Nat) (a2 : Nat) (i3 : Int) (p0 : Int) (p1 : Int) (h : jH)
    (k1 : (p1 = p0) → V ML_law (d + 13) 1126 [some (.inr 1), some (.inr a1), some (.inr a2), some (.inl i3)] [] h 0 0 Q)
    (q1 : (¬ (p1 = p0)) → Q (some (.inl 0)) h) :
    V ML_law (d + 13) 340 [some (.inr 1), some (.inr a1), some (.inr a2), some (.inl i3)] [.inl p0, .inl p1] h 0 0 Q := by
  refine V_icmp_eq (tgt := 1126) dL_law_340 (by decide) (fun c1 => ?_) (fun c1 => ?_)
  · exact (k1 c1)
  · refine V_iconst dL_law_343 ⟨by decide, by decide⟩ ?_
    exact V_retz rfl dL_law_344 (by decide) (q1 c1)
theorem bL_law_373 {d : Nat} {Q : Option jA → jH → Prop} (a1 : Nat) (a2 : Nat) (i3 : Int) (p0 : Int) (p1 : Int) (h : jH)
    (k1 : (p1 = p0) → V ML_law (d + 13) 1126 [some (.inr 1), some (.inr a1), some (.inr a2), some (.inl i3)] [] h 0 0 Q)
    (q1 : (¬ (p1 = p0)) → Q (some (.inl 0)) h) :
    V ML_law (d + 13) 373 [some (.inr 1), some (.inr a1), some (.inr a2), some (.inl i3)] [.inl p0, .inl p1] h 0 0 Q := by
  refine V_icmp_eq (tgt := 1126) dL_law_373 (by decide) (fun c1 => ?_) (fun c1 => ?_)
  · exact (k1 c1)
  · refine V_iconst dL_law_376 ⟨by decide, by decide⟩ ?_
    exact V_retz rfl dL_law_377 (by decide) (q1 c1)
theorem bL_law_406 {d : Nat} {Q : Option jA → jH → Prop} (a1 : Nat) (a2 : Nat) (i3 : Int) (p0 : Int) (p1 : Int) (h : jH)
    (k1 : (p1 = p0) → V ML_law (d + 13) 1126 [some (.inr 1), some (.inr a1), some (.inr a2), some (.inl i3)] [] h 0 0 Q)
    (q1 : (¬ (p1 = p0)) → Q (some (.inl 0)) h) :
    V ML_law (d + 13) 406 [some (.inr 1), some (.inr a1), some (.inr a2), some (.inl i3)] [.inl p0, .inl p1] h 0 0 Q := by
  refine V_icmp_eq (tgt := 1126) dL_law_406 (by decide) (fun c1 => ?_) (fun c1 => ?_)
  · exact (k1 c1)
  · refine V_iconst dL_law_409 ⟨by decide, by decide⟩ ?_
    exact V_retz rfl dL_law_410 (by decide) (q1 c1)
theorem bL_law_429 {d : Nat} {Q : Option jA → jH → Prop} (a1 : Nat) (a2 : Nat) (i3 : Int) (p0 : Int) (p1 : Int) (h : jH)
    (k1 : (p1 = p0) → V ML_law (d + 13) 1126 [some (.inr 1), some (.inr a1), some (.inr a2), some (.inl i3)] [] h 0 0 Q)
    (q1 : (¬ (p1 = p0)) → Q (some (.inl 0)) h) :
    V ML_law (d + 13) 429 [some (.inr 1), some (.inr a1), some (.inr a2), some (.inl i3)] [.inl p0, .inl p1] h 0 0 Q := by
  refine V_icmp_eq (tgt := 1126) dL_law_429 (by decide) (fun c1 => ?_) (fun c1 => ?_)
  · exact (k1 c1)
  · refine V_iconst dL_law_432 ⟨by decide, by decide⟩ ?_
    exact V_retz rfl dL_law_433 (by decide) (q1 c1)
theorem bL_law_452 {d : Nat} {Q : Option jA → jH → Prop} (a1 : Nat) (a2 : Nat) (i3 : Int) (p0 : Int) (p1 : Int) (h : jH)
    (k1 : (p1 = p0) → V ML_law (d + 13) 1126 [some (.inr 1), some (.inr a1), some (.inr a2), some (.inl i3)] [] h 0 0 Q)
    (q1 : (¬ (p1 = p0)) → Q (some (.inl 0)) h) :
    V ML_law (d + 13) 452 [some (.inr 1), some (.inr a1), some (.inr a2), some (.inl i3)] [.inl p0, .inl p1] h 0 0 Q := by
  refine V_icmp_eq (tgt := 1126) dL_law_452 (by decide) (fun c1 => ?_) (fun c1 => ?_)
  · exact (k1 c1)
  · refine V_iconst dL_law_455 ⟨by decide, by decide⟩ ?_
    exact V_retz rfl dL_law_456 (by decide) (q1 c1)
theorem bL_law_475 {d : Nat} {Q : Option jA → jH → Prop} (a1 : Nat) (a2 : Nat) (i3 : Int) (p0 : Int) (p1 : Int) (h : jH)
    (k1 : (p1 = p0) → V ML_law (d + 13) 1126 [some (.inr 1), some (.inr a1), some (.inr a2), some (.inl i3)] [] h 0 0 Q)
    (q1 : (¬ (p1 = p0)) → Q (some (.inl 0)) h) :
    V ML_law (d + 13) 475 [some (.inr 1), some (.inr a1), some (.inr a2), some (.inl i3)] [.inl p0, .inl p1] h 0 0 Q := by
  refine V_icmp_eq (tgt := 1126) dL_law_475 (by decide) (fun c1 => ?_) (fun c1 => ?_)
  · exact (k1 c1)
  · refine V_iconst dL_law_478 ⟨by decide, by decide⟩ ?_
    exact V_retz rfl dL_law_479 (by decide) (q1 c1)
theorem bL_law_488 {d : Nat} {Q : Option jA → jH → Prop} (a1 : Nat) (a2 : Nat) (i3 : Int) (p0 : Int) (p1 : Int) (h : jH)
    (k1 : (p1 = p0) → V ML_law (d + 13) 1126 [some (.inr 1), some (.inr a1), some (.inr a2), some (.inl i3)] [] h 0 0 Q)
    (q1 : (¬ (p1 = p0)) → Q (some (.inl 0)) h) :
    V ML_law (d + 13) 488 [some (.inr 1), some (.inr a1), some (.inr a2), some (.inl i3)] [.inl p0, .inl p1] h 0 0 Q := by
  refine V_icmp_eq (tgt := 1126) dL_law_488 (by decide) (fun c1 => ?_) (fun c1 => ?_)
  · exact (k1 c1)
  · refine V_iconst dL_law_491 ⟨by decide, by decide⟩ ?_
    exact V_retz rfl dL_law_492 (by decide) (q1 c1)
theorem bL_law_521 {d : Nat} {Q : Option jA → jH → Prop} (a1 : Nat) (a2 : Nat) (i3 : Int) (p0 : Int) (p1 : Int) (h : jH)
    (k1 : (p1 = p0) → V ML_law (d + 13) 1126 [some (.inr 1), some (.inr a1), some (.inr a2), some (.inl i3)] [] h 0 0 Q)
    (q1 : (¬ (p1 = p0)) → Q (some (.inl 0)) h) :
    V ML_law (d + 13) 521 [some (.inr 1), some (.inr a1), some (.inr a2), some (.inl i3)] [.inl p0, .inl p1] h 0 0 Q := by
  refine V_icmp_eq (tgt := 1126) dL_law_521 (by decide) (fun c1 => ?_) (fun c1 => ?_)
  · exact (k1 c1)
  · refine V_iconst dL_law_524 ⟨by decide, by decide⟩ ?_
    exact V_retz rfl dL_law_525 (by decide) (q1 c1)
theorem bL_law_574 {d : Nat} {Q : Option jA → jH → Prop} (a1 : Nat) (a2 : Nat) (i3 : Int) (p0 : Int) (p1 : Int) (h : jH)
    (k1 : (p1 = p0) → V ML_law (d + 13) 1126 [some (.inr 1), some (.inr a1), some (.inr a2), some (.inl i3)] [] h 0 0 Q)
    (q1 : (¬ (p1 = p0)) → Q (some (.inl 0)) h) :
    V ML_law (d + 13) 574 [some (.inr 1), some (.inr a1), some (.inr a2), some (.inl i3)] [.inl p0, .inl p1] h 0 0 Q := by
  refine V_icmp_eq (tgt := 1126) dL_law_574 (by decide) (fun c1 => ?_) (fun c1 => ?_)
  · exact (k1 c1)
  · refine V_iconst dL_law_577 ⟨by decide, by decide⟩ ?_
    exact V_retz rfl dL_law_578 (by decide) (q1 c1)
theorem bL_law_617 {d : Nat} {Q : Option jA → jH → Prop} (a1 : Nat) (a2 : Nat) (i3 : Int) (p0 : Int) (p1 : Int) (h : jH)
    (k1 : (p1 = p0) → V ML_law (d + 13) 1126 [some (.inr 1), some (.inr a1), some (.inr a2), some (.inl i3)] [] h 0 0 Q)
    (q1 : (¬ (p1 = p0)) → Q (some (.inl 0)) h) :
    V ML_law (d + 13) 617 [some (.inr 1), some (.inr a1), some (.inr a2), some (.inl i3)] [.inl p0, .inl p1] h 0 0 Q := by
  refine V_icmp_eq (tgt := 1126) dL_law_617 (by decide) (fun c1 => ?_) (fun c1 => ?_)
  · exact (k1 c1)
  · refine V_iconst dL_law_620 ⟨by decide, by decide⟩ ?_
    exact V_retz rfl dL_law_621 (by decide) (q1 c1)
theorem bL_law_660 {d : Nat} {Q : Option jA → jH → Prop} (a1 : Nat) (a2 : Nat) (i3 : Int) (p0 : Int) (p1 : Int) (h : jH)
    (k1 : (p1 = p0) → V ML_law (d + 13) 1126 [some (.inr 1), some (.inr a1), some (.inr a2), some (.inl i3)] [] h 0 0 Q)
    (q1 : (¬ (p1 = p0)) → Q (some (.inl 0)) h) :
    V ML_law (d + 13) 660 [some (.inr 1), some (.inr a1), some (.inr a2), some (.inl i3)] [.inl p0, .inl p1] h 0 0 Q := by
  refine V_icmp_eq (tgt := 1126) dL_law_660 (by decide) (fun c1 => ?_) (fun c1 => ?_)
  · exact (k1 c1)
  · refine V_iconst dL_law_663 ⟨by decide, by decide⟩ ?_
    exact V_retz rfl dL_law_664 (by decide) (q1 c1)
theorem bL_law_703 {d : Nat} {Q : Option jA → jH → Prop} (a1 : Nat) (a2 : Nat) (i3 : Int) (p0 : Int) (p1 : Int) (h : jH)
    (k1 : (p1 = p0) → V ML_law (d + 13) 1126 [some (.inr 1), some (.inr a1), some (.inr a2), some (.inl i3)] [] h 0 0 Q)
    (q1 : (¬ (p1 = p0)) → Q (some (.inl 0)) h) :
    V ML_law (d + 13) 703 [some (.inr 1), some (.inr a1), some (.inr a2), some (.inl i3)] [.inl p0, .inl p1] h 0 0 Q := by
  refine V_icmp_eq (tgt := 1126) dL_law_703 (by decide) (fun c1 => ?_) (fun c1 => ?_)
  · exact (k1 c1)
  · refine V_iconst dL_law_706 ⟨by decide, by decide⟩ ?_
    exact V_retz rfl dL_law_707 (by decide) (q1 c1)
theorem bL_law_746 {d : Nat} {Q : Option jA → jH → Prop} (a1 : Nat) (a2 : Nat) (i3 : Int) (p0 : Int) (p1 : Int) (h : jH)
    (k1 : (p1 = p0) → V ML_law (d + 13) 1126 [some (.inr 1), some (.inr a1), some (.inr a2), some (.inl i3)] [] h 0 0 Q)
    (q1 : (¬ (p1 = p0)) → Q (some (.inl 0)) h) :
    V ML_law (d + 13) 746 [some (.inr 1), some (.inr a1), some (.inr a2), some (.inl i3)] [.inl p0, .inl p1] h 0 0 Q := by
  refine V_icmp_eq (tgt := 1126) dL_law_746 (by decide) (fun c1 => ?_) (fun c1 => ?_)
  · exact (k1 c1)
  · refine V_iconst dL_law_749 ⟨by decide, by decide⟩ ?_
    exact V_retz rfl dL_law_750 (by decide) (q1 c1)
theorem bL_law_779 {d : Nat} {Q : Option jA → jH → Prop} (a1 : Nat) (a2 : Nat) (i3 : Int) (p0 : Int) (p1 : Int) (h : jH)
    (k1 : (p1 = p0) → V ML_law (d + 13) 1126 [some (.inr 1), some (.inr a1), some (.inr a2), some (.inl i3)] [] h 0 0 Q)
    (q1 : (¬ (p1 = p0)) → Q (some (.inl 0)) h) :
    V ML_law (d + 13) 779 [some (.inr 1), some (.inr a1), some (.inr a2), some (.inl i3)] [.inl p0, .inl p1] h 0 0 Q := by
  refine V_icmp_eq (tgt := 1126) dL_law_779 (by decide) (fun c1 => ?_) (fun c1 => ?_)
  · exact (k1 c1)
  · refine V_iconst dL_law_782 ⟨by decide, by decide⟩ ?_
    exact V_retz rfl dL_law_783 (by decide) (q1 c1)
theorem bL_law_812 {d : Nat} {Q : Option jA → jH → Prop} (a1 : Nat) (a2 : Nat) (i3 : Int) (p0 : Int) (p1 : Int) (h : jH)
    (k1 : (p1 = p0) → V ML_law (d + 13) 1126 [some (.inr 1), some (.inr a1), some (.inr a2), some (.inl i3)] [] h 0 0 Q)
    (q1 : (¬ (p1 = p0)) → Q (some (.inl 0)) h) :
    V ML_law (d + 13) 812 [some (.inr 1), some (.inr a1), some (.inr a2), some (.inl i3)] [.inl p0, .inl p1] h 0 0 Q := by
  refine V_icmp_eq (tgt := 1126) dL_law_812 (by decide) (fun c1 => ?_) (fun c1 => ?_)
  · exact (k1 c1)
  · refine V_iconst dL_law_815 ⟨by decide, by decide⟩ ?_
    exact V_retz rfl dL_law_816 (by decide) (q1 c1)
theorem bL_law_835 {d : Nat} {Q : Option jA → jH → Prop} (a1 : Nat) (a2 : Nat) (i3 : Int) (p0 : Int) (p1 : Int) (h : jH)
    (k1 : (p1 = p0) → V ML_law (d + 13) 1126 [some (.inr 1), some (.inr a1), some (.inr a2), some (.inl i3)] [] h 0 0 Q)
    (q1 : (¬ (p1 = p0)) → Q (some (.inl 0)) h) :
    V ML_law (d + 13) 835 [some (.inr 1), some (.inr a1), some (.inr a2), some (.inl i3)] [.inl p0, .inl p1] h 0 0 Q := by
  refine V_icmp_eq (tgt := 1126) dL_law_835 (by decide) (fun c1 => ?_) (fun c1 => ?_)
  · exact (k1 c1)
  · refine V_iconst dL_law_838 ⟨by decide, by decide⟩ ?_
    exact V_retz rfl dL_law_839 (by decide) (q1 c1)
theorem bL_law_868 {d : Nat} {Q : Option jA → jH → Prop} (a1 : Nat) (a2 : Nat) (i3 : Int) (p0 : Int) (p1 : Int) (h : jH)
    (k1 : (p1 = p0) → V ML_law (d + 13) 1126 [some (.inr 1), some (.inr a1), some (.inr a2), some (.inl i3)] [] h 0 0 Q)
    (q1 : (¬ (p1 = p0)) → Q (some (.inl 0)) h) :
    V ML_law (d + 13) 868 [some (.inr 1), some (.inr a1), some (.inr a2), some (.inl i3)] [.inl p0, .inl p1] h 0 0 Q := by
  refine V_icmp_eq (tgt := 1126) dL_law_868 (by decide) (fun c1 => ?_) (fun c1 => ?_)
  · exact (k1 c1)
  · refine V_iconst dL_law_871 ⟨by decide, by decide⟩ ?_
    exact V_retz rfl dL_law_872 (by decide) (q1 c1)
theorem bL_law_901 {d : Nat} {Q : Option jA → jH → Prop} (a1 : Nat) (a2 : Nat) (i3 : Int) (p0 : Int) (p1 : Int) (h : jH)
    (k1 : (p1 = p0) → V ML_law (d + 13) 1126 [some (.inr 1), some (.inr a1), some (.inr a2), some (.inl i3)] [] h 0 0 Q)
    (q1 : (¬ (p1 = p0)) → Q (some (.inl 0)) h) :
    V ML_law (d + 13) 901 [some (.inr 1), some (.inr a1), some (.inr a2), some (.inl i3)] [.inl p0, .inl p1] h 0 0 Q := by
  refine V_icmp_eq (tgt := 1126) dL_law_901 (by decide) (fun c1 => ?_) (fun c1 => ?_)
  · exact (k1 c1)
  · refine V_iconst dL_law_904 ⟨by decide, by decide⟩ ?_
    exact V_retz rfl dL_law_905 (by decide) (q1 c1)
theorem bL_law_944 {d : Nat} {Q : Option jA → jH → Prop} (a1 : Nat) (a2 : Nat) (i3 : Int) (p0 : Int) (p1 : Int) (h : jH)
    (k1 : (p1 = p0) → V ML_law (d + 13) 1126 [some (.inr 1), some (.inr a1), some (.inr a2), some (.inl i3)] [] h 0 0 Q)
    (q1 : (¬ (p1 = p0)) → Q (some (.inl 0)) h) :
    V ML_law (d + 13) 944 [some (.inr 1), some (.inr a1), some (.inr a2), some (.inl i3)] [.inl p0, .inl p1] h 0 0 Q := by
  refine V_icmp_eq (tgt := 1126) dL_law_944 (by decide) (fun c1 => ?_) (fun c1 => ?_)
  · exact (k1 c1)
  · refine V_iconst dL_law_947 ⟨by decide, by decide⟩ ?_
    exact V_retz rfl dL_law_948 (by decide) (q1 c1)
theorem bL_law_967 {d : Nat} {Q : Option jA → jH → Prop} (a1 : Nat) (a2 : Nat) (i3 : Int) (p0 : Int) (p1 : Int) (h : jH)
    (k1 : (p1 = p0) → V ML_law (d + 13) 1126 [some (.inr 1), some (.inr a1), some (.inr a2), some (.inl i3)] [] h 0 0 Q)
    (q1 : (¬ (p1 = p0)) → Q (some (.inl 0)) h) :
    V ML_law (d + 13) 967 [some (.inr 1), some (.inr a1), some (.inr a2), some (.inl i3)] [.inl p0, .inl p1] h 0 0 Q := by
  refine V_icmp_eq (tgt := 1126) dL_law_967 (by decide) (fun c1 => ?_) (fun c1 => ?_)
  · exact (k1 c1)
  · refine V_iconst dL_law_970 ⟨by decide, by decide⟩ ?_
    exact V_retz rfl dL_law_971 (by decide) (q1 c1)
theorem bL_law_980 {d : Nat} {Q : Option jA → jH → Prop} (a1 : Nat) (a2 : Nat) (i3 : Int) (p0 : Int) (p1 : Int) (h : jH)
    (k1 : (p1 = p0) → V ML_law (d + 13) 1126 [some (.inr 1), some (.inr a1), some (.inr a2), some (.inl i3)] [] h 0 0 Q)
    (q1 : (¬ (p1 = p0)) → Q (some (.inl 0)) h) :
    V ML_law (d + 13) 980 [some (.inr 1), some (.inr a1), some (.inr a2), some (.inl i3)] [.inl p0, .inl p1] h 0 0 Q := by
  refine V_icmp_eq (tgt := 1126) dL_law_980 (by decide) (fun c1 => ?_) (fun c1 => ?_)
  · exact (k1 c1)
  · refine V_iconst dL_law_983 ⟨by decide, by decide⟩ ?_
    exact V_retz rfl dL_law_984 (by decide) (q1 c1)
theorem bL_law_1013 {d : Nat} {Q : Option jA → jH → Prop} (a1 : Nat) (a2 : Nat) (i3 : Int) (p0 : Int) (p1 : Int) (h : jH)
    (k1 : (p1 = p0) → V ML_law (d + 13) 1126 [some (.inr 1), some (.inr a1), some (.inr a2), some (.inl i3)] [] h 0 0 Q)
    (q1 : (¬ (p1 = p0)) → Q (some (.inl 0)) h) :
    V ML_law (d + 13) 1013 [some (.inr 1), some (.inr a1), some (.inr a2), some (.inl i3)] [.inl p0, .inl p1] h 0 0 Q := by
  refine V_icmp_eq (tgt := 1126) dL_law_1013 (by decide) (fun c1 => ?_) (fun c1 => ?_)
  · exact (k1 c1)
  · refine V_iconst dL_law_1016 ⟨by decide, by decide⟩ ?_
    exact V_retz rfl dL_law_1017 (by decide) (q1 c1)
theorem bL_law_1026 {d : Nat} {Q : Option jA → jH → Prop} (a1 : Nat) (a2 : Nat) (i3 : Int) (p0 : Int) (p1 : Int) (h : jH)
    (k1 : (p1 = p0) → V ML_law (d + 13) 1126 [some (.inr 1), some (.inr a1), some (.inr a2), some (.inl i3)] [] h 0 0 Q)
    (q1 : (¬ (p1 = p0)) → Q (some (.inl 0)) h) :
    V ML_law (d + 13) 1026 [some (.inr 1), some (.inr a1), some (.inr a2), some (.inl i3)] [.inl p0, .inl p1] h 0 0 Q := by
  refine V_icmp_eq (tgt := 1126) dL_law_1026 (by decide) (fun c1 => ?_) (fun c1 => ?_)
  · exact (k1 c1)
  · refine V_iconst dL_law_1029 ⟨by decide, by decide⟩ ?_
    exact V_retz rfl dL_law_1030 (by decide) (q1 c1)
theorem bL_law_1039 {d : Nat} {Q : Option jA → jH → Prop} (a1 : Nat) (a2 : Nat) (i3 : Int) (p0 : Int) (p1 : Int) (h : jH)
    (k1 : (p1 = p0) → V ML_law (d + 13) 1126 [some (.inr 1), some (.inr a1), some (.inr a2), some (.inl i3)] [] h 0 0 Q)
    (q1 : (¬ (p1 = p0)) → Q (some (.inl 0)) h) :
    V ML_law (d + 13) 1039 [some (.inr 1), some (.inr a1), some (.inr a2), some (.inl i3)] [.inl p0, .inl p1] h 0 0 Q := by
  refine V_icmp_eq (tgt := 1126) dL_law_1039 (by decide) (fun c1 => ?_) (fun c1 => ?_)
  · exact (k1 c1)
  · refine V_iconst dL_law_1042 ⟨by decide, by decide⟩ ?_
    exact V_retz rfl dL_law_1043 (by decide) (q1 c1)
theorem bL_law_1052 {d : Nat} {Q : Option jA → jH → Prop} (a1 : Nat) (a2 : Nat) (i3 : Int) (p0 : Int) (p1 : Int) (h : jH)
    (k1 : (p1 = p0) → V ML_law (d + 13) 1126 [some (.inr 1), some (.inr a1), some (.inr a2), some (.inl i3)] [] h 0 0 Q)
    (q1 : (¬ (p1 = p0)) → Q (some (.inl 0)) h) :
    V ML_law (d + 13) 1052 [some (.inr 1), some (.inr a1), some (.inr a2), some (.inl i3)] [.inl p0, .inl p1] h 0 0 Q := by
  refine V_icmp_eq (tgt := 1126) dL_law_1052 (by decide) (fun c1 => ?_) (fun c1 => ?_)
  · exact (k1 c1)
  · refine V_iconst dL_law_1055 ⟨by decide, by decide⟩ ?_
    exact V_retz rfl dL_law_1056 (by decide) (q1 c1)
theorem bL_law_1075 {d : Nat} {Q : Option jA → jH → Prop} (a1 : Nat) (a2 : Nat) (i3 : Int) (p0 : Int) (p1 : Int) (h : jH)
    (k1 : (p1 = p0) → V ML_law (d + 13) 1126 [some (.inr 1), some (.inr a1), some (.inr a2), some (.inl i3)] [] h 0 0 Q)
    (q1 : (¬ (p1 = p0)) → Q (some (.inl 0)) h) :
    V ML_law (d + 13) 1075 [some (.inr 1), some (.inr a1), some (.inr a2), some (.inl i3)] [.inl p0, .inl p1] h 0 0 Q := by
  refine V_icmp_eq (tgt := 1126) dL_law_1075 (by decide) (fun c1 => ?_) (fun c1 => ?_)
  · exact (k1 c1)
  · refine V_iconst dL_law_1078 ⟨by decide, by decide⟩ ?_
    exact V_retz rfl dL_law_1079 (by decide) (q1 c1)
theorem bL_law_1098 {d : Nat} {Q : Option jA → jH → Prop} (a1 : Nat) (a2 : Nat) (i3 : Int) (p0 : Int) (p1 : Int) (h : jH)
    (k1 : (p1 = p0) → V ML_law (d + 13) 1126 [some (.inr 1), some (.inr a1), some (.inr a2), some (.inl i3)] [] h 0 0 Q)
    (q1 : (¬ (p1 = p0)) → Q (some (.inl 0)) h) :
    V ML_law (d + 13) 1098 [some (.inr 1), some (.inr a1), some (.inr a2), some (.inl i3)] [.inl p0, .inl p1] h 0 0 Q := by
  refine V_icmp_eq (tgt := 1126) dL_law_1098 (by decide) (fun c1 => ?_) (fun c1 => ?_)
  · exact (k1 c1)
  · refine V_iconst dL_law_1101 ⟨by decide, by decide⟩ ?_
    exact V_retz rfl dL_law_1102 (by decide) (q1 c1)
theorem bL_law_1121 {d : Nat} {Q : Option jA → jH → Prop} (a1 : Nat) (a2 : Nat) (i3 : Int) (p0 : Int) (p1 : Int) (h : jH)
    (k1 : (p1 = p0) → V ML_law (d + 13) 1126 [some (.inr 1), some (.inr a1), some (.inr a2), some (.inl i3)] [] h 0 0 Q)
    (q1 : (¬ (p1 = p0)) → Q (some (.inl 0)) h) :
    V ML_law (d + 13) 1121 [some (.inr 1), some (.inr a1), some (.inr a2), some (.inl i3)] [.inl p0, .inl p1] h 0 0 Q := by
  refine V_icmp_eq (tgt := 1126) dL_law_1121 (by decide) (fun c1 => ?_) (fun c1 => ?_)
  · exact (k1 c1)
  · refine V_iconst dL_law_1124 ⟨by decide, by decide⟩ ?_
    exact V_retz rfl dL_law_1125 (by decide) (q1 c1)
