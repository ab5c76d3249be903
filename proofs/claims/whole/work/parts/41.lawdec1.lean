theorem d_Lw_law_18 : decode code 18 = .ok (.iload_n 3, 1) := by decide +kernel
theorem d_Lw_law_19 : decode code 19 = .ok (.aload_n 0, 1) := by decide +kernel
theorem d_Lw_law_20 : decode code 20 = .ok (.arraylength, 1) := by decide +kernel
theorem d_Lw_law_21 : decode code 21 = .ok (.bipush 8, 2) := by decide +kernel
theorem d_Lw_law_23 : decode code 23 = .ok (.isub, 1) := by decide +kernel
theorem d_Lw_law_1555 : decode code 1555 = .ok (.iconst 1, 1) := by decide +kernel
theorem d_Lw_law_1556 : decode code 1556 = .ok (.ireturn, 1) := by decide +kernel
theorem d_Lw_law_27 : decode code 27 = .ok (.aload_n 0, 1) := by decide +kernel
theorem d_Lw_law_28 : decode code 28 = .ok (.iload_n 3, 1) := by decide +kernel
theorem d_Lw_law_29 : decode code 29 = .ok (.iaload, 1) := by decide +kernel
theorem d_Lw_law_30 : decode code 30 = .ok (.bipush 63, 2) := by decide +kernel
theorem d_Lw_law_32 : decode code 32 = .ok (.iand, 1) := by decide +kernel
theorem d_Lw_law_196 : decode code 196 = .ok (.aload_n 1, 1) := by decide +kernel
theorem d_Lw_law_197 : decode code 197 = .ok (.aload_n 0, 1) := by decide +kernel
theorem d_Lw_law_198 : decode code 198 = .ok (.iload_n 3, 1) := by decide +kernel
theorem d_Lw_law_199 : decode code 199 = .ok (.iconst 1, 1) := by decide +kernel
theorem d_Lw_law_200 : decode code 200 = .ok (.iadd, 1) := by decide +kernel
theorem d_Lw_law_201 : decode code 201 = .ok (.iaload, 1) := by decide +kernel
theorem d_Lw_law_202 : decode code 202 = .ok (.aload_n 0, 1) := by decide +kernel
theorem d_Lw_law_203 : decode code 203 = .ok (.iload_n 3, 1) := by decide +kernel
theorem d_Lw_law_204 : decode code 204 = .ok (.iconst 2, 1) := by decide +kernel
theorem d_Lw_law_205 : decode code 205 = .ok (.iadd, 1) := by decide +kernel
theorem d_Lw_law_206 : decode code 206 = .ok (.iaload, 1) := by decide +kernel
theorem d_Lw_law_207 : decode code 207 = .ok (.aload_n 0, 1) := by decide +kernel
theorem d_Lw_law_208 : decode code 208 = .ok (.iload_n 3, 1) := by decide +kernel
theorem d_Lw_law_209 : decode code 209 = .ok (.iconst 3, 1) := by decide +kernel
theorem d_Lw_law_210 : decode code 210 = .ok (.iadd, 1) := by decide +kernel
theorem d_Lw_law_211 : decode code 211 = .ok (.iaload, 1) := by decide +kernel
theorem d_Lw_law_212 : decode code 212 = .ok (.aload_n 0, 1) := by decide +kernel
theorem d_Lw_law_213 : decode code 213 = .ok (.iload_n 3, 1) := by decide +kernel
theorem d_Lw_law_214 : decode code 214 = .ok (.iconst 4, 1) := by decide +kernel
theorem d_Lw_law_215 : decode code 215 = .ok (.iadd, 1) := by decide +kernel
theorem d_Lw_law_216 : decode code 216 = .ok (.iaload, 1) := by decide +kernel
theorem d_Lw_law_217 : decode code 217 = .ok (.aload_n 0, 1) := by decide +kernel
theorem d_Lw_law_218 : decode code 218 = .ok (.iload_n 3, 1) := by decide +kernel
theorem d_Lw_law_219 : decode code 219 = .ok (.iconst 5, 1) := by decide +kernel
theorem d_Lw_law_220 : decode code 220 = .ok (.iadd, 1) := by decide +kernel
theorem d_Lw_law_221 : decode code 221 = .ok (.iaload, 1) := by decide +kernel
theorem d_Lw_law_222 : decode code 222 = .ok (.invokevirtual 13, 3) := by decide +kernel
theorem d_Lw_law_225 : decode code 225 = .ok (.aload_n 2, 1) := by decide +kernel
theorem d_Lw_law_226 : decode code 226 = .ok (.aload_n 0, 1) := by decide +kernel
theorem d_Lw_law_227 : decode code 227 = .ok (.iload_n 3, 1) := by decide +kernel
theorem d_Lw_law_228 : decode code 228 = .ok (.iconst 1, 1) := by decide +kernel
theorem d_Lw_law_229 : decode code 229 = .ok (.iadd, 1) := by decide +kernel
theorem d_Lw_law_230 : decode code 230 = .ok (.iaload, 1) := by decide +kernel
theorem d_Lw_law_231 : decode code 231 = .ok (.aload_n 0, 1) := by decide +kernel
theorem d_Lw_law_232 : decode code 232 = .ok (.iload_n 3, 1) := by decide +kernel
theorem d_Lw_law_233 : decode code 233 = .ok (.iconst 2, 1) := by decide +kernel
theorem d_Lw_law_234 : decode code 234 = .ok (.iadd, 1) := by decide +kernel
theorem d_Lw_law_235 : decode code 235 = .ok (.iaload, 1) := by decide +kernel
theorem d_Lw_law_236 : decode code 236 = .ok (.aload_n 0, 1) := by decide +kernel
theorem d_Lw_law_237 : decode code 237 = .ok (.iload_n 3, 1) := by decide +kernel
theorem d_Lw_law_238 : decode code 238 = .ok (.iconst 3, 1) := by decide +kernel
theorem d_Lw_law_239 : decode code 239 = .ok (.iadd, 1) := by decide +kernel
theorem d_Lw_law_240 : decode code 240 = .ok (.iaload, 1) := by decide +kernel
theorem d_Lw_law_241 : decode code 241 = .ok (.aload_n 0, 1) := by decide +kernel
theorem d_Lw_law_242 : decode code 242 = .ok (.iload_n 3, 1) := by decide +kernel
theorem d_Lw_law_243 : decode code 243 = .ok (.iconst 4, 1) := by decide +kernel
theorem d_Lw_law_244 : decode code 244 = .ok (.iadd, 1) := by decide +kernel
theorem d_Lw_law_245 : decode code 245 = .ok (.iaload, 1) := by decide +kernel
theorem d_Lw_law_246 : decode code 246 = .ok (.aload_n 0, 1) := by decide +kernel
theorem d_Lw_law_247 : decode code 247 = .ok (.iload_n 3, 1) := by decide +kernel
theorem d_Lw_law_248 : decode code 248 = .ok (.iconst 5, 1) := by decide +kernel
theorem d_Lw_law_249 : decode code 249 = .ok (.iadd, 1) := by decide +kernel
theorem d_Lw_law_250 : decode code 250 = .ok (.iaload, 1) := by decide +kernel
theorem d_Lw_law_251 : decode code 251 = .ok (.invokevirtual 17, 3) := by decide +kernel
theorem d_Lw_law_1549 : decode code 1549 = .ok (.iinc 3 8, 3) := by decide +kernel
theorem d_Lw_law_1552 : decode code 1552 = .ok (.goto (-1534), 3) := by decide +kernel
theorem d_Lw_law_257 : decode code 257 = .ok (.iconst 0, 1) := by decide +kernel
theorem d_Lw_law_258 : decode code 258 = .ok (.ireturn, 1) := by decide +kernel
theorem d_Lw_law_254 : decode code 254 = .ok (.if_icmp .eq 1295, 3) := by decide +kernel
theorem d_Lw_law_259 : decode code 259 = .ok (.aload_n 1, 1) := by decide +kernel
theorem d_Lw_law_260 : decode code 260 = .ok (.aload_n 0, 1) := by decide +kernel
theorem d_Lw_law_261 : decode code 261 = .ok (.iload_n 3, 1) := by decide +kernel
theorem d_Lw_law_262 : decode code 262 = .ok (.iconst 1, 1) := by decide +kernel
theorem d_Lw_law_263 : decode code 263 = .ok (.iadd, 1) := by decide +kernel
theorem d_Lw_law_264 : decode code 264 = .ok (.iaload, 1) := by decide +kernel
theorem d_Lw_law_265 : decode code 265 = .ok (.invokevirtual 18, 3) := by decide +kernel
theorem d_Lw_law_268 : decode code 268 = .ok (.aload_n 2, 1) := by decide +kernel
theorem d_Lw_law_269 : decode code 269 = .ok (.aload_n 0, 1) := by decide +kernel
theorem d_Lw_law_270 : decode code 270 = .ok (.iload_n 3, 1) := by decide +kernel
theorem d_Lw_law_271 : decode code 271 = .ok (.iconst 1, 1) := by decide +kernel
theorem d_Lw_law_272 : decode code 272 = .ok (.iadd, 1) := by decide +kernel
theorem d_Lw_law_273 : decode code 273 = .ok (.iaload, 1) := by decide +kernel
theorem d_Lw_law_274 : decode code 274 = .ok (.invokevirtual 22, 3) := by decide +kernel
theorem d_Lw_law_280 : decode code 280 = .ok (.iconst 0, 1) := by decide +kernel
theorem d_Lw_law_281 : decode code 281 = .ok (.ireturn, 1) := by decide +kernel
theorem d_Lw_law_277 : decode code 277 = .ok (.if_icmp .eq 1272, 3) := by decide +kernel
theorem d_Lw_law_282 : decode code 282 = .ok (.aload_n 1, 1) := by decide +kernel
theorem d_Lw_law_283 : decode code 283 = .ok (.aload_n 0, 1) := by decide +kernel
theorem d_Lw_law_284 : decode code 284 = .ok (.iload_n 3, 1) := by decide +kernel
theorem d_Lw_law_285 : decode code 285 = .ok (.iconst 1, 1) := by decide +kernel
theorem d_Lw_law_286 : decode code 286 = .ok (.iadd, 1) := by decide +kernel
theorem d_Lw_law_287 : decode code 287 = .ok (.iaload, 1) := by decide +kernel
theorem d_Lw_law_288 : decode code 288 = .ok (.aload_n 0, 1) := by decide +kernel
theorem d_Lw_law_289 : decode code 289 = .ok (.iload_n 3, 1) := by decide +kernel
theorem d_Lw_law_290 : decode code 290 = .ok (.iconst 2, 1) := by decide +kernel
theorem d_Lw_law_291 : decode code 291 = .ok (.iadd, 1) := by decide +kernel
theorem d_Lw_law_292 : decode code 292 = .ok (.iaload, 1) := by decide +kernel
theorem d_Lw_law_293 : decode code 293 = .ok (.aload_n 0, 1) := by decide +kernel
theorem d_Lw_law_294 : decode code 294 = .ok (.iload_n 3, 1) := by decide +kernel
theorem d_Lw_law_295 : decode code 295 = .ok (.iconst 3, 1) := by decide +kernel
theorem d_Lw_law_296 : decode code 296 = .ok (.iadd, 1) := by decide +kernel
theorem d_Lw_law_297 : decode code 297 = .ok (.iaload, 1) := by decide +kernel
theorem d_Lw_law_298 : decode code 298 = .ok (.aload_n 0, 1) := by decide +kernel
theorem d_Lw_law_299 : decode code 299 = .ok (.iload_n 3, 1) := by decide +kernel
theorem d_Lw_law_300 : decode code 300 = .ok (.iconst 4, 1) := by decide +kernel
theorem d_Lw_law_301 : decode code 301 = .ok (.iadd, 1) := by decide +kernel
theorem d_Lw_law_302 : decode code 302 = .ok (.iaload, 1) := by decide +kernel
theorem d_Lw_law_303 : decode code 303 = .ok (.aload_n 0, 1) := by decide +kernel
theorem d_Lw_law_304 : decode code 304 = .ok (.iload_n 3, 1) := by decide +kernel
theorem d_Lw_law_305 : decode code 305 = .ok (.iconst 5, 1) := by decide +kernel
theorem d_Lw_law_306 : decode code 306 = .ok (.iadd, 1) := by decide +kernel
theorem d_Lw_law_307 : decode code 307 = .ok (.iaload, 1) := by decide +kernel
theorem d_Lw_law_308 : decode code 308 = .ok (.invokevirtual 23, 3) := by decide +kernel
theorem d_Lw_law_311 : decode code 311 = .ok (.aload_n 2, 1) := by decide +kernel
theorem d_Lw_law_312 : decode code 312 = .ok (.aload_n 0, 1) := by decide +kernel
theorem d_Lw_law_313 : decode code 313 = .ok (.iload_n 3, 1) := by decide +kernel
theorem d_Lw_law_314 : decode code 314 = .ok (.iconst 1, 1) := by decide +kernel
theorem d_Lw_law_315 : decode code 315 = .ok (.iadd, 1) := by decide +kernel
theorem d_Lw_law_316 : decode code 316 = .ok (.iaload, 1) := by decide +kernel
theorem d_Lw_law_317 : decode code 317 = .ok (.aload_n 0, 1) := by decide +kernel
theorem d_Lw_law_318 : decode code 318 = .ok (.iload_n 3, 1) := by decide +kernel
theorem d_Lw_law_319 : decode code 319 = .ok (.iconst 2, 1) := by decide +kernel
theorem d_Lw_law_320 : decode code 320 = .ok (.iadd, 1) := by decide +kernel
theorem d_Lw_law_321 : decode code 321 = .ok (.iaload, 1) := by decide +kernel
theorem d_Lw_law_322 : decode code 322 = .ok (.aload_n 0, 1) := by decide +kernel
theorem d_Lw_law_323 : decode code 323 = .ok (.iload_n 3, 1) := by decide +kernel
theorem d_Lw_law_324 : decode code 324 = .ok (.iconst 3, 1) := by decide +kernel
theorem d_Lw_law_325 : decode code 325 = .ok (.iadd, 1) := by decide +kernel
theorem d_Lw_law_326 : decode code 326 = .ok (.iaload, 1) := by decide +kernel
theorem d_Lw_law_327 : decode code 327 = .ok (.aload_n 0, 1) := by decide +kernel
theorem d_Lw_law_328 : decode code 328 = .ok (.iload_n 3, 1) := by decide +kernel
theorem d_Lw_law_329 : decode code 329 = .ok (.iconst 4, 1) := by decide +kernel
theorem d_Lw_law_330 : decode code 330 = .ok (.iadd, 1) := by decide +kernel
theorem d_Lw_law_331 : decode code 331 = .ok (.iaload, 1) := by decide +kernel
theorem d_Lw_law_332 : decode code 332 = .ok (.aload_n 0, 1) := by decide +kernel
theorem d_Lw_law_333 : decode code 333 = .ok (.iload_n 3, 1) := by decide +kernel
theorem d_Lw_law_334 : decode code 334 = .ok (.iconst 5, 1) := by decide +kernel
theorem d_Lw_law_335 : decode code 335 = .ok (.iadd, 1) := by decide +kernel
theorem d_Lw_law_336 : decode code 336 = .ok (.iaload, 1) := by decide +kernel
theorem d_Lw_law_337 : decode code 337 = .ok (.invokevirtual 26, 3) := by decide +kernel
theorem d_Lw_law_343 : decode code 343 = .ok (.iconst 0, 1) := by decide +kernel
theorem d_Lw_law_344 : decode code 344 = .ok (.ireturn, 1) := by decide +kernel
theorem d_Lw_law_340 : decode code 340 = .ok (.if_icmp .eq 1209, 3) := by decide +kernel
theorem d_Lw_law_345 : decode code 345 = .ok (.aload_n 1, 1) := by decide +kernel
theorem d_Lw_law_346 : decode code 346 = .ok (.aload_n 0, 1) := by decide +kernel
theorem d_Lw_law_347 : decode code 347 = .ok (.iload_n 3, 1) := by decide +kernel
theorem d_Lw_law_348 : decode code 348 = .ok (.iconst 1, 1) := by decide +kernel
theorem d_Lw_law_349 : decode code 349 = .ok (.iadd, 1) := by decide +kernel
theorem d_Lw_law_350 : decode code 350 = .ok (.iaload, 1) := by decide +kernel
theorem d_Lw_law_351 : decode code 351 = .ok (.aload_n 0, 1) := by decide +kernel
theorem d_Lw_law_352 : decode code 352 = .ok (.iload_n 3, 1) := by decide +kernel
theorem d_Lw_law_353 : decode code 353 = .ok (.iconst 2, 1) := by decide +kernel
theorem d_Lw_law_354 : decode code 354 = .ok (.iadd, 1) := by decide +kernel
theorem d_Lw_law_355 : decode code 355 = .ok (.iaload, 1) := by decide +kernel
theorem d_Lw_law_356 : decode code 356 = .ok (.aload_n 0, 1) := by decide +kernel
theorem d_Lw_law_357 : decode code 357 = .ok (.iload_n 3, 1) := by decide +kernel
theorem d_Lw_law_358 : decode code 358 = .ok (.iconst 3, 1) := by decide +kernel
theorem d_Lw_law_359 : decode code 359 = .ok (.iadd, 1) := by decide +kernel
theorem d_Lw_law_360 : decode code 360 = .ok (.iaload, 1) := by decide +kernel
theorem d_Lw_law_361 : decode code 361 = .ok (.aload_n 0, 1) := by decide +kernel
theorem d_Lw_law_362 : decode code 362 = .ok (.iload_n 3, 1) := by decide +kernel
theorem d_Lw_law_363 : decode code 363 = .ok (.iconst 4, 1) := by decide +kernel
theorem d_Lw_law_364 : decode code 364 = .ok (.iadd, 1) := by decide +kernel
theorem d_Lw_law_365 : decode code 365 = .ok (.iaload, 1) := by decide +kernel
theorem d_Lw_law_366 : decode code 366 = .ok (.aload_n 0, 1) := by decide +kernel
theorem d_Lw_law_367 : decode code 367 = .ok (.iload_n 3, 1) := by decide +kernel
theorem d_Lw_law_368 : decode code 368 = .ok (.iconst 5, 1) := by decide +kernel
theorem d_Lw_law_369 : decode code 369 = .ok (.iadd, 1) := by decide +kernel
theorem d_Lw_law_370 : decode code 370 = .ok (.iaload, 1) := by decide +kernel
theorem d_Lw_law_371 : decode code 371 = .ok (.invokevirtual 27, 3) := by decide +kernel
theorem d_Lw_law_374 : decode code 374 = .ok (.aload_n 2, 1) := by decide +kernel
theorem d_Lw_law_375 : decode code 375 = .ok (.aload_n 0, 1) := by decide +kernel
theorem d_Lw_law_376 : decode code 376 = .ok (.iload_n 3, 1) := by decide +kernel
theorem d_Lw_law_377 : decode code 377 = .ok (.iconst 1, 1) := by decide +kernel
theorem d_Lw_law_378 : decode code 378 = .ok (.iadd, 1) := by decide +kernel
theorem d_Lw_law_379 : decode code 379 = .ok (.iaload, 1) := by decide +kernel
theorem d_Lw_law_380 : decode code 380 = .ok (.aload_n 0, 1) := by decide +kernel
theorem d_Lw_law_381 : decode code 381 = .ok (.iload_n 3, 1) := by decide +kernel
theorem d_Lw_law_382 : decode code 382 = .ok (.iconst 2, 1) := by decide +kernel
theorem d_Lw_law_383 : decode code 383 = .ok (.iadd, 1) := by decide +kernel
theorem d_Lw_law_384 : decode code 384 = .ok (.iaload, 1) := by decide +kernel
theorem d_Lw_law_385 : decode code 385 = .ok (.aload_n 0, 1) := by decide +kernel
theorem d_Lw_law_386 : decode code 386 = .ok (.iload_n 3, 1) := by decide +kernel
theorem d_Lw_law_387 : decode code 387 = .ok (.iconst 3, 1) := by decide +kernel
theorem d_Lw_law_388 : decode code 388 = .ok (.iadd, 1) := by decide +kernel
theorem d_Lw_law_389 : decode code 389 = .ok (.iaload, 1) := by decide +kernel
theorem d_Lw_law_390 : decode code 390 = .ok (.aload_n 0, 1) := by decide +kernel
theorem d_Lw_law_391 : decode code 391 = .ok (.iload_n 3, 1) := by decide +kernel
theorem d_Lw_law_392 : decode code 392 = .ok (.iconst 4, 1) := by decide +kernel
theorem d_Lw_law_393 : decode code 393 = .ok (.iadd, 1) := by decide +kernel
theorem d_Lw_law_394 : decode code 394 = .ok (.iaload, 1) := by decide +kernel
theorem d_Lw_law_395 : decode code 395 = .ok (.aload_n 0, 1) := by decide +kernel
theorem d_Lw_law_396 : decode code 396 = .ok (.iload_n 3, 1) := by decide +kernel
theorem d_Lw_law_397 : decode code 397 = .ok (.iconst 5, 1) := by decide +kernel
theorem d_Lw_law_398 : decode code 398 = .ok (.iadd, 1) := by decide +kernel
theorem d_Lw_law_399 : decode code 399 = .ok (.iaload, 1) := by decide +kernel
theorem d_Lw_law_400 : decode code 400 = .ok (.invokevirtual 30, 3) := by decide +kernel
theorem d_Lw_law_406 : decode code 406 = .ok (.iconst 0, 1) := by decide +kernel
theorem d_Lw_law_407 : decode code 407 = .ok (.ireturn, 1) := by decide +kernel
theorem d_Lw_law_403 : decode code 403 = .ok (.if_icmp .eq 1146, 3) := by decide +kernel
theorem d_Lw_law_408 : decode code 408 = .ok (.aload_n 1, 1) := by decide +kernel
theorem d_Lw_law_409 : decode code 409 = .ok (.aload_n 0, 1) := by decide +kernel
theorem d_Lw_law_410 : decode code 410 = .ok (.iload_n 3, 1) := by decide +kernel
theorem d_Lw_law_411 : decode code 411 = .ok (.iconst 1, 1) := by decide +kernel
theorem d_Lw_law_412 : decode code 412 = .ok (.iadd, 1) := by decide +kernel
theorem d_Lw_law_413 : decode code 413 = .ok (.iaload, 1) := by decide +kernel
theorem d_Lw_law_414 : decode code 414 = .ok (.invokevirtual 31, 3) := by decide +kernel
theorem d_Lw_law_417 : decode code 417 = .ok (.aload_n 2, 1) := by decide +kernel
theorem d_Lw_law_418 : decode code 418 = .ok (.aload_n 0, 1) := by decide +kernel
theorem d_Lw_law_419 : decode code 419 = .ok (.iload_n 3, 1) := by decide +kernel
theorem d_Lw_law_420 : decode code 420 = .ok (.iconst 1, 1) := by decide +kernel
theorem d_Lw_law_421 : decode code 421 = .ok (.iadd, 1) := by decide +kernel
theorem d_Lw_law_422 : decode code 422 = .ok (.iaload, 1) := by decide +kernel
theorem d_Lw_law_423 : decode code 423 = .ok (.invokevirtual 35, 3) := by decide +kernel
theorem d_Lw_law_429 : decode code 429 = .ok (.iconst 0, 1) := by decide +kernel
theorem d_Lw_law_430 : decode code 430 = .ok (.ireturn, 1) := by decide +kernel
theorem d_Lw_law_426 : decode code 426 = .ok (.if_icmp .eq 1123, 3) := by decide +kernel
theorem d_Lw_law_431 : decode code 431 = .ok (.aload_n 1, 1) := by decide +kernel
theorem d_Lw_law_432 : decode code 432 = .ok (.aload_n 0, 1) := by decide +kernel
theorem d_Lw_law_433 : decode code 433 = .ok (.iload_n 3, 1) := by decide +kernel
theorem d_Lw_law_434 : decode code 434 = .ok (.iconst 1, 1) := by decide +kernel
theorem d_Lw_law_435 : decode code 435 = .ok (.iadd, 1) := by decide +kernel
theorem d_Lw_law_436 : decode code 436 = .ok (.iaload, 1) := by decide +kernel
theorem d_Lw_law_437 : decode code 437 = .ok (.aload_n 0, 1) := by decide +kernel
theorem d_Lw_law_438 : decode code 438 = .ok (.iload_n 3, 1) := by decide +kernel
theorem d_Lw_law_439 : decode code 439 = .ok (.iconst 2, 1) := by decide +kernel
theorem d_Lw_law_440 : decode code 440 = .ok (.iadd, 1) := by decide +kernel
theorem d_Lw_law_441 : decode code 441 = .ok (.iaload, 1) := by decide +kernel
theorem d_Lw_law_442 : decode code 442 = .ok (.aload_n 0, 1) := by decide +kernel
theorem d_Lw_law_443 : decode code 443 = .ok (.iload_n 3, 1) := by decide +kernel
theorem d_Lw_law_444 : decode code 444 = .ok (.iconst 3, 1) := by decide +kernel
theorem d_Lw_law_445 : decode code 445 = .ok (.iadd, 1) := by decide +kernel
theorem d_Lw_law_446 : decode code 446 = .ok (.iaload, 1) := by decide +kernel
theorem d_Lw_law_447 : decode code 447 = .ok (.invokevirtual 36, 3) := by decide +kernel
theorem d_Lw_law_450 : decode code 450 = .ok (.aload_n 2, 1) := by decide +kernel
theorem d_Lw_law_451 : decode code 451 = .ok (.aload_n 0, 1) := by decide +kernel
theorem d_Lw_law_452 : decode code 452 = .ok (.iload_n 3, 1) := by decide +kernel
theorem d_Lw_law_453 : decode code 453 = .ok (.iconst 1, 1) := by decide +kernel
theorem d_Lw_law_454 : decode code 454 = .ok (.iadd, 1) := by decide +kernel
theorem d_Lw_law_455 : decode code 455 = .ok (.iaload, 1) := by decide +kernel
theorem d_Lw_law_456 : decode code 456 = .ok (.aload_n 0, 1) := by decide +kernel
theorem d_Lw_law_457 : decode code 457 = .ok (.iload_n 3, 1) := by decide +kernel
theorem d_Lw_law_458 : decode code 458 = .ok (.iconst 2, 1) := by decide +kernel
theorem d_Lw_law_459 : decode code 459 = .ok (.iadd, 1) := by decide +kernel
theorem d_Lw_law_460 : decode code 460 = .ok (.iaload, 1) := by decide +kernel
theorem d_Lw_law_461 : decode code 461 = .ok (.aload_n 0, 1) := by decide +kernel
theorem d_Lw_law_462 : decode code 462 = .ok (.iload_n 3, 1) := by decide +kernel
theorem d_Lw_law_463 : decode code 463 = .ok (.iconst 3, 1) := by decide +kernel
theorem d_Lw_law_464 : decode code 464 = .ok (.iadd, 1) := by decide +kernel
theorem d_Lw_law_465 : decode code 465 = .ok (.iaload, 1) := by decide +kernel
theorem d_Lw_law_466 : decode code 466 = .ok (.invokevirtual 40, 3) := by decide +kernel
theorem d_Lw_law_472 : decode code 472 = .ok (.iconst 0, 1) := by decide +kernel
theorem d_Lw_law_473 : decode code 473 = .ok (.ireturn, 1) := by decide +kernel
theorem d_Lw_law_469 : decode code 469 = .ok (.if_icmp .eq 1080, 3) := by decide +kernel
theorem d_Lw_law_474 : decode code 474 = .ok (.aload_n 1, 1) := by decide +kernel
theorem d_Lw_law_475 : decode code 475 = .ok (.aload_n 0, 1) := by decide +kernel
theorem d_Lw_law_476 : decode code 476 = .ok (.iload_n 3, 1) := by decide +kernel
theorem d_Lw_law_477 : decode code 477 = .ok (.iconst 1, 1) := by decide +kernel
theorem d_Lw_law_478 : decode code 478 = .ok (.iadd, 1) := by decide +kernel
theorem d_Lw_law_479 : decode code 479 = .ok (.iaload, 1) := by decide +kernel
theorem d_Lw_law_480 : decode code 480 = .ok (.invokevirtual 41, 3) := by decide +kernel
theorem d_Lw_law_483 : decode code 483 = .ok (.aload_n 2, 1) := by decide +kernel
theorem d_Lw_law_484 : decode code 484 = .ok (.aload_n 0, 1) := by decide +kernel
theorem d_Lw_law_485 : decode code 485 = .ok (.iload_n 3, 1) := by decide +kernel
theorem d_Lw_law_486 : decode code 486 = .ok (.iconst 1, 1) := by decide +kernel
theorem d_Lw_law_487 : decode code 487 = .ok (.iadd, 1) := by decide +kernel
theorem d_Lw_law_488 : decode code 488 = .ok (.iaload, 1) := by decide +kernel
theorem d_Lw_law_489 : decode code 489 = .ok (.invokevirtual 44, 3) := by decide +kernel
theorem d_Lw_law_495 : decode code 495 = .ok (.iconst 0, 1) := by decide +kernel
theorem d_Lw_law_496 : decode code 496 = .ok (.ireturn, 1) := by decide +kernel
theorem d_Lw_law_492 : decode code 492 = .ok (.if_icmp .eq 1057, 3) := by decide +kernel
theorem d_Lw_law_497 : decode code 497 = .ok (.aload_n 1, 1) := by decide +kernel
theorem d_Lw_law_498 : decode code 498 = .ok (.aload_n 0, 1) := by decide +kernel
theorem d_Lw_law_499 : decode code 499 = .ok (.iload_n 3, 1) := by decide +kernel
theorem d_Lw_law_500 : decode code 500 = .ok (.iconst 1, 1) := by decide +kernel
theorem d_Lw_law_501 : decode code 501 = .ok (.iadd, 1) := by decide +kernel
theorem d_Lw_law_502 : decode code 502 = .ok (.iaload, 1) := by decide +kernel
theorem d_Lw_law_503 : decode code 503 = .ok (.aload_n 0, 1) := by decide +kernel
theorem d_Lw_law_504 : decode code 504 = .ok (.iload_n 3, 1) := by decide +kernel
theorem d_Lw_law_505 : decode code 505 = .ok (.iconst 2, 1) := by decide +kernel
theorem d_Lw_law_506 : decode code 506 = .ok (.iadd, 1) := by decide +kernel
theorem d_Lw_law_507 : decode code 507 = .ok (.iaload, 1) := by decide +kernel
theorem d_Lw_law_508 : decode code 508 = .ok (.invokevirtual 45, 3) := by decide +kernel
theorem d_Lw_law_511 : decode code 511 = .ok (.aload_n 2, 1) := by decide +kernel
theorem d_Lw_law_512 : decode code 512 = .ok (.aload_n 0, 1) := by decide +kernel
theorem d_Lw_law_513 : decode code 513 = .ok (.iload_n 3, 1) := by decide +kernel
theorem d_Lw_law_514 : decode code 514 = .ok (.iconst 1, 1) := by decide +kernel
theorem d_Lw_law_515 : decode code 515 = .ok (.iadd, 1) := by decide +kernel
theorem d_Lw_law_516 : decode code 516 = .ok (.iaload, 1) := by decide +kernel
theorem d_Lw_law_517 : decode code 517 = .ok (.aload_n 0, 1) := by decide +kernel
theorem d_Lw_law_518 : decode code 518 = .ok (.iload_n 3, 1) := by decide +kernel
theorem d_Lw_law_519 : decode code 519 = .ok (.iconst 2, 1) := by decide +kernel
theorem d_Lw_law_520 : decode code 520 = .ok (.iadd, 1) := by decide +kernel
theorem d_Lw_law_521 : decode code 521 = .ok (.iaload, 1) := by decide +kernel
theorem d_Lw_law_522 : decode code 522 = .ok (.invokevirtual 49, 3) := by decide +kernel
theorem d_Lw_law_528 : decode code 528 = .ok (.iconst 0, 1) := by decide +kernel
theorem d_Lw_law_529 : decode code 529 = .ok (.ireturn, 1) := by decide +kernel
theorem d_Lw_law_525 : decode code 525 = .ok (.if_icmp .eq 1024, 3) := by decide +kernel
