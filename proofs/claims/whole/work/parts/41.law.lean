theorem dL_law_0 : decode cL_law 0 = .ok (.new 7, 3) := by decide +kernel
theorem dL_law_3 : decode cL_law 3 = .ok (.dup, 1) := by decide +kernel
theorem dL_law_4 : decode cL_law 4 = .ok (.invokespecial 9, 3) := by decide +kernel
theorem dL_law_7 : decode cL_law 7 = .ok (.astore_n 1, 1) := by decide +kernel
theorem dL_law_8 : decode cL_law 8 = .ok (.new 10, 3) := by decide +kernel
theorem dL_law_11 : decode cL_law 11 = .ok (.dup, 1) := by decide +kernel
theorem dL_law_12 : decode cL_law 12 = .ok (.invokespecial 12, 3) := by decide +kernel
theorem dL_law_15 : decode cL_law 15 = .ok (.astore_n 2, 1) := by decide +kernel
theorem dL_law_16 : decode cL_law 16 = .ok (.iconst 0, 1) := by decide +kernel
theorem dL_law_17 : decode cL_law 17 = .ok (.istore_n 3, 1) := by decide +kernel
theorem dL_law_18 : decode cL_law 18 = .ok (.iload_n 3, 1) := by decide +kernel
theorem dL_law_19 : decode cL_law 19 = .ok (.aload_n 0, 1) := by decide +kernel
theorem dL_law_20 : decode cL_law 20 = .ok (.arraylength, 1) := by decide +kernel
theorem dL_law_21 : decode cL_law 21 = .ok (.bipush 7, 2) := by decide +kernel
theorem dL_law_23 : decode cL_law 23 = .ok (.isub, 1) := by decide +kernel
theorem dL_law_24 : decode cL_law 24 = .ok (.if_icmp .gt 1387, 3) := by decide +kernel
theorem dL_law_27 : decode cL_law 27 = .ok (.aload_n 0, 1) := by decide +kernel
theorem dL_law_28 : decode cL_law 28 = .ok (.iload_n 3, 1) := by decide +kernel
theorem dL_law_29 : decode cL_law 29 = .ok (.iaload, 1) := by decide +kernel
theorem dL_law_30 : decode cL_law 30 = .ok (.bipush 63, 2) := by decide +kernel
theorem dL_law_32 : decode cL_law 32 = .ok (.iand, 1) := by decide +kernel
theorem dL_law_33 : decode cL_law 33 = .ok (.tableswitch 1372 0 36 #[163, 216, 259, 292, 325, 358, 391, 444, 519, 582, 595, 608, 621, 654, 677, 700, 723, 776, 829, 882, 925, 938, 961, 1004, 1053, 1096, 1119, 1132, 1165, 1188, 1211, 1224, 1277, 1300, 1323, 1336, 1349], 163) := by decide +kernel
theorem dL_law_196 : decode cL_law 196 = .ok (.aload_n 1, 1) := by decide +kernel
theorem dL_law_197 : decode cL_law 197 = .ok (.aload_n 0, 1) := by decide +kernel
theorem dL_law_198 : decode cL_law 198 = .ok (.iload_n 3, 1) := by decide +kernel
theorem dL_law_199 : decode cL_law 199 = .ok (.iconst 1, 1) := by decide +kernel
theorem dL_law_200 : decode cL_law 200 = .ok (.iadd, 1) := by decide +kernel
theorem dL_law_201 : decode cL_law 201 = .ok (.iaload, 1) := by decide +kernel
theorem dL_law_202 : decode cL_law 202 = .ok (.aload_n 0, 1) := by decide +kernel
theorem dL_law_203 : decode cL_law 203 = .ok (.iload_n 3, 1) := by decide +kernel
theorem dL_law_204 : decode cL_law 204 = .ok (.iconst 2, 1) := by decide +kernel
theorem dL_law_205 : decode cL_law 205 = .ok (.iadd, 1) := by decide +kernel
theorem dL_law_206 : decode cL_law 206 = .ok (.iaload, 1) := by decide +kernel
theorem dL_law_207 : decode cL_law 207 = .ok (.aload_n 0, 1) := by decide +kernel
theorem dL_law_208 : decode cL_law 208 = .ok (.iload_n 3, 1) := by decide +kernel
theorem dL_law_209 : decode cL_law 209 = .ok (.iconst 3, 1) := by decide +kernel
theorem dL_law_210 : decode cL_law 210 = .ok (.iadd, 1) := by decide +kernel
theorem dL_law_211 : decode cL_law 211 = .ok (.iaload, 1) := by decide +kernel
theorem dL_law_212 : decode cL_law 212 = .ok (.aload_n 0, 1) := by decide +kernel
theorem dL_law_213 : decode cL_law 213 = .ok (.iload_n 3, 1) := by decide +kernel
theorem dL_law_214 : decode cL_law 214 = .ok (.iconst 4, 1) := by decide +kernel
theorem dL_law_215 : decode cL_law 215 = .ok (.iadd, 1) := by decide +kernel
theorem dL_law_216 : decode cL_law 216 = .ok (.iaload, 1) := by decide +kernel
theorem dL_law_217 : decode cL_law 217 = .ok (.invokevirtual 13, 3) := by decide +kernel
theorem dL_law_220 : decode cL_law 220 = .ok (.aload_n 2, 1) := by decide +kernel
theorem dL_law_221 : decode cL_law 221 = .ok (.aload_n 0, 1) := by decide +kernel
theorem dL_law_222 : decode cL_law 222 = .ok (.iload_n 3, 1) := by decide +kernel
theorem dL_law_223 : decode cL_law 223 = .ok (.iconst 1, 1) := by decide +kernel
theorem dL_law_224 : decode cL_law 224 = .ok (.iadd, 1) := by decide +kernel
theorem dL_law_225 : decode cL_law 225 = .ok (.iaload, 1) := by decide +kernel
theorem dL_law_226 : decode cL_law 226 = .ok (.aload_n 0, 1) := by decide +kernel
theorem dL_law_227 : decode cL_law 227 = .ok (.iload_n 3, 1) := by decide +kernel
theorem dL_law_228 : decode cL_law 228 = .ok (.iconst 2, 1) := by decide +kernel
theorem dL_law_229 : decode cL_law 229 = .ok (.iadd, 1) := by decide +kernel
theorem dL_law_230 : decode cL_law 230 = .ok (.iaload, 1) := by decide +kernel
theorem dL_law_231 : decode cL_law 231 = .ok (.aload_n 0, 1) := by decide +kernel
theorem dL_law_232 : decode cL_law 232 = .ok (.iload_n 3, 1) := by decide +kernel
theorem dL_law_233 : decode cL_law 233 = .ok (.iconst 3, 1) := by decide +kernel
theorem dL_law_234 : decode cL_law 234 = .ok (.iadd, 1) := by decide +kernel
theorem dL_law_235 : decode cL_law 235 = .ok (.iaload, 1) := by decide +kernel
theorem dL_law_236 : decode cL_law 236 = .ok (.aload_n 0, 1) := by decide +kernel
theorem dL_law_237 : decode cL_law 237 = .ok (.iload_n 3, 1) := by decide +kernel
theorem dL_law_238 : decode cL_law 238 = .ok (.iconst 4, 1) := by decide +kernel
theorem dL_law_239 : decode cL_law 239 = .ok (.iadd, 1) := by decide +kernel
theorem dL_law_240 : decode cL_law 240 = .ok (.iaload, 1) := by decide +kernel
theorem dL_law_241 : decode cL_law 241 = .ok (.invokevirtual 17, 3) := by decide +kernel
theorem dL_law_244 : decode cL_law 244 = .ok (.if_icmp .eq 1161, 3) := by decide +kernel
theorem dL_law_247 : decode cL_law 247 = .ok (.iconst 0, 1) := by decide +kernel
theorem dL_law_248 : decode cL_law 248 = .ok (.ireturn, 1) := by decide +kernel
theorem dL_law_249 : decode cL_law 249 = .ok (.aload_n 1, 1) := by decide +kernel
theorem dL_law_250 : decode cL_law 250 = .ok (.aload_n 0, 1) := by decide +kernel
theorem dL_law_251 : decode cL_law 251 = .ok (.iload_n 3, 1) := by decide +kernel
theorem dL_law_252 : decode cL_law 252 = .ok (.iconst 1, 1) := by decide +kernel
theorem dL_law_253 : decode cL_law 253 = .ok (.iadd, 1) := by decide +kernel
theorem dL_law_254 : decode cL_law 254 = .ok (.iaload, 1) := by decide +kernel
theorem dL_law_255 : decode cL_law 255 = .ok (.aload_n 0, 1) := by decide +kernel
theorem dL_law_256 : decode cL_law 256 = .ok (.iload_n 3, 1) := by decide +kernel
theorem dL_law_257 : decode cL_law 257 = .ok (.iconst 2, 1) := by decide +kernel
theorem dL_law_258 : decode cL_law 258 = .ok (.iadd, 1) := by decide +kernel
theorem dL_law_259 : decode cL_law 259 = .ok (.iaload, 1) := by decide +kernel
theorem dL_law_260 : decode cL_law 260 = .ok (.aload_n 0, 1) := by decide +kernel
theorem dL_law_261 : decode cL_law 261 = .ok (.iload_n 3, 1) := by decide +kernel
theorem dL_law_262 : decode cL_law 262 = .ok (.iconst 3, 1) := by decide +kernel
theorem dL_law_263 : decode cL_law 263 = .ok (.iadd, 1) := by decide +kernel
theorem dL_law_264 : decode cL_law 264 = .ok (.iaload, 1) := by decide +kernel
theorem dL_law_265 : decode cL_law 265 = .ok (.invokevirtual 18, 3) := by decide +kernel
theorem dL_law_268 : decode cL_law 268 = .ok (.aload_n 2, 1) := by decide +kernel
theorem dL_law_269 : decode cL_law 269 = .ok (.aload_n 0, 1) := by decide +kernel
theorem dL_law_270 : decode cL_law 270 = .ok (.iload_n 3, 1) := by decide +kernel
theorem dL_law_271 : decode cL_law 271 = .ok (.iconst 1, 1) := by decide +kernel
theorem dL_law_272 : decode cL_law 272 = .ok (.iadd, 1) := by decide +kernel
theorem dL_law_273 : decode cL_law 273 = .ok (.iaload, 1) := by decide +kernel
theorem dL_law_274 : decode cL_law 274 = .ok (.aload_n 0, 1) := by decide +kernel
theorem dL_law_275 : decode cL_law 275 = .ok (.iload_n 3, 1) := by decide +kernel
theorem dL_law_276 : decode cL_law 276 = .ok (.iconst 2, 1) := by decide +kernel
theorem dL_law_277 : decode cL_law 277 = .ok (.iadd, 1) := by decide +kernel
theorem dL_law_278 : decode cL_law 278 = .ok (.iaload, 1) := by decide +kernel
theorem dL_law_279 : decode cL_law 279 = .ok (.aload_n 0, 1) := by decide +kernel
theorem dL_law_280 : decode cL_law 280 = .ok (.iload_n 3, 1) := by decide +kernel
theorem dL_law_281 : decode cL_law 281 = .ok (.iconst 3, 1) := by decide +kernel
theorem dL_law_282 : decode cL_law 282 = .ok (.iadd, 1) := by decide +kernel
theorem dL_law_283 : decode cL_law 283 = .ok (.iaload, 1) := by decide +kernel
theorem dL_law_284 : decode cL_law 284 = .ok (.invokevirtual 22, 3) := by decide +kernel
theorem dL_law_287 : decode cL_law 287 = .ok (.if_icmp .eq 1118, 3) := by decide +kernel
theorem dL_law_290 : decode cL_law 290 = .ok (.iconst 0, 1) := by decide +kernel
theorem dL_law_291 : decode cL_law 291 = .ok (.ireturn, 1) := by decide +kernel
theorem dL_law_292 : decode cL_law 292 = .ok (.aload_n 1, 1) := by decide +kernel
theorem dL_law_293 : decode cL_law 293 = .ok (.aload_n 0, 1) := by decide +kernel
theorem dL_law_294 : decode cL_law 294 = .ok (.iload_n 3, 1) := by decide +kernel
theorem dL_law_295 : decode cL_law 295 = .ok (.iconst 1, 1) := by decide +kernel
theorem dL_law_296 : decode cL_law 296 = .ok (.iadd, 1) := by decide +kernel
theorem dL_law_297 : decode cL_law 297 = .ok (.iaload, 1) := by decide +kernel
theorem dL_law_298 : decode cL_law 298 = .ok (.aload_n 0, 1) := by decide +kernel
theorem dL_law_299 : decode cL_law 299 = .ok (.iload_n 3, 1) := by decide +kernel
theorem dL_law_300 : decode cL_law 300 = .ok (.iconst 2, 1) := by decide +kernel
theorem dL_law_301 : decode cL_law 301 = .ok (.iadd, 1) := by decide +kernel
theorem dL_law_302 : decode cL_law 302 = .ok (.iaload, 1) := by decide +kernel
theorem dL_law_303 : decode cL_law 303 = .ok (.invokevirtual 23, 3) := by decide +kernel
theorem dL_law_306 : decode cL_law 306 = .ok (.aload_n 2, 1) := by decide +kernel
theorem dL_law_307 : decode cL_law 307 = .ok (.aload_n 0, 1) := by decide +kernel
theorem dL_law_308 : decode cL_law 308 = .ok (.iload_n 3, 1) := by decide +kernel
theorem dL_law_309 : decode cL_law 309 = .ok (.iconst 1, 1) := by decide +kernel
theorem dL_law_310 : decode cL_law 310 = .ok (.iadd, 1) := by decide +kernel
theorem dL_law_311 : decode cL_law 311 = .ok (.iaload, 1) := by decide +kernel
theorem dL_law_312 : decode cL_law 312 = .ok (.aload_n 0, 1) := by decide +kernel
theorem dL_law_313 : decode cL_law 313 = .ok (.iload_n 3, 1) := by decide +kernel
theorem dL_law_314 : decode cL_law 314 = .ok (.iconst 2, 1) := by decide +kernel
theorem dL_law_315 : decode cL_law 315 = .ok (.iadd, 1) := by decide +kernel
theorem dL_law_316 : decode cL_law 316 = .ok (.iaload, 1) := by decide +kernel
theorem dL_law_317 : decode cL_law 317 = .ok (.invokevirtual 27, 3) := by decide +kernel
theorem dL_law_320 : decode cL_law 320 = .ok (.if_icmp .eq 1085, 3) := by decide +kernel
theorem dL_law_323 : decode cL_law 323 = .ok (.iconst 0, 1) := by decide +kernel
theorem dL_law_324 : decode cL_law 324 = .ok (.ireturn, 1) := by decide +kernel
theorem dL_law_325 : decode cL_law 325 = .ok (.aload_n 1, 1) := by decide +kernel
theorem dL_law_326 : decode cL_law 326 = .ok (.aload_n 0, 1) := by decide +kernel
theorem dL_law_327 : decode cL_law 327 = .ok (.iload_n 3, 1) := by decide +kernel
theorem dL_law_328 : decode cL_law 328 = .ok (.iconst 1, 1) := by decide +kernel
theorem dL_law_329 : decode cL_law 329 = .ok (.iadd, 1) := by decide +kernel
theorem dL_law_330 : decode cL_law 330 = .ok (.iaload, 1) := by decide +kernel
theorem dL_law_331 : decode cL_law 331 = .ok (.aload_n 0, 1) := by decide +kernel
theorem dL_law_332 : decode cL_law 332 = .ok (.iload_n 3, 1) := by decide +kernel
theorem dL_law_333 : decode cL_law 333 = .ok (.iconst 2, 1) := by decide +kernel
theorem dL_law_334 : decode cL_law 334 = .ok (.iadd, 1) := by decide +kernel
theorem dL_law_335 : decode cL_law 335 = .ok (.iaload, 1) := by decide +kernel
theorem dL_law_336 : decode cL_law 336 = .ok (.invokevirtual 28, 3) := by decide +kernel
theorem dL_law_339 : decode cL_law 339 = .ok (.aload_n 2, 1) := by decide +kernel
theorem dL_law_340 : decode cL_law 340 = .ok (.aload_n 0, 1) := by decide +kernel
theorem dL_law_341 : decode cL_law 341 = .ok (.iload_n 3, 1) := by decide +kernel
theorem dL_law_342 : decode cL_law 342 = .ok (.iconst 1, 1) := by decide +kernel
theorem dL_law_343 : decode cL_law 343 = .ok (.iadd, 1) := by decide +kernel
theorem dL_law_344 : decode cL_law 344 = .ok (.iaload, 1) := by decide +kernel
theorem dL_law_345 : decode cL_law 345 = .ok (.aload_n 0, 1) := by decide +kernel
theorem dL_law_346 : decode cL_law 346 = .ok (.iload_n 3, 1) := by decide +kernel
theorem dL_law_347 : decode cL_law 347 = .ok (.iconst 2, 1) := by decide +kernel
theorem dL_law_348 : decode cL_law 348 = .ok (.iadd, 1) := by decide +kernel
theorem dL_law_349 : decode cL_law 349 = .ok (.iaload, 1) := by decide +kernel
theorem dL_law_350 : decode cL_law 350 = .ok (.invokevirtual 31, 3) := by decide +kernel
theorem dL_law_353 : decode cL_law 353 = .ok (.if_icmp .eq 1052, 3) := by decide +kernel
theorem dL_law_356 : decode cL_law 356 = .ok (.iconst 0, 1) := by decide +kernel
theorem dL_law_357 : decode cL_law 357 = .ok (.ireturn, 1) := by decide +kernel
theorem dL_law_358 : decode cL_law 358 = .ok (.aload_n 1, 1) := by decide +kernel
theorem dL_law_359 : decode cL_law 359 = .ok (.aload_n 0, 1) := by decide +kernel
theorem dL_law_360 : decode cL_law 360 = .ok (.iload_n 3, 1) := by decide +kernel
theorem dL_law_361 : decode cL_law 361 = .ok (.iconst 1, 1) := by decide +kernel
theorem dL_law_362 : decode cL_law 362 = .ok (.iadd, 1) := by decide +kernel
theorem dL_law_363 : decode cL_law 363 = .ok (.iaload, 1) := by decide +kernel
theorem dL_law_364 : decode cL_law 364 = .ok (.aload_n 0, 1) := by decide +kernel
theorem dL_law_365 : decode cL_law 365 = .ok (.iload_n 3, 1) := by decide +kernel
theorem dL_law_366 : decode cL_law 366 = .ok (.iconst 2, 1) := by decide +kernel
theorem dL_law_367 : decode cL_law 367 = .ok (.iadd, 1) := by decide +kernel
theorem dL_law_368 : decode cL_law 368 = .ok (.iaload, 1) := by decide +kernel
theorem dL_law_369 : decode cL_law 369 = .ok (.invokevirtual 32, 3) := by decide +kernel
theorem dL_law_372 : decode cL_law 372 = .ok (.aload_n 2, 1) := by decide +kernel
theorem dL_law_373 : decode cL_law 373 = .ok (.aload_n 0, 1) := by decide +kernel
theorem dL_law_374 : decode cL_law 374 = .ok (.iload_n 3, 1) := by decide +kernel
theorem dL_law_375 : decode cL_law 375 = .ok (.iconst 1, 1) := by decide +kernel
theorem dL_law_376 : decode cL_law 376 = .ok (.iadd, 1) := by decide +kernel
theorem dL_law_377 : decode cL_law 377 = .ok (.iaload, 1) := by decide +kernel
theorem dL_law_378 : decode cL_law 378 = .ok (.aload_n 0, 1) := by decide +kernel
theorem dL_law_379 : decode cL_law 379 = .ok (.iload_n 3, 1) := by decide +kernel
theorem dL_law_380 : decode cL_law 380 = .ok (.iconst 2, 1) := by decide +kernel
theorem dL_law_381 : decode cL_law 381 = .ok (.iadd, 1) := by decide +kernel
theorem dL_law_382 : decode cL_law 382 = .ok (.iaload, 1) := by decide +kernel
theorem dL_law_383 : decode cL_law 383 = .ok (.invokevirtual 35, 3) := by decide +kernel
theorem dL_law_386 : decode cL_law 386 = .ok (.if_icmp .eq 1019, 3) := by decide +kernel
theorem dL_law_389 : decode cL_law 389 = .ok (.iconst 0, 1) := by decide +kernel
theorem dL_law_390 : decode cL_law 390 = .ok (.ireturn, 1) := by decide +kernel
theorem dL_law_391 : decode cL_law 391 = .ok (.aload_n 1, 1) := by decide +kernel
theorem dL_law_392 : decode cL_law 392 = .ok (.aload_n 0, 1) := by decide +kernel
theorem dL_law_393 : decode cL_law 393 = .ok (.iload_n 3, 1) := by decide +kernel
theorem dL_law_394 : decode cL_law 394 = .ok (.iconst 1, 1) := by decide +kernel
theorem dL_law_395 : decode cL_law 395 = .ok (.iadd, 1) := by decide +kernel
theorem dL_law_396 : decode cL_law 396 = .ok (.iaload, 1) := by decide +kernel
theorem dL_law_397 : decode cL_law 397 = .ok (.aload_n 0, 1) := by decide +kernel
theorem dL_law_398 : decode cL_law 398 = .ok (.iload_n 3, 1) := by decide +kernel
theorem dL_law_399 : decode cL_law 399 = .ok (.iconst 2, 1) := by decide +kernel
theorem dL_law_400 : decode cL_law 400 = .ok (.iadd, 1) := by decide +kernel
theorem dL_law_401 : decode cL_law 401 = .ok (.iaload, 1) := by decide +kernel
theorem dL_law_402 : decode cL_law 402 = .ok (.invokevirtual 36, 3) := by decide +kernel
theorem dL_law_405 : decode cL_law 405 = .ok (.aload_n 2, 1) := by decide +kernel
theorem dL_law_406 : decode cL_law 406 = .ok (.aload_n 0, 1) := by decide +kernel
theorem dL_law_407 : decode cL_law 407 = .ok (.iload_n 3, 1) := by decide +kernel
theorem dL_law_408 : decode cL_law 408 = .ok (.iconst 1, 1) := by decide +kernel
theorem dL_law_409 : decode cL_law 409 = .ok (.iadd, 1) := by decide +kernel
theorem dL_law_410 : decode cL_law 410 = .ok (.iaload, 1) := by decide +kernel
theorem dL_law_411 : decode cL_law 411 = .ok (.aload_n 0, 1) := by decide +kernel
theorem dL_law_412 : decode cL_law 412 = .ok (.iload_n 3, 1) := by decide +kernel
theorem dL_law_413 : decode cL_law 413 = .ok (.iconst 2, 1) := by decide +kernel
theorem dL_law_414 : decode cL_law 414 = .ok (.iadd, 1) := by decide +kernel
theorem dL_law_415 : decode cL_law 415 = .ok (.iaload, 1) := by decide +kernel
theorem dL_law_416 : decode cL_law 416 = .ok (.invokevirtual 39, 3) := by decide +kernel
theorem dL_law_419 : decode cL_law 419 = .ok (.if_icmp .eq 986, 3) := by decide +kernel
theorem dL_law_422 : decode cL_law 422 = .ok (.iconst 0, 1) := by decide +kernel
theorem dL_law_423 : decode cL_law 423 = .ok (.ireturn, 1) := by decide +kernel
theorem dL_law_424 : decode cL_law 424 = .ok (.aload_n 1, 1) := by decide +kernel
theorem dL_law_425 : decode cL_law 425 = .ok (.aload_n 0, 1) := by decide +kernel
theorem dL_law_426 : decode cL_law 426 = .ok (.iload_n 3, 1) := by decide +kernel
theorem dL_law_427 : decode cL_law 427 = .ok (.iconst 1, 1) := by decide +kernel
theorem dL_law_428 : decode cL_law 428 = .ok (.iadd, 1) := by decide +kernel
theorem dL_law_429 : decode cL_law 429 = .ok (.iaload, 1) := by decide +kernel
theorem dL_law_430 : decode cL_law 430 = .ok (.aload_n 0, 1) := by decide +kernel
theorem dL_law_431 : decode cL_law 431 = .ok (.iload_n 3, 1) := by decide +kernel
theorem dL_law_432 : decode cL_law 432 = .ok (.iconst 2, 1) := by decide +kernel
theorem dL_law_433 : decode cL_law 433 = .ok (.iadd, 1) := by decide +kernel
theorem dL_law_434 : decode cL_law 434 = .ok (.iaload, 1) := by decide +kernel
theorem dL_law_435 : decode cL_law 435 = .ok (.aload_n 0, 1) := by decide +kernel
theorem dL_law_436 : decode cL_law 436 = .ok (.iload_n 3, 1) := by decide +kernel
theorem dL_law_437 : decode cL_law 437 = .ok (.iconst 3, 1) := by decide +kernel
theorem dL_law_438 : decode cL_law 438 = .ok (.iadd, 1) := by decide +kernel
theorem dL_law_439 : decode cL_law 439 = .ok (.iaload, 1) := by decide +kernel
theorem dL_law_440 : decode cL_law 440 = .ok (.aload_n 0, 1) := by decide +kernel
theorem dL_law_441 : decode cL_law 441 = .ok (.iload_n 3, 1) := by decide +kernel
theorem dL_law_442 : decode cL_law 442 = .ok (.iconst 4, 1) := by decide +kernel
theorem dL_law_443 : decode cL_law 443 = .ok (.iadd, 1) := by decide +kernel
theorem dL_law_444 : decode cL_law 444 = .ok (.iaload, 1) := by decide +kernel
theorem dL_law_445 : decode cL_law 445 = .ok (.invokevirtual 40, 3) := by decide +kernel
theorem dL_law_448 : decode cL_law 448 = .ok (.aload_n 2, 1) := by decide +kernel
theorem dL_law_449 : decode cL_law 449 = .ok (.aload_n 0, 1) := by decide +kernel
theorem dL_law_450 : decode cL_law 450 = .ok (.iload_n 3, 1) := by decide +kernel
theorem dL_law_451 : decode cL_law 451 = .ok (.iconst 1, 1) := by decide +kernel
theorem dL_law_452 : decode cL_law 452 = .ok (.iadd, 1) := by decide +kernel
theorem dL_law_453 : decode cL_law 453 = .ok (.iaload, 1) := by decide +kernel
theorem dL_law_454 : decode cL_law 454 = .ok (.aload_n 0, 1) := by decide +kernel
theorem dL_law_455 : decode cL_law 455 = .ok (.iload_n 3, 1) := by decide +kernel
theorem dL_law_456 : decode cL_law 456 = .ok (.iconst 2, 1) := by decide +kernel
theorem dL_law_457 : decode cL_law 457 = .ok (.iadd, 1) := by decide +kernel
theorem dL_law_458 : decode cL_law 458 = .ok (.iaload, 1) := by decide +kernel
theorem dL_law_459 : decode cL_law 459 = .ok (.aload_n 0, 1) := by decide +kernel
theorem dL_law_460 : decode cL_law 460 = .ok (.iload_n 3, 1) := by decide +kernel
theorem dL_law_461 : decode cL_law 461 = .ok (.iconst 3, 1) := by decide +kernel
theorem dL_law_462 : decode cL_law 462 = .ok (.iadd, 1) := by decide +kernel
theorem dL_law_463 : decode cL_law 463 = .ok (.iaload, 1) := by decide +kernel
theorem dL_law_464 : decode cL_law 464 = .ok (.aload_n 0, 1) := by decide +kernel
theorem dL_law_465 : decode cL_law 465 = .ok (.iload_n 3, 1) := by decide +kernel
theorem dL_law_466 : decode cL_law 466 = .ok (.iconst 4, 1) := by decide +kernel
theorem dL_law_467 : decode cL_law 467 = .ok (.iadd, 1) := by decide +kernel
theorem dL_law_468 : decode cL_law 468 = .ok (.iaload, 1) := by decide +kernel
theorem dL_law_469 : decode cL_law 469 = .ok (.invokevirtual 43, 3) := by decide +kernel
theorem dL_law_472 : decode cL_law 472 = .ok (.if_icmp .eq 933, 3) := by decide +kernel
theorem dL_law_475 : decode cL_law 475 = .ok (.iconst 0, 1) := by decide +kernel
theorem dL_law_476 : decode cL_law 476 = .ok (.ireturn, 1) := by decide +kernel
theorem dL_law_477 : decode cL_law 477 = .ok (.aload_n 1, 1) := by decide +kernel
theorem dL_law_478 : decode cL_law 478 = .ok (.aload_n 0, 1) := by decide +kernel
theorem dL_law_479 : decode cL_law 479 = .ok (.iload_n 3, 1) := by decide +kernel
theorem dL_law_480 : decode cL_law 480 = .ok (.iconst 1, 1) := by decide +kernel
theorem dL_law_481 : decode cL_law 481 = .ok (.iadd, 1) := by decide +kernel
theorem dL_law_482 : decode cL_law 482 = .ok (.iaload, 1) := by decide +kernel
theorem dL_law_483 : decode cL_law 483 = .ok (.aload_n 0, 1) := by decide +kernel
theorem dL_law_484 : decode cL_law 484 = .ok (.iload_n 3, 1) := by decide +kernel
theorem dL_law_485 : decode cL_law 485 = .ok (.iconst 2, 1) := by decide +kernel
theorem dL_law_486 : decode cL_law 486 = .ok (.iadd, 1) := by decide +kernel
theorem dL_law_487 : decode cL_law 487 = .ok (.iaload, 1) := by decide +kernel
theorem dL_law_488 : decode cL_law 488 = .ok (.aload_n 0, 1) := by decide +kernel
theorem dL_law_489 : decode cL_law 489 = .ok (.iload_n 3, 1) := by decide +kernel
theorem dL_law_490 : decode cL_law 490 = .ok (.iconst 3, 1) := by decide +kernel
theorem dL_law_491 : decode cL_law 491 = .ok (.iadd, 1) := by decide +kernel
theorem dL_law_492 : decode cL_law 492 = .ok (.iaload, 1) := by decide +kernel
theorem dL_law_493 : decode cL_law 493 = .ok (.aload_n 0, 1) := by decide +kernel
theorem dL_law_494 : decode cL_law 494 = .ok (.iload_n 3, 1) := by decide +kernel
theorem dL_law_495 : decode cL_law 495 = .ok (.iconst 4, 1) := by decide +kernel
theorem dL_law_496 : decode cL_law 496 = .ok (.iadd, 1) := by decide +kernel
theorem dL_law_497 : decode cL_law 497 = .ok (.iaload, 1) := by decide +kernel
theorem dL_law_498 : decode cL_law 498 = .ok (.aload_n 0, 1) := by decide +kernel
theorem dL_law_499 : decode cL_law 499 = .ok (.iload_n 3, 1) := by decide +kernel
theorem dL_law_500 : decode cL_law 500 = .ok (.iconst 5, 1) := by decide +kernel
theorem dL_law_501 : decode cL_law 501 = .ok (.iadd, 1) := by decide +kernel
theorem dL_law_502 : decode cL_law 502 = .ok (.iaload, 1) := by decide +kernel
theorem dL_law_503 : decode cL_law 503 = .ok (.aload_n 0, 1) := by decide +kernel
theorem dL_law_504 : decode cL_law 504 = .ok (.iload_n 3, 1) := by decide +kernel
theorem dL_law_505 : decode cL_law 505 = .ok (.bipush 6, 2) := by decide +kernel
theorem dL_law_507 : decode cL_law 507 = .ok (.iadd, 1) := by decide +kernel
theorem dL_law_508 : decode cL_law 508 = .ok (.iaload, 1) := by decide +kernel
theorem dL_law_509 : decode cL_law 509 = .ok (.invokevirtual 44, 3) := by decide +kernel
theorem dL_law_512 : decode cL_law 512 = .ok (.aload_n 2, 1) := by decide +kernel
theorem dL_law_513 : decode cL_law 513 = .ok (.aload_n 0, 1) := by decide +kernel
theorem dL_law_514 : decode cL_law 514 = .ok (.iload_n 3, 1) := by decide +kernel
theorem dL_law_515 : decode cL_law 515 = .ok (.iconst 1, 1) := by decide +kernel
theorem dL_law_516 : decode cL_law 516 = .ok (.iadd, 1) := by decide +kernel
theorem dL_law_517 : decode cL_law 517 = .ok (.iaload, 1) := by decide +kernel
theorem dL_law_518 : decode cL_law 518 = .ok (.aload_n 0, 1) := by decide +kernel
theorem dL_law_519 : decode cL_law 519 = .ok (.iload_n 3, 1) := by decide +kernel
theorem dL_law_520 : decode cL_law 520 = .ok (.iconst 2, 1) := by decide +kernel
theorem dL_law_521 : decode cL_law 521 = .ok (.iadd, 1) := by decide +kernel
theorem dL_law_522 : decode cL_law 522 = .ok (.iaload, 1) := by decide +kernel
theorem dL_law_523 : decode cL_law 523 = .ok (.aload_n 0, 1) := by decide +kernel
theorem dL_law_524 : decode cL_law 524 = .ok (.iload_n 3, 1) := by decide +kernel
theorem dL_law_525 : decode cL_law 525 = .ok (.iconst 3, 1) := by decide +kernel
theorem dL_law_526 : decode cL_law 526 = .ok (.iadd, 1) := by decide +kernel
theorem dL_law_527 : decode cL_law 527 = .ok (.iaload, 1) := by decide +kernel
theorem dL_law_528 : decode cL_law 528 = .ok (.aload_n 0, 1) := by decide +kernel
theorem dL_law_529 : decode cL_law 529 = .ok (.iload_n 3, 1) := by decide +kernel
theorem dL_law_530 : decode cL_law 530 = .ok (.iconst 4, 1) := by decide +kernel
theorem dL_law_531 : decode cL_law 531 = .ok (.iadd, 1) := by decide +kernel
theorem dL_law_532 : decode cL_law 532 = .ok (.iaload, 1) := by decide +kernel
theorem dL_law_533 : decode cL_law 533 = .ok (.aload_n 0, 1) := by decide +kernel
theorem dL_law_534 : decode cL_law 534 = .ok (.iload_n 3, 1) := by decide +kernel
theorem dL_law_535 : decode cL_law 535 = .ok (.iconst 5, 1) := by decide +kernel
theorem dL_law_536 : decode cL_law 536 = .ok (.iadd, 1) := by decide +kernel
theorem dL_law_537 : decode cL_law 537 = .ok (.iaload, 1) := by decide +kernel
theorem dL_law_538 : decode cL_law 538 = .ok (.aload_n 0, 1) := by decide +kernel
theorem dL_law_539 : decode cL_law 539 = .ok (.iload_n 3, 1) := by decide +kernel
theorem dL_law_540 : decode cL_law 540 = .ok (.bipush 6, 2) := by decide +kernel
theorem dL_law_542 : decode cL_law 542 = .ok (.iadd, 1) := by decide +kernel
theorem dL_law_543 : decode cL_law 543 = .ok (.iaload, 1) := by decide +kernel
theorem dL_law_544 : decode cL_law 544 = .ok (.invokevirtual 48, 3) := by decide +kernel
theorem dL_law_547 : decode cL_law 547 = .ok (.if_icmp .eq 858, 3) := by decide +kernel
theorem dL_law_550 : decode cL_law 550 = .ok (.iconst 0, 1) := by decide +kernel
theorem dL_law_551 : decode cL_law 551 = .ok (.ireturn, 1) := by decide +kernel
theorem dL_law_552 : decode cL_law 552 = .ok (.aload_n 1, 1) := by decide +kernel
theorem dL_law_553 : decode cL_law 553 = .ok (.aload_n 0, 1) := by decide +kernel
theorem dL_law_554 : decode cL_law 554 = .ok (.iload_n 3, 1) := by decide +kernel
theorem dL_law_555 : decode cL_law 555 = .ok (.iconst 1, 1) := by decide +kernel
theorem dL_law_556 : decode cL_law 556 = .ok (.iadd, 1) := by decide +kernel
theorem dL_law_557 : decode cL_law 557 = .ok (.iaload, 1) := by decide +kernel
theorem dL_law_558 : decode cL_law 558 = .ok (.aload_n 0, 1) := by decide +kernel
theorem dL_law_559 : decode cL_law 559 = .ok (.iload_n 3, 1) := by decide +kernel
theorem dL_law_560 : decode cL_law 560 = .ok (.iconst 2, 1) := by decide +kernel
theorem dL_law_561 : decode cL_law 561 = .ok (.iadd, 1) := by decide +kernel
theorem dL_law_562 : decode cL_law 562 = .ok (.iaload, 1) := by decide +kernel
theorem dL_law_563 : decode cL_law 563 = .ok (.i2l, 1) := by decide +kernel
theorem dL_law_564 : decode cL_law 564 = .ok (.bipush 32, 2) := by decide +kernel
theorem dL_law_566 : decode cL_law 566 = .ok (.lshl, 1) := by decide +kernel
theorem dL_law_567 : decode cL_law 567 = .ok (.aload_n 0, 1) := by decide +kernel
theorem dL_law_568 : decode cL_law 568 = .ok (.iload_n 3, 1) := by decide +kernel
theorem dL_law_569 : decode cL_law 569 = .ok (.iconst 3, 1) := by decide +kernel
theorem dL_law_570 : decode cL_law 570 = .ok (.iadd, 1) := by decide +kernel
theorem dL_law_571 : decode cL_law 571 = .ok (.iaload, 1) := by decide +kernel
theorem dL_law_572 : decode cL_law 572 = .ok (.i2l, 1) := by decide +kernel
theorem dL_law_573 : decode cL_law 573 = .ok (.ldc2_w 49, 3) := by decide +kernel
theorem dL_law_576 : decode cL_law 576 = .ok (.land, 1) := by decide +kernel
theorem dL_law_577 : decode cL_law 577 = .ok (.lor, 1) := by decide +kernel
theorem dL_law_578 : decode cL_law 578 = .ok (.invokevirtual 51, 3) := by decide +kernel
theorem dL_law_581 : decode cL_law 581 = .ok (.aload_n 2, 1) := by decide +kernel
theorem dL_law_582 : decode cL_law 582 = .ok (.aload_n 0, 1) := by decide +kernel
theorem dL_law_583 : decode cL_law 583 = .ok (.iload_n 3, 1) := by decide +kernel
theorem dL_law_584 : decode cL_law 584 = .ok (.iconst 1, 1) := by decide +kernel
theorem dL_law_585 : decode cL_law 585 = .ok (.iadd, 1) := by decide +kernel
theorem dL_law_586 : decode cL_law 586 = .ok (.iaload, 1) := by decide +kernel
theorem dL_law_587 : decode cL_law 587 = .ok (.aload_n 0, 1) := by decide +kernel
theorem dL_law_588 : decode cL_law 588 = .ok (.iload_n 3, 1) := by decide +kernel
theorem dL_law_589 : decode cL_law 589 = .ok (.iconst 2, 1) := by decide +kernel
theorem dL_law_590 : decode cL_law 590 = .ok (.iadd, 1) := by decide +kernel
theorem dL_law_591 : decode cL_law 591 = .ok (.iaload, 1) := by decide +kernel
theorem dL_law_592 : decode cL_law 592 = .ok (.i2l, 1) := by decide +kernel
theorem dL_law_593 : decode cL_law 593 = .ok (.bipush 32, 2) := by decide +kernel
theorem dL_law_595 : decode cL_law 595 = .ok (.lshl, 1) := by decide +kernel
theorem dL_law_596 : decode cL_law 596 = .ok (.aload_n 0, 1) := by decide +kernel
theorem dL_law_597 : decode cL_law 597 = .ok (.iload_n 3, 1) := by decide +kernel
theorem dL_law_598 : decode cL_law 598 = .ok (.iconst 3, 1) := by decide +kernel
theorem dL_law_599 : decode cL_law 599 = .ok (.iadd, 1) := by decide +kernel
theorem dL_law_600 : decode cL_law 600 = .ok (.iaload, 1) := by decide +kernel
theorem dL_law_601 : decode cL_law 601 = .ok (.i2l, 1) := by decide +kernel
theorem dL_law_602 : decode cL_law 602 = .ok (.ldc2_w 49, 3) := by decide +kernel
theorem dL_law_605 : decode cL_law 605 = .ok (.land, 1) := by decide +kernel
theorem dL_law_606 : decode cL_law 606 = .ok (.lor, 1) := by decide +kernel
theorem dL_law_607 : decode cL_law 607 = .ok (.invokevirtual 55, 3) := by decide +kernel
theorem dL_law_610 : decode cL_law 610 = .ok (.if_icmp .eq 795, 3) := by decide +kernel
theorem dL_law_613 : decode cL_law 613 = .ok (.iconst 0, 1) := by decide +kernel
theorem dL_law_614 : decode cL_law 614 = .ok (.ireturn, 1) := by decide +kernel
theorem dL_law_615 : decode cL_law 615 = .ok (.aload_n 1, 1) := by decide +kernel
theorem dL_law_616 : decode cL_law 616 = .ok (.invokevirtual 56, 3) := by decide +kernel
theorem dL_law_619 : decode cL_law 619 = .ok (.aload_n 2, 1) := by decide +kernel
theorem dL_law_620 : decode cL_law 620 = .ok (.invokevirtual 60, 3) := by decide +kernel
theorem dL_law_623 : decode cL_law 623 = .ok (.if_icmp .eq 782, 3) := by decide +kernel
theorem dL_law_626 : decode cL_law 626 = .ok (.iconst 0, 1) := by decide +kernel
theorem dL_law_627 : decode cL_law 627 = .ok (.ireturn, 1) := by decide +kernel
theorem dL_law_628 : decode cL_law 628 = .ok (.aload_n 1, 1) := by decide +kernel
theorem dL_law_629 : decode cL_law 629 = .ok (.invokevirtual 61, 3) := by decide +kernel
theorem dL_law_632 : decode cL_law 632 = .ok (.aload_n 2, 1) := by decide +kernel
theorem dL_law_633 : decode cL_law 633 = .ok (.invokevirtual 64, 3) := by decide +kernel
theorem dL_law_636 : decode cL_law 636 = .ok (.if_icmp .eq 769, 3) := by decide +kernel
theorem dL_law_639 : decode cL_law 639 = .ok (.iconst 0, 1) := by decide +kernel
theorem dL_law_640 : decode cL_law 640 = .ok (.ireturn, 1) := by decide +kernel
theorem dL_law_641 : decode cL_law 641 = .ok (.aload_n 1, 1) := by decide +kernel
theorem dL_law_642 : decode cL_law 642 = .ok (.invokevirtual 65, 3) := by decide +kernel
theorem dL_law_645 : decode cL_law 645 = .ok (.aload_n 2, 1) := by decide +kernel
theorem dL_law_646 : decode cL_law 646 = .ok (.invokevirtual 68, 3) := by decide +kernel
theorem dL_law_649 : decode cL_law 649 = .ok (.if_icmp .eq 756, 3) := by decide +kernel
theorem dL_law_652 : decode cL_law 652 = .ok (.iconst 0, 1) := by decide +kernel
theorem dL_law_653 : decode cL_law 653 = .ok (.ireturn, 1) := by decide +kernel
theorem dL_law_654 : decode cL_law 654 = .ok (.aload_n 1, 1) := by decide +kernel
theorem dL_law_655 : decode cL_law 655 = .ok (.aload_n 0, 1) := by decide +kernel
theorem dL_law_656 : decode cL_law 656 = .ok (.iload_n 3, 1) := by decide +kernel
theorem dL_law_657 : decode cL_law 657 = .ok (.iconst 1, 1) := by decide +kernel
theorem dL_law_658 : decode cL_law 658 = .ok (.iadd, 1) := by decide +kernel
theorem dL_law_659 : decode cL_law 659 = .ok (.iaload, 1) := by decide +kernel
theorem dL_law_660 : decode cL_law 660 = .ok (.aload_n 0, 1) := by decide +kernel
theorem dL_law_661 : decode cL_law 661 = .ok (.iload_n 3, 1) := by decide +kernel
theorem dL_law_662 : decode cL_law 662 = .ok (.iconst 2, 1) := by decide +kernel
theorem dL_law_663 : decode cL_law 663 = .ok (.iadd, 1) := by decide +kernel
theorem dL_law_664 : decode cL_law 664 = .ok (.iaload, 1) := by decide +kernel
theorem dL_law_665 : decode cL_law 665 = .ok (.invokevirtual 69, 3) := by decide +kernel
theorem dL_law_668 : decode cL_law 668 = .ok (.aload_n 2, 1) := by decide +kernel
theorem dL_law_669 : decode cL_law 669 = .ok (.aload_n 0, 1) := by decide +kernel
theorem dL_law_670 : decode cL_law 670 = .ok (.iload_n 3, 1) := by decide +kernel
theorem dL_law_671 : decode cL_law 671 = .ok (.iconst 1, 1) := by decide +kernel
theorem dL_law_672 : decode cL_law 672 = .ok (.iadd, 1) := by decide +kernel
theorem dL_law_673 : decode cL_law 673 = .ok (.iaload, 1) := by decide +kernel
theorem dL_law_674 : decode cL_law 674 = .ok (.aload_n 0, 1) := by decide +kernel
theorem dL_law_675 : decode cL_law 675 = .ok (.iload_n 3, 1) := by decide +kernel
theorem dL_law_676 : decode cL_law 676 = .ok (.iconst 2, 1) := by decide +kernel
theorem dL_law_677 : decode cL_law 677 = .ok (.iadd, 1) := by decide +kernel
theorem dL_law_678 : decode cL_law 678 = .ok (.iaload, 1) := by decide +kernel
theorem dL_law_679 : decode cL_law 679 = .ok (.invokevirtual 72, 3) := by decide +kernel
theorem dL_law_682 : decode cL_law 682 = .ok (.if_icmp .eq 723, 3) := by decide +kernel
theorem dL_law_685 : decode cL_law 685 = .ok (.iconst 0, 1) := by decide +kernel
theorem dL_law_686 : decode cL_law 686 = .ok (.ireturn, 1) := by decide +kernel
theorem dL_law_687 : decode cL_law 687 = .ok (.aload_n 1, 1) := by decide +kernel
theorem dL_law_688 : decode cL_law 688 = .ok (.aload_n 0, 1) := by decide +kernel
theorem dL_law_689 : decode cL_law 689 = .ok (.iload_n 3, 1) := by decide +kernel
theorem dL_law_690 : decode cL_law 690 = .ok (.iconst 1, 1) := by decide +kernel
theorem dL_law_691 : decode cL_law 691 = .ok (.iadd, 1) := by decide +kernel
theorem dL_law_692 : decode cL_law 692 = .ok (.iaload, 1) := by decide +kernel
theorem dL_law_693 : decode cL_law 693 = .ok (.invokevirtual 73, 3) := by decide +kernel
theorem dL_law_696 : decode cL_law 696 = .ok (.aload_n 2, 1) := by decide +kernel
theorem dL_law_697 : decode cL_law 697 = .ok (.aload_n 0, 1) := by decide +kernel
theorem dL_law_698 : decode cL_law 698 = .ok (.iload_n 3, 1) := by decide +kernel
theorem dL_law_699 : decode cL_law 699 = .ok (.iconst 1, 1) := by decide +kernel
theorem dL_law_700 : decode cL_law 700 = .ok (.iadd, 1) := by decide +kernel
theorem dL_law_701 : decode cL_law 701 = .ok (.iaload, 1) := by decide +kernel
theorem dL_law_702 : decode cL_law 702 = .ok (.invokevirtual 77, 3) := by decide +kernel
theorem dL_law_705 : decode cL_law 705 = .ok (.if_icmp .eq 700, 3) := by decide +kernel
theorem dL_law_708 : decode cL_law 708 = .ok (.iconst 0, 1) := by decide +kernel
theorem dL_law_709 : decode cL_law 709 = .ok (.ireturn, 1) := by decide +kernel
theorem dL_law_710 : decode cL_law 710 = .ok (.aload_n 1, 1) := by decide +kernel
theorem dL_law_711 : decode cL_law 711 = .ok (.aload_n 0, 1) := by decide +kernel
theorem dL_law_712 : decode cL_law 712 = .ok (.iload_n 3, 1) := by decide +kernel
theorem dL_law_713 : decode cL_law 713 = .ok (.iconst 1, 1) := by decide +kernel
theorem dL_law_714 : decode cL_law 714 = .ok (.iadd, 1) := by decide +kernel
theorem dL_law_715 : decode cL_law 715 = .ok (.iaload, 1) := by decide +kernel
theorem dL_law_716 : decode cL_law 716 = .ok (.invokevirtual 78, 3) := by decide +kernel
theorem dL_law_719 : decode cL_law 719 = .ok (.aload_n 2, 1) := by decide +kernel
theorem dL_law_720 : decode cL_law 720 = .ok (.aload_n 0, 1) := by decide +kernel
theorem dL_law_721 : decode cL_law 721 = .ok (.iload_n 3, 1) := by decide +kernel
theorem dL_law_722 : decode cL_law 722 = .ok (.iconst 1, 1) := by decide +kernel
theorem dL_law_723 : decode cL_law 723 = .ok (.iadd, 1) := by decide +kernel
theorem dL_law_724 : decode cL_law 724 = .ok (.iaload, 1) := by decide +kernel
theorem dL_law_725 : decode cL_law 725 = .ok (.invokevirtual 81, 3) := by decide +kernel
theorem dL_law_728 : decode cL_law 728 = .ok (.if_icmp .eq 677, 3) := by decide +kernel
theorem dL_law_731 : decode cL_law 731 = .ok (.iconst 0, 1) := by decide +kernel
theorem dL_law_732 : decode cL_law 732 = .ok (.ireturn, 1) := by decide +kernel
theorem dL_law_733 : decode cL_law 733 = .ok (.aload_n 1, 1) := by decide +kernel
theorem dL_law_734 : decode cL_law 734 = .ok (.aload_n 0, 1) := by decide +kernel
theorem dL_law_735 : decode cL_law 735 = .ok (.iload_n 3, 1) := by decide +kernel
theorem dL_law_736 : decode cL_law 736 = .ok (.iconst 1, 1) := by decide +kernel
theorem dL_law_737 : decode cL_law 737 = .ok (.iadd, 1) := by decide +kernel
theorem dL_law_738 : decode cL_law 738 = .ok (.iaload, 1) := by decide +kernel
theorem dL_law_739 : decode cL_law 739 = .ok (.invokevirtual 82, 3) := by decide +kernel
theorem dL_law_742 : decode cL_law 742 = .ok (.aload_n 2, 1) := by decide +kernel
theorem dL_law_743 : decode cL_law 743 = .ok (.aload_n 0, 1) := by decide +kernel
theorem dL_law_744 : decode cL_law 744 = .ok (.iload_n 3, 1) := by decide +kernel
theorem dL_law_745 : decode cL_law 745 = .ok (.iconst 1, 1) := by decide +kernel
theorem dL_law_746 : decode cL_law 746 = .ok (.iadd, 1) := by decide +kernel
theorem dL_law_747 : decode cL_law 747 = .ok (.iaload, 1) := by decide +kernel
theorem dL_law_748 : decode cL_law 748 = .ok (.invokevirtual 85, 3) := by decide +kernel
theorem dL_law_751 : decode cL_law 751 = .ok (.if_icmp .eq 654, 3) := by decide +kernel
theorem dL_law_754 : decode cL_law 754 = .ok (.iconst 0, 1) := by decide +kernel
theorem dL_law_755 : decode cL_law 755 = .ok (.ireturn, 1) := by decide +kernel
theorem dL_law_756 : decode cL_law 756 = .ok (.aload_n 1, 1) := by decide +kernel
theorem dL_law_757 : decode cL_law 757 = .ok (.aload_n 0, 1) := by decide +kernel
theorem dL_law_758 : decode cL_law 758 = .ok (.iload_n 3, 1) := by decide +kernel
theorem dL_law_759 : decode cL_law 759 = .ok (.iconst 1, 1) := by decide +kernel
theorem dL_law_760 : decode cL_law 760 = .ok (.iadd, 1) := by decide +kernel
theorem dL_law_761 : decode cL_law 761 = .ok (.iaload, 1) := by decide +kernel
theorem dL_law_762 : decode cL_law 762 = .ok (.aload_n 0, 1) := by decide +kernel
theorem dL_law_763 : decode cL_law 763 = .ok (.iload_n 3, 1) := by decide +kernel
theorem dL_law_764 : decode cL_law 764 = .ok (.iconst 2, 1) := by decide +kernel
theorem dL_law_765 : decode cL_law 765 = .ok (.iadd, 1) := by decide +kernel
theorem dL_law_766 : decode cL_law 766 = .ok (.iaload, 1) := by decide +kernel
theorem dL_law_767 : decode cL_law 767 = .ok (.aload_n 0, 1) := by decide +kernel
theorem dL_law_768 : decode cL_law 768 = .ok (.iload_n 3, 1) := by decide +kernel
theorem dL_law_769 : decode cL_law 769 = .ok (.iconst 3, 1) := by decide +kernel
theorem dL_law_770 : decode cL_law 770 = .ok (.iadd, 1) := by decide +kernel
theorem dL_law_771 : decode cL_law 771 = .ok (.iaload, 1) := by decide +kernel
theorem dL_law_772 : decode cL_law 772 = .ok (.aload_n 0, 1) := by decide +kernel
theorem dL_law_773 : decode cL_law 773 = .ok (.iload_n 3, 1) := by decide +kernel
theorem dL_law_774 : decode cL_law 774 = .ok (.iconst 4, 1) := by decide +kernel
theorem dL_law_775 : decode cL_law 775 = .ok (.iadd, 1) := by decide +kernel
theorem dL_law_776 : decode cL_law 776 = .ok (.iaload, 1) := by decide +kernel
theorem dL_law_777 : decode cL_law 777 = .ok (.invokevirtual 86, 3) := by decide +kernel
theorem dL_law_780 : decode cL_law 780 = .ok (.aload_n 2, 1) := by decide +kernel
theorem dL_law_781 : decode cL_law 781 = .ok (.aload_n 0, 1) := by decide +kernel
theorem dL_law_782 : decode cL_law 782 = .ok (.iload_n 3, 1) := by decide +kernel
theorem dL_law_783 : decode cL_law 783 = .ok (.iconst 1, 1) := by decide +kernel
theorem dL_law_784 : decode cL_law 784 = .ok (.iadd, 1) := by decide +kernel
theorem dL_law_785 : decode cL_law 785 = .ok (.iaload, 1) := by decide +kernel
theorem dL_law_786 : decode cL_law 786 = .ok (.aload_n 0, 1) := by decide +kernel
theorem dL_law_787 : decode cL_law 787 = .ok (.iload_n 3, 1) := by decide +kernel
theorem dL_law_788 : decode cL_law 788 = .ok (.iconst 2, 1) := by decide +kernel
theorem dL_law_789 : decode cL_law 789 = .ok (.iadd, 1) := by decide +kernel
theorem dL_law_790 : decode cL_law 790 = .ok (.iaload, 1) := by decide +kernel
theorem dL_law_791 : decode cL_law 791 = .ok (.aload_n 0, 1) := by decide +kernel
theorem dL_law_792 : decode cL_law 792 = .ok (.iload_n 3, 1) := by decide +kernel
theorem dL_law_793 : decode cL_law 793 = .ok (.iconst 3, 1) := by decide +kernel
theorem dL_law_794 : decode cL_law 794 = .ok (.iadd, 1) := by decide +kernel
theorem dL_law_795 : decode cL_law 795 = .ok (.iaload, 1) := by decide +kernel
theorem dL_law_796 : decode cL_law 796 = .ok (.aload_n 0, 1) := by decide +kernel
theorem dL_law_797 : decode cL_law 797 = .ok (.iload_n 3, 1) := by decide +kernel
theorem dL_law_798 : decode cL_law 798 = .ok (.iconst 4, 1) := by decide +kernel
theorem dL_law_799 : decode cL_law 799 = .ok (.iadd, 1) := by decide +kernel
theorem dL_law_800 : decode cL_law 800 = .ok (.iaload, 1) := by decide +kernel
theorem dL_law_801 : decode cL_law 801 = .ok (.invokevirtual 89, 3) := by decide +kernel
theorem dL_law_804 : decode cL_law 804 = .ok (.if_icmp .eq 601, 3) := by decide +kernel
theorem dL_law_807 : decode cL_law 807 = .ok (.iconst 0, 1) := by decide +kernel
theorem dL_law_808 : decode cL_law 808 = .ok (.ireturn, 1) := by decide +kernel
theorem dL_law_809 : decode cL_law 809 = .ok (.aload_n 1, 1) := by decide +kernel
theorem dL_law_810 : decode cL_law 810 = .ok (.aload_n 0, 1) := by decide +kernel
theorem dL_law_811 : decode cL_law 811 = .ok (.iload_n 3, 1) := by decide +kernel
theorem dL_law_812 : decode cL_law 812 = .ok (.iconst 1, 1) := by decide +kernel
theorem dL_law_813 : decode cL_law 813 = .ok (.iadd, 1) := by decide +kernel
theorem dL_law_814 : decode cL_law 814 = .ok (.iaload, 1) := by decide +kernel
theorem dL_law_815 : decode cL_law 815 = .ok (.aload_n 0, 1) := by decide +kernel
theorem dL_law_816 : decode cL_law 816 = .ok (.iload_n 3, 1) := by decide +kernel
theorem dL_law_817 : decode cL_law 817 = .ok (.iconst 2, 1) := by decide +kernel
theorem dL_law_818 : decode cL_law 818 = .ok (.iadd, 1) := by decide +kernel
theorem dL_law_819 : decode cL_law 819 = .ok (.iaload, 1) := by decide +kernel
theorem dL_law_820 : decode cL_law 820 = .ok (.aload_n 0, 1) := by decide +kernel
theorem dL_law_821 : decode cL_law 821 = .ok (.iload_n 3, 1) := by decide +kernel
theorem dL_law_822 : decode cL_law 822 = .ok (.iconst 3, 1) := by decide +kernel
theorem dL_law_823 : decode cL_law 823 = .ok (.iadd, 1) := by decide +kernel
theorem dL_law_824 : decode cL_law 824 = .ok (.iaload, 1) := by decide +kernel
theorem dL_law_825 : decode cL_law 825 = .ok (.aload_n 0, 1) := by decide +kernel
theorem dL_law_826 : decode cL_law 826 = .ok (.iload_n 3, 1) := by decide +kernel
theorem dL_law_827 : decode cL_law 827 = .ok (.iconst 4, 1) := by decide +kernel
theorem dL_law_828 : decode cL_law 828 = .ok (.iadd, 1) := by decide +kernel
theorem dL_law_829 : decode cL_law 829 = .ok (.iaload, 1) := by decide +kernel
theorem dL_law_830 : decode cL_law 830 = .ok (.invokevirtual 90, 3) := by decide +kernel
theorem dL_law_833 : decode cL_law 833 = .ok (.aload_n 2, 1) := by decide +kernel
theorem dL_law_834 : decode cL_law 834 = .ok (.aload_n 0, 1) := by decide +kernel
theorem dL_law_835 : decode cL_law 835 = .ok (.iload_n 3, 1) := by decide +kernel
theorem dL_law_836 : decode cL_law 836 = .ok (.iconst 1, 1) := by decide +kernel
theorem dL_law_837 : decode cL_law 837 = .ok (.iadd, 1) := by decide +kernel
theorem dL_law_838 : decode cL_law 838 = .ok (.iaload, 1) := by decide +kernel
theorem dL_law_839 : decode cL_law 839 = .ok (.aload_n 0, 1) := by decide +kernel
theorem dL_law_840 : decode cL_law 840 = .ok (.iload_n 3, 1) := by decide +kernel
theorem dL_law_841 : decode cL_law 841 = .ok (.iconst 2, 1) := by decide +kernel
theorem dL_law_842 : decode cL_law 842 = .ok (.iadd, 1) := by decide +kernel
theorem dL_law_843 : decode cL_law 843 = .ok (.iaload, 1) := by decide +kernel
theorem dL_law_844 : decode cL_law 844 = .ok (.aload_n 0, 1) := by decide +kernel
theorem dL_law_845 : decode cL_law 845 = .ok (.iload_n 3, 1) := by decide +kernel
theorem dL_law_846 : decode cL_law 846 = .ok (.iconst 3, 1) := by decide +kernel
theorem dL_law_847 : decode cL_law 847 = .ok (.iadd, 1) := by decide +kernel
theorem dL_law_848 : decode cL_law 848 = .ok (.iaload, 1) := by decide +kernel
theorem dL_law_849 : decode cL_law 849 = .ok (.aload_n 0, 1) := by decide +kernel
theorem dL_law_850 : decode cL_law 850 = .ok (.iload_n 3, 1) := by decide +kernel
theorem dL_law_851 : decode cL_law 851 = .ok (.iconst 4, 1) := by decide +kernel
theorem dL_law_852 : decode cL_law 852 = .ok (.iadd, 1) := by decide +kernel
theorem dL_law_853 : decode cL_law 853 = .ok (.iaload, 1) := by decide +kernel
theorem dL_law_854 : decode cL_law 854 = .ok (.invokevirtual 93, 3) := by decide +kernel
theorem dL_law_857 : decode cL_law 857 = .ok (.if_icmp .eq 548, 3) := by decide +kernel
theorem dL_law_860 : decode cL_law 860 = .ok (.iconst 0, 1) := by decide +kernel
theorem dL_law_861 : decode cL_law 861 = .ok (.ireturn, 1) := by decide +kernel
theorem dL_law_862 : decode cL_law 862 = .ok (.aload_n 1, 1) := by decide +kernel
theorem dL_law_863 : decode cL_law 863 = .ok (.aload_n 0, 1) := by decide +kernel
theorem dL_law_864 : decode cL_law 864 = .ok (.iload_n 3, 1) := by decide +kernel
theorem dL_law_865 : decode cL_law 865 = .ok (.iconst 1, 1) := by decide +kernel
theorem dL_law_866 : decode cL_law 866 = .ok (.iadd, 1) := by decide +kernel
theorem dL_law_867 : decode cL_law 867 = .ok (.iaload, 1) := by decide +kernel
theorem dL_law_868 : decode cL_law 868 = .ok (.aload_n 0, 1) := by decide +kernel
theorem dL_law_869 : decode cL_law 869 = .ok (.iload_n 3, 1) := by decide +kernel
theorem dL_law_870 : decode cL_law 870 = .ok (.iconst 2, 1) := by decide +kernel
theorem dL_law_871 : decode cL_law 871 = .ok (.iadd, 1) := by decide +kernel
theorem dL_law_872 : decode cL_law 872 = .ok (.iaload, 1) := by decide +kernel
theorem dL_law_873 : decode cL_law 873 = .ok (.aload_n 0, 1) := by decide +kernel
theorem dL_law_874 : decode cL_law 874 = .ok (.iload_n 3, 1) := by decide +kernel
theorem dL_law_875 : decode cL_law 875 = .ok (.iconst 3, 1) := by decide +kernel
theorem dL_law_876 : decode cL_law 876 = .ok (.iadd, 1) := by decide +kernel
theorem dL_law_877 : decode cL_law 877 = .ok (.iaload, 1) := by decide +kernel
theorem dL_law_878 : decode cL_law 878 = .ok (.aload_n 0, 1) := by decide +kernel
theorem dL_law_879 : decode cL_law 879 = .ok (.iload_n 3, 1) := by decide +kernel
theorem dL_law_880 : decode cL_law 880 = .ok (.iconst 4, 1) := by decide +kernel
theorem dL_law_881 : decode cL_law 881 = .ok (.iadd, 1) := by decide +kernel
theorem dL_law_882 : decode cL_law 882 = .ok (.iaload, 1) := by decide +kernel
theorem dL_law_883 : decode cL_law 883 = .ok (.invokevirtual 94, 3) := by decide +kernel
theorem dL_law_886 : decode cL_law 886 = .ok (.aload_n 2, 1) := by decide +kernel
theorem dL_law_887 : decode cL_law 887 = .ok (.aload_n 0, 1) := by decide +kernel
theorem dL_law_888 : decode cL_law 888 = .ok (.iload_n 3, 1) := by decide +kernel
theorem dL_law_889 : decode cL_law 889 = .ok (.iconst 1, 1) := by decide +kernel
theorem dL_law_890 : decode cL_law 890 = .ok (.iadd, 1) := by decide +kernel
theorem dL_law_891 : decode cL_law 891 = .ok (.iaload, 1) := by decide +kernel
theorem dL_law_892 : decode cL_law 892 = .ok (.aload_n 0, 1) := by decide +kernel
theorem dL_law_893 : decode cL_law 893 = .ok (.iload_n 3, 1) := by decide +kernel
theorem dL_law_894 : decode cL_law 894 = .ok (.iconst 2, 1) := by decide +kernel
theorem dL_law_895 : decode cL_law 895 = .ok (.iadd, 1) := by decide +kernel
theorem dL_law_896 : decode cL_law 896 = .ok (.iaload, 1) := by decide +kernel
theorem dL_law_897 : decode cL_law 897 = .ok (.aload_n 0, 1) := by decide +kernel
theorem dL_law_898 : decode cL_law 898 = .ok (.iload_n 3, 1) := by decide +kernel
theorem dL_law_899 : decode cL_law 899 = .ok (.iconst 3, 1) := by decide +kernel
theorem dL_law_900 : decode cL_law 900 = .ok (.iadd, 1) := by decide +kernel
theorem dL_law_901 : decode cL_law 901 = .ok (.iaload, 1) := by decide +kernel
theorem dL_law_902 : decode cL_law 902 = .ok (.aload_n 0, 1) := by decide +kernel
theorem dL_law_903 : decode cL_law 903 = .ok (.iload_n 3, 1) := by decide +kernel
theorem dL_law_904 : decode cL_law 904 = .ok (.iconst 4, 1) := by decide +kernel
theorem dL_law_905 : decode cL_law 905 = .ok (.iadd, 1) := by decide +kernel
theorem dL_law_906 : decode cL_law 906 = .ok (.iaload, 1) := by decide +kernel
theorem dL_law_907 : decode cL_law 907 = .ok (.invokevirtual 97, 3) := by decide +kernel
theorem dL_law_910 : decode cL_law 910 = .ok (.if_icmp .eq 495, 3) := by decide +kernel
theorem dL_law_913 : decode cL_law 913 = .ok (.iconst 0, 1) := by decide +kernel
theorem dL_law_914 : decode cL_law 914 = .ok (.ireturn, 1) := by decide +kernel
theorem dL_law_915 : decode cL_law 915 = .ok (.aload_n 1, 1) := by decide +kernel
theorem dL_law_916 : decode cL_law 916 = .ok (.aload_n 0, 1) := by decide +kernel
theorem dL_law_917 : decode cL_law 917 = .ok (.iload_n 3, 1) := by decide +kernel
theorem dL_law_918 : decode cL_law 918 = .ok (.iconst 1, 1) := by decide +kernel
theorem dL_law_919 : decode cL_law 919 = .ok (.iadd, 1) := by decide +kernel
theorem dL_law_920 : decode cL_law 920 = .ok (.iaload, 1) := by decide +kernel
theorem dL_law_921 : decode cL_law 921 = .ok (.aload_n 0, 1) := by decide +kernel
theorem dL_law_922 : decode cL_law 922 = .ok (.iload_n 3, 1) := by decide +kernel
theorem dL_law_923 : decode cL_law 923 = .ok (.iconst 2, 1) := by decide +kernel
theorem dL_law_924 : decode cL_law 924 = .ok (.iadd, 1) := by decide +kernel
theorem dL_law_925 : decode cL_law 925 = .ok (.iaload, 1) := by decide +kernel
theorem dL_law_926 : decode cL_law 926 = .ok (.aload_n 0, 1) := by decide +kernel
theorem dL_law_927 : decode cL_law 927 = .ok (.iload_n 3, 1) := by decide +kernel
theorem dL_law_928 : decode cL_law 928 = .ok (.iconst 3, 1) := by decide +kernel
theorem dL_law_929 : decode cL_law 929 = .ok (.iadd, 1) := by decide +kernel
theorem dL_law_930 : decode cL_law 930 = .ok (.iaload, 1) := by decide +kernel
theorem dL_law_931 : decode cL_law 931 = .ok (.invokevirtual 98, 3) := by decide +kernel
theorem dL_law_934 : decode cL_law 934 = .ok (.aload_n 2, 1) := by decide +kernel
theorem dL_law_935 : decode cL_law 935 = .ok (.aload_n 0, 1) := by decide +kernel
theorem dL_law_936 : decode cL_law 936 = .ok (.iload_n 3, 1) := by decide +kernel
theorem dL_law_937 : decode cL_law 937 = .ok (.iconst 1, 1) := by decide +kernel
theorem dL_law_938 : decode cL_law 938 = .ok (.iadd, 1) := by decide +kernel
theorem dL_law_939 : decode cL_law 939 = .ok (.iaload, 1) := by decide +kernel
theorem dL_law_940 : decode cL_law 940 = .ok (.aload_n 0, 1) := by decide +kernel
theorem dL_law_941 : decode cL_law 941 = .ok (.iload_n 3, 1) := by decide +kernel
theorem dL_law_942 : decode cL_law 942 = .ok (.iconst 2, 1) := by decide +kernel
theorem dL_law_943 : decode cL_law 943 = .ok (.iadd, 1) := by decide +kernel
theorem dL_law_944 : decode cL_law 944 = .ok (.iaload, 1) := by decide +kernel
theorem dL_law_945 : decode cL_law 945 = .ok (.aload_n 0, 1) := by decide +kernel
theorem dL_law_946 : decode cL_law 946 = .ok (.iload_n 3, 1) := by decide +kernel
theorem dL_law_947 : decode cL_law 947 = .ok (.iconst 3, 1) := by decide +kernel
theorem dL_law_948 : decode cL_law 948 = .ok (.iadd, 1) := by decide +kernel
theorem dL_law_949 : decode cL_law 949 = .ok (.iaload, 1) := by decide +kernel
theorem dL_law_950 : decode cL_law 950 = .ok (.invokevirtual 101, 3) := by decide +kernel
theorem dL_law_953 : decode cL_law 953 = .ok (.if_icmp .eq 452, 3) := by decide +kernel
theorem dL_law_956 : decode cL_law 956 = .ok (.iconst 0, 1) := by decide +kernel
theorem dL_law_957 : decode cL_law 957 = .ok (.ireturn, 1) := by decide +kernel
theorem dL_law_958 : decode cL_law 958 = .ok (.aload_n 1, 1) := by decide +kernel
theorem dL_law_959 : decode cL_law 959 = .ok (.invokevirtual 102, 3) := by decide +kernel
theorem dL_law_962 : decode cL_law 962 = .ok (.aload_n 2, 1) := by decide +kernel
theorem dL_law_963 : decode cL_law 963 = .ok (.invokevirtual 105, 3) := by decide +kernel
theorem dL_law_966 : decode cL_law 966 = .ok (.if_icmp .eq 439, 3) := by decide +kernel
theorem dL_law_969 : decode cL_law 969 = .ok (.iconst 0, 1) := by decide +kernel
theorem dL_law_970 : decode cL_law 970 = .ok (.ireturn, 1) := by decide +kernel
theorem dL_law_971 : decode cL_law 971 = .ok (.aload_n 1, 1) := by decide +kernel
theorem dL_law_972 : decode cL_law 972 = .ok (.aload_n 0, 1) := by decide +kernel
theorem dL_law_973 : decode cL_law 973 = .ok (.iload_n 3, 1) := by decide +kernel
theorem dL_law_974 : decode cL_law 974 = .ok (.iconst 1, 1) := by decide +kernel
theorem dL_law_975 : decode cL_law 975 = .ok (.iadd, 1) := by decide +kernel
theorem dL_law_976 : decode cL_law 976 = .ok (.iaload, 1) := by decide +kernel
theorem dL_law_977 : decode cL_law 977 = .ok (.invokevirtual 106, 3) := by decide +kernel
theorem dL_law_980 : decode cL_law 980 = .ok (.aload_n 2, 1) := by decide +kernel
theorem dL_law_981 : decode cL_law 981 = .ok (.aload_n 0, 1) := by decide +kernel
theorem dL_law_982 : decode cL_law 982 = .ok (.iload_n 3, 1) := by decide +kernel
theorem dL_law_983 : decode cL_law 983 = .ok (.iconst 1, 1) := by decide +kernel
theorem dL_law_984 : decode cL_law 984 = .ok (.iadd, 1) := by decide +kernel
theorem dL_law_985 : decode cL_law 985 = .ok (.iaload, 1) := by decide +kernel
theorem dL_law_986 : decode cL_law 986 = .ok (.invokevirtual 109, 3) := by decide +kernel
theorem dL_law_989 : decode cL_law 989 = .ok (.if_icmp .eq 416, 3) := by decide +kernel
theorem dL_law_992 : decode cL_law 992 = .ok (.iconst 0, 1) := by decide +kernel
theorem dL_law_993 : decode cL_law 993 = .ok (.ireturn, 1) := by decide +kernel
theorem dL_law_994 : decode cL_law 994 = .ok (.aload_n 1, 1) := by decide +kernel
theorem dL_law_995 : decode cL_law 995 = .ok (.aload_n 0, 1) := by decide +kernel
theorem dL_law_996 : decode cL_law 996 = .ok (.iload_n 3, 1) := by decide +kernel
theorem dL_law_997 : decode cL_law 997 = .ok (.iconst 1, 1) := by decide +kernel
theorem dL_law_998 : decode cL_law 998 = .ok (.iadd, 1) := by decide +kernel
theorem dL_law_999 : decode cL_law 999 = .ok (.iaload, 1) := by decide +kernel
theorem dL_law_1000 : decode cL_law 1000 = .ok (.aload_n 0, 1) := by decide +kernel
theorem dL_law_1001 : decode cL_law 1001 = .ok (.iload_n 3, 1) := by decide +kernel
theorem dL_law_1002 : decode cL_law 1002 = .ok (.iconst 2, 1) := by decide +kernel
theorem dL_law_1003 : decode cL_law 1003 = .ok (.iadd, 1) := by decide +kernel
theorem dL_law_1004 : decode cL_law 1004 = .ok (.iaload, 1) := by decide +kernel
theorem dL_law_1005 : decode cL_law 1005 = .ok (.aload_n 0, 1) := by decide +kernel
theorem dL_law_1006 : decode cL_law 1006 = .ok (.iload_n 3, 1) := by decide +kernel
theorem dL_law_1007 : decode cL_law 1007 = .ok (.iconst 3, 1) := by decide +kernel
theorem dL_law_1008 : decode cL_law 1008 = .ok (.iadd, 1) := by decide +kernel
theorem dL_law_1009 : decode cL_law 1009 = .ok (.iaload, 1) := by decide +kernel
theorem dL_law_1010 : decode cL_law 1010 = .ok (.invokevirtual 110, 3) := by decide +kernel
theorem dL_law_1013 : decode cL_law 1013 = .ok (.aload_n 2, 1) := by decide +kernel
theorem dL_law_1014 : decode cL_law 1014 = .ok (.aload_n 0, 1) := by decide +kernel
theorem dL_law_1015 : decode cL_law 1015 = .ok (.iload_n 3, 1) := by decide +kernel
theorem dL_law_1016 : decode cL_law 1016 = .ok (.iconst 1, 1) := by decide +kernel
theorem dL_law_1017 : decode cL_law 1017 = .ok (.iadd, 1) := by decide +kernel
theorem dL_law_1018 : decode cL_law 1018 = .ok (.iaload, 1) := by decide +kernel
theorem dL_law_1019 : decode cL_law 1019 = .ok (.aload_n 0, 1) := by decide +kernel
theorem dL_law_1020 : decode cL_law 1020 = .ok (.iload_n 3, 1) := by decide +kernel
theorem dL_law_1021 : decode cL_law 1021 = .ok (.iconst 2, 1) := by decide +kernel
theorem dL_law_1022 : decode cL_law 1022 = .ok (.iadd, 1) := by decide +kernel
theorem dL_law_1023 : decode cL_law 1023 = .ok (.iaload, 1) := by decide +kernel
theorem dL_law_1024 : decode cL_law 1024 = .ok (.aload_n 0, 1) := by decide +kernel
theorem dL_law_1025 : decode cL_law 1025 = .ok (.iload_n 3, 1) := by decide +kernel
theorem dL_law_1026 : decode cL_law 1026 = .ok (.iconst 3, 1) := by decide +kernel
theorem dL_law_1027 : decode cL_law 1027 = .ok (.iadd, 1) := by decide +kernel
theorem dL_law_1028 : decode cL_law 1028 = .ok (.iaload, 1) := by decide +kernel
theorem dL_law_1029 : decode cL_law 1029 = .ok (.invokevirtual 113, 3) := by decide +kernel
theorem dL_law_1032 : decode cL_law 1032 = .ok (.if_icmp .eq 373, 3) := by decide +kernel
theorem dL_law_1035 : decode cL_law 1035 = .ok (.iconst 0, 1) := by decide +kernel
theorem dL_law_1036 : decode cL_law 1036 = .ok (.ireturn, 1) := by decide +kernel
theorem dL_law_1037 : decode cL_law 1037 = .ok (.aload_n 1, 1) := by decide +kernel
theorem dL_law_1038 : decode cL_law 1038 = .ok (.aload_n 0, 1) := by decide +kernel
theorem dL_law_1039 : decode cL_law 1039 = .ok (.iload_n 3, 1) := by decide +kernel
theorem dL_law_1040 : decode cL_law 1040 = .ok (.iconst 1, 1) := by decide +kernel
theorem dL_law_1041 : decode cL_law 1041 = .ok (.iadd, 1) := by decide +kernel
theorem dL_law_1042 : decode cL_law 1042 = .ok (.iaload, 1) := by decide +kernel
theorem dL_law_1043 : decode cL_law 1043 = .ok (.aload_n 0, 1) := by decide +kernel
theorem dL_law_1044 : decode cL_law 1044 = .ok (.iload_n 3, 1) := by decide +kernel
theorem dL_law_1045 : decode cL_law 1045 = .ok (.iconst 2, 1) := by decide +kernel
theorem dL_law_1046 : decode cL_law 1046 = .ok (.iadd, 1) := by decide +kernel
theorem dL_law_1047 : decode cL_law 1047 = .ok (.iaload, 1) := by decide +kernel
theorem dL_law_1048 : decode cL_law 1048 = .ok (.ifCond .eq 7, 3) := by decide +kernel
theorem dL_law_1051 : decode cL_law 1051 = .ok (.iconst 1, 1) := by decide +kernel
theorem dL_law_1052 : decode cL_law 1052 = .ok (.goto 4, 3) := by decide +kernel
theorem dL_law_1055 : decode cL_law 1055 = .ok (.iconst 0, 1) := by decide +kernel
theorem dL_law_1056 : decode cL_law 1056 = .ok (.invokevirtual 114, 3) := by decide +kernel
theorem dL_law_1059 : decode cL_law 1059 = .ok (.aload_n 2, 1) := by decide +kernel
theorem dL_law_1060 : decode cL_law 1060 = .ok (.aload_n 0, 1) := by decide +kernel
theorem dL_law_1061 : decode cL_law 1061 = .ok (.iload_n 3, 1) := by decide +kernel
theorem dL_law_1062 : decode cL_law 1062 = .ok (.iconst 1, 1) := by decide +kernel
theorem dL_law_1063 : decode cL_law 1063 = .ok (.iadd, 1) := by decide +kernel
theorem dL_law_1064 : decode cL_law 1064 = .ok (.iaload, 1) := by decide +kernel
theorem dL_law_1065 : decode cL_law 1065 = .ok (.aload_n 0, 1) := by decide +kernel
theorem dL_law_1066 : decode cL_law 1066 = .ok (.iload_n 3, 1) := by decide +kernel
theorem dL_law_1067 : decode cL_law 1067 = .ok (.iconst 2, 1) := by decide +kernel
theorem dL_law_1068 : decode cL_law 1068 = .ok (.iadd, 1) := by decide +kernel
theorem dL_law_1069 : decode cL_law 1069 = .ok (.iaload, 1) := by decide +kernel
theorem dL_law_1070 : decode cL_law 1070 = .ok (.ifCond .eq 7, 3) := by decide +kernel
theorem dL_law_1073 : decode cL_law 1073 = .ok (.iconst 1, 1) := by decide +kernel
theorem dL_law_1074 : decode cL_law 1074 = .ok (.goto 4, 3) := by decide +kernel
theorem dL_law_1077 : decode cL_law 1077 = .ok (.iconst 0, 1) := by decide +kernel
theorem dL_law_1078 : decode cL_law 1078 = .ok (.invokevirtual 118, 3) := by decide +kernel
theorem dL_law_1081 : decode cL_law 1081 = .ok (.if_icmp .eq 324, 3) := by decide +kernel
theorem dL_law_1084 : decode cL_law 1084 = .ok (.iconst 0, 1) := by decide +kernel
theorem dL_law_1085 : decode cL_law 1085 = .ok (.ireturn, 1) := by decide +kernel
theorem dL_law_1086 : decode cL_law 1086 = .ok (.aload_n 1, 1) := by decide +kernel
theorem dL_law_1087 : decode cL_law 1087 = .ok (.aload_n 0, 1) := by decide +kernel
theorem dL_law_1088 : decode cL_law 1088 = .ok (.iload_n 3, 1) := by decide +kernel
theorem dL_law_1089 : decode cL_law 1089 = .ok (.iconst 1, 1) := by decide +kernel
theorem dL_law_1090 : decode cL_law 1090 = .ok (.iadd, 1) := by decide +kernel
theorem dL_law_1091 : decode cL_law 1091 = .ok (.iaload, 1) := by decide +kernel
theorem dL_law_1092 : decode cL_law 1092 = .ok (.aload_n 0, 1) := by decide +kernel
theorem dL_law_1093 : decode cL_law 1093 = .ok (.iload_n 3, 1) := by decide +kernel
theorem dL_law_1094 : decode cL_law 1094 = .ok (.iconst 2, 1) := by decide +kernel
theorem dL_law_1095 : decode cL_law 1095 = .ok (.iadd, 1) := by decide +kernel
theorem dL_law_1096 : decode cL_law 1096 = .ok (.iaload, 1) := by decide +kernel
theorem dL_law_1097 : decode cL_law 1097 = .ok (.aload_n 0, 1) := by decide +kernel
theorem dL_law_1098 : decode cL_law 1098 = .ok (.iload_n 3, 1) := by decide +kernel
theorem dL_law_1099 : decode cL_law 1099 = .ok (.iconst 3, 1) := by decide +kernel
theorem dL_law_1100 : decode cL_law 1100 = .ok (.iadd, 1) := by decide +kernel
theorem dL_law_1101 : decode cL_law 1101 = .ok (.iaload, 1) := by decide +kernel
theorem dL_law_1102 : decode cL_law 1102 = .ok (.invokevirtual 119, 3) := by decide +kernel
theorem dL_law_1105 : decode cL_law 1105 = .ok (.aload_n 2, 1) := by decide +kernel
theorem dL_law_1106 : decode cL_law 1106 = .ok (.aload_n 0, 1) := by decide +kernel
theorem dL_law_1107 : decode cL_law 1107 = .ok (.iload_n 3, 1) := by decide +kernel
theorem dL_law_1108 : decode cL_law 1108 = .ok (.iconst 1, 1) := by decide +kernel
theorem dL_law_1109 : decode cL_law 1109 = .ok (.iadd, 1) := by decide +kernel
theorem dL_law_1110 : decode cL_law 1110 = .ok (.iaload, 1) := by decide +kernel
theorem dL_law_1111 : decode cL_law 1111 = .ok (.aload_n 0, 1) := by decide +kernel
theorem dL_law_1112 : decode cL_law 1112 = .ok (.iload_n 3, 1) := by decide +kernel
theorem dL_law_1113 : decode cL_law 1113 = .ok (.iconst 2, 1) := by decide +kernel
theorem dL_law_1114 : decode cL_law 1114 = .ok (.iadd, 1) := by decide +kernel
theorem dL_law_1115 : decode cL_law 1115 = .ok (.iaload, 1) := by decide +kernel
theorem dL_law_1116 : decode cL_law 1116 = .ok (.aload_n 0, 1) := by decide +kernel
theorem dL_law_1117 : decode cL_law 1117 = .ok (.iload_n 3, 1) := by decide +kernel
theorem dL_law_1118 : decode cL_law 1118 = .ok (.iconst 3, 1) := by decide +kernel
theorem dL_law_1119 : decode cL_law 1119 = .ok (.iadd, 1) := by decide +kernel
theorem dL_law_1120 : decode cL_law 1120 = .ok (.iaload, 1) := by decide +kernel
theorem dL_law_1121 : decode cL_law 1121 = .ok (.invokevirtual 122, 3) := by decide +kernel
theorem dL_law_1124 : decode cL_law 1124 = .ok (.if_icmp .eq 281, 3) := by decide +kernel
theorem dL_law_1127 : decode cL_law 1127 = .ok (.iconst 0, 1) := by decide +kernel
theorem dL_law_1128 : decode cL_law 1128 = .ok (.ireturn, 1) := by decide +kernel
theorem dL_law_1129 : decode cL_law 1129 = .ok (.aload_n 1, 1) := by decide +kernel
theorem dL_law_1130 : decode cL_law 1130 = .ok (.aload_n 0, 1) := by decide +kernel
theorem dL_law_1131 : decode cL_law 1131 = .ok (.iload_n 3, 1) := by decide +kernel
theorem dL_law_1132 : decode cL_law 1132 = .ok (.iconst 1, 1) := by decide +kernel
theorem dL_law_1133 : decode cL_law 1133 = .ok (.iadd, 1) := by decide +kernel
theorem dL_law_1134 : decode cL_law 1134 = .ok (.iaload, 1) := by decide +kernel
theorem dL_law_1135 : decode cL_law 1135 = .ok (.invokevirtual 123, 3) := by decide +kernel
theorem dL_law_1138 : decode cL_law 1138 = .ok (.aload_n 2, 1) := by decide +kernel
theorem dL_law_1139 : decode cL_law 1139 = .ok (.aload_n 0, 1) := by decide +kernel
theorem dL_law_1140 : decode cL_law 1140 = .ok (.iload_n 3, 1) := by decide +kernel
theorem dL_law_1141 : decode cL_law 1141 = .ok (.iconst 1, 1) := by decide +kernel
theorem dL_law_1142 : decode cL_law 1142 = .ok (.iadd, 1) := by decide +kernel
theorem dL_law_1143 : decode cL_law 1143 = .ok (.iaload, 1) := by decide +kernel
theorem dL_law_1144 : decode cL_law 1144 = .ok (.invokevirtual 126, 3) := by decide +kernel
theorem dL_law_1147 : decode cL_law 1147 = .ok (.if_icmp .eq 258, 3) := by decide +kernel
theorem dL_law_1150 : decode cL_law 1150 = .ok (.iconst 0, 1) := by decide +kernel
theorem dL_law_1151 : decode cL_law 1151 = .ok (.ireturn, 1) := by decide +kernel
theorem dL_law_1152 : decode cL_law 1152 = .ok (.aload_n 1, 1) := by decide +kernel
theorem dL_law_1153 : decode cL_law 1153 = .ok (.invokevirtual 127, 3) := by decide +kernel
theorem dL_law_1156 : decode cL_law 1156 = .ok (.aload_n 2, 1) := by decide +kernel
theorem dL_law_1157 : decode cL_law 1157 = .ok (.invokevirtual 130, 3) := by decide +kernel
theorem dL_law_1160 : decode cL_law 1160 = .ok (.if_icmp .eq 245, 3) := by decide +kernel
theorem dL_law_1163 : decode cL_law 1163 = .ok (.iconst 0, 1) := by decide +kernel
theorem dL_law_1164 : decode cL_law 1164 = .ok (.ireturn, 1) := by decide +kernel
theorem dL_law_1165 : decode cL_law 1165 = .ok (.aload_n 1, 1) := by decide +kernel
theorem dL_law_1166 : decode cL_law 1166 = .ok (.aload_n 0, 1) := by decide +kernel
theorem dL_law_1167 : decode cL_law 1167 = .ok (.iload_n 3, 1) := by decide +kernel
theorem dL_law_1168 : decode cL_law 1168 = .ok (.iconst 1, 1) := by decide +kernel
theorem dL_law_1169 : decode cL_law 1169 = .ok (.iadd, 1) := by decide +kernel
theorem dL_law_1170 : decode cL_law 1170 = .ok (.iaload, 1) := by decide +kernel
theorem dL_law_1171 : decode cL_law 1171 = .ok (.aload_n 0, 1) := by decide +kernel
theorem dL_law_1172 : decode cL_law 1172 = .ok (.iload_n 3, 1) := by decide +kernel
theorem dL_law_1173 : decode cL_law 1173 = .ok (.iconst 2, 1) := by decide +kernel
theorem dL_law_1174 : decode cL_law 1174 = .ok (.iadd, 1) := by decide +kernel
theorem dL_law_1175 : decode cL_law 1175 = .ok (.iaload, 1) := by decide +kernel
theorem dL_law_1176 : decode cL_law 1176 = .ok (.invokevirtual 131, 3) := by decide +kernel
theorem dL_law_1179 : decode cL_law 1179 = .ok (.aload_n 2, 1) := by decide +kernel
theorem dL_law_1180 : decode cL_law 1180 = .ok (.aload_n 0, 1) := by decide +kernel
theorem dL_law_1181 : decode cL_law 1181 = .ok (.iload_n 3, 1) := by decide +kernel
theorem dL_law_1182 : decode cL_law 1182 = .ok (.iconst 1, 1) := by decide +kernel
theorem dL_law_1183 : decode cL_law 1183 = .ok (.iadd, 1) := by decide +kernel
theorem dL_law_1184 : decode cL_law 1184 = .ok (.iaload, 1) := by decide +kernel
theorem dL_law_1185 : decode cL_law 1185 = .ok (.aload_n 0, 1) := by decide +kernel
theorem dL_law_1186 : decode cL_law 1186 = .ok (.iload_n 3, 1) := by decide +kernel
theorem dL_law_1187 : decode cL_law 1187 = .ok (.iconst 2, 1) := by decide +kernel
theorem dL_law_1188 : decode cL_law 1188 = .ok (.iadd, 1) := by decide +kernel
theorem dL_law_1189 : decode cL_law 1189 = .ok (.iaload, 1) := by decide +kernel
theorem dL_law_1190 : decode cL_law 1190 = .ok (.invokevirtual 134, 3) := by decide +kernel
theorem dL_law_1193 : decode cL_law 1193 = .ok (.if_icmp .eq 212, 3) := by decide +kernel
theorem dL_law_1196 : decode cL_law 1196 = .ok (.iconst 0, 1) := by decide +kernel
theorem dL_law_1197 : decode cL_law 1197 = .ok (.ireturn, 1) := by decide +kernel
theorem dL_law_1198 : decode cL_law 1198 = .ok (.aload_n 1, 1) := by decide +kernel
theorem dL_law_1199 : decode cL_law 1199 = .ok (.aload_n 0, 1) := by decide +kernel
theorem dL_law_1200 : decode cL_law 1200 = .ok (.iload_n 3, 1) := by decide +kernel
theorem dL_law_1201 : decode cL_law 1201 = .ok (.iconst 1, 1) := by decide +kernel
theorem dL_law_1202 : decode cL_law 1202 = .ok (.iadd, 1) := by decide +kernel
theorem dL_law_1203 : decode cL_law 1203 = .ok (.iaload, 1) := by decide +kernel
theorem dL_law_1204 : decode cL_law 1204 = .ok (.invokevirtual 135, 3) := by decide +kernel
theorem dL_law_1207 : decode cL_law 1207 = .ok (.aload_n 2, 1) := by decide +kernel
theorem dL_law_1208 : decode cL_law 1208 = .ok (.aload_n 0, 1) := by decide +kernel
theorem dL_law_1209 : decode cL_law 1209 = .ok (.iload_n 3, 1) := by decide +kernel
theorem dL_law_1210 : decode cL_law 1210 = .ok (.iconst 1, 1) := by decide +kernel
theorem dL_law_1211 : decode cL_law 1211 = .ok (.iadd, 1) := by decide +kernel
theorem dL_law_1212 : decode cL_law 1212 = .ok (.iaload, 1) := by decide +kernel
theorem dL_law_1213 : decode cL_law 1213 = .ok (.invokevirtual 138, 3) := by decide +kernel
theorem dL_law_1216 : decode cL_law 1216 = .ok (.if_icmp .eq 189, 3) := by decide +kernel
theorem dL_law_1219 : decode cL_law 1219 = .ok (.iconst 0, 1) := by decide +kernel
theorem dL_law_1220 : decode cL_law 1220 = .ok (.ireturn, 1) := by decide +kernel
theorem dL_law_1221 : decode cL_law 1221 = .ok (.aload_n 1, 1) := by decide +kernel
theorem dL_law_1222 : decode cL_law 1222 = .ok (.aload_n 0, 1) := by decide +kernel
theorem dL_law_1223 : decode cL_law 1223 = .ok (.iload_n 3, 1) := by decide +kernel
theorem dL_law_1224 : decode cL_law 1224 = .ok (.iconst 1, 1) := by decide +kernel
theorem dL_law_1225 : decode cL_law 1225 = .ok (.iadd, 1) := by decide +kernel
theorem dL_law_1226 : decode cL_law 1226 = .ok (.iaload, 1) := by decide +kernel
theorem dL_law_1227 : decode cL_law 1227 = .ok (.invokevirtual 139, 3) := by decide +kernel
theorem dL_law_1230 : decode cL_law 1230 = .ok (.aload_n 2, 1) := by decide +kernel
theorem dL_law_1231 : decode cL_law 1231 = .ok (.aload_n 0, 1) := by decide +kernel
theorem dL_law_1232 : decode cL_law 1232 = .ok (.iload_n 3, 1) := by decide +kernel
theorem dL_law_1233 : decode cL_law 1233 = .ok (.iconst 1, 1) := by decide +kernel
theorem dL_law_1234 : decode cL_law 1234 = .ok (.iadd, 1) := by decide +kernel
theorem dL_law_1235 : decode cL_law 1235 = .ok (.iaload, 1) := by decide +kernel
theorem dL_law_1236 : decode cL_law 1236 = .ok (.invokevirtual 142, 3) := by decide +kernel
theorem dL_law_1239 : decode cL_law 1239 = .ok (.if_icmp .eq 166, 3) := by decide +kernel
theorem dL_law_1242 : decode cL_law 1242 = .ok (.iconst 0, 1) := by decide +kernel
theorem dL_law_1243 : decode cL_law 1243 = .ok (.ireturn, 1) := by decide +kernel
theorem dL_law_1244 : decode cL_law 1244 = .ok (.aload_n 1, 1) := by decide +kernel
theorem dL_law_1245 : decode cL_law 1245 = .ok (.invokevirtual 143, 3) := by decide +kernel
theorem dL_law_1248 : decode cL_law 1248 = .ok (.aload_n 2, 1) := by decide +kernel
theorem dL_law_1249 : decode cL_law 1249 = .ok (.invokevirtual 146, 3) := by decide +kernel
theorem dL_law_1252 : decode cL_law 1252 = .ok (.if_icmp .eq 153, 3) := by decide +kernel
theorem dL_law_1255 : decode cL_law 1255 = .ok (.iconst 0, 1) := by decide +kernel
theorem dL_law_1256 : decode cL_law 1256 = .ok (.ireturn, 1) := by decide +kernel
theorem dL_law_1257 : decode cL_law 1257 = .ok (.aload_n 1, 1) := by decide +kernel
theorem dL_law_1258 : decode cL_law 1258 = .ok (.aload_n 0, 1) := by decide +kernel
theorem dL_law_1259 : decode cL_law 1259 = .ok (.iload_n 3, 1) := by decide +kernel
theorem dL_law_1260 : decode cL_law 1260 = .ok (.iconst 1, 1) := by decide +kernel
theorem dL_law_1261 : decode cL_law 1261 = .ok (.iadd, 1) := by decide +kernel
theorem dL_law_1262 : decode cL_law 1262 = .ok (.iaload, 1) := by decide +kernel
theorem dL_law_1263 : decode cL_law 1263 = .ok (.aload_n 0, 1) := by decide +kernel
theorem dL_law_1264 : decode cL_law 1264 = .ok (.iload_n 3, 1) := by decide +kernel
theorem dL_law_1265 : decode cL_law 1265 = .ok (.iconst 2, 1) := by decide +kernel
theorem dL_law_1266 : decode cL_law 1266 = .ok (.iadd, 1) := by decide +kernel
theorem dL_law_1267 : decode cL_law 1267 = .ok (.iaload, 1) := by decide +kernel
theorem dL_law_1268 : decode cL_law 1268 = .ok (.aload_n 0, 1) := by decide +kernel
theorem dL_law_1269 : decode cL_law 1269 = .ok (.iload_n 3, 1) := by decide +kernel
theorem dL_law_1270 : decode cL_law 1270 = .ok (.iconst 3, 1) := by decide +kernel
theorem dL_law_1271 : decode cL_law 1271 = .ok (.iadd, 1) := by decide +kernel
theorem dL_law_1272 : decode cL_law 1272 = .ok (.iaload, 1) := by decide +kernel
theorem dL_law_1273 : decode cL_law 1273 = .ok (.aload_n 0, 1) := by decide +kernel
theorem dL_law_1274 : decode cL_law 1274 = .ok (.iload_n 3, 1) := by decide +kernel
theorem dL_law_1275 : decode cL_law 1275 = .ok (.iconst 4, 1) := by decide +kernel
theorem dL_law_1276 : decode cL_law 1276 = .ok (.iadd, 1) := by decide +kernel
theorem dL_law_1277 : decode cL_law 1277 = .ok (.iaload, 1) := by decide +kernel
theorem dL_law_1278 : decode cL_law 1278 = .ok (.invokevirtual 147, 3) := by decide +kernel
theorem dL_law_1281 : decode cL_law 1281 = .ok (.aload_n 2, 1) := by decide +kernel
theorem dL_law_1282 : decode cL_law 1282 = .ok (.aload_n 0, 1) := by decide +kernel
theorem dL_law_1283 : decode cL_law 1283 = .ok (.iload_n 3, 1) := by decide +kernel
theorem dL_law_1284 : decode cL_law 1284 = .ok (.iconst 1, 1) := by decide +kernel
theorem dL_law_1285 : decode cL_law 1285 = .ok (.iadd, 1) := by decide +kernel
theorem dL_law_1286 : decode cL_law 1286 = .ok (.iaload, 1) := by decide +kernel
theorem dL_law_1287 : decode cL_law 1287 = .ok (.aload_n 0, 1) := by decide +kernel
theorem dL_law_1288 : decode cL_law 1288 = .ok (.iload_n 3, 1) := by decide +kernel
theorem dL_law_1289 : decode cL_law 1289 = .ok (.iconst 2, 1) := by decide +kernel
theorem dL_law_1290 : decode cL_law 1290 = .ok (.iadd, 1) := by decide +kernel
theorem dL_law_1291 : decode cL_law 1291 = .ok (.iaload, 1) := by decide +kernel
theorem dL_law_1292 : decode cL_law 1292 = .ok (.aload_n 0, 1) := by decide +kernel
theorem dL_law_1293 : decode cL_law 1293 = .ok (.iload_n 3, 1) := by decide +kernel
theorem dL_law_1294 : decode cL_law 1294 = .ok (.iconst 3, 1) := by decide +kernel
theorem dL_law_1295 : decode cL_law 1295 = .ok (.iadd, 1) := by decide +kernel
theorem dL_law_1296 : decode cL_law 1296 = .ok (.iaload, 1) := by decide +kernel
theorem dL_law_1297 : decode cL_law 1297 = .ok (.aload_n 0, 1) := by decide +kernel
theorem dL_law_1298 : decode cL_law 1298 = .ok (.iload_n 3, 1) := by decide +kernel
theorem dL_law_1299 : decode cL_law 1299 = .ok (.iconst 4, 1) := by decide +kernel
theorem dL_law_1300 : decode cL_law 1300 = .ok (.iadd, 1) := by decide +kernel
theorem dL_law_1301 : decode cL_law 1301 = .ok (.iaload, 1) := by decide +kernel
theorem dL_law_1302 : decode cL_law 1302 = .ok (.invokevirtual 150, 3) := by decide +kernel
theorem dL_law_1305 : decode cL_law 1305 = .ok (.if_icmp .eq 100, 3) := by decide +kernel
theorem dL_law_1308 : decode cL_law 1308 = .ok (.iconst 0, 1) := by decide +kernel
theorem dL_law_1309 : decode cL_law 1309 = .ok (.ireturn, 1) := by decide +kernel
theorem dL_law_1310 : decode cL_law 1310 = .ok (.aload_n 1, 1) := by decide +kernel
theorem dL_law_1311 : decode cL_law 1311 = .ok (.aload_n 0, 1) := by decide +kernel
theorem dL_law_1312 : decode cL_law 1312 = .ok (.iload_n 3, 1) := by decide +kernel
theorem dL_law_1313 : decode cL_law 1313 = .ok (.iconst 1, 1) := by decide +kernel
theorem dL_law_1314 : decode cL_law 1314 = .ok (.iadd, 1) := by decide +kernel
theorem dL_law_1315 : decode cL_law 1315 = .ok (.iaload, 1) := by decide +kernel
theorem dL_law_1316 : decode cL_law 1316 = .ok (.invokevirtual 151, 3) := by decide +kernel
theorem dL_law_1319 : decode cL_law 1319 = .ok (.aload_n 2, 1) := by decide +kernel
theorem dL_law_1320 : decode cL_law 1320 = .ok (.aload_n 0, 1) := by decide +kernel
theorem dL_law_1321 : decode cL_law 1321 = .ok (.iload_n 3, 1) := by decide +kernel
theorem dL_law_1322 : decode cL_law 1322 = .ok (.iconst 1, 1) := by decide +kernel
theorem dL_law_1323 : decode cL_law 1323 = .ok (.iadd, 1) := by decide +kernel
theorem dL_law_1324 : decode cL_law 1324 = .ok (.iaload, 1) := by decide +kernel
theorem dL_law_1325 : decode cL_law 1325 = .ok (.invokevirtual 154, 3) := by decide +kernel
theorem dL_law_1328 : decode cL_law 1328 = .ok (.if_icmp .eq 77, 3) := by decide +kernel
theorem dL_law_1331 : decode cL_law 1331 = .ok (.iconst 0, 1) := by decide +kernel
theorem dL_law_1332 : decode cL_law 1332 = .ok (.ireturn, 1) := by decide +kernel
theorem dL_law_1333 : decode cL_law 1333 = .ok (.aload_n 1, 1) := by decide +kernel
theorem dL_law_1334 : decode cL_law 1334 = .ok (.aload_n 0, 1) := by decide +kernel
theorem dL_law_1335 : decode cL_law 1335 = .ok (.iload_n 3, 1) := by decide +kernel
theorem dL_law_1336 : decode cL_law 1336 = .ok (.iconst 1, 1) := by decide +kernel
theorem dL_law_1337 : decode cL_law 1337 = .ok (.iadd, 1) := by decide +kernel
theorem dL_law_1338 : decode cL_law 1338 = .ok (.iaload, 1) := by decide +kernel
theorem dL_law_1339 : decode cL_law 1339 = .ok (.invokevirtual 155, 3) := by decide +kernel
theorem dL_law_1342 : decode cL_law 1342 = .ok (.aload_n 2, 1) := by decide +kernel
theorem dL_law_1343 : decode cL_law 1343 = .ok (.aload_n 0, 1) := by decide +kernel
theorem dL_law_1344 : decode cL_law 1344 = .ok (.iload_n 3, 1) := by decide +kernel
theorem dL_law_1345 : decode cL_law 1345 = .ok (.iconst 1, 1) := by decide +kernel
theorem dL_law_1346 : decode cL_law 1346 = .ok (.iadd, 1) := by decide +kernel
theorem dL_law_1347 : decode cL_law 1347 = .ok (.iaload, 1) := by decide +kernel
theorem dL_law_1348 : decode cL_law 1348 = .ok (.invokevirtual 158, 3) := by decide +kernel
theorem dL_law_1351 : decode cL_law 1351 = .ok (.if_icmp .eq 54, 3) := by decide +kernel
theorem dL_law_1354 : decode cL_law 1354 = .ok (.iconst 0, 1) := by decide +kernel
theorem dL_law_1355 : decode cL_law 1355 = .ok (.ireturn, 1) := by decide +kernel
theorem dL_law_1356 : decode cL_law 1356 = .ok (.aload_n 1, 1) := by decide +kernel
theorem dL_law_1357 : decode cL_law 1357 = .ok (.invokevirtual 159, 3) := by decide +kernel
theorem dL_law_1360 : decode cL_law 1360 = .ok (.aload_n 2, 1) := by decide +kernel
theorem dL_law_1361 : decode cL_law 1361 = .ok (.invokevirtual 162, 3) := by decide +kernel
theorem dL_law_1364 : decode cL_law 1364 = .ok (.if_icmp .eq 41, 3) := by decide +kernel
theorem dL_law_1367 : decode cL_law 1367 = .ok (.iconst 0, 1) := by decide +kernel
theorem dL_law_1368 : decode cL_law 1368 = .ok (.ireturn, 1) := by decide +kernel
theorem dL_law_1369 : decode cL_law 1369 = .ok (.aload_n 1, 1) := by decide +kernel
theorem dL_law_1370 : decode cL_law 1370 = .ok (.invokevirtual 163, 3) := by decide +kernel
theorem dL_law_1373 : decode cL_law 1373 = .ok (.aload_n 2, 1) := by decide +kernel
theorem dL_law_1374 : decode cL_law 1374 = .ok (.invokevirtual 166, 3) := by decide +kernel
theorem dL_law_1377 : decode cL_law 1377 = .ok (.if_icmp .eq 28, 3) := by decide +kernel
theorem dL_law_1380 : decode cL_law 1380 = .ok (.iconst 0, 1) := by decide +kernel
theorem dL_law_1381 : decode cL_law 1381 = .ok (.ireturn, 1) := by decide +kernel
theorem dL_law_1382 : decode cL_law 1382 = .ok (.aload_n 1, 1) := by decide +kernel
theorem dL_law_1383 : decode cL_law 1383 = .ok (.aload_n 0, 1) := by decide +kernel
theorem dL_law_1384 : decode cL_law 1384 = .ok (.iload_n 3, 1) := by decide +kernel
theorem dL_law_1385 : decode cL_law 1385 = .ok (.iconst 1, 1) := by decide +kernel
theorem dL_law_1386 : decode cL_law 1386 = .ok (.iadd, 1) := by decide +kernel
theorem dL_law_1387 : decode cL_law 1387 = .ok (.iaload, 1) := by decide +kernel
theorem dL_law_1388 : decode cL_law 1388 = .ok (.invokevirtual 167, 3) := by decide +kernel
theorem dL_law_1391 : decode cL_law 1391 = .ok (.aload_n 2, 1) := by decide +kernel
theorem dL_law_1392 : decode cL_law 1392 = .ok (.aload_n 0, 1) := by decide +kernel
theorem dL_law_1393 : decode cL_law 1393 = .ok (.iload_n 3, 1) := by decide +kernel
theorem dL_law_1394 : decode cL_law 1394 = .ok (.iconst 1, 1) := by decide +kernel
theorem dL_law_1395 : decode cL_law 1395 = .ok (.iadd, 1) := by decide +kernel
theorem dL_law_1396 : decode cL_law 1396 = .ok (.iaload, 1) := by decide +kernel
theorem dL_law_1397 : decode cL_law 1397 = .ok (.invokevirtual 170, 3) := by decide +kernel
theorem dL_law_1400 : decode cL_law 1400 = .ok (.if_icmp .eq 5, 3) := by decide +kernel
theorem dL_law_1403 : decode cL_law 1403 = .ok (.iconst 0, 1) := by decide +kernel
theorem dL_law_1404 : decode cL_law 1404 = .ok (.ireturn, 1) := by decide +kernel
theorem dL_law_1405 : decode cL_law 1405 = .ok (.iinc 3 7, 3) := by decide +kernel
theorem dL_law_1408 : decode cL_law 1408 = .ok (.goto (-1390), 3) := by decide +kernel
theorem dL_law_1411 : decode cL_law 1411 = .ok (.iconst 1, 1) := by decide +kernel
theorem dL_law_1412 : decode cL_law 1412 = .ok (.ireturn, 1) := by decide +kernel
def LL_law_18 (xs : Nat → Int) (L : Nat) (k1411 : Mem → Option Res) : Nat → Int → Mem → Option Res
  | 0 => fun _ _ => none
  | n + 1 => fun x3 s => (if wr (((L : Nat) : Int) - 7) < x3 then
 k1411 s
 else
 rd xs x3 L (fun v1 =>
 (if ian v1 63 = 0 then
 rd xs (wr (x3 + 1)) L (fun v2 =>
 rd xs (wr (x3 + 2)) L (fun v3 =>
 rd xs (wr (x3 + 3)) L (fun v4 =>
 rd xs (wr (x3 + 4)) L (fun v5 =>
 bnd (fX10_table v2 v3 v4 v5 s) (fun r6 s7 =>
 rd xs (wr (x3 + 1)) L (fun v8 =>
 rd xs (wr (x3 + 2)) L (fun v9 =>
 rd xs (wr (x3 + 3)) L (fun v10 =>
 rd xs (wr (x3 + 4)) L (fun v11 =>
 bnd (fX11_table v8 v9 v10 v11 s7) (fun r12 s13 =>
 (if r6 = r12 then
 LL_law_18 xs L k1411 n (wr (x3 + 7)) s13
 else
 none)))))))))))
 else
 (if ian v1 63 = 1 then
 rd xs (wr (x3 + 1)) L (fun v14 =>
 rd xs (wr (x3 + 2)) L (fun v15 =>
 rd xs (wr (x3 + 3)) L (fun v16 =>
 bnd (fX10_bath v14 v15 v16 s) (fun r17 s18 =>
 rd xs (wr (x3 + 1)) L (fun v19 =>
 rd xs (wr (x3 + 2)) L (fun v20 =>
 rd xs (wr (x3 + 3)) L (fun v21 =>
 bnd (fX11_bath v19 v20 v21 s18) (fun r22 s23 =>
 (if r17 = r22 then
 LL_law_18 xs L k1411 n (wr (x3 + 7)) s23
 else
 none)))))))))
 else
 (if ian v1 63 = 2 then
 rd xs (wr (x3 + 1)) L (fun v24 =>
 rd xs (wr (x3 + 2)) L (fun v25 =>
 bnd (fX10_lamp v24 v25 s) (fun r26 s27 =>
 rd xs (wr (x3 + 1)) L (fun v28 =>
 rd xs (wr (x3 + 2)) L (fun v29 =>
 bnd (fX11_lamp v28 v29 s27) (fun r30 s31 =>
 (if r26 = r30 then
 LL_law_18 xs L k1411 n (wr (x3 + 7)) s31
 else
 none)))))))
 else
 (if ian v1 63 = 3 then
 rd xs (wr (x3 + 1)) L (fun v32 =>
 rd xs (wr (x3 + 2)) L (fun v33 =>
 bnd (fX10_rule v32 v33 s) (fun r34 s35 =>
 rd xs (wr (x3 + 1)) L (fun v36 =>
 rd xs (wr (x3 + 2)) L (fun v37 =>
 bnd (fX11_rule v36 v37 s35) (fun r38 s39 =>
 (if r34 = r38 then
 LL_law_18 xs L k1411 n (wr (x3 + 7)) s39
 else
 none)))))))
 else
 (if ian v1 63 = 4 then
 rd xs (wr (x3 + 1)) L (fun v40 =>
 rd xs (wr (x3 + 2)) L (fun v41 =>
 bnd (fX10_bathTold v40 v41 s) (fun r42 s43 =>
 rd xs (wr (x3 + 1)) L (fun v44 =>
 rd xs (wr (x3 + 2)) L (fun v45 =>
 bnd (fX11_bathTold v44 v45 s43) (fun r46 s47 =>
 (if r42 = r46 then
 LL_law_18 xs L k1411 n (wr (x3 + 7)) s47
 else
 none)))))))
 else
 (if ian v1 63 = 5 then
 rd xs (wr (x3 + 1)) L (fun v48 =>
 rd xs (wr (x3 + 2)) L (fun v49 =>
 bnd (fX10_feet v48 v49 s) (fun r50 s51 =>
 rd xs (wr (x3 + 1)) L (fun v52 =>
 rd xs (wr (x3 + 2)) L (fun v53 =>
 bnd (fX11_feet v52 v53 s51) (fun r54 s55 =>
 (if r50 = r54 then
 LL_law_18 xs L k1411 n (wr (x3 + 7)) s55
 else
 none)))))))
 else
 (if ian v1 63 = 6 then
 rd xs (wr (x3 + 1)) L (fun v56 =>
 rd xs (wr (x3 + 2)) L (fun v57 =>
 rd xs (wr (x3 + 3)) L (fun v58 =>
 rd xs (wr (x3 + 4)) L (fun v59 =>
 bnd (fX10_exposure v56 v57 v58 v59 s) (fun r60 s61 =>
 rd xs (wr (x3 + 1)) L (fun v62 =>
 rd xs (wr (x3 + 2)) L (fun v63 =>
 rd xs (wr (x3 + 3)) L (fun v64 =>
 rd xs (wr (x3 + 4)) L (fun v65 =>
 bnd (fX11_exposure v62 v63 v64 v65 s61) (fun r66 s67 =>
 (if r60 = r66 then
 LL_law_18 xs L k1411 n (wr (x3 + 7)) s67
 else
 none)))))))))))
 else
 (if ian v1 63 = 7 then
 rd xs (wr (x3 + 1)) L (fun v68 =>
 rd xs (wr (x3 + 2)) L (fun v69 =>
 rd xs (wr (x3 + 3)) L (fun v70 =>
 rd xs (wr (x3 + 4)) L (fun v71 =>
 rd xs (wr (x3 + 5)) L (fun v72 =>
 rd xs (wr (x3 + 6)) L (fun v73 =>
 bnd (fX10_tone v68 v69 v70 v71 v72 v73 s) (fun r74 s75 =>
 rd xs (wr (x3 + 1)) L (fun v76 =>
 rd xs (wr (x3 + 2)) L (fun v77 =>
 rd xs (wr (x3 + 3)) L (fun v78 =>
 rd xs (wr (x3 + 4)) L (fun v79 =>
 rd xs (wr (x3 + 5)) L (fun v80 =>
 rd xs (wr (x3 + 6)) L (fun v81 =>
 bnd (fX11_tone v76 v77 v78 v79 v80 v81 s75) (fun r82 s83 =>
 (if r74 = r82 then
 LL_law_18 xs L k1411 n (wr (x3 + 7)) s83
 else
 none)))))))))))))))
 else
 (if ian v1 63 = 8 then
 rd xs (wr (x3 + 1)) L (fun v84 =>
 rd xs (wr (x3 + 2)) L (fun v85 =>
 rd xs (wr (x3 + 3)) L (fun v86 =>
 bnd (fX10_write v84 (lir (lsl (i2l v85) 32) (lan (i2l v86) ((4294967295 : Int64)))) s) (fun r87 s88 =>
 rd xs (wr (x3 + 1)) L (fun v89 =>
 rd xs (wr (x3 + 2)) L (fun v90 =>
 rd xs (wr (x3 + 3)) L (fun v91 =>
 bnd (fX11_write v89 (lir (lsl (i2l v90) 32) (lan (i2l v91) ((4294967295 : Int64)))) s88) (fun r92 s93 =>
 (if r87 = r92 then
 LL_law_18 xs L k1411 n (wr (x3 + 7)) s93
 else
 none)))))))))
 else
 (if ian v1 63 = 9 then
 bnd (fX10_clear s) (fun r94 s95 =>
 bnd (fX11_clear s95) (fun r96 s97 =>
 (if r94 = r96 then
 LL_law_18 xs L k1411 n (wr (x3 + 7)) s97
 else
 none)))
 else
 (if ian v1 63 = 10 then
 bnd (fX10_fault s) (fun r98 s99 =>
 bnd (fX11_fault s99) (fun r100 s101 =>
 (if r98 = r100 then
 LL_law_18 xs L k1411 n (wr (x3 + 7)) s101
 else
 none)))
 else
 (if ian v1 63 = 11 then
 bnd (fX10_load s) (fun r102 s103 =>
 bnd (fX11_load s103) (fun r104 s105 =>
 (if r102 = r104 then
 LL_law_18 xs L k1411 n (wr (x3 + 7)) s105
 else
 none)))
 else
 (if ian v1 63 = 12 then
 rd xs (wr (x3 + 1)) L (fun v106 =>
 rd xs (wr (x3 + 2)) L (fun v107 =>
 bnd (fX10_light v106 v107 s) (fun r108 s109 =>
 rd xs (wr (x3 + 1)) L (fun v110 =>
 rd xs (wr (x3 + 2)) L (fun v111 =>
 bnd (fX11_light v110 v111 s109) (fun r112 s113 =>
 (if r108 = r112 then
 LL_law_18 xs L k1411 n (wr (x3 + 7)) s113
 else
 none)))))))
 else
 (if ian v1 63 = 13 then
 rd xs (wr (x3 + 1)) L (fun v114 =>
 bnd (fX10_shotOf v114 s) (fun r115 s116 =>
 rd xs (wr (x3 + 1)) L (fun v117 =>
 bnd (fX11_shotOf v117 s116) (fun r118 s119 =>
 (if r115 = r118 then
 LL_law_18 xs L k1411 n (wr (x3 + 7)) s119
 else
 none)))))
 else
 (if ian v1 63 = 14 then
 rd xs (wr (x3 + 1)) L (fun v120 =>
 bnd (fX10_soon v120 s) (fun r121 s122 =>
 rd xs (wr (x3 + 1)) L (fun v123 =>
 bnd (fX11_soon v123 s122) (fun r124 s125 =>
 (if r121 = r124 then
 LL_law_18 xs L k1411 n (wr (x3 + 7)) s125
 else
 none)))))
 else
 (if ian v1 63 = 15 then
 rd xs (wr (x3 + 1)) L (fun v126 =>
 bnd (fX10_list v126 s) (fun r127 s128 =>
 rd xs (wr (x3 + 1)) L (fun v129 =>
 bnd (fX11_list v129 s128) (fun r130 s131 =>
 (if r127 = r130 then
 LL_law_18 xs L k1411 n (wr (x3 + 7)) s131
 else
 none)))))
 else
 (if ian v1 63 = 16 then
 rd xs (wr (x3 + 1)) L (fun v132 =>
 rd xs (wr (x3 + 2)) L (fun v133 =>
 rd xs (wr (x3 + 3)) L (fun v134 =>
 rd xs (wr (x3 + 4)) L (fun v135 =>
 bnd (fX10_shot v132 v133 v134 v135 s) (fun r136 s137 =>
 rd xs (wr (x3 + 1)) L (fun v138 =>
 rd xs (wr (x3 + 2)) L (fun v139 =>
 rd xs (wr (x3 + 3)) L (fun v140 =>
 rd xs (wr (x3 + 4)) L (fun v141 =>
 bnd (fX11_shot v138 v139 v140 v141 s137) (fun r142 s143 =>
 (if r136 = r142 then
 LL_law_18 xs L k1411 n (wr (x3 + 7)) s143
 else
 none)))))))))))
 else
 (if ian v1 63 = 17 then
 rd xs (wr (x3 + 1)) L (fun v144 =>
 rd xs (wr (x3 + 2)) L (fun v145 =>
 rd xs (wr (x3 + 3)) L (fun v146 =>
 rd xs (wr (x3 + 4)) L (fun v147 =>
 bnd (fX10_grade v144 v145 v146 v147 s) (fun r148 s149 =>
 rd xs (wr (x3 + 1)) L (fun v150 =>
 rd xs (wr (x3 + 2)) L (fun v151 =>
 rd xs (wr (x3 + 3)) L (fun v152 =>
 rd xs (wr (x3 + 4)) L (fun v153 =>
 bnd (fX11_grade v150 v151 v152 v153 s149) (fun r154 s155 =>
 (if r148 = r154 then
 LL_law_18 xs L k1411 n (wr (x3 + 7)) s155
 else
 none)))))))))))
 else
 (if ian v1 63 = 18 then
 rd xs (wr (x3 + 1)) L (fun v156 =>
 rd xs (wr (x3 + 2)) L (fun v157 =>
 rd xs (wr (x3 + 3)) L (fun v158 =>
 rd xs (wr (x3 + 4)) L (fun v159 =>
 bnd (fX10_frameTone v156 v157 v158 v159 s) (fun r160 s161 =>
 rd xs (wr (x3 + 1)) L (fun v162 =>
 rd xs (wr (x3 + 2)) L (fun v163 =>
 rd xs (wr (x3 + 3)) L (fun v164 =>
 rd xs (wr (x3 + 4)) L (fun v165 =>
 bnd (fX11_frameTone v162 v163 v164 v165 s161) (fun r166 s167 =>
 (if r160 = r166 then
 LL_law_18 xs L k1411 n (wr (x3 + 7)) s167
 else
 none)))))))))))
 else
 (if ian v1 63 = 19 then
 rd xs (wr (x3 + 1)) L (fun v168 =>
 rd xs (wr (x3 + 2)) L (fun v169 =>
 rd xs (wr (x3 + 3)) L (fun v170 =>
 bnd (fX10_strip v168 v169 v170 s) (fun r171 s172 =>
 rd xs (wr (x3 + 1)) L (fun v173 =>
 rd xs (wr (x3 + 2)) L (fun v174 =>
 rd xs (wr (x3 + 3)) L (fun v175 =>
 bnd (fX11_strip v173 v174 v175 s172) (fun r176 s177 =>
 (if r171 = r176 then
 LL_law_18 xs L k1411 n (wr (x3 + 7)) s177
 else
 none)))))))))
 else
 (if ian v1 63 = 20 then
 bnd (fX10_noStrips s) (fun r178 s179 =>
 bnd (fX11_noStrips s179) (fun r180 s181 =>
 (if r178 = r180 then
 LL_law_18 xs L k1411 n (wr (x3 + 7)) s181
 else
 none)))
 else
 (if ian v1 63 = 21 then
 rd xs (wr (x3 + 1)) L (fun v182 =>
 bnd (fX10_drift v182 s) (fun r183 s184 =>
 rd xs (wr (x3 + 1)) L (fun v185 =>
 bnd (fX11_drift v185 s184) (fun r186 s187 =>
 (if r183 = r186 then
 LL_law_18 xs L k1411 n (wr (x3 + 7)) s187
 else
 none)))))
 else
 (if ian v1 63 = 22 then
 rd xs (wr (x3 + 1)) L (fun v188 =>
 rd xs (wr (x3 + 2)) L (fun v189 =>
 rd xs (wr (x3 + 3)) L (fun v190 =>
 bnd (fX10_reel v188 v189 v190 s) (fun r191 s192 =>
 rd xs (wr (x3 + 1)) L (fun v193 =>
 rd xs (wr (x3 + 2)) L (fun v194 =>
 rd xs (wr (x3 + 3)) L (fun v195 =>
 bnd (fX11_reel v193 v194 v195 s192) (fun r196 s197 =>
 (if r191 = r196 then
 LL_law_18 xs L k1411 n (wr (x3 + 7)) s197
 else
 none)))))))))
 else
 (if ian v1 63 = 23 then
 rd xs (wr (x3 + 1)) L (fun v198 =>
 rd xs (wr (x3 + 2)) L (fun v199 =>
 jn (fun (u200 : Int) (s201 : Mem) =>
 bnd (fX10_lose v198 u200 s201) (fun r202 s203 =>
 rd xs (wr (x3 + 1)) L (fun v204 =>
 rd xs (wr (x3 + 2)) L (fun v205 =>
 jn (fun (u206 : Int) (s207 : Mem) =>
 bnd (fX11_lose v204 u206 s207) (fun r208 s209 =>
 (if r202 = r208 then
 LL_law_18 xs L k1411 n (wr (x3 + 7)) s209
 else
 none))) (fun k1078 =>
 (if v205 = 0 then
 k1078 0 s203
 else
 k1078 1 s203)))))) (fun k1056 =>
 (if v199 = 0 then
 k1056 0 s
 else
 k1056 1 s))))
 else
 (if ian v1 63 = 24 then
 rd xs (wr (x3 + 1)) L (fun v210 =>
 rd xs (wr (x3 + 2)) L (fun v211 =>
 rd xs (wr (x3 + 3)) L (fun v212 =>
 bnd (fX10_from v210 v211 v212 s) (fun r213 s214 =>
 rd xs (wr (x3 + 1)) L (fun v215 =>
 rd xs (wr (x3 + 2)) L (fun v216 =>
 rd xs (wr (x3 + 3)) L (fun v217 =>
 bnd (fX11_from v215 v216 v217 s214) (fun r218 s219 =>
 (if r213 = r218 then
 LL_law_18 xs L k1411 n (wr (x3 + 7)) s219
 else
 none)))))))))
 else
 (if ian v1 63 = 25 then
 rd xs (wr (x3 + 1)) L (fun v220 =>
 bnd (fX10_edge v220 s) (fun r221 s222 =>
 rd xs (wr (x3 + 1)) L (fun v223 =>
 bnd (fX11_edge v223 s222) (fun r224 s225 =>
 (if r221 = r224 then
 LL_law_18 xs L k1411 n (wr (x3 + 7)) s225
 else
 none)))))
 else
 (if ian v1 63 = 26 then
 bnd (fX10_missing s) (fun r226 s227 =>
 bnd (fX11_missing s227) (fun r228 s229 =>
 (if r226 = r228 then
 LL_law_18 xs L k1411 n (wr (x3 + 7)) s229
 else
 none)))
 else
 (if ian v1 63 = 27 then
 rd xs (wr (x3 + 1)) L (fun v230 =>
 rd xs (wr (x3 + 2)) L (fun v231 =>
 bnd (fX10_where v230 v231 s) (fun r232 s233 =>
 rd xs (wr (x3 + 1)) L (fun v234 =>
 rd xs (wr (x3 + 2)) L (fun v235 =>
 bnd (fX11_where v234 v235 s233) (fun r236 s237 =>
 (if r232 = r236 then
 LL_law_18 xs L k1411 n (wr (x3 + 7)) s237
 else
 none)))))))
 else
 (if ian v1 63 = 28 then
 rd xs (wr (x3 + 1)) L (fun v238 =>
 bnd (fX10_splice v238 s) (fun r239 s240 =>
 rd xs (wr (x3 + 1)) L (fun v241 =>
 bnd (fX11_splice v241 s240) (fun r242 s243 =>
 (if r239 = r242 then
 LL_law_18 xs L k1411 n (wr (x3 + 7)) s243
 else
 none)))))
 else
 (if ian v1 63 = 29 then
 rd xs (wr (x3 + 1)) L (fun v244 =>
 bnd (fX10_run v244 s) (fun r245 s246 =>
 rd xs (wr (x3 + 1)) L (fun v247 =>
 bnd (fX11_run v247 s246) (fun r248 s249 =>
 (if r245 = r248 then
 LL_law_18 xs L k1411 n (wr (x3 + 7)) s249
 else
 none)))))
 else
 (if ian v1 63 = 30 then
 bnd (fX10_mend s) (fun r250 s251 =>
 bnd (fX11_mend s251) (fun r252 s253 =>
 (if r250 = r252 then
 LL_law_18 xs L k1411 n (wr (x3 + 7)) s253
 else
 none)))
 else
 (if ian v1 63 = 31 then
 rd xs (wr (x3 + 1)) L (fun v254 =>
 rd xs (wr (x3 + 2)) L (fun v255 =>
 rd xs (wr (x3 + 3)) L (fun v256 =>
 rd xs (wr (x3 + 4)) L (fun v257 =>
 bnd (fX10_order v254 v255 v256 v257 s) (fun r258 s259 =>
 rd xs (wr (x3 + 1)) L (fun v260 =>
 rd xs (wr (x3 + 2)) L (fun v261 =>
 rd xs (wr (x3 + 3)) L (fun v262 =>
 rd xs (wr (x3 + 4)) L (fun v263 =>
 bnd (fX11_order v260 v261 v262 v263 s259) (fun r264 s265 =>
 (if r258 = r264 then
 LL_law_18 xs L k1411 n (wr (x3 + 7)) s265
 else
 none)))))))))))
 else
 (if ian v1 63 = 32 then
 rd xs (wr (x3 + 1)) L (fun v266 =>
 bnd (fX10_drop v266 s) (fun r267 s268 =>
 rd xs (wr (x3 + 1)) L (fun v269 =>
 bnd (fX11_drop v269 s268) (fun r270 s271 =>
 (if r267 = r270 then
 LL_law_18 xs L k1411 n (wr (x3 + 7)) s271
 else
 none)))))
 else
 (if ian v1 63 = 33 then
 rd xs (wr (x3 + 1)) L (fun v272 =>
 bnd (fX10_plan v272 s) (fun r273 s274 =>
 rd xs (wr (x3 + 1)) L (fun v275 =>
 bnd (fX11_plan v275 s274) (fun r276 s277 =>
 (if r273 = r276 then
 LL_law_18 xs L k1411 n (wr (x3 + 7)) s277
 else
 none)))))
 else
 (if ian v1 63 = 34 then
 bnd (fX10_keep s) (fun r278 s279 =>
 bnd (fX11_keep s279) (fun r280 s281 =>
 (if r278 = r280 then
 LL_law_18 xs L k1411 n (wr (x3 + 7)) s281
 else
 none)))
 else
 (if ian v1 63 = 35 then
 bnd (fX10_back s) (fun r282 s283 =>
 bnd (fX11_back s283) (fun r284 s285 =>
 (if r282 = r284 then
 LL_law_18 xs L k1411 n (wr (x3 + 7)) s285
 else
 none)))
 else
 (if ian v1 63 = 36 then
 rd xs (wr (x3 + 1)) L (fun v286 =>
 bnd (fX10_count v286 s) (fun r287 s288 =>
 rd xs (wr (x3 + 1)) L (fun v289 =>
 bnd (fX11_count v289 s288) (fun r290 s291 =>
 (if r287 = r290 then
 LL_law_18 xs L k1411 n (wr (x3 + 7)) s291
 else
 none)))))
 else
 LL_law_18 xs L k1411 n (wr (x3 + 7)) s)))))))))))))))))))))))))))))))))))))))
/-- the law from its loop on, as a program -/
def fL_law (xs : Nat → Int) (L : Nat) (s0 : Mem) : Option Res :=
 LL_law_18 xs L (fun s292 =>
 some (1, s292)) FU 0 s0
set_option maxRecDepth 100000 in
set_option maxHeartbeats 16000000 in
theorem jLL_law_18 {K : KT} (hq : KL K) (xs : Nat → Int) (L : Nat) (hsc : SCR K xs L) (hL : L < 2147483648) (k1411 : Mem → Option Res) (hk1411 : ∀ (s : Mem), J K rmL_law cL_law RL 4 1411 [none, none, none, none] [] s (k1411 s)) : ∀ (n : Nat) (x3 : Int) (s : Mem), J K rmL_law cL_law RL 4 18 [some (.inr (.inr 1004)), some (.inr (.inr 0)), some (.inr (.inr 100)), some (.inl x3)] [] s (LL_law_18 xs L k1411 n x3 s) := by
  intro n
  induction n with
  | zero => intros; exact J_none
  | succ n ih =>
    intro x3 s
    show J K _ _ _ _ _ _ _ _ (LL_law_18 xs L k1411 (n + 1) x3 s)
    simp only [LL_law_18]
    refine j_iload_n dL_law_18 rfl rfl ?_
    refine j_aload_n dL_law_19 rfl rfl ?_
    refine j_sclen hsc hL dL_law_20 ?_
    refine j_bipush (v := 7) dL_law_21 (by decide +kernel) (inr_d rfl) ?_
    refine j_isub dL_law_23 ?_
    refine j_icmp_gt (tgt := 1411) dL_law_24 rfl ?_ ?_
    · exact j_msk [false, false, false, false] (hk1411 _)
    · refine j_aload_n dL_law_27 rfl rfl ?_
      refine j_iload_n dL_law_28 rfl rfl ?_
      refine j_scld hsc dL_law_29 (fun v1 => ?_)
      refine j_bipush (v := 63) dL_law_30 (by decide +kernel) (inr_d rfl) ?_
      refine j_iand dL_law_32 ?_
      refine j_if (fun hc0 => ?_) (fun hc0 => ?_)
      · refine j_tsIn (tgt := 196) 0 hc0 dL_law_33 (by decide) (by decide) rfl rfl ?_
        refine j_aload_n dL_law_196 rfl rfl ?_
        refine j_aload_n dL_law_197 rfl rfl ?_
        refine j_iload_n dL_law_198 rfl rfl ?_
        refine j_iconst dL_law_199 (inr_d rfl) ?_
        refine j_iadd dL_law_200 ?_
        refine j_scld hsc dL_law_201 (fun v2 => ?_)
        refine j_aload_n dL_law_202 rfl rfl ?_
        refine j_iload_n dL_law_203 rfl rfl ?_
        refine j_iconst dL_law_204 (inr_d rfl) ?_
        refine j_iadd dL_law_205 ?_
        refine j_scld hsc dL_law_206 (fun v3 => ?_)
        refine j_aload_n dL_law_207 rfl rfl ?_
        refine j_iload_n dL_law_208 rfl rfl ?_
        refine j_iconst dL_law_209 (inr_d rfl) ?_
        refine j_iadd dL_law_210 ?_
        refine j_scld hsc dL_law_211 (fun v4 => ?_)
        refine j_aload_n dL_law_212 rfl rfl ?_
        refine j_iload_n dL_law_213 rfl rfl ?_
        refine j_iconst dL_law_214 (inr_d rfl) ?_
        refine j_iadd dL_law_215 ?_
        refine j_scld hsc dL_law_216 (fun v5 => ?_)
        refine j_callVi (mX10_table (kl K) (kD K) (kad K) (kcA K) v2 v3 v4 v5 s) cw_RL_13 sh_0 rfl ⟨rfl, rfl, by decide, by decide⟩ rfl rfl (Nat.le_of_ble_eq_true rfl) dL_law_217 (fun r6 s7 => ?_)
        refine j_aload_n dL_law_220 rfl rfl ?_
        refine j_aload_n dL_law_221 rfl rfl ?_
        refine j_iload_n dL_law_222 rfl rfl ?_
        refine j_iconst dL_law_223 (inr_d rfl) ?_
        refine j_iadd dL_law_224 ?_
        refine j_scld hsc dL_law_225 (fun v8 => ?_)
        refine j_aload_n dL_law_226 rfl rfl ?_
        refine j_iload_n dL_law_227 rfl rfl ?_
        refine j_iconst dL_law_228 (inr_d rfl) ?_
        refine j_iadd dL_law_229 ?_
        refine j_scld hsc dL_law_230 (fun v9 => ?_)
        refine j_aload_n dL_law_231 rfl rfl ?_
        refine j_iload_n dL_law_232 rfl rfl ?_
        refine j_iconst dL_law_233 (inr_d rfl) ?_
        refine j_iadd dL_law_234 ?_
        refine j_scld hsc dL_law_235 (fun v10 => ?_)
        refine j_aload_n dL_law_236 rfl rfl ?_
        refine j_iload_n dL_law_237 rfl rfl ?_
        refine j_iconst dL_law_238 (inr_d rfl) ?_
        refine j_iadd dL_law_239 ?_
        refine j_scld hsc dL_law_240 (fun v11 => ?_)
        refine j_callVi (mX11_table (kl K) (kD K) (kad K) (kcA K) v8 v9 v10 v11 s7) cw_RL_17 sh_100 rfl ⟨rfl, rfl, by decide, by decide⟩ rfl rfl (Nat.le_of_ble_eq_true rfl) dL_law_241 (fun r12 s13 => ?_)
        refine j_icmp_eq (tgt := 1405) dL_law_244 rfl ?_ ?_
        · refine j_iincE (ls2 := [some (.inr (.inr 1004)), some (.inr (.inr 0)), some (.inr (.inr 100)), some (.inl (wr (x3 + 7)))]) dL_law_1405 rfl (by decide) rfl rfl ?_
          refine j_goto (tgt := 18) dL_law_1408 rfl ?_
          exact j_msk [true, true, true, true] (ih _ _)
        · refine j_iconst dL_law_247 (inr_d rfl) ?_
          exact J_none
      refine j_if (fun hc1 => ?_) (fun hc1 => ?_)
      · refine j_tsIn (tgt := 249) 1 hc1 dL_law_33 (by decide) (by decide) rfl rfl ?_
        refine j_aload_n dL_law_249 rfl rfl ?_
        refine j_aload_n dL_law_250 rfl rfl ?_
        refine j_iload_n dL_law_251 rfl rfl ?_
        refine j_iconst dL_law_252 (inr_d rfl) ?_
        refine j_iadd dL_law_253 ?_
        refine j_scld hsc dL_law_254 (fun v14 => ?_)
        refine j_aload_n dL_law_255 rfl rfl ?_
        refine j_iload_n dL_law_256 rfl rfl ?_
        refine j_iconst dL_law_257 (inr_d rfl) ?_
        refine j_iadd dL_law_258 ?_
        refine j_scld hsc dL_law_259 (fun v15 => ?_)
        refine j_aload_n dL_law_260 rfl rfl ?_
        refine j_iload_n dL_law_261 rfl rfl ?_
        refine j_iconst dL_law_262 (inr_d rfl) ?_
        refine j_iadd dL_law_263 ?_
        refine j_scld hsc dL_law_264 (fun v16 => ?_)
        refine j_callVi (mX10_bath (kl K) (kD K) (kad K) (kcA K) v14 v15 v16 s) cw_RL_18 sh_0 rfl ⟨rfl, rfl, by decide, by decide⟩ rfl rfl (Nat.le_of_ble_eq_true rfl) dL_law_265 (fun r17 s18 => ?_)
        refine j_aload_n dL_law_268 rfl rfl ?_
        refine j_aload_n dL_law_269 rfl rfl ?_
        refine j_iload_n dL_law_270 rfl rfl ?_
        refine j_iconst dL_law_271 (inr_d rfl) ?_
        refine j_iadd dL_law_272 ?_
        refine j_scld hsc dL_law_273 (fun v19 => ?_)
        refine j_aload_n dL_law_274 rfl rfl ?_
        refine j_iload_n dL_law_275 rfl rfl ?_
        refine j_iconst dL_law_276 (inr_d rfl) ?_
        refine j_iadd dL_law_277 ?_
        refine j_scld hsc dL_law_278 (fun v20 => ?_)
        refine j_aload_n dL_law_279 rfl rfl ?_
        refine j_iload_n dL_law_280 rfl rfl ?_
        refine j_iconst dL_law_281 (inr_d rfl) ?_
        refine j_iadd dL_law_282 ?_
        refine j_scld hsc dL_law_283 (fun v21 => ?_)
        refine j_callVi (mX11_bath (kl K) (kD K) (kad K) (kcA K) v19 v20 v21 s18) cw_RL_22 sh_100 rfl ⟨rfl, rfl, by decide, by decide⟩ rfl rfl (Nat.le_of_ble_eq_true rfl) dL_law_284 (fun r22 s23 => ?_)
        refine j_icmp_eq (tgt := 1405) dL_law_287 rfl ?_ ?_
        · refine j_iincE (ls2 := [some (.inr (.inr 1004)), some (.inr (.inr 0)), some (.inr (.inr 100)), some (.inl (wr (x3 + 7)))]) dL_law_1405 rfl (by decide) rfl rfl ?_
          refine j_goto (tgt := 18) dL_law_1408 rfl ?_
          exact j_msk [true, true, true, true] (ih _ _)
        · refine j_iconst dL_law_290 (inr_d rfl) ?_
          exact J_none
      refine j_if (fun hc2 => ?_) (fun hc2 => ?_)
      · refine j_tsIn (tgt := 292) 2 hc2 dL_law_33 (by decide) (by decide) rfl rfl ?_
        refine j_aload_n dL_law_292 rfl rfl ?_
        refine j_aload_n dL_law_293 rfl rfl ?_
        refine j_iload_n dL_law_294 rfl rfl ?_
        refine j_iconst dL_law_295 (inr_d rfl) ?_
        refine j_iadd dL_law_296 ?_
        refine j_scld hsc dL_law_297 (fun v24 => ?_)
        refine j_aload_n dL_law_298 rfl rfl ?_
        refine j_iload_n dL_law_299 rfl rfl ?_
        refine j_iconst dL_law_300 (inr_d rfl) ?_
        refine j_iadd dL_law_301 ?_
        refine j_scld hsc dL_law_302 (fun v25 => ?_)
        refine j_callVi (mX10_lamp (kl K) (kD K) (kad K) (kcA K) v24 v25 s) cw_RL_23 sh_0 rfl ⟨rfl, rfl, by decide, by decide⟩ rfl rfl (Nat.le_of_ble_eq_true rfl) dL_law_303 (fun r26 s27 => ?_)
        refine j_aload_n dL_law_306 rfl rfl ?_
        refine j_aload_n dL_law_307 rfl rfl ?_
        refine j_iload_n dL_law_308 rfl rfl ?_
        refine j_iconst dL_law_309 (inr_d rfl) ?_
        refine j_iadd dL_law_310 ?_
        refine j_scld hsc dL_law_311 (fun v28 => ?_)
        refine j_aload_n dL_law_312 rfl rfl ?_
        refine j_iload_n dL_law_313 rfl rfl ?_
        refine j_iconst dL_law_314 (inr_d rfl) ?_
        refine j_iadd dL_law_315 ?_
        refine j_scld hsc dL_law_316 (fun v29 => ?_)
        refine j_callVi (mX11_lamp (kl K) (kD K) (kad K) (kcA K) v28 v29 s27) cw_RL_27 sh_100 rfl ⟨rfl, rfl, by decide, by decide⟩ rfl rfl (Nat.le_of_ble_eq_true rfl) dL_law_317 (fun r30 s31 => ?_)
        refine j_icmp_eq (tgt := 1405) dL_law_320 rfl ?_ ?_
        · refine j_iincE (ls2 := [some (.inr (.inr 1004)), some (.inr (.inr 0)), some (.inr (.inr 100)), some (.inl (wr (x3 + 7)))]) dL_law_1405 rfl (by decide) rfl rfl ?_
          refine j_goto (tgt := 18) dL_law_1408 rfl ?_
          exact j_msk [true, true, true, true] (ih _ _)
        · refine j_iconst dL_law_323 (inr_d rfl) ?_
          exact J_none
      refine j_if (fun hc3 => ?_) (fun hc3 => ?_)
      · refine j_tsIn (tgt := 325) 3 hc3 dL_law_33 (by decide) (by decide) rfl rfl ?_
        refine j_aload_n dL_law_325 rfl rfl ?_
        refine j_aload_n dL_law_326 rfl rfl ?_
        refine j_iload_n dL_law_327 rfl rfl ?_
        refine j_iconst dL_law_328 (inr_d rfl) ?_
        refine j_iadd dL_law_329 ?_
        refine j_scld hsc dL_law_330 (fun v32 => ?_)
        refine j_aload_n dL_law_331 rfl rfl ?_
        refine j_iload_n dL_law_332 rfl rfl ?_
        refine j_iconst dL_law_333 (inr_d rfl) ?_
        refine j_iadd dL_law_334 ?_
        refine j_scld hsc dL_law_335 (fun v33 => ?_)
        refine j_callVi (mX10_rule (kl K) (kD K) (kad K) (kcA K) v32 v33 s) cw_RL_28 sh_0 rfl ⟨rfl, rfl, by decide, by decide⟩ rfl rfl (Nat.le_of_ble_eq_true rfl) dL_law_336 (fun r34 s35 => ?_)
        refine j_aload_n dL_law_339 rfl rfl ?_
        refine j_aload_n dL_law_340 rfl rfl ?_
        refine j_iload_n dL_law_341 rfl rfl ?_
        refine j_iconst dL_law_342 (inr_d rfl) ?_
        refine j_iadd dL_law_343 ?_
        refine j_scld hsc dL_law_344 (fun v36 => ?_)
        refine j_aload_n dL_law_345 rfl rfl ?_
        refine j_iload_n dL_law_346 rfl rfl ?_
        refine j_iconst dL_law_347 (inr_d rfl) ?_
        refine j_iadd dL_law_348 ?_
        refine j_scld hsc dL_law_349 (fun v37 => ?_)
        refine j_callVi (mX11_rule (kl K) (kD K) (kad K) (kcA K) v36 v37 s35) cw_RL_31 sh_100 rfl ⟨rfl, rfl, by decide, by decide⟩ rfl rfl (Nat.le_of_ble_eq_true rfl) dL_law_350 (fun r38 s39 => ?_)
        refine j_icmp_eq (tgt := 1405) dL_law_353 rfl ?_ ?_
        · refine j_iincE (ls2 := [some (.inr (.inr 1004)), some (.inr (.inr 0)), some (.inr (.inr 100)), some (.inl (wr (x3 + 7)))]) dL_law_1405 rfl (by decide) rfl rfl ?_
          refine j_goto (tgt := 18) dL_law_1408 rfl ?_
          exact j_msk [true, true, true, true] (ih _ _)
        · refine j_iconst dL_law_356 (inr_d rfl) ?_
          exact J_none
      refine j_if (fun hc4 => ?_) (fun hc4 => ?_)
      · refine j_tsIn (tgt := 358) 4 hc4 dL_law_33 (by decide) (by decide) rfl rfl ?_
        refine j_aload_n dL_law_358 rfl rfl ?_
        refine j_aload_n dL_law_359 rfl rfl ?_
        refine j_iload_n dL_law_360 rfl rfl ?_
        refine j_iconst dL_law_361 (inr_d rfl) ?_
        refine j_iadd dL_law_362 ?_
        refine j_scld hsc dL_law_363 (fun v40 => ?_)
        refine j_aload_n dL_law_364 rfl rfl ?_
        refine j_iload_n dL_law_365 rfl rfl ?_
        refine j_iconst dL_law_366 (inr_d rfl) ?_
        refine j_iadd dL_law_367 ?_
        refine j_scld hsc dL_law_368 (fun v41 => ?_)
        refine j_callVi (mX10_bathTold (kl K) (kD K) (kad K) (kcA K) v40 v41 s) cw_RL_32 sh_0 rfl ⟨rfl, rfl, by decide, by decide⟩ rfl rfl (Nat.le_of_ble_eq_true rfl) dL_law_369 (fun r42 s43 => ?_)
        refine j_aload_n dL_law_372 rfl rfl ?_
        refine j_aload_n dL_law_373 rfl rfl ?_
        refine j_iload_n dL_law_374 rfl rfl ?_
        refine j_iconst dL_law_375 (inr_d rfl) ?_
        refine j_iadd dL_law_376 ?_
        refine j_scld hsc dL_law_377 (fun v44 => ?_)
        refine j_aload_n dL_law_378 rfl rfl ?_
        refine j_iload_n dL_law_379 rfl rfl ?_
        refine j_iconst dL_law_380 (inr_d rfl) ?_
        refine j_iadd dL_law_381 ?_
        refine j_scld hsc dL_law_382 (fun v45 => ?_)
        refine j_callVi (mX11_bathTold (kl K) (kD K) (kad K) (kcA K) v44 v45 s43) cw_RL_35 sh_100 rfl ⟨rfl, rfl, by decide, by decide⟩ rfl rfl (Nat.le_of_ble_eq_true rfl) dL_law_383 (fun r46 s47 => ?_)
        refine j_icmp_eq (tgt := 1405) dL_law_386 rfl ?_ ?_
        · refine j_iincE (ls2 := [some (.inr (.inr 1004)), some (.inr (.inr 0)), some (.inr (.inr 100)), some (.inl (wr (x3 + 7)))]) dL_law_1405 rfl (by decide) rfl rfl ?_
          refine j_goto (tgt := 18) dL_law_1408 rfl ?_
          exact j_msk [true, true, true, true] (ih _ _)
        · refine j_iconst dL_law_389 (inr_d rfl) ?_
          exact J_none
      refine j_if (fun hc5 => ?_) (fun hc5 => ?_)
      · refine j_tsIn (tgt := 391) 5 hc5 dL_law_33 (by decide) (by decide) rfl rfl ?_
        refine j_aload_n dL_law_391 rfl rfl ?_
        refine j_aload_n dL_law_392 rfl rfl ?_
        refine j_iload_n dL_law_393 rfl rfl ?_
        refine j_iconst dL_law_394 (inr_d rfl) ?_
        refine j_iadd dL_law_395 ?_
        refine j_scld hsc dL_law_396 (fun v48 => ?_)
        refine j_aload_n dL_law_397 rfl rfl ?_
        refine j_iload_n dL_law_398 rfl rfl ?_
        refine j_iconst dL_law_399 (inr_d rfl) ?_
        refine j_iadd dL_law_400 ?_
        refine j_scld hsc dL_law_401 (fun v49 => ?_)
        refine j_callVi (mX10_feet (kl K) (kD K) (kad K) (kcA K) v48 v49 s) cw_RL_36 sh_0 rfl ⟨rfl, rfl, by decide, by decide⟩ rfl rfl (Nat.le_of_ble_eq_true rfl) dL_law_402 (fun r50 s51 => ?_)
        refine j_aload_n dL_law_405 rfl rfl ?_
        refine j_aload_n dL_law_406 rfl rfl ?_
        refine j_iload_n dL_law_407 rfl rfl ?_
        refine j_iconst dL_law_408 (inr_d rfl) ?_
        refine j_iadd dL_law_409 ?_
        refine j_scld hsc dL_law_410 (fun v52 => ?_)
        refine j_aload_n dL_law_411 rfl rfl ?_
        refine j_iload_n dL_law_412 rfl rfl ?_
        refine j_iconst dL_law_413 (inr_d rfl) ?_
        refine j_iadd dL_law_414 ?_
        refine j_scld hsc dL_law_415 (fun v53 => ?_)
        refine j_callVi (mX11_feet (kl K) (kD K) (kad K) (kcA K) v52 v53 s51) cw_RL_39 sh_100 rfl ⟨rfl, rfl, by decide, by decide⟩ rfl rfl (Nat.le_of_ble_eq_true rfl) dL_law_416 (fun r54 s55 => ?_)
        refine j_icmp_eq (tgt := 1405) dL_law_419 rfl ?_ ?_
        · refine j_iincE (ls2 := [some (.inr (.inr 1004)), some (.inr (.inr 0)), some (.inr (.inr 100)), some (.inl (wr (x3 + 7)))]) dL_law_1405 rfl (by decide) rfl rfl ?_
          refine j_goto (tgt := 18) dL_law_1408 rfl ?_
          exact j_msk [true, true, true, true] (ih _ _)
        · refine j_iconst dL_law_422 (inr_d rfl) ?_
          exact J_none
      refine j_if (fun hc6 => ?_) (fun hc6 => ?_)
      · refine j_tsIn (tgt := 424) 6 hc6 dL_law_33 (by decide) (by decide) rfl rfl ?_
        refine j_aload_n dL_law_424 rfl rfl ?_
        refine j_aload_n dL_law_425 rfl rfl ?_
        refine j_iload_n dL_law_426 rfl rfl ?_
        refine j_iconst dL_law_427 (inr_d rfl) ?_
        refine j_iadd dL_law_428 ?_
        refine j_scld hsc dL_law_429 (fun v56 => ?_)
        refine j_aload_n dL_law_430 rfl rfl ?_
        refine j_iload_n dL_law_431 rfl rfl ?_
        refine j_iconst dL_law_432 (inr_d rfl) ?_
        refine j_iadd dL_law_433 ?_
        refine j_scld hsc dL_law_434 (fun v57 => ?_)
        refine j_aload_n dL_law_435 rfl rfl ?_
        refine j_iload_n dL_law_436 rfl rfl ?_
        refine j_iconst dL_law_437 (inr_d rfl) ?_
        refine j_iadd dL_law_438 ?_
        refine j_scld hsc dL_law_439 (fun v58 => ?_)
        refine j_aload_n dL_law_440 rfl rfl ?_
        refine j_iload_n dL_law_441 rfl rfl ?_
        refine j_iconst dL_law_442 (inr_d rfl) ?_
        refine j_iadd dL_law_443 ?_
        refine j_scld hsc dL_law_444 (fun v59 => ?_)
        refine j_callVi (mX10_exposure (kl K) (kD K) (kad K) (kcA K) v56 v57 v58 v59 s) cw_RL_40 sh_0 rfl ⟨rfl, rfl, by decide, by decide⟩ rfl rfl (Nat.le_of_ble_eq_true rfl) dL_law_445 (fun r60 s61 => ?_)
        refine j_aload_n dL_law_448 rfl rfl ?_
        refine j_aload_n dL_law_449 rfl rfl ?_
        refine j_iload_n dL_law_450 rfl rfl ?_
        refine j_iconst dL_law_451 (inr_d rfl) ?_
        refine j_iadd dL_law_452 ?_
        refine j_scld hsc dL_law_453 (fun v62 => ?_)
        refine j_aload_n dL_law_454 rfl rfl ?_
        refine j_iload_n dL_law_455 rfl rfl ?_
        refine j_iconst dL_law_456 (inr_d rfl) ?_
        refine j_iadd dL_law_457 ?_
        refine j_scld hsc dL_law_458 (fun v63 => ?_)
        refine j_aload_n dL_law_459 rfl rfl ?_
        refine j_iload_n dL_law_460 rfl rfl ?_
        refine j_iconst dL_law_461 (inr_d rfl) ?_
        refine j_iadd dL_law_462 ?_
        refine j_scld hsc dL_law_463 (fun v64 => ?_)
        refine j_aload_n dL_law_464 rfl rfl ?_
        refine j_iload_n dL_law_465 rfl rfl ?_
        refine j_iconst dL_law_466 (inr_d rfl) ?_
        refine j_iadd dL_law_467 ?_
        refine j_scld hsc dL_law_468 (fun v65 => ?_)
        refine j_callVi (mX11_exposure (kl K) (kD K) (kad K) (kcA K) v62 v63 v64 v65 s61) cw_RL_43 sh_100 rfl ⟨rfl, rfl, by decide, by decide⟩ rfl rfl (Nat.le_of_ble_eq_true rfl) dL_law_469 (fun r66 s67 => ?_)
        refine j_icmp_eq (tgt := 1405) dL_law_472 rfl ?_ ?_
        · refine j_iincE (ls2 := [some (.inr (.inr 1004)), some (.inr (.inr 0)), some (.inr (.inr 100)), some (.inl (wr (x3 + 7)))]) dL_law_1405 rfl (by decide) rfl rfl ?_
          refine j_goto (tgt := 18) dL_law_1408 rfl ?_
          exact j_msk [true, true, true, true] (ih _ _)
        · refine j_iconst dL_law_475 (inr_d rfl) ?_
          exact J_none
      refine j_if (fun hc7 => ?_) (fun hc7 => ?_)
      · refine j_tsIn (tgt := 477) 7 hc7 dL_law_33 (by decide) (by decide) rfl rfl ?_
        refine j_aload_n dL_law_477 rfl rfl ?_
        refine j_aload_n dL_law_478 rfl rfl ?_
        refine j_iload_n dL_law_479 rfl rfl ?_
        refine j_iconst dL_law_480 (inr_d rfl) ?_
        refine j_iadd dL_law_481 ?_
        refine j_scld hsc dL_law_482 (fun v68 => ?_)
        refine j_aload_n dL_law_483 rfl rfl ?_
        refine j_iload_n dL_law_484 rfl rfl ?_
        refine j_iconst dL_law_485 (inr_d rfl) ?_
        refine j_iadd dL_law_486 ?_
        refine j_scld hsc dL_law_487 (fun v69 => ?_)
        refine j_aload_n dL_law_488 rfl rfl ?_
        refine j_iload_n dL_law_489 rfl rfl ?_
        refine j_iconst dL_law_490 (inr_d rfl) ?_
        refine j_iadd dL_law_491 ?_
        refine j_scld hsc dL_law_492 (fun v70 => ?_)
        refine j_aload_n dL_law_493 rfl rfl ?_
        refine j_iload_n dL_law_494 rfl rfl ?_
        refine j_iconst dL_law_495 (inr_d rfl) ?_
        refine j_iadd dL_law_496 ?_
        refine j_scld hsc dL_law_497 (fun v71 => ?_)
        refine j_aload_n dL_law_498 rfl rfl ?_
        refine j_iload_n dL_law_499 rfl rfl ?_
        refine j_iconst dL_law_500 (inr_d rfl) ?_
        refine j_iadd dL_law_501 ?_
        refine j_scld hsc dL_law_502 (fun v72 => ?_)
        refine j_aload_n dL_law_503 rfl rfl ?_
        refine j_iload_n dL_law_504 rfl rfl ?_
        refine j_bipush (v := 6) dL_law_505 (by decide +kernel) (inr_d rfl) ?_
        refine j_iadd dL_law_507 ?_
        refine j_scld hsc dL_law_508 (fun v73 => ?_)
        refine j_callVi (mX10_tone (kl K) (kD K) (kad K) (kcA K) v68 v69 v70 v71 v72 v73 s) cw_RL_44 sh_0 rfl ⟨rfl, rfl, by decide, by decide⟩ rfl rfl (Nat.le_of_ble_eq_true rfl) dL_law_509 (fun r74 s75 => ?_)
        refine j_aload_n dL_law_512 rfl rfl ?_
        refine j_aload_n dL_law_513 rfl rfl ?_
        refine j_iload_n dL_law_514 rfl rfl ?_
        refine j_iconst dL_law_515 (inr_d rfl) ?_
        refine j_iadd dL_law_516 ?_
        refine j_scld hsc dL_law_517 (fun v76 => ?_)
        refine j_aload_n dL_law_518 rfl rfl ?_
        refine j_iload_n dL_law_519 rfl rfl ?_
        refine j_iconst dL_law_520 (inr_d rfl) ?_
        refine j_iadd dL_law_521 ?_
        refine j_scld hsc dL_law_522 (fun v77 => ?_)
        refine j_aload_n dL_law_523 rfl rfl ?_
        refine j_iload_n dL_law_524 rfl rfl ?_
        refine j_iconst dL_law_525 (inr_d rfl) ?_
        refine j_iadd dL_law_526 ?_
        refine j_scld hsc dL_law_527 (fun v78 => ?_)
        refine j_aload_n dL_law_528 rfl rfl ?_
        refine j_iload_n dL_law_529 rfl rfl ?_
        refine j_iconst dL_law_530 (inr_d rfl) ?_
        refine j_iadd dL_law_531 ?_
        refine j_scld hsc dL_law_532 (fun v79 => ?_)
        refine j_aload_n dL_law_533 rfl rfl ?_
        refine j_iload_n dL_law_534 rfl rfl ?_
        refine j_iconst dL_law_535 (inr_d rfl) ?_
        refine j_iadd dL_law_536 ?_
        refine j_scld hsc dL_law_537 (fun v80 => ?_)
        refine j_aload_n dL_law_538 rfl rfl ?_
        refine j_iload_n dL_law_539 rfl rfl ?_
        refine j_bipush (v := 6) dL_law_540 (by decide +kernel) (inr_d rfl) ?_
        refine j_iadd dL_law_542 ?_
        refine j_scld hsc dL_law_543 (fun v81 => ?_)
        refine j_callVi (mX11_tone (kl K) (kD K) (kad K) (kcA K) v76 v77 v78 v79 v80 v81 s75) cw_RL_48 sh_100 rfl ⟨rfl, rfl, by decide, by decide⟩ rfl rfl (Nat.le_of_ble_eq_true rfl) dL_law_544 (fun r82 s83 => ?_)
        refine j_icmp_eq (tgt := 1405) dL_law_547 rfl ?_ ?_
        · refine j_iincE (ls2 := [some (.inr (.inr 1004)), some (.inr (.inr 0)), some (.inr (.inr 100)), some (.inl (wr (x3 + 7)))]) dL_law_1405 rfl (by decide) rfl rfl ?_
          refine j_goto (tgt := 18) dL_law_1408 rfl ?_
          exact j_msk [true, true, true, true] (ih _ _)
        · refine j_iconst dL_law_550 (inr_d rfl) ?_
          exact J_none
      refine j_if (fun hc8 => ?_) (fun hc8 => ?_)
      · refine j_tsIn (tgt := 552) 8 hc8 dL_law_33 (by decide) (by decide) rfl rfl ?_
        refine j_aload_n dL_law_552 rfl rfl ?_
        refine j_aload_n dL_law_553 rfl rfl ?_
        refine j_iload_n dL_law_554 rfl rfl ?_
        refine j_iconst dL_law_555 (inr_d rfl) ?_
        refine j_iadd dL_law_556 ?_
        refine j_scld hsc dL_law_557 (fun v84 => ?_)
        refine j_aload_n dL_law_558 rfl rfl ?_
        refine j_iload_n dL_law_559 rfl rfl ?_
        refine j_iconst dL_law_560 (inr_d rfl) ?_
        refine j_iadd dL_law_561 ?_
        refine j_scld hsc dL_law_562 (fun v85 => ?_)
        refine j_i2l dL_law_563 ?_
        refine j_bipush (v := 32) dL_law_564 (by decide +kernel) (inr_d rfl) ?_
        refine j_lshl dL_law_566 ?_
        refine j_aload_n dL_law_567 rfl rfl ?_
        refine j_iload_n dL_law_568 rfl rfl ?_
        refine j_iconst dL_law_569 (inr_d rfl) ?_
        refine j_iadd dL_law_570 ?_
        refine j_scld hsc dL_law_571 (fun v86 => ?_)
        refine j_i2l dL_law_572 ?_
        refine j_ldc2 dL_law_573 cst_RL_49 ?_
        refine j_land dL_law_576 ?_
        refine j_lor dL_law_577 ?_
        refine j_callVi (mX10_write (kl K) (kD K) (kad K) (kcA K) v84 (lir (lsl (i2l v85) 32) (lan (i2l v86) ((4294967295 : Int64)))) s) cw_RL_51 sh_0 rfl ⟨rfl, rfl, by decide, by decide⟩ rfl rfl (Nat.le_of_ble_eq_true rfl) dL_law_578 (fun r87 s88 => ?_)
        refine j_aload_n dL_law_581 rfl rfl ?_
        refine j_aload_n dL_law_582 rfl rfl ?_
        refine j_iload_n dL_law_583 rfl rfl ?_
        refine j_iconst dL_law_584 (inr_d rfl) ?_
        refine j_iadd dL_law_585 ?_
        refine j_scld hsc dL_law_586 (fun v89 => ?_)
        refine j_aload_n dL_law_587 rfl rfl ?_
        refine j_iload_n dL_law_588 rfl rfl ?_
        refine j_iconst dL_law_589 (inr_d rfl) ?_
        refine j_iadd dL_law_590 ?_
        refine j_scld hsc dL_law_591 (fun v90 => ?_)
        refine j_i2l dL_law_592 ?_
        refine j_bipush (v := 32) dL_law_593 (by decide +kernel) (inr_d rfl) ?_
        refine j_lshl dL_law_595 ?_
        refine j_aload_n dL_law_596 rfl rfl ?_
        refine j_iload_n dL_law_597 rfl rfl ?_
        refine j_iconst dL_law_598 (inr_d rfl) ?_
        refine j_iadd dL_law_599 ?_
        refine j_scld hsc dL_law_600 (fun v91 => ?_)
        refine j_i2l dL_law_601 ?_
        refine j_ldc2 dL_law_602 cst_RL_49 ?_
        refine j_land dL_law_605 ?_
        refine j_lor dL_law_606 ?_
        refine j_callVi (mX11_write (kl K) (kD K) (kad K) (kcA K) v89 (lir (lsl (i2l v90) 32) (lan (i2l v91) ((4294967295 : Int64)))) s88) cw_RL_55 sh_100 rfl ⟨rfl, rfl, by decide, by decide⟩ rfl rfl (Nat.le_of_ble_eq_true rfl) dL_law_607 (fun r92 s93 => ?_)
        refine j_icmp_eq (tgt := 1405) dL_law_610 rfl ?_ ?_
        · refine j_iincE (ls2 := [some (.inr (.inr 1004)), some (.inr (.inr 0)), some (.inr (.inr 100)), some (.inl (wr (x3 + 7)))]) dL_law_1405 rfl (by decide) rfl rfl ?_
          refine j_goto (tgt := 18) dL_law_1408 rfl ?_
          exact j_msk [true, true, true, true] (ih _ _)
        · refine j_iconst dL_law_613 (inr_d rfl) ?_
          exact J_none
      refine j_if (fun hc9 => ?_) (fun hc9 => ?_)
      · refine j_tsIn (tgt := 615) 9 hc9 dL_law_33 (by decide) (by decide) rfl rfl ?_
        refine j_aload_n dL_law_615 rfl rfl ?_
        refine j_callVi (mX10_clear (kl K) (kD K) (kad K) (kcA K) s) cw_RL_56 sh_0 rfl ⟨rfl, rfl, by decide, by decide⟩ rfl rfl (Nat.le_of_ble_eq_true rfl) dL_law_616 (fun r94 s95 => ?_)
        refine j_aload_n dL_law_619 rfl rfl ?_
        refine j_callVi (mX11_clear (kl K) (kD K) (kad K) (kcA K) s95) cw_RL_60 sh_100 rfl ⟨rfl, rfl, by decide, by decide⟩ rfl rfl (Nat.le_of_ble_eq_true rfl) dL_law_620 (fun r96 s97 => ?_)
        refine j_icmp_eq (tgt := 1405) dL_law_623 rfl ?_ ?_
        · refine j_iincE (ls2 := [some (.inr (.inr 1004)), some (.inr (.inr 0)), some (.inr (.inr 100)), some (.inl (wr (x3 + 7)))]) dL_law_1405 rfl (by decide) rfl rfl ?_
          refine j_goto (tgt := 18) dL_law_1408 rfl ?_
          exact j_msk [true, true, true, true] (ih _ _)
        · refine j_iconst dL_law_626 (inr_d rfl) ?_
          exact J_none
      refine j_if (fun hc10 => ?_) (fun hc10 => ?_)
      · refine j_tsIn (tgt := 628) 10 hc10 dL_law_33 (by decide) (by decide) rfl rfl ?_
        refine j_aload_n dL_law_628 rfl rfl ?_
        refine j_callVi (mX10_fault (kl K) (kD K) (kad K) (kcA K) s) cw_RL_61 sh_0 rfl ⟨rfl, rfl, by decide, by decide⟩ rfl rfl (Nat.le_of_ble_eq_true rfl) dL_law_629 (fun r98 s99 => ?_)
        refine j_aload_n dL_law_632 rfl rfl ?_
        refine j_callVi (mX11_fault (kl K) (kD K) (kad K) (kcA K) s99) cw_RL_64 sh_100 rfl ⟨rfl, rfl, by decide, by decide⟩ rfl rfl (Nat.le_of_ble_eq_true rfl) dL_law_633 (fun r100 s101 => ?_)
        refine j_icmp_eq (tgt := 1405) dL_law_636 rfl ?_ ?_
        · refine j_iincE (ls2 := [some (.inr (.inr 1004)), some (.inr (.inr 0)), some (.inr (.inr 100)), some (.inl (wr (x3 + 7)))]) dL_law_1405 rfl (by decide) rfl rfl ?_
          refine j_goto (tgt := 18) dL_law_1408 rfl ?_
          exact j_msk [true, true, true, true] (ih _ _)
        · refine j_iconst dL_law_639 (inr_d rfl) ?_
          exact J_none
      refine j_if (fun hc11 => ?_) (fun hc11 => ?_)
      · refine j_tsIn (tgt := 641) 11 hc11 dL_law_33 (by decide) (by decide) rfl rfl ?_
        refine j_aload_n dL_law_641 rfl rfl ?_
        refine j_callVi (mX10_load (kl K) (kD K) (kad K) (kcA K) s) cw_RL_65 sh_0 rfl ⟨rfl, rfl, by decide, by decide⟩ rfl rfl (Nat.le_of_ble_eq_true rfl) dL_law_642 (fun r102 s103 => ?_)
        refine j_aload_n dL_law_645 rfl rfl ?_
        refine j_callVi (mX11_load (kl K) (kD K) (kad K) (kcA K) s103) cw_RL_68 sh_100 rfl ⟨rfl, rfl, by decide, by decide⟩ rfl rfl (Nat.le_of_ble_eq_true rfl) dL_law_646 (fun r104 s105 => ?_)
        refine j_icmp_eq (tgt := 1405) dL_law_649 rfl ?_ ?_
        · refine j_iincE (ls2 := [some (.inr (.inr 1004)), some (.inr (.inr 0)), some (.inr (.inr 100)), some (.inl (wr (x3 + 7)))]) dL_law_1405 rfl (by decide) rfl rfl ?_
          refine j_goto (tgt := 18) dL_law_1408 rfl ?_
          exact j_msk [true, true, true, true] (ih _ _)
        · refine j_iconst dL_law_652 (inr_d rfl) ?_
          exact J_none
      refine j_if (fun hc12 => ?_) (fun hc12 => ?_)
      · refine j_tsIn (tgt := 654) 12 hc12 dL_law_33 (by decide) (by decide) rfl rfl ?_
        refine j_aload_n dL_law_654 rfl rfl ?_
        refine j_aload_n dL_law_655 rfl rfl ?_
        refine j_iload_n dL_law_656 rfl rfl ?_
        refine j_iconst dL_law_657 (inr_d rfl) ?_
        refine j_iadd dL_law_658 ?_
        refine j_scld hsc dL_law_659 (fun v106 => ?_)
        refine j_aload_n dL_law_660 rfl rfl ?_
        refine j_iload_n dL_law_661 rfl rfl ?_
        refine j_iconst dL_law_662 (inr_d rfl) ?_
        refine j_iadd dL_law_663 ?_
        refine j_scld hsc dL_law_664 (fun v107 => ?_)
        refine j_callVi (mX10_light (kl K) (kD K) (kad K) (kcA K) v106 v107 s) cw_RL_69 sh_0 rfl ⟨rfl, rfl, by decide, by decide⟩ rfl rfl (Nat.le_of_ble_eq_true rfl) dL_law_665 (fun r108 s109 => ?_)
        refine j_aload_n dL_law_668 rfl rfl ?_
        refine j_aload_n dL_law_669 rfl rfl ?_
        refine j_iload_n dL_law_670 rfl rfl ?_
        refine j_iconst dL_law_671 (inr_d rfl) ?_
        refine j_iadd dL_law_672 ?_
        refine j_scld hsc dL_law_673 (fun v110 => ?_)
        refine j_aload_n dL_law_674 rfl rfl ?_
        refine j_iload_n dL_law_675 rfl rfl ?_
        refine j_iconst dL_law_676 (inr_d rfl) ?_
        refine j_iadd dL_law_677 ?_
        refine j_scld hsc dL_law_678 (fun v111 => ?_)
        refine j_callVi (mX11_light (kl K) (kD K) (kad K) (kcA K) v110 v111 s109) cw_RL_72 sh_100 rfl ⟨rfl, rfl, by decide, by decide⟩ rfl rfl (Nat.le_of_ble_eq_true rfl) dL_law_679 (fun r112 s113 => ?_)
        refine j_icmp_eq (tgt := 1405) dL_law_682 rfl ?_ ?_
        · refine j_iincE (ls2 := [some (.inr (.inr 1004)), some (.inr (.inr 0)), some (.inr (.inr 100)), some (.inl (wr (x3 + 7)))]) dL_law_1405 rfl (by decide) rfl rfl ?_
          refine j_goto (tgt := 18) dL_law_1408 rfl ?_
          exact j_msk [true, true, true, true] (ih _ _)
        · refine j_iconst dL_law_685 (inr_d rfl) ?_
          exact J_none
      refine j_if (fun hc13 => ?_) (fun hc13 => ?_)
      · refine j_tsIn (tgt := 687) 13 hc13 dL_law_33 (by decide) (by decide) rfl rfl ?_
        refine j_aload_n dL_law_687 rfl rfl ?_
        refine j_aload_n dL_law_688 rfl rfl ?_
        refine j_iload_n dL_law_689 rfl rfl ?_
        refine j_iconst dL_law_690 (inr_d rfl) ?_
        refine j_iadd dL_law_691 ?_
        refine j_scld hsc dL_law_692 (fun v114 => ?_)
        refine j_callVi (mX10_shotOf (kl K) (kD K) (kad K) (kcA K) v114 s) cw_RL_73 sh_0 rfl ⟨rfl, rfl, by decide, by decide⟩ rfl rfl (Nat.le_of_ble_eq_true rfl) dL_law_693 (fun r115 s116 => ?_)
        refine j_aload_n dL_law_696 rfl rfl ?_
        refine j_aload_n dL_law_697 rfl rfl ?_
        refine j_iload_n dL_law_698 rfl rfl ?_
        refine j_iconst dL_law_699 (inr_d rfl) ?_
        refine j_iadd dL_law_700 ?_
        refine j_scld hsc dL_law_701 (fun v117 => ?_)
        refine j_callVi (mX11_shotOf (kl K) (kD K) (kad K) (kcA K) v117 s116) cw_RL_77 sh_100 rfl ⟨rfl, rfl, by decide, by decide⟩ rfl rfl (Nat.le_of_ble_eq_true rfl) dL_law_702 (fun r118 s119 => ?_)
        refine j_icmp_eq (tgt := 1405) dL_law_705 rfl ?_ ?_
        · refine j_iincE (ls2 := [some (.inr (.inr 1004)), some (.inr (.inr 0)), some (.inr (.inr 100)), some (.inl (wr (x3 + 7)))]) dL_law_1405 rfl (by decide) rfl rfl ?_
          refine j_goto (tgt := 18) dL_law_1408 rfl ?_
          exact j_msk [true, true, true, true] (ih _ _)
        · refine j_iconst dL_law_708 (inr_d rfl) ?_
          exact J_none
      refine j_if (fun hc14 => ?_) (fun hc14 => ?_)
      · refine j_tsIn (tgt := 710) 14 hc14 dL_law_33 (by decide) (by decide) rfl rfl ?_
        refine j_aload_n dL_law_710 rfl rfl ?_
        refine j_aload_n dL_law_711 rfl rfl ?_
        refine j_iload_n dL_law_712 rfl rfl ?_
        refine j_iconst dL_law_713 (inr_d rfl) ?_
        refine j_iadd dL_law_714 ?_
        refine j_scld hsc dL_law_715 (fun v120 => ?_)
        refine j_callVi (mX10_soon (kl K) (kD K) (kad K) (kcA K) v120 s) cw_RL_78 sh_0 rfl ⟨rfl, rfl, by decide, by decide⟩ rfl rfl (Nat.le_of_ble_eq_true rfl) dL_law_716 (fun r121 s122 => ?_)
        refine j_aload_n dL_law_719 rfl rfl ?_
        refine j_aload_n dL_law_720 rfl rfl ?_
        refine j_iload_n dL_law_721 rfl rfl ?_
        refine j_iconst dL_law_722 (inr_d rfl) ?_
        refine j_iadd dL_law_723 ?_
        refine j_scld hsc dL_law_724 (fun v123 => ?_)
        refine j_callVi (mX11_soon (kl K) (kD K) (kad K) (kcA K) v123 s122) cw_RL_81 sh_100 rfl ⟨rfl, rfl, by decide, by decide⟩ rfl rfl (Nat.le_of_ble_eq_true rfl) dL_law_725 (fun r124 s125 => ?_)
        refine j_icmp_eq (tgt := 1405) dL_law_728 rfl ?_ ?_
        · refine j_iincE (ls2 := [some (.inr (.inr 1004)), some (.inr (.inr 0)), some (.inr (.inr 100)), some (.inl (wr (x3 + 7)))]) dL_law_1405 rfl (by decide) rfl rfl ?_
          refine j_goto (tgt := 18) dL_law_1408 rfl ?_
          exact j_msk [true, true, true, true] (ih _ _)
        · refine j_iconst dL_law_731 (inr_d rfl) ?_
          exact J_none
      refine j_if (fun hc15 => ?_) (fun hc15 => ?_)
      · refine j_tsIn (tgt := 733) 15 hc15 dL_law_33 (by decide) (by decide) rfl rfl ?_
        refine j_aload_n dL_law_733 rfl rfl ?_
        refine j_aload_n dL_law_734 rfl rfl ?_
        refine j_iload_n dL_law_735 rfl rfl ?_
        refine j_iconst dL_law_736 (inr_d rfl) ?_
        refine j_iadd dL_law_737 ?_
        refine j_scld hsc dL_law_738 (fun v126 => ?_)
        refine j_callVi (mX10_list (kl K) (kD K) (kad K) (kcA K) v126 s) cw_RL_82 sh_0 rfl ⟨rfl, rfl, by decide, by decide⟩ rfl rfl (Nat.le_of_ble_eq_true rfl) dL_law_739 (fun r127 s128 => ?_)
        refine j_aload_n dL_law_742 rfl rfl ?_
        refine j_aload_n dL_law_743 rfl rfl ?_
        refine j_iload_n dL_law_744 rfl rfl ?_
        refine j_iconst dL_law_745 (inr_d rfl) ?_
        refine j_iadd dL_law_746 ?_
        refine j_scld hsc dL_law_747 (fun v129 => ?_)
        refine j_callVi (mX11_list (kl K) (kD K) (kad K) (kcA K) v129 s128) cw_RL_85 sh_100 rfl ⟨rfl, rfl, by decide, by decide⟩ rfl rfl (Nat.le_of_ble_eq_true rfl) dL_law_748 (fun r130 s131 => ?_)
        refine j_icmp_eq (tgt := 1405) dL_law_751 rfl ?_ ?_
        · refine j_iincE (ls2 := [some (.inr (.inr 1004)), some (.inr (.inr 0)), some (.inr (.inr 100)), some (.inl (wr (x3 + 7)))]) dL_law_1405 rfl (by decide) rfl rfl ?_
          refine j_goto (tgt := 18) dL_law_1408 rfl ?_
          exact j_msk [true, true, true, true] (ih _ _)
        · refine j_iconst dL_law_754 (inr_d rfl) ?_
          exact J_none
      refine j_if (fun hc16 => ?_) (fun hc16 => ?_)
      · refine j_tsIn (tgt := 756) 16 hc16 dL_law_33 (by decide) (by decide) rfl rfl ?_
        refine j_aload_n dL_law_756 rfl rfl ?_
        refine j_aload_n dL_law_757 rfl rfl ?_
        refine j_iload_n dL_law_758 rfl rfl ?_
        refine j_iconst dL_law_759 (inr_d rfl) ?_
        refine j_iadd dL_law_760 ?_
        refine j_scld hsc dL_law_761 (fun v132 => ?_)
        refine j_aload_n dL_law_762 rfl rfl ?_
        refine j_iload_n dL_law_763 rfl rfl ?_
        refine j_iconst dL_law_764 (inr_d rfl) ?_
        refine j_iadd dL_law_765 ?_
        refine j_scld hsc dL_law_766 (fun v133 => ?_)
        refine j_aload_n dL_law_767 rfl rfl ?_
        refine j_iload_n dL_law_768 rfl rfl ?_
        refine j_iconst dL_law_769 (inr_d rfl) ?_
        refine j_iadd dL_law_770 ?_
        refine j_scld hsc dL_law_771 (fun v134 => ?_)
        refine j_aload_n dL_law_772 rfl rfl ?_
        refine j_iload_n dL_law_773 rfl rfl ?_
        refine j_iconst dL_law_774 (inr_d rfl) ?_
        refine j_iadd dL_law_775 ?_
        refine j_scld hsc dL_law_776 (fun v135 => ?_)
        refine j_callVi (mX10_shot (kl K) (kD K) (kad K) (kcA K) v132 v133 v134 v135 s) cw_RL_86 sh_0 rfl ⟨rfl, rfl, by decide, by decide⟩ rfl rfl (Nat.le_of_ble_eq_true rfl) dL_law_777 (fun r136 s137 => ?_)
        refine j_aload_n dL_law_780 rfl rfl ?_
        refine j_aload_n dL_law_781 rfl rfl ?_
        refine j_iload_n dL_law_782 rfl rfl ?_
        refine j_iconst dL_law_783 (inr_d rfl) ?_
        refine j_iadd dL_law_784 ?_
        refine j_scld hsc dL_law_785 (fun v138 => ?_)
        refine j_aload_n dL_law_786 rfl rfl ?_
        refine j_iload_n dL_law_787 rfl rfl ?_
        refine j_iconst dL_law_788 (inr_d rfl) ?_
        refine j_iadd dL_law_789 ?_
        refine j_scld hsc dL_law_790 (fun v139 => ?_)
        refine j_aload_n dL_law_791 rfl rfl ?_
        refine j_iload_n dL_law_792 rfl rfl ?_
        refine j_iconst dL_law_793 (inr_d rfl) ?_
        refine j_iadd dL_law_794 ?_
        refine j_scld hsc dL_law_795 (fun v140 => ?_)
        refine j_aload_n dL_law_796 rfl rfl ?_
        refine j_iload_n dL_law_797 rfl rfl ?_
        refine j_iconst dL_law_798 (inr_d rfl) ?_
        refine j_iadd dL_law_799 ?_
        refine j_scld hsc dL_law_800 (fun v141 => ?_)
        refine j_callVi (mX11_shot (kl K) (kD K) (kad K) (kcA K) v138 v139 v140 v141 s137) cw_RL_89 sh_100 rfl ⟨rfl, rfl, by decide, by decide⟩ rfl rfl (Nat.le_of_ble_eq_true rfl) dL_law_801 (fun r142 s143 => ?_)
        refine j_icmp_eq (tgt := 1405) dL_law_804 rfl ?_ ?_
        · refine j_iincE (ls2 := [some (.inr (.inr 1004)), some (.inr (.inr 0)), some (.inr (.inr 100)), some (.inl (wr (x3 + 7)))]) dL_law_1405 rfl (by decide) rfl rfl ?_
          refine j_goto (tgt := 18) dL_law_1408 rfl ?_
          exact j_msk [true, true, true, true] (ih _ _)
        · refine j_iconst dL_law_807 (inr_d rfl) ?_
          exact J_none
      refine j_if (fun hc17 => ?_) (fun hc17 => ?_)
      · refine j_tsIn (tgt := 809) 17 hc17 dL_law_33 (by decide) (by decide) rfl rfl ?_
        refine j_aload_n dL_law_809 rfl rfl ?_
        refine j_aload_n dL_law_810 rfl rfl ?_
        refine j_iload_n dL_law_811 rfl rfl ?_
        refine j_iconst dL_law_812 (inr_d rfl) ?_
        refine j_iadd dL_law_813 ?_
        refine j_scld hsc dL_law_814 (fun v144 => ?_)
        refine j_aload_n dL_law_815 rfl rfl ?_
        refine j_iload_n dL_law_816 rfl rfl ?_
        refine j_iconst dL_law_817 (inr_d rfl) ?_
        refine j_iadd dL_law_818 ?_
        refine j_scld hsc dL_law_819 (fun v145 => ?_)
        refine j_aload_n dL_law_820 rfl rfl ?_
        refine j_iload_n dL_law_821 rfl rfl ?_
        refine j_iconst dL_law_822 (inr_d rfl) ?_
        refine j_iadd dL_law_823 ?_
        refine j_scld hsc dL_law_824 (fun v146 => ?_)
        refine j_aload_n dL_law_825 rfl rfl ?_
        refine j_iload_n dL_law_826 rfl rfl ?_
        refine j_iconst dL_law_827 (inr_d rfl) ?_
        refine j_iadd dL_law_828 ?_
        refine j_scld hsc dL_law_829 (fun v147 => ?_)
        refine j_callVi (mX10_grade (kl K) (kD K) (kad K) (kcA K) v144 v145 v146 v147 s) cw_RL_90 sh_0 rfl ⟨rfl, rfl, by decide, by decide⟩ rfl rfl (Nat.le_of_ble_eq_true rfl) dL_law_830 (fun r148 s149 => ?_)
        refine j_aload_n dL_law_833 rfl rfl ?_
        refine j_aload_n dL_law_834 rfl rfl ?_
        refine j_iload_n dL_law_835 rfl rfl ?_
        refine j_iconst dL_law_836 (inr_d rfl) ?_
        refine j_iadd dL_law_837 ?_
        refine j_scld hsc dL_law_838 (fun v150 => ?_)
        refine j_aload_n dL_law_839 rfl rfl ?_
        refine j_iload_n dL_law_840 rfl rfl ?_
        refine j_iconst dL_law_841 (inr_d rfl) ?_
        refine j_iadd dL_law_842 ?_
        refine j_scld hsc dL_law_843 (fun v151 => ?_)
        refine j_aload_n dL_law_844 rfl rfl ?_
        refine j_iload_n dL_law_845 rfl rfl ?_
        refine j_iconst dL_law_846 (inr_d rfl) ?_
        refine j_iadd dL_law_847 ?_
        refine j_scld hsc dL_law_848 (fun v152 => ?_)
        refine j_aload_n dL_law_849 rfl rfl ?_
        refine j_iload_n dL_law_850 rfl rfl ?_
        refine j_iconst dL_law_851 (inr_d rfl) ?_
        refine j_iadd dL_law_852 ?_
        refine j_scld hsc dL_law_853 (fun v153 => ?_)
        refine j_callVi (mX11_grade (kl K) (kD K) (kad K) (kcA K) v150 v151 v152 v153 s149) cw_RL_93 sh_100 rfl ⟨rfl, rfl, by decide, by decide⟩ rfl rfl (Nat.le_of_ble_eq_true rfl) dL_law_854 (fun r154 s155 => ?_)
        refine j_icmp_eq (tgt := 1405) dL_law_857 rfl ?_ ?_
        · refine j_iincE (ls2 := [some (.inr (.inr 1004)), some (.inr (.inr 0)), some (.inr (.inr 100)), some (.inl (wr (x3 + 7)))]) dL_law_1405 rfl (by decide) rfl rfl ?_
          refine j_goto (tgt := 18) dL_law_1408 rfl ?_
          exact j_msk [true, true, true, true] (ih _ _)
        · refine j_iconst dL_law_860 (inr_d rfl) ?_
          exact J_none
      refine j_if (fun hc18 => ?_) (fun hc18 => ?_)
      · refine j_tsIn (tgt := 862) 18 hc18 dL_law_33 (by decide) (by decide) rfl rfl ?_
        refine j_aload_n dL_law_862 rfl rfl ?_
        refine j_aload_n dL_law_863 rfl rfl ?_
        refine j_iload_n dL_law_864 rfl rfl ?_
        refine j_iconst dL_law_865 (inr_d rfl) ?_
        refine j_iadd dL_law_866 ?_
        refine j_scld hsc dL_law_867 (fun v156 => ?_)
        refine j_aload_n dL_law_868 rfl rfl ?_
        refine j_iload_n dL_law_869 rfl rfl ?_
        refine j_iconst dL_law_870 (inr_d rfl) ?_
        refine j_iadd dL_law_871 ?_
        refine j_scld hsc dL_law_872 (fun v157 => ?_)
        refine j_aload_n dL_law_873 rfl rfl ?_
        refine j_iload_n dL_law_874 rfl rfl ?_
        refine j_iconst dL_law_875 (inr_d rfl) ?_
        refine j_iadd dL_law_876 ?_
        refine j_scld hsc dL_law_877 (fun v158 => ?_)
        refine j_aload_n dL_law_878 rfl rfl ?_
        refine j_iload_n dL_law_879 rfl rfl ?_
        refine j_iconst dL_law_880 (inr_d rfl) ?_
        refine j_iadd dL_law_881 ?_
        refine j_scld hsc dL_law_882 (fun v159 => ?_)
        refine j_callVi (mX10_frameTone (kl K) (kD K) (kad K) (kcA K) v156 v157 v158 v159 s) cw_RL_94 sh_0 rfl ⟨rfl, rfl, by decide, by decide⟩ rfl rfl (Nat.le_of_ble_eq_true rfl) dL_law_883 (fun r160 s161 => ?_)
        refine j_aload_n dL_law_886 rfl rfl ?_
        refine j_aload_n dL_law_887 rfl rfl ?_
        refine j_iload_n dL_law_888 rfl rfl ?_
        refine j_iconst dL_law_889 (inr_d rfl) ?_
        refine j_iadd dL_law_890 ?_
        refine j_scld hsc dL_law_891 (fun v162 => ?_)
        refine j_aload_n dL_law_892 rfl rfl ?_
        refine j_iload_n dL_law_893 rfl rfl ?_
        refine j_iconst dL_law_894 (inr_d rfl) ?_
        refine j_iadd dL_law_895 ?_
        refine j_scld hsc dL_law_896 (fun v163 => ?_)
        refine j_aload_n dL_law_897 rfl rfl ?_
        refine j_iload_n dL_law_898 rfl rfl ?_
        refine j_iconst dL_law_899 (inr_d rfl) ?_
        refine j_iadd dL_law_900 ?_
        refine j_scld hsc dL_law_901 (fun v164 => ?_)
        refine j_aload_n dL_law_902 rfl rfl ?_
        refine j_iload_n dL_law_903 rfl rfl ?_
        refine j_iconst dL_law_904 (inr_d rfl) ?_
        refine j_iadd dL_law_905 ?_
        refine j_scld hsc dL_law_906 (fun v165 => ?_)
        refine j_callVi (mX11_frameTone (kl K) (kD K) (kad K) (kcA K) v162 v163 v164 v165 s161) cw_RL_97 sh_100 rfl ⟨rfl, rfl, by decide, by decide⟩ rfl rfl (Nat.le_of_ble_eq_true rfl) dL_law_907 (fun r166 s167 => ?_)
        refine j_icmp_eq (tgt := 1405) dL_law_910 rfl ?_ ?_
        · refine j_iincE (ls2 := [some (.inr (.inr 1004)), some (.inr (.inr 0)), some (.inr (.inr 100)), some (.inl (wr (x3 + 7)))]) dL_law_1405 rfl (by decide) rfl rfl ?_
          refine j_goto (tgt := 18) dL_law_1408 rfl ?_
          exact j_msk [true, true, true, true] (ih _ _)
        · refine j_iconst dL_law_913 (inr_d rfl) ?_
          exact J_none
      refine j_if (fun hc19 => ?_) (fun hc19 => ?_)
      · refine j_tsIn (tgt := 915) 19 hc19 dL_law_33 (by decide) (by decide) rfl rfl ?_
        refine j_aload_n dL_law_915 rfl rfl ?_
        refine j_aload_n dL_law_916 rfl rfl ?_
        refine j_iload_n dL_law_917 rfl rfl ?_
        refine j_iconst dL_law_918 (inr_d rfl) ?_
        refine j_iadd dL_law_919 ?_
        refine j_scld hsc dL_law_920 (fun v168 => ?_)
        refine j_aload_n dL_law_921 rfl rfl ?_
        refine j_iload_n dL_law_922 rfl rfl ?_
        refine j_iconst dL_law_923 (inr_d rfl) ?_
        refine j_iadd dL_law_924 ?_
        refine j_scld hsc dL_law_925 (fun v169 => ?_)
        refine j_aload_n dL_law_926 rfl rfl ?_
        refine j_iload_n dL_law_927 rfl rfl ?_
        refine j_iconst dL_law_928 (inr_d rfl) ?_
        refine j_iadd dL_law_929 ?_
        refine j_scld hsc dL_law_930 (fun v170 => ?_)
        refine j_callVi (mX10_strip (kl K) (kD K) (kad K) (kcA K) v168 v169 v170 s) cw_RL_98 sh_0 rfl ⟨rfl, rfl, by decide, by decide⟩ rfl rfl (Nat.le_of_ble_eq_true rfl) dL_law_931 (fun r171 s172 => ?_)
        refine j_aload_n dL_law_934 rfl rfl ?_
        refine j_aload_n dL_law_935 rfl rfl ?_
        refine j_iload_n dL_law_936 rfl rfl ?_
        refine j_iconst dL_law_937 (inr_d rfl) ?_
        refine j_iadd dL_law_938 ?_
        refine j_scld hsc dL_law_939 (fun v173 => ?_)
        refine j_aload_n dL_law_940 rfl rfl ?_
        refine j_iload_n dL_law_941 rfl rfl ?_
        refine j_iconst dL_law_942 (inr_d rfl) ?_
        refine j_iadd dL_law_943 ?_
        refine j_scld hsc dL_law_944 (fun v174 => ?_)
        refine j_aload_n dL_law_945 rfl rfl ?_
        refine j_iload_n dL_law_946 rfl rfl ?_
        refine j_iconst dL_law_947 (inr_d rfl) ?_
        refine j_iadd dL_law_948 ?_
        refine j_scld hsc dL_law_949 (fun v175 => ?_)
        refine j_callVi (mX11_strip (kl K) (kD K) (kad K) (kcA K) v173 v174 v175 s172) cw_RL_101 sh_100 rfl ⟨rfl, rfl, by decide, by decide⟩ rfl rfl (Nat.le_of_ble_eq_true rfl) dL_law_950 (fun r176 s177 => ?_)
        refine j_icmp_eq (tgt := 1405) dL_law_953 rfl ?_ ?_
        · refine j_iincE (ls2 := [some (.inr (.inr 1004)), some (.inr (.inr 0)), some (.inr (.inr 100)), some (.inl (wr (x3 + 7)))]) dL_law_1405 rfl (by decide) rfl rfl ?_
          refine j_goto (tgt := 18) dL_law_1408 rfl ?_
          exact j_msk [true, true, true, true] (ih _ _)
        · refine j_iconst dL_law_956 (inr_d rfl) ?_
          exact J_none
      refine j_if (fun hc20 => ?_) (fun hc20 => ?_)
      · refine j_tsIn (tgt := 958) 20 hc20 dL_law_33 (by decide) (by decide) rfl rfl ?_
        refine j_aload_n dL_law_958 rfl rfl ?_
        refine j_callVi (mX10_noStrips (kl K) (kD K) (kad K) (kcA K) s) cw_RL_102 sh_0 rfl ⟨rfl, rfl, by decide, by decide⟩ rfl rfl (Nat.le_of_ble_eq_true rfl) dL_law_959 (fun r178 s179 => ?_)
        refine j_aload_n dL_law_962 rfl rfl ?_
        refine j_callVi (mX11_noStrips (kl K) (kD K) (kad K) (kcA K) s179) cw_RL_105 sh_100 rfl ⟨rfl, rfl, by decide, by decide⟩ rfl rfl (Nat.le_of_ble_eq_true rfl) dL_law_963 (fun r180 s181 => ?_)
        refine j_icmp_eq (tgt := 1405) dL_law_966 rfl ?_ ?_
        · refine j_iincE (ls2 := [some (.inr (.inr 1004)), some (.inr (.inr 0)), some (.inr (.inr 100)), some (.inl (wr (x3 + 7)))]) dL_law_1405 rfl (by decide) rfl rfl ?_
          refine j_goto (tgt := 18) dL_law_1408 rfl ?_
          exact j_msk [true, true, true, true] (ih _ _)
        · refine j_iconst dL_law_969 (inr_d rfl) ?_
          exact J_none
      refine j_if (fun hc21 => ?_) (fun hc21 => ?_)
      · refine j_tsIn (tgt := 971) 21 hc21 dL_law_33 (by decide) (by decide) rfl rfl ?_
        refine j_aload_n dL_law_971 rfl rfl ?_
        refine j_aload_n dL_law_972 rfl rfl ?_
        refine j_iload_n dL_law_973 rfl rfl ?_
        refine j_iconst dL_law_974 (inr_d rfl) ?_
        refine j_iadd dL_law_975 ?_
        refine j_scld hsc dL_law_976 (fun v182 => ?_)
        refine j_callVi (mX10_drift (kl K) (kD K) (kad K) (kcA K) v182 s) cw_RL_106 sh_0 rfl ⟨rfl, rfl, by decide, by decide⟩ rfl rfl (Nat.le_of_ble_eq_true rfl) dL_law_977 (fun r183 s184 => ?_)
        refine j_aload_n dL_law_980 rfl rfl ?_
        refine j_aload_n dL_law_981 rfl rfl ?_
        refine j_iload_n dL_law_982 rfl rfl ?_
        refine j_iconst dL_law_983 (inr_d rfl) ?_
        refine j_iadd dL_law_984 ?_
        refine j_scld hsc dL_law_985 (fun v185 => ?_)
        refine j_callVi (mX11_drift (kl K) (kD K) (kad K) (kcA K) v185 s184) cw_RL_109 sh_100 rfl ⟨rfl, rfl, by decide, by decide⟩ rfl rfl (Nat.le_of_ble_eq_true rfl) dL_law_986 (fun r186 s187 => ?_)
        refine j_icmp_eq (tgt := 1405) dL_law_989 rfl ?_ ?_
        · refine j_iincE (ls2 := [some (.inr (.inr 1004)), some (.inr (.inr 0)), some (.inr (.inr 100)), some (.inl (wr (x3 + 7)))]) dL_law_1405 rfl (by decide) rfl rfl ?_
          refine j_goto (tgt := 18) dL_law_1408 rfl ?_
          exact j_msk [true, true, true, true] (ih _ _)
        · refine j_iconst dL_law_992 (inr_d rfl) ?_
          exact J_none
      refine j_if (fun hc22 => ?_) (fun hc22 => ?_)
      · refine j_tsIn (tgt := 994) 22 hc22 dL_law_33 (by decide) (by decide) rfl rfl ?_
        refine j_aload_n dL_law_994 rfl rfl ?_
        refine j_aload_n dL_law_995 rfl rfl ?_
        refine j_iload_n dL_law_996 rfl rfl ?_
        refine j_iconst dL_law_997 (inr_d rfl) ?_
        refine j_iadd dL_law_998 ?_
        refine j_scld hsc dL_law_999 (fun v188 => ?_)
        refine j_aload_n dL_law_1000 rfl rfl ?_
        refine j_iload_n dL_law_1001 rfl rfl ?_
        refine j_iconst dL_law_1002 (inr_d rfl) ?_
        refine j_iadd dL_law_1003 ?_
        refine j_scld hsc dL_law_1004 (fun v189 => ?_)
        refine j_aload_n dL_law_1005 rfl rfl ?_
        refine j_iload_n dL_law_1006 rfl rfl ?_
        refine j_iconst dL_law_1007 (inr_d rfl) ?_
        refine j_iadd dL_law_1008 ?_
        refine j_scld hsc dL_law_1009 (fun v190 => ?_)
        refine j_callVi (mX10_reel (kl K) (kD K) (kad K) (kcA K) v188 v189 v190 s) cw_RL_110 sh_0 rfl ⟨rfl, rfl, by decide, by decide⟩ rfl rfl (Nat.le_of_ble_eq_true rfl) dL_law_1010 (fun r191 s192 => ?_)
        refine j_aload_n dL_law_1013 rfl rfl ?_
        refine j_aload_n dL_law_1014 rfl rfl ?_
        refine j_iload_n dL_law_1015 rfl rfl ?_
        refine j_iconst dL_law_1016 (inr_d rfl) ?_
        refine j_iadd dL_law_1017 ?_
        refine j_scld hsc dL_law_1018 (fun v193 => ?_)
        refine j_aload_n dL_law_1019 rfl rfl ?_
        refine j_iload_n dL_law_1020 rfl rfl ?_
        refine j_iconst dL_law_1021 (inr_d rfl) ?_
        refine j_iadd dL_law_1022 ?_
        refine j_scld hsc dL_law_1023 (fun v194 => ?_)
        refine j_aload_n dL_law_1024 rfl rfl ?_
        refine j_iload_n dL_law_1025 rfl rfl ?_
        refine j_iconst dL_law_1026 (inr_d rfl) ?_
        refine j_iadd dL_law_1027 ?_
        refine j_scld hsc dL_law_1028 (fun v195 => ?_)
        refine j_callVi (mX11_reel (kl K) (kD K) (kad K) (kcA K) v193 v194 v195 s192) cw_RL_113 sh_100 rfl ⟨rfl, rfl, by decide, by decide⟩ rfl rfl (Nat.le_of_ble_eq_true rfl) dL_law_1029 (fun r196 s197 => ?_)
        refine j_icmp_eq (tgt := 1405) dL_law_1032 rfl ?_ ?_
        · refine j_iincE (ls2 := [some (.inr (.inr 1004)), some (.inr (.inr 0)), some (.inr (.inr 100)), some (.inl (wr (x3 + 7)))]) dL_law_1405 rfl (by decide) rfl rfl ?_
          refine j_goto (tgt := 18) dL_law_1408 rfl ?_
          exact j_msk [true, true, true, true] (ih _ _)
        · refine j_iconst dL_law_1035 (inr_d rfl) ?_
          exact J_none
      refine j_if (fun hc23 => ?_) (fun hc23 => ?_)
      · refine j_tsIn (tgt := 1037) 23 hc23 dL_law_33 (by decide) (by decide) rfl rfl ?_
        refine j_aload_n dL_law_1037 rfl rfl ?_
        refine j_aload_n dL_law_1038 rfl rfl ?_
        refine j_iload_n dL_law_1039 rfl rfl ?_
        refine j_iconst dL_law_1040 (inr_d rfl) ?_
        refine j_iadd dL_law_1041 ?_
        refine j_scld hsc dL_law_1042 (fun v198 => ?_)
        refine j_aload_n dL_law_1043 rfl rfl ?_
        refine j_iload_n dL_law_1044 rfl rfl ?_
        refine j_iconst dL_law_1045 (inr_d rfl) ?_
        refine j_iadd dL_law_1046 ?_
        refine j_scld hsc dL_law_1047 (fun v199 => ?_)
        refine j_jn (fun k1056 => ∀ (u200 : Int) (s201 : Mem), J K rmL_law cL_law RL 4 1056 [some (.inr (.inr 1004)), some (.inr (.inr 0)), some (.inr (.inr 100)), some (.inl x3)] [.inl u200, .inl v198, .inr (.inr 0)] s201 (k1056 u200 s201)) (fun u200 s201 => ?_) (fun k1056 hk1056 => ?_)
        · refine j_callVi (mX10_lose (kl K) (kD K) (kad K) (kcA K) v198 u200 s201) cw_RL_114 sh_0 rfl ⟨rfl, rfl, by decide, by decide⟩ rfl rfl (Nat.le_of_ble_eq_true rfl) dL_law_1056 (fun r202 s203 => ?_)
          refine j_aload_n dL_law_1059 rfl rfl ?_
          refine j_aload_n dL_law_1060 rfl rfl ?_
          refine j_iload_n dL_law_1061 rfl rfl ?_
          refine j_iconst dL_law_1062 (inr_d rfl) ?_
          refine j_iadd dL_law_1063 ?_
          refine j_scld hsc dL_law_1064 (fun v204 => ?_)
          refine j_aload_n dL_law_1065 rfl rfl ?_
          refine j_iload_n dL_law_1066 rfl rfl ?_
          refine j_iconst dL_law_1067 (inr_d rfl) ?_
          refine j_iadd dL_law_1068 ?_
          refine j_scld hsc dL_law_1069 (fun v205 => ?_)
          refine j_jn (fun k1078 => ∀ (u206 : Int) (s207 : Mem), J K rmL_law cL_law RL 4 1078 [some (.inr (.inr 1004)), some (.inr (.inr 0)), some (.inr (.inr 100)), some (.inl x3)] [.inl u206, .inl v204, .inr (.inr 100), .inl r202] s207 (k1078 u206 s207)) (fun u206 s207 => ?_) (fun k1078 hk1078 => ?_)
          · refine j_callVi (mX11_lose (kl K) (kD K) (kad K) (kcA K) v204 u206 s207) cw_RL_118 sh_100 rfl ⟨rfl, rfl, by decide, by decide⟩ rfl rfl (Nat.le_of_ble_eq_true rfl) dL_law_1078 (fun r208 s209 => ?_)
            refine j_icmp_eq (tgt := 1405) dL_law_1081 rfl ?_ ?_
            · refine j_iincE (ls2 := [some (.inr (.inr 1004)), some (.inr (.inr 0)), some (.inr (.inr 100)), some (.inl (wr (x3 + 7)))]) dL_law_1405 rfl (by decide) rfl rfl ?_
              refine j_goto (tgt := 18) dL_law_1408 rfl ?_
              exact j_msk [true, true, true, true] (ih _ _)
            · refine j_iconst dL_law_1084 (inr_d rfl) ?_
              exact J_none
          refine j_if_eq (tgt := 1077) dL_law_1070 rfl ?_ ?_
          · refine j_iconst dL_law_1077 (inr_d rfl) ?_
            exact j_msk [true, true, true, true] (hk1078 _ _)
          · refine j_iconst dL_law_1073 (inr_d rfl) ?_
            refine j_goto (tgt := 1078) dL_law_1074 rfl ?_
            exact j_msk [true, true, true, true] (hk1078 _ _)
        refine j_if_eq (tgt := 1055) dL_law_1048 rfl ?_ ?_
        · refine j_iconst dL_law_1055 (inr_d rfl) ?_
          exact j_msk [true, true, true, true] (hk1056 _ _)
        · refine j_iconst dL_law_1051 (inr_d rfl) ?_
          refine j_goto (tgt := 1056) dL_law_1052 rfl ?_
          exact j_msk [true, true, true, true] (hk1056 _ _)
      refine j_if (fun hc24 => ?_) (fun hc24 => ?_)
      · refine j_tsIn (tgt := 1086) 24 hc24 dL_law_33 (by decide) (by decide) rfl rfl ?_
        refine j_aload_n dL_law_1086 rfl rfl ?_
        refine j_aload_n dL_law_1087 rfl rfl ?_
        refine j_iload_n dL_law_1088 rfl rfl ?_
        refine j_iconst dL_law_1089 (inr_d rfl) ?_
        refine j_iadd dL_law_1090 ?_
        refine j_scld hsc dL_law_1091 (fun v210 => ?_)
        refine j_aload_n dL_law_1092 rfl rfl ?_
        refine j_iload_n dL_law_1093 rfl rfl ?_
        refine j_iconst dL_law_1094 (inr_d rfl) ?_
        refine j_iadd dL_law_1095 ?_
        refine j_scld hsc dL_law_1096 (fun v211 => ?_)
        refine j_aload_n dL_law_1097 rfl rfl ?_
        refine j_iload_n dL_law_1098 rfl rfl ?_
        refine j_iconst dL_law_1099 (inr_d rfl) ?_
        refine j_iadd dL_law_1100 ?_
        refine j_scld hsc dL_law_1101 (fun v212 => ?_)
        refine j_callVi (mX10_from (kl K) (kD K) (kad K) (kcA K) v210 v211 v212 s) cw_RL_119 sh_0 rfl ⟨rfl, rfl, by decide, by decide⟩ rfl rfl (Nat.le_of_ble_eq_true rfl) dL_law_1102 (fun r213 s214 => ?_)
        refine j_aload_n dL_law_1105 rfl rfl ?_
        refine j_aload_n dL_law_1106 rfl rfl ?_
        refine j_iload_n dL_law_1107 rfl rfl ?_
        refine j_iconst dL_law_1108 (inr_d rfl) ?_
        refine j_iadd dL_law_1109 ?_
        refine j_scld hsc dL_law_1110 (fun v215 => ?_)
        refine j_aload_n dL_law_1111 rfl rfl ?_
        refine j_iload_n dL_law_1112 rfl rfl ?_
        refine j_iconst dL_law_1113 (inr_d rfl) ?_
        refine j_iadd dL_law_1114 ?_
        refine j_scld hsc dL_law_1115 (fun v216 => ?_)
        refine j_aload_n dL_law_1116 rfl rfl ?_
        refine j_iload_n dL_law_1117 rfl rfl ?_
        refine j_iconst dL_law_1118 (inr_d rfl) ?_
        refine j_iadd dL_law_1119 ?_
        refine j_scld hsc dL_law_1120 (fun v217 => ?_)
        refine j_callVi (mX11_from (kl K) (kD K) (kad K) (kcA K) v215 v216 v217 s214) cw_RL_122 sh_100 rfl ⟨rfl, rfl, by decide, by decide⟩ rfl rfl (Nat.le_of_ble_eq_true rfl) dL_law_1121 (fun r218 s219 => ?_)
        refine j_icmp_eq (tgt := 1405) dL_law_1124 rfl ?_ ?_
        · refine j_iincE (ls2 := [some (.inr (.inr 1004)), some (.inr (.inr 0)), some (.inr (.inr 100)), some (.inl (wr (x3 + 7)))]) dL_law_1405 rfl (by decide) rfl rfl ?_
          refine j_goto (tgt := 18) dL_law_1408 rfl ?_
          exact j_msk [true, true, true, true] (ih _ _)
        · refine j_iconst dL_law_1127 (inr_d rfl) ?_
          exact J_none
      refine j_if (fun hc25 => ?_) (fun hc25 => ?_)
      · refine j_tsIn (tgt := 1129) 25 hc25 dL_law_33 (by decide) (by decide) rfl rfl ?_
        refine j_aload_n dL_law_1129 rfl rfl ?_
        refine j_aload_n dL_law_1130 rfl rfl ?_
        refine j_iload_n dL_law_1131 rfl rfl ?_
        refine j_iconst dL_law_1132 (inr_d rfl) ?_
        refine j_iadd dL_law_1133 ?_
        refine j_scld hsc dL_law_1134 (fun v220 => ?_)
        refine j_callVi (mX10_edge (kl K) (kD K) (kad K) (kcA K) v220 s) cw_RL_123 sh_0 rfl ⟨rfl, rfl, by decide, by decide⟩ rfl rfl (Nat.le_of_ble_eq_true rfl) dL_law_1135 (fun r221 s222 => ?_)
        refine j_aload_n dL_law_1138 rfl rfl ?_
        refine j_aload_n dL_law_1139 rfl rfl ?_
        refine j_iload_n dL_law_1140 rfl rfl ?_
        refine j_iconst dL_law_1141 (inr_d rfl) ?_
        refine j_iadd dL_law_1142 ?_
        refine j_scld hsc dL_law_1143 (fun v223 => ?_)
        refine j_callVi (mX11_edge (kl K) (kD K) (kad K) (kcA K) v223 s222) cw_RL_126 sh_100 rfl ⟨rfl, rfl, by decide, by decide⟩ rfl rfl (Nat.le_of_ble_eq_true rfl) dL_law_1144 (fun r224 s225 => ?_)
        refine j_icmp_eq (tgt := 1405) dL_law_1147 rfl ?_ ?_
        · refine j_iincE (ls2 := [some (.inr (.inr 1004)), some (.inr (.inr 0)), some (.inr (.inr 100)), some (.inl (wr (x3 + 7)))]) dL_law_1405 rfl (by decide) rfl rfl ?_
          refine j_goto (tgt := 18) dL_law_1408 rfl ?_
          exact j_msk [true, true, true, true] (ih _ _)
        · refine j_iconst dL_law_1150 (inr_d rfl) ?_
          exact J_none
      refine j_if (fun hc26 => ?_) (fun hc26 => ?_)
      · refine j_tsIn (tgt := 1152) 26 hc26 dL_law_33 (by decide) (by decide) rfl rfl ?_
        refine j_aload_n dL_law_1152 rfl rfl ?_
        refine j_callVi (mX10_missing (kl K) (kD K) (kad K) (kcA K) s) cw_RL_127 sh_0 rfl ⟨rfl, rfl, by decide, by decide⟩ rfl rfl (Nat.le_of_ble_eq_true rfl) dL_law_1153 (fun r226 s227 => ?_)
        refine j_aload_n dL_law_1156 rfl rfl ?_
        refine j_callVi (mX11_missing (kl K) (kD K) (kad K) (kcA K) s227) cw_RL_130 sh_100 rfl ⟨rfl, rfl, by decide, by decide⟩ rfl rfl (Nat.le_of_ble_eq_true rfl) dL_law_1157 (fun r228 s229 => ?_)
        refine j_icmp_eq (tgt := 1405) dL_law_1160 rfl ?_ ?_
        · refine j_iincE (ls2 := [some (.inr (.inr 1004)), some (.inr (.inr 0)), some (.inr (.inr 100)), some (.inl (wr (x3 + 7)))]) dL_law_1405 rfl (by decide) rfl rfl ?_
          refine j_goto (tgt := 18) dL_law_1408 rfl ?_
          exact j_msk [true, true, true, true] (ih _ _)
        · refine j_iconst dL_law_1163 (inr_d rfl) ?_
          exact J_none
      refine j_if (fun hc27 => ?_) (fun hc27 => ?_)
      · refine j_tsIn (tgt := 1165) 27 hc27 dL_law_33 (by decide) (by decide) rfl rfl ?_
        refine j_aload_n dL_law_1165 rfl rfl ?_
        refine j_aload_n dL_law_1166 rfl rfl ?_
        refine j_iload_n dL_law_1167 rfl rfl ?_
        refine j_iconst dL_law_1168 (inr_d rfl) ?_
        refine j_iadd dL_law_1169 ?_
        refine j_scld hsc dL_law_1170 (fun v230 => ?_)
        refine j_aload_n dL_law_1171 rfl rfl ?_
        refine j_iload_n dL_law_1172 rfl rfl ?_
        refine j_iconst dL_law_1173 (inr_d rfl) ?_
        refine j_iadd dL_law_1174 ?_
        refine j_scld hsc dL_law_1175 (fun v231 => ?_)
        refine j_callVi (mX10_where (kl K) (kD K) (kad K) (kcA K) v230 v231 s) cw_RL_131 sh_0 rfl ⟨rfl, rfl, by decide, by decide⟩ rfl rfl (Nat.le_of_ble_eq_true rfl) dL_law_1176 (fun r232 s233 => ?_)
        refine j_aload_n dL_law_1179 rfl rfl ?_
        refine j_aload_n dL_law_1180 rfl rfl ?_
        refine j_iload_n dL_law_1181 rfl rfl ?_
        refine j_iconst dL_law_1182 (inr_d rfl) ?_
        refine j_iadd dL_law_1183 ?_
        refine j_scld hsc dL_law_1184 (fun v234 => ?_)
        refine j_aload_n dL_law_1185 rfl rfl ?_
        refine j_iload_n dL_law_1186 rfl rfl ?_
        refine j_iconst dL_law_1187 (inr_d rfl) ?_
        refine j_iadd dL_law_1188 ?_
        refine j_scld hsc dL_law_1189 (fun v235 => ?_)
        refine j_callVi (mX11_where (kl K) (kD K) (kad K) (kcA K) v234 v235 s233) cw_RL_134 sh_100 rfl ⟨rfl, rfl, by decide, by decide⟩ rfl rfl (Nat.le_of_ble_eq_true rfl) dL_law_1190 (fun r236 s237 => ?_)
        refine j_icmp_eq (tgt := 1405) dL_law_1193 rfl ?_ ?_
        · refine j_iincE (ls2 := [some (.inr (.inr 1004)), some (.inr (.inr 0)), some (.inr (.inr 100)), some (.inl (wr (x3 + 7)))]) dL_law_1405 rfl (by decide) rfl rfl ?_
          refine j_goto (tgt := 18) dL_law_1408 rfl ?_
          exact j_msk [true, true, true, true] (ih _ _)
        · refine j_iconst dL_law_1196 (inr_d rfl) ?_
          exact J_none
      refine j_if (fun hc28 => ?_) (fun hc28 => ?_)
      · refine j_tsIn (tgt := 1198) 28 hc28 dL_law_33 (by decide) (by decide) rfl rfl ?_
        refine j_aload_n dL_law_1198 rfl rfl ?_
        refine j_aload_n dL_law_1199 rfl rfl ?_
        refine j_iload_n dL_law_1200 rfl rfl ?_
        refine j_iconst dL_law_1201 (inr_d rfl) ?_
        refine j_iadd dL_law_1202 ?_
        refine j_scld hsc dL_law_1203 (fun v238 => ?_)
        refine j_callVi (mX10_splice (kl K) (kD K) (kad K) (kcA K) v238 s) cw_RL_135 sh_0 rfl ⟨rfl, rfl, by decide, by decide⟩ rfl rfl (Nat.le_of_ble_eq_true rfl) dL_law_1204 (fun r239 s240 => ?_)
        refine j_aload_n dL_law_1207 rfl rfl ?_
        refine j_aload_n dL_law_1208 rfl rfl ?_
        refine j_iload_n dL_law_1209 rfl rfl ?_
        refine j_iconst dL_law_1210 (inr_d rfl) ?_
        refine j_iadd dL_law_1211 ?_
        refine j_scld hsc dL_law_1212 (fun v241 => ?_)
        refine j_callVi (mX11_splice (kl K) (kD K) (kad K) (kcA K) v241 s240) cw_RL_138 sh_100 rfl ⟨rfl, rfl, by decide, by decide⟩ rfl rfl (Nat.le_of_ble_eq_true rfl) dL_law_1213 (fun r242 s243 => ?_)
        refine j_icmp_eq (tgt := 1405) dL_law_1216 rfl ?_ ?_
        · refine j_iincE (ls2 := [some (.inr (.inr 1004)), some (.inr (.inr 0)), some (.inr (.inr 100)), some (.inl (wr (x3 + 7)))]) dL_law_1405 rfl (by decide) rfl rfl ?_
          refine j_goto (tgt := 18) dL_law_1408 rfl ?_
          exact j_msk [true, true, true, true] (ih _ _)
        · refine j_iconst dL_law_1219 (inr_d rfl) ?_
          exact J_none
      refine j_if (fun hc29 => ?_) (fun hc29 => ?_)
      · refine j_tsIn (tgt := 1221) 29 hc29 dL_law_33 (by decide) (by decide) rfl rfl ?_
        refine j_aload_n dL_law_1221 rfl rfl ?_
        refine j_aload_n dL_law_1222 rfl rfl ?_
        refine j_iload_n dL_law_1223 rfl rfl ?_
        refine j_iconst dL_law_1224 (inr_d rfl) ?_
        refine j_iadd dL_law_1225 ?_
        refine j_scld hsc dL_law_1226 (fun v244 => ?_)
        refine j_callVi (mX10_run (kl K) (kD K) (kad K) (kcA K) v244 s) cw_RL_139 sh_0 rfl ⟨rfl, rfl, by decide, by decide⟩ rfl rfl (Nat.le_of_ble_eq_true rfl) dL_law_1227 (fun r245 s246 => ?_)
        refine j_aload_n dL_law_1230 rfl rfl ?_
        refine j_aload_n dL_law_1231 rfl rfl ?_
        refine j_iload_n dL_law_1232 rfl rfl ?_
        refine j_iconst dL_law_1233 (inr_d rfl) ?_
        refine j_iadd dL_law_1234 ?_
        refine j_scld hsc dL_law_1235 (fun v247 => ?_)
        refine j_callVi (mX11_run (kl K) (kD K) (kad K) (kcA K) v247 s246) cw_RL_142 sh_100 rfl ⟨rfl, rfl, by decide, by decide⟩ rfl rfl (Nat.le_of_ble_eq_true rfl) dL_law_1236 (fun r248 s249 => ?_)
        refine j_icmp_eq (tgt := 1405) dL_law_1239 rfl ?_ ?_
        · refine j_iincE (ls2 := [some (.inr (.inr 1004)), some (.inr (.inr 0)), some (.inr (.inr 100)), some (.inl (wr (x3 + 7)))]) dL_law_1405 rfl (by decide) rfl rfl ?_
          refine j_goto (tgt := 18) dL_law_1408 rfl ?_
          exact j_msk [true, true, true, true] (ih _ _)
        · refine j_iconst dL_law_1242 (inr_d rfl) ?_
          exact J_none
      refine j_if (fun hc30 => ?_) (fun hc30 => ?_)
      · refine j_tsIn (tgt := 1244) 30 hc30 dL_law_33 (by decide) (by decide) rfl rfl ?_
        refine j_aload_n dL_law_1244 rfl rfl ?_
        refine j_callVi (mX10_mend (kl K) (kD K) (kad K) (kcA K) s) cw_RL_143 sh_0 rfl ⟨rfl, rfl, by decide, by decide⟩ rfl rfl (Nat.le_of_ble_eq_true rfl) dL_law_1245 (fun r250 s251 => ?_)
        refine j_aload_n dL_law_1248 rfl rfl ?_
        refine j_callVi (mX11_mend (kl K) (kD K) (kad K) (kcA K) s251) cw_RL_146 sh_100 rfl ⟨rfl, rfl, by decide, by decide⟩ rfl rfl (Nat.le_of_ble_eq_true rfl) dL_law_1249 (fun r252 s253 => ?_)
        refine j_icmp_eq (tgt := 1405) dL_law_1252 rfl ?_ ?_
        · refine j_iincE (ls2 := [some (.inr (.inr 1004)), some (.inr (.inr 0)), some (.inr (.inr 100)), some (.inl (wr (x3 + 7)))]) dL_law_1405 rfl (by decide) rfl rfl ?_
          refine j_goto (tgt := 18) dL_law_1408 rfl ?_
          exact j_msk [true, true, true, true] (ih _ _)
        · refine j_iconst dL_law_1255 (inr_d rfl) ?_
          exact J_none
      refine j_if (fun hc31 => ?_) (fun hc31 => ?_)
      · refine j_tsIn (tgt := 1257) 31 hc31 dL_law_33 (by decide) (by decide) rfl rfl ?_
        refine j_aload_n dL_law_1257 rfl rfl ?_
        refine j_aload_n dL_law_1258 rfl rfl ?_
        refine j_iload_n dL_law_1259 rfl rfl ?_
        refine j_iconst dL_law_1260 (inr_d rfl) ?_
        refine j_iadd dL_law_1261 ?_
        refine j_scld hsc dL_law_1262 (fun v254 => ?_)
        refine j_aload_n dL_law_1263 rfl rfl ?_
        refine j_iload_n dL_law_1264 rfl rfl ?_
        refine j_iconst dL_law_1265 (inr_d rfl) ?_
        refine j_iadd dL_law_1266 ?_
        refine j_scld hsc dL_law_1267 (fun v255 => ?_)
        refine j_aload_n dL_law_1268 rfl rfl ?_
        refine j_iload_n dL_law_1269 rfl rfl ?_
        refine j_iconst dL_law_1270 (inr_d rfl) ?_
        refine j_iadd dL_law_1271 ?_
        refine j_scld hsc dL_law_1272 (fun v256 => ?_)
        refine j_aload_n dL_law_1273 rfl rfl ?_
        refine j_iload_n dL_law_1274 rfl rfl ?_
        refine j_iconst dL_law_1275 (inr_d rfl) ?_
        refine j_iadd dL_law_1276 ?_
        refine j_scld hsc dL_law_1277 (fun v257 => ?_)
        refine j_callVi (mX10_order (kl K) (kD K) (kad K) (kcA K) v254 v255 v256 v257 s) cw_RL_147 sh_0 rfl ⟨rfl, rfl, by decide, by decide⟩ rfl rfl (Nat.le_of_ble_eq_true rfl) dL_law_1278 (fun r258 s259 => ?_)
        refine j_aload_n dL_law_1281 rfl rfl ?_
        refine j_aload_n dL_law_1282 rfl rfl ?_
        refine j_iload_n dL_law_1283 rfl rfl ?_
        refine j_iconst dL_law_1284 (inr_d rfl) ?_
        refine j_iadd dL_law_1285 ?_
        refine j_scld hsc dL_law_1286 (fun v260 => ?_)
        refine j_aload_n dL_law_1287 rfl rfl ?_
        refine j_iload_n dL_law_1288 rfl rfl ?_
        refine j_iconst dL_law_1289 (inr_d rfl) ?_
        refine j_iadd dL_law_1290 ?_
        refine j_scld hsc dL_law_1291 (fun v261 => ?_)
        refine j_aload_n dL_law_1292 rfl rfl ?_
        refine j_iload_n dL_law_1293 rfl rfl ?_
        refine j_iconst dL_law_1294 (inr_d rfl) ?_
        refine j_iadd dL_law_1295 ?_
        refine j_scld hsc dL_law_1296 (fun v262 => ?_)
        refine j_aload_n dL_law_1297 rfl rfl ?_
        refine j_iload_n dL_law_1298 rfl rfl ?_
        refine j_iconst dL_law_1299 (inr_d rfl) ?_
        refine j_iadd dL_law_1300 ?_
        refine j_scld hsc dL_law_1301 (fun v263 => ?_)
        refine j_callVi (mX11_order (kl K) (kD K) (kad K) (kcA K) v260 v261 v262 v263 s259) cw_RL_150 sh_100 rfl ⟨rfl, rfl, by decide, by decide⟩ rfl rfl (Nat.le_of_ble_eq_true rfl) dL_law_1302 (fun r264 s265 => ?_)
        refine j_icmp_eq (tgt := 1405) dL_law_1305 rfl ?_ ?_
        · refine j_iincE (ls2 := [some (.inr (.inr 1004)), some (.inr (.inr 0)), some (.inr (.inr 100)), some (.inl (wr (x3 + 7)))]) dL_law_1405 rfl (by decide) rfl rfl ?_
          refine j_goto (tgt := 18) dL_law_1408 rfl ?_
          exact j_msk [true, true, true, true] (ih _ _)
        · refine j_iconst dL_law_1308 (inr_d rfl) ?_
          exact J_none
      refine j_if (fun hc32 => ?_) (fun hc32 => ?_)
      · refine j_tsIn (tgt := 1310) 32 hc32 dL_law_33 (by decide) (by decide) rfl rfl ?_
        refine j_aload_n dL_law_1310 rfl rfl ?_
        refine j_aload_n dL_law_1311 rfl rfl ?_
        refine j_iload_n dL_law_1312 rfl rfl ?_
        refine j_iconst dL_law_1313 (inr_d rfl) ?_
        refine j_iadd dL_law_1314 ?_
        refine j_scld hsc dL_law_1315 (fun v266 => ?_)
        refine j_callVi (mX10_drop (kl K) (kD K) (kad K) (kcA K) v266 s) cw_RL_151 sh_0 rfl ⟨rfl, rfl, by decide, by decide⟩ rfl rfl (Nat.le_of_ble_eq_true rfl) dL_law_1316 (fun r267 s268 => ?_)
        refine j_aload_n dL_law_1319 rfl rfl ?_
        refine j_aload_n dL_law_1320 rfl rfl ?_
        refine j_iload_n dL_law_1321 rfl rfl ?_
        refine j_iconst dL_law_1322 (inr_d rfl) ?_
        refine j_iadd dL_law_1323 ?_
        refine j_scld hsc dL_law_1324 (fun v269 => ?_)
        refine j_callVi (mX11_drop (kl K) (kD K) (kad K) (kcA K) v269 s268) cw_RL_154 sh_100 rfl ⟨rfl, rfl, by decide, by decide⟩ rfl rfl (Nat.le_of_ble_eq_true rfl) dL_law_1325 (fun r270 s271 => ?_)
        refine j_icmp_eq (tgt := 1405) dL_law_1328 rfl ?_ ?_
        · refine j_iincE (ls2 := [some (.inr (.inr 1004)), some (.inr (.inr 0)), some (.inr (.inr 100)), some (.inl (wr (x3 + 7)))]) dL_law_1405 rfl (by decide) rfl rfl ?_
          refine j_goto (tgt := 18) dL_law_1408 rfl ?_
          exact j_msk [true, true, true, true] (ih _ _)
        · refine j_iconst dL_law_1331 (inr_d rfl) ?_
          exact J_none
      refine j_if (fun hc33 => ?_) (fun hc33 => ?_)
      · refine j_tsIn (tgt := 1333) 33 hc33 dL_law_33 (by decide) (by decide) rfl rfl ?_
        refine j_aload_n dL_law_1333 rfl rfl ?_
        refine j_aload_n dL_law_1334 rfl rfl ?_
        refine j_iload_n dL_law_1335 rfl rfl ?_
        refine j_iconst dL_law_1336 (inr_d rfl) ?_
        refine j_iadd dL_law_1337 ?_
        refine j_scld hsc dL_law_1338 (fun v272 => ?_)
        refine j_callVi (mX10_plan (kl K) (kD K) (kad K) (kcA K) v272 s) cw_RL_155 sh_0 rfl ⟨rfl, rfl, by decide, by decide⟩ rfl rfl (Nat.le_of_ble_eq_true rfl) dL_law_1339 (fun r273 s274 => ?_)
        refine j_aload_n dL_law_1342 rfl rfl ?_
        refine j_aload_n dL_law_1343 rfl rfl ?_
        refine j_iload_n dL_law_1344 rfl rfl ?_
        refine j_iconst dL_law_1345 (inr_d rfl) ?_
        refine j_iadd dL_law_1346 ?_
        refine j_scld hsc dL_law_1347 (fun v275 => ?_)
        refine j_callVi (mX11_plan (kl K) (kD K) (kad K) (kcA K) v275 s274) cw_RL_158 sh_100 rfl ⟨rfl, rfl, by decide, by decide⟩ rfl rfl (Nat.le_of_ble_eq_true rfl) dL_law_1348 (fun r276 s277 => ?_)
        refine j_icmp_eq (tgt := 1405) dL_law_1351 rfl ?_ ?_
        · refine j_iincE (ls2 := [some (.inr (.inr 1004)), some (.inr (.inr 0)), some (.inr (.inr 100)), some (.inl (wr (x3 + 7)))]) dL_law_1405 rfl (by decide) rfl rfl ?_
          refine j_goto (tgt := 18) dL_law_1408 rfl ?_
          exact j_msk [true, true, true, true] (ih _ _)
        · refine j_iconst dL_law_1354 (inr_d rfl) ?_
          exact J_none
      refine j_if (fun hc34 => ?_) (fun hc34 => ?_)
      · refine j_tsIn (tgt := 1356) 34 hc34 dL_law_33 (by decide) (by decide) rfl rfl ?_
        refine j_aload_n dL_law_1356 rfl rfl ?_
        refine j_callVi (mX10_keep (kl K) (kD K) (kad K) (kcA K) s) cw_RL_159 sh_0 rfl ⟨rfl, rfl, by decide, by decide⟩ rfl rfl (Nat.le_of_ble_eq_true rfl) dL_law_1357 (fun r278 s279 => ?_)
        refine j_aload_n dL_law_1360 rfl rfl ?_
        refine j_callVi (mX11_keep (kl K) (kD K) (kad K) (kcA K) s279) cw_RL_162 sh_100 rfl ⟨rfl, rfl, by decide, by decide⟩ rfl rfl (Nat.le_of_ble_eq_true rfl) dL_law_1361 (fun r280 s281 => ?_)
        refine j_icmp_eq (tgt := 1405) dL_law_1364 rfl ?_ ?_
        · refine j_iincE (ls2 := [some (.inr (.inr 1004)), some (.inr (.inr 0)), some (.inr (.inr 100)), some (.inl (wr (x3 + 7)))]) dL_law_1405 rfl (by decide) rfl rfl ?_
          refine j_goto (tgt := 18) dL_law_1408 rfl ?_
          exact j_msk [true, true, true, true] (ih _ _)
        · refine j_iconst dL_law_1367 (inr_d rfl) ?_
          exact J_none
      refine j_if (fun hc35 => ?_) (fun hc35 => ?_)
      · refine j_tsIn (tgt := 1369) 35 hc35 dL_law_33 (by decide) (by decide) rfl rfl ?_
        refine j_aload_n dL_law_1369 rfl rfl ?_
        refine j_callVi (mX10_back (kl K) (kD K) (kad K) (kcA K) s) cw_RL_163 sh_0 rfl ⟨rfl, rfl, by decide, by decide⟩ rfl rfl (Nat.le_of_ble_eq_true rfl) dL_law_1370 (fun r282 s283 => ?_)
        refine j_aload_n dL_law_1373 rfl rfl ?_
        refine j_callVi (mX11_back (kl K) (kD K) (kad K) (kcA K) s283) cw_RL_166 sh_100 rfl ⟨rfl, rfl, by decide, by decide⟩ rfl rfl (Nat.le_of_ble_eq_true rfl) dL_law_1374 (fun r284 s285 => ?_)
        refine j_icmp_eq (tgt := 1405) dL_law_1377 rfl ?_ ?_
        · refine j_iincE (ls2 := [some (.inr (.inr 1004)), some (.inr (.inr 0)), some (.inr (.inr 100)), some (.inl (wr (x3 + 7)))]) dL_law_1405 rfl (by decide) rfl rfl ?_
          refine j_goto (tgt := 18) dL_law_1408 rfl ?_
          exact j_msk [true, true, true, true] (ih _ _)
        · refine j_iconst dL_law_1380 (inr_d rfl) ?_
          exact J_none
      refine j_if (fun hc36 => ?_) (fun hc36 => ?_)
      · refine j_tsIn (tgt := 1382) 36 hc36 dL_law_33 (by decide) (by decide) rfl rfl ?_
        refine j_aload_n dL_law_1382 rfl rfl ?_
        refine j_aload_n dL_law_1383 rfl rfl ?_
        refine j_iload_n dL_law_1384 rfl rfl ?_
        refine j_iconst dL_law_1385 (inr_d rfl) ?_
        refine j_iadd dL_law_1386 ?_
        refine j_scld hsc dL_law_1387 (fun v286 => ?_)
        refine j_callVi (mX10_count (kl K) (kD K) (kad K) (kcA K) v286 s) cw_RL_167 sh_0 rfl ⟨rfl, rfl, by decide, by decide⟩ rfl rfl (Nat.le_of_ble_eq_true rfl) dL_law_1388 (fun r287 s288 => ?_)
        refine j_aload_n dL_law_1391 rfl rfl ?_
        refine j_aload_n dL_law_1392 rfl rfl ?_
        refine j_iload_n dL_law_1393 rfl rfl ?_
        refine j_iconst dL_law_1394 (inr_d rfl) ?_
        refine j_iadd dL_law_1395 ?_
        refine j_scld hsc dL_law_1396 (fun v289 => ?_)
        refine j_callVi (mX11_count (kl K) (kD K) (kad K) (kcA K) v289 s288) cw_RL_170 sh_100 rfl ⟨rfl, rfl, by decide, by decide⟩ rfl rfl (Nat.le_of_ble_eq_true rfl) dL_law_1397 (fun r290 s291 => ?_)
        refine j_icmp_eq (tgt := 1405) dL_law_1400 rfl ?_ ?_
        · refine j_iincE (ls2 := [some (.inr (.inr 1004)), some (.inr (.inr 0)), some (.inr (.inr 100)), some (.inl (wr (x3 + 7)))]) dL_law_1405 rfl (by decide) rfl rfl ?_
          refine j_goto (tgt := 18) dL_law_1408 rfl ?_
          exact j_msk [true, true, true, true] (ih _ _)
        · refine j_iconst dL_law_1403 (inr_d rfl) ?_
          exact J_none
      refine j_tsOut (tgt := 1405) dL_law_33 (by omega) rfl ?_
      refine j_iincE (ls2 := [some (.inr (.inr 1004)), some (.inr (.inr 0)), some (.inr (.inr 100)), some (.inl (wr (x3 + 7)))]) dL_law_1405 rfl (by decide) rfl rfl ?_
      refine j_goto (tgt := 18) dL_law_1408 rfl ?_
      exact j_msk [true, true, true, true] (ih _ _)
set_option maxRecDepth 100000 in
set_option maxHeartbeats 16000000 in
theorem jL_law {K : KT} (hq : KL K) (xs : Nat → Int) (L : Nat) (hsc : SCR K xs L) (hL : L < 2147483648) (s0 : Mem) : J K rmL_law cL_law RL 4 18 [some (.inr (.inr 1004)), some (.inr (.inr 0)), some (.inr (.inr 100)), some (.inl 0)] [] s0 (fL_law xs L s0) := by
  unfold fL_law
  refine j_msk [true, true, true, true] (jLL_law_18 hq xs L hsc hL _ (fun s292 => ?_) _ _ _)
  refine j_iconst dL_law_1411 (inr_d rfl) ?_
  exact j_lret hq dL_law_1412
