/-! Blocks: 211 -/
theorem zxt_s {x : zXs} (hL : x.1 ≤ 3072) : zxt x (50 : UInt64).toNat = some (true, x.1, x.2) := by
  show (if (50 : Nat) = 0 then _ else if (50 : Nat) = 50 then (if x.1 ≤ 3072 then some (true, x.1, x.2) else none) else _) = _
  rw [if_neg (by omega), if_pos rfl, if_pos hL]
theorem zd211_7 : zop 211 7 = some (.astore_n 1, 1) := by decide +kernel
theorem zd211_15 : zop 211 15 = some (.astore_n 2, 1) := by decide +kernel
theorem zd211_16 : zop 211 16 = some (.iconst 0, 1) := by decide +kernel
theorem zd211_17 : zop 211 17 = some (.istore_n 3, 1) := by decide +kernel
theorem zd211_18 : zop 211 18 = some (.iload_n 3, 1) := by decide +kernel
theorem zd211_19 : zop 211 19 = some (.aload_n 0, 1) := by decide +kernel
theorem zd211_20 : zop 211 20 = some (.arraylength, 1) := by decide +kernel
theorem zd211_21 : zop 211 21 = some (.bipush 6, 2) := by decide +kernel
theorem zd211_23 : zop 211 23 = some (.isub, 1) := by decide +kernel
theorem zd211_24 : zop 211 24 = some (.if_icmp .gt 1229, 3) := by decide +kernel
theorem zd211_27 : zop 211 27 = some (.aload_n 0, 1) := by decide +kernel
theorem zd211_28 : zop 211 28 = some (.iload_n 3, 1) := by decide +kernel
theorem zd211_29 : zop 211 29 = some (.iaload, 1) := by decide +kernel
theorem zd211_30 : zop 211 30 = some (.bipush 31, 2) := by decide +kernel
theorem zd211_32 : zop 211 32 = some (.iand, 1) := by decide +kernel
theorem zd211_33 : zop 211 33 = some (.tableswitch 1214 0 30 #[139, 182, 225, 258, 291, 324, 357, 380, 393, 416, 449, 482, 495, 538, 591, 634, 667, 700, 713, 737, 790, 833, 866, 930, 943, 956, 979, 1022, 1065, 1128, 1181], 139) := by decide +kernel
theorem zd211_172 : zop 211 172 = some (.aload_n 1, 1) := by decide +kernel
theorem zd211_173 : zop 211 173 = some (.aload_n 0, 1) := by decide +kernel
theorem zd211_174 : zop 211 174 = some (.iload_n 3, 1) := by decide +kernel
theorem zd211_175 : zop 211 175 = some (.iconst 1, 1) := by decide +kernel
theorem zd211_176 : zop 211 176 = some (.iadd, 1) := by decide +kernel
theorem zd211_177 : zop 211 177 = some (.iaload, 1) := by decide +kernel
theorem zd211_178 : zop 211 178 = some (.aload_n 0, 1) := by decide +kernel
theorem zd211_179 : zop 211 179 = some (.iload_n 3, 1) := by decide +kernel
theorem zd211_180 : zop 211 180 = some (.iconst 2, 1) := by decide +kernel
theorem zd211_181 : zop 211 181 = some (.iadd, 1) := by decide +kernel
theorem zd211_182 : zop 211 182 = some (.iaload, 1) := by decide +kernel
theorem zd211_183 : zop 211 183 = some (.aload_n 0, 1) := by decide +kernel
theorem zd211_184 : zop 211 184 = some (.iload_n 3, 1) := by decide +kernel
theorem zd211_185 : zop 211 185 = some (.iconst 3, 1) := by decide +kernel
theorem zd211_186 : zop 211 186 = some (.iadd, 1) := by decide +kernel
theorem zd211_187 : zop 211 187 = some (.iaload, 1) := by decide +kernel
theorem zd211_188 : zop 211 188 = some (.invokevirtual 13, 3) := by decide +kernel
theorem zd211_191 : zop 211 191 = some (.aload_n 2, 1) := by decide +kernel
theorem zd211_192 : zop 211 192 = some (.aload_n 0, 1) := by decide +kernel
theorem zd211_193 : zop 211 193 = some (.iload_n 3, 1) := by decide +kernel
theorem zd211_194 : zop 211 194 = some (.iconst 1, 1) := by decide +kernel
theorem zd211_195 : zop 211 195 = some (.iadd, 1) := by decide +kernel
theorem zd211_196 : zop 211 196 = some (.iaload, 1) := by decide +kernel
theorem zd211_197 : zop 211 197 = some (.aload_n 0, 1) := by decide +kernel
theorem zd211_198 : zop 211 198 = some (.iload_n 3, 1) := by decide +kernel
theorem zd211_199 : zop 211 199 = some (.iconst 2, 1) := by decide +kernel
theorem zd211_200 : zop 211 200 = some (.iadd, 1) := by decide +kernel
theorem zd211_201 : zop 211 201 = some (.iaload, 1) := by decide +kernel
theorem zd211_202 : zop 211 202 = some (.aload_n 0, 1) := by decide +kernel
theorem zd211_203 : zop 211 203 = some (.iload_n 3, 1) := by decide +kernel
theorem zd211_204 : zop 211 204 = some (.iconst 3, 1) := by decide +kernel
theorem zd211_205 : zop 211 205 = some (.iadd, 1) := by decide +kernel
theorem zd211_206 : zop 211 206 = some (.iaload, 1) := by decide +kernel
theorem zd211_207 : zop 211 207 = some (.invokevirtual 17, 3) := by decide +kernel
theorem zd211_210 : zop 211 210 = some (.if_icmp .eq 1037, 3) := by decide +kernel
theorem zd211_213 : zop 211 213 = some (.iconst 0, 1) := by decide +kernel
theorem zd211_214 : zop 211 214 = some (.ireturn, 1) := by decide +kernel
theorem zd211_215 : zop 211 215 = some (.aload_n 1, 1) := by decide +kernel
theorem zd211_216 : zop 211 216 = some (.aload_n 0, 1) := by decide +kernel
theorem zd211_217 : zop 211 217 = some (.iload_n 3, 1) := by decide +kernel
theorem zd211_218 : zop 211 218 = some (.iconst 1, 1) := by decide +kernel
theorem zd211_219 : zop 211 219 = some (.iadd, 1) := by decide +kernel
theorem zd211_220 : zop 211 220 = some (.iaload, 1) := by decide +kernel
theorem zd211_221 : zop 211 221 = some (.aload_n 0, 1) := by decide +kernel
theorem zd211_222 : zop 211 222 = some (.iload_n 3, 1) := by decide +kernel
theorem zd211_223 : zop 211 223 = some (.iconst 2, 1) := by decide +kernel
theorem zd211_224 : zop 211 224 = some (.iadd, 1) := by decide +kernel
theorem zd211_225 : zop 211 225 = some (.iaload, 1) := by decide +kernel
theorem zd211_226 : zop 211 226 = some (.aload_n 0, 1) := by decide +kernel
theorem zd211_227 : zop 211 227 = some (.iload_n 3, 1) := by decide +kernel
theorem zd211_228 : zop 211 228 = some (.iconst 3, 1) := by decide +kernel
theorem zd211_229 : zop 211 229 = some (.iadd, 1) := by decide +kernel
theorem zd211_230 : zop 211 230 = some (.iaload, 1) := by decide +kernel
theorem zd211_231 : zop 211 231 = some (.invokevirtual 18, 3) := by decide +kernel
theorem zd211_234 : zop 211 234 = some (.aload_n 2, 1) := by decide +kernel
theorem zd211_235 : zop 211 235 = some (.aload_n 0, 1) := by decide +kernel
theorem zd211_236 : zop 211 236 = some (.iload_n 3, 1) := by decide +kernel
theorem zd211_237 : zop 211 237 = some (.iconst 1, 1) := by decide +kernel
theorem zd211_238 : zop 211 238 = some (.iadd, 1) := by decide +kernel
theorem zd211_239 : zop 211 239 = some (.iaload, 1) := by decide +kernel
theorem zd211_240 : zop 211 240 = some (.aload_n 0, 1) := by decide +kernel
theorem zd211_241 : zop 211 241 = some (.iload_n 3, 1) := by decide +kernel
theorem zd211_242 : zop 211 242 = some (.iconst 2, 1) := by decide +kernel
theorem zd211_243 : zop 211 243 = some (.iadd, 1) := by decide +kernel
theorem zd211_244 : zop 211 244 = some (.iaload, 1) := by decide +kernel
theorem zd211_245 : zop 211 245 = some (.aload_n 0, 1) := by decide +kernel
theorem zd211_246 : zop 211 246 = some (.iload_n 3, 1) := by decide +kernel
theorem zd211_247 : zop 211 247 = some (.iconst 3, 1) := by decide +kernel
theorem zd211_248 : zop 211 248 = some (.iadd, 1) := by decide +kernel
theorem zd211_249 : zop 211 249 = some (.iaload, 1) := by decide +kernel
theorem zd211_250 : zop 211 250 = some (.invokevirtual 21, 3) := by decide +kernel
theorem zd211_253 : zop 211 253 = some (.if_icmp .eq 994, 3) := by decide +kernel
theorem zd211_256 : zop 211 256 = some (.iconst 0, 1) := by decide +kernel
theorem zd211_257 : zop 211 257 = some (.ireturn, 1) := by decide +kernel
theorem zd211_258 : zop 211 258 = some (.aload_n 1, 1) := by decide +kernel
theorem zd211_259 : zop 211 259 = some (.aload_n 0, 1) := by decide +kernel
theorem zd211_260 : zop 211 260 = some (.iload_n 3, 1) := by decide +kernel
theorem zd211_261 : zop 211 261 = some (.iconst 1, 1) := by decide +kernel
theorem zd211_262 : zop 211 262 = some (.iadd, 1) := by decide +kernel
theorem zd211_263 : zop 211 263 = some (.iaload, 1) := by decide +kernel
theorem zd211_264 : zop 211 264 = some (.aload_n 0, 1) := by decide +kernel
theorem zd211_265 : zop 211 265 = some (.iload_n 3, 1) := by decide +kernel
theorem zd211_266 : zop 211 266 = some (.iconst 2, 1) := by decide +kernel
theorem zd211_267 : zop 211 267 = some (.iadd, 1) := by decide +kernel
theorem zd211_268 : zop 211 268 = some (.iaload, 1) := by decide +kernel
theorem zd211_269 : zop 211 269 = some (.invokevirtual 22, 3) := by decide +kernel
theorem zd211_272 : zop 211 272 = some (.aload_n 2, 1) := by decide +kernel
theorem zd211_273 : zop 211 273 = some (.aload_n 0, 1) := by decide +kernel
theorem zd211_274 : zop 211 274 = some (.iload_n 3, 1) := by decide +kernel
theorem zd211_275 : zop 211 275 = some (.iconst 1, 1) := by decide +kernel
theorem zd211_276 : zop 211 276 = some (.iadd, 1) := by decide +kernel
theorem zd211_277 : zop 211 277 = some (.iaload, 1) := by decide +kernel
theorem zd211_278 : zop 211 278 = some (.aload_n 0, 1) := by decide +kernel
theorem zd211_279 : zop 211 279 = some (.iload_n 3, 1) := by decide +kernel
theorem zd211_280 : zop 211 280 = some (.iconst 2, 1) := by decide +kernel
theorem zd211_281 : zop 211 281 = some (.iadd, 1) := by decide +kernel
theorem zd211_282 : zop 211 282 = some (.iaload, 1) := by decide +kernel
theorem zd211_283 : zop 211 283 = some (.invokevirtual 26, 3) := by decide +kernel
theorem zd211_286 : zop 211 286 = some (.if_icmp .eq 961, 3) := by decide +kernel
theorem zd211_289 : zop 211 289 = some (.iconst 0, 1) := by decide +kernel
theorem zd211_290 : zop 211 290 = some (.ireturn, 1) := by decide +kernel
theorem zd211_291 : zop 211 291 = some (.aload_n 1, 1) := by decide +kernel
theorem zd211_292 : zop 211 292 = some (.aload_n 0, 1) := by decide +kernel
theorem zd211_293 : zop 211 293 = some (.iload_n 3, 1) := by decide +kernel
theorem zd211_294 : zop 211 294 = some (.iconst 1, 1) := by decide +kernel
theorem zd211_295 : zop 211 295 = some (.iadd, 1) := by decide +kernel
theorem zd211_296 : zop 211 296 = some (.iaload, 1) := by decide +kernel
theorem zd211_297 : zop 211 297 = some (.aload_n 0, 1) := by decide +kernel
theorem zd211_298 : zop 211 298 = some (.iload_n 3, 1) := by decide +kernel
theorem zd211_299 : zop 211 299 = some (.iconst 2, 1) := by decide +kernel
theorem zd211_300 : zop 211 300 = some (.iadd, 1) := by decide +kernel
theorem zd211_301 : zop 211 301 = some (.iaload, 1) := by decide +kernel
theorem zd211_302 : zop 211 302 = some (.invokevirtual 27, 3) := by decide +kernel
theorem zd211_305 : zop 211 305 = some (.aload_n 2, 1) := by decide +kernel
theorem zd211_306 : zop 211 306 = some (.aload_n 0, 1) := by decide +kernel
theorem zd211_307 : zop 211 307 = some (.iload_n 3, 1) := by decide +kernel
theorem zd211_308 : zop 211 308 = some (.iconst 1, 1) := by decide +kernel
theorem zd211_309 : zop 211 309 = some (.iadd, 1) := by decide +kernel
theorem zd211_310 : zop 211 310 = some (.iaload, 1) := by decide +kernel
theorem zd211_311 : zop 211 311 = some (.aload_n 0, 1) := by decide +kernel
theorem zd211_312 : zop 211 312 = some (.iload_n 3, 1) := by decide +kernel
theorem zd211_313 : zop 211 313 = some (.iconst 2, 1) := by decide +kernel
theorem zd211_314 : zop 211 314 = some (.iadd, 1) := by decide +kernel
theorem zd211_315 : zop 211 315 = some (.iaload, 1) := by decide +kernel
theorem zd211_316 : zop 211 316 = some (.invokevirtual 30, 3) := by decide +kernel
theorem zd211_319 : zop 211 319 = some (.if_icmp .eq 928, 3) := by decide +kernel
theorem zd211_322 : zop 211 322 = some (.iconst 0, 1) := by decide +kernel
theorem zd211_323 : zop 211 323 = some (.ireturn, 1) := by decide +kernel
theorem zd211_324 : zop 211 324 = some (.aload_n 1, 1) := by decide +kernel
theorem zd211_325 : zop 211 325 = some (.aload_n 0, 1) := by decide +kernel
theorem zd211_326 : zop 211 326 = some (.iload_n 3, 1) := by decide +kernel
theorem zd211_327 : zop 211 327 = some (.iconst 1, 1) := by decide +kernel
theorem zd211_328 : zop 211 328 = some (.iadd, 1) := by decide +kernel
theorem zd211_329 : zop 211 329 = some (.iaload, 1) := by decide +kernel
theorem zd211_330 : zop 211 330 = some (.aload_n 0, 1) := by decide +kernel
theorem zd211_331 : zop 211 331 = some (.iload_n 3, 1) := by decide +kernel
theorem zd211_332 : zop 211 332 = some (.iconst 2, 1) := by decide +kernel
theorem zd211_333 : zop 211 333 = some (.iadd, 1) := by decide +kernel
theorem zd211_334 : zop 211 334 = some (.iaload, 1) := by decide +kernel
theorem zd211_335 : zop 211 335 = some (.invokevirtual 31, 3) := by decide +kernel
theorem zd211_338 : zop 211 338 = some (.aload_n 2, 1) := by decide +kernel
theorem zd211_339 : zop 211 339 = some (.aload_n 0, 1) := by decide +kernel
theorem zd211_340 : zop 211 340 = some (.iload_n 3, 1) := by decide +kernel
theorem zd211_341 : zop 211 341 = some (.iconst 1, 1) := by decide +kernel
theorem zd211_342 : zop 211 342 = some (.iadd, 1) := by decide +kernel
theorem zd211_343 : zop 211 343 = some (.iaload, 1) := by decide +kernel
theorem zd211_344 : zop 211 344 = some (.aload_n 0, 1) := by decide +kernel
theorem zd211_345 : zop 211 345 = some (.iload_n 3, 1) := by decide +kernel
theorem zd211_346 : zop 211 346 = some (.iconst 2, 1) := by decide +kernel
theorem zd211_347 : zop 211 347 = some (.iadd, 1) := by decide +kernel
theorem zd211_348 : zop 211 348 = some (.iaload, 1) := by decide +kernel
theorem zd211_349 : zop 211 349 = some (.invokevirtual 34, 3) := by decide +kernel
theorem zd211_352 : zop 211 352 = some (.if_icmp .eq 895, 3) := by decide +kernel
theorem zd211_355 : zop 211 355 = some (.iconst 0, 1) := by decide +kernel
theorem zd211_356 : zop 211 356 = some (.ireturn, 1) := by decide +kernel
theorem zd211_357 : zop 211 357 = some (.aload_n 1, 1) := by decide +kernel
theorem zd211_358 : zop 211 358 = some (.aload_n 0, 1) := by decide +kernel
theorem zd211_359 : zop 211 359 = some (.iload_n 3, 1) := by decide +kernel
theorem zd211_360 : zop 211 360 = some (.iconst 1, 1) := by decide +kernel
theorem zd211_361 : zop 211 361 = some (.iadd, 1) := by decide +kernel
theorem zd211_362 : zop 211 362 = some (.iaload, 1) := by decide +kernel
theorem zd211_363 : zop 211 363 = some (.aload_n 0, 1) := by decide +kernel
theorem zd211_364 : zop 211 364 = some (.iload_n 3, 1) := by decide +kernel
theorem zd211_365 : zop 211 365 = some (.iconst 2, 1) := by decide +kernel
theorem zd211_366 : zop 211 366 = some (.iadd, 1) := by decide +kernel
theorem zd211_367 : zop 211 367 = some (.iaload, 1) := by decide +kernel
theorem zd211_368 : zop 211 368 = some (.invokevirtual 35, 3) := by decide +kernel
theorem zd211_371 : zop 211 371 = some (.aload_n 2, 1) := by decide +kernel
theorem zd211_372 : zop 211 372 = some (.aload_n 0, 1) := by decide +kernel
theorem zd211_373 : zop 211 373 = some (.iload_n 3, 1) := by decide +kernel
theorem zd211_374 : zop 211 374 = some (.iconst 1, 1) := by decide +kernel
theorem zd211_375 : zop 211 375 = some (.iadd, 1) := by decide +kernel
theorem zd211_376 : zop 211 376 = some (.iaload, 1) := by decide +kernel
theorem zd211_377 : zop 211 377 = some (.aload_n 0, 1) := by decide +kernel
theorem zd211_378 : zop 211 378 = some (.iload_n 3, 1) := by decide +kernel
theorem zd211_379 : zop 211 379 = some (.iconst 2, 1) := by decide +kernel
theorem zd211_380 : zop 211 380 = some (.iadd, 1) := by decide +kernel
theorem zd211_381 : zop 211 381 = some (.iaload, 1) := by decide +kernel
theorem zd211_382 : zop 211 382 = some (.invokevirtual 38, 3) := by decide +kernel
theorem zd211_385 : zop 211 385 = some (.if_icmp .eq 862, 3) := by decide +kernel
theorem zd211_388 : zop 211 388 = some (.iconst 0, 1) := by decide +kernel
theorem zd211_389 : zop 211 389 = some (.ireturn, 1) := by decide +kernel
theorem zd211_390 : zop 211 390 = some (.aload_n 1, 1) := by decide +kernel
theorem zd211_391 : zop 211 391 = some (.aload_n 0, 1) := by decide +kernel
theorem zd211_392 : zop 211 392 = some (.iload_n 3, 1) := by decide +kernel
theorem zd211_393 : zop 211 393 = some (.iconst 1, 1) := by decide +kernel
theorem zd211_394 : zop 211 394 = some (.iadd, 1) := by decide +kernel
theorem zd211_395 : zop 211 395 = some (.iaload, 1) := by decide +kernel
theorem zd211_396 : zop 211 396 = some (.invokevirtual 39, 3) := by decide +kernel
theorem zd211_399 : zop 211 399 = some (.aload_n 2, 1) := by decide +kernel
theorem zd211_400 : zop 211 400 = some (.aload_n 0, 1) := by decide +kernel
theorem zd211_401 : zop 211 401 = some (.iload_n 3, 1) := by decide +kernel
theorem zd211_402 : zop 211 402 = some (.iconst 1, 1) := by decide +kernel
theorem zd211_403 : zop 211 403 = some (.iadd, 1) := by decide +kernel
theorem zd211_404 : zop 211 404 = some (.iaload, 1) := by decide +kernel
theorem zd211_405 : zop 211 405 = some (.invokevirtual 43, 3) := by decide +kernel
theorem zd211_408 : zop 211 408 = some (.if_icmp .eq 839, 3) := by decide +kernel
theorem zd211_411 : zop 211 411 = some (.iconst 0, 1) := by decide +kernel
theorem zd211_412 : zop 211 412 = some (.ireturn, 1) := by decide +kernel
theorem zd211_413 : zop 211 413 = some (.aload_n 1, 1) := by decide +kernel
theorem zd211_414 : zop 211 414 = some (.invokevirtual 44, 3) := by decide +kernel
theorem zd211_417 : zop 211 417 = some (.aload_n 2, 1) := by decide +kernel
theorem zd211_418 : zop 211 418 = some (.invokevirtual 48, 3) := by decide +kernel
theorem zd211_421 : zop 211 421 = some (.if_icmp .eq 826, 3) := by decide +kernel
theorem zd211_424 : zop 211 424 = some (.iconst 0, 1) := by decide +kernel
theorem zd211_425 : zop 211 425 = some (.ireturn, 1) := by decide +kernel
theorem zd211_426 : zop 211 426 = some (.aload_n 1, 1) := by decide +kernel
theorem zd211_427 : zop 211 427 = some (.aload_n 0, 1) := by decide +kernel
theorem zd211_428 : zop 211 428 = some (.iload_n 3, 1) := by decide +kernel
theorem zd211_429 : zop 211 429 = some (.iconst 1, 1) := by decide +kernel
theorem zd211_430 : zop 211 430 = some (.iadd, 1) := by decide +kernel
theorem zd211_431 : zop 211 431 = some (.iaload, 1) := by decide +kernel
theorem zd211_432 : zop 211 432 = some (.invokevirtual 49, 3) := by decide +kernel
theorem zd211_435 : zop 211 435 = some (.aload_n 2, 1) := by decide +kernel
theorem zd211_436 : zop 211 436 = some (.aload_n 0, 1) := by decide +kernel
theorem zd211_437 : zop 211 437 = some (.iload_n 3, 1) := by decide +kernel
theorem zd211_438 : zop 211 438 = some (.iconst 1, 1) := by decide +kernel
theorem zd211_439 : zop 211 439 = some (.iadd, 1) := by decide +kernel
theorem zd211_440 : zop 211 440 = some (.iaload, 1) := by decide +kernel
theorem zd211_441 : zop 211 441 = some (.invokevirtual 52, 3) := by decide +kernel
theorem zd211_444 : zop 211 444 = some (.if_icmp .eq 803, 3) := by decide +kernel
theorem zd211_447 : zop 211 447 = some (.iconst 0, 1) := by decide +kernel
theorem zd211_448 : zop 211 448 = some (.ireturn, 1) := by decide +kernel
theorem zd211_449 : zop 211 449 = some (.aload_n 1, 1) := by decide +kernel
theorem zd211_450 : zop 211 450 = some (.aload_n 0, 1) := by decide +kernel
theorem zd211_451 : zop 211 451 = some (.iload_n 3, 1) := by decide +kernel
theorem zd211_452 : zop 211 452 = some (.iconst 1, 1) := by decide +kernel
theorem zd211_453 : zop 211 453 = some (.iadd, 1) := by decide +kernel
theorem zd211_454 : zop 211 454 = some (.iaload, 1) := by decide +kernel
theorem zd211_455 : zop 211 455 = some (.aload_n 0, 1) := by decide +kernel
theorem zd211_456 : zop 211 456 = some (.iload_n 3, 1) := by decide +kernel
theorem zd211_457 : zop 211 457 = some (.iconst 2, 1) := by decide +kernel
theorem zd211_458 : zop 211 458 = some (.iadd, 1) := by decide +kernel
theorem zd211_459 : zop 211 459 = some (.iaload, 1) := by decide +kernel
theorem zd211_460 : zop 211 460 = some (.invokevirtual 53, 3) := by decide +kernel
theorem zd211_463 : zop 211 463 = some (.aload_n 2, 1) := by decide +kernel
theorem zd211_464 : zop 211 464 = some (.aload_n 0, 1) := by decide +kernel
theorem zd211_465 : zop 211 465 = some (.iload_n 3, 1) := by decide +kernel
theorem zd211_466 : zop 211 466 = some (.iconst 1, 1) := by decide +kernel
theorem zd211_467 : zop 211 467 = some (.iadd, 1) := by decide +kernel
theorem zd211_468 : zop 211 468 = some (.iaload, 1) := by decide +kernel
theorem zd211_469 : zop 211 469 = some (.aload_n 0, 1) := by decide +kernel
theorem zd211_470 : zop 211 470 = some (.iload_n 3, 1) := by decide +kernel
theorem zd211_471 : zop 211 471 = some (.iconst 2, 1) := by decide +kernel
theorem zd211_472 : zop 211 472 = some (.iadd, 1) := by decide +kernel
theorem zd211_473 : zop 211 473 = some (.iaload, 1) := by decide +kernel
theorem zd211_474 : zop 211 474 = some (.invokevirtual 56, 3) := by decide +kernel
theorem zd211_477 : zop 211 477 = some (.if_icmp .eq 770, 3) := by decide +kernel
theorem zd211_480 : zop 211 480 = some (.iconst 0, 1) := by decide +kernel
theorem zd211_481 : zop 211 481 = some (.ireturn, 1) := by decide +kernel
theorem zd211_482 : zop 211 482 = some (.aload_n 1, 1) := by decide +kernel
theorem zd211_483 : zop 211 483 = some (.aload_n 0, 1) := by decide +kernel
theorem zd211_484 : zop 211 484 = some (.iload_n 3, 1) := by decide +kernel
theorem zd211_485 : zop 211 485 = some (.iconst 1, 1) := by decide +kernel
theorem zd211_486 : zop 211 486 = some (.iadd, 1) := by decide +kernel
theorem zd211_487 : zop 211 487 = some (.iaload, 1) := by decide +kernel
theorem zd211_488 : zop 211 488 = some (.aload_n 0, 1) := by decide +kernel
theorem zd211_489 : zop 211 489 = some (.iload_n 3, 1) := by decide +kernel
theorem zd211_490 : zop 211 490 = some (.iconst 2, 1) := by decide +kernel
theorem zd211_491 : zop 211 491 = some (.iadd, 1) := by decide +kernel
theorem zd211_492 : zop 211 492 = some (.iaload, 1) := by decide +kernel
theorem zd211_493 : zop 211 493 = some (.invokevirtual 57, 3) := by decide +kernel
theorem zd211_496 : zop 211 496 = some (.aload_n 2, 1) := by decide +kernel
theorem zd211_497 : zop 211 497 = some (.aload_n 0, 1) := by decide +kernel
theorem zd211_498 : zop 211 498 = some (.iload_n 3, 1) := by decide +kernel
theorem zd211_499 : zop 211 499 = some (.iconst 1, 1) := by decide +kernel
theorem zd211_500 : zop 211 500 = some (.iadd, 1) := by decide +kernel
theorem zd211_501 : zop 211 501 = some (.iaload, 1) := by decide +kernel
theorem zd211_502 : zop 211 502 = some (.aload_n 0, 1) := by decide +kernel
theorem zd211_503 : zop 211 503 = some (.iload_n 3, 1) := by decide +kernel
theorem zd211_504 : zop 211 504 = some (.iconst 2, 1) := by decide +kernel
theorem zd211_505 : zop 211 505 = some (.iadd, 1) := by decide +kernel
theorem zd211_506 : zop 211 506 = some (.iaload, 1) := by decide +kernel
theorem zd211_507 : zop 211 507 = some (.invokevirtual 60, 3) := by decide +kernel
theorem zd211_510 : zop 211 510 = some (.if_icmp .eq 737, 3) := by decide +kernel
theorem zd211_513 : zop 211 513 = some (.iconst 0, 1) := by decide +kernel
theorem zd211_514 : zop 211 514 = some (.ireturn, 1) := by decide +kernel
theorem zd211_515 : zop 211 515 = some (.aload_n 1, 1) := by decide +kernel
theorem zd211_516 : zop 211 516 = some (.invokevirtual 61, 3) := by decide +kernel
theorem zd211_519 : zop 211 519 = some (.aload_n 2, 1) := by decide +kernel
theorem zd211_520 : zop 211 520 = some (.invokevirtual 64, 3) := by decide +kernel
theorem zd211_523 : zop 211 523 = some (.if_icmp .eq 724, 3) := by decide +kernel
theorem zd211_526 : zop 211 526 = some (.iconst 0, 1) := by decide +kernel
theorem zd211_527 : zop 211 527 = some (.ireturn, 1) := by decide +kernel
theorem zd211_528 : zop 211 528 = some (.aload_n 1, 1) := by decide +kernel
theorem zd211_529 : zop 211 529 = some (.aload_n 0, 1) := by decide +kernel
theorem zd211_530 : zop 211 530 = some (.iload_n 3, 1) := by decide +kernel
theorem zd211_531 : zop 211 531 = some (.iconst 1, 1) := by decide +kernel
theorem zd211_532 : zop 211 532 = some (.iadd, 1) := by decide +kernel
theorem zd211_533 : zop 211 533 = some (.iaload, 1) := by decide +kernel
theorem zd211_534 : zop 211 534 = some (.aload_n 0, 1) := by decide +kernel
theorem zd211_535 : zop 211 535 = some (.iload_n 3, 1) := by decide +kernel
theorem zd211_536 : zop 211 536 = some (.iconst 2, 1) := by decide +kernel
theorem zd211_537 : zop 211 537 = some (.iadd, 1) := by decide +kernel
theorem zd211_538 : zop 211 538 = some (.iaload, 1) := by decide +kernel
theorem zd211_539 : zop 211 539 = some (.aload_n 0, 1) := by decide +kernel
theorem zd211_540 : zop 211 540 = some (.iload_n 3, 1) := by decide +kernel
theorem zd211_541 : zop 211 541 = some (.iconst 3, 1) := by decide +kernel
theorem zd211_542 : zop 211 542 = some (.iadd, 1) := by decide +kernel
theorem zd211_543 : zop 211 543 = some (.iaload, 1) := by decide +kernel
theorem zd211_544 : zop 211 544 = some (.invokevirtual 65, 3) := by decide +kernel
theorem zd211_547 : zop 211 547 = some (.aload_n 2, 1) := by decide +kernel
theorem zd211_548 : zop 211 548 = some (.aload_n 0, 1) := by decide +kernel
theorem zd211_549 : zop 211 549 = some (.iload_n 3, 1) := by decide +kernel
theorem zd211_550 : zop 211 550 = some (.iconst 1, 1) := by decide +kernel
theorem zd211_551 : zop 211 551 = some (.iadd, 1) := by decide +kernel
theorem zd211_552 : zop 211 552 = some (.iaload, 1) := by decide +kernel
theorem zd211_553 : zop 211 553 = some (.aload_n 0, 1) := by decide +kernel
theorem zd211_554 : zop 211 554 = some (.iload_n 3, 1) := by decide +kernel
theorem zd211_555 : zop 211 555 = some (.iconst 2, 1) := by decide +kernel
theorem zd211_556 : zop 211 556 = some (.iadd, 1) := by decide +kernel
theorem zd211_557 : zop 211 557 = some (.iaload, 1) := by decide +kernel
theorem zd211_558 : zop 211 558 = some (.aload_n 0, 1) := by decide +kernel
theorem zd211_559 : zop 211 559 = some (.iload_n 3, 1) := by decide +kernel
theorem zd211_560 : zop 211 560 = some (.iconst 3, 1) := by decide +kernel
theorem zd211_561 : zop 211 561 = some (.iadd, 1) := by decide +kernel
theorem zd211_562 : zop 211 562 = some (.iaload, 1) := by decide +kernel
theorem zd211_563 : zop 211 563 = some (.invokevirtual 68, 3) := by decide +kernel
theorem zd211_566 : zop 211 566 = some (.if_icmp .eq 681, 3) := by decide +kernel
theorem zd211_569 : zop 211 569 = some (.iconst 0, 1) := by decide +kernel
theorem zd211_570 : zop 211 570 = some (.ireturn, 1) := by decide +kernel
theorem zd211_571 : zop 211 571 = some (.aload_n 1, 1) := by decide +kernel
theorem zd211_572 : zop 211 572 = some (.aload_n 0, 1) := by decide +kernel
theorem zd211_573 : zop 211 573 = some (.iload_n 3, 1) := by decide +kernel
theorem zd211_574 : zop 211 574 = some (.iconst 1, 1) := by decide +kernel
theorem zd211_575 : zop 211 575 = some (.iadd, 1) := by decide +kernel
theorem zd211_576 : zop 211 576 = some (.iaload, 1) := by decide +kernel
theorem zd211_577 : zop 211 577 = some (.aload_n 0, 1) := by decide +kernel
theorem zd211_578 : zop 211 578 = some (.iload_n 3, 1) := by decide +kernel
theorem zd211_579 : zop 211 579 = some (.iconst 2, 1) := by decide +kernel
theorem zd211_580 : zop 211 580 = some (.iadd, 1) := by decide +kernel
theorem zd211_581 : zop 211 581 = some (.iaload, 1) := by decide +kernel
theorem zd211_582 : zop 211 582 = some (.aload_n 0, 1) := by decide +kernel
theorem zd211_583 : zop 211 583 = some (.iload_n 3, 1) := by decide +kernel
theorem zd211_584 : zop 211 584 = some (.iconst 3, 1) := by decide +kernel
theorem zd211_585 : zop 211 585 = some (.iadd, 1) := by decide +kernel
theorem zd211_586 : zop 211 586 = some (.iaload, 1) := by decide +kernel
theorem zd211_587 : zop 211 587 = some (.aload_n 0, 1) := by decide +kernel
theorem zd211_588 : zop 211 588 = some (.iload_n 3, 1) := by decide +kernel
theorem zd211_589 : zop 211 589 = some (.iconst 4, 1) := by decide +kernel
theorem zd211_590 : zop 211 590 = some (.iadd, 1) := by decide +kernel
theorem zd211_591 : zop 211 591 = some (.iaload, 1) := by decide +kernel
theorem zd211_592 : zop 211 592 = some (.invokevirtual 69, 3) := by decide +kernel
theorem zd211_595 : zop 211 595 = some (.aload_n 2, 1) := by decide +kernel
theorem zd211_596 : zop 211 596 = some (.aload_n 0, 1) := by decide +kernel
theorem zd211_597 : zop 211 597 = some (.iload_n 3, 1) := by decide +kernel
theorem zd211_598 : zop 211 598 = some (.iconst 1, 1) := by decide +kernel
theorem zd211_599 : zop 211 599 = some (.iadd, 1) := by decide +kernel
theorem zd211_600 : zop 211 600 = some (.iaload, 1) := by decide +kernel
theorem zd211_601 : zop 211 601 = some (.aload_n 0, 1) := by decide +kernel
theorem zd211_602 : zop 211 602 = some (.iload_n 3, 1) := by decide +kernel
theorem zd211_603 : zop 211 603 = some (.iconst 2, 1) := by decide +kernel
theorem zd211_604 : zop 211 604 = some (.iadd, 1) := by decide +kernel
theorem zd211_605 : zop 211 605 = some (.iaload, 1) := by decide +kernel
theorem zd211_606 : zop 211 606 = some (.aload_n 0, 1) := by decide +kernel
theorem zd211_607 : zop 211 607 = some (.iload_n 3, 1) := by decide +kernel
theorem zd211_608 : zop 211 608 = some (.iconst 3, 1) := by decide +kernel
theorem zd211_609 : zop 211 609 = some (.iadd, 1) := by decide +kernel
theorem zd211_610 : zop 211 610 = some (.iaload, 1) := by decide +kernel
theorem zd211_611 : zop 211 611 = some (.aload_n 0, 1) := by decide +kernel
theorem zd211_612 : zop 211 612 = some (.iload_n 3, 1) := by decide +kernel
theorem zd211_613 : zop 211 613 = some (.iconst 4, 1) := by decide +kernel
theorem zd211_614 : zop 211 614 = some (.iadd, 1) := by decide +kernel
theorem zd211_615 : zop 211 615 = some (.iaload, 1) := by decide +kernel
theorem zd211_616 : zop 211 616 = some (.invokevirtual 73, 3) := by decide +kernel
theorem zd211_619 : zop 211 619 = some (.if_icmp .eq 628, 3) := by decide +kernel
theorem zd211_622 : zop 211 622 = some (.iconst 0, 1) := by decide +kernel
theorem zd211_623 : zop 211 623 = some (.ireturn, 1) := by decide +kernel
theorem zd211_624 : zop 211 624 = some (.aload_n 1, 1) := by decide +kernel
theorem zd211_625 : zop 211 625 = some (.aload_n 0, 1) := by decide +kernel
theorem zd211_626 : zop 211 626 = some (.iload_n 3, 1) := by decide +kernel
theorem zd211_627 : zop 211 627 = some (.iconst 1, 1) := by decide +kernel
theorem zd211_628 : zop 211 628 = some (.iadd, 1) := by decide +kernel
theorem zd211_629 : zop 211 629 = some (.iaload, 1) := by decide +kernel
theorem zd211_630 : zop 211 630 = some (.aload_n 0, 1) := by decide +kernel
theorem zd211_631 : zop 211 631 = some (.iload_n 3, 1) := by decide +kernel
theorem zd211_632 : zop 211 632 = some (.iconst 2, 1) := by decide +kernel
theorem zd211_633 : zop 211 633 = some (.iadd, 1) := by decide +kernel
theorem zd211_634 : zop 211 634 = some (.iaload, 1) := by decide +kernel
theorem zd211_635 : zop 211 635 = some (.aload_n 0, 1) := by decide +kernel
theorem zd211_636 : zop 211 636 = some (.iload_n 3, 1) := by decide +kernel
theorem zd211_637 : zop 211 637 = some (.iconst 3, 1) := by decide +kernel
theorem zd211_638 : zop 211 638 = some (.iadd, 1) := by decide +kernel
theorem zd211_639 : zop 211 639 = some (.iaload, 1) := by decide +kernel
theorem zd211_640 : zop 211 640 = some (.invokevirtual 74, 3) := by decide +kernel
theorem zd211_643 : zop 211 643 = some (.aload_n 2, 1) := by decide +kernel
theorem zd211_644 : zop 211 644 = some (.aload_n 0, 1) := by decide +kernel
theorem zd211_645 : zop 211 645 = some (.iload_n 3, 1) := by decide +kernel
theorem zd211_646 : zop 211 646 = some (.iconst 1, 1) := by decide +kernel
theorem zd211_647 : zop 211 647 = some (.iadd, 1) := by decide +kernel
theorem zd211_648 : zop 211 648 = some (.iaload, 1) := by decide +kernel
theorem zd211_649 : zop 211 649 = some (.aload_n 0, 1) := by decide +kernel
theorem zd211_650 : zop 211 650 = some (.iload_n 3, 1) := by decide +kernel
theorem zd211_651 : zop 211 651 = some (.iconst 2, 1) := by decide +kernel
theorem zd211_652 : zop 211 652 = some (.iadd, 1) := by decide +kernel
theorem zd211_653 : zop 211 653 = some (.iaload, 1) := by decide +kernel
theorem zd211_654 : zop 211 654 = some (.aload_n 0, 1) := by decide +kernel
theorem zd211_655 : zop 211 655 = some (.iload_n 3, 1) := by decide +kernel
theorem zd211_656 : zop 211 656 = some (.iconst 3, 1) := by decide +kernel
theorem zd211_657 : zop 211 657 = some (.iadd, 1) := by decide +kernel
theorem zd211_658 : zop 211 658 = some (.iaload, 1) := by decide +kernel
theorem zd211_659 : zop 211 659 = some (.invokevirtual 77, 3) := by decide +kernel
theorem zd211_662 : zop 211 662 = some (.if_icmp .eq 585, 3) := by decide +kernel
theorem zd211_665 : zop 211 665 = some (.iconst 0, 1) := by decide +kernel
theorem zd211_666 : zop 211 666 = some (.ireturn, 1) := by decide +kernel
theorem zd211_667 : zop 211 667 = some (.aload_n 1, 1) := by decide +kernel
theorem zd211_668 : zop 211 668 = some (.aload_n 0, 1) := by decide +kernel
theorem zd211_669 : zop 211 669 = some (.iload_n 3, 1) := by decide +kernel
theorem zd211_670 : zop 211 670 = some (.iconst 1, 1) := by decide +kernel
theorem zd211_671 : zop 211 671 = some (.iadd, 1) := by decide +kernel
theorem zd211_672 : zop 211 672 = some (.iaload, 1) := by decide +kernel
theorem zd211_673 : zop 211 673 = some (.aload_n 0, 1) := by decide +kernel
theorem zd211_674 : zop 211 674 = some (.iload_n 3, 1) := by decide +kernel
theorem zd211_675 : zop 211 675 = some (.iconst 2, 1) := by decide +kernel
theorem zd211_676 : zop 211 676 = some (.iadd, 1) := by decide +kernel
theorem zd211_677 : zop 211 677 = some (.iaload, 1) := by decide +kernel
theorem zd211_678 : zop 211 678 = some (.invokevirtual 78, 3) := by decide +kernel
theorem zd211_681 : zop 211 681 = some (.aload_n 2, 1) := by decide +kernel
theorem zd211_682 : zop 211 682 = some (.aload_n 0, 1) := by decide +kernel
theorem zd211_683 : zop 211 683 = some (.iload_n 3, 1) := by decide +kernel
theorem zd211_684 : zop 211 684 = some (.iconst 1, 1) := by decide +kernel
theorem zd211_685 : zop 211 685 = some (.iadd, 1) := by decide +kernel
theorem zd211_686 : zop 211 686 = some (.iaload, 1) := by decide +kernel
theorem zd211_687 : zop 211 687 = some (.aload_n 0, 1) := by decide +kernel
theorem zd211_688 : zop 211 688 = some (.iload_n 3, 1) := by decide +kernel
theorem zd211_689 : zop 211 689 = some (.iconst 2, 1) := by decide +kernel
theorem zd211_690 : zop 211 690 = some (.iadd, 1) := by decide +kernel
theorem zd211_691 : zop 211 691 = some (.iaload, 1) := by decide +kernel
theorem zd211_692 : zop 211 692 = some (.invokevirtual 81, 3) := by decide +kernel
theorem zd211_695 : zop 211 695 = some (.if_icmp .eq 552, 3) := by decide +kernel
theorem zd211_698 : zop 211 698 = some (.iconst 0, 1) := by decide +kernel
theorem zd211_699 : zop 211 699 = some (.ireturn, 1) := by decide +kernel
theorem zd211_700 : zop 211 700 = some (.aload_n 1, 1) := by decide +kernel
theorem zd211_701 : zop 211 701 = some (.aload_n 0, 1) := by decide +kernel
theorem zd211_702 : zop 211 702 = some (.iload_n 3, 1) := by decide +kernel
theorem zd211_703 : zop 211 703 = some (.iconst 1, 1) := by decide +kernel
theorem zd211_704 : zop 211 704 = some (.iadd, 1) := by decide +kernel
theorem zd211_705 : zop 211 705 = some (.iaload, 1) := by decide +kernel
theorem zd211_706 : zop 211 706 = some (.aload_n 0, 1) := by decide +kernel
theorem zd211_707 : zop 211 707 = some (.iload_n 3, 1) := by decide +kernel
theorem zd211_708 : zop 211 708 = some (.iconst 2, 1) := by decide +kernel
theorem zd211_709 : zop 211 709 = some (.iadd, 1) := by decide +kernel
theorem zd211_710 : zop 211 710 = some (.iaload, 1) := by decide +kernel
theorem zd211_711 : zop 211 711 = some (.invokevirtual 82, 3) := by decide +kernel
theorem zd211_714 : zop 211 714 = some (.aload_n 2, 1) := by decide +kernel
theorem zd211_715 : zop 211 715 = some (.aload_n 0, 1) := by decide +kernel
theorem zd211_716 : zop 211 716 = some (.iload_n 3, 1) := by decide +kernel
theorem zd211_717 : zop 211 717 = some (.iconst 1, 1) := by decide +kernel
theorem zd211_718 : zop 211 718 = some (.iadd, 1) := by decide +kernel
theorem zd211_719 : zop 211 719 = some (.iaload, 1) := by decide +kernel
theorem zd211_720 : zop 211 720 = some (.aload_n 0, 1) := by decide +kernel
theorem zd211_721 : zop 211 721 = some (.iload_n 3, 1) := by decide +kernel
theorem zd211_722 : zop 211 722 = some (.iconst 2, 1) := by decide +kernel
theorem zd211_723 : zop 211 723 = some (.iadd, 1) := by decide +kernel
theorem zd211_724 : zop 211 724 = some (.iaload, 1) := by decide +kernel
theorem zd211_725 : zop 211 725 = some (.invokevirtual 85, 3) := by decide +kernel
theorem zd211_728 : zop 211 728 = some (.if_icmp .eq 519, 3) := by decide +kernel
theorem zd211_731 : zop 211 731 = some (.iconst 0, 1) := by decide +kernel
theorem zd211_732 : zop 211 732 = some (.ireturn, 1) := by decide +kernel
theorem zd211_733 : zop 211 733 = some (.aload_n 1, 1) := by decide +kernel
theorem zd211_734 : zop 211 734 = some (.invokevirtual 86, 3) := by decide +kernel
theorem zd211_737 : zop 211 737 = some (.aload_n 2, 1) := by decide +kernel
theorem zd211_738 : zop 211 738 = some (.invokevirtual 89, 3) := by decide +kernel
theorem zd211_741 : zop 211 741 = some (.if_icmp .eq 506, 3) := by decide +kernel
theorem zd211_744 : zop 211 744 = some (.iconst 0, 1) := by decide +kernel
theorem zd211_745 : zop 211 745 = some (.ireturn, 1) := by decide +kernel
theorem zd211_746 : zop 211 746 = some (.aload_n 1, 1) := by decide +kernel
theorem zd211_747 : zop 211 747 = some (.aload_n 0, 1) := by decide +kernel
theorem zd211_748 : zop 211 748 = some (.iload_n 3, 1) := by decide +kernel
theorem zd211_749 : zop 211 749 = some (.iconst 1, 1) := by decide +kernel
theorem zd211_750 : zop 211 750 = some (.iadd, 1) := by decide +kernel
theorem zd211_751 : zop 211 751 = some (.iaload, 1) := by decide +kernel
theorem zd211_752 : zop 211 752 = some (.invokevirtual 90, 3) := by decide +kernel
theorem zd211_755 : zop 211 755 = some (.aload_n 2, 1) := by decide +kernel
theorem zd211_756 : zop 211 756 = some (.aload_n 0, 1) := by decide +kernel
theorem zd211_757 : zop 211 757 = some (.iload_n 3, 1) := by decide +kernel
theorem zd211_758 : zop 211 758 = some (.iconst 1, 1) := by decide +kernel
theorem zd211_759 : zop 211 759 = some (.iadd, 1) := by decide +kernel
theorem zd211_760 : zop 211 760 = some (.iaload, 1) := by decide +kernel
theorem zd211_761 : zop 211 761 = some (.invokevirtual 94, 3) := by decide +kernel
theorem zd211_764 : zop 211 764 = some (.lcmp, 1) := by decide +kernel
theorem zd211_765 : zop 211 765 = some (.ifCond .eq 482, 3) := by decide +kernel
theorem zd211_768 : zop 211 768 = some (.iconst 0, 1) := by decide +kernel
theorem zd211_769 : zop 211 769 = some (.ireturn, 1) := by decide +kernel
theorem zd211_770 : zop 211 770 = some (.aload_n 1, 1) := by decide +kernel
theorem zd211_771 : zop 211 771 = some (.aload_n 0, 1) := by decide +kernel
theorem zd211_772 : zop 211 772 = some (.iload_n 3, 1) := by decide +kernel
theorem zd211_773 : zop 211 773 = some (.iconst 1, 1) := by decide +kernel
theorem zd211_774 : zop 211 774 = some (.iadd, 1) := by decide +kernel
theorem zd211_775 : zop 211 775 = some (.iaload, 1) := by decide +kernel
theorem zd211_776 : zop 211 776 = some (.aload_n 0, 1) := by decide +kernel
theorem zd211_777 : zop 211 777 = some (.iload_n 3, 1) := by decide +kernel
theorem zd211_778 : zop 211 778 = some (.iconst 2, 1) := by decide +kernel
theorem zd211_779 : zop 211 779 = some (.iadd, 1) := by decide +kernel
theorem zd211_780 : zop 211 780 = some (.iaload, 1) := by decide +kernel
theorem zd211_781 : zop 211 781 = some (.aload_n 0, 1) := by decide +kernel
theorem zd211_782 : zop 211 782 = some (.iload_n 3, 1) := by decide +kernel
theorem zd211_783 : zop 211 783 = some (.iconst 3, 1) := by decide +kernel
theorem zd211_784 : zop 211 784 = some (.iadd, 1) := by decide +kernel
theorem zd211_785 : zop 211 785 = some (.iaload, 1) := by decide +kernel
theorem zd211_786 : zop 211 786 = some (.aload_n 0, 1) := by decide +kernel
theorem zd211_787 : zop 211 787 = some (.iload_n 3, 1) := by decide +kernel
theorem zd211_788 : zop 211 788 = some (.iconst 4, 1) := by decide +kernel
theorem zd211_789 : zop 211 789 = some (.iadd, 1) := by decide +kernel
theorem zd211_790 : zop 211 790 = some (.iaload, 1) := by decide +kernel
theorem zd211_791 : zop 211 791 = some (.invokevirtual 95, 3) := by decide +kernel
theorem zd211_794 : zop 211 794 = some (.aload_n 2, 1) := by decide +kernel
theorem zd211_795 : zop 211 795 = some (.aload_n 0, 1) := by decide +kernel
theorem zd211_796 : zop 211 796 = some (.iload_n 3, 1) := by decide +kernel
theorem zd211_797 : zop 211 797 = some (.iconst 1, 1) := by decide +kernel
theorem zd211_798 : zop 211 798 = some (.iadd, 1) := by decide +kernel
theorem zd211_799 : zop 211 799 = some (.iaload, 1) := by decide +kernel
theorem zd211_800 : zop 211 800 = some (.aload_n 0, 1) := by decide +kernel
theorem zd211_801 : zop 211 801 = some (.iload_n 3, 1) := by decide +kernel
theorem zd211_802 : zop 211 802 = some (.iconst 2, 1) := by decide +kernel
theorem zd211_803 : zop 211 803 = some (.iadd, 1) := by decide +kernel
theorem zd211_804 : zop 211 804 = some (.iaload, 1) := by decide +kernel
theorem zd211_805 : zop 211 805 = some (.aload_n 0, 1) := by decide +kernel
theorem zd211_806 : zop 211 806 = some (.iload_n 3, 1) := by decide +kernel
theorem zd211_807 : zop 211 807 = some (.iconst 3, 1) := by decide +kernel
theorem zd211_808 : zop 211 808 = some (.iadd, 1) := by decide +kernel
theorem zd211_809 : zop 211 809 = some (.iaload, 1) := by decide +kernel
theorem zd211_810 : zop 211 810 = some (.aload_n 0, 1) := by decide +kernel
theorem zd211_811 : zop 211 811 = some (.iload_n 3, 1) := by decide +kernel
theorem zd211_812 : zop 211 812 = some (.iconst 4, 1) := by decide +kernel
theorem zd211_813 : zop 211 813 = some (.iadd, 1) := by decide +kernel
theorem zd211_814 : zop 211 814 = some (.iaload, 1) := by decide +kernel
theorem zd211_815 : zop 211 815 = some (.invokevirtual 98, 3) := by decide +kernel
theorem zd211_818 : zop 211 818 = some (.if_icmp .eq 429, 3) := by decide +kernel
theorem zd211_821 : zop 211 821 = some (.iconst 0, 1) := by decide +kernel
theorem zd211_822 : zop 211 822 = some (.ireturn, 1) := by decide +kernel
theorem zd211_823 : zop 211 823 = some (.aload_n 1, 1) := by decide +kernel
theorem zd211_824 : zop 211 824 = some (.aload_n 0, 1) := by decide +kernel
theorem zd211_825 : zop 211 825 = some (.iload_n 3, 1) := by decide +kernel
theorem zd211_826 : zop 211 826 = some (.iconst 1, 1) := by decide +kernel
theorem zd211_827 : zop 211 827 = some (.iadd, 1) := by decide +kernel
theorem zd211_828 : zop 211 828 = some (.iaload, 1) := by decide +kernel
theorem zd211_829 : zop 211 829 = some (.aload_n 0, 1) := by decide +kernel
theorem zd211_830 : zop 211 830 = some (.iload_n 3, 1) := by decide +kernel
theorem zd211_831 : zop 211 831 = some (.iconst 2, 1) := by decide +kernel
theorem zd211_832 : zop 211 832 = some (.iadd, 1) := by decide +kernel
theorem zd211_833 : zop 211 833 = some (.iaload, 1) := by decide +kernel
theorem zd211_834 : zop 211 834 = some (.aload_n 0, 1) := by decide +kernel
theorem zd211_835 : zop 211 835 = some (.iload_n 3, 1) := by decide +kernel
theorem zd211_836 : zop 211 836 = some (.iconst 3, 1) := by decide +kernel
theorem zd211_837 : zop 211 837 = some (.iadd, 1) := by decide +kernel
theorem zd211_838 : zop 211 838 = some (.iaload, 1) := by decide +kernel
theorem zd211_839 : zop 211 839 = some (.invokevirtual 99, 3) := by decide +kernel
theorem zd211_842 : zop 211 842 = some (.aload_n 2, 1) := by decide +kernel
theorem zd211_843 : zop 211 843 = some (.aload_n 0, 1) := by decide +kernel
theorem zd211_844 : zop 211 844 = some (.iload_n 3, 1) := by decide +kernel
theorem zd211_845 : zop 211 845 = some (.iconst 1, 1) := by decide +kernel
theorem zd211_846 : zop 211 846 = some (.iadd, 1) := by decide +kernel
theorem zd211_847 : zop 211 847 = some (.iaload, 1) := by decide +kernel
theorem zd211_848 : zop 211 848 = some (.aload_n 0, 1) := by decide +kernel
theorem zd211_849 : zop 211 849 = some (.iload_n 3, 1) := by decide +kernel
theorem zd211_850 : zop 211 850 = some (.iconst 2, 1) := by decide +kernel
theorem zd211_851 : zop 211 851 = some (.iadd, 1) := by decide +kernel
theorem zd211_852 : zop 211 852 = some (.iaload, 1) := by decide +kernel
theorem zd211_853 : zop 211 853 = some (.aload_n 0, 1) := by decide +kernel
theorem zd211_854 : zop 211 854 = some (.iload_n 3, 1) := by decide +kernel
theorem zd211_855 : zop 211 855 = some (.iconst 3, 1) := by decide +kernel
theorem zd211_856 : zop 211 856 = some (.iadd, 1) := by decide +kernel
theorem zd211_857 : zop 211 857 = some (.iaload, 1) := by decide +kernel
theorem zd211_858 : zop 211 858 = some (.invokevirtual 102, 3) := by decide +kernel
theorem zd211_861 : zop 211 861 = some (.if_icmp .eq 386, 3) := by decide +kernel
theorem zd211_864 : zop 211 864 = some (.iconst 0, 1) := by decide +kernel
theorem zd211_865 : zop 211 865 = some (.ireturn, 1) := by decide +kernel
theorem zd211_866 : zop 211 866 = some (.aload_n 1, 1) := by decide +kernel
theorem zd211_867 : zop 211 867 = some (.aload_n 0, 1) := by decide +kernel
theorem zd211_868 : zop 211 868 = some (.iload_n 3, 1) := by decide +kernel
theorem zd211_869 : zop 211 869 = some (.iconst 1, 1) := by decide +kernel
theorem zd211_870 : zop 211 870 = some (.iadd, 1) := by decide +kernel
theorem zd211_871 : zop 211 871 = some (.iaload, 1) := by decide +kernel
theorem zd211_872 : zop 211 872 = some (.aload_n 0, 1) := by decide +kernel
theorem zd211_873 : zop 211 873 = some (.iload_n 3, 1) := by decide +kernel
theorem zd211_874 : zop 211 874 = some (.iconst 2, 1) := by decide +kernel
theorem zd211_875 : zop 211 875 = some (.iadd, 1) := by decide +kernel
theorem zd211_876 : zop 211 876 = some (.iaload, 1) := by decide +kernel
theorem zd211_877 : zop 211 877 = some (.invokevirtual 103, 3) := by decide +kernel
theorem zd211_880 : zop 211 880 = some (.aload_n 2, 1) := by decide +kernel
theorem zd211_881 : zop 211 881 = some (.aload_n 0, 1) := by decide +kernel
theorem zd211_882 : zop 211 882 = some (.iload_n 3, 1) := by decide +kernel
theorem zd211_883 : zop 211 883 = some (.iconst 1, 1) := by decide +kernel
theorem zd211_884 : zop 211 884 = some (.iadd, 1) := by decide +kernel
theorem zd211_885 : zop 211 885 = some (.iaload, 1) := by decide +kernel
theorem zd211_886 : zop 211 886 = some (.aload_n 0, 1) := by decide +kernel
theorem zd211_887 : zop 211 887 = some (.iload_n 3, 1) := by decide +kernel
theorem zd211_888 : zop 211 888 = some (.iconst 2, 1) := by decide +kernel
theorem zd211_889 : zop 211 889 = some (.iadd, 1) := by decide +kernel
theorem zd211_890 : zop 211 890 = some (.iaload, 1) := by decide +kernel
theorem zd211_891 : zop 211 891 = some (.invokevirtual 106, 3) := by decide +kernel
theorem zd211_894 : zop 211 894 = some (.if_icmp .eq 353, 3) := by decide +kernel
theorem zd211_897 : zop 211 897 = some (.iconst 0, 1) := by decide +kernel
theorem zd211_898 : zop 211 898 = some (.ireturn, 1) := by decide +kernel
theorem zd211_899 : zop 211 899 = some (.aload_n 1, 1) := by decide +kernel
theorem zd211_900 : zop 211 900 = some (.aload_n 0, 1) := by decide +kernel
theorem zd211_901 : zop 211 901 = some (.iload_n 3, 1) := by decide +kernel
theorem zd211_902 : zop 211 902 = some (.iconst 1, 1) := by decide +kernel
theorem zd211_903 : zop 211 903 = some (.iadd, 1) := by decide +kernel
theorem zd211_904 : zop 211 904 = some (.iaload, 1) := by decide +kernel
theorem zd211_905 : zop 211 905 = some (.aload_n 0, 1) := by decide +kernel
theorem zd211_906 : zop 211 906 = some (.iload_n 3, 1) := by decide +kernel
theorem zd211_907 : zop 211 907 = some (.iconst 2, 1) := by decide +kernel
theorem zd211_908 : zop 211 908 = some (.iadd, 1) := by decide +kernel
theorem zd211_909 : zop 211 909 = some (.iaload, 1) := by decide +kernel
theorem zd211_910 : zop 211 910 = some (.aload_n 0, 1) := by decide +kernel
theorem zd211_911 : zop 211 911 = some (.iload_n 3, 1) := by decide +kernel
theorem zd211_912 : zop 211 912 = some (.iconst 3, 1) := by decide +kernel
theorem zd211_913 : zop 211 913 = some (.iadd, 1) := by decide +kernel
theorem zd211_914 : zop 211 914 = some (.iaload, 1) := by decide +kernel
theorem zd211_915 : zop 211 915 = some (.aload_n 0, 1) := by decide +kernel
theorem zd211_916 : zop 211 916 = some (.iload_n 3, 1) := by decide +kernel
theorem zd211_917 : zop 211 917 = some (.iconst 4, 1) := by decide +kernel
theorem zd211_918 : zop 211 918 = some (.iadd, 1) := by decide +kernel
theorem zd211_919 : zop 211 919 = some (.iaload, 1) := by decide +kernel
theorem zd211_920 : zop 211 920 = some (.aload_n 0, 1) := by decide +kernel
theorem zd211_921 : zop 211 921 = some (.iload_n 3, 1) := by decide +kernel
theorem zd211_922 : zop 211 922 = some (.iconst 5, 1) := by decide +kernel
theorem zd211_923 : zop 211 923 = some (.iadd, 1) := by decide +kernel
theorem zd211_924 : zop 211 924 = some (.iaload, 1) := by decide +kernel
theorem zd211_925 : zop 211 925 = some (.invokevirtual 107, 3) := by decide +kernel
theorem zd211_928 : zop 211 928 = some (.aload_n 2, 1) := by decide +kernel
theorem zd211_929 : zop 211 929 = some (.aload_n 0, 1) := by decide +kernel
theorem zd211_930 : zop 211 930 = some (.iload_n 3, 1) := by decide +kernel
theorem zd211_931 : zop 211 931 = some (.iconst 1, 1) := by decide +kernel
theorem zd211_932 : zop 211 932 = some (.iadd, 1) := by decide +kernel
theorem zd211_933 : zop 211 933 = some (.iaload, 1) := by decide +kernel
theorem zd211_934 : zop 211 934 = some (.aload_n 0, 1) := by decide +kernel
theorem zd211_935 : zop 211 935 = some (.iload_n 3, 1) := by decide +kernel
theorem zd211_936 : zop 211 936 = some (.iconst 2, 1) := by decide +kernel
theorem zd211_937 : zop 211 937 = some (.iadd, 1) := by decide +kernel
theorem zd211_938 : zop 211 938 = some (.iaload, 1) := by decide +kernel
theorem zd211_939 : zop 211 939 = some (.aload_n 0, 1) := by decide +kernel
theorem zd211_940 : zop 211 940 = some (.iload_n 3, 1) := by decide +kernel
theorem zd211_941 : zop 211 941 = some (.iconst 3, 1) := by decide +kernel
theorem zd211_942 : zop 211 942 = some (.iadd, 1) := by decide +kernel
theorem zd211_943 : zop 211 943 = some (.iaload, 1) := by decide +kernel
theorem zd211_944 : zop 211 944 = some (.aload_n 0, 1) := by decide +kernel
theorem zd211_945 : zop 211 945 = some (.iload_n 3, 1) := by decide +kernel
theorem zd211_946 : zop 211 946 = some (.iconst 4, 1) := by decide +kernel
theorem zd211_947 : zop 211 947 = some (.iadd, 1) := by decide +kernel
theorem zd211_948 : zop 211 948 = some (.iaload, 1) := by decide +kernel
theorem zd211_949 : zop 211 949 = some (.aload_n 0, 1) := by decide +kernel
theorem zd211_950 : zop 211 950 = some (.iload_n 3, 1) := by decide +kernel
theorem zd211_951 : zop 211 951 = some (.iconst 5, 1) := by decide +kernel
theorem zd211_952 : zop 211 952 = some (.iadd, 1) := by decide +kernel
theorem zd211_953 : zop 211 953 = some (.iaload, 1) := by decide +kernel
theorem zd211_954 : zop 211 954 = some (.invokevirtual 111, 3) := by decide +kernel
theorem zd211_957 : zop 211 957 = some (.lcmp, 1) := by decide +kernel
theorem zd211_958 : zop 211 958 = some (.ifCond .eq 289, 3) := by decide +kernel
theorem zd211_961 : zop 211 961 = some (.iconst 0, 1) := by decide +kernel
theorem zd211_962 : zop 211 962 = some (.ireturn, 1) := by decide +kernel
theorem zd211_963 : zop 211 963 = some (.aload_n 1, 1) := by decide +kernel
theorem zd211_964 : zop 211 964 = some (.invokevirtual 112, 3) := by decide +kernel
theorem zd211_967 : zop 211 967 = some (.aload_n 2, 1) := by decide +kernel
theorem zd211_968 : zop 211 968 = some (.invokevirtual 115, 3) := by decide +kernel
theorem zd211_971 : zop 211 971 = some (.if_icmp .eq 276, 3) := by decide +kernel
theorem zd211_974 : zop 211 974 = some (.iconst 0, 1) := by decide +kernel
theorem zd211_975 : zop 211 975 = some (.ireturn, 1) := by decide +kernel
theorem zd211_976 : zop 211 976 = some (.aload_n 1, 1) := by decide +kernel
theorem zd211_977 : zop 211 977 = some (.invokevirtual 116, 3) := by decide +kernel
theorem zd211_980 : zop 211 980 = some (.aload_n 2, 1) := by decide +kernel
theorem zd211_981 : zop 211 981 = some (.invokevirtual 119, 3) := by decide +kernel
theorem zd211_984 : zop 211 984 = some (.if_icmp .eq 263, 3) := by decide +kernel
theorem zd211_987 : zop 211 987 = some (.iconst 0, 1) := by decide +kernel
theorem zd211_988 : zop 211 988 = some (.ireturn, 1) := by decide +kernel
theorem zd211_989 : zop 211 989 = some (.aload_n 1, 1) := by decide +kernel
theorem zd211_990 : zop 211 990 = some (.aload_n 0, 1) := by decide +kernel
theorem zd211_991 : zop 211 991 = some (.iload_n 3, 1) := by decide +kernel
theorem zd211_992 : zop 211 992 = some (.iconst 1, 1) := by decide +kernel
theorem zd211_993 : zop 211 993 = some (.iadd, 1) := by decide +kernel
theorem zd211_994 : zop 211 994 = some (.iaload, 1) := by decide +kernel
theorem zd211_995 : zop 211 995 = some (.invokevirtual 120, 3) := by decide +kernel
theorem zd211_998 : zop 211 998 = some (.aload_n 2, 1) := by decide +kernel
theorem zd211_999 : zop 211 999 = some (.aload_n 0, 1) := by decide +kernel
theorem zd211_1000 : zop 211 1000 = some (.iload_n 3, 1) := by decide +kernel
theorem zd211_1001 : zop 211 1001 = some (.iconst 1, 1) := by decide +kernel
theorem zd211_1002 : zop 211 1002 = some (.iadd, 1) := by decide +kernel
theorem zd211_1003 : zop 211 1003 = some (.iaload, 1) := by decide +kernel
theorem zd211_1004 : zop 211 1004 = some (.invokevirtual 123, 3) := by decide +kernel
theorem zd211_1007 : zop 211 1007 = some (.if_icmp .eq 240, 3) := by decide +kernel
theorem zd211_1010 : zop 211 1010 = some (.iconst 0, 1) := by decide +kernel
theorem zd211_1011 : zop 211 1011 = some (.ireturn, 1) := by decide +kernel
theorem zd211_1012 : zop 211 1012 = some (.aload_n 1, 1) := by decide +kernel
theorem zd211_1013 : zop 211 1013 = some (.aload_n 0, 1) := by decide +kernel
theorem zd211_1014 : zop 211 1014 = some (.iload_n 3, 1) := by decide +kernel
theorem zd211_1015 : zop 211 1015 = some (.iconst 1, 1) := by decide +kernel
theorem zd211_1016 : zop 211 1016 = some (.iadd, 1) := by decide +kernel
theorem zd211_1017 : zop 211 1017 = some (.iaload, 1) := by decide +kernel
theorem zd211_1018 : zop 211 1018 = some (.aload_n 0, 1) := by decide +kernel
theorem zd211_1019 : zop 211 1019 = some (.iload_n 3, 1) := by decide +kernel
theorem zd211_1020 : zop 211 1020 = some (.iconst 2, 1) := by decide +kernel
theorem zd211_1021 : zop 211 1021 = some (.iadd, 1) := by decide +kernel
theorem zd211_1022 : zop 211 1022 = some (.iaload, 1) := by decide +kernel
theorem zd211_1023 : zop 211 1023 = some (.aload_n 0, 1) := by decide +kernel
theorem zd211_1024 : zop 211 1024 = some (.iload_n 3, 1) := by decide +kernel
theorem zd211_1025 : zop 211 1025 = some (.iconst 3, 1) := by decide +kernel
theorem zd211_1026 : zop 211 1026 = some (.iadd, 1) := by decide +kernel
theorem zd211_1027 : zop 211 1027 = some (.iaload, 1) := by decide +kernel
theorem zd211_1028 : zop 211 1028 = some (.invokevirtual 124, 3) := by decide +kernel
theorem zd211_1031 : zop 211 1031 = some (.aload_n 2, 1) := by decide +kernel
theorem zd211_1032 : zop 211 1032 = some (.aload_n 0, 1) := by decide +kernel
theorem zd211_1033 : zop 211 1033 = some (.iload_n 3, 1) := by decide +kernel
theorem zd211_1034 : zop 211 1034 = some (.iconst 1, 1) := by decide +kernel
theorem zd211_1035 : zop 211 1035 = some (.iadd, 1) := by decide +kernel
theorem zd211_1036 : zop 211 1036 = some (.iaload, 1) := by decide +kernel
theorem zd211_1037 : zop 211 1037 = some (.aload_n 0, 1) := by decide +kernel
theorem zd211_1038 : zop 211 1038 = some (.iload_n 3, 1) := by decide +kernel
theorem zd211_1039 : zop 211 1039 = some (.iconst 2, 1) := by decide +kernel
theorem zd211_1040 : zop 211 1040 = some (.iadd, 1) := by decide +kernel
theorem zd211_1041 : zop 211 1041 = some (.iaload, 1) := by decide +kernel
theorem zd211_1042 : zop 211 1042 = some (.aload_n 0, 1) := by decide +kernel
theorem zd211_1043 : zop 211 1043 = some (.iload_n 3, 1) := by decide +kernel
theorem zd211_1044 : zop 211 1044 = some (.iconst 3, 1) := by decide +kernel
theorem zd211_1045 : zop 211 1045 = some (.iadd, 1) := by decide +kernel
theorem zd211_1046 : zop 211 1046 = some (.iaload, 1) := by decide +kernel
theorem zd211_1047 : zop 211 1047 = some (.invokevirtual 127, 3) := by decide +kernel
theorem zd211_1050 : zop 211 1050 = some (.if_icmp .eq 197, 3) := by decide +kernel
theorem zd211_1053 : zop 211 1053 = some (.iconst 0, 1) := by decide +kernel
theorem zd211_1054 : zop 211 1054 = some (.ireturn, 1) := by decide +kernel
theorem zd211_1055 : zop 211 1055 = some (.aload_n 1, 1) := by decide +kernel
theorem zd211_1056 : zop 211 1056 = some (.aload_n 0, 1) := by decide +kernel
theorem zd211_1057 : zop 211 1057 = some (.iload_n 3, 1) := by decide +kernel
theorem zd211_1058 : zop 211 1058 = some (.iconst 1, 1) := by decide +kernel
theorem zd211_1059 : zop 211 1059 = some (.iadd, 1) := by decide +kernel
theorem zd211_1060 : zop 211 1060 = some (.iaload, 1) := by decide +kernel
theorem zd211_1061 : zop 211 1061 = some (.aload_n 0, 1) := by decide +kernel
theorem zd211_1062 : zop 211 1062 = some (.iload_n 3, 1) := by decide +kernel
theorem zd211_1063 : zop 211 1063 = some (.iconst 2, 1) := by decide +kernel
theorem zd211_1064 : zop 211 1064 = some (.iadd, 1) := by decide +kernel
theorem zd211_1065 : zop 211 1065 = some (.iaload, 1) := by decide +kernel
theorem zd211_1066 : zop 211 1066 = some (.aload_n 0, 1) := by decide +kernel
theorem zd211_1067 : zop 211 1067 = some (.iload_n 3, 1) := by decide +kernel
theorem zd211_1068 : zop 211 1068 = some (.iconst 3, 1) := by decide +kernel
theorem zd211_1069 : zop 211 1069 = some (.iadd, 1) := by decide +kernel
theorem zd211_1070 : zop 211 1070 = some (.iaload, 1) := by decide +kernel
theorem zd211_1071 : zop 211 1071 = some (.invokevirtual 128, 3) := by decide +kernel
theorem zd211_1074 : zop 211 1074 = some (.aload_n 2, 1) := by decide +kernel
theorem zd211_1075 : zop 211 1075 = some (.aload_n 0, 1) := by decide +kernel
theorem zd211_1076 : zop 211 1076 = some (.iload_n 3, 1) := by decide +kernel
theorem zd211_1077 : zop 211 1077 = some (.iconst 1, 1) := by decide +kernel
theorem zd211_1078 : zop 211 1078 = some (.iadd, 1) := by decide +kernel
theorem zd211_1079 : zop 211 1079 = some (.iaload, 1) := by decide +kernel
theorem zd211_1080 : zop 211 1080 = some (.aload_n 0, 1) := by decide +kernel
theorem zd211_1081 : zop 211 1081 = some (.iload_n 3, 1) := by decide +kernel
theorem zd211_1082 : zop 211 1082 = some (.iconst 2, 1) := by decide +kernel
theorem zd211_1083 : zop 211 1083 = some (.iadd, 1) := by decide +kernel
theorem zd211_1084 : zop 211 1084 = some (.iaload, 1) := by decide +kernel
theorem zd211_1085 : zop 211 1085 = some (.aload_n 0, 1) := by decide +kernel
theorem zd211_1086 : zop 211 1086 = some (.iload_n 3, 1) := by decide +kernel
theorem zd211_1087 : zop 211 1087 = some (.iconst 3, 1) := by decide +kernel
theorem zd211_1088 : zop 211 1088 = some (.iadd, 1) := by decide +kernel
theorem zd211_1089 : zop 211 1089 = some (.iaload, 1) := by decide +kernel
theorem zd211_1090 : zop 211 1090 = some (.invokevirtual 131, 3) := by decide +kernel
theorem zd211_1093 : zop 211 1093 = some (.if_icmp .eq 154, 3) := by decide +kernel
theorem zd211_1096 : zop 211 1096 = some (.iconst 0, 1) := by decide +kernel
theorem zd211_1097 : zop 211 1097 = some (.ireturn, 1) := by decide +kernel
theorem zd211_1098 : zop 211 1098 = some (.aload_n 1, 1) := by decide +kernel
theorem zd211_1099 : zop 211 1099 = some (.aload_n 0, 1) := by decide +kernel
theorem zd211_1100 : zop 211 1100 = some (.iload_n 3, 1) := by decide +kernel
theorem zd211_1101 : zop 211 1101 = some (.iconst 1, 1) := by decide +kernel
theorem zd211_1102 : zop 211 1102 = some (.iadd, 1) := by decide +kernel
theorem zd211_1103 : zop 211 1103 = some (.iaload, 1) := by decide +kernel
theorem zd211_1104 : zop 211 1104 = some (.aload_n 0, 1) := by decide +kernel
theorem zd211_1105 : zop 211 1105 = some (.iload_n 3, 1) := by decide +kernel
theorem zd211_1106 : zop 211 1106 = some (.iconst 2, 1) := by decide +kernel
theorem zd211_1107 : zop 211 1107 = some (.iadd, 1) := by decide +kernel
theorem zd211_1108 : zop 211 1108 = some (.iaload, 1) := by decide +kernel
theorem zd211_1109 : zop 211 1109 = some (.aload_n 0, 1) := by decide +kernel
theorem zd211_1110 : zop 211 1110 = some (.iload_n 3, 1) := by decide +kernel
theorem zd211_1111 : zop 211 1111 = some (.iconst 3, 1) := by decide +kernel
theorem zd211_1112 : zop 211 1112 = some (.iadd, 1) := by decide +kernel
theorem zd211_1113 : zop 211 1113 = some (.iaload, 1) := by decide +kernel
theorem zd211_1114 : zop 211 1114 = some (.aload_n 0, 1) := by decide +kernel
theorem zd211_1115 : zop 211 1115 = some (.iload_n 3, 1) := by decide +kernel
theorem zd211_1116 : zop 211 1116 = some (.iconst 4, 1) := by decide +kernel
theorem zd211_1117 : zop 211 1117 = some (.iadd, 1) := by decide +kernel
theorem zd211_1118 : zop 211 1118 = some (.iaload, 1) := by decide +kernel
theorem zd211_1119 : zop 211 1119 = some (.aload_n 0, 1) := by decide +kernel
theorem zd211_1120 : zop 211 1120 = some (.iload_n 3, 1) := by decide +kernel
theorem zd211_1121 : zop 211 1121 = some (.iconst 5, 1) := by decide +kernel
theorem zd211_1122 : zop 211 1122 = some (.iadd, 1) := by decide +kernel
theorem zd211_1123 : zop 211 1123 = some (.iaload, 1) := by decide +kernel
theorem zd211_1124 : zop 211 1124 = some (.invokevirtual 132, 3) := by decide +kernel
theorem zd211_1127 : zop 211 1127 = some (.aload_n 2, 1) := by decide +kernel
theorem zd211_1128 : zop 211 1128 = some (.aload_n 0, 1) := by decide +kernel
theorem zd211_1129 : zop 211 1129 = some (.iload_n 3, 1) := by decide +kernel
theorem zd211_1130 : zop 211 1130 = some (.iconst 1, 1) := by decide +kernel
theorem zd211_1131 : zop 211 1131 = some (.iadd, 1) := by decide +kernel
theorem zd211_1132 : zop 211 1132 = some (.iaload, 1) := by decide +kernel
theorem zd211_1133 : zop 211 1133 = some (.aload_n 0, 1) := by decide +kernel
theorem zd211_1134 : zop 211 1134 = some (.iload_n 3, 1) := by decide +kernel
theorem zd211_1135 : zop 211 1135 = some (.iconst 2, 1) := by decide +kernel
theorem zd211_1136 : zop 211 1136 = some (.iadd, 1) := by decide +kernel
theorem zd211_1137 : zop 211 1137 = some (.iaload, 1) := by decide +kernel
theorem zd211_1138 : zop 211 1138 = some (.aload_n 0, 1) := by decide +kernel
theorem zd211_1139 : zop 211 1139 = some (.iload_n 3, 1) := by decide +kernel
theorem zd211_1140 : zop 211 1140 = some (.iconst 3, 1) := by decide +kernel
theorem zd211_1141 : zop 211 1141 = some (.iadd, 1) := by decide +kernel
theorem zd211_1142 : zop 211 1142 = some (.iaload, 1) := by decide +kernel
theorem zd211_1143 : zop 211 1143 = some (.aload_n 0, 1) := by decide +kernel
theorem zd211_1144 : zop 211 1144 = some (.iload_n 3, 1) := by decide +kernel
theorem zd211_1145 : zop 211 1145 = some (.iconst 4, 1) := by decide +kernel
theorem zd211_1146 : zop 211 1146 = some (.iadd, 1) := by decide +kernel
theorem zd211_1147 : zop 211 1147 = some (.iaload, 1) := by decide +kernel
theorem zd211_1148 : zop 211 1148 = some (.aload_n 0, 1) := by decide +kernel
theorem zd211_1149 : zop 211 1149 = some (.iload_n 3, 1) := by decide +kernel
theorem zd211_1150 : zop 211 1150 = some (.iconst 5, 1) := by decide +kernel
theorem zd211_1151 : zop 211 1151 = some (.iadd, 1) := by decide +kernel
theorem zd211_1152 : zop 211 1152 = some (.iaload, 1) := by decide +kernel
theorem zd211_1153 : zop 211 1153 = some (.invokevirtual 136, 3) := by decide +kernel
theorem zd211_1156 : zop 211 1156 = some (.if_icmp .eq 91, 3) := by decide +kernel
theorem zd211_1159 : zop 211 1159 = some (.iconst 0, 1) := by decide +kernel
theorem zd211_1160 : zop 211 1160 = some (.ireturn, 1) := by decide +kernel
theorem zd211_1161 : zop 211 1161 = some (.aload_n 1, 1) := by decide +kernel
theorem zd211_1162 : zop 211 1162 = some (.aload_n 0, 1) := by decide +kernel
theorem zd211_1163 : zop 211 1163 = some (.iload_n 3, 1) := by decide +kernel
theorem zd211_1164 : zop 211 1164 = some (.iconst 1, 1) := by decide +kernel
theorem zd211_1165 : zop 211 1165 = some (.iadd, 1) := by decide +kernel
theorem zd211_1166 : zop 211 1166 = some (.iaload, 1) := by decide +kernel
theorem zd211_1167 : zop 211 1167 = some (.aload_n 0, 1) := by decide +kernel
theorem zd211_1168 : zop 211 1168 = some (.iload_n 3, 1) := by decide +kernel
theorem zd211_1169 : zop 211 1169 = some (.iconst 2, 1) := by decide +kernel
theorem zd211_1170 : zop 211 1170 = some (.iadd, 1) := by decide +kernel
theorem zd211_1171 : zop 211 1171 = some (.iaload, 1) := by decide +kernel
theorem zd211_1172 : zop 211 1172 = some (.aload_n 0, 1) := by decide +kernel
theorem zd211_1173 : zop 211 1173 = some (.iload_n 3, 1) := by decide +kernel
theorem zd211_1174 : zop 211 1174 = some (.iconst 3, 1) := by decide +kernel
theorem zd211_1175 : zop 211 1175 = some (.iadd, 1) := by decide +kernel
theorem zd211_1176 : zop 211 1176 = some (.iaload, 1) := by decide +kernel
theorem zd211_1177 : zop 211 1177 = some (.aload_n 0, 1) := by decide +kernel
theorem zd211_1178 : zop 211 1178 = some (.iload_n 3, 1) := by decide +kernel
theorem zd211_1179 : zop 211 1179 = some (.iconst 4, 1) := by decide +kernel
theorem zd211_1180 : zop 211 1180 = some (.iadd, 1) := by decide +kernel
theorem zd211_1181 : zop 211 1181 = some (.iaload, 1) := by decide +kernel
theorem zd211_1182 : zop 211 1182 = some (.invokevirtual 137, 3) := by decide +kernel
theorem zd211_1185 : zop 211 1185 = some (.aload_n 2, 1) := by decide +kernel
theorem zd211_1186 : zop 211 1186 = some (.aload_n 0, 1) := by decide +kernel
theorem zd211_1187 : zop 211 1187 = some (.iload_n 3, 1) := by decide +kernel
theorem zd211_1188 : zop 211 1188 = some (.iconst 1, 1) := by decide +kernel
theorem zd211_1189 : zop 211 1189 = some (.iadd, 1) := by decide +kernel
theorem zd211_1190 : zop 211 1190 = some (.iaload, 1) := by decide +kernel
theorem zd211_1191 : zop 211 1191 = some (.aload_n 0, 1) := by decide +kernel
theorem zd211_1192 : zop 211 1192 = some (.iload_n 3, 1) := by decide +kernel
theorem zd211_1193 : zop 211 1193 = some (.iconst 2, 1) := by decide +kernel
theorem zd211_1194 : zop 211 1194 = some (.iadd, 1) := by decide +kernel
theorem zd211_1195 : zop 211 1195 = some (.iaload, 1) := by decide +kernel
theorem zd211_1196 : zop 211 1196 = some (.aload_n 0, 1) := by decide +kernel
theorem zd211_1197 : zop 211 1197 = some (.iload_n 3, 1) := by decide +kernel
theorem zd211_1198 : zop 211 1198 = some (.iconst 3, 1) := by decide +kernel
theorem zd211_1199 : zop 211 1199 = some (.iadd, 1) := by decide +kernel
theorem zd211_1200 : zop 211 1200 = some (.iaload, 1) := by decide +kernel
theorem zd211_1201 : zop 211 1201 = some (.aload_n 0, 1) := by decide +kernel
theorem zd211_1202 : zop 211 1202 = some (.iload_n 3, 1) := by decide +kernel
theorem zd211_1203 : zop 211 1203 = some (.iconst 4, 1) := by decide +kernel
theorem zd211_1204 : zop 211 1204 = some (.iadd, 1) := by decide +kernel
theorem zd211_1205 : zop 211 1205 = some (.iaload, 1) := by decide +kernel
theorem zd211_1206 : zop 211 1206 = some (.invokevirtual 140, 3) := by decide +kernel
theorem zd211_1209 : zop 211 1209 = some (.if_icmp .eq 38, 3) := by decide +kernel
theorem zd211_1212 : zop 211 1212 = some (.iconst 0, 1) := by decide +kernel
theorem zd211_1213 : zop 211 1213 = some (.ireturn, 1) := by decide +kernel
theorem zd211_1214 : zop 211 1214 = some (.aload_n 1, 1) := by decide +kernel
theorem zd211_1215 : zop 211 1215 = some (.aload_n 0, 1) := by decide +kernel
theorem zd211_1216 : zop 211 1216 = some (.iload_n 3, 1) := by decide +kernel
theorem zd211_1217 : zop 211 1217 = some (.iconst 1, 1) := by decide +kernel
theorem zd211_1218 : zop 211 1218 = some (.iadd, 1) := by decide +kernel
theorem zd211_1219 : zop 211 1219 = some (.iaload, 1) := by decide +kernel
theorem zd211_1220 : zop 211 1220 = some (.aload_n 0, 1) := by decide +kernel
theorem zd211_1221 : zop 211 1221 = some (.iload_n 3, 1) := by decide +kernel
theorem zd211_1222 : zop 211 1222 = some (.iconst 2, 1) := by decide +kernel
theorem zd211_1223 : zop 211 1223 = some (.iadd, 1) := by decide +kernel
theorem zd211_1224 : zop 211 1224 = some (.iaload, 1) := by decide +kernel
theorem zd211_1225 : zop 211 1225 = some (.invokevirtual 141, 3) := by decide +kernel
theorem zd211_1228 : zop 211 1228 = some (.aload_n 2, 1) := by decide +kernel
theorem zd211_1229 : zop 211 1229 = some (.aload_n 0, 1) := by decide +kernel
theorem zd211_1230 : zop 211 1230 = some (.iload_n 3, 1) := by decide +kernel
theorem zd211_1231 : zop 211 1231 = some (.iconst 1, 1) := by decide +kernel
theorem zd211_1232 : zop 211 1232 = some (.iadd, 1) := by decide +kernel
theorem zd211_1233 : zop 211 1233 = some (.iaload, 1) := by decide +kernel
theorem zd211_1234 : zop 211 1234 = some (.aload_n 0, 1) := by decide +kernel
theorem zd211_1235 : zop 211 1235 = some (.iload_n 3, 1) := by decide +kernel
theorem zd211_1236 : zop 211 1236 = some (.iconst 2, 1) := by decide +kernel
theorem zd211_1237 : zop 211 1237 = some (.iadd, 1) := by decide +kernel
theorem zd211_1238 : zop 211 1238 = some (.iaload, 1) := by decide +kernel
theorem zd211_1239 : zop 211 1239 = some (.invokevirtual 144, 3) := by decide +kernel
theorem zd211_1242 : zop 211 1242 = some (.if_icmp .eq 5, 3) := by decide +kernel
theorem zd211_1245 : zop 211 1245 = some (.iconst 0, 1) := by decide +kernel
theorem zd211_1246 : zop 211 1246 = some (.ireturn, 1) := by decide +kernel
theorem zd211_1247 : zop 211 1247 = some (.iinc 3 6, 3) := by decide +kernel
theorem zd211_1250 : zop 211 1250 = some (.goto (-1232), 3) := by decide +kernel
theorem zd211_1253 : zop 211 1253 = some (.iconst 1, 1) := by decide +kernel
theorem zd211_1254 : zop 211 1254 = some (.ireturn, 1) := by decide +kernel
theorem b211_15 {x : zXs} {F : zF} (hF : zSh F) {d : Nat} {V : Nat → Nat → Int32} {T : Nat → Nat → Int64} {Q : Option Value → zG → Prop} {o0 : Option Value} {o1 : Option Value} {o2 : Option Value} {o3 : Option Value}   (k : E x F d 211 18 [o0, o1, some (.ref 59), some (.int (Int32.ofInt 0))] [] (V, T) Q) : E x F d 211 15 [o0, o1, o2, o3] [.ref 59] (V, T) Q := by
  refine e_astore_n zd211_15 rfl (by decide +kernel) (Nat.le_of_ble_eq_true rfl) ?_
  refine e_iconst zd211_16 ?_
  refine e_istore_n zd211_17 (by decide +kernel) (Nat.le_of_ble_eq_true rfl) ?_
  exact k
theorem b211_18 {x : zXs} {F : zF} (hF : zSh F) {d : Nat} {V : Nat → Nat → Int32} {T : Nat → Nat → Int64} {Q : Option Value → zG → Prop} {o1 : Option Value} {o2 : Option Value} {l3 : Int32}  (hL : x.1 ≤ 3072) (kt : ((nI x.1) - (Int32.ofInt 6)) < l3 → E x F d 211 1253 [some (.double 50), o1, o2, some (.int l3)] [] (V, T) Q) (kf : ¬ (((nI x.1) - (Int32.ofInt 6)) < l3) → E x F d 211 27 [some (.double 50), o1, o2, some (.int l3)] [] (V, T) Q) : E x F d 211 18 [some (.double 50), o1, o2, some (.int l3)] [] (V, T) Q := by
  refine e_iload_n zd211_18 rfl ?_
  refine e_aload_n zd211_19 rfl rfl ?_
  refine e_alenX zd211_20 (zxt_s hL) ?_
  refine e_bipush zd211_21 (v := Int32.ofInt 6) (by decide +kernel) ?_
  refine e_isub zd211_23 ?_
  exact e_icmp_gt zd211_24 (tg := 1253) rfl kt kf
theorem b211_27 {x : zXs} {F : zF} (hF : zSh F) {d : Nat} {V : Nat → Nat → Int32} {T : Nat → Nat → Int64} {Q : Option Value → zG → Prop} {o1 : Option Value} {o2 : Option Value} {l3 : Int32}  (hL : x.1 ≤ 3072) {i1 : Nat} (e1 : l3 = nI i1) (h1 : i1 < x.1) (k0 : ((x.2 i1) &&& (Int32.ofInt 31)) = Int32.ofInt 0 → E x F d 211 172 [some (.double 50), o1, o2, some (.int l3)] [] (V, T) Q) (k1 : ((x.2 i1) &&& (Int32.ofInt 31)) = Int32.ofInt 1 → E x F d 211 215 [some (.double 50), o1, o2, some (.int l3)] [] (V, T) Q) (k2 : ((x.2 i1) &&& (Int32.ofInt 31)) = Int32.ofInt 2 → E x F d 211 258 [some (.double 50), o1, o2, some (.int l3)] [] (V, T) Q) (k3 : ((x.2 i1) &&& (Int32.ofInt 31)) = Int32.ofInt 3 → E x F d 211 291 [some (.double 50), o1, o2, some (.int l3)] [] (V, T) Q) (k4 : ((x.2 i1) &&& (Int32.ofInt 31)) = Int32.ofInt 4 → E x F d 211 324 [some (.double 50), o1, o2, some (.int l3)] [] (V, T) Q) (k5 : ((x.2 i1) &&& (Int32.ofInt 31)) = Int32.ofInt 5 → E x F d 211 357 [some (.double 50), o1, o2, some (.int l3)] [] (V, T) Q) (k6 : ((x.2 i1) &&& (Int32.ofInt 31)) = Int32.ofInt 6 → E x F d 211 390 [some (.double 50), o1, o2, some (.int l3)] [] (V, T) Q) (k7 : ((x.2 i1) &&& (Int32.ofInt 31)) = Int32.ofInt 7 → E x F d 211 413 [some (.double 50), o1, o2, some (.int l3)] [] (V, T) Q) (k8 : ((x.2 i1) &&& (Int32.ofInt 31)) = Int32.ofInt 8 → E x F d 211 426 [some (.double 50), o1, o2, some (.int l3)] [] (V, T) Q) (k9 : ((x.2 i1) &&& (Int32.ofInt 31)) = Int32.ofInt 9 → E x F d 211 449 [some (.double 50), o1, o2, some (.int l3)] [] (V, T) Q) (k10 : ((x.2 i1) &&& (Int32.ofInt 31)) = Int32.ofInt 10 → E x F d 211 482 [some (.double 50), o1, o2, some (.int l3)] [] (V, T) Q) (k11 : ((x.2 i1) &&& (Int32.ofInt 31)) = Int32.ofInt 11 → E x F d 211 515 [some (.double 50), o1, o2, some (.int l3)] [] (V, T) Q) (k12 : ((x.2 i1) &&& (Int32.ofInt 31)) = Int32.ofInt 12 → E x F d 211 528 [some (.double 50), o1, o2, some (.int l3)] [] (V, T) Q) (k13 : ((x.2 i1) &&& (Int32.ofInt 31)) = Int32.ofInt 13 → E x F d 211 571 [some (.double 50), o1, o2, some (.int l3)] [] (V, T) Q) (k14 : ((x.2 i1) &&& (Int32.ofInt 31)) = Int32.ofInt 14 → E x F d 211 624 [some (.double 50), o1, o2, some (.int l3)] [] (V, T) Q) (k15 : ((x.2 i1) &&& (Int32.ofInt 31)) = Int32.ofInt 15 → E x F d 211 667 [some (.double 50), o1, o2, some (.int l3)] [] (V, T) Q) (k16 : ((x.2 i1) &&& (Int32.ofInt 31)) = Int32.ofInt 16 → E x F d 211 700 [some (.double 50), o1, o2, some (.int l3)] [] (V, T) Q) (k17 : ((x.2 i1) &&& (Int32.ofInt 31)) = Int32.ofInt 17 → E x F d 211 733 [some (.double 50), o1, o2, some (.int l3)] [] (V, T) Q) (k18 : ((x.2 i1) &&& (Int32.ofInt 31)) = Int32.ofInt 18 → E x F d 211 746 [some (.double 50), o1, o2, some (.int l3)] [] (V, T) Q) (k19 : ((x.2 i1) &&& (Int32.ofInt 31)) = Int32.ofInt 19 → E x F d 211 770 [some (.double 50), o1, o2, some (.int l3)] [] (V, T) Q) (k20 : ((x.2 i1) &&& (Int32.ofInt 31)) = Int32.ofInt 20 → E x F d 211 823 [some (.double 50), o1, o2, some (.int l3)] [] (V, T) Q) (k21 : ((x.2 i1) &&& (Int32.ofInt 31)) = Int32.ofInt 21 → E x F d 211 866 [some (.double 50), o1, o2, some (.int l3)] [] (V, T) Q) (k22 : ((x.2 i1) &&& (Int32.ofInt 31)) = Int32.ofInt 22 → E x F d 211 899 [some (.double 50), o1, o2, some (.int l3)] [] (V, T) Q) (k23 : ((x.2 i1) &&& (Int32.ofInt 31)) = Int32.ofInt 23 → E x F d 211 963 [some (.double 50), o1, o2, some (.int l3)] [] (V, T) Q) (k24 : ((x.2 i1) &&& (Int32.ofInt 31)) = Int32.ofInt 24 → E x F d 211 976 [some (.double 50), o1, o2, some (.int l3)] [] (V, T) Q) (k25 : ((x.2 i1) &&& (Int32.ofInt 31)) = Int32.ofInt 25 → E x F d 211 989 [some (.double 50), o1, o2, some (.int l3)] [] (V, T) Q) (k26 : ((x.2 i1) &&& (Int32.ofInt 31)) = Int32.ofInt 26 → E x F d 211 1012 [some (.double 50), o1, o2, some (.int l3)] [] (V, T) Q) (k27 : ((x.2 i1) &&& (Int32.ofInt 31)) = Int32.ofInt 27 → E x F d 211 1055 [some (.double 50), o1, o2, some (.int l3)] [] (V, T) Q) (k28 : ((x.2 i1) &&& (Int32.ofInt 31)) = Int32.ofInt 28 → E x F d 211 1098 [some (.double 50), o1, o2, some (.int l3)] [] (V, T) Q) (k29 : ((x.2 i1) &&& (Int32.ofInt 31)) = Int32.ofInt 29 → E x F d 211 1161 [some (.double 50), o1, o2, some (.int l3)] [] (V, T) Q) (k30 : ((x.2 i1) &&& (Int32.ofInt 31)) = Int32.ofInt 30 → E x F d 211 1214 [some (.double 50), o1, o2, some (.int l3)] [] (V, T) Q) (kd : ¬ ((x.2 i1) &&& (Int32.ofInt 31)) = Int32.ofInt 0 ∧ ¬ ((x.2 i1) &&& (Int32.ofInt 31)) = Int32.ofInt 1 ∧ ¬ ((x.2 i1) &&& (Int32.ofInt 31)) = Int32.ofInt 2 ∧ ¬ ((x.2 i1) &&& (Int32.ofInt 31)) = Int32.ofInt 3 ∧ ¬ ((x.2 i1) &&& (Int32.ofInt 31)) = Int32.ofInt 4 ∧ ¬ ((x.2 i1) &&& (Int32.ofInt 31)) = Int32.ofInt 5 ∧ ¬ ((x.2 i1) &&& (Int32.ofInt 31)) = Int32.ofInt 6 ∧ ¬ ((x.2 i1) &&& (Int32.ofInt 31)) = Int32.ofInt 7 ∧ ¬ ((x.2 i1) &&& (Int32.ofInt 31)) = Int32.ofInt 8 ∧ ¬ ((x.2 i1) &&& (Int32.ofInt 31)) = Int32.ofInt 9 ∧ ¬ ((x.2 i1) &&& (Int32.ofInt 31)) = Int32.ofInt 10 ∧ ¬ ((x.2 i1) &&& (Int32.ofInt 31)) = Int32.ofInt 11 ∧ ¬ ((x.2 i1) &&& (Int32.ofInt 31)) = Int32.ofInt 12 ∧ ¬ ((x.2 i1) &&& (Int32.ofInt 31)) = Int32.ofInt 13 ∧ ¬ ((x.2 i1) &&& (Int32.ofInt 31)) = Int32.ofInt 14 ∧ ¬ ((x.2 i1) &&& (Int32.ofInt 31)) = Int32.ofInt 15 ∧ ¬ ((x.2 i1) &&& (Int32.ofInt 31)) = Int32.ofInt 16 ∧ ¬ ((x.2 i1) &&& (Int32.ofInt 31)) = Int32.ofInt 17 ∧ ¬ ((x.2 i1) &&& (Int32.ofInt 31)) = Int32.ofInt 18 ∧ ¬ ((x.2 i1) &&& (Int32.ofInt 31)) = Int32.ofInt 19 ∧ ¬ ((x.2 i1) &&& (Int32.ofInt 31)) = Int32.ofInt 20 ∧ ¬ ((x.2 i1) &&& (Int32.ofInt 31)) = Int32.ofInt 21 ∧ ¬ ((x.2 i1) &&& (Int32.ofInt 31)) = Int32.ofInt 22 ∧ ¬ ((x.2 i1) &&& (Int32.ofInt 31)) = Int32.ofInt 23 ∧ ¬ ((x.2 i1) &&& (Int32.ofInt 31)) = Int32.ofInt 24 ∧ ¬ ((x.2 i1) &&& (Int32.ofInt 31)) = Int32.ofInt 25 ∧ ¬ ((x.2 i1) &&& (Int32.ofInt 31)) = Int32.ofInt 26 ∧ ¬ ((x.2 i1) &&& (Int32.ofInt 31)) = Int32.ofInt 27 ∧ ¬ ((x.2 i1) &&& (Int32.ofInt 31)) = Int32.ofInt 28 ∧ ¬ ((x.2 i1) &&& (Int32.ofInt 31)) = Int32.ofInt 29 ∧ ¬ ((x.2 i1) &&& (Int32.ofInt 31)) = Int32.ofInt 30 → E x F d 211 1247 [some (.double 50), o1, o2, some (.int l3)] [] (V, T) Q) : E x F d 211 27 [some (.double 50), o1, o2, some (.int l3)] [] (V, T) Q := by
  refine e_aload_n zd211_27 rfl rfl ?_
  refine e_iload_n zd211_28 rfl ?_
  refine e_ialdX zd211_29 (zxt_s hL) e1 h1 (Nat.lt_of_le_of_lt hL (by omega)) ?_
  refine e_bipush zd211_30 (v := Int32.ofInt 31) (by decide +kernel) ?_
  refine e_iand zd211_32 ?_
  by_cases c0 : ((x.2 i1) &&& (Int32.ofInt 31)) = Int32.ofInt 0
  · exact e_tableIn zd211_33 (off := 139) (by rw [c0]; decide +kernel) (by rw [c0]; decide +kernel) (tg := 172) rfl (k0 c0)
  by_cases c1 : ((x.2 i1) &&& (Int32.ofInt 31)) = Int32.ofInt 1
  · exact e_tableIn zd211_33 (off := 182) (by rw [c1]; decide +kernel) (by rw [c1]; decide +kernel) (tg := 215) rfl (k1 c1)
  by_cases c2 : ((x.2 i1) &&& (Int32.ofInt 31)) = Int32.ofInt 2
  · exact e_tableIn zd211_33 (off := 225) (by rw [c2]; decide +kernel) (by rw [c2]; decide +kernel) (tg := 258) rfl (k2 c2)
  by_cases c3 : ((x.2 i1) &&& (Int32.ofInt 31)) = Int32.ofInt 3
  · exact e_tableIn zd211_33 (off := 258) (by rw [c3]; decide +kernel) (by rw [c3]; decide +kernel) (tg := 291) rfl (k3 c3)
  by_cases c4 : ((x.2 i1) &&& (Int32.ofInt 31)) = Int32.ofInt 4
  · exact e_tableIn zd211_33 (off := 291) (by rw [c4]; decide +kernel) (by rw [c4]; decide +kernel) (tg := 324) rfl (k4 c4)
  by_cases c5 : ((x.2 i1) &&& (Int32.ofInt 31)) = Int32.ofInt 5
  · exact e_tableIn zd211_33 (off := 324) (by rw [c5]; decide +kernel) (by rw [c5]; decide +kernel) (tg := 357) rfl (k5 c5)
  by_cases c6 : ((x.2 i1) &&& (Int32.ofInt 31)) = Int32.ofInt 6
  · exact e_tableIn zd211_33 (off := 357) (by rw [c6]; decide +kernel) (by rw [c6]; decide +kernel) (tg := 390) rfl (k6 c6)
  by_cases c7 : ((x.2 i1) &&& (Int32.ofInt 31)) = Int32.ofInt 7
  · exact e_tableIn zd211_33 (off := 380) (by rw [c7]; decide +kernel) (by rw [c7]; decide +kernel) (tg := 413) rfl (k7 c7)
  by_cases c8 : ((x.2 i1) &&& (Int32.ofInt 31)) = Int32.ofInt 8
  · exact e_tableIn zd211_33 (off := 393) (by rw [c8]; decide +kernel) (by rw [c8]; decide +kernel) (tg := 426) rfl (k8 c8)
  by_cases c9 : ((x.2 i1) &&& (Int32.ofInt 31)) = Int32.ofInt 9
  · exact e_tableIn zd211_33 (off := 416) (by rw [c9]; decide +kernel) (by rw [c9]; decide +kernel) (tg := 449) rfl (k9 c9)
  by_cases c10 : ((x.2 i1) &&& (Int32.ofInt 31)) = Int32.ofInt 10
  · exact e_tableIn zd211_33 (off := 449) (by rw [c10]; decide +kernel) (by rw [c10]; decide +kernel) (tg := 482) rfl (k10 c10)
  by_cases c11 : ((x.2 i1) &&& (Int32.ofInt 31)) = Int32.ofInt 11
  · exact e_tableIn zd211_33 (off := 482) (by rw [c11]; decide +kernel) (by rw [c11]; decide +kernel) (tg := 515) rfl (k11 c11)
  by_cases c12 : ((x.2 i1) &&& (Int32.ofInt 31)) = Int32.ofInt 12
  · exact e_tableIn zd211_33 (off := 495) (by rw [c12]; decide +kernel) (by rw [c12]; decide +kernel) (tg := 528) rfl (k12 c12)
  by_cases c13 : ((x.2 i1) &&& (Int32.ofInt 31)) = Int32.ofInt 13
  · exact e_tableIn zd211_33 (off := 538) (by rw [c13]; decide +kernel) (by rw [c13]; decide +kernel) (tg := 571) rfl (k13 c13)
  by_cases c14 : ((x.2 i1) &&& (Int32.ofInt 31)) = Int32.ofInt 14
  · exact e_tableIn zd211_33 (off := 591) (by rw [c14]; decide +kernel) (by rw [c14]; decide +kernel) (tg := 624) rfl (k14 c14)
  by_cases c15 : ((x.2 i1) &&& (Int32.ofInt 31)) = Int32.ofInt 15
  · exact e_tableIn zd211_33 (off := 634) (by rw [c15]; decide +kernel) (by rw [c15]; decide +kernel) (tg := 667) rfl (k15 c15)
  by_cases c16 : ((x.2 i1) &&& (Int32.ofInt 31)) = Int32.ofInt 16
  · exact e_tableIn zd211_33 (off := 667) (by rw [c16]; decide +kernel) (by rw [c16]; decide +kernel) (tg := 700) rfl (k16 c16)
  by_cases c17 : ((x.2 i1) &&& (Int32.ofInt 31)) = Int32.ofInt 17
  · exact e_tableIn zd211_33 (off := 700) (by rw [c17]; decide +kernel) (by rw [c17]; decide +kernel) (tg := 733) rfl (k17 c17)
  by_cases c18 : ((x.2 i1) &&& (Int32.ofInt 31)) = Int32.ofInt 18
  · exact e_tableIn zd211_33 (off := 713) (by rw [c18]; decide +kernel) (by rw [c18]; decide +kernel) (tg := 746) rfl (k18 c18)
  by_cases c19 : ((x.2 i1) &&& (Int32.ofInt 31)) = Int32.ofInt 19
  · exact e_tableIn zd211_33 (off := 737) (by rw [c19]; decide +kernel) (by rw [c19]; decide +kernel) (tg := 770) rfl (k19 c19)
  by_cases c20 : ((x.2 i1) &&& (Int32.ofInt 31)) = Int32.ofInt 20
  · exact e_tableIn zd211_33 (off := 790) (by rw [c20]; decide +kernel) (by rw [c20]; decide +kernel) (tg := 823) rfl (k20 c20)
  by_cases c21 : ((x.2 i1) &&& (Int32.ofInt 31)) = Int32.ofInt 21
  · exact e_tableIn zd211_33 (off := 833) (by rw [c21]; decide +kernel) (by rw [c21]; decide +kernel) (tg := 866) rfl (k21 c21)
  by_cases c22 : ((x.2 i1) &&& (Int32.ofInt 31)) = Int32.ofInt 22
  · exact e_tableIn zd211_33 (off := 866) (by rw [c22]; decide +kernel) (by rw [c22]; decide +kernel) (tg := 899) rfl (k22 c22)
  by_cases c23 : ((x.2 i1) &&& (Int32.ofInt 31)) = Int32.ofInt 23
  · exact e_tableIn zd211_33 (off := 930) (by rw [c23]; decide +kernel) (by rw [c23]; decide +kernel) (tg := 963) rfl (k23 c23)
  by_cases c24 : ((x.2 i1) &&& (Int32.ofInt 31)) = Int32.ofInt 24
  · exact e_tableIn zd211_33 (off := 943) (by rw [c24]; decide +kernel) (by rw [c24]; decide +kernel) (tg := 976) rfl (k24 c24)
  by_cases c25 : ((x.2 i1) &&& (Int32.ofInt 31)) = Int32.ofInt 25
  · exact e_tableIn zd211_33 (off := 956) (by rw [c25]; decide +kernel) (by rw [c25]; decide +kernel) (tg := 989) rfl (k25 c25)
  by_cases c26 : ((x.2 i1) &&& (Int32.ofInt 31)) = Int32.ofInt 26
  · exact e_tableIn zd211_33 (off := 979) (by rw [c26]; decide +kernel) (by rw [c26]; decide +kernel) (tg := 1012) rfl (k26 c26)
  by_cases c27 : ((x.2 i1) &&& (Int32.ofInt 31)) = Int32.ofInt 27
  · exact e_tableIn zd211_33 (off := 1022) (by rw [c27]; decide +kernel) (by rw [c27]; decide +kernel) (tg := 1055) rfl (k27 c27)
  by_cases c28 : ((x.2 i1) &&& (Int32.ofInt 31)) = Int32.ofInt 28
  · exact e_tableIn zd211_33 (off := 1065) (by rw [c28]; decide +kernel) (by rw [c28]; decide +kernel) (tg := 1098) rfl (k28 c28)
  by_cases c29 : ((x.2 i1) &&& (Int32.ofInt 31)) = Int32.ofInt 29
  · exact e_tableIn zd211_33 (off := 1128) (by rw [c29]; decide +kernel) (by rw [c29]; decide +kernel) (tg := 1161) rfl (k29 c29)
  by_cases c30 : ((x.2 i1) &&& (Int32.ofInt 31)) = Int32.ofInt 30
  · exact e_tableIn zd211_33 (off := 1181) (by rw [c30]; decide +kernel) (by rw [c30]; decide +kernel) (tg := 1214) rfl (k30 c30)
  exact e_tableOut zd211_33 (zsw_out (lo := 0) (hi := 30) (by decide) (by decide) (fun v h1 h2 h => by
    rcases (show v = 0 ∨ v = 1 ∨ v = 2 ∨ v = 3 ∨ v = 4 ∨ v = 5 ∨ v = 6 ∨ v = 7 ∨ v = 8 ∨ v = 9 ∨ v = 10 ∨ v = 11 ∨ v = 12 ∨ v = 13 ∨ v = 14 ∨ v = 15 ∨ v = 16 ∨ v = 17 ∨ v = 18 ∨ v = 19 ∨ v = 20 ∨ v = 21 ∨ v = 22 ∨ v = 23 ∨ v = 24 ∨ v = 25 ∨ v = 26 ∨ v = 27 ∨ v = 28 ∨ v = 29 ∨ v = 30 by omega) with rfl | rfl | rfl | rfl | rfl | rfl | rfl | rfl | rfl | rfl | rfl | rfl | rfl | rfl | rfl | rfl | rfl | rfl | rfl | rfl | rfl | rfl | rfl | rfl | rfl | rfl | rfl | rfl | rfl | rfl | rfl
    · exact c0 h
    · exact c1 h
    · exact c2 h
    · exact c3 h
    · exact c4 h
    · exact c5 h
    · exact c6 h
    · exact c7 h
    · exact c8 h
    · exact c9 h
    · exact c10 h
    · exact c11 h
    · exact c12 h
    · exact c13 h
    · exact c14 h
    · exact c15 h
    · exact c16 h
    · exact c17 h
    · exact c18 h
    · exact c19 h
    · exact c20 h
    · exact c21 h
    · exact c22 h
    · exact c23 h
    · exact c24 h
    · exact c25 h
    · exact c26 h
    · exact c27 h
    · exact c28 h
    · exact c29 h
    · exact c30 h)) (tg := 1247) rfl (kd ⟨c0, c1, c2, c3, c4, c5, c6, c7, c8, c9, c10, c11, c12, c13, c14, c15, c16, c17, c18, c19, c20, c21, c22, c23, c24, c25, c26, c27, c28, c29, c30⟩)
theorem b211_172 {x : zXs} {F : zF} (hF : zSh F) {d : Nat} {V : Nat → Nat → Int32} {T : Nat → Nat → Int64} {Q : Option Value → zG → Prop} {o2 : Option Value} {l3 : Int32}  (hL : x.1 ≤ 3072) {i1 : Nat} (e1 : l3 + (Int32.ofInt 1) = nI i1) (h1 : i1 < x.1) {i2 : Nat} (e2 : l3 + (Int32.ofInt 2) = nI i2) (h2 : i2 < x.1) {i3 : Nat} (e3 : l3 + (Int32.ofInt 3) = nI i3) (h3 : i3 < x.1) (k : E x F d 11 0 [some (.ref 0), some (.int (x.2 i1)), some (.int (x.2 i2)), some (.int (x.2 i3))] [] (V, T) (fun r G' => E x F (d + 1) 211 191 [some (.double 50), some (.ref 0), o2, some (.int l3)] (r.toList ++ []) G' Q)) : E x F (d + 1) 211 172 [some (.double 50), some (.ref 0), o2, some (.int l3)] [] (V, T) Q := by
  refine e_aload_n zd211_172 rfl rfl ?_
  refine e_aload_n zd211_173 rfl rfl ?_
  refine e_iload_n zd211_174 rfl ?_
  refine e_iconst zd211_175 ?_
  refine e_iadd zd211_176 ?_
  refine e_ialdX zd211_177 (zxt_s hL) e1 h1 (Nat.lt_of_le_of_lt hL (by omega)) ?_
  refine e_aload_n zd211_178 rfl rfl ?_
  refine e_iload_n zd211_179 rfl ?_
  refine e_iconst zd211_180 ?_
  refine e_iadd zd211_181 ?_
  refine e_ialdX zd211_182 (zxt_s hL) e2 h2 (Nat.lt_of_le_of_lt hL (by omega)) ?_
  refine e_aload_n zd211_183 rfl rfl ?_
  refine e_iload_n zd211_184 rfl ?_
  refine e_iconst zd211_185 ?_
  refine e_iadd zd211_186 ?_
  refine e_ialdX zd211_187 (zxt_s hL) e3 h3 (Nat.lt_of_le_of_lt hL (by omega)) ?_
  exact e_callV zd211_188 (own := 15) (nest := false) (w := 325) (by decide +kernel) (by decide +kernel) zs11 (as := [.int (x.2 i1), .int (x.2 i2), .int (x.2 i3)]) (rest := []) rfl rfl (zsh_at hF rfl).1 (by omega) (Nat.le_of_ble_eq_true rfl) rfl rfl rfl (by omega) k
theorem b211_191 {x : zXs} {F : zF} (hF : zSh F) {d : Nat} {V : Nat → Nat → Int32} {T : Nat → Nat → Int64} {Q : Option Value → zG → Prop} {o1 : Option Value} {l3 : Int32} {s0 : Int32}  (hL : x.1 ≤ 3072) {i1 : Nat} (e1 : l3 + (Int32.ofInt 1) = nI i1) (h1 : i1 < x.1) {i2 : Nat} (e2 : l3 + (Int32.ofInt 2) = nI i2) (h2 : i2 < x.1) {i3 : Nat} (e3 : l3 + (Int32.ofInt 3) = nI i3) (h3 : i3 < x.1) (k : E x F d 130 0 [some (.ref 59), some (.int (x.2 i1)), some (.int (x.2 i2)), some (.int (x.2 i3))] [] (V, T) (fun r G' => E x F (d + 1) 211 210 [some (.double 50), o1, some (.ref 59), some (.int l3)] (r.toList ++ [.int s0]) G' Q)) : E x F (d + 1) 211 191 [some (.double 50), o1, some (.ref 59), some (.int l3)] [.int s0] (V, T) Q := by
  refine e_aload_n zd211_191 rfl rfl ?_
  refine e_aload_n zd211_192 rfl rfl ?_
  refine e_iload_n zd211_193 rfl ?_
  refine e_iconst zd211_194 ?_
  refine e_iadd zd211_195 ?_
  refine e_ialdX zd211_196 (zxt_s hL) e1 h1 (Nat.lt_of_le_of_lt hL (by omega)) ?_
  refine e_aload_n zd211_197 rfl rfl ?_
  refine e_iload_n zd211_198 rfl ?_
  refine e_iconst zd211_199 ?_
  refine e_iadd zd211_200 ?_
  refine e_ialdX zd211_201 (zxt_s hL) e2 h2 (Nat.lt_of_le_of_lt hL (by omega)) ?_
  refine e_aload_n zd211_202 rfl rfl ?_
  refine e_iload_n zd211_203 rfl ?_
  refine e_iconst zd211_204 ?_
  refine e_iadd zd211_205 ?_
  refine e_ialdX zd211_206 (zxt_s hL) e3 h3 (Nat.lt_of_le_of_lt hL (by omega)) ?_
  exact e_callV zd211_207 (own := 15) (nest := false) (w := 1001) (by decide +kernel) (by decide +kernel) zs130 (as := [.int (x.2 i1), .int (x.2 i2), .int (x.2 i3)]) (rest := [.int s0]) rfl rfl (zsh_at hF rfl).1 (by omega) (Nat.le_of_ble_eq_true rfl) rfl rfl rfl (by omega) k
theorem b211_210 {x : zXs} {F : zF} (hF : zSh F) {d : Nat} {V : Nat → Nat → Int32} {T : Nat → Nat → Int64} {Q : Option Value → zG → Prop} {o0 : Option Value} {o1 : Option Value} {o2 : Option Value} {o3 : Option Value} {s0 : Int32} {s1 : Int32}   (kt : s0 = s1 → E x F d 211 1247 [o0, o1, o2, o3] [] (V, T) Q) (kf : ¬ (s0 = s1) → E x F d 211 213 [o0, o1, o2, o3] [] (V, T) Q) : E x F d 211 210 [o0, o1, o2, o3] [.int s1, .int s0] (V, T) Q := by
  exact e_icmp_eq zd211_210 (tg := 1247) rfl kt kf
theorem b211_213 {x : zXs} {F : zF} (hF : zSh F) {d : Nat} {V : Nat → Nat → Int32} {T : Nat → Nat → Int64} {Q : Option Value → zG → Prop} {o0 : Option Value} {o1 : Option Value} {o2 : Option Value} {o3 : Option Value}   (k : Q (some (.int (Int32.ofInt 0))) (V, T)) : E x F d 211 213 [o0, o1, o2, o3] [] (V, T) Q := by
  refine e_iconst zd211_213 ?_
  exact e_iretz zd211_214 zs211 (by decide +kernel) k
theorem b211_215 {x : zXs} {F : zF} (hF : zSh F) {d : Nat} {V : Nat → Nat → Int32} {T : Nat → Nat → Int64} {Q : Option Value → zG → Prop} {o2 : Option Value} {l3 : Int32}  (hL : x.1 ≤ 3072) {i1 : Nat} (e1 : l3 + (Int32.ofInt 1) = nI i1) (h1 : i1 < x.1) {i2 : Nat} (e2 : l3 + (Int32.ofInt 2) = nI i2) (h2 : i2 < x.1) {i3 : Nat} (e3 : l3 + (Int32.ofInt 3) = nI i3) (h3 : i3 < x.1) (k : E x F d 16 0 [some (.ref 0), some (.int (x.2 i1)), some (.int (x.2 i2)), some (.int (x.2 i3))] [] (V, T) (fun r G' => E x F (d + 1) 211 234 [some (.double 50), some (.ref 0), o2, some (.int l3)] (r.toList ++ []) G' Q)) : E x F (d + 1) 211 215 [some (.double 50), some (.ref 0), o2, some (.int l3)] [] (V, T) Q := by
  refine e_aload_n zd211_215 rfl rfl ?_
  refine e_aload_n zd211_216 rfl rfl ?_
  refine e_iload_n zd211_217 rfl ?_
  refine e_iconst zd211_218 ?_
  refine e_iadd zd211_219 ?_
  refine e_ialdX zd211_220 (zxt_s hL) e1 h1 (Nat.lt_of_le_of_lt hL (by omega)) ?_
  refine e_aload_n zd211_221 rfl rfl ?_
  refine e_iload_n zd211_222 rfl ?_
  refine e_iconst zd211_223 ?_
  refine e_iadd zd211_224 ?_
  refine e_ialdX zd211_225 (zxt_s hL) e2 h2 (Nat.lt_of_le_of_lt hL (by omega)) ?_
  refine e_aload_n zd211_226 rfl rfl ?_
  refine e_iload_n zd211_227 rfl ?_
  refine e_iconst zd211_228 ?_
  refine e_iadd zd211_229 ?_
  refine e_ialdX zd211_230 (zxt_s hL) e3 h3 (Nat.lt_of_le_of_lt hL (by omega)) ?_
  exact e_callV zd211_231 (own := 15) (nest := false) (w := 349) (by decide +kernel) (by decide +kernel) zs16 (as := [.int (x.2 i1), .int (x.2 i2), .int (x.2 i3)]) (rest := []) rfl rfl (zsh_at hF rfl).1 (by omega) (Nat.le_of_ble_eq_true rfl) rfl rfl rfl (by omega) k
theorem b211_234 {x : zXs} {F : zF} (hF : zSh F) {d : Nat} {V : Nat → Nat → Int32} {T : Nat → Nat → Int64} {Q : Option Value → zG → Prop} {o1 : Option Value} {l3 : Int32} {s0 : Int32}  (hL : x.1 ≤ 3072) {i1 : Nat} (e1 : l3 + (Int32.ofInt 1) = nI i1) (h1 : i1 < x.1) {i2 : Nat} (e2 : l3 + (Int32.ofInt 2) = nI i2) (h2 : i2 < x.1) {i3 : Nat} (e3 : l3 + (Int32.ofInt 3) = nI i3) (h3 : i3 < x.1) (k : E x F d 135 0 [some (.ref 59), some (.int (x.2 i1)), some (.int (x.2 i2)), some (.int (x.2 i3)), none] [] (V, T) (fun r G' => E x F (d + 1) 211 253 [some (.double 50), o1, some (.ref 59), some (.int l3)] (r.toList ++ [.int s0]) G' Q)) : E x F (d + 1) 211 234 [some (.double 50), o1, some (.ref 59), some (.int l3)] [.int s0] (V, T) Q := by
  refine e_aload_n zd211_234 rfl rfl ?_
  refine e_aload_n zd211_235 rfl rfl ?_
  refine e_iload_n zd211_236 rfl ?_
  refine e_iconst zd211_237 ?_
  refine e_iadd zd211_238 ?_
  refine e_ialdX zd211_239 (zxt_s hL) e1 h1 (Nat.lt_of_le_of_lt hL (by omega)) ?_
  refine e_aload_n zd211_240 rfl rfl ?_
  refine e_iload_n zd211_241 rfl ?_
  refine e_iconst zd211_242 ?_
  refine e_iadd zd211_243 ?_
  refine e_ialdX zd211_244 (zxt_s hL) e2 h2 (Nat.lt_of_le_of_lt hL (by omega)) ?_
  refine e_aload_n zd211_245 rfl rfl ?_
  refine e_iload_n zd211_246 rfl ?_
  refine e_iconst zd211_247 ?_
  refine e_iadd zd211_248 ?_
  refine e_ialdX zd211_249 (zxt_s hL) e3 h3 (Nat.lt_of_le_of_lt hL (by omega)) ?_
  exact e_callV zd211_250 (own := 15) (nest := false) (w := 1020) (by decide +kernel) (by decide +kernel) zs135 (as := [.int (x.2 i1), .int (x.2 i2), .int (x.2 i3)]) (rest := [.int s0]) rfl rfl (zsh_at hF rfl).1 (by omega) (Nat.le_of_ble_eq_true rfl) rfl rfl rfl (by omega) k
theorem b211_253 {x : zXs} {F : zF} (hF : zSh F) {d : Nat} {V : Nat → Nat → Int32} {T : Nat → Nat → Int64} {Q : Option Value → zG → Prop} {o0 : Option Value} {o1 : Option Value} {o2 : Option Value} {o3 : Option Value} {s0 : Int32} {s1 : Int32}   (kt : s0 = s1 → E x F d 211 1247 [o0, o1, o2, o3] [] (V, T) Q) (kf : ¬ (s0 = s1) → E x F d 211 256 [o0, o1, o2, o3] [] (V, T) Q) : E x F d 211 253 [o0, o1, o2, o3] [.int s1, .int s0] (V, T) Q := by
  exact e_icmp_eq zd211_253 (tg := 1247) rfl kt kf
theorem b211_256 {x : zXs} {F : zF} (hF : zSh F) {d : Nat} {V : Nat → Nat → Int32} {T : Nat → Nat → Int64} {Q : Option Value → zG → Prop} {o0 : Option Value} {o1 : Option Value} {o2 : Option Value} {o3 : Option Value}   (k : Q (some (.int (Int32.ofInt 0))) (V, T)) : E x F d 211 256 [o0, o1, o2, o3] [] (V, T) Q := by
  refine e_iconst zd211_256 ?_
  exact e_iretz zd211_257 zs211 (by decide +kernel) k
theorem b211_258 {x : zXs} {F : zF} (hF : zSh F) {d : Nat} {V : Nat → Nat → Int32} {T : Nat → Nat → Int64} {Q : Option Value → zG → Prop} {o2 : Option Value} {l3 : Int32}  (hL : x.1 ≤ 3072) {i1 : Nat} (e1 : l3 + (Int32.ofInt 1) = nI i1) (h1 : i1 < x.1) {i2 : Nat} (e2 : l3 + (Int32.ofInt 2) = nI i2) (h2 : i2 < x.1) (k : E x F d 20 0 [some (.ref 0), some (.int (x.2 i1)), some (.int (x.2 i2))] [] (V, T) (fun r G' => E x F (d + 1) 211 272 [some (.double 50), some (.ref 0), o2, some (.int l3)] (r.toList ++ []) G' Q)) : E x F (d + 1) 211 258 [some (.double 50), some (.ref 0), o2, some (.int l3)] [] (V, T) Q := by
  refine e_aload_n zd211_258 rfl rfl ?_
  refine e_aload_n zd211_259 rfl rfl ?_
  refine e_iload_n zd211_260 rfl ?_
  refine e_iconst zd211_261 ?_
  refine e_iadd zd211_262 ?_
  refine e_ialdX zd211_263 (zxt_s hL) e1 h1 (Nat.lt_of_le_of_lt hL (by omega)) ?_
  refine e_aload_n zd211_264 rfl rfl ?_
  refine e_iload_n zd211_265 rfl ?_
  refine e_iconst zd211_266 ?_
  refine e_iadd zd211_267 ?_
  refine e_ialdX zd211_268 (zxt_s hL) e2 h2 (Nat.lt_of_le_of_lt hL (by omega)) ?_
  exact e_callV zd211_269 (own := 15) (nest := false) (w := 365) (by decide +kernel) (by decide +kernel) zs20 (as := [.int (x.2 i1), .int (x.2 i2)]) (rest := []) rfl rfl (zsh_at hF rfl).1 (by omega) (Nat.le_of_ble_eq_true rfl) rfl rfl rfl (by omega) k
theorem b211_272 {x : zXs} {F : zF} (hF : zSh F) {d : Nat} {V : Nat → Nat → Int32} {T : Nat → Nat → Int64} {Q : Option Value → zG → Prop} {o1 : Option Value} {l3 : Int32} {s0 : Int32}  (hL : x.1 ≤ 3072) {i1 : Nat} (e1 : l3 + (Int32.ofInt 1) = nI i1) (h1 : i1 < x.1) {i2 : Nat} (e2 : l3 + (Int32.ofInt 2) = nI i2) (h2 : i2 < x.1) (k : E x F d 163 0 [some (.ref 59), some (.int (x.2 i1)), some (.int (x.2 i2))] [] (V, T) (fun r G' => E x F (d + 1) 211 286 [some (.double 50), o1, some (.ref 59), some (.int l3)] (r.toList ++ [.int s0]) G' Q)) : E x F (d + 1) 211 272 [some (.double 50), o1, some (.ref 59), some (.int l3)] [.int s0] (V, T) Q := by
  refine e_aload_n zd211_272 rfl rfl ?_
  refine e_aload_n zd211_273 rfl rfl ?_
  refine e_iload_n zd211_274 rfl ?_
  refine e_iconst zd211_275 ?_
  refine e_iadd zd211_276 ?_
  refine e_ialdX zd211_277 (zxt_s hL) e1 h1 (Nat.lt_of_le_of_lt hL (by omega)) ?_
  refine e_aload_n zd211_278 rfl rfl ?_
  refine e_iload_n zd211_279 rfl ?_
  refine e_iconst zd211_280 ?_
  refine e_iadd zd211_281 ?_
  refine e_ialdX zd211_282 (zxt_s hL) e2 h2 (Nat.lt_of_le_of_lt hL (by omega)) ?_
  exact e_callV zd211_283 (own := 15) (nest := false) (w := 1138) (by decide +kernel) (by decide +kernel) zs163 (as := [.int (x.2 i1), .int (x.2 i2)]) (rest := [.int s0]) rfl rfl (zsh_at hF rfl).1 (by omega) (Nat.le_of_ble_eq_true rfl) rfl rfl rfl (by omega) k
theorem b211_286 {x : zXs} {F : zF} (hF : zSh F) {d : Nat} {V : Nat → Nat → Int32} {T : Nat → Nat → Int64} {Q : Option Value → zG → Prop} {o0 : Option Value} {o1 : Option Value} {o2 : Option Value} {o3 : Option Value} {s0 : Int32} {s1 : Int32}   (kt : s0 = s1 → E x F d 211 1247 [o0, o1, o2, o3] [] (V, T) Q) (kf : ¬ (s0 = s1) → E x F d 211 289 [o0, o1, o2, o3] [] (V, T) Q) : E x F d 211 286 [o0, o1, o2, o3] [.int s1, .int s0] (V, T) Q := by
  exact e_icmp_eq zd211_286 (tg := 1247) rfl kt kf
theorem b211_289 {x : zXs} {F : zF} (hF : zSh F) {d : Nat} {V : Nat → Nat → Int32} {T : Nat → Nat → Int64} {Q : Option Value → zG → Prop} {o0 : Option Value} {o1 : Option Value} {o2 : Option Value} {o3 : Option Value}   (k : Q (some (.int (Int32.ofInt 0))) (V, T)) : E x F d 211 289 [o0, o1, o2, o3] [] (V, T) Q := by
  refine e_iconst zd211_289 ?_
  exact e_iretz zd211_290 zs211 (by decide +kernel) k
theorem b211_291 {x : zXs} {F : zF} (hF : zSh F) {d : Nat} {V : Nat → Nat → Int32} {T : Nat → Nat → Int64} {Q : Option Value → zG → Prop} {o2 : Option Value} {l3 : Int32}  (hL : x.1 ≤ 3072) {i1 : Nat} (e1 : l3 + (Int32.ofInt 1) = nI i1) (h1 : i1 < x.1) {i2 : Nat} (e2 : l3 + (Int32.ofInt 2) = nI i2) (h2 : i2 < x.1) (k : E x F d 22 0 [some (.ref 0), some (.int (x.2 i1)), some (.int (x.2 i2))] [] (V, T) (fun r G' => E x F (d + 1) 211 305 [some (.double 50), some (.ref 0), o2, some (.int l3)] (r.toList ++ []) G' Q)) : E x F (d + 1) 211 291 [some (.double 50), some (.ref 0), o2, some (.int l3)] [] (V, T) Q := by
  refine e_aload_n zd211_291 rfl rfl ?_
  refine e_aload_n zd211_292 rfl rfl ?_
  refine e_iload_n zd211_293 rfl ?_
  refine e_iconst zd211_294 ?_
  refine e_iadd zd211_295 ?_
  refine e_ialdX zd211_296 (zxt_s hL) e1 h1 (Nat.lt_of_le_of_lt hL (by omega)) ?_
  refine e_aload_n zd211_297 rfl rfl ?_
  refine e_iload_n zd211_298 rfl ?_
  refine e_iconst zd211_299 ?_
  refine e_iadd zd211_300 ?_
  refine e_ialdX zd211_301 (zxt_s hL) e2 h2 (Nat.lt_of_le_of_lt hL (by omega)) ?_
  exact e_callV zd211_302 (own := 15) (nest := false) (w := 373) (by decide +kernel) (by decide +kernel) zs22 (as := [.int (x.2 i1), .int (x.2 i2)]) (rest := []) rfl rfl (zsh_at hF rfl).1 (by omega) (Nat.le_of_ble_eq_true rfl) rfl rfl rfl (by omega) k
theorem b211_305 {x : zXs} {F : zF} (hF : zSh F) {d : Nat} {V : Nat → Nat → Int32} {T : Nat → Nat → Int64} {Q : Option Value → zG → Prop} {o1 : Option Value} {l3 : Int32} {s0 : Int32}  (hL : x.1 ≤ 3072) {i1 : Nat} (e1 : l3 + (Int32.ofInt 1) = nI i1) (h1 : i1 < x.1) {i2 : Nat} (e2 : l3 + (Int32.ofInt 2) = nI i2) (h2 : i2 < x.1) (k : E x F d 138 0 [some (.ref 59), some (.int (x.2 i1)), some (.int (x.2 i2))] [] (V, T) (fun r G' => E x F (d + 1) 211 319 [some (.double 50), o1, some (.ref 59), some (.int l3)] (r.toList ++ [.int s0]) G' Q)) : E x F (d + 1) 211 305 [some (.double 50), o1, some (.ref 59), some (.int l3)] [.int s0] (V, T) Q := by
  refine e_aload_n zd211_305 rfl rfl ?_
  refine e_aload_n zd211_306 rfl rfl ?_
  refine e_iload_n zd211_307 rfl ?_
  refine e_iconst zd211_308 ?_
  refine e_iadd zd211_309 ?_
  refine e_ialdX zd211_310 (zxt_s hL) e1 h1 (Nat.lt_of_le_of_lt hL (by omega)) ?_
  refine e_aload_n zd211_311 rfl rfl ?_
  refine e_iload_n zd211_312 rfl ?_
  refine e_iconst zd211_313 ?_
  refine e_iadd zd211_314 ?_
  refine e_ialdX zd211_315 (zxt_s hL) e2 h2 (Nat.lt_of_le_of_lt hL (by omega)) ?_
  exact e_callV zd211_316 (own := 15) (nest := false) (w := 1144) (by decide +kernel) (by decide +kernel) zs138 (as := [.int (x.2 i1), .int (x.2 i2)]) (rest := [.int s0]) rfl rfl (zsh_at hF rfl).1 (by omega) (Nat.le_of_ble_eq_true rfl) rfl rfl rfl (by omega) k
theorem b211_319 {x : zXs} {F : zF} (hF : zSh F) {d : Nat} {V : Nat → Nat → Int32} {T : Nat → Nat → Int64} {Q : Option Value → zG → Prop} {o0 : Option Value} {o1 : Option Value} {o2 : Option Value} {o3 : Option Value} {s0 : Int32} {s1 : Int32}   (kt : s0 = s1 → E x F d 211 1247 [o0, o1, o2, o3] [] (V, T) Q) (kf : ¬ (s0 = s1) → E x F d 211 322 [o0, o1, o2, o3] [] (V, T) Q) : E x F d 211 319 [o0, o1, o2, o3] [.int s1, .int s0] (V, T) Q := by
  exact e_icmp_eq zd211_319 (tg := 1247) rfl kt kf
theorem b211_322 {x : zXs} {F : zF} (hF : zSh F) {d : Nat} {V : Nat → Nat → Int32} {T : Nat → Nat → Int64} {Q : Option Value → zG → Prop} {o0 : Option Value} {o1 : Option Value} {o2 : Option Value} {o3 : Option Value}   (k : Q (some (.int (Int32.ofInt 0))) (V, T)) : E x F d 211 322 [o0, o1, o2, o3] [] (V, T) Q := by
  refine e_iconst zd211_322 ?_
  exact e_iretz zd211_323 zs211 (by decide +kernel) k
theorem b211_324 {x : zXs} {F : zF} (hF : zSh F) {d : Nat} {V : Nat → Nat → Int32} {T : Nat → Nat → Int64} {Q : Option Value → zG → Prop} {o2 : Option Value} {l3 : Int32}  (hL : x.1 ≤ 3072) {i1 : Nat} (e1 : l3 + (Int32.ofInt 1) = nI i1) (h1 : i1 < x.1) {i2 : Nat} (e2 : l3 + (Int32.ofInt 2) = nI i2) (h2 : i2 < x.1) (k : E x F d 36 0 [some (.ref 0), some (.int (x.2 i1)), some (.int (x.2 i2))] [] (V, T) (fun r G' => E x F (d + 1) 211 338 [some (.double 50), some (.ref 0), o2, some (.int l3)] (r.toList ++ []) G' Q)) : E x F (d + 1) 211 324 [some (.double 50), some (.ref 0), o2, some (.int l3)] [] (V, T) Q := by
  refine e_aload_n zd211_324 rfl rfl ?_
  refine e_aload_n zd211_325 rfl rfl ?_
  refine e_iload_n zd211_326 rfl ?_
  refine e_iconst zd211_327 ?_
  refine e_iadd zd211_328 ?_
  refine e_ialdX zd211_329 (zxt_s hL) e1 h1 (Nat.lt_of_le_of_lt hL (by omega)) ?_
  refine e_aload_n zd211_330 rfl rfl ?_
  refine e_iload_n zd211_331 rfl ?_
  refine e_iconst zd211_332 ?_
  refine e_iadd zd211_333 ?_
  refine e_ialdX zd211_334 (zxt_s hL) e2 h2 (Nat.lt_of_le_of_lt hL (by omega)) ?_
  exact e_callV zd211_335 (own := 15) (nest := false) (w := 432) (by decide +kernel) (by decide +kernel) zs36 (as := [.int (x.2 i1), .int (x.2 i2)]) (rest := []) rfl rfl (zsh_at hF rfl).1 (by omega) (Nat.le_of_ble_eq_true rfl) rfl rfl rfl (by omega) k
theorem b211_338 {x : zXs} {F : zF} (hF : zSh F) {d : Nat} {V : Nat → Nat → Int32} {T : Nat → Nat → Int64} {Q : Option Value → zG → Prop} {o1 : Option Value} {l3 : Int32} {s0 : Int32}  (hL : x.1 ≤ 3072) {i1 : Nat} (e1 : l3 + (Int32.ofInt 1) = nI i1) (h1 : i1 < x.1) {i2 : Nat} (e2 : l3 + (Int32.ofInt 2) = nI i2) (h2 : i2 < x.1) (k : E x F d 167 0 [some (.ref 59), some (.int (x.2 i1)), some (.int (x.2 i2))] [] (V, T) (fun r G' => E x F (d + 1) 211 352 [some (.double 50), o1, some (.ref 59), some (.int l3)] (r.toList ++ [.int s0]) G' Q)) : E x F (d + 1) 211 338 [some (.double 50), o1, some (.ref 59), some (.int l3)] [.int s0] (V, T) Q := by
  refine e_aload_n zd211_338 rfl rfl ?_
  refine e_aload_n zd211_339 rfl rfl ?_
  refine e_iload_n zd211_340 rfl ?_
  refine e_iconst zd211_341 ?_
  refine e_iadd zd211_342 ?_
  refine e_ialdX zd211_343 (zxt_s hL) e1 h1 (Nat.lt_of_le_of_lt hL (by omega)) ?_
  refine e_aload_n zd211_344 rfl rfl ?_
  refine e_iload_n zd211_345 rfl ?_
  refine e_iconst zd211_346 ?_
  refine e_iadd zd211_347 ?_
  refine e_ialdX zd211_348 (zxt_s hL) e2 h2 (Nat.lt_of_le_of_lt hL (by omega)) ?_
  exact e_callV zd211_349 (own := 15) (nest := false) (w := 1158) (by decide +kernel) (by decide +kernel) zs167 (as := [.int (x.2 i1), .int (x.2 i2)]) (rest := [.int s0]) rfl rfl (zsh_at hF rfl).1 (by omega) (Nat.le_of_ble_eq_true rfl) rfl rfl rfl (by omega) k
theorem b211_352 {x : zXs} {F : zF} (hF : zSh F) {d : Nat} {V : Nat → Nat → Int32} {T : Nat → Nat → Int64} {Q : Option Value → zG → Prop} {o0 : Option Value} {o1 : Option Value} {o2 : Option Value} {o3 : Option Value} {s0 : Int32} {s1 : Int32}   (kt : s0 = s1 → E x F d 211 1247 [o0, o1, o2, o3] [] (V, T) Q) (kf : ¬ (s0 = s1) → E x F d 211 355 [o0, o1, o2, o3] [] (V, T) Q) : E x F d 211 352 [o0, o1, o2, o3] [.int s1, .int s0] (V, T) Q := by
  exact e_icmp_eq zd211_352 (tg := 1247) rfl kt kf
theorem b211_355 {x : zXs} {F : zF} (hF : zSh F) {d : Nat} {V : Nat → Nat → Int32} {T : Nat → Nat → Int64} {Q : Option Value → zG → Prop} {o0 : Option Value} {o1 : Option Value} {o2 : Option Value} {o3 : Option Value}   (k : Q (some (.int (Int32.ofInt 0))) (V, T)) : E x F d 211 355 [o0, o1, o2, o3] [] (V, T) Q := by
  refine e_iconst zd211_355 ?_
  exact e_iretz zd211_356 zs211 (by decide +kernel) k
theorem b211_357 {x : zXs} {F : zF} (hF : zSh F) {d : Nat} {V : Nat → Nat → Int32} {T : Nat → Nat → Int64} {Q : Option Value → zG → Prop} {o2 : Option Value} {l3 : Int32}  (hL : x.1 ≤ 3072) {i1 : Nat} (e1 : l3 + (Int32.ofInt 1) = nI i1) (h1 : i1 < x.1) {i2 : Nat} (e2 : l3 + (Int32.ofInt 2) = nI i2) (h2 : i2 < x.1) (k : E x F d 37 0 [some (.ref 0), some (.int (x.2 i1)), some (.int (x.2 i2))] [] (V, T) (fun r G' => E x F (d + 1) 211 371 [some (.double 50), some (.ref 0), o2, some (.int l3)] (r.toList ++ []) G' Q)) : E x F (d + 1) 211 357 [some (.double 50), some (.ref 0), o2, some (.int l3)] [] (V, T) Q := by
  refine e_aload_n zd211_357 rfl rfl ?_
  refine e_aload_n zd211_358 rfl rfl ?_
  refine e_iload_n zd211_359 rfl ?_
  refine e_iconst zd211_360 ?_
  refine e_iadd zd211_361 ?_
  refine e_ialdX zd211_362 (zxt_s hL) e1 h1 (Nat.lt_of_le_of_lt hL (by omega)) ?_
  refine e_aload_n zd211_363 rfl rfl ?_
  refine e_iload_n zd211_364 rfl ?_
  refine e_iconst zd211_365 ?_
  refine e_iadd zd211_366 ?_
  refine e_ialdX zd211_367 (zxt_s hL) e2 h2 (Nat.lt_of_le_of_lt hL (by omega)) ?_
  exact e_callV zd211_368 (own := 15) (nest := false) (w := 437) (by decide +kernel) (by decide +kernel) zs37 (as := [.int (x.2 i1), .int (x.2 i2)]) (rest := []) rfl rfl (zsh_at hF rfl).1 (by omega) (Nat.le_of_ble_eq_true rfl) rfl rfl rfl (by omega) k
theorem b211_371 {x : zXs} {F : zF} (hF : zSh F) {d : Nat} {V : Nat → Nat → Int32} {T : Nat → Nat → Int64} {Q : Option Value → zG → Prop} {o1 : Option Value} {l3 : Int32} {s0 : Int32}  (hL : x.1 ≤ 3072) {i1 : Nat} (e1 : l3 + (Int32.ofInt 1) = nI i1) (h1 : i1 < x.1) {i2 : Nat} (e2 : l3 + (Int32.ofInt 2) = nI i2) (h2 : i2 < x.1) (k : E x F d 168 0 [some (.ref 59), some (.int (x.2 i1)), some (.int (x.2 i2))] [] (V, T) (fun r G' => E x F (d + 1) 211 385 [some (.double 50), o1, some (.ref 59), some (.int l3)] (r.toList ++ [.int s0]) G' Q)) : E x F (d + 1) 211 371 [some (.double 50), o1, some (.ref 59), some (.int l3)] [.int s0] (V, T) Q := by
  refine e_aload_n zd211_371 rfl rfl ?_
  refine e_aload_n zd211_372 rfl rfl ?_
  refine e_iload_n zd211_373 rfl ?_
  refine e_iconst zd211_374 ?_
  refine e_iadd zd211_375 ?_
  refine e_ialdX zd211_376 (zxt_s hL) e1 h1 (Nat.lt_of_le_of_lt hL (by omega)) ?_
  refine e_aload_n zd211_377 rfl rfl ?_
  refine e_iload_n zd211_378 rfl ?_
  refine e_iconst zd211_379 ?_
  refine e_iadd zd211_380 ?_
  refine e_ialdX zd211_381 (zxt_s hL) e2 h2 (Nat.lt_of_le_of_lt hL (by omega)) ?_
  exact e_callV zd211_382 (own := 15) (nest := false) (w := 1162) (by decide +kernel) (by decide +kernel) zs168 (as := [.int (x.2 i1), .int (x.2 i2)]) (rest := [.int s0]) rfl rfl (zsh_at hF rfl).1 (by omega) (Nat.le_of_ble_eq_true rfl) rfl rfl rfl (by omega) k
theorem b211_385 {x : zXs} {F : zF} (hF : zSh F) {d : Nat} {V : Nat → Nat → Int32} {T : Nat → Nat → Int64} {Q : Option Value → zG → Prop} {o0 : Option Value} {o1 : Option Value} {o2 : Option Value} {o3 : Option Value} {s0 : Int32} {s1 : Int32}   (kt : s0 = s1 → E x F d 211 1247 [o0, o1, o2, o3] [] (V, T) Q) (kf : ¬ (s0 = s1) → E x F d 211 388 [o0, o1, o2, o3] [] (V, T) Q) : E x F d 211 385 [o0, o1, o2, o3] [.int s1, .int s0] (V, T) Q := by
  exact e_icmp_eq zd211_385 (tg := 1247) rfl kt kf
theorem b211_388 {x : zXs} {F : zF} (hF : zSh F) {d : Nat} {V : Nat → Nat → Int32} {T : Nat → Nat → Int64} {Q : Option Value → zG → Prop} {o0 : Option Value} {o1 : Option Value} {o2 : Option Value} {o3 : Option Value}   (k : Q (some (.int (Int32.ofInt 0))) (V, T)) : E x F d 211 388 [o0, o1, o2, o3] [] (V, T) Q := by
  refine e_iconst zd211_388 ?_
  exact e_iretz zd211_389 zs211 (by decide +kernel) k
theorem b211_390 {x : zXs} {F : zF} (hF : zSh F) {d : Nat} {V : Nat → Nat → Int32} {T : Nat → Nat → Int64} {Q : Option Value → zG → Prop} {o2 : Option Value} {l3 : Int32}  (hL : x.1 ≤ 3072) {i1 : Nat} (e1 : l3 + (Int32.ofInt 1) = nI i1) (h1 : i1 < x.1) (k : E x F d 41 0 [some (.ref 0), some (.int (x.2 i1))] [] (V, T) (fun r G' => E x F (d + 1) 211 399 [some (.double 50), some (.ref 0), o2, some (.int l3)] (r.toList ++ []) G' Q)) : E x F (d + 1) 211 390 [some (.double 50), some (.ref 0), o2, some (.int l3)] [] (V, T) Q := by
  refine e_aload_n zd211_390 rfl rfl ?_
  refine e_aload_n zd211_391 rfl rfl ?_
  refine e_iload_n zd211_392 rfl ?_
  refine e_iconst zd211_393 ?_
  refine e_iadd zd211_394 ?_
  refine e_ialdX zd211_395 (zxt_s hL) e1 h1 (Nat.lt_of_le_of_lt hL (by omega)) ?_
  exact e_callV zd211_396 (own := 15) (nest := false) (w := 452) (by decide +kernel) (by decide +kernel) zs41 (as := [.int (x.2 i1)]) (rest := []) rfl rfl (zsh_at hF rfl).1 (by omega) (Nat.le_of_ble_eq_true rfl) rfl rfl rfl (by omega) k
theorem b211_399 {x : zXs} {F : zF} (hF : zSh F) {d : Nat} {V : Nat → Nat → Int32} {T : Nat → Nat → Int64} {Q : Option Value → zG → Prop} {o1 : Option Value} {l3 : Int32} {s0 : Int32}  (hL : x.1 ≤ 3072) {i1 : Nat} (e1 : l3 + (Int32.ofInt 1) = nI i1) (h1 : i1 < x.1) (k : E x F d 164 0 [some (.ref 59), some (.int (x.2 i1))] [] (V, T) (fun r G' => E x F (d + 1) 211 408 [some (.double 50), o1, some (.ref 59), some (.int l3)] (r.toList ++ [.int s0]) G' Q)) : E x F (d + 1) 211 399 [some (.double 50), o1, some (.ref 59), some (.int l3)] [.int s0] (V, T) Q := by
  refine e_aload_n zd211_399 rfl rfl ?_
  refine e_aload_n zd211_400 rfl rfl ?_
  refine e_iload_n zd211_401 rfl ?_
  refine e_iconst zd211_402 ?_
  refine e_iadd zd211_403 ?_
  refine e_ialdX zd211_404 (zxt_s hL) e1 h1 (Nat.lt_of_le_of_lt hL (by omega)) ?_
  exact e_callV zd211_405 (own := 15) (nest := false) (w := 1145) (by decide +kernel) (by decide +kernel) zs164 (as := [.int (x.2 i1)]) (rest := [.int s0]) rfl rfl (zsh_at hF rfl).1 (by omega) (Nat.le_of_ble_eq_true rfl) rfl rfl rfl (by omega) k
theorem b211_408 {x : zXs} {F : zF} (hF : zSh F) {d : Nat} {V : Nat → Nat → Int32} {T : Nat → Nat → Int64} {Q : Option Value → zG → Prop} {o0 : Option Value} {o1 : Option Value} {o2 : Option Value} {o3 : Option Value} {s0 : Int32} {s1 : Int32}   (kt : s0 = s1 → E x F d 211 1247 [o0, o1, o2, o3] [] (V, T) Q) (kf : ¬ (s0 = s1) → E x F d 211 411 [o0, o1, o2, o3] [] (V, T) Q) : E x F d 211 408 [o0, o1, o2, o3] [.int s1, .int s0] (V, T) Q := by
  exact e_icmp_eq zd211_408 (tg := 1247) rfl kt kf
theorem b211_411 {x : zXs} {F : zF} (hF : zSh F) {d : Nat} {V : Nat → Nat → Int32} {T : Nat → Nat → Int64} {Q : Option Value → zG → Prop} {o0 : Option Value} {o1 : Option Value} {o2 : Option Value} {o3 : Option Value}   (k : Q (some (.int (Int32.ofInt 0))) (V, T)) : E x F d 211 411 [o0, o1, o2, o3] [] (V, T) Q := by
  refine e_iconst zd211_411 ?_
  exact e_iretz zd211_412 zs211 (by decide +kernel) k
theorem b211_413 {x : zXs} {F : zF} (hF : zSh F) {d : Nat} {V : Nat → Nat → Int32} {T : Nat → Nat → Int64} {Q : Option Value → zG → Prop} {o0 : Option Value} {o2 : Option Value} {o3 : Option Value}   (k : E x F d 43 0 [some (.ref 0), none] [] (V, T) (fun r G' => E x F (d + 1) 211 417 [o0, some (.ref 0), o2, o3] (r.toList ++ []) G' Q)) : E x F (d + 1) 211 413 [o0, some (.ref 0), o2, o3] [] (V, T) Q := by
  refine e_aload_n zd211_413 rfl rfl ?_
  exact e_callV zd211_414 (own := 15) (nest := false) (w := 460) (by decide +kernel) (by decide +kernel) zs43 (as := []) (rest := []) rfl rfl (zsh_at hF rfl).1 (by omega) (Nat.le_of_ble_eq_true rfl) rfl rfl rfl (by omega) k
theorem b211_417 {x : zXs} {F : zF} (hF : zSh F) {d : Nat} {V : Nat → Nat → Int32} {T : Nat → Nat → Int64} {Q : Option Value → zG → Prop} {o0 : Option Value} {o1 : Option Value} {o3 : Option Value} {s0 : Int32}   (k : E x F d 165 0 [some (.ref 59), none] [] (V, T) (fun r G' => E x F (d + 1) 211 421 [o0, o1, some (.ref 59), o3] (r.toList ++ [.int s0]) G' Q)) : E x F (d + 1) 211 417 [o0, o1, some (.ref 59), o3] [.int s0] (V, T) Q := by
  refine e_aload_n zd211_417 rfl rfl ?_
  exact e_callV zd211_418 (own := 15) (nest := false) (w := 1150) (by decide +kernel) (by decide +kernel) zs165 (as := []) (rest := [.int s0]) rfl rfl (zsh_at hF rfl).1 (by omega) (Nat.le_of_ble_eq_true rfl) rfl rfl rfl (by omega) k
theorem b211_421 {x : zXs} {F : zF} (hF : zSh F) {d : Nat} {V : Nat → Nat → Int32} {T : Nat → Nat → Int64} {Q : Option Value → zG → Prop} {o0 : Option Value} {o1 : Option Value} {o2 : Option Value} {o3 : Option Value} {s0 : Int32} {s1 : Int32}   (kt : s0 = s1 → E x F d 211 1247 [o0, o1, o2, o3] [] (V, T) Q) (kf : ¬ (s0 = s1) → E x F d 211 424 [o0, o1, o2, o3] [] (V, T) Q) : E x F d 211 421 [o0, o1, o2, o3] [.int s1, .int s0] (V, T) Q := by
  exact e_icmp_eq zd211_421 (tg := 1247) rfl kt kf
theorem b211_424 {x : zXs} {F : zF} (hF : zSh F) {d : Nat} {V : Nat → Nat → Int32} {T : Nat → Nat → Int64} {Q : Option Value → zG → Prop} {o0 : Option Value} {o1 : Option Value} {o2 : Option Value} {o3 : Option Value}   (k : Q (some (.int (Int32.ofInt 0))) (V, T)) : E x F d 211 424 [o0, o1, o2, o3] [] (V, T) Q := by
  refine e_iconst zd211_424 ?_
  exact e_iretz zd211_425 zs211 (by decide +kernel) k
theorem b211_426 {x : zXs} {F : zF} (hF : zSh F) {d : Nat} {V : Nat → Nat → Int32} {T : Nat → Nat → Int64} {Q : Option Value → zG → Prop} {o2 : Option Value} {l3 : Int32}  (hL : x.1 ≤ 3072) {i1 : Nat} (e1 : l3 + (Int32.ofInt 1) = nI i1) (h1 : i1 < x.1) (k : E x F d 72 0 [some (.ref 0), some (.int (x.2 i1)), none] [] (V, T) (fun r G' => E x F (d + 1) 211 435 [some (.double 50), some (.ref 0), o2, some (.int l3)] (r.toList ++ []) G' Q)) : E x F (d + 1) 211 426 [some (.double 50), some (.ref 0), o2, some (.int l3)] [] (V, T) Q := by
  refine e_aload_n zd211_426 rfl rfl ?_
  refine e_aload_n zd211_427 rfl rfl ?_
  refine e_iload_n zd211_428 rfl ?_
  refine e_iconst zd211_429 ?_
  refine e_iadd zd211_430 ?_
  refine e_ialdX zd211_431 (zxt_s hL) e1 h1 (Nat.lt_of_le_of_lt hL (by omega)) ?_
  exact e_callV zd211_432 (own := 15) (nest := false) (w := 610) (by decide +kernel) (by decide +kernel) zs72 (as := [.int (x.2 i1)]) (rest := []) rfl rfl (zsh_at hF rfl).1 (by omega) (Nat.le_of_ble_eq_true rfl) rfl rfl rfl (by omega) k
theorem b211_435 {x : zXs} {F : zF} (hF : zSh F) {d : Nat} {V : Nat → Nat → Int32} {T : Nat → Nat → Int64} {Q : Option Value → zG → Prop} {o1 : Option Value} {l3 : Int32} {s0 : Int32}  (hL : x.1 ≤ 3072) {i1 : Nat} (e1 : l3 + (Int32.ofInt 1) = nI i1) (h1 : i1 < x.1) (k : E x F d 166 0 [some (.ref 59), some (.int (x.2 i1)), none] [] (V, T) (fun r G' => E x F (d + 1) 211 444 [some (.double 50), o1, some (.ref 59), some (.int l3)] (r.toList ++ [.int s0]) G' Q)) : E x F (d + 1) 211 435 [some (.double 50), o1, some (.ref 59), some (.int l3)] [.int s0] (V, T) Q := by
  refine e_aload_n zd211_435 rfl rfl ?_
  refine e_aload_n zd211_436 rfl rfl ?_
  refine e_iload_n zd211_437 rfl ?_
  refine e_iconst zd211_438 ?_
  refine e_iadd zd211_439 ?_
  refine e_ialdX zd211_440 (zxt_s hL) e1 h1 (Nat.lt_of_le_of_lt hL (by omega)) ?_
  exact e_callV zd211_441 (own := 15) (nest := false) (w := 1154) (by decide +kernel) (by decide +kernel) zs166 (as := [.int (x.2 i1)]) (rest := [.int s0]) rfl rfl (zsh_at hF rfl).1 (by omega) (Nat.le_of_ble_eq_true rfl) rfl rfl rfl (by omega) k
theorem b211_444 {x : zXs} {F : zF} (hF : zSh F) {d : Nat} {V : Nat → Nat → Int32} {T : Nat → Nat → Int64} {Q : Option Value → zG → Prop} {o0 : Option Value} {o1 : Option Value} {o2 : Option Value} {o3 : Option Value} {s0 : Int32} {s1 : Int32}   (kt : s0 = s1 → E x F d 211 1247 [o0, o1, o2, o3] [] (V, T) Q) (kf : ¬ (s0 = s1) → E x F d 211 447 [o0, o1, o2, o3] [] (V, T) Q) : E x F d 211 444 [o0, o1, o2, o3] [.int s1, .int s0] (V, T) Q := by
  exact e_icmp_eq zd211_444 (tg := 1247) rfl kt kf
theorem b211_447 {x : zXs} {F : zF} (hF : zSh F) {d : Nat} {V : Nat → Nat → Int32} {T : Nat → Nat → Int64} {Q : Option Value → zG → Prop} {o0 : Option Value} {o1 : Option Value} {o2 : Option Value} {o3 : Option Value}   (k : Q (some (.int (Int32.ofInt 0))) (V, T)) : E x F d 211 447 [o0, o1, o2, o3] [] (V, T) Q := by
  refine e_iconst zd211_447 ?_
  exact e_iretz zd211_448 zs211 (by decide +kernel) k
theorem b211_449 {x : zXs} {F : zF} (hF : zSh F) {d : Nat} {V : Nat → Nat → Int32} {T : Nat → Nat → Int64} {Q : Option Value → zG → Prop} {o2 : Option Value} {l3 : Int32}  (hL : x.1 ≤ 3072) {i1 : Nat} (e1 : l3 + (Int32.ofInt 1) = nI i1) (h1 : i1 < x.1) {i2 : Nat} (e2 : l3 + (Int32.ofInt 2) = nI i2) (h2 : i2 < x.1) (k : E x F d 73 0 [some (.ref 0), some (.int (x.2 i1)), some (.int (x.2 i2))] [] (V, T) (fun r G' => E x F (d + 1) 211 463 [some (.double 50), some (.ref 0), o2, some (.int l3)] (r.toList ++ []) G' Q)) : E x F (d + 1) 211 449 [some (.double 50), some (.ref 0), o2, some (.int l3)] [] (V, T) Q := by
  refine e_aload_n zd211_449 rfl rfl ?_
  refine e_aload_n zd211_450 rfl rfl ?_
  refine e_iload_n zd211_451 rfl ?_
  refine e_iconst zd211_452 ?_
  refine e_iadd zd211_453 ?_
  refine e_ialdX zd211_454 (zxt_s hL) e1 h1 (Nat.lt_of_le_of_lt hL (by omega)) ?_
  refine e_aload_n zd211_455 rfl rfl ?_
  refine e_iload_n zd211_456 rfl ?_
  refine e_iconst zd211_457 ?_
  refine e_iadd zd211_458 ?_
  refine e_ialdX zd211_459 (zxt_s hL) e2 h2 (Nat.lt_of_le_of_lt hL (by omega)) ?_
  exact e_callV zd211_460 (own := 15) (nest := false) (w := 614) (by decide +kernel) (by decide +kernel) zs73 (as := [.int (x.2 i1), .int (x.2 i2)]) (rest := []) rfl rfl (zsh_at hF rfl).1 (by omega) (Nat.le_of_ble_eq_true rfl) rfl rfl rfl (by omega) k
theorem b211_463 {x : zXs} {F : zF} (hF : zSh F) {d : Nat} {V : Nat → Nat → Int32} {T : Nat → Nat → Int64} {Q : Option Value → zG → Prop} {o1 : Option Value} {l3 : Int32} {s0 : Int32}  (hL : x.1 ≤ 3072) {i1 : Nat} (e1 : l3 + (Int32.ofInt 1) = nI i1) (h1 : i1 < x.1) {i2 : Nat} (e2 : l3 + (Int32.ofInt 2) = nI i2) (h2 : i2 < x.1) (k : E x F d 170 0 [some (.ref 59), some (.int (x.2 i1)), some (.int (x.2 i2))] [] (V, T) (fun r G' => E x F (d + 1) 211 477 [some (.double 50), o1, some (.ref 59), some (.int l3)] (r.toList ++ [.int s0]) G' Q)) : E x F (d + 1) 211 463 [some (.double 50), o1, some (.ref 59), some (.int l3)] [.int s0] (V, T) Q := by
  refine e_aload_n zd211_463 rfl rfl ?_
  refine e_aload_n zd211_464 rfl rfl ?_
  refine e_iload_n zd211_465 rfl ?_
  refine e_iconst zd211_466 ?_
  refine e_iadd zd211_467 ?_
  refine e_ialdX zd211_468 (zxt_s hL) e1 h1 (Nat.lt_of_le_of_lt hL (by omega)) ?_
  refine e_aload_n zd211_469 rfl rfl ?_
  refine e_iload_n zd211_470 rfl ?_
  refine e_iconst zd211_471 ?_
  refine e_iadd zd211_472 ?_
  refine e_ialdX zd211_473 (zxt_s hL) e2 h2 (Nat.lt_of_le_of_lt hL (by omega)) ?_
  exact e_callV zd211_474 (own := 15) (nest := false) (w := 1170) (by decide +kernel) (by decide +kernel) zs170 (as := [.int (x.2 i1), .int (x.2 i2)]) (rest := [.int s0]) rfl rfl (zsh_at hF rfl).1 (by omega) (Nat.le_of_ble_eq_true rfl) rfl rfl rfl (by omega) k
theorem b211_477 {x : zXs} {F : zF} (hF : zSh F) {d : Nat} {V : Nat → Nat → Int32} {T : Nat → Nat → Int64} {Q : Option Value → zG → Prop} {o0 : Option Value} {o1 : Option Value} {o2 : Option Value} {o3 : Option Value} {s0 : Int32} {s1 : Int32}   (kt : s0 = s1 → E x F d 211 1247 [o0, o1, o2, o3] [] (V, T) Q) (kf : ¬ (s0 = s1) → E x F d 211 480 [o0, o1, o2, o3] [] (V, T) Q) : E x F d 211 477 [o0, o1, o2, o3] [.int s1, .int s0] (V, T) Q := by
  exact e_icmp_eq zd211_477 (tg := 1247) rfl kt kf
theorem b211_480 {x : zXs} {F : zF} (hF : zSh F) {d : Nat} {V : Nat → Nat → Int32} {T : Nat → Nat → Int64} {Q : Option Value → zG → Prop} {o0 : Option Value} {o1 : Option Value} {o2 : Option Value} {o3 : Option Value}   (k : Q (some (.int (Int32.ofInt 0))) (V, T)) : E x F d 211 480 [o0, o1, o2, o3] [] (V, T) Q := by
  refine e_iconst zd211_480 ?_
  exact e_iretz zd211_481 zs211 (by decide +kernel) k
theorem b211_482 {x : zXs} {F : zF} (hF : zSh F) {d : Nat} {V : Nat → Nat → Int32} {T : Nat → Nat → Int64} {Q : Option Value → zG → Prop} {o2 : Option Value} {l3 : Int32}  (hL : x.1 ≤ 3072) {i1 : Nat} (e1 : l3 + (Int32.ofInt 1) = nI i1) (h1 : i1 < x.1) {i2 : Nat} (e2 : l3 + (Int32.ofInt 2) = nI i2) (h2 : i2 < x.1) (k : E x F d 76 0 [some (.ref 0), some (.int (x.2 i1)), some (.int (x.2 i2))] [] (V, T) (fun r G' => E x F (d + 1) 211 496 [some (.double 50), some (.ref 0), o2, some (.int l3)] (r.toList ++ []) G' Q)) : E x F (d + 1) 211 482 [some (.double 50), some (.ref 0), o2, some (.int l3)] [] (V, T) Q := by
  refine e_aload_n zd211_482 rfl rfl ?_
  refine e_aload_n zd211_483 rfl rfl ?_
  refine e_iload_n zd211_484 rfl ?_
  refine e_iconst zd211_485 ?_
  refine e_iadd zd211_486 ?_
  refine e_ialdX zd211_487 (zxt_s hL) e1 h1 (Nat.lt_of_le_of_lt hL (by omega)) ?_
  refine e_aload_n zd211_488 rfl rfl ?_
  refine e_iload_n zd211_489 rfl ?_
  refine e_iconst zd211_490 ?_
  refine e_iadd zd211_491 ?_
  refine e_ialdX zd211_492 (zxt_s hL) e2 h2 (Nat.lt_of_le_of_lt hL (by omega)) ?_
  exact e_callV zd211_493 (own := 15) (nest := false) (w := 629) (by decide +kernel) (by decide +kernel) zs76 (as := [.int (x.2 i1), .int (x.2 i2)]) (rest := []) rfl rfl (zsh_at hF rfl).1 (by omega) (Nat.le_of_ble_eq_true rfl) rfl rfl rfl (by omega) k
theorem b211_496 {x : zXs} {F : zF} (hF : zSh F) {d : Nat} {V : Nat → Nat → Int32} {T : Nat → Nat → Int64} {Q : Option Value → zG → Prop} {o1 : Option Value} {l3 : Int32} {s0 : Int32}  (hL : x.1 ≤ 3072) {i1 : Nat} (e1 : l3 + (Int32.ofInt 1) = nI i1) (h1 : i1 < x.1) {i2 : Nat} (e2 : l3 + (Int32.ofInt 2) = nI i2) (h2 : i2 < x.1) (k : E x F d 173 0 [some (.ref 59), some (.int (x.2 i1)), some (.int (x.2 i2)), none] [] (V, T) (fun r G' => E x F (d + 1) 211 510 [some (.double 50), o1, some (.ref 59), some (.int l3)] (r.toList ++ [.int s0]) G' Q)) : E x F (d + 1) 211 496 [some (.double 50), o1, some (.ref 59), some (.int l3)] [.int s0] (V, T) Q := by
  refine e_aload_n zd211_496 rfl rfl ?_
  refine e_aload_n zd211_497 rfl rfl ?_
  refine e_iload_n zd211_498 rfl ?_
  refine e_iconst zd211_499 ?_
  refine e_iadd zd211_500 ?_
  refine e_ialdX zd211_501 (zxt_s hL) e1 h1 (Nat.lt_of_le_of_lt hL (by omega)) ?_
  refine e_aload_n zd211_502 rfl rfl ?_
  refine e_iload_n zd211_503 rfl ?_
  refine e_iconst zd211_504 ?_
  refine e_iadd zd211_505 ?_
  refine e_ialdX zd211_506 (zxt_s hL) e2 h2 (Nat.lt_of_le_of_lt hL (by omega)) ?_
  exact e_callV zd211_507 (own := 15) (nest := false) (w := 1182) (by decide +kernel) (by decide +kernel) zs173 (as := [.int (x.2 i1), .int (x.2 i2)]) (rest := [.int s0]) rfl rfl (zsh_at hF rfl).1 (by omega) (Nat.le_of_ble_eq_true rfl) rfl rfl rfl (by omega) k
theorem b211_510 {x : zXs} {F : zF} (hF : zSh F) {d : Nat} {V : Nat → Nat → Int32} {T : Nat → Nat → Int64} {Q : Option Value → zG → Prop} {o0 : Option Value} {o1 : Option Value} {o2 : Option Value} {o3 : Option Value} {s0 : Int32} {s1 : Int32}   (kt : s0 = s1 → E x F d 211 1247 [o0, o1, o2, o3] [] (V, T) Q) (kf : ¬ (s0 = s1) → E x F d 211 513 [o0, o1, o2, o3] [] (V, T) Q) : E x F d 211 510 [o0, o1, o2, o3] [.int s1, .int s0] (V, T) Q := by
  exact e_icmp_eq zd211_510 (tg := 1247) rfl kt kf
theorem b211_513 {x : zXs} {F : zF} (hF : zSh F) {d : Nat} {V : Nat → Nat → Int32} {T : Nat → Nat → Int64} {Q : Option Value → zG → Prop} {o0 : Option Value} {o1 : Option Value} {o2 : Option Value} {o3 : Option Value}   (k : Q (some (.int (Int32.ofInt 0))) (V, T)) : E x F d 211 513 [o0, o1, o2, o3] [] (V, T) Q := by
  refine e_iconst zd211_513 ?_
  exact e_iretz zd211_514 zs211 (by decide +kernel) k
theorem b211_515 {x : zXs} {F : zF} (hF : zSh F) {d : Nat} {V : Nat → Nat → Int32} {T : Nat → Nat → Int64} {Q : Option Value → zG → Prop} {o0 : Option Value} {o2 : Option Value} {o3 : Option Value}   (k : E x F d 79 0 [some (.ref 0)] [] (V, T) (fun r G' => E x F (d + 1) 211 519 [o0, some (.ref 0), o2, o3] (r.toList ++ []) G' Q)) : E x F (d + 1) 211 515 [o0, some (.ref 0), o2, o3] [] (V, T) Q := by
  refine e_aload_n zd211_515 rfl rfl ?_
  exact e_callV zd211_516 (own := 15) (nest := false) (w := 644) (by decide +kernel) (by decide +kernel) zs79 (as := []) (rest := []) rfl rfl (zsh_at hF rfl).1 (by omega) (Nat.le_of_ble_eq_true rfl) rfl rfl rfl (by omega) k
theorem b211_519 {x : zXs} {F : zF} (hF : zSh F) {d : Nat} {V : Nat → Nat → Int32} {T : Nat → Nat → Int64} {Q : Option Value → zG → Prop} {o0 : Option Value} {o1 : Option Value} {o3 : Option Value} {s0 : Int32}   (k : E x F d 175 0 [some (.ref 59)] [] (V, T) (fun r G' => E x F (d + 1) 211 523 [o0, o1, some (.ref 59), o3] (r.toList ++ [.int s0]) G' Q)) : E x F (d + 1) 211 519 [o0, o1, some (.ref 59), o3] [.int s0] (V, T) Q := by
  refine e_aload_n zd211_519 rfl rfl ?_
  exact e_callV zd211_520 (own := 15) (nest := false) (w := 1190) (by decide +kernel) (by decide +kernel) zs175 (as := []) (rest := [.int s0]) rfl rfl (zsh_at hF rfl).1 (by omega) (Nat.le_of_ble_eq_true rfl) rfl rfl rfl (by omega) k
theorem b211_523 {x : zXs} {F : zF} (hF : zSh F) {d : Nat} {V : Nat → Nat → Int32} {T : Nat → Nat → Int64} {Q : Option Value → zG → Prop} {o0 : Option Value} {o1 : Option Value} {o2 : Option Value} {o3 : Option Value} {s0 : Int32} {s1 : Int32}   (kt : s0 = s1 → E x F d 211 1247 [o0, o1, o2, o3] [] (V, T) Q) (kf : ¬ (s0 = s1) → E x F d 211 526 [o0, o1, o2, o3] [] (V, T) Q) : E x F d 211 523 [o0, o1, o2, o3] [.int s1, .int s0] (V, T) Q := by
  exact e_icmp_eq zd211_523 (tg := 1247) rfl kt kf
theorem b211_526 {x : zXs} {F : zF} (hF : zSh F) {d : Nat} {V : Nat → Nat → Int32} {T : Nat → Nat → Int64} {Q : Option Value → zG → Prop} {o0 : Option Value} {o1 : Option Value} {o2 : Option Value} {o3 : Option Value}   (k : Q (some (.int (Int32.ofInt 0))) (V, T)) : E x F d 211 526 [o0, o1, o2, o3] [] (V, T) Q := by
  refine e_iconst zd211_526 ?_
  exact e_iretz zd211_527 zs211 (by decide +kernel) k
theorem b211_528 {x : zXs} {F : zF} (hF : zSh F) {d : Nat} {V : Nat → Nat → Int32} {T : Nat → Nat → Int64} {Q : Option Value → zG → Prop} {o2 : Option Value} {l3 : Int32}  (hL : x.1 ≤ 3072) {i1 : Nat} (e1 : l3 + (Int32.ofInt 1) = nI i1) (h1 : i1 < x.1) {i2 : Nat} (e2 : l3 + (Int32.ofInt 2) = nI i2) (h2 : i2 < x.1) {i3 : Nat} (e3 : l3 + (Int32.ofInt 3) = nI i3) (h3 : i3 < x.1) (k : E x F d 82 0 [some (.ref 0), some (.int (x.2 i1)), some (.int (x.2 i2)), some (.int (x.2 i3)), none] [] (V, T) (fun r G' => E x F (d + 1) 211 547 [some (.double 50), some (.ref 0), o2, some (.int l3)] (r.toList ++ []) G' Q)) : E x F (d + 1) 211 528 [some (.double 50), some (.ref 0), o2, some (.int l3)] [] (V, T) Q := by
  refine e_aload_n zd211_528 rfl rfl ?_
  refine e_aload_n zd211_529 rfl rfl ?_
  refine e_iload_n zd211_530 rfl ?_
  refine e_iconst zd211_531 ?_
  refine e_iadd zd211_532 ?_
  refine e_ialdX zd211_533 (zxt_s hL) e1 h1 (Nat.lt_of_le_of_lt hL (by omega)) ?_
  refine e_aload_n zd211_534 rfl rfl ?_
  refine e_iload_n zd211_535 rfl ?_
  refine e_iconst zd211_536 ?_
  refine e_iadd zd211_537 ?_
  refine e_ialdX zd211_538 (zxt_s hL) e2 h2 (Nat.lt_of_le_of_lt hL (by omega)) ?_
  refine e_aload_n zd211_539 rfl rfl ?_
  refine e_iload_n zd211_540 rfl ?_
  refine e_iconst zd211_541 ?_
  refine e_iadd zd211_542 ?_
  refine e_ialdX zd211_543 (zxt_s hL) e3 h3 (Nat.lt_of_le_of_lt hL (by omega)) ?_
  exact e_callV zd211_544 (own := 15) (nest := false) (w := 662) (by decide +kernel) (by decide +kernel) zs82 (as := [.int (x.2 i1), .int (x.2 i2), .int (x.2 i3)]) (rest := []) rfl rfl (zsh_at hF rfl).1 (by omega) (Nat.le_of_ble_eq_true rfl) rfl rfl rfl (by omega) k
theorem b211_547 {x : zXs} {F : zF} (hF : zSh F) {d : Nat} {V : Nat → Nat → Int32} {T : Nat → Nat → Int64} {Q : Option Value → zG → Prop} {o1 : Option Value} {l3 : Int32} {s0 : Int32}  (hL : x.1 ≤ 3072) {i1 : Nat} (e1 : l3 + (Int32.ofInt 1) = nI i1) (h1 : i1 < x.1) {i2 : Nat} (e2 : l3 + (Int32.ofInt 2) = nI i2) (h2 : i2 < x.1) {i3 : Nat} (e3 : l3 + (Int32.ofInt 3) = nI i3) (h3 : i3 < x.1) (k : E x F d 178 0 [some (.ref 59), some (.int (x.2 i1)), some (.int (x.2 i2)), some (.int (x.2 i3))] [] (V, T) (fun r G' => E x F (d + 1) 211 566 [some (.double 50), o1, some (.ref 59), some (.int l3)] (r.toList ++ [.int s0]) G' Q)) : E x F (d + 1) 211 547 [some (.double 50), o1, some (.ref 59), some (.int l3)] [.int s0] (V, T) Q := by
  refine e_aload_n zd211_547 rfl rfl ?_
  refine e_aload_n zd211_548 rfl rfl ?_
  refine e_iload_n zd211_549 rfl ?_
  refine e_iconst zd211_550 ?_
  refine e_iadd zd211_551 ?_
  refine e_ialdX zd211_552 (zxt_s hL) e1 h1 (Nat.lt_of_le_of_lt hL (by omega)) ?_
  refine e_aload_n zd211_553 rfl rfl ?_
  refine e_iload_n zd211_554 rfl ?_
  refine e_iconst zd211_555 ?_
  refine e_iadd zd211_556 ?_
  refine e_ialdX zd211_557 (zxt_s hL) e2 h2 (Nat.lt_of_le_of_lt hL (by omega)) ?_
  refine e_aload_n zd211_558 rfl rfl ?_
  refine e_iload_n zd211_559 rfl ?_
  refine e_iconst zd211_560 ?_
  refine e_iadd zd211_561 ?_
  refine e_ialdX zd211_562 (zxt_s hL) e3 h3 (Nat.lt_of_le_of_lt hL (by omega)) ?_
  exact e_callV zd211_563 (own := 15) (nest := false) (w := 1202) (by decide +kernel) (by decide +kernel) zs178 (as := [.int (x.2 i1), .int (x.2 i2), .int (x.2 i3)]) (rest := [.int s0]) rfl rfl (zsh_at hF rfl).1 (by omega) (Nat.le_of_ble_eq_true rfl) rfl rfl rfl (by omega) k
theorem b211_566 {x : zXs} {F : zF} (hF : zSh F) {d : Nat} {V : Nat → Nat → Int32} {T : Nat → Nat → Int64} {Q : Option Value → zG → Prop} {o0 : Option Value} {o1 : Option Value} {o2 : Option Value} {o3 : Option Value} {s0 : Int32} {s1 : Int32}   (kt : s0 = s1 → E x F d 211 1247 [o0, o1, o2, o3] [] (V, T) Q) (kf : ¬ (s0 = s1) → E x F d 211 569 [o0, o1, o2, o3] [] (V, T) Q) : E x F d 211 566 [o0, o1, o2, o3] [.int s1, .int s0] (V, T) Q := by
  exact e_icmp_eq zd211_566 (tg := 1247) rfl kt kf
theorem b211_569 {x : zXs} {F : zF} (hF : zSh F) {d : Nat} {V : Nat → Nat → Int32} {T : Nat → Nat → Int64} {Q : Option Value → zG → Prop} {o0 : Option Value} {o1 : Option Value} {o2 : Option Value} {o3 : Option Value}   (k : Q (some (.int (Int32.ofInt 0))) (V, T)) : E x F d 211 569 [o0, o1, o2, o3] [] (V, T) Q := by
  refine e_iconst zd211_569 ?_
  exact e_iretz zd211_570 zs211 (by decide +kernel) k
theorem b211_571 {x : zXs} {F : zF} (hF : zSh F) {d : Nat} {V : Nat → Nat → Int32} {T : Nat → Nat → Int64} {Q : Option Value → zG → Prop} {o2 : Option Value} {l3 : Int32}  (hL : x.1 ≤ 3072) {i1 : Nat} (e1 : l3 + (Int32.ofInt 1) = nI i1) (h1 : i1 < x.1) {i2 : Nat} (e2 : l3 + (Int32.ofInt 2) = nI i2) (h2 : i2 < x.1) {i3 : Nat} (e3 : l3 + (Int32.ofInt 3) = nI i3) (h3 : i3 < x.1) {i4 : Nat} (e4 : l3 + (Int32.ofInt 4) = nI i4) (h4 : i4 < x.1) (k : E x F d 84 0 [some (.ref 0), some (.int (x.2 i1)), some (.int (x.2 i2)), some (.int (x.2 i3)), some (.int (x.2 i4)), none] [] (V, T) (fun r G' => E x F (d + 1) 211 595 [some (.double 50), some (.ref 0), o2, some (.int l3)] (r.toList ++ []) G' Q)) : E x F (d + 1) 211 571 [some (.double 50), some (.ref 0), o2, some (.int l3)] [] (V, T) Q := by
  refine e_aload_n zd211_571 rfl rfl ?_
  refine e_aload_n zd211_572 rfl rfl ?_
  refine e_iload_n zd211_573 rfl ?_
  refine e_iconst zd211_574 ?_
  refine e_iadd zd211_575 ?_
  refine e_ialdX zd211_576 (zxt_s hL) e1 h1 (Nat.lt_of_le_of_lt hL (by omega)) ?_
  refine e_aload_n zd211_577 rfl rfl ?_
  refine e_iload_n zd211_578 rfl ?_
  refine e_iconst zd211_579 ?_
  refine e_iadd zd211_580 ?_
  refine e_ialdX zd211_581 (zxt_s hL) e2 h2 (Nat.lt_of_le_of_lt hL (by omega)) ?_
  refine e_aload_n zd211_582 rfl rfl ?_
  refine e_iload_n zd211_583 rfl ?_
  refine e_iconst zd211_584 ?_
  refine e_iadd zd211_585 ?_
  refine e_ialdX zd211_586 (zxt_s hL) e3 h3 (Nat.lt_of_le_of_lt hL (by omega)) ?_
  refine e_aload_n zd211_587 rfl rfl ?_
  refine e_iload_n zd211_588 rfl ?_
  refine e_iconst zd211_589 ?_
  refine e_iadd zd211_590 ?_
  refine e_ialdX zd211_591 (zxt_s hL) e4 h4 (Nat.lt_of_le_of_lt hL (by omega)) ?_
  exact e_callV zd211_592 (own := 15) (nest := false) (w := 671) (by decide +kernel) (by decide +kernel) zs84 (as := [.int (x.2 i1), .int (x.2 i2), .int (x.2 i3), .int (x.2 i4)]) (rest := []) rfl rfl (zsh_at hF rfl).1 (by omega) (Nat.le_of_ble_eq_true rfl) rfl rfl rfl (by omega) k
theorem b211_595 {x : zXs} {F : zF} (hF : zSh F) {d : Nat} {V : Nat → Nat → Int32} {T : Nat → Nat → Int64} {Q : Option Value → zG → Prop} {o1 : Option Value} {l3 : Int32} {s0 : Int32}  (hL : x.1 ≤ 3072) {i1 : Nat} (e1 : l3 + (Int32.ofInt 1) = nI i1) (h1 : i1 < x.1) {i2 : Nat} (e2 : l3 + (Int32.ofInt 2) = nI i2) (h2 : i2 < x.1) {i3 : Nat} (e3 : l3 + (Int32.ofInt 3) = nI i3) (h3 : i3 < x.1) {i4 : Nat} (e4 : l3 + (Int32.ofInt 4) = nI i4) (h4 : i4 < x.1) (k : E x F d 182 0 [some (.ref 59), some (.int (x.2 i1)), some (.int (x.2 i2)), some (.int (x.2 i3)), some (.int (x.2 i4)), none] [] (V, T) (fun r G' => E x F (d + 1) 211 619 [some (.double 50), o1, some (.ref 59), some (.int l3)] (r.toList ++ [.int s0]) G' Q)) : E x F (d + 1) 211 595 [some (.double 50), o1, some (.ref 59), some (.int l3)] [.int s0] (V, T) Q := by
  refine e_aload_n zd211_595 rfl rfl ?_
  refine e_aload_n zd211_596 rfl rfl ?_
  refine e_iload_n zd211_597 rfl ?_
  refine e_iconst zd211_598 ?_
  refine e_iadd zd211_599 ?_
  refine e_ialdX zd211_600 (zxt_s hL) e1 h1 (Nat.lt_of_le_of_lt hL (by omega)) ?_
  refine e_aload_n zd211_601 rfl rfl ?_
  refine e_iload_n zd211_602 rfl ?_
  refine e_iconst zd211_603 ?_
  refine e_iadd zd211_604 ?_
  refine e_ialdX zd211_605 (zxt_s hL) e2 h2 (Nat.lt_of_le_of_lt hL (by omega)) ?_
  refine e_aload_n zd211_606 rfl rfl ?_
  refine e_iload_n zd211_607 rfl ?_
  refine e_iconst zd211_608 ?_
  refine e_iadd zd211_609 ?_
  refine e_ialdX zd211_610 (zxt_s hL) e3 h3 (Nat.lt_of_le_of_lt hL (by omega)) ?_
  refine e_aload_n zd211_611 rfl rfl ?_
  refine e_iload_n zd211_612 rfl ?_
  refine e_iconst zd211_613 ?_
  refine e_iadd zd211_614 ?_
  refine e_ialdX zd211_615 (zxt_s hL) e4 h4 (Nat.lt_of_le_of_lt hL (by omega)) ?_
  exact e_callV zd211_616 (own := 15) (nest := false) (w := 1218) (by decide +kernel) (by decide +kernel) zs182 (as := [.int (x.2 i1), .int (x.2 i2), .int (x.2 i3), .int (x.2 i4)]) (rest := [.int s0]) rfl rfl (zsh_at hF rfl).1 (by omega) (Nat.le_of_ble_eq_true rfl) rfl rfl rfl (by omega) k
theorem b211_619 {x : zXs} {F : zF} (hF : zSh F) {d : Nat} {V : Nat → Nat → Int32} {T : Nat → Nat → Int64} {Q : Option Value → zG → Prop} {o0 : Option Value} {o1 : Option Value} {o2 : Option Value} {o3 : Option Value} {s0 : Int32} {s1 : Int32}   (kt : s0 = s1 → E x F d 211 1247 [o0, o1, o2, o3] [] (V, T) Q) (kf : ¬ (s0 = s1) → E x F d 211 622 [o0, o1, o2, o3] [] (V, T) Q) : E x F d 211 619 [o0, o1, o2, o3] [.int s1, .int s0] (V, T) Q := by
  exact e_icmp_eq zd211_619 (tg := 1247) rfl kt kf
theorem b211_622 {x : zXs} {F : zF} (hF : zSh F) {d : Nat} {V : Nat → Nat → Int32} {T : Nat → Nat → Int64} {Q : Option Value → zG → Prop} {o0 : Option Value} {o1 : Option Value} {o2 : Option Value} {o3 : Option Value}   (k : Q (some (.int (Int32.ofInt 0))) (V, T)) : E x F d 211 622 [o0, o1, o2, o3] [] (V, T) Q := by
  refine e_iconst zd211_622 ?_
  exact e_iretz zd211_623 zs211 (by decide +kernel) k
theorem b211_624 {x : zXs} {F : zF} (hF : zSh F) {d : Nat} {V : Nat → Nat → Int32} {T : Nat → Nat → Int64} {Q : Option Value → zG → Prop} {o2 : Option Value} {l3 : Int32}  (hL : x.1 ≤ 3072) {i1 : Nat} (e1 : l3 + (Int32.ofInt 1) = nI i1) (h1 : i1 < x.1) {i2 : Nat} (e2 : l3 + (Int32.ofInt 2) = nI i2) (h2 : i2 < x.1) {i3 : Nat} (e3 : l3 + (Int32.ofInt 3) = nI i3) (h3 : i3 < x.1) (k : E x F d 87 0 [some (.ref 0), some (.int (x.2 i1)), some (.int (x.2 i2)), some (.int (x.2 i3)), none, none, none, none, none] [] (V, T) (fun r G' => E x F (d + 1) 211 643 [some (.double 50), some (.ref 0), o2, some (.int l3)] (r.toList ++ []) G' Q)) : E x F (d + 1) 211 624 [some (.double 50), some (.ref 0), o2, some (.int l3)] [] (V, T) Q := by
  refine e_aload_n zd211_624 rfl rfl ?_
  refine e_aload_n zd211_625 rfl rfl ?_
  refine e_iload_n zd211_626 rfl ?_
  refine e_iconst zd211_627 ?_
  refine e_iadd zd211_628 ?_
  refine e_ialdX zd211_629 (zxt_s hL) e1 h1 (Nat.lt_of_le_of_lt hL (by omega)) ?_
  refine e_aload_n zd211_630 rfl rfl ?_
  refine e_iload_n zd211_631 rfl ?_
  refine e_iconst zd211_632 ?_
  refine e_iadd zd211_633 ?_
  refine e_ialdX zd211_634 (zxt_s hL) e2 h2 (Nat.lt_of_le_of_lt hL (by omega)) ?_
  refine e_aload_n zd211_635 rfl rfl ?_
  refine e_iload_n zd211_636 rfl ?_
  refine e_iconst zd211_637 ?_
  refine e_iadd zd211_638 ?_
  refine e_ialdX zd211_639 (zxt_s hL) e3 h3 (Nat.lt_of_le_of_lt hL (by omega)) ?_
  exact e_callV zd211_640 (own := 15) (nest := false) (w := 683) (by decide +kernel) (by decide +kernel) zs87 (as := [.int (x.2 i1), .int (x.2 i2), .int (x.2 i3)]) (rest := []) rfl rfl (zsh_at hF rfl).1 (by omega) (Nat.le_of_ble_eq_true rfl) rfl rfl rfl (by omega) k
theorem b211_643 {x : zXs} {F : zF} (hF : zSh F) {d : Nat} {V : Nat → Nat → Int32} {T : Nat → Nat → Int64} {Q : Option Value → zG → Prop} {o1 : Option Value} {l3 : Int32} {s0 : Int32}  (hL : x.1 ≤ 3072) {i1 : Nat} (e1 : l3 + (Int32.ofInt 1) = nI i1) (h1 : i1 < x.1) {i2 : Nat} (e2 : l3 + (Int32.ofInt 2) = nI i2) (h2 : i2 < x.1) {i3 : Nat} (e3 : l3 + (Int32.ofInt 3) = nI i3) (h3 : i3 < x.1) (k : E x F d 184 0 [some (.ref 59), some (.int (x.2 i1)), some (.int (x.2 i2)), some (.int (x.2 i3))] [] (V, T) (fun r G' => E x F (d + 1) 211 662 [some (.double 50), o1, some (.ref 59), some (.int l3)] (r.toList ++ [.int s0]) G' Q)) : E x F (d + 1) 211 643 [some (.double 50), o1, some (.ref 59), some (.int l3)] [.int s0] (V, T) Q := by
  refine e_aload_n zd211_643 rfl rfl ?_
  refine e_aload_n zd211_644 rfl rfl ?_
  refine e_iload_n zd211_645 rfl ?_
  refine e_iconst zd211_646 ?_
  refine e_iadd zd211_647 ?_
  refine e_ialdX zd211_648 (zxt_s hL) e1 h1 (Nat.lt_of_le_of_lt hL (by omega)) ?_
  refine e_aload_n zd211_649 rfl rfl ?_
  refine e_iload_n zd211_650 rfl ?_
  refine e_iconst zd211_651 ?_
  refine e_iadd zd211_652 ?_
  refine e_ialdX zd211_653 (zxt_s hL) e2 h2 (Nat.lt_of_le_of_lt hL (by omega)) ?_
  refine e_aload_n zd211_654 rfl rfl ?_
  refine e_iload_n zd211_655 rfl ?_
  refine e_iconst zd211_656 ?_
  refine e_iadd zd211_657 ?_
  refine e_ialdX zd211_658 (zxt_s hL) e3 h3 (Nat.lt_of_le_of_lt hL (by omega)) ?_
  exact e_callV zd211_659 (own := 15) (nest := false) (w := 1227) (by decide +kernel) (by decide +kernel) zs184 (as := [.int (x.2 i1), .int (x.2 i2), .int (x.2 i3)]) (rest := [.int s0]) rfl rfl (zsh_at hF rfl).1 (by omega) (Nat.le_of_ble_eq_true rfl) rfl rfl rfl (by omega) k
theorem b211_662 {x : zXs} {F : zF} (hF : zSh F) {d : Nat} {V : Nat → Nat → Int32} {T : Nat → Nat → Int64} {Q : Option Value → zG → Prop} {o0 : Option Value} {o1 : Option Value} {o2 : Option Value} {o3 : Option Value} {s0 : Int32} {s1 : Int32}   (kt : s0 = s1 → E x F d 211 1247 [o0, o1, o2, o3] [] (V, T) Q) (kf : ¬ (s0 = s1) → E x F d 211 665 [o0, o1, o2, o3] [] (V, T) Q) : E x F d 211 662 [o0, o1, o2, o3] [.int s1, .int s0] (V, T) Q := by
  exact e_icmp_eq zd211_662 (tg := 1247) rfl kt kf
theorem b211_665 {x : zXs} {F : zF} (hF : zSh F) {d : Nat} {V : Nat → Nat → Int32} {T : Nat → Nat → Int64} {Q : Option Value → zG → Prop} {o0 : Option Value} {o1 : Option Value} {o2 : Option Value} {o3 : Option Value}   (k : Q (some (.int (Int32.ofInt 0))) (V, T)) : E x F d 211 665 [o0, o1, o2, o3] [] (V, T) Q := by
  refine e_iconst zd211_665 ?_
  exact e_iretz zd211_666 zs211 (by decide +kernel) k
theorem b211_667 {x : zXs} {F : zF} (hF : zSh F) {d : Nat} {V : Nat → Nat → Int32} {T : Nat → Nat → Int64} {Q : Option Value → zG → Prop} {o2 : Option Value} {l3 : Int32}  (hL : x.1 ≤ 3072) {i1 : Nat} (e1 : l3 + (Int32.ofInt 1) = nI i1) (h1 : i1 < x.1) {i2 : Nat} (e2 : l3 + (Int32.ofInt 2) = nI i2) (h2 : i2 < x.1) (k : E x F d 91 0 [some (.ref 0), some (.int (x.2 i1)), some (.int (x.2 i2))] [] (V, T) (fun r G' => E x F (d + 1) 211 681 [some (.double 50), some (.ref 0), o2, some (.int l3)] (r.toList ++ []) G' Q)) : E x F (d + 1) 211 667 [some (.double 50), some (.ref 0), o2, some (.int l3)] [] (V, T) Q := by
  refine e_aload_n zd211_667 rfl rfl ?_
  refine e_aload_n zd211_668 rfl rfl ?_
  refine e_iload_n zd211_669 rfl ?_
  refine e_iconst zd211_670 ?_
  refine e_iadd zd211_671 ?_
  refine e_ialdX zd211_672 (zxt_s hL) e1 h1 (Nat.lt_of_le_of_lt hL (by omega)) ?_
  refine e_aload_n zd211_673 rfl rfl ?_
  refine e_iload_n zd211_674 rfl ?_
  refine e_iconst zd211_675 ?_
  refine e_iadd zd211_676 ?_
  refine e_ialdX zd211_677 (zxt_s hL) e2 h2 (Nat.lt_of_le_of_lt hL (by omega)) ?_
  exact e_callV zd211_678 (own := 15) (nest := false) (w := 699) (by decide +kernel) (by decide +kernel) zs91 (as := [.int (x.2 i1), .int (x.2 i2)]) (rest := []) rfl rfl (zsh_at hF rfl).1 (by omega) (Nat.le_of_ble_eq_true rfl) rfl rfl rfl (by omega) k
theorem b211_681 {x : zXs} {F : zF} (hF : zSh F) {d : Nat} {V : Nat → Nat → Int32} {T : Nat → Nat → Int64} {Q : Option Value → zG → Prop} {o1 : Option Value} {l3 : Int32} {s0 : Int32}  (hL : x.1 ≤ 3072) {i1 : Nat} (e1 : l3 + (Int32.ofInt 1) = nI i1) (h1 : i1 < x.1) {i2 : Nat} (e2 : l3 + (Int32.ofInt 2) = nI i2) (h2 : i2 < x.1) (k : E x F d 186 0 [some (.ref 59), some (.int (x.2 i1)), some (.int (x.2 i2))] [] (V, T) (fun r G' => E x F (d + 1) 211 695 [some (.double 50), o1, some (.ref 59), some (.int l3)] (r.toList ++ [.int s0]) G' Q)) : E x F (d + 1) 211 681 [some (.double 50), o1, some (.ref 59), some (.int l3)] [.int s0] (V, T) Q := by
  refine e_aload_n zd211_681 rfl rfl ?_
  refine e_aload_n zd211_682 rfl rfl ?_
  refine e_iload_n zd211_683 rfl ?_
  refine e_iconst zd211_684 ?_
  refine e_iadd zd211_685 ?_
  refine e_ialdX zd211_686 (zxt_s hL) e1 h1 (Nat.lt_of_le_of_lt hL (by omega)) ?_
  refine e_aload_n zd211_687 rfl rfl ?_
  refine e_iload_n zd211_688 rfl ?_
  refine e_iconst zd211_689 ?_
  refine e_iadd zd211_690 ?_
  refine e_ialdX zd211_691 (zxt_s hL) e2 h2 (Nat.lt_of_le_of_lt hL (by omega)) ?_
  exact e_callV zd211_692 (own := 15) (nest := false) (w := 1235) (by decide +kernel) (by decide +kernel) zs186 (as := [.int (x.2 i1), .int (x.2 i2)]) (rest := [.int s0]) rfl rfl (zsh_at hF rfl).1 (by omega) (Nat.le_of_ble_eq_true rfl) rfl rfl rfl (by omega) k
theorem b211_695 {x : zXs} {F : zF} (hF : zSh F) {d : Nat} {V : Nat → Nat → Int32} {T : Nat → Nat → Int64} {Q : Option Value → zG → Prop} {o0 : Option Value} {o1 : Option Value} {o2 : Option Value} {o3 : Option Value} {s0 : Int32} {s1 : Int32}   (kt : s0 = s1 → E x F d 211 1247 [o0, o1, o2, o3] [] (V, T) Q) (kf : ¬ (s0 = s1) → E x F d 211 698 [o0, o1, o2, o3] [] (V, T) Q) : E x F d 211 695 [o0, o1, o2, o3] [.int s1, .int s0] (V, T) Q := by
  exact e_icmp_eq zd211_695 (tg := 1247) rfl kt kf
theorem b211_698 {x : zXs} {F : zF} (hF : zSh F) {d : Nat} {V : Nat → Nat → Int32} {T : Nat → Nat → Int64} {Q : Option Value → zG → Prop} {o0 : Option Value} {o1 : Option Value} {o2 : Option Value} {o3 : Option Value}   (k : Q (some (.int (Int32.ofInt 0))) (V, T)) : E x F d 211 698 [o0, o1, o2, o3] [] (V, T) Q := by
  refine e_iconst zd211_698 ?_
  exact e_iretz zd211_699 zs211 (by decide +kernel) k
theorem b211_700 {x : zXs} {F : zF} (hF : zSh F) {d : Nat} {V : Nat → Nat → Int32} {T : Nat → Nat → Int64} {Q : Option Value → zG → Prop} {o2 : Option Value} {l3 : Int32}  (hL : x.1 ≤ 3072) {i1 : Nat} (e1 : l3 + (Int32.ofInt 1) = nI i1) (h1 : i1 < x.1) {i2 : Nat} (e2 : l3 + (Int32.ofInt 2) = nI i2) (h2 : i2 < x.1) (k : E x F d 95 0 [some (.ref 0), some (.int (x.2 i1)), some (.int (x.2 i2)), none, none, none, none] [] (V, T) (fun r G' => E x F (d + 1) 211 714 [some (.double 50), some (.ref 0), o2, some (.int l3)] (r.toList ++ []) G' Q)) : E x F (d + 1) 211 700 [some (.double 50), some (.ref 0), o2, some (.int l3)] [] (V, T) Q := by
  refine e_aload_n zd211_700 rfl rfl ?_
  refine e_aload_n zd211_701 rfl rfl ?_
  refine e_iload_n zd211_702 rfl ?_
  refine e_iconst zd211_703 ?_
  refine e_iadd zd211_704 ?_
  refine e_ialdX zd211_705 (zxt_s hL) e1 h1 (Nat.lt_of_le_of_lt hL (by omega)) ?_
  refine e_aload_n zd211_706 rfl rfl ?_
  refine e_iload_n zd211_707 rfl ?_
  refine e_iconst zd211_708 ?_
  refine e_iadd zd211_709 ?_
  refine e_ialdX zd211_710 (zxt_s hL) e2 h2 (Nat.lt_of_le_of_lt hL (by omega)) ?_
  exact e_callV zd211_711 (own := 15) (nest := false) (w := 715) (by decide +kernel) (by decide +kernel) zs95 (as := [.int (x.2 i1), .int (x.2 i2)]) (rest := []) rfl rfl (zsh_at hF rfl).1 (by omega) (Nat.le_of_ble_eq_true rfl) rfl rfl rfl (by omega) k
theorem b211_714 {x : zXs} {F : zF} (hF : zSh F) {d : Nat} {V : Nat → Nat → Int32} {T : Nat → Nat → Int64} {Q : Option Value → zG → Prop} {o1 : Option Value} {l3 : Int32} {s0 : Int32}  (hL : x.1 ≤ 3072) {i1 : Nat} (e1 : l3 + (Int32.ofInt 1) = nI i1) (h1 : i1 < x.1) {i2 : Nat} (e2 : l3 + (Int32.ofInt 2) = nI i2) (h2 : i2 < x.1) (k : E x F d 189 0 [some (.ref 59), some (.int (x.2 i1)), some (.int (x.2 i2)), none, none, none, none] [] (V, T) (fun r G' => E x F (d + 1) 211 728 [some (.double 50), o1, some (.ref 59), some (.int l3)] (r.toList ++ [.int s0]) G' Q)) : E x F (d + 1) 211 714 [some (.double 50), o1, some (.ref 59), some (.int l3)] [.int s0] (V, T) Q := by
  refine e_aload_n zd211_714 rfl rfl ?_
  refine e_aload_n zd211_715 rfl rfl ?_
  refine e_iload_n zd211_716 rfl ?_
  refine e_iconst zd211_717 ?_
  refine e_iadd zd211_718 ?_
  refine e_ialdX zd211_719 (zxt_s hL) e1 h1 (Nat.lt_of_le_of_lt hL (by omega)) ?_
  refine e_aload_n zd211_720 rfl rfl ?_
  refine e_iload_n zd211_721 rfl ?_
  refine e_iconst zd211_722 ?_
  refine e_iadd zd211_723 ?_
  refine e_ialdX zd211_724 (zxt_s hL) e2 h2 (Nat.lt_of_le_of_lt hL (by omega)) ?_
  exact e_callV zd211_725 (own := 15) (nest := false) (w := 1248) (by decide +kernel) (by decide +kernel) zs189 (as := [.int (x.2 i1), .int (x.2 i2)]) (rest := [.int s0]) rfl rfl (zsh_at hF rfl).1 (by omega) (Nat.le_of_ble_eq_true rfl) rfl rfl rfl (by omega) k
theorem b211_728 {x : zXs} {F : zF} (hF : zSh F) {d : Nat} {V : Nat → Nat → Int32} {T : Nat → Nat → Int64} {Q : Option Value → zG → Prop} {o0 : Option Value} {o1 : Option Value} {o2 : Option Value} {o3 : Option Value} {s0 : Int32} {s1 : Int32}   (kt : s0 = s1 → E x F d 211 1247 [o0, o1, o2, o3] [] (V, T) Q) (kf : ¬ (s0 = s1) → E x F d 211 731 [o0, o1, o2, o3] [] (V, T) Q) : E x F d 211 728 [o0, o1, o2, o3] [.int s1, .int s0] (V, T) Q := by
  exact e_icmp_eq zd211_728 (tg := 1247) rfl kt kf
theorem b211_731 {x : zXs} {F : zF} (hF : zSh F) {d : Nat} {V : Nat → Nat → Int32} {T : Nat → Nat → Int64} {Q : Option Value → zG → Prop} {o0 : Option Value} {o1 : Option Value} {o2 : Option Value} {o3 : Option Value}   (k : Q (some (.int (Int32.ofInt 0))) (V, T)) : E x F d 211 731 [o0, o1, o2, o3] [] (V, T) Q := by
  refine e_iconst zd211_731 ?_
  exact e_iretz zd211_732 zs211 (by decide +kernel) k
theorem b211_733 {x : zXs} {F : zF} (hF : zSh F) {d : Nat} {V : Nat → Nat → Int32} {T : Nat → Nat → Int64} {Q : Option Value → zG → Prop} {o0 : Option Value} {o2 : Option Value} {o3 : Option Value}   (k : E x F d 96 0 [some (.ref 0), none, none, none, none, none, none] [] (V, T) (fun r G' => E x F (d + 1) 211 737 [o0, some (.ref 0), o2, o3] (r.toList ++ []) G' Q)) : E x F (d + 1) 211 733 [o0, some (.ref 0), o2, o3] [] (V, T) Q := by
  refine e_aload_n zd211_733 rfl rfl ?_
  exact e_callV zd211_734 (own := 15) (nest := false) (w := 719) (by decide +kernel) (by decide +kernel) zs96 (as := []) (rest := []) rfl rfl (zsh_at hF rfl).1 (by omega) (Nat.le_of_ble_eq_true rfl) rfl rfl rfl (by omega) k
theorem b211_737 {x : zXs} {F : zF} (hF : zSh F) {d : Nat} {V : Nat → Nat → Int32} {T : Nat → Nat → Int64} {Q : Option Value → zG → Prop} {o0 : Option Value} {o1 : Option Value} {o3 : Option Value} {s0 : Int32}   (k : E x F d 190 0 [some (.ref 59), none, none, none, none, none] [] (V, T) (fun r G' => E x F (d + 1) 211 741 [o0, o1, some (.ref 59), o3] (r.toList ++ [.int s0]) G' Q)) : E x F (d + 1) 211 737 [o0, o1, some (.ref 59), o3] [.int s0] (V, T) Q := by
  refine e_aload_n zd211_737 rfl rfl ?_
  exact e_callV zd211_738 (own := 15) (nest := false) (w := 1252) (by decide +kernel) (by decide +kernel) zs190 (as := []) (rest := [.int s0]) rfl rfl (zsh_at hF rfl).1 (by omega) (Nat.le_of_ble_eq_true rfl) rfl rfl rfl (by omega) k
theorem b211_741 {x : zXs} {F : zF} (hF : zSh F) {d : Nat} {V : Nat → Nat → Int32} {T : Nat → Nat → Int64} {Q : Option Value → zG → Prop} {o0 : Option Value} {o1 : Option Value} {o2 : Option Value} {o3 : Option Value} {s0 : Int32} {s1 : Int32}   (kt : s0 = s1 → E x F d 211 1247 [o0, o1, o2, o3] [] (V, T) Q) (kf : ¬ (s0 = s1) → E x F d 211 744 [o0, o1, o2, o3] [] (V, T) Q) : E x F d 211 741 [o0, o1, o2, o3] [.int s1, .int s0] (V, T) Q := by
  exact e_icmp_eq zd211_741 (tg := 1247) rfl kt kf
theorem b211_744 {x : zXs} {F : zF} (hF : zSh F) {d : Nat} {V : Nat → Nat → Int32} {T : Nat → Nat → Int64} {Q : Option Value → zG → Prop} {o0 : Option Value} {o1 : Option Value} {o2 : Option Value} {o3 : Option Value}   (k : Q (some (.int (Int32.ofInt 0))) (V, T)) : E x F d 211 744 [o0, o1, o2, o3] [] (V, T) Q := by
  refine e_iconst zd211_744 ?_
  exact e_iretz zd211_745 zs211 (by decide +kernel) k
theorem b211_746 {x : zXs} {F : zF} (hF : zSh F) {d : Nat} {V : Nat → Nat → Int32} {T : Nat → Nat → Int64} {Q : Option Value → zG → Prop} {o2 : Option Value} {l3 : Int32}  (hL : x.1 ≤ 3072) {i1 : Nat} (e1 : l3 + (Int32.ofInt 1) = nI i1) (h1 : i1 < x.1) (k : E x F d 97 0 [some (.ref 0), some (.int (x.2 i1)), none, none] [] (V, T) (fun r G' => E x F (d + 1) 211 755 [some (.double 50), some (.ref 0), o2, some (.int l3)] (r.toList ++ []) G' Q)) : E x F (d + 1) 211 746 [some (.double 50), some (.ref 0), o2, some (.int l3)] [] (V, T) Q := by
  refine e_aload_n zd211_746 rfl rfl ?_
  refine e_aload_n zd211_747 rfl rfl ?_
  refine e_iload_n zd211_748 rfl ?_
  refine e_iconst zd211_749 ?_
  refine e_iadd zd211_750 ?_
  refine e_ialdX zd211_751 (zxt_s hL) e1 h1 (Nat.lt_of_le_of_lt hL (by omega)) ?_
  exact e_callV zd211_752 (own := 15) (nest := false) (w := 723) (by decide +kernel) (by decide +kernel) zs97 (as := [.int (x.2 i1)]) (rest := []) rfl rfl (zsh_at hF rfl).1 (by omega) (Nat.le_of_ble_eq_true rfl) rfl rfl rfl (by omega) k
theorem b211_755 {x : zXs} {F : zF} (hF : zSh F) {d : Nat} {V : Nat → Nat → Int32} {T : Nat → Nat → Int64} {Q : Option Value → zG → Prop} {o1 : Option Value} {l3 : Int32} {s0 : Int64}  (hL : x.1 ≤ 3072) {i1 : Nat} (e1 : l3 + (Int32.ofInt 1) = nI i1) (h1 : i1 < x.1) (k : E x F d 191 0 [some (.ref 59), some (.int (x.2 i1)), none] [] (V, T) (fun r G' => E x F (d + 1) 211 764 [some (.double 50), o1, some (.ref 59), some (.int l3)] (r.toList ++ [.long s0]) G' Q)) : E x F (d + 1) 211 755 [some (.double 50), o1, some (.ref 59), some (.int l3)] [.long s0] (V, T) Q := by
  refine e_aload_n zd211_755 rfl rfl ?_
  refine e_aload_n zd211_756 rfl rfl ?_
  refine e_iload_n zd211_757 rfl ?_
  refine e_iconst zd211_758 ?_
  refine e_iadd zd211_759 ?_
  refine e_ialdX zd211_760 (zxt_s hL) e1 h1 (Nat.lt_of_le_of_lt hL (by omega)) ?_
  exact e_callV zd211_761 (own := 15) (nest := false) (w := 1256) (by decide +kernel) (by decide +kernel) zs191 (as := [.int (x.2 i1)]) (rest := [.long s0]) rfl rfl (zsh_at hF rfl).1 (by omega) (Nat.le_of_ble_eq_true rfl) rfl rfl rfl (by omega) k
theorem b211_764 {x : zXs} {F : zF} (hF : zSh F) {d : Nat} {V : Nat → Nat → Int32} {T : Nat → Nat → Int64} {Q : Option Value → zG → Prop} {o0 : Option Value} {o1 : Option Value} {o2 : Option Value} {o3 : Option Value} {s0 : Int64} {s1 : Int64}   (kt : (lg_cmp s0 s1) = 0 → E x F d 211 1247 [o0, o1, o2, o3] [] (V, T) Q) (kf : ¬ ((lg_cmp s0 s1) = 0) → E x F d 211 768 [o0, o1, o2, o3] [] (V, T) Q) : E x F d 211 764 [o0, o1, o2, o3] [.long s1, .long s0] (V, T) Q := by
  refine e_lcmp zd211_764 ?_
  exact e_if_eq zd211_765 (tg := 1247) rfl kt kf
theorem b211_768 {x : zXs} {F : zF} (hF : zSh F) {d : Nat} {V : Nat → Nat → Int32} {T : Nat → Nat → Int64} {Q : Option Value → zG → Prop} {o0 : Option Value} {o1 : Option Value} {o2 : Option Value} {o3 : Option Value}   (k : Q (some (.int (Int32.ofInt 0))) (V, T)) : E x F d 211 768 [o0, o1, o2, o3] [] (V, T) Q := by
  refine e_iconst zd211_768 ?_
  exact e_iretz zd211_769 zs211 (by decide +kernel) k
theorem b211_770 {x : zXs} {F : zF} (hF : zSh F) {d : Nat} {V : Nat → Nat → Int32} {T : Nat → Nat → Int64} {Q : Option Value → zG → Prop} {o2 : Option Value} {l3 : Int32}  (hL : x.1 ≤ 3072) {i1 : Nat} (e1 : l3 + (Int32.ofInt 1) = nI i1) (h1 : i1 < x.1) {i2 : Nat} (e2 : l3 + (Int32.ofInt 2) = nI i2) (h2 : i2 < x.1) {i3 : Nat} (e3 : l3 + (Int32.ofInt 3) = nI i3) (h3 : i3 < x.1) {i4 : Nat} (e4 : l3 + (Int32.ofInt 4) = nI i4) (h4 : i4 < x.1) (k : E x F d 100 0 [some (.ref 0), some (.int (x.2 i1)), some (.int (x.2 i2)), some (.int (x.2 i3)), some (.int (x.2 i4)), none] [] (V, T) (fun r G' => E x F (d + 1) 211 794 [some (.double 50), some (.ref 0), o2, some (.int l3)] (r.toList ++ []) G' Q)) : E x F (d + 1) 211 770 [some (.double 50), some (.ref 0), o2, some (.int l3)] [] (V, T) Q := by
  refine e_aload_n zd211_770 rfl rfl ?_
  refine e_aload_n zd211_771 rfl rfl ?_
  refine e_iload_n zd211_772 rfl ?_
  refine e_iconst zd211_773 ?_
  refine e_iadd zd211_774 ?_
  refine e_ialdX zd211_775 (zxt_s hL) e1 h1 (Nat.lt_of_le_of_lt hL (by omega)) ?_
  refine e_aload_n zd211_776 rfl rfl ?_
  refine e_iload_n zd211_777 rfl ?_
  refine e_iconst zd211_778 ?_
  refine e_iadd zd211_779 ?_
  refine e_ialdX zd211_780 (zxt_s hL) e2 h2 (Nat.lt_of_le_of_lt hL (by omega)) ?_
  refine e_aload_n zd211_781 rfl rfl ?_
  refine e_iload_n zd211_782 rfl ?_
  refine e_iconst zd211_783 ?_
  refine e_iadd zd211_784 ?_
  refine e_ialdX zd211_785 (zxt_s hL) e3 h3 (Nat.lt_of_le_of_lt hL (by omega)) ?_
  refine e_aload_n zd211_786 rfl rfl ?_
  refine e_iload_n zd211_787 rfl ?_
  refine e_iconst zd211_788 ?_
  refine e_iadd zd211_789 ?_
  refine e_ialdX zd211_790 (zxt_s hL) e4 h4 (Nat.lt_of_le_of_lt hL (by omega)) ?_
  exact e_callV zd211_791 (own := 15) (nest := false) (w := 734) (by decide +kernel) (by decide +kernel) zs100 (as := [.int (x.2 i1), .int (x.2 i2), .int (x.2 i3), .int (x.2 i4)]) (rest := []) rfl rfl (zsh_at hF rfl).1 (by omega) (Nat.le_of_ble_eq_true rfl) rfl rfl rfl (by omega) k
theorem b211_794 {x : zXs} {F : zF} (hF : zSh F) {d : Nat} {V : Nat → Nat → Int32} {T : Nat → Nat → Int64} {Q : Option Value → zG → Prop} {o1 : Option Value} {l3 : Int32} {s0 : Int32}  (hL : x.1 ≤ 3072) {i1 : Nat} (e1 : l3 + (Int32.ofInt 1) = nI i1) (h1 : i1 < x.1) {i2 : Nat} (e2 : l3 + (Int32.ofInt 2) = nI i2) (h2 : i2 < x.1) {i3 : Nat} (e3 : l3 + (Int32.ofInt 3) = nI i3) (h3 : i3 < x.1) {i4 : Nat} (e4 : l3 + (Int32.ofInt 4) = nI i4) (h4 : i4 < x.1) (k : E x F d 193 0 [some (.ref 59), some (.int (x.2 i1)), some (.int (x.2 i2)), some (.int (x.2 i3)), some (.int (x.2 i4)), none, none, none, none, none, none, none] [] (V, T) (fun r G' => E x F (d + 1) 211 818 [some (.double 50), o1, some (.ref 59), some (.int l3)] (r.toList ++ [.int s0]) G' Q)) : E x F (d + 1) 211 794 [some (.double 50), o1, some (.ref 59), some (.int l3)] [.int s0] (V, T) Q := by
  refine e_aload_n zd211_794 rfl rfl ?_
  refine e_aload_n zd211_795 rfl rfl ?_
  refine e_iload_n zd211_796 rfl ?_
  refine e_iconst zd211_797 ?_
  refine e_iadd zd211_798 ?_
  refine e_ialdX zd211_799 (zxt_s hL) e1 h1 (Nat.lt_of_le_of_lt hL (by omega)) ?_
  refine e_aload_n zd211_800 rfl rfl ?_
  refine e_iload_n zd211_801 rfl ?_
  refine e_iconst zd211_802 ?_
  refine e_iadd zd211_803 ?_
  refine e_ialdX zd211_804 (zxt_s hL) e2 h2 (Nat.lt_of_le_of_lt hL (by omega)) ?_
  refine e_aload_n zd211_805 rfl rfl ?_
  refine e_iload_n zd211_806 rfl ?_
  refine e_iconst zd211_807 ?_
  refine e_iadd zd211_808 ?_
  refine e_ialdX zd211_809 (zxt_s hL) e3 h3 (Nat.lt_of_le_of_lt hL (by omega)) ?_
  refine e_aload_n zd211_810 rfl rfl ?_
  refine e_iload_n zd211_811 rfl ?_
  refine e_iconst zd211_812 ?_
  refine e_iadd zd211_813 ?_
  refine e_ialdX zd211_814 (zxt_s hL) e4 h4 (Nat.lt_of_le_of_lt hL (by omega)) ?_
  exact e_callV zd211_815 (own := 15) (nest := false) (w := 1264) (by decide +kernel) (by decide +kernel) zs193 (as := [.int (x.2 i1), .int (x.2 i2), .int (x.2 i3), .int (x.2 i4)]) (rest := [.int s0]) rfl rfl (zsh_at hF rfl).1 (by omega) (Nat.le_of_ble_eq_true rfl) rfl rfl rfl (by omega) k
theorem b211_818 {x : zXs} {F : zF} (hF : zSh F) {d : Nat} {V : Nat → Nat → Int32} {T : Nat → Nat → Int64} {Q : Option Value → zG → Prop} {o0 : Option Value} {o1 : Option Value} {o2 : Option Value} {o3 : Option Value} {s0 : Int32} {s1 : Int32}   (kt : s0 = s1 → E x F d 211 1247 [o0, o1, o2, o3] [] (V, T) Q) (kf : ¬ (s0 = s1) → E x F d 211 821 [o0, o1, o2, o3] [] (V, T) Q) : E x F d 211 818 [o0, o1, o2, o3] [.int s1, .int s0] (V, T) Q := by
  exact e_icmp_eq zd211_818 (tg := 1247) rfl kt kf
theorem b211_821 {x : zXs} {F : zF} (hF : zSh F) {d : Nat} {V : Nat → Nat → Int32} {T : Nat → Nat → Int64} {Q : Option Value → zG → Prop} {o0 : Option Value} {o1 : Option Value} {o2 : Option Value} {o3 : Option Value}   (k : Q (some (.int (Int32.ofInt 0))) (V, T)) : E x F d 211 821 [o0, o1, o2, o3] [] (V, T) Q := by
  refine e_iconst zd211_821 ?_
  exact e_iretz zd211_822 zs211 (by decide +kernel) k
theorem b211_823 {x : zXs} {F : zF} (hF : zSh F) {d : Nat} {V : Nat → Nat → Int32} {T : Nat → Nat → Int64} {Q : Option Value → zG → Prop} {o2 : Option Value} {l3 : Int32}  (hL : x.1 ≤ 3072) {i1 : Nat} (e1 : l3 + (Int32.ofInt 1) = nI i1) (h1 : i1 < x.1) {i2 : Nat} (e2 : l3 + (Int32.ofInt 2) = nI i2) (h2 : i2 < x.1) {i3 : Nat} (e3 : l3 + (Int32.ofInt 3) = nI i3) (h3 : i3 < x.1) (k : E x F d 111 0 [some (.ref 0), some (.int (x.2 i1)), some (.int (x.2 i2)), some (.int (x.2 i3)), none, none] [] (V, T) (fun r G' => E x F (d + 1) 211 842 [some (.double 50), some (.ref 0), o2, some (.int l3)] (r.toList ++ []) G' Q)) : E x F (d + 1) 211 823 [some (.double 50), some (.ref 0), o2, some (.int l3)] [] (V, T) Q := by
  refine e_aload_n zd211_823 rfl rfl ?_
  refine e_aload_n zd211_824 rfl rfl ?_
  refine e_iload_n zd211_825 rfl ?_
  refine e_iconst zd211_826 ?_
  refine e_iadd zd211_827 ?_
  refine e_ialdX zd211_828 (zxt_s hL) e1 h1 (Nat.lt_of_le_of_lt hL (by omega)) ?_
  refine e_aload_n zd211_829 rfl rfl ?_
  refine e_iload_n zd211_830 rfl ?_
  refine e_iconst zd211_831 ?_
  refine e_iadd zd211_832 ?_
  refine e_ialdX zd211_833 (zxt_s hL) e2 h2 (Nat.lt_of_le_of_lt hL (by omega)) ?_
  refine e_aload_n zd211_834 rfl rfl ?_
  refine e_iload_n zd211_835 rfl ?_
  refine e_iconst zd211_836 ?_
  refine e_iadd zd211_837 ?_
  refine e_ialdX zd211_838 (zxt_s hL) e3 h3 (Nat.lt_of_le_of_lt hL (by omega)) ?_
  exact e_callV zd211_839 (own := 15) (nest := false) (w := 777) (by decide +kernel) (by decide +kernel) zs111 (as := [.int (x.2 i1), .int (x.2 i2), .int (x.2 i3)]) (rest := []) rfl rfl (zsh_at hF rfl).1 (by omega) (Nat.le_of_ble_eq_true rfl) rfl rfl rfl (by omega) k
theorem b211_842 {x : zXs} {F : zF} (hF : zSh F) {d : Nat} {V : Nat → Nat → Int32} {T : Nat → Nat → Int64} {Q : Option Value → zG → Prop} {o1 : Option Value} {l3 : Int32} {s0 : Int32}  (hL : x.1 ≤ 3072) {i1 : Nat} (e1 : l3 + (Int32.ofInt 1) = nI i1) (h1 : i1 < x.1) {i2 : Nat} (e2 : l3 + (Int32.ofInt 2) = nI i2) (h2 : i2 < x.1) {i3 : Nat} (e3 : l3 + (Int32.ofInt 3) = nI i3) (h3 : i3 < x.1) (k : E x F d 198 0 [some (.ref 59), some (.int (x.2 i1)), some (.int (x.2 i2)), some (.int (x.2 i3)), none, none] [] (V, T) (fun r G' => E x F (d + 1) 211 861 [some (.double 50), o1, some (.ref 59), some (.int l3)] (r.toList ++ [.int s0]) G' Q)) : E x F (d + 1) 211 842 [some (.double 50), o1, some (.ref 59), some (.int l3)] [.int s0] (V, T) Q := by
  refine e_aload_n zd211_842 rfl rfl ?_
  refine e_aload_n zd211_843 rfl rfl ?_
  refine e_iload_n zd211_844 rfl ?_
  refine e_iconst zd211_845 ?_
  refine e_iadd zd211_846 ?_
  refine e_ialdX zd211_847 (zxt_s hL) e1 h1 (Nat.lt_of_le_of_lt hL (by omega)) ?_
  refine e_aload_n zd211_848 rfl rfl ?_
  refine e_iload_n zd211_849 rfl ?_
  refine e_iconst zd211_850 ?_
  refine e_iadd zd211_851 ?_
  refine e_ialdX zd211_852 (zxt_s hL) e2 h2 (Nat.lt_of_le_of_lt hL (by omega)) ?_
  refine e_aload_n zd211_853 rfl rfl ?_
  refine e_iload_n zd211_854 rfl ?_
  refine e_iconst zd211_855 ?_
  refine e_iadd zd211_856 ?_
  refine e_ialdX zd211_857 (zxt_s hL) e3 h3 (Nat.lt_of_le_of_lt hL (by omega)) ?_
  exact e_callV zd211_858 (own := 15) (nest := false) (w := 1284) (by decide +kernel) (by decide +kernel) zs198 (as := [.int (x.2 i1), .int (x.2 i2), .int (x.2 i3)]) (rest := [.int s0]) rfl rfl (zsh_at hF rfl).1 (by omega) (Nat.le_of_ble_eq_true rfl) rfl rfl rfl (by omega) k
theorem b211_861 {x : zXs} {F : zF} (hF : zSh F) {d : Nat} {V : Nat → Nat → Int32} {T : Nat → Nat → Int64} {Q : Option Value → zG → Prop} {o0 : Option Value} {o1 : Option Value} {o2 : Option Value} {o3 : Option Value} {s0 : Int32} {s1 : Int32}   (kt : s0 = s1 → E x F d 211 1247 [o0, o1, o2, o3] [] (V, T) Q) (kf : ¬ (s0 = s1) → E x F d 211 864 [o0, o1, o2, o3] [] (V, T) Q) : E x F d 211 861 [o0, o1, o2, o3] [.int s1, .int s0] (V, T) Q := by
  exact e_icmp_eq zd211_861 (tg := 1247) rfl kt kf
theorem b211_864 {x : zXs} {F : zF} (hF : zSh F) {d : Nat} {V : Nat → Nat → Int32} {T : Nat → Nat → Int64} {Q : Option Value → zG → Prop} {o0 : Option Value} {o1 : Option Value} {o2 : Option Value} {o3 : Option Value}   (k : Q (some (.int (Int32.ofInt 0))) (V, T)) : E x F d 211 864 [o0, o1, o2, o3] [] (V, T) Q := by
  refine e_iconst zd211_864 ?_
  exact e_iretz zd211_865 zs211 (by decide +kernel) k
theorem b211_866 {x : zXs} {F : zF} (hF : zSh F) {d : Nat} {V : Nat → Nat → Int32} {T : Nat → Nat → Int64} {Q : Option Value → zG → Prop} {o2 : Option Value} {l3 : Int32}  (hL : x.1 ≤ 3072) {i1 : Nat} (e1 : l3 + (Int32.ofInt 1) = nI i1) (h1 : i1 < x.1) {i2 : Nat} (e2 : l3 + (Int32.ofInt 2) = nI i2) (h2 : i2 < x.1) (k : E x F d 116 0 [some (.ref 0), some (.int (x.2 i1)), some (.int (x.2 i2))] [] (V, T) (fun r G' => E x F (d + 1) 211 880 [some (.double 50), some (.ref 0), o2, some (.int l3)] (r.toList ++ []) G' Q)) : E x F (d + 1) 211 866 [some (.double 50), some (.ref 0), o2, some (.int l3)] [] (V, T) Q := by
  refine e_aload_n zd211_866 rfl rfl ?_
  refine e_aload_n zd211_867 rfl rfl ?_
  refine e_iload_n zd211_868 rfl ?_
  refine e_iconst zd211_869 ?_
  refine e_iadd zd211_870 ?_
  refine e_ialdX zd211_871 (zxt_s hL) e1 h1 (Nat.lt_of_le_of_lt hL (by omega)) ?_
  refine e_aload_n zd211_872 rfl rfl ?_
  refine e_iload_n zd211_873 rfl ?_
  refine e_iconst zd211_874 ?_
  refine e_iadd zd211_875 ?_
  refine e_ialdX zd211_876 (zxt_s hL) e2 h2 (Nat.lt_of_le_of_lt hL (by omega)) ?_
  exact e_callV zd211_877 (own := 15) (nest := false) (w := 797) (by decide +kernel) (by decide +kernel) zs116 (as := [.int (x.2 i1), .int (x.2 i2)]) (rest := []) rfl rfl (zsh_at hF rfl).1 (by omega) (Nat.le_of_ble_eq_true rfl) rfl rfl rfl (by omega) k
theorem b211_880 {x : zXs} {F : zF} (hF : zSh F) {d : Nat} {V : Nat → Nat → Int32} {T : Nat → Nat → Int64} {Q : Option Value → zG → Prop} {o1 : Option Value} {l3 : Int32} {s0 : Int32}  (hL : x.1 ≤ 3072) {i1 : Nat} (e1 : l3 + (Int32.ofInt 1) = nI i1) (h1 : i1 < x.1) {i2 : Nat} (e2 : l3 + (Int32.ofInt 2) = nI i2) (h2 : i2 < x.1) (k : E x F d 200 0 [some (.ref 59), some (.int (x.2 i1)), some (.int (x.2 i2))] [] (V, T) (fun r G' => E x F (d + 1) 211 894 [some (.double 50), o1, some (.ref 59), some (.int l3)] (r.toList ++ [.int s0]) G' Q)) : E x F (d + 1) 211 880 [some (.double 50), o1, some (.ref 59), some (.int l3)] [.int s0] (V, T) Q := by
  refine e_aload_n zd211_880 rfl rfl ?_
  refine e_aload_n zd211_881 rfl rfl ?_
  refine e_iload_n zd211_882 rfl ?_
  refine e_iconst zd211_883 ?_
  refine e_iadd zd211_884 ?_
  refine e_ialdX zd211_885 (zxt_s hL) e1 h1 (Nat.lt_of_le_of_lt hL (by omega)) ?_
  refine e_aload_n zd211_886 rfl rfl ?_
  refine e_iload_n zd211_887 rfl ?_
  refine e_iconst zd211_888 ?_
  refine e_iadd zd211_889 ?_
  refine e_ialdX zd211_890 (zxt_s hL) e2 h2 (Nat.lt_of_le_of_lt hL (by omega)) ?_
  exact e_callV zd211_891 (own := 15) (nest := false) (w := 1293) (by decide +kernel) (by decide +kernel) zs200 (as := [.int (x.2 i1), .int (x.2 i2)]) (rest := [.int s0]) rfl rfl (zsh_at hF rfl).1 (by omega) (Nat.le_of_ble_eq_true rfl) rfl rfl rfl (by omega) k
theorem b211_894 {x : zXs} {F : zF} (hF : zSh F) {d : Nat} {V : Nat → Nat → Int32} {T : Nat → Nat → Int64} {Q : Option Value → zG → Prop} {o0 : Option Value} {o1 : Option Value} {o2 : Option Value} {o3 : Option Value} {s0 : Int32} {s1 : Int32}   (kt : s0 = s1 → E x F d 211 1247 [o0, o1, o2, o3] [] (V, T) Q) (kf : ¬ (s0 = s1) → E x F d 211 897 [o0, o1, o2, o3] [] (V, T) Q) : E x F d 211 894 [o0, o1, o2, o3] [.int s1, .int s0] (V, T) Q := by
  exact e_icmp_eq zd211_894 (tg := 1247) rfl kt kf
theorem b211_897 {x : zXs} {F : zF} (hF : zSh F) {d : Nat} {V : Nat → Nat → Int32} {T : Nat → Nat → Int64} {Q : Option Value → zG → Prop} {o0 : Option Value} {o1 : Option Value} {o2 : Option Value} {o3 : Option Value}   (k : Q (some (.int (Int32.ofInt 0))) (V, T)) : E x F d 211 897 [o0, o1, o2, o3] [] (V, T) Q := by
  refine e_iconst zd211_897 ?_
  exact e_iretz zd211_898 zs211 (by decide +kernel) k
theorem b211_899 {x : zXs} {F : zF} (hF : zSh F) {d : Nat} {V : Nat → Nat → Int32} {T : Nat → Nat → Int64} {Q : Option Value → zG → Prop} {o2 : Option Value} {l3 : Int32}  (hL : x.1 ≤ 3072) {i1 : Nat} (e1 : l3 + (Int32.ofInt 1) = nI i1) (h1 : i1 < x.1) {i2 : Nat} (e2 : l3 + (Int32.ofInt 2) = nI i2) (h2 : i2 < x.1) {i3 : Nat} (e3 : l3 + (Int32.ofInt 3) = nI i3) (h3 : i3 < x.1) {i4 : Nat} (e4 : l3 + (Int32.ofInt 4) = nI i4) (h4 : i4 < x.1) {i5 : Nat} (e5 : l3 + (Int32.ofInt 5) = nI i5) (h5 : i5 < x.1) (k : E x F d 118 0 [some (.ref 0), some (.int (x.2 i1)), some (.int (x.2 i2)), some (.int (x.2 i3)), some (.int (x.2 i4)), some (.int (x.2 i5)), none, none] [] (V, T) (fun r G' => E x F (d + 1) 211 928 [some (.double 50), some (.ref 0), o2, some (.int l3)] (r.toList ++ []) G' Q)) : E x F (d + 1) 211 899 [some (.double 50), some (.ref 0), o2, some (.int l3)] [] (V, T) Q := by
  refine e_aload_n zd211_899 rfl rfl ?_
  refine e_aload_n zd211_900 rfl rfl ?_
  refine e_iload_n zd211_901 rfl ?_
  refine e_iconst zd211_902 ?_
  refine e_iadd zd211_903 ?_
  refine e_ialdX zd211_904 (zxt_s hL) e1 h1 (Nat.lt_of_le_of_lt hL (by omega)) ?_
  refine e_aload_n zd211_905 rfl rfl ?_
  refine e_iload_n zd211_906 rfl ?_
  refine e_iconst zd211_907 ?_
  refine e_iadd zd211_908 ?_
  refine e_ialdX zd211_909 (zxt_s hL) e2 h2 (Nat.lt_of_le_of_lt hL (by omega)) ?_
  refine e_aload_n zd211_910 rfl rfl ?_
  refine e_iload_n zd211_911 rfl ?_
  refine e_iconst zd211_912 ?_
  refine e_iadd zd211_913 ?_
  refine e_ialdX zd211_914 (zxt_s hL) e3 h3 (Nat.lt_of_le_of_lt hL (by omega)) ?_
  refine e_aload_n zd211_915 rfl rfl ?_
  refine e_iload_n zd211_916 rfl ?_
  refine e_iconst zd211_917 ?_
  refine e_iadd zd211_918 ?_
  refine e_ialdX zd211_919 (zxt_s hL) e4 h4 (Nat.lt_of_le_of_lt hL (by omega)) ?_
  refine e_aload_n zd211_920 rfl rfl ?_
  refine e_iload_n zd211_921 rfl ?_
  refine e_iconst zd211_922 ?_
  refine e_iadd zd211_923 ?_
  refine e_ialdX zd211_924 (zxt_s hL) e5 h5 (Nat.lt_of_le_of_lt hL (by omega)) ?_
  exact e_callV zd211_925 (own := 15) (nest := false) (w := 806) (by decide +kernel) (by decide +kernel) zs118 (as := [.int (x.2 i1), .int (x.2 i2), .int (x.2 i3), .int (x.2 i4), .int (x.2 i5)]) (rest := []) rfl rfl (zsh_at hF rfl).1 (by omega) (Nat.le_of_ble_eq_true rfl) rfl rfl rfl (by omega) k
theorem b211_928 {x : zXs} {F : zF} (hF : zSh F) {d : Nat} {V : Nat → Nat → Int32} {T : Nat → Nat → Int64} {Q : Option Value → zG → Prop} {o1 : Option Value} {l3 : Int32} {s0 : Int64}  (hL : x.1 ≤ 3072) {i1 : Nat} (e1 : l3 + (Int32.ofInt 1) = nI i1) (h1 : i1 < x.1) {i2 : Nat} (e2 : l3 + (Int32.ofInt 2) = nI i2) (h2 : i2 < x.1) {i3 : Nat} (e3 : l3 + (Int32.ofInt 3) = nI i3) (h3 : i3 < x.1) {i4 : Nat} (e4 : l3 + (Int32.ofInt 4) = nI i4) (h4 : i4 < x.1) {i5 : Nat} (e5 : l3 + (Int32.ofInt 5) = nI i5) (h5 : i5 < x.1) (k : E x F d 202 0 [some (.ref 59), some (.int (x.2 i1)), some (.int (x.2 i2)), some (.int (x.2 i3)), some (.int (x.2 i4)), some (.int (x.2 i5)), none, none, none] [] (V, T) (fun r G' => E x F (d + 1) 211 957 [some (.double 50), o1, some (.ref 59), some (.int l3)] (r.toList ++ [.long s0]) G' Q)) : E x F (d + 1) 211 928 [some (.double 50), o1, some (.ref 59), some (.int l3)] [.long s0] (V, T) Q := by
  refine e_aload_n zd211_928 rfl rfl ?_
  refine e_aload_n zd211_929 rfl rfl ?_
  refine e_iload_n zd211_930 rfl ?_
  refine e_iconst zd211_931 ?_
  refine e_iadd zd211_932 ?_
  refine e_ialdX zd211_933 (zxt_s hL) e1 h1 (Nat.lt_of_le_of_lt hL (by omega)) ?_
  refine e_aload_n zd211_934 rfl rfl ?_
  refine e_iload_n zd211_935 rfl ?_
  refine e_iconst zd211_936 ?_
  refine e_iadd zd211_937 ?_
  refine e_ialdX zd211_938 (zxt_s hL) e2 h2 (Nat.lt_of_le_of_lt hL (by omega)) ?_
  refine e_aload_n zd211_939 rfl rfl ?_
  refine e_iload_n zd211_940 rfl ?_
  refine e_iconst zd211_941 ?_
  refine e_iadd zd211_942 ?_
  refine e_ialdX zd211_943 (zxt_s hL) e3 h3 (Nat.lt_of_le_of_lt hL (by omega)) ?_
  refine e_aload_n zd211_944 rfl rfl ?_
  refine e_iload_n zd211_945 rfl ?_
  refine e_iconst zd211_946 ?_
  refine e_iadd zd211_947 ?_
  refine e_ialdX zd211_948 (zxt_s hL) e4 h4 (Nat.lt_of_le_of_lt hL (by omega)) ?_
  refine e_aload_n zd211_949 rfl rfl ?_
  refine e_iload_n zd211_950 rfl ?_
  refine e_iconst zd211_951 ?_
  refine e_iadd zd211_952 ?_
  refine e_ialdX zd211_953 (zxt_s hL) e5 h5 (Nat.lt_of_le_of_lt hL (by omega)) ?_
  exact e_callV zd211_954 (own := 15) (nest := false) (w := 1302) (by decide +kernel) (by decide +kernel) zs202 (as := [.int (x.2 i1), .int (x.2 i2), .int (x.2 i3), .int (x.2 i4), .int (x.2 i5)]) (rest := [.long s0]) rfl rfl (zsh_at hF rfl).1 (by omega) (Nat.le_of_ble_eq_true rfl) rfl rfl rfl (by omega) k
theorem b211_957 {x : zXs} {F : zF} (hF : zSh F) {d : Nat} {V : Nat → Nat → Int32} {T : Nat → Nat → Int64} {Q : Option Value → zG → Prop} {o0 : Option Value} {o1 : Option Value} {o2 : Option Value} {o3 : Option Value} {s0 : Int64} {s1 : Int64}   (kt : (lg_cmp s0 s1) = 0 → E x F d 211 1247 [o0, o1, o2, o3] [] (V, T) Q) (kf : ¬ ((lg_cmp s0 s1) = 0) → E x F d 211 961 [o0, o1, o2, o3] [] (V, T) Q) : E x F d 211 957 [o0, o1, o2, o3] [.long s1, .long s0] (V, T) Q := by
  refine e_lcmp zd211_957 ?_
  exact e_if_eq zd211_958 (tg := 1247) rfl kt kf
theorem b211_961 {x : zXs} {F : zF} (hF : zSh F) {d : Nat} {V : Nat → Nat → Int32} {T : Nat → Nat → Int64} {Q : Option Value → zG → Prop} {o0 : Option Value} {o1 : Option Value} {o2 : Option Value} {o3 : Option Value}   (k : Q (some (.int (Int32.ofInt 0))) (V, T)) : E x F d 211 961 [o0, o1, o2, o3] [] (V, T) Q := by
  refine e_iconst zd211_961 ?_
  exact e_iretz zd211_962 zs211 (by decide +kernel) k
theorem b211_963 {x : zXs} {F : zF} (hF : zSh F) {d : Nat} {V : Nat → Nat → Int32} {T : Nat → Nat → Int64} {Q : Option Value → zG → Prop} {o0 : Option Value} {o2 : Option Value} {o3 : Option Value}   (k : E x F d 119 0 [some (.ref 0)] [] (V, T) (fun r G' => E x F (d + 1) 211 967 [o0, some (.ref 0), o2, o3] (r.toList ++ []) G' Q)) : E x F (d + 1) 211 963 [o0, some (.ref 0), o2, o3] [] (V, T) Q := by
  refine e_aload_n zd211_963 rfl rfl ?_
  exact e_callV zd211_964 (own := 15) (nest := false) (w := 810) (by decide +kernel) (by decide +kernel) zs119 (as := []) (rest := []) rfl rfl (zsh_at hF rfl).1 (by omega) (Nat.le_of_ble_eq_true rfl) rfl rfl rfl (by omega) k
theorem b211_967 {x : zXs} {F : zF} (hF : zSh F) {d : Nat} {V : Nat → Nat → Int32} {T : Nat → Nat → Int64} {Q : Option Value → zG → Prop} {o0 : Option Value} {o1 : Option Value} {o3 : Option Value} {s0 : Int32}   (k : E x F d 203 0 [some (.ref 59), none] [] (V, T) (fun r G' => E x F (d + 1) 211 971 [o0, o1, some (.ref 59), o3] (r.toList ++ [.int s0]) G' Q)) : E x F (d + 1) 211 967 [o0, o1, some (.ref 59), o3] [.int s0] (V, T) Q := by
  refine e_aload_n zd211_967 rfl rfl ?_
  exact e_callV zd211_968 (own := 15) (nest := false) (w := 1306) (by decide +kernel) (by decide +kernel) zs203 (as := []) (rest := [.int s0]) rfl rfl (zsh_at hF rfl).1 (by omega) (Nat.le_of_ble_eq_true rfl) rfl rfl rfl (by omega) k
theorem b211_971 {x : zXs} {F : zF} (hF : zSh F) {d : Nat} {V : Nat → Nat → Int32} {T : Nat → Nat → Int64} {Q : Option Value → zG → Prop} {o0 : Option Value} {o1 : Option Value} {o2 : Option Value} {o3 : Option Value} {s0 : Int32} {s1 : Int32}   (kt : s0 = s1 → E x F d 211 1247 [o0, o1, o2, o3] [] (V, T) Q) (kf : ¬ (s0 = s1) → E x F d 211 974 [o0, o1, o2, o3] [] (V, T) Q) : E x F d 211 971 [o0, o1, o2, o3] [.int s1, .int s0] (V, T) Q := by
  exact e_icmp_eq zd211_971 (tg := 1247) rfl kt kf
theorem b211_974 {x : zXs} {F : zF} (hF : zSh F) {d : Nat} {V : Nat → Nat → Int32} {T : Nat → Nat → Int64} {Q : Option Value → zG → Prop} {o0 : Option Value} {o1 : Option Value} {o2 : Option Value} {o3 : Option Value}   (k : Q (some (.int (Int32.ofInt 0))) (V, T)) : E x F d 211 974 [o0, o1, o2, o3] [] (V, T) Q := by
  refine e_iconst zd211_974 ?_
  exact e_iretz zd211_975 zs211 (by decide +kernel) k
theorem b211_976 {x : zXs} {F : zF} (hF : zSh F) {d : Nat} {V : Nat → Nat → Int32} {T : Nat → Nat → Int64} {Q : Option Value → zG → Prop} {o0 : Option Value} {o2 : Option Value} {o3 : Option Value}   (k : E x F d 120 0 [some (.ref 0)] [] (V, T) (fun r G' => E x F (d + 1) 211 980 [o0, some (.ref 0), o2, o3] (r.toList ++ []) G' Q)) : E x F (d + 1) 211 976 [o0, some (.ref 0), o2, o3] [] (V, T) Q := by
  refine e_aload_n zd211_976 rfl rfl ?_
  exact e_callV zd211_977 (own := 15) (nest := false) (w := 814) (by decide +kernel) (by decide +kernel) zs120 (as := []) (rest := []) rfl rfl (zsh_at hF rfl).1 (by omega) (Nat.le_of_ble_eq_true rfl) rfl rfl rfl (by omega) k
theorem b211_980 {x : zXs} {F : zF} (hF : zSh F) {d : Nat} {V : Nat → Nat → Int32} {T : Nat → Nat → Int64} {Q : Option Value → zG → Prop} {o0 : Option Value} {o1 : Option Value} {o3 : Option Value} {s0 : Int32}   (k : E x F d 204 0 [some (.ref 59), none] [] (V, T) (fun r G' => E x F (d + 1) 211 984 [o0, o1, some (.ref 59), o3] (r.toList ++ [.int s0]) G' Q)) : E x F (d + 1) 211 980 [o0, o1, some (.ref 59), o3] [.int s0] (V, T) Q := by
  refine e_aload_n zd211_980 rfl rfl ?_
  exact e_callV zd211_981 (own := 15) (nest := false) (w := 1310) (by decide +kernel) (by decide +kernel) zs204 (as := []) (rest := [.int s0]) rfl rfl (zsh_at hF rfl).1 (by omega) (Nat.le_of_ble_eq_true rfl) rfl rfl rfl (by omega) k
theorem b211_984 {x : zXs} {F : zF} (hF : zSh F) {d : Nat} {V : Nat → Nat → Int32} {T : Nat → Nat → Int64} {Q : Option Value → zG → Prop} {o0 : Option Value} {o1 : Option Value} {o2 : Option Value} {o3 : Option Value} {s0 : Int32} {s1 : Int32}   (kt : s0 = s1 → E x F d 211 1247 [o0, o1, o2, o3] [] (V, T) Q) (kf : ¬ (s0 = s1) → E x F d 211 987 [o0, o1, o2, o3] [] (V, T) Q) : E x F d 211 984 [o0, o1, o2, o3] [.int s1, .int s0] (V, T) Q := by
  exact e_icmp_eq zd211_984 (tg := 1247) rfl kt kf
theorem b211_987 {x : zXs} {F : zF} (hF : zSh F) {d : Nat} {V : Nat → Nat → Int32} {T : Nat → Nat → Int64} {Q : Option Value → zG → Prop} {o0 : Option Value} {o1 : Option Value} {o2 : Option Value} {o3 : Option Value}   (k : Q (some (.int (Int32.ofInt 0))) (V, T)) : E x F d 211 987 [o0, o1, o2, o3] [] (V, T) Q := by
  refine e_iconst zd211_987 ?_
  exact e_iretz zd211_988 zs211 (by decide +kernel) k
theorem b211_989 {x : zXs} {F : zF} (hF : zSh F) {d : Nat} {V : Nat → Nat → Int32} {T : Nat → Nat → Int64} {Q : Option Value → zG → Prop} {o2 : Option Value} {l3 : Int32}  (hL : x.1 ≤ 3072) {i1 : Nat} (e1 : l3 + (Int32.ofInt 1) = nI i1) (h1 : i1 < x.1) (k : E x F d 121 0 [some (.ref 0), some (.int (x.2 i1))] [] (V, T) (fun r G' => E x F (d + 1) 211 998 [some (.double 50), some (.ref 0), o2, some (.int l3)] (r.toList ++ []) G' Q)) : E x F (d + 1) 211 989 [some (.double 50), some (.ref 0), o2, some (.int l3)] [] (V, T) Q := by
  refine e_aload_n zd211_989 rfl rfl ?_
  refine e_aload_n zd211_990 rfl rfl ?_
  refine e_iload_n zd211_991 rfl ?_
  refine e_iconst zd211_992 ?_
  refine e_iadd zd211_993 ?_
  refine e_ialdX zd211_994 (zxt_s hL) e1 h1 (Nat.lt_of_le_of_lt hL (by omega)) ?_
  exact e_callV zd211_995 (own := 15) (nest := false) (w := 818) (by decide +kernel) (by decide +kernel) zs121 (as := [.int (x.2 i1)]) (rest := []) rfl rfl (zsh_at hF rfl).1 (by omega) (Nat.le_of_ble_eq_true rfl) rfl rfl rfl (by omega) k
theorem b211_998 {x : zXs} {F : zF} (hF : zSh F) {d : Nat} {V : Nat → Nat → Int32} {T : Nat → Nat → Int64} {Q : Option Value → zG → Prop} {o1 : Option Value} {l3 : Int32} {s0 : Int32}  (hL : x.1 ≤ 3072) {i1 : Nat} (e1 : l3 + (Int32.ofInt 1) = nI i1) (h1 : i1 < x.1) (k : E x F d 205 0 [some (.ref 59), some (.int (x.2 i1))] [] (V, T) (fun r G' => E x F (d + 1) 211 1007 [some (.double 50), o1, some (.ref 59), some (.int l3)] (r.toList ++ [.int s0]) G' Q)) : E x F (d + 1) 211 998 [some (.double 50), o1, some (.ref 59), some (.int l3)] [.int s0] (V, T) Q := by
  refine e_aload_n zd211_998 rfl rfl ?_
  refine e_aload_n zd211_999 rfl rfl ?_
  refine e_iload_n zd211_1000 rfl ?_
  refine e_iconst zd211_1001 ?_
  refine e_iadd zd211_1002 ?_
  refine e_ialdX zd211_1003 (zxt_s hL) e1 h1 (Nat.lt_of_le_of_lt hL (by omega)) ?_
  exact e_callV zd211_1004 (own := 15) (nest := false) (w := 1314) (by decide +kernel) (by decide +kernel) zs205 (as := [.int (x.2 i1)]) (rest := [.int s0]) rfl rfl (zsh_at hF rfl).1 (by omega) (Nat.le_of_ble_eq_true rfl) rfl rfl rfl (by omega) k
theorem b211_1007 {x : zXs} {F : zF} (hF : zSh F) {d : Nat} {V : Nat → Nat → Int32} {T : Nat → Nat → Int64} {Q : Option Value → zG → Prop} {o0 : Option Value} {o1 : Option Value} {o2 : Option Value} {o3 : Option Value} {s0 : Int32} {s1 : Int32}   (kt : s0 = s1 → E x F d 211 1247 [o0, o1, o2, o3] [] (V, T) Q) (kf : ¬ (s0 = s1) → E x F d 211 1010 [o0, o1, o2, o3] [] (V, T) Q) : E x F d 211 1007 [o0, o1, o2, o3] [.int s1, .int s0] (V, T) Q := by
  exact e_icmp_eq zd211_1007 (tg := 1247) rfl kt kf
theorem b211_1010 {x : zXs} {F : zF} (hF : zSh F) {d : Nat} {V : Nat → Nat → Int32} {T : Nat → Nat → Int64} {Q : Option Value → zG → Prop} {o0 : Option Value} {o1 : Option Value} {o2 : Option Value} {o3 : Option Value}   (k : Q (some (.int (Int32.ofInt 0))) (V, T)) : E x F d 211 1010 [o0, o1, o2, o3] [] (V, T) Q := by
  refine e_iconst zd211_1010 ?_
  exact e_iretz zd211_1011 zs211 (by decide +kernel) k
theorem b211_1012 {x : zXs} {F : zF} (hF : zSh F) {d : Nat} {V : Nat → Nat → Int32} {T : Nat → Nat → Int64} {Q : Option Value → zG → Prop} {o2 : Option Value} {l3 : Int32}  (hL : x.1 ≤ 3072) {i1 : Nat} (e1 : l3 + (Int32.ofInt 1) = nI i1) (h1 : i1 < x.1) {i2 : Nat} (e2 : l3 + (Int32.ofInt 2) = nI i2) (h2 : i2 < x.1) {i3 : Nat} (e3 : l3 + (Int32.ofInt 3) = nI i3) (h3 : i3 < x.1) (k : E x F d 122 0 [some (.ref 0), some (.int (x.2 i1)), some (.int (x.2 i2)), some (.int (x.2 i3))] [] (V, T) (fun r G' => E x F (d + 1) 211 1031 [some (.double 50), some (.ref 0), o2, some (.int l3)] (r.toList ++ []) G' Q)) : E x F (d + 1) 211 1012 [some (.double 50), some (.ref 0), o2, some (.int l3)] [] (V, T) Q := by
  refine e_aload_n zd211_1012 rfl rfl ?_
  refine e_aload_n zd211_1013 rfl rfl ?_
  refine e_iload_n zd211_1014 rfl ?_
  refine e_iconst zd211_1015 ?_
  refine e_iadd zd211_1016 ?_
  refine e_ialdX zd211_1017 (zxt_s hL) e1 h1 (Nat.lt_of_le_of_lt hL (by omega)) ?_
  refine e_aload_n zd211_1018 rfl rfl ?_
  refine e_iload_n zd211_1019 rfl ?_
  refine e_iconst zd211_1020 ?_
  refine e_iadd zd211_1021 ?_
  refine e_ialdX zd211_1022 (zxt_s hL) e2 h2 (Nat.lt_of_le_of_lt hL (by omega)) ?_
  refine e_aload_n zd211_1023 rfl rfl ?_
  refine e_iload_n zd211_1024 rfl ?_
  refine e_iconst zd211_1025 ?_
  refine e_iadd zd211_1026 ?_
  refine e_ialdX zd211_1027 (zxt_s hL) e3 h3 (Nat.lt_of_le_of_lt hL (by omega)) ?_
  exact e_callV zd211_1028 (own := 15) (nest := false) (w := 822) (by decide +kernel) (by decide +kernel) zs122 (as := [.int (x.2 i1), .int (x.2 i2), .int (x.2 i3)]) (rest := []) rfl rfl (zsh_at hF rfl).1 (by omega) (Nat.le_of_ble_eq_true rfl) rfl rfl rfl (by omega) k
theorem b211_1031 {x : zXs} {F : zF} (hF : zSh F) {d : Nat} {V : Nat → Nat → Int32} {T : Nat → Nat → Int64} {Q : Option Value → zG → Prop} {o1 : Option Value} {l3 : Int32} {s0 : Int32}  (hL : x.1 ≤ 3072) {i1 : Nat} (e1 : l3 + (Int32.ofInt 1) = nI i1) (h1 : i1 < x.1) {i2 : Nat} (e2 : l3 + (Int32.ofInt 2) = nI i2) (h2 : i2 < x.1) {i3 : Nat} (e3 : l3 + (Int32.ofInt 3) = nI i3) (h3 : i3 < x.1) (k : E x F d 199 0 [some (.ref 59), some (.int (x.2 i1)), some (.int (x.2 i2)), some (.int (x.2 i3)), none] [] (V, T) (fun r G' => E x F (d + 1) 211 1050 [some (.double 50), o1, some (.ref 59), some (.int l3)] (r.toList ++ [.int s0]) G' Q)) : E x F (d + 1) 211 1031 [some (.double 50), o1, some (.ref 59), some (.int l3)] [.int s0] (V, T) Q := by
  refine e_aload_n zd211_1031 rfl rfl ?_
  refine e_aload_n zd211_1032 rfl rfl ?_
  refine e_iload_n zd211_1033 rfl ?_
  refine e_iconst zd211_1034 ?_
  refine e_iadd zd211_1035 ?_
  refine e_ialdX zd211_1036 (zxt_s hL) e1 h1 (Nat.lt_of_le_of_lt hL (by omega)) ?_
  refine e_aload_n zd211_1037 rfl rfl ?_
  refine e_iload_n zd211_1038 rfl ?_
  refine e_iconst zd211_1039 ?_
  refine e_iadd zd211_1040 ?_
  refine e_ialdX zd211_1041 (zxt_s hL) e2 h2 (Nat.lt_of_le_of_lt hL (by omega)) ?_
  refine e_aload_n zd211_1042 rfl rfl ?_
  refine e_iload_n zd211_1043 rfl ?_
  refine e_iconst zd211_1044 ?_
  refine e_iadd zd211_1045 ?_
  refine e_ialdX zd211_1046 (zxt_s hL) e3 h3 (Nat.lt_of_le_of_lt hL (by omega)) ?_
  exact e_callV zd211_1047 (own := 15) (nest := false) (w := 1318) (by decide +kernel) (by decide +kernel) zs199 (as := [.int (x.2 i1), .int (x.2 i2), .int (x.2 i3)]) (rest := [.int s0]) rfl rfl (zsh_at hF rfl).1 (by omega) (Nat.le_of_ble_eq_true rfl) rfl rfl rfl (by omega) k
theorem b211_1050 {x : zXs} {F : zF} (hF : zSh F) {d : Nat} {V : Nat → Nat → Int32} {T : Nat → Nat → Int64} {Q : Option Value → zG → Prop} {o0 : Option Value} {o1 : Option Value} {o2 : Option Value} {o3 : Option Value} {s0 : Int32} {s1 : Int32}   (kt : s0 = s1 → E x F d 211 1247 [o0, o1, o2, o3] [] (V, T) Q) (kf : ¬ (s0 = s1) → E x F d 211 1053 [o0, o1, o2, o3] [] (V, T) Q) : E x F d 211 1050 [o0, o1, o2, o3] [.int s1, .int s0] (V, T) Q := by
  exact e_icmp_eq zd211_1050 (tg := 1247) rfl kt kf
theorem b211_1053 {x : zXs} {F : zF} (hF : zSh F) {d : Nat} {V : Nat → Nat → Int32} {T : Nat → Nat → Int64} {Q : Option Value → zG → Prop} {o0 : Option Value} {o1 : Option Value} {o2 : Option Value} {o3 : Option Value}   (k : Q (some (.int (Int32.ofInt 0))) (V, T)) : E x F d 211 1053 [o0, o1, o2, o3] [] (V, T) Q := by
  refine e_iconst zd211_1053 ?_
  exact e_iretz zd211_1054 zs211 (by decide +kernel) k
theorem b211_1055 {x : zXs} {F : zF} (hF : zSh F) {d : Nat} {V : Nat → Nat → Int32} {T : Nat → Nat → Int64} {Q : Option Value → zG → Prop} {o2 : Option Value} {l3 : Int32}  (hL : x.1 ≤ 3072) {i1 : Nat} (e1 : l3 + (Int32.ofInt 1) = nI i1) (h1 : i1 < x.1) {i2 : Nat} (e2 : l3 + (Int32.ofInt 2) = nI i2) (h2 : i2 < x.1) {i3 : Nat} (e3 : l3 + (Int32.ofInt 3) = nI i3) (h3 : i3 < x.1) (k : E x F d 123 0 [some (.ref 0), some (.int (x.2 i1)), some (.int (x.2 i2)), some (.int (x.2 i3)), none] [] (V, T) (fun r G' => E x F (d + 1) 211 1074 [some (.double 50), some (.ref 0), o2, some (.int l3)] (r.toList ++ []) G' Q)) : E x F (d + 1) 211 1055 [some (.double 50), some (.ref 0), o2, some (.int l3)] [] (V, T) Q := by
  refine e_aload_n zd211_1055 rfl rfl ?_
  refine e_aload_n zd211_1056 rfl rfl ?_
  refine e_iload_n zd211_1057 rfl ?_
  refine e_iconst zd211_1058 ?_
  refine e_iadd zd211_1059 ?_
  refine e_ialdX zd211_1060 (zxt_s hL) e1 h1 (Nat.lt_of_le_of_lt hL (by omega)) ?_
  refine e_aload_n zd211_1061 rfl rfl ?_
  refine e_iload_n zd211_1062 rfl ?_
  refine e_iconst zd211_1063 ?_
  refine e_iadd zd211_1064 ?_
  refine e_ialdX zd211_1065 (zxt_s hL) e2 h2 (Nat.lt_of_le_of_lt hL (by omega)) ?_
  refine e_aload_n zd211_1066 rfl rfl ?_
  refine e_iload_n zd211_1067 rfl ?_
  refine e_iconst zd211_1068 ?_
  refine e_iadd zd211_1069 ?_
  refine e_ialdX zd211_1070 (zxt_s hL) e3 h3 (Nat.lt_of_le_of_lt hL (by omega)) ?_
  exact e_callV zd211_1071 (own := 15) (nest := false) (w := 826) (by decide +kernel) (by decide +kernel) zs123 (as := [.int (x.2 i1), .int (x.2 i2), .int (x.2 i3)]) (rest := []) rfl rfl (zsh_at hF rfl).1 (by omega) (Nat.le_of_ble_eq_true rfl) rfl rfl rfl (by omega) k
theorem b211_1074 {x : zXs} {F : zF} (hF : zSh F) {d : Nat} {V : Nat → Nat → Int32} {T : Nat → Nat → Int64} {Q : Option Value → zG → Prop} {o1 : Option Value} {l3 : Int32} {s0 : Int32}  (hL : x.1 ≤ 3072) {i1 : Nat} (e1 : l3 + (Int32.ofInt 1) = nI i1) (h1 : i1 < x.1) {i2 : Nat} (e2 : l3 + (Int32.ofInt 2) = nI i2) (h2 : i2 < x.1) {i3 : Nat} (e3 : l3 + (Int32.ofInt 3) = nI i3) (h3 : i3 < x.1) (k : E x F d 206 0 [some (.ref 59), some (.int (x.2 i1)), some (.int (x.2 i2)), some (.int (x.2 i3))] [] (V, T) (fun r G' => E x F (d + 1) 211 1093 [some (.double 50), o1, some (.ref 59), some (.int l3)] (r.toList ++ [.int s0]) G' Q)) : E x F (d + 1) 211 1074 [some (.double 50), o1, some (.ref 59), some (.int l3)] [.int s0] (V, T) Q := by
  refine e_aload_n zd211_1074 rfl rfl ?_
  refine e_aload_n zd211_1075 rfl rfl ?_
  refine e_iload_n zd211_1076 rfl ?_
  refine e_iconst zd211_1077 ?_
  refine e_iadd zd211_1078 ?_
  refine e_ialdX zd211_1079 (zxt_s hL) e1 h1 (Nat.lt_of_le_of_lt hL (by omega)) ?_
  refine e_aload_n zd211_1080 rfl rfl ?_
  refine e_iload_n zd211_1081 rfl ?_
  refine e_iconst zd211_1082 ?_
  refine e_iadd zd211_1083 ?_
  refine e_ialdX zd211_1084 (zxt_s hL) e2 h2 (Nat.lt_of_le_of_lt hL (by omega)) ?_
  refine e_aload_n zd211_1085 rfl rfl ?_
  refine e_iload_n zd211_1086 rfl ?_
  refine e_iconst zd211_1087 ?_
  refine e_iadd zd211_1088 ?_
  refine e_ialdX zd211_1089 (zxt_s hL) e3 h3 (Nat.lt_of_le_of_lt hL (by omega)) ?_
  exact e_callV zd211_1090 (own := 15) (nest := false) (w := 1319) (by decide +kernel) (by decide +kernel) zs206 (as := [.int (x.2 i1), .int (x.2 i2), .int (x.2 i3)]) (rest := [.int s0]) rfl rfl (zsh_at hF rfl).1 (by omega) (Nat.le_of_ble_eq_true rfl) rfl rfl rfl (by omega) k
theorem b211_1093 {x : zXs} {F : zF} (hF : zSh F) {d : Nat} {V : Nat → Nat → Int32} {T : Nat → Nat → Int64} {Q : Option Value → zG → Prop} {o0 : Option Value} {o1 : Option Value} {o2 : Option Value} {o3 : Option Value} {s0 : Int32} {s1 : Int32}   (kt : s0 = s1 → E x F d 211 1247 [o0, o1, o2, o3] [] (V, T) Q) (kf : ¬ (s0 = s1) → E x F d 211 1096 [o0, o1, o2, o3] [] (V, T) Q) : E x F d 211 1093 [o0, o1, o2, o3] [.int s1, .int s0] (V, T) Q := by
  exact e_icmp_eq zd211_1093 (tg := 1247) rfl kt kf
theorem b211_1096 {x : zXs} {F : zF} (hF : zSh F) {d : Nat} {V : Nat → Nat → Int32} {T : Nat → Nat → Int64} {Q : Option Value → zG → Prop} {o0 : Option Value} {o1 : Option Value} {o2 : Option Value} {o3 : Option Value}   (k : Q (some (.int (Int32.ofInt 0))) (V, T)) : E x F d 211 1096 [o0, o1, o2, o3] [] (V, T) Q := by
  refine e_iconst zd211_1096 ?_
  exact e_iretz zd211_1097 zs211 (by decide +kernel) k
theorem b211_1098 {x : zXs} {F : zF} (hF : zSh F) {d : Nat} {V : Nat → Nat → Int32} {T : Nat → Nat → Int64} {Q : Option Value → zG → Prop} {o2 : Option Value} {l3 : Int32}  (hL : x.1 ≤ 3072) {i1 : Nat} (e1 : l3 + (Int32.ofInt 1) = nI i1) (h1 : i1 < x.1) {i2 : Nat} (e2 : l3 + (Int32.ofInt 2) = nI i2) (h2 : i2 < x.1) {i3 : Nat} (e3 : l3 + (Int32.ofInt 3) = nI i3) (h3 : i3 < x.1) {i4 : Nat} (e4 : l3 + (Int32.ofInt 4) = nI i4) (h4 : i4 < x.1) {i5 : Nat} (e5 : l3 + (Int32.ofInt 5) = nI i5) (h5 : i5 < x.1) (k : E x F d 124 0 [some (.ref 0), some (.int (x.2 i1)), some (.int (x.2 i2)), some (.int (x.2 i3)), some (.int (x.2 i4)), some (.int (x.2 i5)), none, none] [] (V, T) (fun r G' => E x F (d + 1) 211 1127 [some (.double 50), some (.ref 0), o2, some (.int l3)] (r.toList ++ []) G' Q)) : E x F (d + 1) 211 1098 [some (.double 50), some (.ref 0), o2, some (.int l3)] [] (V, T) Q := by
  refine e_aload_n zd211_1098 rfl rfl ?_
  refine e_aload_n zd211_1099 rfl rfl ?_
  refine e_iload_n zd211_1100 rfl ?_
  refine e_iconst zd211_1101 ?_
  refine e_iadd zd211_1102 ?_
  refine e_ialdX zd211_1103 (zxt_s hL) e1 h1 (Nat.lt_of_le_of_lt hL (by omega)) ?_
  refine e_aload_n zd211_1104 rfl rfl ?_
  refine e_iload_n zd211_1105 rfl ?_
  refine e_iconst zd211_1106 ?_
  refine e_iadd zd211_1107 ?_
  refine e_ialdX zd211_1108 (zxt_s hL) e2 h2 (Nat.lt_of_le_of_lt hL (by omega)) ?_
  refine e_aload_n zd211_1109 rfl rfl ?_
  refine e_iload_n zd211_1110 rfl ?_
  refine e_iconst zd211_1111 ?_
  refine e_iadd zd211_1112 ?_
  refine e_ialdX zd211_1113 (zxt_s hL) e3 h3 (Nat.lt_of_le_of_lt hL (by omega)) ?_
  refine e_aload_n zd211_1114 rfl rfl ?_
  refine e_iload_n zd211_1115 rfl ?_
  refine e_iconst zd211_1116 ?_
  refine e_iadd zd211_1117 ?_
  refine e_ialdX zd211_1118 (zxt_s hL) e4 h4 (Nat.lt_of_le_of_lt hL (by omega)) ?_
  refine e_aload_n zd211_1119 rfl rfl ?_
  refine e_iload_n zd211_1120 rfl ?_
  refine e_iconst zd211_1121 ?_
  refine e_iadd zd211_1122 ?_
  refine e_ialdX zd211_1123 (zxt_s hL) e5 h5 (Nat.lt_of_le_of_lt hL (by omega)) ?_
  exact e_callV zd211_1124 (own := 15) (nest := false) (w := 830) (by decide +kernel) (by decide +kernel) zs124 (as := [.int (x.2 i1), .int (x.2 i2), .int (x.2 i3), .int (x.2 i4), .int (x.2 i5)]) (rest := []) rfl rfl (zsh_at hF rfl).1 (by omega) (Nat.le_of_ble_eq_true rfl) rfl rfl rfl (by omega) k
theorem b211_1127 {x : zXs} {F : zF} (hF : zSh F) {d : Nat} {V : Nat → Nat → Int32} {T : Nat → Nat → Int64} {Q : Option Value → zG → Prop} {o1 : Option Value} {l3 : Int32} {s0 : Int32}  (hL : x.1 ≤ 3072) {i1 : Nat} (e1 : l3 + (Int32.ofInt 1) = nI i1) (h1 : i1 < x.1) {i2 : Nat} (e2 : l3 + (Int32.ofInt 2) = nI i2) (h2 : i2 < x.1) {i3 : Nat} (e3 : l3 + (Int32.ofInt 3) = nI i3) (h3 : i3 < x.1) {i4 : Nat} (e4 : l3 + (Int32.ofInt 4) = nI i4) (h4 : i4 < x.1) {i5 : Nat} (e5 : l3 + (Int32.ofInt 5) = nI i5) (h5 : i5 < x.1) (k : E x F d 207 0 [some (.ref 59), some (.int (x.2 i1)), some (.int (x.2 i2)), some (.int (x.2 i3)), some (.int (x.2 i4)), some (.int (x.2 i5)), none, none, none] [] (V, T) (fun r G' => E x F (d + 1) 211 1156 [some (.double 50), o1, some (.ref 59), some (.int l3)] (r.toList ++ [.int s0]) G' Q)) : E x F (d + 1) 211 1127 [some (.double 50), o1, some (.ref 59), some (.int l3)] [.int s0] (V, T) Q := by
  refine e_aload_n zd211_1127 rfl rfl ?_
  refine e_aload_n zd211_1128 rfl rfl ?_
  refine e_iload_n zd211_1129 rfl ?_
  refine e_iconst zd211_1130 ?_
  refine e_iadd zd211_1131 ?_
  refine e_ialdX zd211_1132 (zxt_s hL) e1 h1 (Nat.lt_of_le_of_lt hL (by omega)) ?_
  refine e_aload_n zd211_1133 rfl rfl ?_
  refine e_iload_n zd211_1134 rfl ?_
  refine e_iconst zd211_1135 ?_
  refine e_iadd zd211_1136 ?_
  refine e_ialdX zd211_1137 (zxt_s hL) e2 h2 (Nat.lt_of_le_of_lt hL (by omega)) ?_
  refine e_aload_n zd211_1138 rfl rfl ?_
  refine e_iload_n zd211_1139 rfl ?_
  refine e_iconst zd211_1140 ?_
  refine e_iadd zd211_1141 ?_
  refine e_ialdX zd211_1142 (zxt_s hL) e3 h3 (Nat.lt_of_le_of_lt hL (by omega)) ?_
  refine e_aload_n zd211_1143 rfl rfl ?_
  refine e_iload_n zd211_1144 rfl ?_
  refine e_iconst zd211_1145 ?_
  refine e_iadd zd211_1146 ?_
  refine e_ialdX zd211_1147 (zxt_s hL) e4 h4 (Nat.lt_of_le_of_lt hL (by omega)) ?_
  refine e_aload_n zd211_1148 rfl rfl ?_
  refine e_iload_n zd211_1149 rfl ?_
  refine e_iconst zd211_1150 ?_
  refine e_iadd zd211_1151 ?_
  refine e_ialdX zd211_1152 (zxt_s hL) e5 h5 (Nat.lt_of_le_of_lt hL (by omega)) ?_
  exact e_callV zd211_1153 (own := 15) (nest := false) (w := 1323) (by decide +kernel) (by decide +kernel) zs207 (as := [.int (x.2 i1), .int (x.2 i2), .int (x.2 i3), .int (x.2 i4), .int (x.2 i5)]) (rest := [.int s0]) rfl rfl (zsh_at hF rfl).1 (by omega) (Nat.le_of_ble_eq_true rfl) rfl rfl rfl (by omega) k
theorem b211_1156 {x : zXs} {F : zF} (hF : zSh F) {d : Nat} {V : Nat → Nat → Int32} {T : Nat → Nat → Int64} {Q : Option Value → zG → Prop} {o0 : Option Value} {o1 : Option Value} {o2 : Option Value} {o3 : Option Value} {s0 : Int32} {s1 : Int32}   (kt : s0 = s1 → E x F d 211 1247 [o0, o1, o2, o3] [] (V, T) Q) (kf : ¬ (s0 = s1) → E x F d 211 1159 [o0, o1, o2, o3] [] (V, T) Q) : E x F d 211 1156 [o0, o1, o2, o3] [.int s1, .int s0] (V, T) Q := by
  exact e_icmp_eq zd211_1156 (tg := 1247) rfl kt kf
theorem b211_1159 {x : zXs} {F : zF} (hF : zSh F) {d : Nat} {V : Nat → Nat → Int32} {T : Nat → Nat → Int64} {Q : Option Value → zG → Prop} {o0 : Option Value} {o1 : Option Value} {o2 : Option Value} {o3 : Option Value}   (k : Q (some (.int (Int32.ofInt 0))) (V, T)) : E x F d 211 1159 [o0, o1, o2, o3] [] (V, T) Q := by
  refine e_iconst zd211_1159 ?_
  exact e_iretz zd211_1160 zs211 (by decide +kernel) k
theorem b211_1161 {x : zXs} {F : zF} (hF : zSh F) {d : Nat} {V : Nat → Nat → Int32} {T : Nat → Nat → Int64} {Q : Option Value → zG → Prop} {o2 : Option Value} {l3 : Int32}  (hL : x.1 ≤ 3072) {i1 : Nat} (e1 : l3 + (Int32.ofInt 1) = nI i1) (h1 : i1 < x.1) {i2 : Nat} (e2 : l3 + (Int32.ofInt 2) = nI i2) (h2 : i2 < x.1) {i3 : Nat} (e3 : l3 + (Int32.ofInt 3) = nI i3) (h3 : i3 < x.1) {i4 : Nat} (e4 : l3 + (Int32.ofInt 4) = nI i4) (h4 : i4 < x.1) (k : E x F d 125 0 [some (.ref 0), some (.int (x.2 i1)), some (.int (x.2 i2)), some (.int (x.2 i3)), some (.int (x.2 i4)), none, none, none, none] [] (V, T) (fun r G' => E x F (d + 1) 211 1185 [some (.double 50), some (.ref 0), o2, some (.int l3)] (r.toList ++ []) G' Q)) : E x F (d + 1) 211 1161 [some (.double 50), some (.ref 0), o2, some (.int l3)] [] (V, T) Q := by
  refine e_aload_n zd211_1161 rfl rfl ?_
  refine e_aload_n zd211_1162 rfl rfl ?_
  refine e_iload_n zd211_1163 rfl ?_
  refine e_iconst zd211_1164 ?_
  refine e_iadd zd211_1165 ?_
  refine e_ialdX zd211_1166 (zxt_s hL) e1 h1 (Nat.lt_of_le_of_lt hL (by omega)) ?_
  refine e_aload_n zd211_1167 rfl rfl ?_
  refine e_iload_n zd211_1168 rfl ?_
  refine e_iconst zd211_1169 ?_
  refine e_iadd zd211_1170 ?_
  refine e_ialdX zd211_1171 (zxt_s hL) e2 h2 (Nat.lt_of_le_of_lt hL (by omega)) ?_
  refine e_aload_n zd211_1172 rfl rfl ?_
  refine e_iload_n zd211_1173 rfl ?_
  refine e_iconst zd211_1174 ?_
  refine e_iadd zd211_1175 ?_
  refine e_ialdX zd211_1176 (zxt_s hL) e3 h3 (Nat.lt_of_le_of_lt hL (by omega)) ?_
  refine e_aload_n zd211_1177 rfl rfl ?_
  refine e_iload_n zd211_1178 rfl ?_
  refine e_iconst zd211_1179 ?_
  refine e_iadd zd211_1180 ?_
  refine e_ialdX zd211_1181 (zxt_s hL) e4 h4 (Nat.lt_of_le_of_lt hL (by omega)) ?_
  exact e_callV zd211_1182 (own := 15) (nest := false) (w := 836) (by decide +kernel) (by decide +kernel) zs125 (as := [.int (x.2 i1), .int (x.2 i2), .int (x.2 i3), .int (x.2 i4)]) (rest := []) rfl rfl (zsh_at hF rfl).1 (by omega) (Nat.le_of_ble_eq_true rfl) rfl rfl rfl (by omega) k
theorem b211_1185 {x : zXs} {F : zF} (hF : zSh F) {d : Nat} {V : Nat → Nat → Int32} {T : Nat → Nat → Int64} {Q : Option Value → zG → Prop} {o1 : Option Value} {l3 : Int32} {s0 : Int32}  (hL : x.1 ≤ 3072) {i1 : Nat} (e1 : l3 + (Int32.ofInt 1) = nI i1) (h1 : i1 < x.1) {i2 : Nat} (e2 : l3 + (Int32.ofInt 2) = nI i2) (h2 : i2 < x.1) {i3 : Nat} (e3 : l3 + (Int32.ofInt 3) = nI i3) (h3 : i3 < x.1) {i4 : Nat} (e4 : l3 + (Int32.ofInt 4) = nI i4) (h4 : i4 < x.1) (k : E x F d 208 0 [some (.ref 59), some (.int (x.2 i1)), some (.int (x.2 i2)), some (.int (x.2 i3)), some (.int (x.2 i4)), none, none, none] [] (V, T) (fun r G' => E x F (d + 1) 211 1209 [some (.double 50), o1, some (.ref 59), some (.int l3)] (r.toList ++ [.int s0]) G' Q)) : E x F (d + 1) 211 1185 [some (.double 50), o1, some (.ref 59), some (.int l3)] [.int s0] (V, T) Q := by
  refine e_aload_n zd211_1185 rfl rfl ?_
  refine e_aload_n zd211_1186 rfl rfl ?_
  refine e_iload_n zd211_1187 rfl ?_
  refine e_iconst zd211_1188 ?_
  refine e_iadd zd211_1189 ?_
  refine e_ialdX zd211_1190 (zxt_s hL) e1 h1 (Nat.lt_of_le_of_lt hL (by omega)) ?_
  refine e_aload_n zd211_1191 rfl rfl ?_
  refine e_iload_n zd211_1192 rfl ?_
  refine e_iconst zd211_1193 ?_
  refine e_iadd zd211_1194 ?_
  refine e_ialdX zd211_1195 (zxt_s hL) e2 h2 (Nat.lt_of_le_of_lt hL (by omega)) ?_
  refine e_aload_n zd211_1196 rfl rfl ?_
  refine e_iload_n zd211_1197 rfl ?_
  refine e_iconst zd211_1198 ?_
  refine e_iadd zd211_1199 ?_
  refine e_ialdX zd211_1200 (zxt_s hL) e3 h3 (Nat.lt_of_le_of_lt hL (by omega)) ?_
  refine e_aload_n zd211_1201 rfl rfl ?_
  refine e_iload_n zd211_1202 rfl ?_
  refine e_iconst zd211_1203 ?_
  refine e_iadd zd211_1204 ?_
  refine e_ialdX zd211_1205 (zxt_s hL) e4 h4 (Nat.lt_of_le_of_lt hL (by omega)) ?_
  exact e_callV zd211_1206 (own := 15) (nest := false) (w := 1327) (by decide +kernel) (by decide +kernel) zs208 (as := [.int (x.2 i1), .int (x.2 i2), .int (x.2 i3), .int (x.2 i4)]) (rest := [.int s0]) rfl rfl (zsh_at hF rfl).1 (by omega) (Nat.le_of_ble_eq_true rfl) rfl rfl rfl (by omega) k
theorem b211_1209 {x : zXs} {F : zF} (hF : zSh F) {d : Nat} {V : Nat → Nat → Int32} {T : Nat → Nat → Int64} {Q : Option Value → zG → Prop} {o0 : Option Value} {o1 : Option Value} {o2 : Option Value} {o3 : Option Value} {s0 : Int32} {s1 : Int32}   (kt : s0 = s1 → E x F d 211 1247 [o0, o1, o2, o3] [] (V, T) Q) (kf : ¬ (s0 = s1) → E x F d 211 1212 [o0, o1, o2, o3] [] (V, T) Q) : E x F d 211 1209 [o0, o1, o2, o3] [.int s1, .int s0] (V, T) Q := by
  exact e_icmp_eq zd211_1209 (tg := 1247) rfl kt kf
theorem b211_1212 {x : zXs} {F : zF} (hF : zSh F) {d : Nat} {V : Nat → Nat → Int32} {T : Nat → Nat → Int64} {Q : Option Value → zG → Prop} {o0 : Option Value} {o1 : Option Value} {o2 : Option Value} {o3 : Option Value}   (k : Q (some (.int (Int32.ofInt 0))) (V, T)) : E x F d 211 1212 [o0, o1, o2, o3] [] (V, T) Q := by
  refine e_iconst zd211_1212 ?_
  exact e_iretz zd211_1213 zs211 (by decide +kernel) k
theorem b211_1214 {x : zXs} {F : zF} (hF : zSh F) {d : Nat} {V : Nat → Nat → Int32} {T : Nat → Nat → Int64} {Q : Option Value → zG → Prop} {o2 : Option Value} {l3 : Int32}  (hL : x.1 ≤ 3072) {i1 : Nat} (e1 : l3 + (Int32.ofInt 1) = nI i1) (h1 : i1 < x.1) {i2 : Nat} (e2 : l3 + (Int32.ofInt 2) = nI i2) (h2 : i2 < x.1) (k : E x F d 126 0 [some (.ref 0), some (.int (x.2 i1)), some (.int (x.2 i2))] [] (V, T) (fun r G' => E x F (d + 1) 211 1228 [some (.double 50), some (.ref 0), o2, some (.int l3)] (r.toList ++ []) G' Q)) : E x F (d + 1) 211 1214 [some (.double 50), some (.ref 0), o2, some (.int l3)] [] (V, T) Q := by
  refine e_aload_n zd211_1214 rfl rfl ?_
  refine e_aload_n zd211_1215 rfl rfl ?_
  refine e_iload_n zd211_1216 rfl ?_
  refine e_iconst zd211_1217 ?_
  refine e_iadd zd211_1218 ?_
  refine e_ialdX zd211_1219 (zxt_s hL) e1 h1 (Nat.lt_of_le_of_lt hL (by omega)) ?_
  refine e_aload_n zd211_1220 rfl rfl ?_
  refine e_iload_n zd211_1221 rfl ?_
  refine e_iconst zd211_1222 ?_
  refine e_iadd zd211_1223 ?_
  refine e_ialdX zd211_1224 (zxt_s hL) e2 h2 (Nat.lt_of_le_of_lt hL (by omega)) ?_
  exact e_callV zd211_1225 (own := 15) (nest := false) (w := 840) (by decide +kernel) (by decide +kernel) zs126 (as := [.int (x.2 i1), .int (x.2 i2)]) (rest := []) rfl rfl (zsh_at hF rfl).1 (by omega) (Nat.le_of_ble_eq_true rfl) rfl rfl rfl (by omega) k
theorem b211_1228 {x : zXs} {F : zF} (hF : zSh F) {d : Nat} {V : Nat → Nat → Int32} {T : Nat → Nat → Int64} {Q : Option Value → zG → Prop} {o1 : Option Value} {l3 : Int32} {s0 : Int32}  (hL : x.1 ≤ 3072) {i1 : Nat} (e1 : l3 + (Int32.ofInt 1) = nI i1) (h1 : i1 < x.1) {i2 : Nat} (e2 : l3 + (Int32.ofInt 2) = nI i2) (h2 : i2 < x.1) (k : E x F d 209 0 [some (.ref 59), some (.int (x.2 i1)), some (.int (x.2 i2)), none] [] (V, T) (fun r G' => E x F (d + 1) 211 1242 [some (.double 50), o1, some (.ref 59), some (.int l3)] (r.toList ++ [.int s0]) G' Q)) : E x F (d + 1) 211 1228 [some (.double 50), o1, some (.ref 59), some (.int l3)] [.int s0] (V, T) Q := by
  refine e_aload_n zd211_1228 rfl rfl ?_
  refine e_aload_n zd211_1229 rfl rfl ?_
  refine e_iload_n zd211_1230 rfl ?_
  refine e_iconst zd211_1231 ?_
  refine e_iadd zd211_1232 ?_
  refine e_ialdX zd211_1233 (zxt_s hL) e1 h1 (Nat.lt_of_le_of_lt hL (by omega)) ?_
  refine e_aload_n zd211_1234 rfl rfl ?_
  refine e_iload_n zd211_1235 rfl ?_
  refine e_iconst zd211_1236 ?_
  refine e_iadd zd211_1237 ?_
  refine e_ialdX zd211_1238 (zxt_s hL) e2 h2 (Nat.lt_of_le_of_lt hL (by omega)) ?_
  exact e_callV zd211_1239 (own := 15) (nest := false) (w := 1332) (by decide +kernel) (by decide +kernel) zs209 (as := [.int (x.2 i1), .int (x.2 i2)]) (rest := [.int s0]) rfl rfl (zsh_at hF rfl).1 (by omega) (Nat.le_of_ble_eq_true rfl) rfl rfl rfl (by omega) k
theorem b211_1242 {x : zXs} {F : zF} (hF : zSh F) {d : Nat} {V : Nat → Nat → Int32} {T : Nat → Nat → Int64} {Q : Option Value → zG → Prop} {o0 : Option Value} {o1 : Option Value} {o2 : Option Value} {o3 : Option Value} {s0 : Int32} {s1 : Int32}   (kt : s0 = s1 → E x F d 211 1247 [o0, o1, o2, o3] [] (V, T) Q) (kf : ¬ (s0 = s1) → E x F d 211 1245 [o0, o1, o2, o3] [] (V, T) Q) : E x F d 211 1242 [o0, o1, o2, o3] [.int s1, .int s0] (V, T) Q := by
  exact e_icmp_eq zd211_1242 (tg := 1247) rfl kt kf
theorem b211_1245 {x : zXs} {F : zF} (hF : zSh F) {d : Nat} {V : Nat → Nat → Int32} {T : Nat → Nat → Int64} {Q : Option Value → zG → Prop} {o0 : Option Value} {o1 : Option Value} {o2 : Option Value} {o3 : Option Value}   (k : Q (some (.int (Int32.ofInt 0))) (V, T)) : E x F d 211 1245 [o0, o1, o2, o3] [] (V, T) Q := by
  refine e_iconst zd211_1245 ?_
  exact e_iretz zd211_1246 zs211 (by decide +kernel) k
theorem b211_1247 {x : zXs} {F : zF} (hF : zSh F) {d : Nat} {V : Nat → Nat → Int32} {T : Nat → Nat → Int64} {Q : Option Value → zG → Prop} {o0 : Option Value} {o1 : Option Value} {o2 : Option Value} {l3 : Int32}   (k : E x F d 211 18 [o0, o1, o2, some (.int (l3 + Int32.ofInt 6))] [] (V, T) Q) : E x F d 211 1247 [o0, o1, o2, some (.int l3)] [] (V, T) Q := by
  refine e_iinc zd211_1247 rfl (by decide +kernel) ?_
  exact e_goto zd211_1250 (tg := 18) rfl k
theorem b211_1253 {x : zXs} {F : zF} (hF : zSh F) {d : Nat} {V : Nat → Nat → Int32} {T : Nat → Nat → Int64} {Q : Option Value → zG → Prop} {o0 : Option Value} {o1 : Option Value} {o2 : Option Value} {o3 : Option Value}   (k : Q (some (.int (Int32.ofInt 1))) (V, T)) : E x F d 211 1253 [o0, o1, o2, o3] [] (V, T) Q := by
  refine e_iconst zd211_1253 ?_
  exact e_iretz zd211_1254 zs211 (by decide +kernel) k
