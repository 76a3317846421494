/-! the law's frame from its loop on -/
theorem x_sald {sc : List Int} {o : String} {cc : ByteArray} {nL : Nat} {ret : Option FieldType} {d pc pc2 : Nat} {ls st : List AV} {m : Mem} {Q : Option AV → Mem → Prop} {i : Int} (h0 : 0 ≤ i) (h1 : i < sc.length) (hd : decode cc pc = .ok (.iaload, 1)) (hp : pc + 1 = pc2) (k : Sim sc o cc nL ret d pc2 ls (aI (sc.getD i.toNat 0) :: st) m Q) : Sim sc o cc nL ret d pc ls (aI i :: aR (-7) :: st) m Q := x_xald (a := -7) (Or.inr (Or.inr (Or.inr rfl))) h0 h1 hd hp k
theorem dL_law_18 : decode cL_law 18 = .ok (.iload_n 3, 1) := by decide +kernel
theorem dL_law_19 : decode cL_law 19 = .ok (.aload_n 0, 1) := by decide +kernel
theorem dL_law_20 : decode cL_law 20 = .ok (.arraylength, 1) := by decide +kernel
theorem dL_law_21 : decode cL_law 21 = .ok (.bipush 6, 2) := by decide +kernel
theorem dL_law_23 : decode cL_law 23 = .ok (.isub, 1) := by decide +kernel
theorem dL_law_24 : decode cL_law 24 = .ok (.if_icmp .gt 1048, 3) := by decide +kernel
theorem dL_law_27 : decode cL_law 27 = .ok (.aload_n 0, 1) := by decide +kernel
theorem dL_law_28 : decode cL_law 28 = .ok (.iload_n 3, 1) := by decide +kernel
theorem dL_law_29 : decode cL_law 29 = .ok (.iaload, 1) := by decide +kernel
theorem dL_law_30 : decode cL_law 30 = .ok (.bipush 63, 2) := by decide +kernel
theorem dL_law_32 : decode cL_law 32 = .ok (.iand, 1) := by decide +kernel
theorem dL_law_33 : decode cL_law 33 = .ok (.tableswitch 1033 0 32 #[147, 210, 233, 246, 269, 292, 335, 368, 401, 454, 497, 520, 553, 576, 589, 622, 655, 688, 721, 744, 767, 806, 819, 842, 855, 868, 891, 904, 927, 961, 974, 997, 1010], 147) := by decide +kernel
theorem dL_law_180 : decode cL_law 180 = .ok (.aload_n 1, 1) := by decide +kernel
theorem dL_law_181 : decode cL_law 181 = .ok (.aload_n 0, 1) := by decide +kernel
theorem dL_law_182 : decode cL_law 182 = .ok (.iload_n 3, 1) := by decide +kernel
theorem dL_law_183 : decode cL_law 183 = .ok (.iconst 1, 1) := by decide +kernel
theorem dL_law_184 : decode cL_law 184 = .ok (.iadd, 1) := by decide +kernel
theorem dL_law_185 : decode cL_law 185 = .ok (.iaload, 1) := by decide +kernel
theorem dL_law_186 : decode cL_law 186 = .ok (.aload_n 0, 1) := by decide +kernel
theorem dL_law_187 : decode cL_law 187 = .ok (.iload_n 3, 1) := by decide +kernel
theorem dL_law_188 : decode cL_law 188 = .ok (.iconst 2, 1) := by decide +kernel
theorem dL_law_189 : decode cL_law 189 = .ok (.iadd, 1) := by decide +kernel
theorem dL_law_190 : decode cL_law 190 = .ok (.iaload, 1) := by decide +kernel
theorem dL_law_191 : decode cL_law 191 = .ok (.aload_n 0, 1) := by decide +kernel
theorem dL_law_192 : decode cL_law 192 = .ok (.iload_n 3, 1) := by decide +kernel
theorem dL_law_193 : decode cL_law 193 = .ok (.iconst 3, 1) := by decide +kernel
theorem dL_law_194 : decode cL_law 194 = .ok (.iadd, 1) := by decide +kernel
theorem dL_law_195 : decode cL_law 195 = .ok (.iaload, 1) := by decide +kernel
theorem dL_law_196 : decode cL_law 196 = .ok (.aload_n 0, 1) := by decide +kernel
theorem dL_law_197 : decode cL_law 197 = .ok (.iload_n 3, 1) := by decide +kernel
theorem dL_law_198 : decode cL_law 198 = .ok (.iconst 4, 1) := by decide +kernel
theorem dL_law_199 : decode cL_law 199 = .ok (.iadd, 1) := by decide +kernel
theorem dL_law_200 : decode cL_law 200 = .ok (.iaload, 1) := by decide +kernel
theorem dL_law_201 : decode cL_law 201 = .ok (.aload_n 0, 1) := by decide +kernel
theorem dL_law_202 : decode cL_law 202 = .ok (.iload_n 3, 1) := by decide +kernel
theorem dL_law_203 : decode cL_law 203 = .ok (.iconst 5, 1) := by decide +kernel
theorem dL_law_204 : decode cL_law 204 = .ok (.iadd, 1) := by decide +kernel
theorem dL_law_205 : decode cL_law 205 = .ok (.iaload, 1) := by decide +kernel
theorem dL_law_206 : decode cL_law 206 = .ok (.invokevirtual 13, 3) := by decide +kernel
theorem dL_law_209 : decode cL_law 209 = .ok (.aload_n 2, 1) := by decide +kernel
theorem dL_law_210 : decode cL_law 210 = .ok (.aload_n 0, 1) := by decide +kernel
theorem dL_law_211 : decode cL_law 211 = .ok (.iload_n 3, 1) := by decide +kernel
theorem dL_law_212 : decode cL_law 212 = .ok (.iconst 1, 1) := by decide +kernel
theorem dL_law_213 : decode cL_law 213 = .ok (.iadd, 1) := by decide +kernel
theorem dL_law_214 : decode cL_law 214 = .ok (.iaload, 1) := by decide +kernel
theorem dL_law_215 : decode cL_law 215 = .ok (.aload_n 0, 1) := by decide +kernel
theorem dL_law_216 : decode cL_law 216 = .ok (.iload_n 3, 1) := by decide +kernel
theorem dL_law_217 : decode cL_law 217 = .ok (.iconst 2, 1) := by decide +kernel
theorem dL_law_218 : decode cL_law 218 = .ok (.iadd, 1) := by decide +kernel
theorem dL_law_219 : decode cL_law 219 = .ok (.iaload, 1) := by decide +kernel
theorem dL_law_220 : decode cL_law 220 = .ok (.aload_n 0, 1) := by decide +kernel
theorem dL_law_221 : decode cL_law 221 = .ok (.iload_n 3, 1) := by decide +kernel
theorem dL_law_222 : decode cL_law 222 = .ok (.iconst 3, 1) := by decide +kernel
theorem dL_law_223 : decode cL_law 223 = .ok (.iadd, 1) := by decide +kernel
theorem dL_law_224 : decode cL_law 224 = .ok (.iaload, 1) := by decide +kernel
theorem dL_law_225 : decode cL_law 225 = .ok (.aload_n 0, 1) := by decide +kernel
theorem dL_law_226 : decode cL_law 226 = .ok (.iload_n 3, 1) := by decide +kernel
theorem dL_law_227 : decode cL_law 227 = .ok (.iconst 4, 1) := by decide +kernel
theorem dL_law_228 : decode cL_law 228 = .ok (.iadd, 1) := by decide +kernel
theorem dL_law_229 : decode cL_law 229 = .ok (.iaload, 1) := by decide +kernel
theorem dL_law_230 : decode cL_law 230 = .ok (.aload_n 0, 1) := by decide +kernel
theorem dL_law_231 : decode cL_law 231 = .ok (.iload_n 3, 1) := by decide +kernel
theorem dL_law_232 : decode cL_law 232 = .ok (.iconst 5, 1) := by decide +kernel
theorem dL_law_233 : decode cL_law 233 = .ok (.iadd, 1) := by decide +kernel
theorem dL_law_234 : decode cL_law 234 = .ok (.iaload, 1) := by decide +kernel
theorem dL_law_235 : decode cL_law 235 = .ok (.invokevirtual 17, 3) := by decide +kernel
theorem dL_law_238 : decode cL_law 238 = .ok (.if_icmp .eq 828, 3) := by decide +kernel
theorem dL_law_241 : decode cL_law 241 = .ok (.iconst 0, 1) := by decide +kernel
theorem dL_law_242 : decode cL_law 242 = .ok (.ireturn, 1) := by decide +kernel
theorem dL_law_243 : decode cL_law 243 = .ok (.aload_n 1, 1) := by decide +kernel
theorem dL_law_244 : decode cL_law 244 = .ok (.aload_n 0, 1) := by decide +kernel
theorem dL_law_245 : decode cL_law 245 = .ok (.iload_n 3, 1) := by decide +kernel
theorem dL_law_246 : decode cL_law 246 = .ok (.iconst 1, 1) := by decide +kernel
theorem dL_law_247 : decode cL_law 247 = .ok (.iadd, 1) := by decide +kernel
theorem dL_law_248 : decode cL_law 248 = .ok (.iaload, 1) := by decide +kernel
theorem dL_law_249 : decode cL_law 249 = .ok (.invokevirtual 18, 3) := by decide +kernel
theorem dL_law_252 : decode cL_law 252 = .ok (.aload_n 2, 1) := by decide +kernel
theorem dL_law_253 : decode cL_law 253 = .ok (.aload_n 0, 1) := by decide +kernel
theorem dL_law_254 : decode cL_law 254 = .ok (.iload_n 3, 1) := by decide +kernel
theorem dL_law_255 : decode cL_law 255 = .ok (.iconst 1, 1) := by decide +kernel
theorem dL_law_256 : decode cL_law 256 = .ok (.iadd, 1) := by decide +kernel
theorem dL_law_257 : decode cL_law 257 = .ok (.iaload, 1) := by decide +kernel
theorem dL_law_258 : decode cL_law 258 = .ok (.invokevirtual 22, 3) := by decide +kernel
theorem dL_law_261 : decode cL_law 261 = .ok (.if_icmp .eq 805, 3) := by decide +kernel
theorem dL_law_264 : decode cL_law 264 = .ok (.iconst 0, 1) := by decide +kernel
theorem dL_law_265 : decode cL_law 265 = .ok (.ireturn, 1) := by decide +kernel
theorem dL_law_266 : decode cL_law 266 = .ok (.aload_n 1, 1) := by decide +kernel
theorem dL_law_267 : decode cL_law 267 = .ok (.invokevirtual 23, 3) := by decide +kernel
theorem dL_law_270 : decode cL_law 270 = .ok (.aload_n 2, 1) := by decide +kernel
theorem dL_law_271 : decode cL_law 271 = .ok (.invokevirtual 27, 3) := by decide +kernel
theorem dL_law_274 : decode cL_law 274 = .ok (.if_icmp .eq 792, 3) := by decide +kernel
theorem dL_law_277 : decode cL_law 277 = .ok (.iconst 0, 1) := by decide +kernel
theorem dL_law_278 : decode cL_law 278 = .ok (.ireturn, 1) := by decide +kernel
theorem dL_law_279 : decode cL_law 279 = .ok (.aload_n 1, 1) := by decide +kernel
theorem dL_law_280 : decode cL_law 280 = .ok (.aload_n 0, 1) := by decide +kernel
theorem dL_law_281 : decode cL_law 281 = .ok (.iload_n 3, 1) := by decide +kernel
theorem dL_law_282 : decode cL_law 282 = .ok (.iconst 1, 1) := by decide +kernel
theorem dL_law_283 : decode cL_law 283 = .ok (.iadd, 1) := by decide +kernel
theorem dL_law_284 : decode cL_law 284 = .ok (.iaload, 1) := by decide +kernel
theorem dL_law_285 : decode cL_law 285 = .ok (.invokevirtual 28, 3) := by decide +kernel
theorem dL_law_288 : decode cL_law 288 = .ok (.aload_n 2, 1) := by decide +kernel
theorem dL_law_289 : decode cL_law 289 = .ok (.aload_n 0, 1) := by decide +kernel
theorem dL_law_290 : decode cL_law 290 = .ok (.iload_n 3, 1) := by decide +kernel
theorem dL_law_291 : decode cL_law 291 = .ok (.iconst 1, 1) := by decide +kernel
theorem dL_law_292 : decode cL_law 292 = .ok (.iadd, 1) := by decide +kernel
theorem dL_law_293 : decode cL_law 293 = .ok (.iaload, 1) := by decide +kernel
theorem dL_law_294 : decode cL_law 294 = .ok (.invokevirtual 32, 3) := by decide +kernel
theorem dL_law_297 : decode cL_law 297 = .ok (.if_icmp .eq 769, 3) := by decide +kernel
theorem dL_law_300 : decode cL_law 300 = .ok (.iconst 0, 1) := by decide +kernel
theorem dL_law_301 : decode cL_law 301 = .ok (.ireturn, 1) := by decide +kernel
theorem dL_law_302 : decode cL_law 302 = .ok (.aload_n 1, 1) := by decide +kernel
theorem dL_law_303 : decode cL_law 303 = .ok (.aload_n 0, 1) := by decide +kernel
theorem dL_law_304 : decode cL_law 304 = .ok (.iload_n 3, 1) := by decide +kernel
theorem dL_law_305 : decode cL_law 305 = .ok (.iconst 1, 1) := by decide +kernel
theorem dL_law_306 : decode cL_law 306 = .ok (.iadd, 1) := by decide +kernel
theorem dL_law_307 : decode cL_law 307 = .ok (.iaload, 1) := by decide +kernel
theorem dL_law_308 : decode cL_law 308 = .ok (.invokevirtual 33, 3) := by decide +kernel
theorem dL_law_311 : decode cL_law 311 = .ok (.aload_n 2, 1) := by decide +kernel
theorem dL_law_312 : decode cL_law 312 = .ok (.aload_n 0, 1) := by decide +kernel
theorem dL_law_313 : decode cL_law 313 = .ok (.iload_n 3, 1) := by decide +kernel
theorem dL_law_314 : decode cL_law 314 = .ok (.iconst 1, 1) := by decide +kernel
theorem dL_law_315 : decode cL_law 315 = .ok (.iadd, 1) := by decide +kernel
theorem dL_law_316 : decode cL_law 316 = .ok (.iaload, 1) := by decide +kernel
theorem dL_law_317 : decode cL_law 317 = .ok (.invokevirtual 36, 3) := by decide +kernel
theorem dL_law_320 : decode cL_law 320 = .ok (.if_icmp .eq 746, 3) := by decide +kernel
theorem dL_law_323 : decode cL_law 323 = .ok (.iconst 0, 1) := by decide +kernel
theorem dL_law_324 : decode cL_law 324 = .ok (.ireturn, 1) := by decide +kernel
theorem dL_law_325 : decode cL_law 325 = .ok (.aload_n 1, 1) := by decide +kernel
theorem dL_law_326 : decode cL_law 326 = .ok (.aload_n 0, 1) := by decide +kernel
theorem dL_law_327 : decode cL_law 327 = .ok (.iload_n 3, 1) := by decide +kernel
theorem dL_law_328 : decode cL_law 328 = .ok (.iconst 1, 1) := by decide +kernel
theorem dL_law_329 : decode cL_law 329 = .ok (.iadd, 1) := by decide +kernel
theorem dL_law_330 : decode cL_law 330 = .ok (.iaload, 1) := by decide +kernel
theorem dL_law_331 : decode cL_law 331 = .ok (.aload_n 0, 1) := by decide +kernel
theorem dL_law_332 : decode cL_law 332 = .ok (.iload_n 3, 1) := by decide +kernel
theorem dL_law_333 : decode cL_law 333 = .ok (.iconst 2, 1) := by decide +kernel
theorem dL_law_334 : decode cL_law 334 = .ok (.iadd, 1) := by decide +kernel
theorem dL_law_335 : decode cL_law 335 = .ok (.iaload, 1) := by decide +kernel
theorem dL_law_336 : decode cL_law 336 = .ok (.aload_n 0, 1) := by decide +kernel
theorem dL_law_337 : decode cL_law 337 = .ok (.iload_n 3, 1) := by decide +kernel
theorem dL_law_338 : decode cL_law 338 = .ok (.iconst 3, 1) := by decide +kernel
theorem dL_law_339 : decode cL_law 339 = .ok (.iadd, 1) := by decide +kernel
theorem dL_law_340 : decode cL_law 340 = .ok (.iaload, 1) := by decide +kernel
theorem dL_law_341 : decode cL_law 341 = .ok (.invokevirtual 37, 3) := by decide +kernel
theorem dL_law_344 : decode cL_law 344 = .ok (.aload_n 2, 1) := by decide +kernel
theorem dL_law_345 : decode cL_law 345 = .ok (.aload_n 0, 1) := by decide +kernel
theorem dL_law_346 : decode cL_law 346 = .ok (.iload_n 3, 1) := by decide +kernel
theorem dL_law_347 : decode cL_law 347 = .ok (.iconst 1, 1) := by decide +kernel
theorem dL_law_348 : decode cL_law 348 = .ok (.iadd, 1) := by decide +kernel
theorem dL_law_349 : decode cL_law 349 = .ok (.iaload, 1) := by decide +kernel
theorem dL_law_350 : decode cL_law 350 = .ok (.aload_n 0, 1) := by decide +kernel
theorem dL_law_351 : decode cL_law 351 = .ok (.iload_n 3, 1) := by decide +kernel
theorem dL_law_352 : decode cL_law 352 = .ok (.iconst 2, 1) := by decide +kernel
theorem dL_law_353 : decode cL_law 353 = .ok (.iadd, 1) := by decide +kernel
theorem dL_law_354 : decode cL_law 354 = .ok (.iaload, 1) := by decide +kernel
theorem dL_law_355 : decode cL_law 355 = .ok (.aload_n 0, 1) := by decide +kernel
theorem dL_law_356 : decode cL_law 356 = .ok (.iload_n 3, 1) := by decide +kernel
theorem dL_law_357 : decode cL_law 357 = .ok (.iconst 3, 1) := by decide +kernel
theorem dL_law_358 : decode cL_law 358 = .ok (.iadd, 1) := by decide +kernel
theorem dL_law_359 : decode cL_law 359 = .ok (.iaload, 1) := by decide +kernel
theorem dL_law_360 : decode cL_law 360 = .ok (.invokevirtual 41, 3) := by decide +kernel
theorem dL_law_363 : decode cL_law 363 = .ok (.if_icmp .eq 703, 3) := by decide +kernel
theorem dL_law_366 : decode cL_law 366 = .ok (.iconst 0, 1) := by decide +kernel
theorem dL_law_367 : decode cL_law 367 = .ok (.ireturn, 1) := by decide +kernel
theorem dL_law_368 : decode cL_law 368 = .ok (.aload_n 1, 1) := by decide +kernel
theorem dL_law_369 : decode cL_law 369 = .ok (.aload_n 0, 1) := by decide +kernel
theorem dL_law_370 : decode cL_law 370 = .ok (.iload_n 3, 1) := by decide +kernel
theorem dL_law_371 : decode cL_law 371 = .ok (.iconst 1, 1) := by decide +kernel
theorem dL_law_372 : decode cL_law 372 = .ok (.iadd, 1) := by decide +kernel
theorem dL_law_373 : decode cL_law 373 = .ok (.iaload, 1) := by decide +kernel
theorem dL_law_374 : decode cL_law 374 = .ok (.aload_n 0, 1) := by decide +kernel
theorem dL_law_375 : decode cL_law 375 = .ok (.iload_n 3, 1) := by decide +kernel
theorem dL_law_376 : decode cL_law 376 = .ok (.iconst 2, 1) := by decide +kernel
theorem dL_law_377 : decode cL_law 377 = .ok (.iadd, 1) := by decide +kernel
theorem dL_law_378 : decode cL_law 378 = .ok (.iaload, 1) := by decide +kernel
theorem dL_law_379 : decode cL_law 379 = .ok (.invokevirtual 42, 3) := by decide +kernel
theorem dL_law_382 : decode cL_law 382 = .ok (.aload_n 2, 1) := by decide +kernel
theorem dL_law_383 : decode cL_law 383 = .ok (.aload_n 0, 1) := by decide +kernel
theorem dL_law_384 : decode cL_law 384 = .ok (.iload_n 3, 1) := by decide +kernel
theorem dL_law_385 : decode cL_law 385 = .ok (.iconst 1, 1) := by decide +kernel
theorem dL_law_386 : decode cL_law 386 = .ok (.iadd, 1) := by decide +kernel
theorem dL_law_387 : decode cL_law 387 = .ok (.iaload, 1) := by decide +kernel
theorem dL_law_388 : decode cL_law 388 = .ok (.aload_n 0, 1) := by decide +kernel
theorem dL_law_389 : decode cL_law 389 = .ok (.iload_n 3, 1) := by decide +kernel
theorem dL_law_390 : decode cL_law 390 = .ok (.iconst 2, 1) := by decide +kernel
theorem dL_law_391 : decode cL_law 391 = .ok (.iadd, 1) := by decide +kernel
theorem dL_law_392 : decode cL_law 392 = .ok (.iaload, 1) := by decide +kernel
theorem dL_law_393 : decode cL_law 393 = .ok (.invokevirtual 46, 3) := by decide +kernel
theorem dL_law_396 : decode cL_law 396 = .ok (.if_icmp .eq 670, 3) := by decide +kernel
theorem dL_law_399 : decode cL_law 399 = .ok (.iconst 0, 1) := by decide +kernel
theorem dL_law_400 : decode cL_law 400 = .ok (.ireturn, 1) := by decide +kernel
theorem dL_law_401 : decode cL_law 401 = .ok (.aload_n 1, 1) := by decide +kernel
theorem dL_law_402 : decode cL_law 402 = .ok (.aload_n 0, 1) := by decide +kernel
theorem dL_law_403 : decode cL_law 403 = .ok (.iload_n 3, 1) := by decide +kernel
theorem dL_law_404 : decode cL_law 404 = .ok (.iconst 1, 1) := by decide +kernel
theorem dL_law_405 : decode cL_law 405 = .ok (.iadd, 1) := by decide +kernel
theorem dL_law_406 : decode cL_law 406 = .ok (.iaload, 1) := by decide +kernel
theorem dL_law_407 : decode cL_law 407 = .ok (.aload_n 0, 1) := by decide +kernel
theorem dL_law_408 : decode cL_law 408 = .ok (.iload_n 3, 1) := by decide +kernel
theorem dL_law_409 : decode cL_law 409 = .ok (.iconst 2, 1) := by decide +kernel
theorem dL_law_410 : decode cL_law 410 = .ok (.iadd, 1) := by decide +kernel
theorem dL_law_411 : decode cL_law 411 = .ok (.iaload, 1) := by decide +kernel
theorem dL_law_412 : decode cL_law 412 = .ok (.invokevirtual 47, 3) := by decide +kernel
theorem dL_law_415 : decode cL_law 415 = .ok (.aload_n 2, 1) := by decide +kernel
theorem dL_law_416 : decode cL_law 416 = .ok (.aload_n 0, 1) := by decide +kernel
theorem dL_law_417 : decode cL_law 417 = .ok (.iload_n 3, 1) := by decide +kernel
theorem dL_law_418 : decode cL_law 418 = .ok (.iconst 1, 1) := by decide +kernel
theorem dL_law_419 : decode cL_law 419 = .ok (.iadd, 1) := by decide +kernel
theorem dL_law_420 : decode cL_law 420 = .ok (.iaload, 1) := by decide +kernel
theorem dL_law_421 : decode cL_law 421 = .ok (.aload_n 0, 1) := by decide +kernel
theorem dL_law_422 : decode cL_law 422 = .ok (.iload_n 3, 1) := by decide +kernel
theorem dL_law_423 : decode cL_law 423 = .ok (.iconst 2, 1) := by decide +kernel
theorem dL_law_424 : decode cL_law 424 = .ok (.iadd, 1) := by decide +kernel
theorem dL_law_425 : decode cL_law 425 = .ok (.iaload, 1) := by decide +kernel
theorem dL_law_426 : decode cL_law 426 = .ok (.invokevirtual 50, 3) := by decide +kernel
theorem dL_law_429 : decode cL_law 429 = .ok (.if_icmp .eq 637, 3) := by decide +kernel
theorem dL_law_432 : decode cL_law 432 = .ok (.iconst 0, 1) := by decide +kernel
theorem dL_law_433 : decode cL_law 433 = .ok (.ireturn, 1) := by decide +kernel
theorem dL_law_434 : decode cL_law 434 = .ok (.aload_n 1, 1) := by decide +kernel
theorem dL_law_435 : decode cL_law 435 = .ok (.aload_n 0, 1) := by decide +kernel
theorem dL_law_436 : decode cL_law 436 = .ok (.iload_n 3, 1) := by decide +kernel
theorem dL_law_437 : decode cL_law 437 = .ok (.iconst 1, 1) := by decide +kernel
theorem dL_law_438 : decode cL_law 438 = .ok (.iadd, 1) := by decide +kernel
theorem dL_law_439 : decode cL_law 439 = .ok (.iaload, 1) := by decide +kernel
theorem dL_law_440 : decode cL_law 440 = .ok (.aload_n 0, 1) := by decide +kernel
theorem dL_law_441 : decode cL_law 441 = .ok (.iload_n 3, 1) := by decide +kernel
theorem dL_law_442 : decode cL_law 442 = .ok (.iconst 2, 1) := by decide +kernel
theorem dL_law_443 : decode cL_law 443 = .ok (.iadd, 1) := by decide +kernel
theorem dL_law_444 : decode cL_law 444 = .ok (.iaload, 1) := by decide +kernel
theorem dL_law_445 : decode cL_law 445 = .ok (.aload_n 0, 1) := by decide +kernel
theorem dL_law_446 : decode cL_law 446 = .ok (.iload_n 3, 1) := by decide +kernel
theorem dL_law_447 : decode cL_law 447 = .ok (.iconst 3, 1) := by decide +kernel
theorem dL_law_448 : decode cL_law 448 = .ok (.iadd, 1) := by decide +kernel
theorem dL_law_449 : decode cL_law 449 = .ok (.iaload, 1) := by decide +kernel
theorem dL_law_450 : decode cL_law 450 = .ok (.aload_n 0, 1) := by decide +kernel
theorem dL_law_451 : decode cL_law 451 = .ok (.iload_n 3, 1) := by decide +kernel
theorem dL_law_452 : decode cL_law 452 = .ok (.iconst 4, 1) := by decide +kernel
theorem dL_law_453 : decode cL_law 453 = .ok (.iadd, 1) := by decide +kernel
theorem dL_law_454 : decode cL_law 454 = .ok (.iaload, 1) := by decide +kernel
theorem dL_law_455 : decode cL_law 455 = .ok (.invokevirtual 51, 3) := by decide +kernel
theorem dL_law_458 : decode cL_law 458 = .ok (.aload_n 2, 1) := by decide +kernel
theorem dL_law_459 : decode cL_law 459 = .ok (.aload_n 0, 1) := by decide +kernel
theorem dL_law_460 : decode cL_law 460 = .ok (.iload_n 3, 1) := by decide +kernel
theorem dL_law_461 : decode cL_law 461 = .ok (.iconst 1, 1) := by decide +kernel
theorem dL_law_462 : decode cL_law 462 = .ok (.iadd, 1) := by decide +kernel
theorem dL_law_463 : decode cL_law 463 = .ok (.iaload, 1) := by decide +kernel
theorem dL_law_464 : decode cL_law 464 = .ok (.aload_n 0, 1) := by decide +kernel
theorem dL_law_465 : decode cL_law 465 = .ok (.iload_n 3, 1) := by decide +kernel
theorem dL_law_466 : decode cL_law 466 = .ok (.iconst 2, 1) := by decide +kernel
theorem dL_law_467 : decode cL_law 467 = .ok (.iadd, 1) := by decide +kernel
theorem dL_law_468 : decode cL_law 468 = .ok (.iaload, 1) := by decide +kernel
theorem dL_law_469 : decode cL_law 469 = .ok (.aload_n 0, 1) := by decide +kernel
theorem dL_law_470 : decode cL_law 470 = .ok (.iload_n 3, 1) := by decide +kernel
theorem dL_law_471 : decode cL_law 471 = .ok (.iconst 3, 1) := by decide +kernel
theorem dL_law_472 : decode cL_law 472 = .ok (.iadd, 1) := by decide +kernel
theorem dL_law_473 : decode cL_law 473 = .ok (.iaload, 1) := by decide +kernel
theorem dL_law_474 : decode cL_law 474 = .ok (.aload_n 0, 1) := by decide +kernel
theorem dL_law_475 : decode cL_law 475 = .ok (.iload_n 3, 1) := by decide +kernel
theorem dL_law_476 : decode cL_law 476 = .ok (.iconst 4, 1) := by decide +kernel
theorem dL_law_477 : decode cL_law 477 = .ok (.iadd, 1) := by decide +kernel
theorem dL_law_478 : decode cL_law 478 = .ok (.iaload, 1) := by decide +kernel
theorem dL_law_479 : decode cL_law 479 = .ok (.invokevirtual 55, 3) := by decide +kernel
theorem dL_law_482 : decode cL_law 482 = .ok (.if_icmp .eq 584, 3) := by decide +kernel
theorem dL_law_485 : decode cL_law 485 = .ok (.iconst 0, 1) := by decide +kernel
theorem dL_law_486 : decode cL_law 486 = .ok (.ireturn, 1) := by decide +kernel
theorem dL_law_487 : decode cL_law 487 = .ok (.aload_n 1, 1) := by decide +kernel
theorem dL_law_488 : decode cL_law 488 = .ok (.aload_n 0, 1) := by decide +kernel
theorem dL_law_489 : decode cL_law 489 = .ok (.iload_n 3, 1) := by decide +kernel
theorem dL_law_490 : decode cL_law 490 = .ok (.iconst 1, 1) := by decide +kernel
theorem dL_law_491 : decode cL_law 491 = .ok (.iadd, 1) := by decide +kernel
theorem dL_law_492 : decode cL_law 492 = .ok (.iaload, 1) := by decide +kernel
theorem dL_law_493 : decode cL_law 493 = .ok (.aload_n 0, 1) := by decide +kernel
theorem dL_law_494 : decode cL_law 494 = .ok (.iload_n 3, 1) := by decide +kernel
theorem dL_law_495 : decode cL_law 495 = .ok (.iconst 2, 1) := by decide +kernel
theorem dL_law_496 : decode cL_law 496 = .ok (.iadd, 1) := by decide +kernel
theorem dL_law_497 : decode cL_law 497 = .ok (.iaload, 1) := by decide +kernel
theorem dL_law_498 : decode cL_law 498 = .ok (.aload_n 0, 1) := by decide +kernel
theorem dL_law_499 : decode cL_law 499 = .ok (.iload_n 3, 1) := by decide +kernel
theorem dL_law_500 : decode cL_law 500 = .ok (.iconst 3, 1) := by decide +kernel
theorem dL_law_501 : decode cL_law 501 = .ok (.iadd, 1) := by decide +kernel
theorem dL_law_502 : decode cL_law 502 = .ok (.iaload, 1) := by decide +kernel
theorem dL_law_503 : decode cL_law 503 = .ok (.invokevirtual 56, 3) := by decide +kernel
theorem dL_law_506 : decode cL_law 506 = .ok (.aload_n 2, 1) := by decide +kernel
theorem dL_law_507 : decode cL_law 507 = .ok (.aload_n 0, 1) := by decide +kernel
theorem dL_law_508 : decode cL_law 508 = .ok (.iload_n 3, 1) := by decide +kernel
theorem dL_law_509 : decode cL_law 509 = .ok (.iconst 1, 1) := by decide +kernel
theorem dL_law_510 : decode cL_law 510 = .ok (.iadd, 1) := by decide +kernel
theorem dL_law_511 : decode cL_law 511 = .ok (.iaload, 1) := by decide +kernel
theorem dL_law_512 : decode cL_law 512 = .ok (.aload_n 0, 1) := by decide +kernel
theorem dL_law_513 : decode cL_law 513 = .ok (.iload_n 3, 1) := by decide +kernel
theorem dL_law_514 : decode cL_law 514 = .ok (.iconst 2, 1) := by decide +kernel
theorem dL_law_515 : decode cL_law 515 = .ok (.iadd, 1) := by decide +kernel
theorem dL_law_516 : decode cL_law 516 = .ok (.iaload, 1) := by decide +kernel
theorem dL_law_517 : decode cL_law 517 = .ok (.aload_n 0, 1) := by decide +kernel
theorem dL_law_518 : decode cL_law 518 = .ok (.iload_n 3, 1) := by decide +kernel
theorem dL_law_519 : decode cL_law 519 = .ok (.iconst 3, 1) := by decide +kernel
theorem dL_law_520 : decode cL_law 520 = .ok (.iadd, 1) := by decide +kernel
theorem dL_law_521 : decode cL_law 521 = .ok (.iaload, 1) := by decide +kernel
theorem dL_law_522 : decode cL_law 522 = .ok (.invokevirtual 59, 3) := by decide +kernel
theorem dL_law_525 : decode cL_law 525 = .ok (.if_icmp .eq 541, 3) := by decide +kernel
theorem dL_law_528 : decode cL_law 528 = .ok (.iconst 0, 1) := by decide +kernel
theorem dL_law_529 : decode cL_law 529 = .ok (.ireturn, 1) := by decide +kernel
theorem dL_law_530 : decode cL_law 530 = .ok (.aload_n 1, 1) := by decide +kernel
theorem dL_law_531 : decode cL_law 531 = .ok (.aload_n 0, 1) := by decide +kernel
theorem dL_law_532 : decode cL_law 532 = .ok (.iload_n 3, 1) := by decide +kernel
theorem dL_law_533 : decode cL_law 533 = .ok (.iconst 1, 1) := by decide +kernel
theorem dL_law_534 : decode cL_law 534 = .ok (.iadd, 1) := by decide +kernel
theorem dL_law_535 : decode cL_law 535 = .ok (.iaload, 1) := by decide +kernel
theorem dL_law_536 : decode cL_law 536 = .ok (.invokevirtual 60, 3) := by decide +kernel
theorem dL_law_539 : decode cL_law 539 = .ok (.aload_n 2, 1) := by decide +kernel
theorem dL_law_540 : decode cL_law 540 = .ok (.aload_n 0, 1) := by decide +kernel
theorem dL_law_541 : decode cL_law 541 = .ok (.iload_n 3, 1) := by decide +kernel
theorem dL_law_542 : decode cL_law 542 = .ok (.iconst 1, 1) := by decide +kernel
theorem dL_law_543 : decode cL_law 543 = .ok (.iadd, 1) := by decide +kernel
theorem dL_law_544 : decode cL_law 544 = .ok (.iaload, 1) := by decide +kernel
theorem dL_law_545 : decode cL_law 545 = .ok (.invokevirtual 63, 3) := by decide +kernel
theorem dL_law_548 : decode cL_law 548 = .ok (.if_icmp .eq 518, 3) := by decide +kernel
theorem dL_law_551 : decode cL_law 551 = .ok (.iconst 0, 1) := by decide +kernel
theorem dL_law_552 : decode cL_law 552 = .ok (.ireturn, 1) := by decide +kernel
theorem dL_law_553 : decode cL_law 553 = .ok (.aload_n 1, 1) := by decide +kernel
theorem dL_law_554 : decode cL_law 554 = .ok (.aload_n 0, 1) := by decide +kernel
theorem dL_law_555 : decode cL_law 555 = .ok (.iload_n 3, 1) := by decide +kernel
theorem dL_law_556 : decode cL_law 556 = .ok (.iconst 1, 1) := by decide +kernel
theorem dL_law_557 : decode cL_law 557 = .ok (.iadd, 1) := by decide +kernel
theorem dL_law_558 : decode cL_law 558 = .ok (.iaload, 1) := by decide +kernel
theorem dL_law_559 : decode cL_law 559 = .ok (.aload_n 0, 1) := by decide +kernel
theorem dL_law_560 : decode cL_law 560 = .ok (.iload_n 3, 1) := by decide +kernel
theorem dL_law_561 : decode cL_law 561 = .ok (.iconst 2, 1) := by decide +kernel
theorem dL_law_562 : decode cL_law 562 = .ok (.iadd, 1) := by decide +kernel
theorem dL_law_563 : decode cL_law 563 = .ok (.iaload, 1) := by decide +kernel
theorem dL_law_564 : decode cL_law 564 = .ok (.invokevirtual 64, 3) := by decide +kernel
theorem dL_law_567 : decode cL_law 567 = .ok (.aload_n 2, 1) := by decide +kernel
theorem dL_law_568 : decode cL_law 568 = .ok (.aload_n 0, 1) := by decide +kernel
theorem dL_law_569 : decode cL_law 569 = .ok (.iload_n 3, 1) := by decide +kernel
theorem dL_law_570 : decode cL_law 570 = .ok (.iconst 1, 1) := by decide +kernel
theorem dL_law_571 : decode cL_law 571 = .ok (.iadd, 1) := by decide +kernel
theorem dL_law_572 : decode cL_law 572 = .ok (.iaload, 1) := by decide +kernel
theorem dL_law_573 : decode cL_law 573 = .ok (.aload_n 0, 1) := by decide +kernel
theorem dL_law_574 : decode cL_law 574 = .ok (.iload_n 3, 1) := by decide +kernel
theorem dL_law_575 : decode cL_law 575 = .ok (.iconst 2, 1) := by decide +kernel
theorem dL_law_576 : decode cL_law 576 = .ok (.iadd, 1) := by decide +kernel
theorem dL_law_577 : decode cL_law 577 = .ok (.iaload, 1) := by decide +kernel
theorem dL_law_578 : decode cL_law 578 = .ok (.invokevirtual 67, 3) := by decide +kernel
theorem dL_law_581 : decode cL_law 581 = .ok (.if_icmp .eq 485, 3) := by decide +kernel
theorem dL_law_584 : decode cL_law 584 = .ok (.iconst 0, 1) := by decide +kernel
theorem dL_law_585 : decode cL_law 585 = .ok (.ireturn, 1) := by decide +kernel
theorem dL_law_586 : decode cL_law 586 = .ok (.aload_n 1, 1) := by decide +kernel
theorem dL_law_587 : decode cL_law 587 = .ok (.aload_n 0, 1) := by decide +kernel
theorem dL_law_588 : decode cL_law 588 = .ok (.iload_n 3, 1) := by decide +kernel
theorem dL_law_589 : decode cL_law 589 = .ok (.iconst 1, 1) := by decide +kernel
theorem dL_law_590 : decode cL_law 590 = .ok (.iadd, 1) := by decide +kernel
theorem dL_law_591 : decode cL_law 591 = .ok (.iaload, 1) := by decide +kernel
theorem dL_law_592 : decode cL_law 592 = .ok (.invokevirtual 68, 3) := by decide +kernel
theorem dL_law_595 : decode cL_law 595 = .ok (.aload_n 2, 1) := by decide +kernel
theorem dL_law_596 : decode cL_law 596 = .ok (.aload_n 0, 1) := by decide +kernel
theorem dL_law_597 : decode cL_law 597 = .ok (.iload_n 3, 1) := by decide +kernel
theorem dL_law_598 : decode cL_law 598 = .ok (.iconst 1, 1) := by decide +kernel
theorem dL_law_599 : decode cL_law 599 = .ok (.iadd, 1) := by decide +kernel
theorem dL_law_600 : decode cL_law 600 = .ok (.iaload, 1) := by decide +kernel
theorem dL_law_601 : decode cL_law 601 = .ok (.invokevirtual 71, 3) := by decide +kernel
theorem dL_law_604 : decode cL_law 604 = .ok (.if_icmp .eq 462, 3) := by decide +kernel
theorem dL_law_607 : decode cL_law 607 = .ok (.iconst 0, 1) := by decide +kernel
theorem dL_law_608 : decode cL_law 608 = .ok (.ireturn, 1) := by decide +kernel
theorem dL_law_609 : decode cL_law 609 = .ok (.aload_n 1, 1) := by decide +kernel
theorem dL_law_610 : decode cL_law 610 = .ok (.invokevirtual 72, 3) := by decide +kernel
theorem dL_law_613 : decode cL_law 613 = .ok (.aload_n 2, 1) := by decide +kernel
theorem dL_law_614 : decode cL_law 614 = .ok (.invokevirtual 75, 3) := by decide +kernel
theorem dL_law_617 : decode cL_law 617 = .ok (.if_icmp .eq 449, 3) := by decide +kernel
theorem dL_law_620 : decode cL_law 620 = .ok (.iconst 0, 1) := by decide +kernel
theorem dL_law_621 : decode cL_law 621 = .ok (.ireturn, 1) := by decide +kernel
theorem dL_law_622 : decode cL_law 622 = .ok (.aload_n 1, 1) := by decide +kernel
theorem dL_law_623 : decode cL_law 623 = .ok (.aload_n 0, 1) := by decide +kernel
theorem dL_law_624 : decode cL_law 624 = .ok (.iload_n 3, 1) := by decide +kernel
theorem dL_law_625 : decode cL_law 625 = .ok (.iconst 1, 1) := by decide +kernel
theorem dL_law_626 : decode cL_law 626 = .ok (.iadd, 1) := by decide +kernel
theorem dL_law_627 : decode cL_law 627 = .ok (.iaload, 1) := by decide +kernel
theorem dL_law_628 : decode cL_law 628 = .ok (.aload_n 0, 1) := by decide +kernel
theorem dL_law_629 : decode cL_law 629 = .ok (.iload_n 3, 1) := by decide +kernel
theorem dL_law_630 : decode cL_law 630 = .ok (.iconst 2, 1) := by decide +kernel
theorem dL_law_631 : decode cL_law 631 = .ok (.iadd, 1) := by decide +kernel
theorem dL_law_632 : decode cL_law 632 = .ok (.iaload, 1) := by decide +kernel
theorem dL_law_633 : decode cL_law 633 = .ok (.invokevirtual 76, 3) := by decide +kernel
theorem dL_law_636 : decode cL_law 636 = .ok (.aload_n 2, 1) := by decide +kernel
theorem dL_law_637 : decode cL_law 637 = .ok (.aload_n 0, 1) := by decide +kernel
theorem dL_law_638 : decode cL_law 638 = .ok (.iload_n 3, 1) := by decide +kernel
theorem dL_law_639 : decode cL_law 639 = .ok (.iconst 1, 1) := by decide +kernel
theorem dL_law_640 : decode cL_law 640 = .ok (.iadd, 1) := by decide +kernel
theorem dL_law_641 : decode cL_law 641 = .ok (.iaload, 1) := by decide +kernel
theorem dL_law_642 : decode cL_law 642 = .ok (.aload_n 0, 1) := by decide +kernel
theorem dL_law_643 : decode cL_law 643 = .ok (.iload_n 3, 1) := by decide +kernel
theorem dL_law_644 : decode cL_law 644 = .ok (.iconst 2, 1) := by decide +kernel
theorem dL_law_645 : decode cL_law 645 = .ok (.iadd, 1) := by decide +kernel
theorem dL_law_646 : decode cL_law 646 = .ok (.iaload, 1) := by decide +kernel
theorem dL_law_647 : decode cL_law 647 = .ok (.invokevirtual 79, 3) := by decide +kernel
theorem dL_law_650 : decode cL_law 650 = .ok (.if_icmp .eq 416, 3) := by decide +kernel
theorem dL_law_653 : decode cL_law 653 = .ok (.iconst 0, 1) := by decide +kernel
theorem dL_law_654 : decode cL_law 654 = .ok (.ireturn, 1) := by decide +kernel
theorem dL_law_655 : decode cL_law 655 = .ok (.aload_n 1, 1) := by decide +kernel
theorem dL_law_656 : decode cL_law 656 = .ok (.aload_n 0, 1) := by decide +kernel
theorem dL_law_657 : decode cL_law 657 = .ok (.iload_n 3, 1) := by decide +kernel
theorem dL_law_658 : decode cL_law 658 = .ok (.iconst 1, 1) := by decide +kernel
theorem dL_law_659 : decode cL_law 659 = .ok (.iadd, 1) := by decide +kernel
theorem dL_law_660 : decode cL_law 660 = .ok (.iaload, 1) := by decide +kernel
theorem dL_law_661 : decode cL_law 661 = .ok (.aload_n 0, 1) := by decide +kernel
theorem dL_law_662 : decode cL_law 662 = .ok (.iload_n 3, 1) := by decide +kernel
theorem dL_law_663 : decode cL_law 663 = .ok (.iconst 2, 1) := by decide +kernel
theorem dL_law_664 : decode cL_law 664 = .ok (.iadd, 1) := by decide +kernel
theorem dL_law_665 : decode cL_law 665 = .ok (.iaload, 1) := by decide +kernel
theorem dL_law_666 : decode cL_law 666 = .ok (.invokevirtual 80, 3) := by decide +kernel
theorem dL_law_669 : decode cL_law 669 = .ok (.aload_n 2, 1) := by decide +kernel
theorem dL_law_670 : decode cL_law 670 = .ok (.aload_n 0, 1) := by decide +kernel
theorem dL_law_671 : decode cL_law 671 = .ok (.iload_n 3, 1) := by decide +kernel
theorem dL_law_672 : decode cL_law 672 = .ok (.iconst 1, 1) := by decide +kernel
theorem dL_law_673 : decode cL_law 673 = .ok (.iadd, 1) := by decide +kernel
theorem dL_law_674 : decode cL_law 674 = .ok (.iaload, 1) := by decide +kernel
theorem dL_law_675 : decode cL_law 675 = .ok (.aload_n 0, 1) := by decide +kernel
theorem dL_law_676 : decode cL_law 676 = .ok (.iload_n 3, 1) := by decide +kernel
theorem dL_law_677 : decode cL_law 677 = .ok (.iconst 2, 1) := by decide +kernel
theorem dL_law_678 : decode cL_law 678 = .ok (.iadd, 1) := by decide +kernel
theorem dL_law_679 : decode cL_law 679 = .ok (.iaload, 1) := by decide +kernel
theorem dL_law_680 : decode cL_law 680 = .ok (.invokevirtual 83, 3) := by decide +kernel
theorem dL_law_683 : decode cL_law 683 = .ok (.if_icmp .eq 383, 3) := by decide +kernel
theorem dL_law_686 : decode cL_law 686 = .ok (.iconst 0, 1) := by decide +kernel
theorem dL_law_687 : decode cL_law 687 = .ok (.ireturn, 1) := by decide +kernel
theorem dL_law_688 : decode cL_law 688 = .ok (.aload_n 1, 1) := by decide +kernel
theorem dL_law_689 : decode cL_law 689 = .ok (.aload_n 0, 1) := by decide +kernel
theorem dL_law_690 : decode cL_law 690 = .ok (.iload_n 3, 1) := by decide +kernel
theorem dL_law_691 : decode cL_law 691 = .ok (.iconst 1, 1) := by decide +kernel
theorem dL_law_692 : decode cL_law 692 = .ok (.iadd, 1) := by decide +kernel
theorem dL_law_693 : decode cL_law 693 = .ok (.iaload, 1) := by decide +kernel
theorem dL_law_694 : decode cL_law 694 = .ok (.aload_n 0, 1) := by decide +kernel
theorem dL_law_695 : decode cL_law 695 = .ok (.iload_n 3, 1) := by decide +kernel
theorem dL_law_696 : decode cL_law 696 = .ok (.iconst 2, 1) := by decide +kernel
theorem dL_law_697 : decode cL_law 697 = .ok (.iadd, 1) := by decide +kernel
theorem dL_law_698 : decode cL_law 698 = .ok (.iaload, 1) := by decide +kernel
theorem dL_law_699 : decode cL_law 699 = .ok (.invokevirtual 84, 3) := by decide +kernel
theorem dL_law_702 : decode cL_law 702 = .ok (.aload_n 2, 1) := by decide +kernel
theorem dL_law_703 : decode cL_law 703 = .ok (.aload_n 0, 1) := by decide +kernel
theorem dL_law_704 : decode cL_law 704 = .ok (.iload_n 3, 1) := by decide +kernel
theorem dL_law_705 : decode cL_law 705 = .ok (.iconst 1, 1) := by decide +kernel
theorem dL_law_706 : decode cL_law 706 = .ok (.iadd, 1) := by decide +kernel
theorem dL_law_707 : decode cL_law 707 = .ok (.iaload, 1) := by decide +kernel
theorem dL_law_708 : decode cL_law 708 = .ok (.aload_n 0, 1) := by decide +kernel
theorem dL_law_709 : decode cL_law 709 = .ok (.iload_n 3, 1) := by decide +kernel
theorem dL_law_710 : decode cL_law 710 = .ok (.iconst 2, 1) := by decide +kernel
theorem dL_law_711 : decode cL_law 711 = .ok (.iadd, 1) := by decide +kernel
theorem dL_law_712 : decode cL_law 712 = .ok (.iaload, 1) := by decide +kernel
theorem dL_law_713 : decode cL_law 713 = .ok (.invokevirtual 87, 3) := by decide +kernel
theorem dL_law_716 : decode cL_law 716 = .ok (.if_icmp .eq 350, 3) := by decide +kernel
theorem dL_law_719 : decode cL_law 719 = .ok (.iconst 0, 1) := by decide +kernel
theorem dL_law_720 : decode cL_law 720 = .ok (.ireturn, 1) := by decide +kernel
theorem dL_law_721 : decode cL_law 721 = .ok (.aload_n 1, 1) := by decide +kernel
theorem dL_law_722 : decode cL_law 722 = .ok (.aload_n 0, 1) := by decide +kernel
theorem dL_law_723 : decode cL_law 723 = .ok (.iload_n 3, 1) := by decide +kernel
theorem dL_law_724 : decode cL_law 724 = .ok (.iconst 1, 1) := by decide +kernel
theorem dL_law_725 : decode cL_law 725 = .ok (.iadd, 1) := by decide +kernel
theorem dL_law_726 : decode cL_law 726 = .ok (.iaload, 1) := by decide +kernel
theorem dL_law_727 : decode cL_law 727 = .ok (.aload_n 0, 1) := by decide +kernel
theorem dL_law_728 : decode cL_law 728 = .ok (.iload_n 3, 1) := by decide +kernel
theorem dL_law_729 : decode cL_law 729 = .ok (.iconst 2, 1) := by decide +kernel
theorem dL_law_730 : decode cL_law 730 = .ok (.iadd, 1) := by decide +kernel
theorem dL_law_731 : decode cL_law 731 = .ok (.iaload, 1) := by decide +kernel
theorem dL_law_732 : decode cL_law 732 = .ok (.invokevirtual 88, 3) := by decide +kernel
theorem dL_law_735 : decode cL_law 735 = .ok (.aload_n 2, 1) := by decide +kernel
theorem dL_law_736 : decode cL_law 736 = .ok (.aload_n 0, 1) := by decide +kernel
theorem dL_law_737 : decode cL_law 737 = .ok (.iload_n 3, 1) := by decide +kernel
theorem dL_law_738 : decode cL_law 738 = .ok (.iconst 1, 1) := by decide +kernel
theorem dL_law_739 : decode cL_law 739 = .ok (.iadd, 1) := by decide +kernel
theorem dL_law_740 : decode cL_law 740 = .ok (.iaload, 1) := by decide +kernel
theorem dL_law_741 : decode cL_law 741 = .ok (.aload_n 0, 1) := by decide +kernel
theorem dL_law_742 : decode cL_law 742 = .ok (.iload_n 3, 1) := by decide +kernel
theorem dL_law_743 : decode cL_law 743 = .ok (.iconst 2, 1) := by decide +kernel
theorem dL_law_744 : decode cL_law 744 = .ok (.iadd, 1) := by decide +kernel
theorem dL_law_745 : decode cL_law 745 = .ok (.iaload, 1) := by decide +kernel
theorem dL_law_746 : decode cL_law 746 = .ok (.invokevirtual 91, 3) := by decide +kernel
theorem dL_law_749 : decode cL_law 749 = .ok (.if_icmp .eq 317, 3) := by decide +kernel
theorem dL_law_752 : decode cL_law 752 = .ok (.iconst 0, 1) := by decide +kernel
theorem dL_law_753 : decode cL_law 753 = .ok (.ireturn, 1) := by decide +kernel
theorem dL_law_754 : decode cL_law 754 = .ok (.aload_n 1, 1) := by decide +kernel
theorem dL_law_755 : decode cL_law 755 = .ok (.aload_n 0, 1) := by decide +kernel
theorem dL_law_756 : decode cL_law 756 = .ok (.iload_n 3, 1) := by decide +kernel
theorem dL_law_757 : decode cL_law 757 = .ok (.iconst 1, 1) := by decide +kernel
theorem dL_law_758 : decode cL_law 758 = .ok (.iadd, 1) := by decide +kernel
theorem dL_law_759 : decode cL_law 759 = .ok (.iaload, 1) := by decide +kernel
theorem dL_law_760 : decode cL_law 760 = .ok (.invokevirtual 92, 3) := by decide +kernel
theorem dL_law_763 : decode cL_law 763 = .ok (.aload_n 2, 1) := by decide +kernel
theorem dL_law_764 : decode cL_law 764 = .ok (.aload_n 0, 1) := by decide +kernel
theorem dL_law_765 : decode cL_law 765 = .ok (.iload_n 3, 1) := by decide +kernel
theorem dL_law_766 : decode cL_law 766 = .ok (.iconst 1, 1) := by decide +kernel
theorem dL_law_767 : decode cL_law 767 = .ok (.iadd, 1) := by decide +kernel
theorem dL_law_768 : decode cL_law 768 = .ok (.iaload, 1) := by decide +kernel
theorem dL_law_769 : decode cL_law 769 = .ok (.invokevirtual 95, 3) := by decide +kernel
theorem dL_law_772 : decode cL_law 772 = .ok (.if_icmp .eq 294, 3) := by decide +kernel
theorem dL_law_775 : decode cL_law 775 = .ok (.iconst 0, 1) := by decide +kernel
theorem dL_law_776 : decode cL_law 776 = .ok (.ireturn, 1) := by decide +kernel
theorem dL_law_777 : decode cL_law 777 = .ok (.aload_n 1, 1) := by decide +kernel
theorem dL_law_778 : decode cL_law 778 = .ok (.aload_n 0, 1) := by decide +kernel
theorem dL_law_779 : decode cL_law 779 = .ok (.iload_n 3, 1) := by decide +kernel
theorem dL_law_780 : decode cL_law 780 = .ok (.iconst 1, 1) := by decide +kernel
theorem dL_law_781 : decode cL_law 781 = .ok (.iadd, 1) := by decide +kernel
theorem dL_law_782 : decode cL_law 782 = .ok (.iaload, 1) := by decide +kernel
theorem dL_law_783 : decode cL_law 783 = .ok (.invokevirtual 96, 3) := by decide +kernel
theorem dL_law_786 : decode cL_law 786 = .ok (.aload_n 2, 1) := by decide +kernel
theorem dL_law_787 : decode cL_law 787 = .ok (.aload_n 0, 1) := by decide +kernel
theorem dL_law_788 : decode cL_law 788 = .ok (.iload_n 3, 1) := by decide +kernel
theorem dL_law_789 : decode cL_law 789 = .ok (.iconst 1, 1) := by decide +kernel
theorem dL_law_790 : decode cL_law 790 = .ok (.iadd, 1) := by decide +kernel
theorem dL_law_791 : decode cL_law 791 = .ok (.iaload, 1) := by decide +kernel
theorem dL_law_792 : decode cL_law 792 = .ok (.invokevirtual 99, 3) := by decide +kernel
theorem dL_law_795 : decode cL_law 795 = .ok (.if_icmp .eq 271, 3) := by decide +kernel
theorem dL_law_798 : decode cL_law 798 = .ok (.iconst 0, 1) := by decide +kernel
theorem dL_law_799 : decode cL_law 799 = .ok (.ireturn, 1) := by decide +kernel
theorem dL_law_800 : decode cL_law 800 = .ok (.aload_n 1, 1) := by decide +kernel
theorem dL_law_801 : decode cL_law 801 = .ok (.aload_n 0, 1) := by decide +kernel
theorem dL_law_802 : decode cL_law 802 = .ok (.iload_n 3, 1) := by decide +kernel
theorem dL_law_803 : decode cL_law 803 = .ok (.iconst 1, 1) := by decide +kernel
theorem dL_law_804 : decode cL_law 804 = .ok (.iadd, 1) := by decide +kernel
theorem dL_law_805 : decode cL_law 805 = .ok (.iaload, 1) := by decide +kernel
theorem dL_law_806 : decode cL_law 806 = .ok (.ifCond .eq 7, 3) := by decide +kernel
theorem dL_law_809 : decode cL_law 809 = .ok (.iconst 1, 1) := by decide +kernel
theorem dL_law_810 : decode cL_law 810 = .ok (.goto 4, 3) := by decide +kernel
theorem dL_law_813 : decode cL_law 813 = .ok (.iconst 0, 1) := by decide +kernel
theorem dL_law_814 : decode cL_law 814 = .ok (.invokevirtual 100, 3) := by decide +kernel
theorem dL_law_817 : decode cL_law 817 = .ok (.aload_n 2, 1) := by decide +kernel
theorem dL_law_818 : decode cL_law 818 = .ok (.aload_n 0, 1) := by decide +kernel
theorem dL_law_819 : decode cL_law 819 = .ok (.iload_n 3, 1) := by decide +kernel
theorem dL_law_820 : decode cL_law 820 = .ok (.iconst 1, 1) := by decide +kernel
theorem dL_law_821 : decode cL_law 821 = .ok (.iadd, 1) := by decide +kernel
theorem dL_law_822 : decode cL_law 822 = .ok (.iaload, 1) := by decide +kernel
theorem dL_law_823 : decode cL_law 823 = .ok (.ifCond .eq 7, 3) := by decide +kernel
theorem dL_law_826 : decode cL_law 826 = .ok (.iconst 1, 1) := by decide +kernel
theorem dL_law_827 : decode cL_law 827 = .ok (.goto 4, 3) := by decide +kernel
theorem dL_law_830 : decode cL_law 830 = .ok (.iconst 0, 1) := by decide +kernel
theorem dL_law_831 : decode cL_law 831 = .ok (.invokevirtual 104, 3) := by decide +kernel
theorem dL_law_834 : decode cL_law 834 = .ok (.if_icmp .eq 232, 3) := by decide +kernel
theorem dL_law_837 : decode cL_law 837 = .ok (.iconst 0, 1) := by decide +kernel
theorem dL_law_838 : decode cL_law 838 = .ok (.ireturn, 1) := by decide +kernel
theorem dL_law_839 : decode cL_law 839 = .ok (.aload_n 1, 1) := by decide +kernel
theorem dL_law_840 : decode cL_law 840 = .ok (.invokevirtual 105, 3) := by decide +kernel
theorem dL_law_843 : decode cL_law 843 = .ok (.aload_n 2, 1) := by decide +kernel
theorem dL_law_844 : decode cL_law 844 = .ok (.invokevirtual 108, 3) := by decide +kernel
theorem dL_law_847 : decode cL_law 847 = .ok (.if_icmp .eq 219, 3) := by decide +kernel
theorem dL_law_850 : decode cL_law 850 = .ok (.iconst 0, 1) := by decide +kernel
theorem dL_law_851 : decode cL_law 851 = .ok (.ireturn, 1) := by decide +kernel
theorem dL_law_852 : decode cL_law 852 = .ok (.aload_n 1, 1) := by decide +kernel
theorem dL_law_853 : decode cL_law 853 = .ok (.aload_n 0, 1) := by decide +kernel
theorem dL_law_854 : decode cL_law 854 = .ok (.iload_n 3, 1) := by decide +kernel
theorem dL_law_855 : decode cL_law 855 = .ok (.iconst 1, 1) := by decide +kernel
theorem dL_law_856 : decode cL_law 856 = .ok (.iadd, 1) := by decide +kernel
theorem dL_law_857 : decode cL_law 857 = .ok (.iaload, 1) := by decide +kernel
theorem dL_law_858 : decode cL_law 858 = .ok (.invokevirtual 109, 3) := by decide +kernel
theorem dL_law_861 : decode cL_law 861 = .ok (.aload_n 2, 1) := by decide +kernel
theorem dL_law_862 : decode cL_law 862 = .ok (.aload_n 0, 1) := by decide +kernel
theorem dL_law_863 : decode cL_law 863 = .ok (.iload_n 3, 1) := by decide +kernel
theorem dL_law_864 : decode cL_law 864 = .ok (.iconst 1, 1) := by decide +kernel
theorem dL_law_865 : decode cL_law 865 = .ok (.iadd, 1) := by decide +kernel
theorem dL_law_866 : decode cL_law 866 = .ok (.iaload, 1) := by decide +kernel
theorem dL_law_867 : decode cL_law 867 = .ok (.invokevirtual 112, 3) := by decide +kernel
theorem dL_law_870 : decode cL_law 870 = .ok (.if_icmp .eq 196, 3) := by decide +kernel
theorem dL_law_873 : decode cL_law 873 = .ok (.iconst 0, 1) := by decide +kernel
theorem dL_law_874 : decode cL_law 874 = .ok (.ireturn, 1) := by decide +kernel
theorem dL_law_875 : decode cL_law 875 = .ok (.aload_n 1, 1) := by decide +kernel
theorem dL_law_876 : decode cL_law 876 = .ok (.invokevirtual 113, 3) := by decide +kernel
theorem dL_law_879 : decode cL_law 879 = .ok (.aload_n 2, 1) := by decide +kernel
theorem dL_law_880 : decode cL_law 880 = .ok (.invokevirtual 116, 3) := by decide +kernel
theorem dL_law_883 : decode cL_law 883 = .ok (.if_icmp .eq 183, 3) := by decide +kernel
theorem dL_law_886 : decode cL_law 886 = .ok (.iconst 0, 1) := by decide +kernel
theorem dL_law_887 : decode cL_law 887 = .ok (.ireturn, 1) := by decide +kernel
theorem dL_law_888 : decode cL_law 888 = .ok (.aload_n 1, 1) := by decide +kernel
theorem dL_law_889 : decode cL_law 889 = .ok (.invokevirtual 117, 3) := by decide +kernel
theorem dL_law_892 : decode cL_law 892 = .ok (.aload_n 2, 1) := by decide +kernel
theorem dL_law_893 : decode cL_law 893 = .ok (.invokevirtual 121, 3) := by decide +kernel
theorem dL_law_896 : decode cL_law 896 = .ok (.if_icmp .eq 170, 3) := by decide +kernel
theorem dL_law_899 : decode cL_law 899 = .ok (.iconst 0, 1) := by decide +kernel
theorem dL_law_900 : decode cL_law 900 = .ok (.ireturn, 1) := by decide +kernel
theorem dL_law_901 : decode cL_law 901 = .ok (.aload_n 1, 1) := by decide +kernel
theorem dL_law_902 : decode cL_law 902 = .ok (.aload_n 0, 1) := by decide +kernel
theorem dL_law_903 : decode cL_law 903 = .ok (.iload_n 3, 1) := by decide +kernel
theorem dL_law_904 : decode cL_law 904 = .ok (.iconst 1, 1) := by decide +kernel
theorem dL_law_905 : decode cL_law 905 = .ok (.iadd, 1) := by decide +kernel
theorem dL_law_906 : decode cL_law 906 = .ok (.iaload, 1) := by decide +kernel
theorem dL_law_907 : decode cL_law 907 = .ok (.invokevirtual 122, 3) := by decide +kernel
theorem dL_law_910 : decode cL_law 910 = .ok (.aload_n 2, 1) := by decide +kernel
theorem dL_law_911 : decode cL_law 911 = .ok (.aload_n 0, 1) := by decide +kernel
theorem dL_law_912 : decode cL_law 912 = .ok (.iload_n 3, 1) := by decide +kernel
theorem dL_law_913 : decode cL_law 913 = .ok (.iconst 1, 1) := by decide +kernel
theorem dL_law_914 : decode cL_law 914 = .ok (.iadd, 1) := by decide +kernel
theorem dL_law_915 : decode cL_law 915 = .ok (.iaload, 1) := by decide +kernel
theorem dL_law_916 : decode cL_law 916 = .ok (.invokevirtual 125, 3) := by decide +kernel
theorem dL_law_919 : decode cL_law 919 = .ok (.if_icmp .eq 147, 3) := by decide +kernel
theorem dL_law_922 : decode cL_law 922 = .ok (.iconst 0, 1) := by decide +kernel
theorem dL_law_923 : decode cL_law 923 = .ok (.ireturn, 1) := by decide +kernel
theorem dL_law_924 : decode cL_law 924 = .ok (.aload_n 1, 1) := by decide +kernel
theorem dL_law_925 : decode cL_law 925 = .ok (.invokevirtual 126, 3) := by decide +kernel
theorem dL_law_928 : decode cL_law 928 = .ok (.aload_n 2, 1) := by decide +kernel
theorem dL_law_929 : decode cL_law 929 = .ok (.invokevirtual 129, 3) := by decide +kernel
theorem dL_law_932 : decode cL_law 932 = .ok (.if_icmp .eq 134, 3) := by decide +kernel
theorem dL_law_935 : decode cL_law 935 = .ok (.iconst 0, 1) := by decide +kernel
theorem dL_law_936 : decode cL_law 936 = .ok (.ireturn, 1) := by decide +kernel
theorem dL_law_937 : decode cL_law 937 = .ok (.aload_n 1, 1) := by decide +kernel
theorem dL_law_938 : decode cL_law 938 = .ok (.aload_n 0, 1) := by decide +kernel
theorem dL_law_939 : decode cL_law 939 = .ok (.iload_n 3, 1) := by decide +kernel
theorem dL_law_940 : decode cL_law 940 = .ok (.iconst 1, 1) := by decide +kernel
theorem dL_law_941 : decode cL_law 941 = .ok (.iadd, 1) := by decide +kernel
theorem dL_law_942 : decode cL_law 942 = .ok (.iaload, 1) := by decide +kernel
theorem dL_law_943 : decode cL_law 943 = .ok (.invokevirtual 130, 3) := by decide +kernel
theorem dL_law_946 : decode cL_law 946 = .ok (.aload_n 2, 1) := by decide +kernel
theorem dL_law_947 : decode cL_law 947 = .ok (.aload_n 0, 1) := by decide +kernel
theorem dL_law_948 : decode cL_law 948 = .ok (.iload_n 3, 1) := by decide +kernel
theorem dL_law_949 : decode cL_law 949 = .ok (.iconst 1, 1) := by decide +kernel
theorem dL_law_950 : decode cL_law 950 = .ok (.iadd, 1) := by decide +kernel
theorem dL_law_951 : decode cL_law 951 = .ok (.iaload, 1) := by decide +kernel
theorem dL_law_952 : decode cL_law 952 = .ok (.invokevirtual 133, 3) := by decide +kernel
theorem dL_law_955 : decode cL_law 955 = .ok (.if_icmp .eq 111, 3) := by decide +kernel
theorem dL_law_958 : decode cL_law 958 = .ok (.iconst 0, 1) := by decide +kernel
theorem dL_law_959 : decode cL_law 959 = .ok (.ireturn, 1) := by decide +kernel
theorem dL_law_960 : decode cL_law 960 = .ok (.aload_n 1, 1) := by decide +kernel
theorem dL_law_961 : decode cL_law 961 = .ok (.aload_n 0, 1) := by decide +kernel
theorem dL_law_962 : decode cL_law 962 = .ok (.iload_n 3, 1) := by decide +kernel
theorem dL_law_963 : decode cL_law 963 = .ok (.iconst 1, 1) := by decide +kernel
theorem dL_law_964 : decode cL_law 964 = .ok (.iadd, 1) := by decide +kernel
theorem dL_law_965 : decode cL_law 965 = .ok (.iaload, 1) := by decide +kernel
theorem dL_law_966 : decode cL_law 966 = .ok (.aload_n 0, 1) := by decide +kernel
theorem dL_law_967 : decode cL_law 967 = .ok (.iload_n 3, 1) := by decide +kernel
theorem dL_law_968 : decode cL_law 968 = .ok (.iconst 2, 1) := by decide +kernel
theorem dL_law_969 : decode cL_law 969 = .ok (.iadd, 1) := by decide +kernel
theorem dL_law_970 : decode cL_law 970 = .ok (.iaload, 1) := by decide +kernel
theorem dL_law_971 : decode cL_law 971 = .ok (.invokevirtual 134, 3) := by decide +kernel
theorem dL_law_974 : decode cL_law 974 = .ok (.aload_n 2, 1) := by decide +kernel
theorem dL_law_975 : decode cL_law 975 = .ok (.aload_n 0, 1) := by decide +kernel
theorem dL_law_976 : decode cL_law 976 = .ok (.iload_n 3, 1) := by decide +kernel
theorem dL_law_977 : decode cL_law 977 = .ok (.iconst 1, 1) := by decide +kernel
theorem dL_law_978 : decode cL_law 978 = .ok (.iadd, 1) := by decide +kernel
theorem dL_law_979 : decode cL_law 979 = .ok (.iaload, 1) := by decide +kernel
theorem dL_law_980 : decode cL_law 980 = .ok (.aload_n 0, 1) := by decide +kernel
theorem dL_law_981 : decode cL_law 981 = .ok (.iload_n 3, 1) := by decide +kernel
theorem dL_law_982 : decode cL_law 982 = .ok (.iconst 2, 1) := by decide +kernel
theorem dL_law_983 : decode cL_law 983 = .ok (.iadd, 1) := by decide +kernel
theorem dL_law_984 : decode cL_law 984 = .ok (.iaload, 1) := by decide +kernel
theorem dL_law_985 : decode cL_law 985 = .ok (.invokevirtual 138, 3) := by decide +kernel
theorem dL_law_988 : decode cL_law 988 = .ok (.lcmp, 1) := by decide +kernel
theorem dL_law_989 : decode cL_law 989 = .ok (.ifCond .eq 77, 3) := by decide +kernel
theorem dL_law_992 : decode cL_law 992 = .ok (.iconst 0, 1) := by decide +kernel
theorem dL_law_993 : decode cL_law 993 = .ok (.ireturn, 1) := by decide +kernel
theorem dL_law_994 : decode cL_law 994 = .ok (.aload_n 1, 1) := by decide +kernel
theorem dL_law_995 : decode cL_law 995 = .ok (.invokevirtual 139, 3) := by decide +kernel
theorem dL_law_998 : decode cL_law 998 = .ok (.aload_n 2, 1) := by decide +kernel
theorem dL_law_999 : decode cL_law 999 = .ok (.invokevirtual 142, 3) := by decide +kernel
theorem dL_law_1002 : decode cL_law 1002 = .ok (.if_icmp .eq 64, 3) := by decide +kernel
theorem dL_law_1005 : decode cL_law 1005 = .ok (.iconst 0, 1) := by decide +kernel
theorem dL_law_1006 : decode cL_law 1006 = .ok (.ireturn, 1) := by decide +kernel
theorem dL_law_1007 : decode cL_law 1007 = .ok (.aload_n 1, 1) := by decide +kernel
theorem dL_law_1008 : decode cL_law 1008 = .ok (.aload_n 0, 1) := by decide +kernel
theorem dL_law_1009 : decode cL_law 1009 = .ok (.iload_n 3, 1) := by decide +kernel
theorem dL_law_1010 : decode cL_law 1010 = .ok (.iconst 1, 1) := by decide +kernel
theorem dL_law_1011 : decode cL_law 1011 = .ok (.iadd, 1) := by decide +kernel
theorem dL_law_1012 : decode cL_law 1012 = .ok (.iaload, 1) := by decide +kernel
theorem dL_law_1013 : decode cL_law 1013 = .ok (.invokevirtual 143, 3) := by decide +kernel
theorem dL_law_1016 : decode cL_law 1016 = .ok (.aload_n 2, 1) := by decide +kernel
theorem dL_law_1017 : decode cL_law 1017 = .ok (.aload_n 0, 1) := by decide +kernel
theorem dL_law_1018 : decode cL_law 1018 = .ok (.iload_n 3, 1) := by decide +kernel
theorem dL_law_1019 : decode cL_law 1019 = .ok (.iconst 1, 1) := by decide +kernel
theorem dL_law_1020 : decode cL_law 1020 = .ok (.iadd, 1) := by decide +kernel
theorem dL_law_1021 : decode cL_law 1021 = .ok (.iaload, 1) := by decide +kernel
theorem dL_law_1022 : decode cL_law 1022 = .ok (.invokevirtual 146, 3) := by decide +kernel
theorem dL_law_1025 : decode cL_law 1025 = .ok (.if_icmp .eq 41, 3) := by decide +kernel
theorem dL_law_1028 : decode cL_law 1028 = .ok (.iconst 0, 1) := by decide +kernel
theorem dL_law_1029 : decode cL_law 1029 = .ok (.ireturn, 1) := by decide +kernel
theorem dL_law_1030 : decode cL_law 1030 = .ok (.aload_n 1, 1) := by decide +kernel
theorem dL_law_1031 : decode cL_law 1031 = .ok (.invokevirtual 147, 3) := by decide +kernel
theorem dL_law_1034 : decode cL_law 1034 = .ok (.aload_n 2, 1) := by decide +kernel
theorem dL_law_1035 : decode cL_law 1035 = .ok (.invokevirtual 150, 3) := by decide +kernel
theorem dL_law_1038 : decode cL_law 1038 = .ok (.if_icmp .eq 28, 3) := by decide +kernel
theorem dL_law_1041 : decode cL_law 1041 = .ok (.iconst 0, 1) := by decide +kernel
theorem dL_law_1042 : decode cL_law 1042 = .ok (.ireturn, 1) := by decide +kernel
theorem dL_law_1043 : decode cL_law 1043 = .ok (.aload_n 1, 1) := by decide +kernel
theorem dL_law_1044 : decode cL_law 1044 = .ok (.aload_n 0, 1) := by decide +kernel
theorem dL_law_1045 : decode cL_law 1045 = .ok (.iload_n 3, 1) := by decide +kernel
theorem dL_law_1046 : decode cL_law 1046 = .ok (.iconst 1, 1) := by decide +kernel
theorem dL_law_1047 : decode cL_law 1047 = .ok (.iadd, 1) := by decide +kernel
theorem dL_law_1048 : decode cL_law 1048 = .ok (.iaload, 1) := by decide +kernel
theorem dL_law_1049 : decode cL_law 1049 = .ok (.invokevirtual 151, 3) := by decide +kernel
theorem dL_law_1052 : decode cL_law 1052 = .ok (.aload_n 2, 1) := by decide +kernel
theorem dL_law_1053 : decode cL_law 1053 = .ok (.aload_n 0, 1) := by decide +kernel
theorem dL_law_1054 : decode cL_law 1054 = .ok (.iload_n 3, 1) := by decide +kernel
theorem dL_law_1055 : decode cL_law 1055 = .ok (.iconst 1, 1) := by decide +kernel
theorem dL_law_1056 : decode cL_law 1056 = .ok (.iadd, 1) := by decide +kernel
theorem dL_law_1057 : decode cL_law 1057 = .ok (.iaload, 1) := by decide +kernel
theorem dL_law_1058 : decode cL_law 1058 = .ok (.invokevirtual 154, 3) := by decide +kernel
theorem dL_law_1061 : decode cL_law 1061 = .ok (.if_icmp .eq 5, 3) := by decide +kernel
theorem dL_law_1064 : decode cL_law 1064 = .ok (.iconst 0, 1) := by decide +kernel
theorem dL_law_1065 : decode cL_law 1065 = .ok (.ireturn, 1) := by decide +kernel
theorem dL_law_1066 : decode cL_law 1066 = .ok (.iinc 3 6, 3) := by decide +kernel
theorem dL_law_1069 : decode cL_law 1069 = .ok (.goto (-1051), 3) := by decide +kernel
theorem dL_law_1072 : decode cL_law 1072 = .ok (.iconst 1, 1) := by decide +kernel
theorem dL_law_1073 : decode cL_law 1073 = .ok (.ireturn, 1) := by decide +kernel
abbrev S_L_law (sc : List Int) (d pc : Nat) (ls st : List AV) (m : Mem) (Q : Option AV → Mem → Prop) : Prop := Sim sc RL cL_law 4 (some .boolean) d pc ls st m Q
set_option maxRecDepth 4000 in
theorem g_L_law_18 {sc : List Int} {d : Nat} {m : Mem} {Q : Option AV → Mem → Prop} {l3 : Int} (k : (-2147483648 ≤ l3 ∧ l3 < 2147483648) ∧ (-2147483648 ≤ ((sc.length : Int) - 6) ∧ ((sc.length : Int) - 6) < 2147483648) ∧ ((((sc.length : Int) - 6) < l3) → (Q (some (aI 1)) m)) ∧ (¬ (((sc.length : Int) - 6) < l3) → ((0 ≤ l3) ∧ (l3 < sc.length) ∧ (-2147483648 ≤ (a_and (sc.getD l3.toNat 0) 63) ∧ (a_and (sc.getD l3.toNat 0) 63) < 2147483648) ∧ (((a_and (sc.getD l3.toNat 0) 63) = 0) → ((0 ≤ (l3 + 1)) ∧ ((l3 + 1) < sc.length) ∧ (0 ≤ (l3 + 2)) ∧ ((l3 + 2) < sc.length) ∧ (0 ≤ (l3 + 3)) ∧ ((l3 + 3) < sc.length) ∧ (0 ≤ (l3 + 4)) ∧ ((l3 + 4) < sc.length) ∧ (0 ≤ (l3 + 5)) ∧ ((l3 + 5) < sc.length) ∧ S_L_law sc d 206 [aR (-7), aR 0, aR 62, aI l3] [aI (sc.getD (l3 + 5).toNat 0), aI (sc.getD (l3 + 4).toNat 0), aI (sc.getD (l3 + 3).toNat 0), aI (sc.getD (l3 + 2).toNat 0), aI (sc.getD (l3 + 1).toNat 0), aR 0] m Q)) ∧ (((a_and (sc.getD l3.toNat 0) 63) = 1) → ((0 ≤ (l3 + 1)) ∧ ((l3 + 1) < sc.length) ∧ S_L_law sc d 249 [aR (-7), aR 0, aR 62, aI l3] [aI (sc.getD (l3 + 1).toNat 0), aR 0] m Q)) ∧ (((a_and (sc.getD l3.toNat 0) 63) = 2) → (S_L_law sc d 267 [aR (-7), aR 0, aR 62, aI l3] [aR 0] m Q)) ∧ (((a_and (sc.getD l3.toNat 0) 63) = 3) → ((0 ≤ (l3 + 1)) ∧ ((l3 + 1) < sc.length) ∧ S_L_law sc d 285 [aR (-7), aR 0, aR 62, aI l3] [aI (sc.getD (l3 + 1).toNat 0), aR 0] m Q)) ∧ (((a_and (sc.getD l3.toNat 0) 63) = 4) → ((0 ≤ (l3 + 1)) ∧ ((l3 + 1) < sc.length) ∧ S_L_law sc d 308 [aR (-7), aR 0, aR 62, aI l3] [aI (sc.getD (l3 + 1).toNat 0), aR 0] m Q)) ∧ (((a_and (sc.getD l3.toNat 0) 63) = 5) → ((0 ≤ (l3 + 1)) ∧ ((l3 + 1) < sc.length) ∧ (0 ≤ (l3 + 2)) ∧ ((l3 + 2) < sc.length) ∧ (0 ≤ (l3 + 3)) ∧ ((l3 + 3) < sc.length) ∧ S_L_law sc d 341 [aR (-7), aR 0, aR 62, aI l3] [aI (sc.getD (l3 + 3).toNat 0), aI (sc.getD (l3 + 2).toNat 0), aI (sc.getD (l3 + 1).toNat 0), aR 0] m Q)) ∧ (((a_and (sc.getD l3.toNat 0) 63) = 6) → ((0 ≤ (l3 + 1)) ∧ ((l3 + 1) < sc.length) ∧ (0 ≤ (l3 + 2)) ∧ ((l3 + 2) < sc.length) ∧ S_L_law sc d 379 [aR (-7), aR 0, aR 62, aI l3] [aI (sc.getD (l3 + 2).toNat 0), aI (sc.getD (l3 + 1).toNat 0), aR 0] m Q)) ∧ (((a_and (sc.getD l3.toNat 0) 63) = 7) → ((0 ≤ (l3 + 1)) ∧ ((l3 + 1) < sc.length) ∧ (0 ≤ (l3 + 2)) ∧ ((l3 + 2) < sc.length) ∧ S_L_law sc d 412 [aR (-7), aR 0, aR 62, aI l3] [aI (sc.getD (l3 + 2).toNat 0), aI (sc.getD (l3 + 1).toNat 0), aR 0] m Q)) ∧ (((a_and (sc.getD l3.toNat 0) 63) = 8) → ((0 ≤ (l3 + 1)) ∧ ((l3 + 1) < sc.length) ∧ (0 ≤ (l3 + 2)) ∧ ((l3 + 2) < sc.length) ∧ (0 ≤ (l3 + 3)) ∧ ((l3 + 3) < sc.length) ∧ (0 ≤ (l3 + 4)) ∧ ((l3 + 4) < sc.length) ∧ S_L_law sc d 455 [aR (-7), aR 0, aR 62, aI l3] [aI (sc.getD (l3 + 4).toNat 0), aI (sc.getD (l3 + 3).toNat 0), aI (sc.getD (l3 + 2).toNat 0), aI (sc.getD (l3 + 1).toNat 0), aR 0] m Q)) ∧ (((a_and (sc.getD l3.toNat 0) 63) = 9) → ((0 ≤ (l3 + 1)) ∧ ((l3 + 1) < sc.length) ∧ (0 ≤ (l3 + 2)) ∧ ((l3 + 2) < sc.length) ∧ (0 ≤ (l3 + 3)) ∧ ((l3 + 3) < sc.length) ∧ S_L_law sc d 503 [aR (-7), aR 0, aR 62, aI l3] [aI (sc.getD (l3 + 3).toNat 0), aI (sc.getD (l3 + 2).toNat 0), aI (sc.getD (l3 + 1).toNat 0), aR 0] m Q)) ∧ (((a_and (sc.getD l3.toNat 0) 63) = 10) → ((0 ≤ (l3 + 1)) ∧ ((l3 + 1) < sc.length) ∧ S_L_law sc d 536 [aR (-7), aR 0, aR 62, aI l3] [aI (sc.getD (l3 + 1).toNat 0), aR 0] m Q)) ∧ (((a_and (sc.getD l3.toNat 0) 63) = 11) → ((0 ≤ (l3 + 1)) ∧ ((l3 + 1) < sc.length) ∧ (0 ≤ (l3 + 2)) ∧ ((l3 + 2) < sc.length) ∧ S_L_law sc d 564 [aR (-7), aR 0, aR 62, aI l3] [aI (sc.getD (l3 + 2).toNat 0), aI (sc.getD (l3 + 1).toNat 0), aR 0] m Q)) ∧ (((a_and (sc.getD l3.toNat 0) 63) = 12) → ((0 ≤ (l3 + 1)) ∧ ((l3 + 1) < sc.length) ∧ S_L_law sc d 592 [aR (-7), aR 0, aR 62, aI l3] [aI (sc.getD (l3 + 1).toNat 0), aR 0] m Q)) ∧ (((a_and (sc.getD l3.toNat 0) 63) = 13) → (S_L_law sc d 610 [aR (-7), aR 0, aR 62, aI l3] [aR 0] m Q)) ∧ (((a_and (sc.getD l3.toNat 0) 63) = 14) → ((0 ≤ (l3 + 1)) ∧ ((l3 + 1) < sc.length) ∧ (0 ≤ (l3 + 2)) ∧ ((l3 + 2) < sc.length) ∧ S_L_law sc d 633 [aR (-7), aR 0, aR 62, aI l3] [aI (sc.getD (l3 + 2).toNat 0), aI (sc.getD (l3 + 1).toNat 0), aR 0] m Q)) ∧ (((a_and (sc.getD l3.toNat 0) 63) = 15) → ((0 ≤ (l3 + 1)) ∧ ((l3 + 1) < sc.length) ∧ (0 ≤ (l3 + 2)) ∧ ((l3 + 2) < sc.length) ∧ S_L_law sc d 666 [aR (-7), aR 0, aR 62, aI l3] [aI (sc.getD (l3 + 2).toNat 0), aI (sc.getD (l3 + 1).toNat 0), aR 0] m Q)) ∧ (((a_and (sc.getD l3.toNat 0) 63) = 16) → ((0 ≤ (l3 + 1)) ∧ ((l3 + 1) < sc.length) ∧ (0 ≤ (l3 + 2)) ∧ ((l3 + 2) < sc.length) ∧ S_L_law sc d 699 [aR (-7), aR 0, aR 62, aI l3] [aI (sc.getD (l3 + 2).toNat 0), aI (sc.getD (l3 + 1).toNat 0), aR 0] m Q)) ∧ (((a_and (sc.getD l3.toNat 0) 63) = 17) → ((0 ≤ (l3 + 1)) ∧ ((l3 + 1) < sc.length) ∧ (0 ≤ (l3 + 2)) ∧ ((l3 + 2) < sc.length) ∧ S_L_law sc d 732 [aR (-7), aR 0, aR 62, aI l3] [aI (sc.getD (l3 + 2).toNat 0), aI (sc.getD (l3 + 1).toNat 0), aR 0] m Q)) ∧ (((a_and (sc.getD l3.toNat 0) 63) = 18) → ((0 ≤ (l3 + 1)) ∧ ((l3 + 1) < sc.length) ∧ S_L_law sc d 760 [aR (-7), aR 0, aR 62, aI l3] [aI (sc.getD (l3 + 1).toNat 0), aR 0] m Q)) ∧ (((a_and (sc.getD l3.toNat 0) 63) = 19) → ((0 ≤ (l3 + 1)) ∧ ((l3 + 1) < sc.length) ∧ S_L_law sc d 783 [aR (-7), aR 0, aR 62, aI l3] [aI (sc.getD (l3 + 1).toNat 0), aR 0] m Q)) ∧ (((a_and (sc.getD l3.toNat 0) 63) = 20) → ((0 ≤ (l3 + 1)) ∧ ((l3 + 1) < sc.length) ∧ ((-2147483648 ≤ (sc.getD (l3 + 1).toNat 0) ∧ (sc.getD (l3 + 1).toNat 0) < 2147483648)) ∧ S_L_law sc d 814 [aR (-7), aR 0, aR 62, aI l3] [aI (if (sc.getD (l3 + 1).toNat 0) = 0 then 0 else 1 : Int), aR 0] m Q)) ∧ (((a_and (sc.getD l3.toNat 0) 63) = 21) → (S_L_law sc d 840 [aR (-7), aR 0, aR 62, aI l3] [aR 0] m Q)) ∧ (((a_and (sc.getD l3.toNat 0) 63) = 22) → ((0 ≤ (l3 + 1)) ∧ ((l3 + 1) < sc.length) ∧ S_L_law sc d 858 [aR (-7), aR 0, aR 62, aI l3] [aI (sc.getD (l3 + 1).toNat 0), aR 0] m Q)) ∧ (((a_and (sc.getD l3.toNat 0) 63) = 23) → (S_L_law sc d 876 [aR (-7), aR 0, aR 62, aI l3] [aR 0] m Q)) ∧ (((a_and (sc.getD l3.toNat 0) 63) = 24) → (S_L_law sc d 889 [aR (-7), aR 0, aR 62, aI l3] [aR 0] m Q)) ∧ (((a_and (sc.getD l3.toNat 0) 63) = 25) → ((0 ≤ (l3 + 1)) ∧ ((l3 + 1) < sc.length) ∧ S_L_law sc d 907 [aR (-7), aR 0, aR 62, aI l3] [aI (sc.getD (l3 + 1).toNat 0), aR 0] m Q)) ∧ (((a_and (sc.getD l3.toNat 0) 63) = 26) → (S_L_law sc d 925 [aR (-7), aR 0, aR 62, aI l3] [aR 0] m Q)) ∧ (((a_and (sc.getD l3.toNat 0) 63) = 27) → ((0 ≤ (l3 + 1)) ∧ ((l3 + 1) < sc.length) ∧ S_L_law sc d 943 [aR (-7), aR 0, aR 62, aI l3] [aI (sc.getD (l3 + 1).toNat 0), aR 0] m Q)) ∧ (((a_and (sc.getD l3.toNat 0) 63) = 28) → ((0 ≤ (l3 + 1)) ∧ ((l3 + 1) < sc.length) ∧ (0 ≤ (l3 + 2)) ∧ ((l3 + 2) < sc.length) ∧ S_L_law sc d 971 [aR (-7), aR 0, aR 62, aI l3] [aI (sc.getD (l3 + 2).toNat 0), aI (sc.getD (l3 + 1).toNat 0), aR 0] m Q)) ∧ (((a_and (sc.getD l3.toNat 0) 63) = 29) → (S_L_law sc d 995 [aR (-7), aR 0, aR 62, aI l3] [aR 0] m Q)) ∧ (((a_and (sc.getD l3.toNat 0) 63) = 30) → ((0 ≤ (l3 + 1)) ∧ ((l3 + 1) < sc.length) ∧ S_L_law sc d 1013 [aR (-7), aR 0, aR 62, aI l3] [aI (sc.getD (l3 + 1).toNat 0), aR 0] m Q)) ∧ (((a_and (sc.getD l3.toNat 0) 63) = 31) → (S_L_law sc d 1031 [aR (-7), aR 0, aR 62, aI l3] [aR 0] m Q)) ∧ (((a_and (sc.getD l3.toNat 0) 63) = 32) → ((0 ≤ (l3 + 1)) ∧ ((l3 + 1) < sc.length) ∧ S_L_law sc d 1049 [aR (-7), aR 0, aR 62, aI l3] [aI (sc.getD (l3 + 1).toNat 0), aR 0] m Q)) ∧ (((a_and (sc.getD l3.toNat 0) 63) ≠ 0 ∧ (a_and (sc.getD l3.toNat 0) 63) ≠ 1 ∧ (a_and (sc.getD l3.toNat 0) 63) ≠ 2 ∧ (a_and (sc.getD l3.toNat 0) 63) ≠ 3 ∧ (a_and (sc.getD l3.toNat 0) 63) ≠ 4 ∧ (a_and (sc.getD l3.toNat 0) 63) ≠ 5 ∧ (a_and (sc.getD l3.toNat 0) 63) ≠ 6 ∧ (a_and (sc.getD l3.toNat 0) 63) ≠ 7 ∧ (a_and (sc.getD l3.toNat 0) 63) ≠ 8 ∧ (a_and (sc.getD l3.toNat 0) 63) ≠ 9 ∧ (a_and (sc.getD l3.toNat 0) 63) ≠ 10 ∧ (a_and (sc.getD l3.toNat 0) 63) ≠ 11 ∧ (a_and (sc.getD l3.toNat 0) 63) ≠ 12 ∧ (a_and (sc.getD l3.toNat 0) 63) ≠ 13 ∧ (a_and (sc.getD l3.toNat 0) 63) ≠ 14 ∧ (a_and (sc.getD l3.toNat 0) 63) ≠ 15 ∧ (a_and (sc.getD l3.toNat 0) 63) ≠ 16 ∧ (a_and (sc.getD l3.toNat 0) 63) ≠ 17 ∧ (a_and (sc.getD l3.toNat 0) 63) ≠ 18 ∧ (a_and (sc.getD l3.toNat 0) 63) ≠ 19 ∧ (a_and (sc.getD l3.toNat 0) 63) ≠ 20 ∧ (a_and (sc.getD l3.toNat 0) 63) ≠ 21 ∧ (a_and (sc.getD l3.toNat 0) 63) ≠ 22 ∧ (a_and (sc.getD l3.toNat 0) 63) ≠ 23 ∧ (a_and (sc.getD l3.toNat 0) 63) ≠ 24 ∧ (a_and (sc.getD l3.toNat 0) 63) ≠ 25 ∧ (a_and (sc.getD l3.toNat 0) 63) ≠ 26 ∧ (a_and (sc.getD l3.toNat 0) 63) ≠ 27 ∧ (a_and (sc.getD l3.toNat 0) 63) ≠ 28 ∧ (a_and (sc.getD l3.toNat 0) 63) ≠ 29 ∧ (a_and (sc.getD l3.toNat 0) 63) ≠ 30 ∧ (a_and (sc.getD l3.toNat 0) 63) ≠ 31 ∧ (a_and (sc.getD l3.toNat 0) 63) ≠ 32) → (S_L_law sc d 18 [aR (-7), aR 0, aR 62, aI (l3 + 6)] [] m Q))))) : S_L_law sc d 18 [aR (-7), aR 0, aR 62, aI l3] [] m Q := by
  refine x_iload_n (pc2 := 19) dL_law_18 rfl rfl ?_
  refine x_aload_n (pc2 := 20) dL_law_19 rfl rfl ?_
  refine x_xlen (pc2 := 21) dL_law_20 rfl ?_
  refine x_bipush (pc2 := 23) dL_law_21 rfl rfl ?_
  refine x_isub (pc2 := 24) dL_law_23 rfl ?_
  obtain ⟨h1, k⟩ := k
  obtain ⟨h2, k⟩ := k
  obtain ⟨k1, k2⟩ := k
  refine x_icmp_gt (tgt := 1072) (pc2 := 27) dL_law_24 (by decide) rfl h1 h2 (fun c3 => ?_) (fun c3 => ?_)
  · replace k := k1 c3
    refine x_iconst (pc2 := 1073) dL_law_1072 rfl ?_
    exact x_ireturn dL_law_1073 ⟨.boolean, rfl, rfl⟩ k
  · replace k := k2 c3
    refine x_aload_n (pc2 := 28) dL_law_27 rfl rfl ?_
    refine x_iload_n (pc2 := 29) dL_law_28 rfl rfl ?_
    obtain ⟨h4, k⟩ := k
    obtain ⟨h5, k⟩ := k
    refine x_sald (pc2 := 30) h4 h5 dL_law_29 rfl ?_
    refine x_bipush (pc2 := 32) dL_law_30 rfl rfl ?_
    refine x_iand (pc2 := 33) dL_law_32 rfl ?_
    obtain ⟨h6, k⟩ := k
    obtain ⟨k99, k100, k101, k102, k103, k104, k105, k106, k107, k108, k109, k110, k111, k112, k113, k114, k115, k116, k117, k118, k119, k120, k121, k122, k123, k124, k125, k126, k127, k128, k129, k130, k131, k132⟩ := k
    by_cases c133 : (a_and (sc.getD l3.toNat 0) 63) = 0
    · replace k := k99 c133
      refine x_tin (tgt := 180) (off := 147) dL_law_33 h6 (by omega) (by omega) (by rw [c133]; rfl) (by decide) ?_
      refine x_aload_n (pc2 := 181) dL_law_180 rfl rfl ?_
      refine x_aload_n (pc2 := 182) dL_law_181 rfl rfl ?_
      refine x_iload_n (pc2 := 183) dL_law_182 rfl rfl ?_
      refine x_iconst (pc2 := 184) dL_law_183 rfl ?_
      refine x_iadd (pc2 := 185) dL_law_184 rfl ?_
      obtain ⟨h7, k⟩ := k
      obtain ⟨h8, k⟩ := k
      refine x_sald (pc2 := 186) h7 h8 dL_law_185 rfl ?_
      refine x_aload_n (pc2 := 187) dL_law_186 rfl rfl ?_
      refine x_iload_n (pc2 := 188) dL_law_187 rfl rfl ?_
      refine x_iconst (pc2 := 189) dL_law_188 rfl ?_
      refine x_iadd (pc2 := 190) dL_law_189 rfl ?_
      obtain ⟨h9, k⟩ := k
      obtain ⟨h10, k⟩ := k
      refine x_sald (pc2 := 191) h9 h10 dL_law_190 rfl ?_
      refine x_aload_n (pc2 := 192) dL_law_191 rfl rfl ?_
      refine x_iload_n (pc2 := 193) dL_law_192 rfl rfl ?_
      refine x_iconst (pc2 := 194) dL_law_193 rfl ?_
      refine x_iadd (pc2 := 195) dL_law_194 rfl ?_
      obtain ⟨h11, k⟩ := k
      obtain ⟨h12, k⟩ := k
      refine x_sald (pc2 := 196) h11 h12 dL_law_195 rfl ?_
      refine x_aload_n (pc2 := 197) dL_law_196 rfl rfl ?_
      refine x_iload_n (pc2 := 198) dL_law_197 rfl rfl ?_
      refine x_iconst (pc2 := 199) dL_law_198 rfl ?_
      refine x_iadd (pc2 := 200) dL_law_199 rfl ?_
      obtain ⟨h13, k⟩ := k
      obtain ⟨h14, k⟩ := k
      refine x_sald (pc2 := 201) h13 h14 dL_law_200 rfl ?_
      refine x_aload_n (pc2 := 202) dL_law_201 rfl rfl ?_
      refine x_iload_n (pc2 := 203) dL_law_202 rfl rfl ?_
      refine x_iconst (pc2 := 204) dL_law_203 rfl ?_
      refine x_iadd (pc2 := 205) dL_law_204 rfl ?_
      obtain ⟨h15, k⟩ := k
      obtain ⟨h16, k⟩ := k
      refine x_sald (pc2 := 206) h15 h16 dL_law_205 rfl ?_
      exact k
    by_cases c134 : (a_and (sc.getD l3.toNat 0) 63) = 1
    · replace k := k100 c134
      refine x_tin (tgt := 243) (off := 210) dL_law_33 h6 (by omega) (by omega) (by rw [c134]; rfl) (by decide) ?_
      refine x_aload_n (pc2 := 244) dL_law_243 rfl rfl ?_
      refine x_aload_n (pc2 := 245) dL_law_244 rfl rfl ?_
      refine x_iload_n (pc2 := 246) dL_law_245 rfl rfl ?_
      refine x_iconst (pc2 := 247) dL_law_246 rfl ?_
      refine x_iadd (pc2 := 248) dL_law_247 rfl ?_
      obtain ⟨h17, k⟩ := k
      obtain ⟨h18, k⟩ := k
      refine x_sald (pc2 := 249) h17 h18 dL_law_248 rfl ?_
      exact k
    by_cases c135 : (a_and (sc.getD l3.toNat 0) 63) = 2
    · replace k := k101 c135
      refine x_tin (tgt := 266) (off := 233) dL_law_33 h6 (by omega) (by omega) (by rw [c135]; rfl) (by decide) ?_
      refine x_aload_n (pc2 := 267) dL_law_266 rfl rfl ?_
      exact k
    by_cases c136 : (a_and (sc.getD l3.toNat 0) 63) = 3
    · replace k := k102 c136
      refine x_tin (tgt := 279) (off := 246) dL_law_33 h6 (by omega) (by omega) (by rw [c136]; rfl) (by decide) ?_
      refine x_aload_n (pc2 := 280) dL_law_279 rfl rfl ?_
      refine x_aload_n (pc2 := 281) dL_law_280 rfl rfl ?_
      refine x_iload_n (pc2 := 282) dL_law_281 rfl rfl ?_
      refine x_iconst (pc2 := 283) dL_law_282 rfl ?_
      refine x_iadd (pc2 := 284) dL_law_283 rfl ?_
      obtain ⟨h19, k⟩ := k
      obtain ⟨h20, k⟩ := k
      refine x_sald (pc2 := 285) h19 h20 dL_law_284 rfl ?_
      exact k
    by_cases c137 : (a_and (sc.getD l3.toNat 0) 63) = 4
    · replace k := k103 c137
      refine x_tin (tgt := 302) (off := 269) dL_law_33 h6 (by omega) (by omega) (by rw [c137]; rfl) (by decide) ?_
      refine x_aload_n (pc2 := 303) dL_law_302 rfl rfl ?_
      refine x_aload_n (pc2 := 304) dL_law_303 rfl rfl ?_
      refine x_iload_n (pc2 := 305) dL_law_304 rfl rfl ?_
      refine x_iconst (pc2 := 306) dL_law_305 rfl ?_
      refine x_iadd (pc2 := 307) dL_law_306 rfl ?_
      obtain ⟨h21, k⟩ := k
      obtain ⟨h22, k⟩ := k
      refine x_sald (pc2 := 308) h21 h22 dL_law_307 rfl ?_
      exact k
    by_cases c138 : (a_and (sc.getD l3.toNat 0) 63) = 5
    · replace k := k104 c138
      refine x_tin (tgt := 325) (off := 292) dL_law_33 h6 (by omega) (by omega) (by rw [c138]; rfl) (by decide) ?_
      refine x_aload_n (pc2 := 326) dL_law_325 rfl rfl ?_
      refine x_aload_n (pc2 := 327) dL_law_326 rfl rfl ?_
      refine x_iload_n (pc2 := 328) dL_law_327 rfl rfl ?_
      refine x_iconst (pc2 := 329) dL_law_328 rfl ?_
      refine x_iadd (pc2 := 330) dL_law_329 rfl ?_
      obtain ⟨h23, k⟩ := k
      obtain ⟨h24, k⟩ := k
      refine x_sald (pc2 := 331) h23 h24 dL_law_330 rfl ?_
      refine x_aload_n (pc2 := 332) dL_law_331 rfl rfl ?_
      refine x_iload_n (pc2 := 333) dL_law_332 rfl rfl ?_
      refine x_iconst (pc2 := 334) dL_law_333 rfl ?_
      refine x_iadd (pc2 := 335) dL_law_334 rfl ?_
      obtain ⟨h25, k⟩ := k
      obtain ⟨h26, k⟩ := k
      refine x_sald (pc2 := 336) h25 h26 dL_law_335 rfl ?_
      refine x_aload_n (pc2 := 337) dL_law_336 rfl rfl ?_
      refine x_iload_n (pc2 := 338) dL_law_337 rfl rfl ?_
      refine x_iconst (pc2 := 339) dL_law_338 rfl ?_
      refine x_iadd (pc2 := 340) dL_law_339 rfl ?_
      obtain ⟨h27, k⟩ := k
      obtain ⟨h28, k⟩ := k
      refine x_sald (pc2 := 341) h27 h28 dL_law_340 rfl ?_
      exact k
    by_cases c139 : (a_and (sc.getD l3.toNat 0) 63) = 6
    · replace k := k105 c139
      refine x_tin (tgt := 368) (off := 335) dL_law_33 h6 (by omega) (by omega) (by rw [c139]; rfl) (by decide) ?_
      refine x_aload_n (pc2 := 369) dL_law_368 rfl rfl ?_
      refine x_aload_n (pc2 := 370) dL_law_369 rfl rfl ?_
      refine x_iload_n (pc2 := 371) dL_law_370 rfl rfl ?_
      refine x_iconst (pc2 := 372) dL_law_371 rfl ?_
      refine x_iadd (pc2 := 373) dL_law_372 rfl ?_
      obtain ⟨h29, k⟩ := k
      obtain ⟨h30, k⟩ := k
      refine x_sald (pc2 := 374) h29 h30 dL_law_373 rfl ?_
      refine x_aload_n (pc2 := 375) dL_law_374 rfl rfl ?_
      refine x_iload_n (pc2 := 376) dL_law_375 rfl rfl ?_
      refine x_iconst (pc2 := 377) dL_law_376 rfl ?_
      refine x_iadd (pc2 := 378) dL_law_377 rfl ?_
      obtain ⟨h31, k⟩ := k
      obtain ⟨h32, k⟩ := k
      refine x_sald (pc2 := 379) h31 h32 dL_law_378 rfl ?_
      exact k
    by_cases c140 : (a_and (sc.getD l3.toNat 0) 63) = 7
    · replace k := k106 c140
      refine x_tin (tgt := 401) (off := 368) dL_law_33 h6 (by omega) (by omega) (by rw [c140]; rfl) (by decide) ?_
      refine x_aload_n (pc2 := 402) dL_law_401 rfl rfl ?_
      refine x_aload_n (pc2 := 403) dL_law_402 rfl rfl ?_
      refine x_iload_n (pc2 := 404) dL_law_403 rfl rfl ?_
      refine x_iconst (pc2 := 405) dL_law_404 rfl ?_
      refine x_iadd (pc2 := 406) dL_law_405 rfl ?_
      obtain ⟨h33, k⟩ := k
      obtain ⟨h34, k⟩ := k
      refine x_sald (pc2 := 407) h33 h34 dL_law_406 rfl ?_
      refine x_aload_n (pc2 := 408) dL_law_407 rfl rfl ?_
      refine x_iload_n (pc2 := 409) dL_law_408 rfl rfl ?_
      refine x_iconst (pc2 := 410) dL_law_409 rfl ?_
      refine x_iadd (pc2 := 411) dL_law_410 rfl ?_
      obtain ⟨h35, k⟩ := k
      obtain ⟨h36, k⟩ := k
      refine x_sald (pc2 := 412) h35 h36 dL_law_411 rfl ?_
      exact k
    by_cases c141 : (a_and (sc.getD l3.toNat 0) 63) = 8
    · replace k := k107 c141
      refine x_tin (tgt := 434) (off := 401) dL_law_33 h6 (by omega) (by omega) (by rw [c141]; rfl) (by decide) ?_
      refine x_aload_n (pc2 := 435) dL_law_434 rfl rfl ?_
      refine x_aload_n (pc2 := 436) dL_law_435 rfl rfl ?_
      refine x_iload_n (pc2 := 437) dL_law_436 rfl rfl ?_
      refine x_iconst (pc2 := 438) dL_law_437 rfl ?_
      refine x_iadd (pc2 := 439) dL_law_438 rfl ?_
      obtain ⟨h37, k⟩ := k
      obtain ⟨h38, k⟩ := k
      refine x_sald (pc2 := 440) h37 h38 dL_law_439 rfl ?_
      refine x_aload_n (pc2 := 441) dL_law_440 rfl rfl ?_
      refine x_iload_n (pc2 := 442) dL_law_441 rfl rfl ?_
      refine x_iconst (pc2 := 443) dL_law_442 rfl ?_
      refine x_iadd (pc2 := 444) dL_law_443 rfl ?_
      obtain ⟨h39, k⟩ := k
      obtain ⟨h40, k⟩ := k
      refine x_sald (pc2 := 445) h39 h40 dL_law_444 rfl ?_
      refine x_aload_n (pc2 := 446) dL_law_445 rfl rfl ?_
      refine x_iload_n (pc2 := 447) dL_law_446 rfl rfl ?_
      refine x_iconst (pc2 := 448) dL_law_447 rfl ?_
      refine x_iadd (pc2 := 449) dL_law_448 rfl ?_
      obtain ⟨h41, k⟩ := k
      obtain ⟨h42, k⟩ := k
      refine x_sald (pc2 := 450) h41 h42 dL_law_449 rfl ?_
      refine x_aload_n (pc2 := 451) dL_law_450 rfl rfl ?_
      refine x_iload_n (pc2 := 452) dL_law_451 rfl rfl ?_
      refine x_iconst (pc2 := 453) dL_law_452 rfl ?_
      refine x_iadd (pc2 := 454) dL_law_453 rfl ?_
      obtain ⟨h43, k⟩ := k
      obtain ⟨h44, k⟩ := k
      refine x_sald (pc2 := 455) h43 h44 dL_law_454 rfl ?_
      exact k
    by_cases c142 : (a_and (sc.getD l3.toNat 0) 63) = 9
    · replace k := k108 c142
      refine x_tin (tgt := 487) (off := 454) dL_law_33 h6 (by omega) (by omega) (by rw [c142]; rfl) (by decide) ?_
      refine x_aload_n (pc2 := 488) dL_law_487 rfl rfl ?_
      refine x_aload_n (pc2 := 489) dL_law_488 rfl rfl ?_
      refine x_iload_n (pc2 := 490) dL_law_489 rfl rfl ?_
      refine x_iconst (pc2 := 491) dL_law_490 rfl ?_
      refine x_iadd (pc2 := 492) dL_law_491 rfl ?_
      obtain ⟨h45, k⟩ := k
      obtain ⟨h46, k⟩ := k
      refine x_sald (pc2 := 493) h45 h46 dL_law_492 rfl ?_
      refine x_aload_n (pc2 := 494) dL_law_493 rfl rfl ?_
      refine x_iload_n (pc2 := 495) dL_law_494 rfl rfl ?_
      refine x_iconst (pc2 := 496) dL_law_495 rfl ?_
      refine x_iadd (pc2 := 497) dL_law_496 rfl ?_
      obtain ⟨h47, k⟩ := k
      obtain ⟨h48, k⟩ := k
      refine x_sald (pc2 := 498) h47 h48 dL_law_497 rfl ?_
      refine x_aload_n (pc2 := 499) dL_law_498 rfl rfl ?_
      refine x_iload_n (pc2 := 500) dL_law_499 rfl rfl ?_
      refine x_iconst (pc2 := 501) dL_law_500 rfl ?_
      refine x_iadd (pc2 := 502) dL_law_501 rfl ?_
      obtain ⟨h49, k⟩ := k
      obtain ⟨h50, k⟩ := k
      refine x_sald (pc2 := 503) h49 h50 dL_law_502 rfl ?_
      exact k
    by_cases c143 : (a_and (sc.getD l3.toNat 0) 63) = 10
    · replace k := k109 c143
      refine x_tin (tgt := 530) (off := 497) dL_law_33 h6 (by omega) (by omega) (by rw [c143]; rfl) (by decide) ?_
      refine x_aload_n (pc2 := 531) dL_law_530 rfl rfl ?_
      refine x_aload_n (pc2 := 532) dL_law_531 rfl rfl ?_
      refine x_iload_n (pc2 := 533) dL_law_532 rfl rfl ?_
      refine x_iconst (pc2 := 534) dL_law_533 rfl ?_
      refine x_iadd (pc2 := 535) dL_law_534 rfl ?_
      obtain ⟨h51, k⟩ := k
      obtain ⟨h52, k⟩ := k
      refine x_sald (pc2 := 536) h51 h52 dL_law_535 rfl ?_
      exact k
    by_cases c144 : (a_and (sc.getD l3.toNat 0) 63) = 11
    · replace k := k110 c144
      refine x_tin (tgt := 553) (off := 520) dL_law_33 h6 (by omega) (by omega) (by rw [c144]; rfl) (by decide) ?_
      refine x_aload_n (pc2 := 554) dL_law_553 rfl rfl ?_
      refine x_aload_n (pc2 := 555) dL_law_554 rfl rfl ?_
      refine x_iload_n (pc2 := 556) dL_law_555 rfl rfl ?_
      refine x_iconst (pc2 := 557) dL_law_556 rfl ?_
      refine x_iadd (pc2 := 558) dL_law_557 rfl ?_
      obtain ⟨h53, k⟩ := k
      obtain ⟨h54, k⟩ := k
      refine x_sald (pc2 := 559) h53 h54 dL_law_558 rfl ?_
      refine x_aload_n (pc2 := 560) dL_law_559 rfl rfl ?_
      refine x_iload_n (pc2 := 561) dL_law_560 rfl rfl ?_
      refine x_iconst (pc2 := 562) dL_law_561 rfl ?_
      refine x_iadd (pc2 := 563) dL_law_562 rfl ?_
      obtain ⟨h55, k⟩ := k
      obtain ⟨h56, k⟩ := k
      refine x_sald (pc2 := 564) h55 h56 dL_law_563 rfl ?_
      exact k
    by_cases c145 : (a_and (sc.getD l3.toNat 0) 63) = 12
    · replace k := k111 c145
      refine x_tin (tgt := 586) (off := 553) dL_law_33 h6 (by omega) (by omega) (by rw [c145]; rfl) (by decide) ?_
      refine x_aload_n (pc2 := 587) dL_law_586 rfl rfl ?_
      refine x_aload_n (pc2 := 588) dL_law_587 rfl rfl ?_
      refine x_iload_n (pc2 := 589) dL_law_588 rfl rfl ?_
      refine x_iconst (pc2 := 590) dL_law_589 rfl ?_
      refine x_iadd (pc2 := 591) dL_law_590 rfl ?_
      obtain ⟨h57, k⟩ := k
      obtain ⟨h58, k⟩ := k
      refine x_sald (pc2 := 592) h57 h58 dL_law_591 rfl ?_
      exact k
    by_cases c146 : (a_and (sc.getD l3.toNat 0) 63) = 13
    · replace k := k112 c146
      refine x_tin (tgt := 609) (off := 576) dL_law_33 h6 (by omega) (by omega) (by rw [c146]; rfl) (by decide) ?_
      refine x_aload_n (pc2 := 610) dL_law_609 rfl rfl ?_
      exact k
    by_cases c147 : (a_and (sc.getD l3.toNat 0) 63) = 14
    · replace k := k113 c147
      refine x_tin (tgt := 622) (off := 589) dL_law_33 h6 (by omega) (by omega) (by rw [c147]; rfl) (by decide) ?_
      refine x_aload_n (pc2 := 623) dL_law_622 rfl rfl ?_
      refine x_aload_n (pc2 := 624) dL_law_623 rfl rfl ?_
      refine x_iload_n (pc2 := 625) dL_law_624 rfl rfl ?_
      refine x_iconst (pc2 := 626) dL_law_625 rfl ?_
      refine x_iadd (pc2 := 627) dL_law_626 rfl ?_
      obtain ⟨h59, k⟩ := k
      obtain ⟨h60, k⟩ := k
      refine x_sald (pc2 := 628) h59 h60 dL_law_627 rfl ?_
      refine x_aload_n (pc2 := 629) dL_law_628 rfl rfl ?_
      refine x_iload_n (pc2 := 630) dL_law_629 rfl rfl ?_
      refine x_iconst (pc2 := 631) dL_law_630 rfl ?_
      refine x_iadd (pc2 := 632) dL_law_631 rfl ?_
      obtain ⟨h61, k⟩ := k
      obtain ⟨h62, k⟩ := k
      refine x_sald (pc2 := 633) h61 h62 dL_law_632 rfl ?_
      exact k
    by_cases c148 : (a_and (sc.getD l3.toNat 0) 63) = 15
    · replace k := k114 c148
      refine x_tin (tgt := 655) (off := 622) dL_law_33 h6 (by omega) (by omega) (by rw [c148]; rfl) (by decide) ?_
      refine x_aload_n (pc2 := 656) dL_law_655 rfl rfl ?_
      refine x_aload_n (pc2 := 657) dL_law_656 rfl rfl ?_
      refine x_iload_n (pc2 := 658) dL_law_657 rfl rfl ?_
      refine x_iconst (pc2 := 659) dL_law_658 rfl ?_
      refine x_iadd (pc2 := 660) dL_law_659 rfl ?_
      obtain ⟨h63, k⟩ := k
      obtain ⟨h64, k⟩ := k
      refine x_sald (pc2 := 661) h63 h64 dL_law_660 rfl ?_
      refine x_aload_n (pc2 := 662) dL_law_661 rfl rfl ?_
      refine x_iload_n (pc2 := 663) dL_law_662 rfl rfl ?_
      refine x_iconst (pc2 := 664) dL_law_663 rfl ?_
      refine x_iadd (pc2 := 665) dL_law_664 rfl ?_
      obtain ⟨h65, k⟩ := k
      obtain ⟨h66, k⟩ := k
      refine x_sald (pc2 := 666) h65 h66 dL_law_665 rfl ?_
      exact k
    by_cases c149 : (a_and (sc.getD l3.toNat 0) 63) = 16
    · replace k := k115 c149
      refine x_tin (tgt := 688) (off := 655) dL_law_33 h6 (by omega) (by omega) (by rw [c149]; rfl) (by decide) ?_
      refine x_aload_n (pc2 := 689) dL_law_688 rfl rfl ?_
      refine x_aload_n (pc2 := 690) dL_law_689 rfl rfl ?_
      refine x_iload_n (pc2 := 691) dL_law_690 rfl rfl ?_
      refine x_iconst (pc2 := 692) dL_law_691 rfl ?_
      refine x_iadd (pc2 := 693) dL_law_692 rfl ?_
      obtain ⟨h67, k⟩ := k
      obtain ⟨h68, k⟩ := k
      refine x_sald (pc2 := 694) h67 h68 dL_law_693 rfl ?_
      refine x_aload_n (pc2 := 695) dL_law_694 rfl rfl ?_
      refine x_iload_n (pc2 := 696) dL_law_695 rfl rfl ?_
      refine x_iconst (pc2 := 697) dL_law_696 rfl ?_
      refine x_iadd (pc2 := 698) dL_law_697 rfl ?_
      obtain ⟨h69, k⟩ := k
      obtain ⟨h70, k⟩ := k
      refine x_sald (pc2 := 699) h69 h70 dL_law_698 rfl ?_
      exact k
    by_cases c150 : (a_and (sc.getD l3.toNat 0) 63) = 17
    · replace k := k116 c150
      refine x_tin (tgt := 721) (off := 688) dL_law_33 h6 (by omega) (by omega) (by rw [c150]; rfl) (by decide) ?_
      refine x_aload_n (pc2 := 722) dL_law_721 rfl rfl ?_
      refine x_aload_n (pc2 := 723) dL_law_722 rfl rfl ?_
      refine x_iload_n (pc2 := 724) dL_law_723 rfl rfl ?_
      refine x_iconst (pc2 := 725) dL_law_724 rfl ?_
      refine x_iadd (pc2 := 726) dL_law_725 rfl ?_
      obtain ⟨h71, k⟩ := k
      obtain ⟨h72, k⟩ := k
      refine x_sald (pc2 := 727) h71 h72 dL_law_726 rfl ?_
      refine x_aload_n (pc2 := 728) dL_law_727 rfl rfl ?_
      refine x_iload_n (pc2 := 729) dL_law_728 rfl rfl ?_
      refine x_iconst (pc2 := 730) dL_law_729 rfl ?_
      refine x_iadd (pc2 := 731) dL_law_730 rfl ?_
      obtain ⟨h73, k⟩ := k
      obtain ⟨h74, k⟩ := k
      refine x_sald (pc2 := 732) h73 h74 dL_law_731 rfl ?_
      exact k
    by_cases c151 : (a_and (sc.getD l3.toNat 0) 63) = 18
    · replace k := k117 c151
      refine x_tin (tgt := 754) (off := 721) dL_law_33 h6 (by omega) (by omega) (by rw [c151]; rfl) (by decide) ?_
      refine x_aload_n (pc2 := 755) dL_law_754 rfl rfl ?_
      refine x_aload_n (pc2 := 756) dL_law_755 rfl rfl ?_
      refine x_iload_n (pc2 := 757) dL_law_756 rfl rfl ?_
      refine x_iconst (pc2 := 758) dL_law_757 rfl ?_
      refine x_iadd (pc2 := 759) dL_law_758 rfl ?_
      obtain ⟨h75, k⟩ := k
      obtain ⟨h76, k⟩ := k
      refine x_sald (pc2 := 760) h75 h76 dL_law_759 rfl ?_
      exact k
    by_cases c152 : (a_and (sc.getD l3.toNat 0) 63) = 19
    · replace k := k118 c152
      refine x_tin (tgt := 777) (off := 744) dL_law_33 h6 (by omega) (by omega) (by rw [c152]; rfl) (by decide) ?_
      refine x_aload_n (pc2 := 778) dL_law_777 rfl rfl ?_
      refine x_aload_n (pc2 := 779) dL_law_778 rfl rfl ?_
      refine x_iload_n (pc2 := 780) dL_law_779 rfl rfl ?_
      refine x_iconst (pc2 := 781) dL_law_780 rfl ?_
      refine x_iadd (pc2 := 782) dL_law_781 rfl ?_
      obtain ⟨h77, k⟩ := k
      obtain ⟨h78, k⟩ := k
      refine x_sald (pc2 := 783) h77 h78 dL_law_782 rfl ?_
      exact k
    by_cases c153 : (a_and (sc.getD l3.toNat 0) 63) = 20
    · replace k := k119 c153
      refine x_tin (tgt := 800) (off := 767) dL_law_33 h6 (by omega) (by omega) (by rw [c153]; rfl) (by decide) ?_
      refine x_aload_n (pc2 := 801) dL_law_800 rfl rfl ?_
      refine x_aload_n (pc2 := 802) dL_law_801 rfl rfl ?_
      refine x_iload_n (pc2 := 803) dL_law_802 rfl rfl ?_
      refine x_iconst (pc2 := 804) dL_law_803 rfl ?_
      refine x_iadd (pc2 := 805) dL_law_804 rfl ?_
      obtain ⟨h79, k⟩ := k
      obtain ⟨h80, k⟩ := k
      refine x_sald (pc2 := 806) h79 h80 dL_law_805 rfl ?_
      obtain ⟨g82, k⟩ := k
      have kj : S_L_law sc d 814 [aR (-7), aR 0, aR 62, aI l3] [aI (if (sc.getD (l3 + 1).toNat 0) = 0 then 0 else 1 : Int), aR 0] m Q := by
        exact k
      have h83 := g82 
      refine x_if_eq (tgt := 813) (pc2 := 809) dL_law_806 (by decide) rfl h83 (fun c84 => ?_) (fun c84 => ?_)
      · skip
        refine x_iconst (pc2 := 814) dL_law_813 rfl ?_
        exact x_topI (v := (if (sc.getD (l3 + 1).toNat 0) = 0 then 0 else 1 : Int)) (if_pos c84) kj
      · skip
        refine x_iconst (pc2 := 810) dL_law_809 rfl ?_
        refine x_goto (tgt := 814) dL_law_810 (by decide) ?_
        exact x_topI (v := (if (sc.getD (l3 + 1).toNat 0) = 0 then 0 else 1 : Int)) (if_neg c84) kj
    by_cases c154 : (a_and (sc.getD l3.toNat 0) 63) = 21
    · replace k := k120 c154
      refine x_tin (tgt := 839) (off := 806) dL_law_33 h6 (by omega) (by omega) (by rw [c154]; rfl) (by decide) ?_
      refine x_aload_n (pc2 := 840) dL_law_839 rfl rfl ?_
      exact k
    by_cases c155 : (a_and (sc.getD l3.toNat 0) 63) = 22
    · replace k := k121 c155
      refine x_tin (tgt := 852) (off := 819) dL_law_33 h6 (by omega) (by omega) (by rw [c155]; rfl) (by decide) ?_
      refine x_aload_n (pc2 := 853) dL_law_852 rfl rfl ?_
      refine x_aload_n (pc2 := 854) dL_law_853 rfl rfl ?_
      refine x_iload_n (pc2 := 855) dL_law_854 rfl rfl ?_
      refine x_iconst (pc2 := 856) dL_law_855 rfl ?_
      refine x_iadd (pc2 := 857) dL_law_856 rfl ?_
      obtain ⟨h85, k⟩ := k
      obtain ⟨h86, k⟩ := k
      refine x_sald (pc2 := 858) h85 h86 dL_law_857 rfl ?_
      exact k
    by_cases c156 : (a_and (sc.getD l3.toNat 0) 63) = 23
    · replace k := k122 c156
      refine x_tin (tgt := 875) (off := 842) dL_law_33 h6 (by omega) (by omega) (by rw [c156]; rfl) (by decide) ?_
      refine x_aload_n (pc2 := 876) dL_law_875 rfl rfl ?_
      exact k
    by_cases c157 : (a_and (sc.getD l3.toNat 0) 63) = 24
    · replace k := k123 c157
      refine x_tin (tgt := 888) (off := 855) dL_law_33 h6 (by omega) (by omega) (by rw [c157]; rfl) (by decide) ?_
      refine x_aload_n (pc2 := 889) dL_law_888 rfl rfl ?_
      exact k
    by_cases c158 : (a_and (sc.getD l3.toNat 0) 63) = 25
    · replace k := k124 c158
      refine x_tin (tgt := 901) (off := 868) dL_law_33 h6 (by omega) (by omega) (by rw [c158]; rfl) (by decide) ?_
      refine x_aload_n (pc2 := 902) dL_law_901 rfl rfl ?_
      refine x_aload_n (pc2 := 903) dL_law_902 rfl rfl ?_
      refine x_iload_n (pc2 := 904) dL_law_903 rfl rfl ?_
      refine x_iconst (pc2 := 905) dL_law_904 rfl ?_
      refine x_iadd (pc2 := 906) dL_law_905 rfl ?_
      obtain ⟨h87, k⟩ := k
      obtain ⟨h88, k⟩ := k
      refine x_sald (pc2 := 907) h87 h88 dL_law_906 rfl ?_
      exact k
    by_cases c159 : (a_and (sc.getD l3.toNat 0) 63) = 26
    · replace k := k125 c159
      refine x_tin (tgt := 924) (off := 891) dL_law_33 h6 (by omega) (by omega) (by rw [c159]; rfl) (by decide) ?_
      refine x_aload_n (pc2 := 925) dL_law_924 rfl rfl ?_
      exact k
    by_cases c160 : (a_and (sc.getD l3.toNat 0) 63) = 27
    · replace k := k126 c160
      refine x_tin (tgt := 937) (off := 904) dL_law_33 h6 (by omega) (by omega) (by rw [c160]; rfl) (by decide) ?_
      refine x_aload_n (pc2 := 938) dL_law_937 rfl rfl ?_
      refine x_aload_n (pc2 := 939) dL_law_938 rfl rfl ?_
      refine x_iload_n (pc2 := 940) dL_law_939 rfl rfl ?_
      refine x_iconst (pc2 := 941) dL_law_940 rfl ?_
      refine x_iadd (pc2 := 942) dL_law_941 rfl ?_
      obtain ⟨h89, k⟩ := k
      obtain ⟨h90, k⟩ := k
      refine x_sald (pc2 := 943) h89 h90 dL_law_942 rfl ?_
      exact k
    by_cases c161 : (a_and (sc.getD l3.toNat 0) 63) = 28
    · replace k := k127 c161
      refine x_tin (tgt := 960) (off := 927) dL_law_33 h6 (by omega) (by omega) (by rw [c161]; rfl) (by decide) ?_
      refine x_aload_n (pc2 := 961) dL_law_960 rfl rfl ?_
      refine x_aload_n (pc2 := 962) dL_law_961 rfl rfl ?_
      refine x_iload_n (pc2 := 963) dL_law_962 rfl rfl ?_
      refine x_iconst (pc2 := 964) dL_law_963 rfl ?_
      refine x_iadd (pc2 := 965) dL_law_964 rfl ?_
      obtain ⟨h91, k⟩ := k
      obtain ⟨h92, k⟩ := k
      refine x_sald (pc2 := 966) h91 h92 dL_law_965 rfl ?_
      refine x_aload_n (pc2 := 967) dL_law_966 rfl rfl ?_
      refine x_iload_n (pc2 := 968) dL_law_967 rfl rfl ?_
      refine x_iconst (pc2 := 969) dL_law_968 rfl ?_
      refine x_iadd (pc2 := 970) dL_law_969 rfl ?_
      obtain ⟨h93, k⟩ := k
      obtain ⟨h94, k⟩ := k
      refine x_sald (pc2 := 971) h93 h94 dL_law_970 rfl ?_
      exact k
    by_cases c162 : (a_and (sc.getD l3.toNat 0) 63) = 29
    · replace k := k128 c162
      refine x_tin (tgt := 994) (off := 961) dL_law_33 h6 (by omega) (by omega) (by rw [c162]; rfl) (by decide) ?_
      refine x_aload_n (pc2 := 995) dL_law_994 rfl rfl ?_
      exact k
    by_cases c163 : (a_and (sc.getD l3.toNat 0) 63) = 30
    · replace k := k129 c163
      refine x_tin (tgt := 1007) (off := 974) dL_law_33 h6 (by omega) (by omega) (by rw [c163]; rfl) (by decide) ?_
      refine x_aload_n (pc2 := 1008) dL_law_1007 rfl rfl ?_
      refine x_aload_n (pc2 := 1009) dL_law_1008 rfl rfl ?_
      refine x_iload_n (pc2 := 1010) dL_law_1009 rfl rfl ?_
      refine x_iconst (pc2 := 1011) dL_law_1010 rfl ?_
      refine x_iadd (pc2 := 1012) dL_law_1011 rfl ?_
      obtain ⟨h95, k⟩ := k
      obtain ⟨h96, k⟩ := k
      refine x_sald (pc2 := 1013) h95 h96 dL_law_1012 rfl ?_
      exact k
    by_cases c164 : (a_and (sc.getD l3.toNat 0) 63) = 31
    · replace k := k130 c164
      refine x_tin (tgt := 1030) (off := 997) dL_law_33 h6 (by omega) (by omega) (by rw [c164]; rfl) (by decide) ?_
      refine x_aload_n (pc2 := 1031) dL_law_1030 rfl rfl ?_
      exact k
    by_cases c165 : (a_and (sc.getD l3.toNat 0) 63) = 32
    · replace k := k131 c165
      refine x_tin (tgt := 1043) (off := 1010) dL_law_33 h6 (by omega) (by omega) (by rw [c165]; rfl) (by decide) ?_
      refine x_aload_n (pc2 := 1044) dL_law_1043 rfl rfl ?_
      refine x_aload_n (pc2 := 1045) dL_law_1044 rfl rfl ?_
      refine x_iload_n (pc2 := 1046) dL_law_1045 rfl rfl ?_
      refine x_iconst (pc2 := 1047) dL_law_1046 rfl ?_
      refine x_iadd (pc2 := 1048) dL_law_1047 rfl ?_
      obtain ⟨h97, k⟩ := k
      obtain ⟨h98, k⟩ := k
      refine x_sald (pc2 := 1049) h97 h98 dL_law_1048 rfl ?_
      exact k
    replace k := k132 (by omega)
    have kd : S_L_law sc d 1066 [aR (-7), aR 0, aR 62, aI l3] [] m Q := by
      refine x_iinc (pc2 := 1069) (ls2 := [aR (-7), aR 0, aR 62, aI (l3 + 6)]) dL_law_1066 rfl rfl (by decide) rfl ?_
      refine x_goto (tgt := 18) dL_law_1069 (by decide) ?_
      exact k
    by_cases c166 : (a_and (sc.getD l3.toNat 0) 63) < 0 ∨ 32 < (a_and (sc.getD l3.toNat 0) 63)
    · exact x_tout (tgt := 1066) dL_law_33 h6 c166 (by decide) kd
    exact absurd c166 (by omega)
set_option maxRecDepth 4000 in
theorem g_L_law_209 {sc : List Int} {d : Nat} {m : Mem} {Q : Option AV → Mem → Prop} {l3 s0 : Int} (k : (0 ≤ (l3 + 1)) ∧ ((l3 + 1) < sc.length) ∧ (0 ≤ (l3 + 2)) ∧ ((l3 + 2) < sc.length) ∧ (0 ≤ (l3 + 3)) ∧ ((l3 + 3) < sc.length) ∧ (0 ≤ (l3 + 4)) ∧ ((l3 + 4) < sc.length) ∧ (0 ≤ (l3 + 5)) ∧ ((l3 + 5) < sc.length) ∧ S_L_law sc d 235 [aR (-7), aR 0, aR 62, aI l3] [aI (sc.getD (l3 + 5).toNat 0), aI (sc.getD (l3 + 4).toNat 0), aI (sc.getD (l3 + 3).toNat 0), aI (sc.getD (l3 + 2).toNat 0), aI (sc.getD (l3 + 1).toNat 0), aR 62, aI s0] m Q) : S_L_law sc d 209 [aR (-7), aR 0, aR 62, aI l3] [aI s0] m Q := by
  refine x_aload_n (pc2 := 210) dL_law_209 rfl rfl ?_
  refine x_aload_n (pc2 := 211) dL_law_210 rfl rfl ?_
  refine x_iload_n (pc2 := 212) dL_law_211 rfl rfl ?_
  refine x_iconst (pc2 := 213) dL_law_212 rfl ?_
  refine x_iadd (pc2 := 214) dL_law_213 rfl ?_
  obtain ⟨h1, k⟩ := k
  obtain ⟨h2, k⟩ := k
  refine x_sald (pc2 := 215) h1 h2 dL_law_214 rfl ?_
  refine x_aload_n (pc2 := 216) dL_law_215 rfl rfl ?_
  refine x_iload_n (pc2 := 217) dL_law_216 rfl rfl ?_
  refine x_iconst (pc2 := 218) dL_law_217 rfl ?_
  refine x_iadd (pc2 := 219) dL_law_218 rfl ?_
  obtain ⟨h3, k⟩ := k
  obtain ⟨h4, k⟩ := k
  refine x_sald (pc2 := 220) h3 h4 dL_law_219 rfl ?_
  refine x_aload_n (pc2 := 221) dL_law_220 rfl rfl ?_
  refine x_iload_n (pc2 := 222) dL_law_221 rfl rfl ?_
  refine x_iconst (pc2 := 223) dL_law_222 rfl ?_
  refine x_iadd (pc2 := 224) dL_law_223 rfl ?_
  obtain ⟨h5, k⟩ := k
  obtain ⟨h6, k⟩ := k
  refine x_sald (pc2 := 225) h5 h6 dL_law_224 rfl ?_
  refine x_aload_n (pc2 := 226) dL_law_225 rfl rfl ?_
  refine x_iload_n (pc2 := 227) dL_law_226 rfl rfl ?_
  refine x_iconst (pc2 := 228) dL_law_227 rfl ?_
  refine x_iadd (pc2 := 229) dL_law_228 rfl ?_
  obtain ⟨h7, k⟩ := k
  obtain ⟨h8, k⟩ := k
  refine x_sald (pc2 := 230) h7 h8 dL_law_229 rfl ?_
  refine x_aload_n (pc2 := 231) dL_law_230 rfl rfl ?_
  refine x_iload_n (pc2 := 232) dL_law_231 rfl rfl ?_
  refine x_iconst (pc2 := 233) dL_law_232 rfl ?_
  refine x_iadd (pc2 := 234) dL_law_233 rfl ?_
  obtain ⟨h9, k⟩ := k
  obtain ⟨h10, k⟩ := k
  refine x_sald (pc2 := 235) h9 h10 dL_law_234 rfl ?_
  exact k
set_option maxRecDepth 4000 in
theorem g_L_law_238 {sc : List Int} {d : Nat} {m : Mem} {Q : Option AV → Mem → Prop} {l3 s0 s1 : Int} (k : (-2147483648 ≤ s0 ∧ s0 < 2147483648) ∧ (-2147483648 ≤ s1 ∧ s1 < 2147483648) ∧ ((s0 = s1) → (S_L_law sc d 18 [aR (-7), aR 0, aR 62, aI (l3 + 6)] [] m Q)) ∧ (¬ (s0 = s1) → (Q (some (aI 0)) m))) : S_L_law sc d 238 [aR (-7), aR 0, aR 62, aI l3] [aI s1, aI s0] m Q := by
  obtain ⟨h1, k⟩ := k
  obtain ⟨h2, k⟩ := k
  obtain ⟨k1, k2⟩ := k
  refine x_icmp_eq (tgt := 1066) (pc2 := 241) dL_law_238 (by decide) rfl h1 h2 (fun c3 => ?_) (fun c3 => ?_)
  · replace k := k1 c3
    refine x_iinc (pc2 := 1069) (ls2 := [aR (-7), aR 0, aR 62, aI (l3 + 6)]) dL_law_1066 rfl rfl (by decide) rfl ?_
    refine x_goto (tgt := 18) dL_law_1069 (by decide) ?_
    exact k
  · replace k := k2 c3
    refine x_iconst (pc2 := 242) dL_law_241 rfl ?_
    exact x_ireturn dL_law_242 ⟨.boolean, rfl, rfl⟩ k
set_option maxRecDepth 4000 in
theorem g_L_law_252 {sc : List Int} {d : Nat} {m : Mem} {Q : Option AV → Mem → Prop} {l3 s0 : Int} (k : (0 ≤ (l3 + 1)) ∧ ((l3 + 1) < sc.length) ∧ S_L_law sc d 258 [aR (-7), aR 0, aR 62, aI l3] [aI (sc.getD (l3 + 1).toNat 0), aR 62, aI s0] m Q) : S_L_law sc d 252 [aR (-7), aR 0, aR 62, aI l3] [aI s0] m Q := by
  refine x_aload_n (pc2 := 253) dL_law_252 rfl rfl ?_
  refine x_aload_n (pc2 := 254) dL_law_253 rfl rfl ?_
  refine x_iload_n (pc2 := 255) dL_law_254 rfl rfl ?_
  refine x_iconst (pc2 := 256) dL_law_255 rfl ?_
  refine x_iadd (pc2 := 257) dL_law_256 rfl ?_
  obtain ⟨h1, k⟩ := k
  obtain ⟨h2, k⟩ := k
  refine x_sald (pc2 := 258) h1 h2 dL_law_257 rfl ?_
  exact k
set_option maxRecDepth 4000 in
theorem g_L_law_261 {sc : List Int} {d : Nat} {m : Mem} {Q : Option AV → Mem → Prop} {l3 s0 s1 : Int} (k : (-2147483648 ≤ s0 ∧ s0 < 2147483648) ∧ (-2147483648 ≤ s1 ∧ s1 < 2147483648) ∧ ((s0 = s1) → (S_L_law sc d 18 [aR (-7), aR 0, aR 62, aI (l3 + 6)] [] m Q)) ∧ (¬ (s0 = s1) → (Q (some (aI 0)) m))) : S_L_law sc d 261 [aR (-7), aR 0, aR 62, aI l3] [aI s1, aI s0] m Q := by
  obtain ⟨h1, k⟩ := k
  obtain ⟨h2, k⟩ := k
  obtain ⟨k1, k2⟩ := k
  refine x_icmp_eq (tgt := 1066) (pc2 := 264) dL_law_261 (by decide) rfl h1 h2 (fun c3 => ?_) (fun c3 => ?_)
  · replace k := k1 c3
    refine x_iinc (pc2 := 1069) (ls2 := [aR (-7), aR 0, aR 62, aI (l3 + 6)]) dL_law_1066 rfl rfl (by decide) rfl ?_
    refine x_goto (tgt := 18) dL_law_1069 (by decide) ?_
    exact k
  · replace k := k2 c3
    refine x_iconst (pc2 := 265) dL_law_264 rfl ?_
    exact x_ireturn dL_law_265 ⟨.boolean, rfl, rfl⟩ k
set_option maxRecDepth 4000 in
theorem g_L_law_270 {sc : List Int} {d : Nat} {m : Mem} {Q : Option AV → Mem → Prop} {l3 s0 : Int} (k : S_L_law sc d 271 [aR (-7), aR 0, aR 62, aI l3] [aR 62, aI s0] m Q) : S_L_law sc d 270 [aR (-7), aR 0, aR 62, aI l3] [aI s0] m Q := by
  refine x_aload_n (pc2 := 271) dL_law_270 rfl rfl ?_
  exact k
set_option maxRecDepth 4000 in
theorem g_L_law_274 {sc : List Int} {d : Nat} {m : Mem} {Q : Option AV → Mem → Prop} {l3 s0 s1 : Int} (k : (-2147483648 ≤ s0 ∧ s0 < 2147483648) ∧ (-2147483648 ≤ s1 ∧ s1 < 2147483648) ∧ ((s0 = s1) → (S_L_law sc d 18 [aR (-7), aR 0, aR 62, aI (l3 + 6)] [] m Q)) ∧ (¬ (s0 = s1) → (Q (some (aI 0)) m))) : S_L_law sc d 274 [aR (-7), aR 0, aR 62, aI l3] [aI s1, aI s0] m Q := by
  obtain ⟨h1, k⟩ := k
  obtain ⟨h2, k⟩ := k
  obtain ⟨k1, k2⟩ := k
  refine x_icmp_eq (tgt := 1066) (pc2 := 277) dL_law_274 (by decide) rfl h1 h2 (fun c3 => ?_) (fun c3 => ?_)
  · replace k := k1 c3
    refine x_iinc (pc2 := 1069) (ls2 := [aR (-7), aR 0, aR 62, aI (l3 + 6)]) dL_law_1066 rfl rfl (by decide) rfl ?_
    refine x_goto (tgt := 18) dL_law_1069 (by decide) ?_
    exact k
  · replace k := k2 c3
    refine x_iconst (pc2 := 278) dL_law_277 rfl ?_
    exact x_ireturn dL_law_278 ⟨.boolean, rfl, rfl⟩ k
set_option maxRecDepth 4000 in
theorem g_L_law_288 {sc : List Int} {d : Nat} {m : Mem} {Q : Option AV → Mem → Prop} {l3 s0 : Int} (k : (0 ≤ (l3 + 1)) ∧ ((l3 + 1) < sc.length) ∧ S_L_law sc d 294 [aR (-7), aR 0, aR 62, aI l3] [aI (sc.getD (l3 + 1).toNat 0), aR 62, aI s0] m Q) : S_L_law sc d 288 [aR (-7), aR 0, aR 62, aI l3] [aI s0] m Q := by
  refine x_aload_n (pc2 := 289) dL_law_288 rfl rfl ?_
  refine x_aload_n (pc2 := 290) dL_law_289 rfl rfl ?_
  refine x_iload_n (pc2 := 291) dL_law_290 rfl rfl ?_
  refine x_iconst (pc2 := 292) dL_law_291 rfl ?_
  refine x_iadd (pc2 := 293) dL_law_292 rfl ?_
  obtain ⟨h1, k⟩ := k
  obtain ⟨h2, k⟩ := k
  refine x_sald (pc2 := 294) h1 h2 dL_law_293 rfl ?_
  exact k
set_option maxRecDepth 4000 in
theorem g_L_law_297 {sc : List Int} {d : Nat} {m : Mem} {Q : Option AV → Mem → Prop} {l3 s0 s1 : Int} (k : (-2147483648 ≤ s0 ∧ s0 < 2147483648) ∧ (-2147483648 ≤ s1 ∧ s1 < 2147483648) ∧ ((s0 = s1) → (S_L_law sc d 18 [aR (-7), aR 0, aR 62, aI (l3 + 6)] [] m Q)) ∧ (¬ (s0 = s1) → (Q (some (aI 0)) m))) : S_L_law sc d 297 [aR (-7), aR 0, aR 62, aI l3] [aI s1, aI s0] m Q := by
  obtain ⟨h1, k⟩ := k
  obtain ⟨h2, k⟩ := k
  obtain ⟨k1, k2⟩ := k
  refine x_icmp_eq (tgt := 1066) (pc2 := 300) dL_law_297 (by decide) rfl h1 h2 (fun c3 => ?_) (fun c3 => ?_)
  · replace k := k1 c3
    refine x_iinc (pc2 := 1069) (ls2 := [aR (-7), aR 0, aR 62, aI (l3 + 6)]) dL_law_1066 rfl rfl (by decide) rfl ?_
    refine x_goto (tgt := 18) dL_law_1069 (by decide) ?_
    exact k
  · replace k := k2 c3
    refine x_iconst (pc2 := 301) dL_law_300 rfl ?_
    exact x_ireturn dL_law_301 ⟨.boolean, rfl, rfl⟩ k
set_option maxRecDepth 4000 in
theorem g_L_law_311 {sc : List Int} {d : Nat} {m : Mem} {Q : Option AV → Mem → Prop} {l3 s0 : Int} (k : (0 ≤ (l3 + 1)) ∧ ((l3 + 1) < sc.length) ∧ S_L_law sc d 317 [aR (-7), aR 0, aR 62, aI l3] [aI (sc.getD (l3 + 1).toNat 0), aR 62, aI s0] m Q) : S_L_law sc d 311 [aR (-7), aR 0, aR 62, aI l3] [aI s0] m Q := by
  refine x_aload_n (pc2 := 312) dL_law_311 rfl rfl ?_
  refine x_aload_n (pc2 := 313) dL_law_312 rfl rfl ?_
  refine x_iload_n (pc2 := 314) dL_law_313 rfl rfl ?_
  refine x_iconst (pc2 := 315) dL_law_314 rfl ?_
  refine x_iadd (pc2 := 316) dL_law_315 rfl ?_
  obtain ⟨h1, k⟩ := k
  obtain ⟨h2, k⟩ := k
  refine x_sald (pc2 := 317) h1 h2 dL_law_316 rfl ?_
  exact k
set_option maxRecDepth 4000 in
theorem g_L_law_320 {sc : List Int} {d : Nat} {m : Mem} {Q : Option AV → Mem → Prop} {l3 s0 s1 : Int} (k : (-2147483648 ≤ s0 ∧ s0 < 2147483648) ∧ (-2147483648 ≤ s1 ∧ s1 < 2147483648) ∧ ((s0 = s1) → (S_L_law sc d 18 [aR (-7), aR 0, aR 62, aI (l3 + 6)] [] m Q)) ∧ (¬ (s0 = s1) → (Q (some (aI 0)) m))) : S_L_law sc d 320 [aR (-7), aR 0, aR 62, aI l3] [aI s1, aI s0] m Q := by
  obtain ⟨h1, k⟩ := k
  obtain ⟨h2, k⟩ := k
  obtain ⟨k1, k2⟩ := k
  refine x_icmp_eq (tgt := 1066) (pc2 := 323) dL_law_320 (by decide) rfl h1 h2 (fun c3 => ?_) (fun c3 => ?_)
  · replace k := k1 c3
    refine x_iinc (pc2 := 1069) (ls2 := [aR (-7), aR 0, aR 62, aI (l3 + 6)]) dL_law_1066 rfl rfl (by decide) rfl ?_
    refine x_goto (tgt := 18) dL_law_1069 (by decide) ?_
    exact k
  · replace k := k2 c3
    refine x_iconst (pc2 := 324) dL_law_323 rfl ?_
    exact x_ireturn dL_law_324 ⟨.boolean, rfl, rfl⟩ k
set_option maxRecDepth 4000 in
theorem g_L_law_344 {sc : List Int} {d : Nat} {m : Mem} {Q : Option AV → Mem → Prop} {l3 s0 : Int} (k : (0 ≤ (l3 + 1)) ∧ ((l3 + 1) < sc.length) ∧ (0 ≤ (l3 + 2)) ∧ ((l3 + 2) < sc.length) ∧ (0 ≤ (l3 + 3)) ∧ ((l3 + 3) < sc.length) ∧ S_L_law sc d 360 [aR (-7), aR 0, aR 62, aI l3] [aI (sc.getD (l3 + 3).toNat 0), aI (sc.getD (l3 + 2).toNat 0), aI (sc.getD (l3 + 1).toNat 0), aR 62, aI s0] m Q) : S_L_law sc d 344 [aR (-7), aR 0, aR 62, aI l3] [aI s0] m Q := by
  refine x_aload_n (pc2 := 345) dL_law_344 rfl rfl ?_
  refine x_aload_n (pc2 := 346) dL_law_345 rfl rfl ?_
  refine x_iload_n (pc2 := 347) dL_law_346 rfl rfl ?_
  refine x_iconst (pc2 := 348) dL_law_347 rfl ?_
  refine x_iadd (pc2 := 349) dL_law_348 rfl ?_
  obtain ⟨h1, k⟩ := k
  obtain ⟨h2, k⟩ := k
  refine x_sald (pc2 := 350) h1 h2 dL_law_349 rfl ?_
  refine x_aload_n (pc2 := 351) dL_law_350 rfl rfl ?_
  refine x_iload_n (pc2 := 352) dL_law_351 rfl rfl ?_
  refine x_iconst (pc2 := 353) dL_law_352 rfl ?_
  refine x_iadd (pc2 := 354) dL_law_353 rfl ?_
  obtain ⟨h3, k⟩ := k
  obtain ⟨h4, k⟩ := k
  refine x_sald (pc2 := 355) h3 h4 dL_law_354 rfl ?_
  refine x_aload_n (pc2 := 356) dL_law_355 rfl rfl ?_
  refine x_iload_n (pc2 := 357) dL_law_356 rfl rfl ?_
  refine x_iconst (pc2 := 358) dL_law_357 rfl ?_
  refine x_iadd (pc2 := 359) dL_law_358 rfl ?_
  obtain ⟨h5, k⟩ := k
  obtain ⟨h6, k⟩ := k
  refine x_sald (pc2 := 360) h5 h6 dL_law_359 rfl ?_
  exact k
set_option maxRecDepth 4000 in
theorem g_L_law_363 {sc : List Int} {d : Nat} {m : Mem} {Q : Option AV → Mem → Prop} {l3 s0 s1 : Int} (k : (-2147483648 ≤ s0 ∧ s0 < 2147483648) ∧ (-2147483648 ≤ s1 ∧ s1 < 2147483648) ∧ ((s0 = s1) → (S_L_law sc d 18 [aR (-7), aR 0, aR 62, aI (l3 + 6)] [] m Q)) ∧ (¬ (s0 = s1) → (Q (some (aI 0)) m))) : S_L_law sc d 363 [aR (-7), aR 0, aR 62, aI l3] [aI s1, aI s0] m Q := by
  obtain ⟨h1, k⟩ := k
  obtain ⟨h2, k⟩ := k
  obtain ⟨k1, k2⟩ := k
  refine x_icmp_eq (tgt := 1066) (pc2 := 366) dL_law_363 (by decide) rfl h1 h2 (fun c3 => ?_) (fun c3 => ?_)
  · replace k := k1 c3
    refine x_iinc (pc2 := 1069) (ls2 := [aR (-7), aR 0, aR 62, aI (l3 + 6)]) dL_law_1066 rfl rfl (by decide) rfl ?_
    refine x_goto (tgt := 18) dL_law_1069 (by decide) ?_
    exact k
  · replace k := k2 c3
    refine x_iconst (pc2 := 367) dL_law_366 rfl ?_
    exact x_ireturn dL_law_367 ⟨.boolean, rfl, rfl⟩ k
set_option maxRecDepth 4000 in
theorem g_L_law_382 {sc : List Int} {d : Nat} {m : Mem} {Q : Option AV → Mem → Prop} {l3 s0 : Int} (k : (0 ≤ (l3 + 1)) ∧ ((l3 + 1) < sc.length) ∧ (0 ≤ (l3 + 2)) ∧ ((l3 + 2) < sc.length) ∧ S_L_law sc d 393 [aR (-7), aR 0, aR 62, aI l3] [aI (sc.getD (l3 + 2).toNat 0), aI (sc.getD (l3 + 1).toNat 0), aR 62, aI s0] m Q) : S_L_law sc d 382 [aR (-7), aR 0, aR 62, aI l3] [aI s0] m Q := by
  refine x_aload_n (pc2 := 383) dL_law_382 rfl rfl ?_
  refine x_aload_n (pc2 := 384) dL_law_383 rfl rfl ?_
  refine x_iload_n (pc2 := 385) dL_law_384 rfl rfl ?_
  refine x_iconst (pc2 := 386) dL_law_385 rfl ?_
  refine x_iadd (pc2 := 387) dL_law_386 rfl ?_
  obtain ⟨h1, k⟩ := k
  obtain ⟨h2, k⟩ := k
  refine x_sald (pc2 := 388) h1 h2 dL_law_387 rfl ?_
  refine x_aload_n (pc2 := 389) dL_law_388 rfl rfl ?_
  refine x_iload_n (pc2 := 390) dL_law_389 rfl rfl ?_
  refine x_iconst (pc2 := 391) dL_law_390 rfl ?_
  refine x_iadd (pc2 := 392) dL_law_391 rfl ?_
  obtain ⟨h3, k⟩ := k
  obtain ⟨h4, k⟩ := k
  refine x_sald (pc2 := 393) h3 h4 dL_law_392 rfl ?_
  exact k
set_option maxRecDepth 4000 in
theorem g_L_law_396 {sc : List Int} {d : Nat} {m : Mem} {Q : Option AV → Mem → Prop} {l3 s0 s1 : Int} (k : (-2147483648 ≤ s0 ∧ s0 < 2147483648) ∧ (-2147483648 ≤ s1 ∧ s1 < 2147483648) ∧ ((s0 = s1) → (S_L_law sc d 18 [aR (-7), aR 0, aR 62, aI (l3 + 6)] [] m Q)) ∧ (¬ (s0 = s1) → (Q (some (aI 0)) m))) : S_L_law sc d 396 [aR (-7), aR 0, aR 62, aI l3] [aI s1, aI s0] m Q := by
  obtain ⟨h1, k⟩ := k
  obtain ⟨h2, k⟩ := k
  obtain ⟨k1, k2⟩ := k
  refine x_icmp_eq (tgt := 1066) (pc2 := 399) dL_law_396 (by decide) rfl h1 h2 (fun c3 => ?_) (fun c3 => ?_)
  · replace k := k1 c3
    refine x_iinc (pc2 := 1069) (ls2 := [aR (-7), aR 0, aR 62, aI (l3 + 6)]) dL_law_1066 rfl rfl (by decide) rfl ?_
    refine x_goto (tgt := 18) dL_law_1069 (by decide) ?_
    exact k
  · replace k := k2 c3
    refine x_iconst (pc2 := 400) dL_law_399 rfl ?_
    exact x_ireturn dL_law_400 ⟨.boolean, rfl, rfl⟩ k
set_option maxRecDepth 4000 in
theorem g_L_law_415 {sc : List Int} {d : Nat} {m : Mem} {Q : Option AV → Mem → Prop} {l3 s0 : Int} (k : (0 ≤ (l3 + 1)) ∧ ((l3 + 1) < sc.length) ∧ (0 ≤ (l3 + 2)) ∧ ((l3 + 2) < sc.length) ∧ S_L_law sc d 426 [aR (-7), aR 0, aR 62, aI l3] [aI (sc.getD (l3 + 2).toNat 0), aI (sc.getD (l3 + 1).toNat 0), aR 62, aI s0] m Q) : S_L_law sc d 415 [aR (-7), aR 0, aR 62, aI l3] [aI s0] m Q := by
  refine x_aload_n (pc2 := 416) dL_law_415 rfl rfl ?_
  refine x_aload_n (pc2 := 417) dL_law_416 rfl rfl ?_
  refine x_iload_n (pc2 := 418) dL_law_417 rfl rfl ?_
  refine x_iconst (pc2 := 419) dL_law_418 rfl ?_
  refine x_iadd (pc2 := 420) dL_law_419 rfl ?_
  obtain ⟨h1, k⟩ := k
  obtain ⟨h2, k⟩ := k
  refine x_sald (pc2 := 421) h1 h2 dL_law_420 rfl ?_
  refine x_aload_n (pc2 := 422) dL_law_421 rfl rfl ?_
  refine x_iload_n (pc2 := 423) dL_law_422 rfl rfl ?_
  refine x_iconst (pc2 := 424) dL_law_423 rfl ?_
  refine x_iadd (pc2 := 425) dL_law_424 rfl ?_
  obtain ⟨h3, k⟩ := k
  obtain ⟨h4, k⟩ := k
  refine x_sald (pc2 := 426) h3 h4 dL_law_425 rfl ?_
  exact k
set_option maxRecDepth 4000 in
theorem g_L_law_429 {sc : List Int} {d : Nat} {m : Mem} {Q : Option AV → Mem → Prop} {l3 s0 s1 : Int} (k : (-2147483648 ≤ s0 ∧ s0 < 2147483648) ∧ (-2147483648 ≤ s1 ∧ s1 < 2147483648) ∧ ((s0 = s1) → (S_L_law sc d 18 [aR (-7), aR 0, aR 62, aI (l3 + 6)] [] m Q)) ∧ (¬ (s0 = s1) → (Q (some (aI 0)) m))) : S_L_law sc d 429 [aR (-7), aR 0, aR 62, aI l3] [aI s1, aI s0] m Q := by
  obtain ⟨h1, k⟩ := k
  obtain ⟨h2, k⟩ := k
  obtain ⟨k1, k2⟩ := k
  refine x_icmp_eq (tgt := 1066) (pc2 := 432) dL_law_429 (by decide) rfl h1 h2 (fun c3 => ?_) (fun c3 => ?_)
  · replace k := k1 c3
    refine x_iinc (pc2 := 1069) (ls2 := [aR (-7), aR 0, aR 62, aI (l3 + 6)]) dL_law_1066 rfl rfl (by decide) rfl ?_
    refine x_goto (tgt := 18) dL_law_1069 (by decide) ?_
    exact k
  · replace k := k2 c3
    refine x_iconst (pc2 := 433) dL_law_432 rfl ?_
    exact x_ireturn dL_law_433 ⟨.boolean, rfl, rfl⟩ k
set_option maxRecDepth 4000 in
theorem g_L_law_458 {sc : List Int} {d : Nat} {m : Mem} {Q : Option AV → Mem → Prop} {l3 s0 : Int} (k : (0 ≤ (l3 + 1)) ∧ ((l3 + 1) < sc.length) ∧ (0 ≤ (l3 + 2)) ∧ ((l3 + 2) < sc.length) ∧ (0 ≤ (l3 + 3)) ∧ ((l3 + 3) < sc.length) ∧ (0 ≤ (l3 + 4)) ∧ ((l3 + 4) < sc.length) ∧ S_L_law sc d 479 [aR (-7), aR 0, aR 62, aI l3] [aI (sc.getD (l3 + 4).toNat 0), aI (sc.getD (l3 + 3).toNat 0), aI (sc.getD (l3 + 2).toNat 0), aI (sc.getD (l3 + 1).toNat 0), aR 62, aI s0] m Q) : S_L_law sc d 458 [aR (-7), aR 0, aR 62, aI l3] [aI s0] m Q := by
  refine x_aload_n (pc2 := 459) dL_law_458 rfl rfl ?_
  refine x_aload_n (pc2 := 460) dL_law_459 rfl rfl ?_
  refine x_iload_n (pc2 := 461) dL_law_460 rfl rfl ?_
  refine x_iconst (pc2 := 462) dL_law_461 rfl ?_
  refine x_iadd (pc2 := 463) dL_law_462 rfl ?_
  obtain ⟨h1, k⟩ := k
  obtain ⟨h2, k⟩ := k
  refine x_sald (pc2 := 464) h1 h2 dL_law_463 rfl ?_
  refine x_aload_n (pc2 := 465) dL_law_464 rfl rfl ?_
  refine x_iload_n (pc2 := 466) dL_law_465 rfl rfl ?_
  refine x_iconst (pc2 := 467) dL_law_466 rfl ?_
  refine x_iadd (pc2 := 468) dL_law_467 rfl ?_
  obtain ⟨h3, k⟩ := k
  obtain ⟨h4, k⟩ := k
  refine x_sald (pc2 := 469) h3 h4 dL_law_468 rfl ?_
  refine x_aload_n (pc2 := 470) dL_law_469 rfl rfl ?_
  refine x_iload_n (pc2 := 471) dL_law_470 rfl rfl ?_
  refine x_iconst (pc2 := 472) dL_law_471 rfl ?_
  refine x_iadd (pc2 := 473) dL_law_472 rfl ?_
  obtain ⟨h5, k⟩ := k
  obtain ⟨h6, k⟩ := k
  refine x_sald (pc2 := 474) h5 h6 dL_law_473 rfl ?_
  refine x_aload_n (pc2 := 475) dL_law_474 rfl rfl ?_
  refine x_iload_n (pc2 := 476) dL_law_475 rfl rfl ?_
  refine x_iconst (pc2 := 477) dL_law_476 rfl ?_
  refine x_iadd (pc2 := 478) dL_law_477 rfl ?_
  obtain ⟨h7, k⟩ := k
  obtain ⟨h8, k⟩ := k
  refine x_sald (pc2 := 479) h7 h8 dL_law_478 rfl ?_
  exact k
set_option maxRecDepth 4000 in
theorem g_L_law_482 {sc : List Int} {d : Nat} {m : Mem} {Q : Option AV → Mem → Prop} {l3 s0 s1 : Int} (k : (-2147483648 ≤ s0 ∧ s0 < 2147483648) ∧ (-2147483648 ≤ s1 ∧ s1 < 2147483648) ∧ ((s0 = s1) → (S_L_law sc d 18 [aR (-7), aR 0, aR 62, aI (l3 + 6)] [] m Q)) ∧ (¬ (s0 = s1) → (Q (some (aI 0)) m))) : S_L_law sc d 482 [aR (-7), aR 0, aR 62, aI l3] [aI s1, aI s0] m Q := by
  obtain ⟨h1, k⟩ := k
  obtain ⟨h2, k⟩ := k
  obtain ⟨k1, k2⟩ := k
  refine x_icmp_eq (tgt := 1066) (pc2 := 485) dL_law_482 (by decide) rfl h1 h2 (fun c3 => ?_) (fun c3 => ?_)
  · replace k := k1 c3
    refine x_iinc (pc2 := 1069) (ls2 := [aR (-7), aR 0, aR 62, aI (l3 + 6)]) dL_law_1066 rfl rfl (by decide) rfl ?_
    refine x_goto (tgt := 18) dL_law_1069 (by decide) ?_
    exact k
  · replace k := k2 c3
    refine x_iconst (pc2 := 486) dL_law_485 rfl ?_
    exact x_ireturn dL_law_486 ⟨.boolean, rfl, rfl⟩ k
set_option maxRecDepth 4000 in
theorem g_L_law_506 {sc : List Int} {d : Nat} {m : Mem} {Q : Option AV → Mem → Prop} {l3 s0 : Int} (k : (0 ≤ (l3 + 1)) ∧ ((l3 + 1) < sc.length) ∧ (0 ≤ (l3 + 2)) ∧ ((l3 + 2) < sc.length) ∧ (0 ≤ (l3 + 3)) ∧ ((l3 + 3) < sc.length) ∧ S_L_law sc d 522 [aR (-7), aR 0, aR 62, aI l3] [aI (sc.getD (l3 + 3).toNat 0), aI (sc.getD (l3 + 2).toNat 0), aI (sc.getD (l3 + 1).toNat 0), aR 62, aI s0] m Q) : S_L_law sc d 506 [aR (-7), aR 0, aR 62, aI l3] [aI s0] m Q := by
  refine x_aload_n (pc2 := 507) dL_law_506 rfl rfl ?_
  refine x_aload_n (pc2 := 508) dL_law_507 rfl rfl ?_
  refine x_iload_n (pc2 := 509) dL_law_508 rfl rfl ?_
  refine x_iconst (pc2 := 510) dL_law_509 rfl ?_
  refine x_iadd (pc2 := 511) dL_law_510 rfl ?_
  obtain ⟨h1, k⟩ := k
  obtain ⟨h2, k⟩ := k
  refine x_sald (pc2 := 512) h1 h2 dL_law_511 rfl ?_
  refine x_aload_n (pc2 := 513) dL_law_512 rfl rfl ?_
  refine x_iload_n (pc2 := 514) dL_law_513 rfl rfl ?_
  refine x_iconst (pc2 := 515) dL_law_514 rfl ?_
  refine x_iadd (pc2 := 516) dL_law_515 rfl ?_
  obtain ⟨h3, k⟩ := k
  obtain ⟨h4, k⟩ := k
  refine x_sald (pc2 := 517) h3 h4 dL_law_516 rfl ?_
  refine x_aload_n (pc2 := 518) dL_law_517 rfl rfl ?_
  refine x_iload_n (pc2 := 519) dL_law_518 rfl rfl ?_
  refine x_iconst (pc2 := 520) dL_law_519 rfl ?_
  refine x_iadd (pc2 := 521) dL_law_520 rfl ?_
  obtain ⟨h5, k⟩ := k
  obtain ⟨h6, k⟩ := k
  refine x_sald (pc2 := 522) h5 h6 dL_law_521 rfl ?_
  exact k
set_option maxRecDepth 4000 in
theorem g_L_law_525 {sc : List Int} {d : Nat} {m : Mem} {Q : Option AV → Mem → Prop} {l3 s0 s1 : Int} (k : (-2147483648 ≤ s0 ∧ s0 < 2147483648) ∧ (-2147483648 ≤ s1 ∧ s1 < 2147483648) ∧ ((s0 = s1) → (S_L_law sc d 18 [aR (-7), aR 0, aR 62, aI (l3 + 6)] [] m Q)) ∧ (¬ (s0 = s1) → (Q (some (aI 0)) m))) : S_L_law sc d 525 [aR (-7), aR 0, aR 62, aI l3] [aI s1, aI s0] m Q := by
  obtain ⟨h1, k⟩ := k
  obtain ⟨h2, k⟩ := k
  obtain ⟨k1, k2⟩ := k
  refine x_icmp_eq (tgt := 1066) (pc2 := 528) dL_law_525 (by decide) rfl h1 h2 (fun c3 => ?_) (fun c3 => ?_)
  · replace k := k1 c3
    refine x_iinc (pc2 := 1069) (ls2 := [aR (-7), aR 0, aR 62, aI (l3 + 6)]) dL_law_1066 rfl rfl (by decide) rfl ?_
    refine x_goto (tgt := 18) dL_law_1069 (by decide) ?_
    exact k
  · replace k := k2 c3
    refine x_iconst (pc2 := 529) dL_law_528 rfl ?_
    exact x_ireturn dL_law_529 ⟨.boolean, rfl, rfl⟩ k
set_option maxRecDepth 4000 in
theorem g_L_law_539 {sc : List Int} {d : Nat} {m : Mem} {Q : Option AV → Mem → Prop} {l3 s0 : Int} (k : (0 ≤ (l3 + 1)) ∧ ((l3 + 1) < sc.length) ∧ S_L_law sc d 545 [aR (-7), aR 0, aR 62, aI l3] [aI (sc.getD (l3 + 1).toNat 0), aR 62, aI s0] m Q) : S_L_law sc d 539 [aR (-7), aR 0, aR 62, aI l3] [aI s0] m Q := by
  refine x_aload_n (pc2 := 540) dL_law_539 rfl rfl ?_
  refine x_aload_n (pc2 := 541) dL_law_540 rfl rfl ?_
  refine x_iload_n (pc2 := 542) dL_law_541 rfl rfl ?_
  refine x_iconst (pc2 := 543) dL_law_542 rfl ?_
  refine x_iadd (pc2 := 544) dL_law_543 rfl ?_
  obtain ⟨h1, k⟩ := k
  obtain ⟨h2, k⟩ := k
  refine x_sald (pc2 := 545) h1 h2 dL_law_544 rfl ?_
  exact k
set_option maxRecDepth 4000 in
theorem g_L_law_548 {sc : List Int} {d : Nat} {m : Mem} {Q : Option AV → Mem → Prop} {l3 s0 s1 : Int} (k : (-2147483648 ≤ s0 ∧ s0 < 2147483648) ∧ (-2147483648 ≤ s1 ∧ s1 < 2147483648) ∧ ((s0 = s1) → (S_L_law sc d 18 [aR (-7), aR 0, aR 62, aI (l3 + 6)] [] m Q)) ∧ (¬ (s0 = s1) → (Q (some (aI 0)) m))) : S_L_law sc d 548 [aR (-7), aR 0, aR 62, aI l3] [aI s1, aI s0] m Q := by
  obtain ⟨h1, k⟩ := k
  obtain ⟨h2, k⟩ := k
  obtain ⟨k1, k2⟩ := k
  refine x_icmp_eq (tgt := 1066) (pc2 := 551) dL_law_548 (by decide) rfl h1 h2 (fun c3 => ?_) (fun c3 => ?_)
  · replace k := k1 c3
    refine x_iinc (pc2 := 1069) (ls2 := [aR (-7), aR 0, aR 62, aI (l3 + 6)]) dL_law_1066 rfl rfl (by decide) rfl ?_
    refine x_goto (tgt := 18) dL_law_1069 (by decide) ?_
    exact k
  · replace k := k2 c3
    refine x_iconst (pc2 := 552) dL_law_551 rfl ?_
    exact x_ireturn dL_law_552 ⟨.boolean, rfl, rfl⟩ k
set_option maxRecDepth 4000 in
theorem g_L_law_567 {sc : List Int} {d : Nat} {m : Mem} {Q : Option AV → Mem → Prop} {l3 s0 : Int} (k : (0 ≤ (l3 + 1)) ∧ ((l3 + 1) < sc.length) ∧ (0 ≤ (l3 + 2)) ∧ ((l3 + 2) < sc.length) ∧ S_L_law sc d 578 [aR (-7), aR 0, aR 62, aI l3] [aI (sc.getD (l3 + 2).toNat 0), aI (sc.getD (l3 + 1).toNat 0), aR 62, aI s0] m Q) : S_L_law sc d 567 [aR (-7), aR 0, aR 62, aI l3] [aI s0] m Q := by
  refine x_aload_n (pc2 := 568) dL_law_567 rfl rfl ?_
  refine x_aload_n (pc2 := 569) dL_law_568 rfl rfl ?_
  refine x_iload_n (pc2 := 570) dL_law_569 rfl rfl ?_
  refine x_iconst (pc2 := 571) dL_law_570 rfl ?_
  refine x_iadd (pc2 := 572) dL_law_571 rfl ?_
  obtain ⟨h1, k⟩ := k
  obtain ⟨h2, k⟩ := k
  refine x_sald (pc2 := 573) h1 h2 dL_law_572 rfl ?_
  refine x_aload_n (pc2 := 574) dL_law_573 rfl rfl ?_
  refine x_iload_n (pc2 := 575) dL_law_574 rfl rfl ?_
  refine x_iconst (pc2 := 576) dL_law_575 rfl ?_
  refine x_iadd (pc2 := 577) dL_law_576 rfl ?_
  obtain ⟨h3, k⟩ := k
  obtain ⟨h4, k⟩ := k
  refine x_sald (pc2 := 578) h3 h4 dL_law_577 rfl ?_
  exact k
set_option maxRecDepth 4000 in
theorem g_L_law_581 {sc : List Int} {d : Nat} {m : Mem} {Q : Option AV → Mem → Prop} {l3 s0 s1 : Int} (k : (-2147483648 ≤ s0 ∧ s0 < 2147483648) ∧ (-2147483648 ≤ s1 ∧ s1 < 2147483648) ∧ ((s0 = s1) → (S_L_law sc d 18 [aR (-7), aR 0, aR 62, aI (l3 + 6)] [] m Q)) ∧ (¬ (s0 = s1) → (Q (some (aI 0)) m))) : S_L_law sc d 581 [aR (-7), aR 0, aR 62, aI l3] [aI s1, aI s0] m Q := by
  obtain ⟨h1, k⟩ := k
  obtain ⟨h2, k⟩ := k
  obtain ⟨k1, k2⟩ := k
  refine x_icmp_eq (tgt := 1066) (pc2 := 584) dL_law_581 (by decide) rfl h1 h2 (fun c3 => ?_) (fun c3 => ?_)
  · replace k := k1 c3
    refine x_iinc (pc2 := 1069) (ls2 := [aR (-7), aR 0, aR 62, aI (l3 + 6)]) dL_law_1066 rfl rfl (by decide) rfl ?_
    refine x_goto (tgt := 18) dL_law_1069 (by decide) ?_
    exact k
  · replace k := k2 c3
    refine x_iconst (pc2 := 585) dL_law_584 rfl ?_
    exact x_ireturn dL_law_585 ⟨.boolean, rfl, rfl⟩ k
set_option maxRecDepth 4000 in
theorem g_L_law_595 {sc : List Int} {d : Nat} {m : Mem} {Q : Option AV → Mem → Prop} {l3 s0 : Int} (k : (0 ≤ (l3 + 1)) ∧ ((l3 + 1) < sc.length) ∧ S_L_law sc d 601 [aR (-7), aR 0, aR 62, aI l3] [aI (sc.getD (l3 + 1).toNat 0), aR 62, aI s0] m Q) : S_L_law sc d 595 [aR (-7), aR 0, aR 62, aI l3] [aI s0] m Q := by
  refine x_aload_n (pc2 := 596) dL_law_595 rfl rfl ?_
  refine x_aload_n (pc2 := 597) dL_law_596 rfl rfl ?_
  refine x_iload_n (pc2 := 598) dL_law_597 rfl rfl ?_
  refine x_iconst (pc2 := 599) dL_law_598 rfl ?_
  refine x_iadd (pc2 := 600) dL_law_599 rfl ?_
  obtain ⟨h1, k⟩ := k
  obtain ⟨h2, k⟩ := k
  refine x_sald (pc2 := 601) h1 h2 dL_law_600 rfl ?_
  exact k
set_option maxRecDepth 4000 in
theorem g_L_law_604 {sc : List Int} {d : Nat} {m : Mem} {Q : Option AV → Mem → Prop} {l3 s0 s1 : Int} (k : (-2147483648 ≤ s0 ∧ s0 < 2147483648) ∧ (-2147483648 ≤ s1 ∧ s1 < 2147483648) ∧ ((s0 = s1) → (S_L_law sc d 18 [aR (-7), aR 0, aR 62, aI (l3 + 6)] [] m Q)) ∧ (¬ (s0 = s1) → (Q (some (aI 0)) m))) : S_L_law sc d 604 [aR (-7), aR 0, aR 62, aI l3] [aI s1, aI s0] m Q := by
  obtain ⟨h1, k⟩ := k
  obtain ⟨h2, k⟩ := k
  obtain ⟨k1, k2⟩ := k
  refine x_icmp_eq (tgt := 1066) (pc2 := 607) dL_law_604 (by decide) rfl h1 h2 (fun c3 => ?_) (fun c3 => ?_)
  · replace k := k1 c3
    refine x_iinc (pc2 := 1069) (ls2 := [aR (-7), aR 0, aR 62, aI (l3 + 6)]) dL_law_1066 rfl rfl (by decide) rfl ?_
    refine x_goto (tgt := 18) dL_law_1069 (by decide) ?_
    exact k
  · replace k := k2 c3
    refine x_iconst (pc2 := 608) dL_law_607 rfl ?_
    exact x_ireturn dL_law_608 ⟨.boolean, rfl, rfl⟩ k
set_option maxRecDepth 4000 in
theorem g_L_law_613 {sc : List Int} {d : Nat} {m : Mem} {Q : Option AV → Mem → Prop} {l3 s0 : Int} (k : S_L_law sc d 614 [aR (-7), aR 0, aR 62, aI l3] [aR 62, aI s0] m Q) : S_L_law sc d 613 [aR (-7), aR 0, aR 62, aI l3] [aI s0] m Q := by
  refine x_aload_n (pc2 := 614) dL_law_613 rfl rfl ?_
  exact k
set_option maxRecDepth 4000 in
theorem g_L_law_617 {sc : List Int} {d : Nat} {m : Mem} {Q : Option AV → Mem → Prop} {l3 s0 s1 : Int} (k : (-2147483648 ≤ s0 ∧ s0 < 2147483648) ∧ (-2147483648 ≤ s1 ∧ s1 < 2147483648) ∧ ((s0 = s1) → (S_L_law sc d 18 [aR (-7), aR 0, aR 62, aI (l3 + 6)] [] m Q)) ∧ (¬ (s0 = s1) → (Q (some (aI 0)) m))) : S_L_law sc d 617 [aR (-7), aR 0, aR 62, aI l3] [aI s1, aI s0] m Q := by
  obtain ⟨h1, k⟩ := k
  obtain ⟨h2, k⟩ := k
  obtain ⟨k1, k2⟩ := k
  refine x_icmp_eq (tgt := 1066) (pc2 := 620) dL_law_617 (by decide) rfl h1 h2 (fun c3 => ?_) (fun c3 => ?_)
  · replace k := k1 c3
    refine x_iinc (pc2 := 1069) (ls2 := [aR (-7), aR 0, aR 62, aI (l3 + 6)]) dL_law_1066 rfl rfl (by decide) rfl ?_
    refine x_goto (tgt := 18) dL_law_1069 (by decide) ?_
    exact k
  · replace k := k2 c3
    refine x_iconst (pc2 := 621) dL_law_620 rfl ?_
    exact x_ireturn dL_law_621 ⟨.boolean, rfl, rfl⟩ k
set_option maxRecDepth 4000 in
theorem g_L_law_636 {sc : List Int} {d : Nat} {m : Mem} {Q : Option AV → Mem → Prop} {l3 s0 : Int} (k : (0 ≤ (l3 + 1)) ∧ ((l3 + 1) < sc.length) ∧ (0 ≤ (l3 + 2)) ∧ ((l3 + 2) < sc.length) ∧ S_L_law sc d 647 [aR (-7), aR 0, aR 62, aI l3] [aI (sc.getD (l3 + 2).toNat 0), aI (sc.getD (l3 + 1).toNat 0), aR 62, aI s0] m Q) : S_L_law sc d 636 [aR (-7), aR 0, aR 62, aI l3] [aI s0] m Q := by
  refine x_aload_n (pc2 := 637) dL_law_636 rfl rfl ?_
  refine x_aload_n (pc2 := 638) dL_law_637 rfl rfl ?_
  refine x_iload_n (pc2 := 639) dL_law_638 rfl rfl ?_
  refine x_iconst (pc2 := 640) dL_law_639 rfl ?_
  refine x_iadd (pc2 := 641) dL_law_640 rfl ?_
  obtain ⟨h1, k⟩ := k
  obtain ⟨h2, k⟩ := k
  refine x_sald (pc2 := 642) h1 h2 dL_law_641 rfl ?_
  refine x_aload_n (pc2 := 643) dL_law_642 rfl rfl ?_
  refine x_iload_n (pc2 := 644) dL_law_643 rfl rfl ?_
  refine x_iconst (pc2 := 645) dL_law_644 rfl ?_
  refine x_iadd (pc2 := 646) dL_law_645 rfl ?_
  obtain ⟨h3, k⟩ := k
  obtain ⟨h4, k⟩ := k
  refine x_sald (pc2 := 647) h3 h4 dL_law_646 rfl ?_
  exact k
set_option maxRecDepth 4000 in
theorem g_L_law_650 {sc : List Int} {d : Nat} {m : Mem} {Q : Option AV → Mem → Prop} {l3 s0 s1 : Int} (k : (-2147483648 ≤ s0 ∧ s0 < 2147483648) ∧ (-2147483648 ≤ s1 ∧ s1 < 2147483648) ∧ ((s0 = s1) → (S_L_law sc d 18 [aR (-7), aR 0, aR 62, aI (l3 + 6)] [] m Q)) ∧ (¬ (s0 = s1) → (Q (some (aI 0)) m))) : S_L_law sc d 650 [aR (-7), aR 0, aR 62, aI l3] [aI s1, aI s0] m Q := by
  obtain ⟨h1, k⟩ := k
  obtain ⟨h2, k⟩ := k
  obtain ⟨k1, k2⟩ := k
  refine x_icmp_eq (tgt := 1066) (pc2 := 653) dL_law_650 (by decide) rfl h1 h2 (fun c3 => ?_) (fun c3 => ?_)
  · replace k := k1 c3
    refine x_iinc (pc2 := 1069) (ls2 := [aR (-7), aR 0, aR 62, aI (l3 + 6)]) dL_law_1066 rfl rfl (by decide) rfl ?_
    refine x_goto (tgt := 18) dL_law_1069 (by decide) ?_
    exact k
  · replace k := k2 c3
    refine x_iconst (pc2 := 654) dL_law_653 rfl ?_
    exact x_ireturn dL_law_654 ⟨.boolean, rfl, rfl⟩ k
set_option maxRecDepth 4000 in
theorem g_L_law_669 {sc : List Int} {d : Nat} {m : Mem} {Q : Option AV → Mem → Prop} {l3 s0 : Int} (k : (0 ≤ (l3 + 1)) ∧ ((l3 + 1) < sc.length) ∧ (0 ≤ (l3 + 2)) ∧ ((l3 + 2) < sc.length) ∧ S_L_law sc d 680 [aR (-7), aR 0, aR 62, aI l3] [aI (sc.getD (l3 + 2).toNat 0), aI (sc.getD (l3 + 1).toNat 0), aR 62, aI s0] m Q) : S_L_law sc d 669 [aR (-7), aR 0, aR 62, aI l3] [aI s0] m Q := by
  refine x_aload_n (pc2 := 670) dL_law_669 rfl rfl ?_
  refine x_aload_n (pc2 := 671) dL_law_670 rfl rfl ?_
  refine x_iload_n (pc2 := 672) dL_law_671 rfl rfl ?_
  refine x_iconst (pc2 := 673) dL_law_672 rfl ?_
  refine x_iadd (pc2 := 674) dL_law_673 rfl ?_
  obtain ⟨h1, k⟩ := k
  obtain ⟨h2, k⟩ := k
  refine x_sald (pc2 := 675) h1 h2 dL_law_674 rfl ?_
  refine x_aload_n (pc2 := 676) dL_law_675 rfl rfl ?_
  refine x_iload_n (pc2 := 677) dL_law_676 rfl rfl ?_
  refine x_iconst (pc2 := 678) dL_law_677 rfl ?_
  refine x_iadd (pc2 := 679) dL_law_678 rfl ?_
  obtain ⟨h3, k⟩ := k
  obtain ⟨h4, k⟩ := k
  refine x_sald (pc2 := 680) h3 h4 dL_law_679 rfl ?_
  exact k
set_option maxRecDepth 4000 in
theorem g_L_law_683 {sc : List Int} {d : Nat} {m : Mem} {Q : Option AV → Mem → Prop} {l3 s0 s1 : Int} (k : (-2147483648 ≤ s0 ∧ s0 < 2147483648) ∧ (-2147483648 ≤ s1 ∧ s1 < 2147483648) ∧ ((s0 = s1) → (S_L_law sc d 18 [aR (-7), aR 0, aR 62, aI (l3 + 6)] [] m Q)) ∧ (¬ (s0 = s1) → (Q (some (aI 0)) m))) : S_L_law sc d 683 [aR (-7), aR 0, aR 62, aI l3] [aI s1, aI s0] m Q := by
  obtain ⟨h1, k⟩ := k
  obtain ⟨h2, k⟩ := k
  obtain ⟨k1, k2⟩ := k
  refine x_icmp_eq (tgt := 1066) (pc2 := 686) dL_law_683 (by decide) rfl h1 h2 (fun c3 => ?_) (fun c3 => ?_)
  · replace k := k1 c3
    refine x_iinc (pc2 := 1069) (ls2 := [aR (-7), aR 0, aR 62, aI (l3 + 6)]) dL_law_1066 rfl rfl (by decide) rfl ?_
    refine x_goto (tgt := 18) dL_law_1069 (by decide) ?_
    exact k
  · replace k := k2 c3
    refine x_iconst (pc2 := 687) dL_law_686 rfl ?_
    exact x_ireturn dL_law_687 ⟨.boolean, rfl, rfl⟩ k
set_option maxRecDepth 4000 in
theorem g_L_law_702 {sc : List Int} {d : Nat} {m : Mem} {Q : Option AV → Mem → Prop} {l3 s0 : Int} (k : (0 ≤ (l3 + 1)) ∧ ((l3 + 1) < sc.length) ∧ (0 ≤ (l3 + 2)) ∧ ((l3 + 2) < sc.length) ∧ S_L_law sc d 713 [aR (-7), aR 0, aR 62, aI l3] [aI (sc.getD (l3 + 2).toNat 0), aI (sc.getD (l3 + 1).toNat 0), aR 62, aI s0] m Q) : S_L_law sc d 702 [aR (-7), aR 0, aR 62, aI l3] [aI s0] m Q := by
  refine x_aload_n (pc2 := 703) dL_law_702 rfl rfl ?_
  refine x_aload_n (pc2 := 704) dL_law_703 rfl rfl ?_
  refine x_iload_n (pc2 := 705) dL_law_704 rfl rfl ?_
  refine x_iconst (pc2 := 706) dL_law_705 rfl ?_
  refine x_iadd (pc2 := 707) dL_law_706 rfl ?_
  obtain ⟨h1, k⟩ := k
  obtain ⟨h2, k⟩ := k
  refine x_sald (pc2 := 708) h1 h2 dL_law_707 rfl ?_
  refine x_aload_n (pc2 := 709) dL_law_708 rfl rfl ?_
  refine x_iload_n (pc2 := 710) dL_law_709 rfl rfl ?_
  refine x_iconst (pc2 := 711) dL_law_710 rfl ?_
  refine x_iadd (pc2 := 712) dL_law_711 rfl ?_
  obtain ⟨h3, k⟩ := k
  obtain ⟨h4, k⟩ := k
  refine x_sald (pc2 := 713) h3 h4 dL_law_712 rfl ?_
  exact k
set_option maxRecDepth 4000 in
theorem g_L_law_716 {sc : List Int} {d : Nat} {m : Mem} {Q : Option AV → Mem → Prop} {l3 s0 s1 : Int} (k : (-2147483648 ≤ s0 ∧ s0 < 2147483648) ∧ (-2147483648 ≤ s1 ∧ s1 < 2147483648) ∧ ((s0 = s1) → (S_L_law sc d 18 [aR (-7), aR 0, aR 62, aI (l3 + 6)] [] m Q)) ∧ (¬ (s0 = s1) → (Q (some (aI 0)) m))) : S_L_law sc d 716 [aR (-7), aR 0, aR 62, aI l3] [aI s1, aI s0] m Q := by
  obtain ⟨h1, k⟩ := k
  obtain ⟨h2, k⟩ := k
  obtain ⟨k1, k2⟩ := k
  refine x_icmp_eq (tgt := 1066) (pc2 := 719) dL_law_716 (by decide) rfl h1 h2 (fun c3 => ?_) (fun c3 => ?_)
  · replace k := k1 c3
    refine x_iinc (pc2 := 1069) (ls2 := [aR (-7), aR 0, aR 62, aI (l3 + 6)]) dL_law_1066 rfl rfl (by decide) rfl ?_
    refine x_goto (tgt := 18) dL_law_1069 (by decide) ?_
    exact k
  · replace k := k2 c3
    refine x_iconst (pc2 := 720) dL_law_719 rfl ?_
    exact x_ireturn dL_law_720 ⟨.boolean, rfl, rfl⟩ k
set_option maxRecDepth 4000 in
theorem g_L_law_735 {sc : List Int} {d : Nat} {m : Mem} {Q : Option AV → Mem → Prop} {l3 s0 : Int} (k : (0 ≤ (l3 + 1)) ∧ ((l3 + 1) < sc.length) ∧ (0 ≤ (l3 + 2)) ∧ ((l3 + 2) < sc.length) ∧ S_L_law sc d 746 [aR (-7), aR 0, aR 62, aI l3] [aI (sc.getD (l3 + 2).toNat 0), aI (sc.getD (l3 + 1).toNat 0), aR 62, aI s0] m Q) : S_L_law sc d 735 [aR (-7), aR 0, aR 62, aI l3] [aI s0] m Q := by
  refine x_aload_n (pc2 := 736) dL_law_735 rfl rfl ?_
  refine x_aload_n (pc2 := 737) dL_law_736 rfl rfl ?_
  refine x_iload_n (pc2 := 738) dL_law_737 rfl rfl ?_
  refine x_iconst (pc2 := 739) dL_law_738 rfl ?_
  refine x_iadd (pc2 := 740) dL_law_739 rfl ?_
  obtain ⟨h1, k⟩ := k
  obtain ⟨h2, k⟩ := k
  refine x_sald (pc2 := 741) h1 h2 dL_law_740 rfl ?_
  refine x_aload_n (pc2 := 742) dL_law_741 rfl rfl ?_
  refine x_iload_n (pc2 := 743) dL_law_742 rfl rfl ?_
  refine x_iconst (pc2 := 744) dL_law_743 rfl ?_
  refine x_iadd (pc2 := 745) dL_law_744 rfl ?_
  obtain ⟨h3, k⟩ := k
  obtain ⟨h4, k⟩ := k
  refine x_sald (pc2 := 746) h3 h4 dL_law_745 rfl ?_
  exact k
set_option maxRecDepth 4000 in
theorem g_L_law_749 {sc : List Int} {d : Nat} {m : Mem} {Q : Option AV → Mem → Prop} {l3 s0 s1 : Int} (k : (-2147483648 ≤ s0 ∧ s0 < 2147483648) ∧ (-2147483648 ≤ s1 ∧ s1 < 2147483648) ∧ ((s0 = s1) → (S_L_law sc d 18 [aR (-7), aR 0, aR 62, aI (l3 + 6)] [] m Q)) ∧ (¬ (s0 = s1) → (Q (some (aI 0)) m))) : S_L_law sc d 749 [aR (-7), aR 0, aR 62, aI l3] [aI s1, aI s0] m Q := by
  obtain ⟨h1, k⟩ := k
  obtain ⟨h2, k⟩ := k
  obtain ⟨k1, k2⟩ := k
  refine x_icmp_eq (tgt := 1066) (pc2 := 752) dL_law_749 (by decide) rfl h1 h2 (fun c3 => ?_) (fun c3 => ?_)
  · replace k := k1 c3
    refine x_iinc (pc2 := 1069) (ls2 := [aR (-7), aR 0, aR 62, aI (l3 + 6)]) dL_law_1066 rfl rfl (by decide) rfl ?_
    refine x_goto (tgt := 18) dL_law_1069 (by decide) ?_
    exact k
  · replace k := k2 c3
    refine x_iconst (pc2 := 753) dL_law_752 rfl ?_
    exact x_ireturn dL_law_753 ⟨.boolean, rfl, rfl⟩ k
set_option maxRecDepth 4000 in
theorem g_L_law_763 {sc : List Int} {d : Nat} {m : Mem} {Q : Option AV → Mem → Prop} {l3 s0 : Int} (k : (0 ≤ (l3 + 1)) ∧ ((l3 + 1) < sc.length) ∧ S_L_law sc d 769 [aR (-7), aR 0, aR 62, aI l3] [aI (sc.getD (l3 + 1).toNat 0), aR 62, aI s0] m Q) : S_L_law sc d 763 [aR (-7), aR 0, aR 62, aI l3] [aI s0] m Q := by
  refine x_aload_n (pc2 := 764) dL_law_763 rfl rfl ?_
  refine x_aload_n (pc2 := 765) dL_law_764 rfl rfl ?_
  refine x_iload_n (pc2 := 766) dL_law_765 rfl rfl ?_
  refine x_iconst (pc2 := 767) dL_law_766 rfl ?_
  refine x_iadd (pc2 := 768) dL_law_767 rfl ?_
  obtain ⟨h1, k⟩ := k
  obtain ⟨h2, k⟩ := k
  refine x_sald (pc2 := 769) h1 h2 dL_law_768 rfl ?_
  exact k
set_option maxRecDepth 4000 in
theorem g_L_law_772 {sc : List Int} {d : Nat} {m : Mem} {Q : Option AV → Mem → Prop} {l3 s0 s1 : Int} (k : (-2147483648 ≤ s0 ∧ s0 < 2147483648) ∧ (-2147483648 ≤ s1 ∧ s1 < 2147483648) ∧ ((s0 = s1) → (S_L_law sc d 18 [aR (-7), aR 0, aR 62, aI (l3 + 6)] [] m Q)) ∧ (¬ (s0 = s1) → (Q (some (aI 0)) m))) : S_L_law sc d 772 [aR (-7), aR 0, aR 62, aI l3] [aI s1, aI s0] m Q := by
  obtain ⟨h1, k⟩ := k
  obtain ⟨h2, k⟩ := k
  obtain ⟨k1, k2⟩ := k
  refine x_icmp_eq (tgt := 1066) (pc2 := 775) dL_law_772 (by decide) rfl h1 h2 (fun c3 => ?_) (fun c3 => ?_)
  · replace k := k1 c3
    refine x_iinc (pc2 := 1069) (ls2 := [aR (-7), aR 0, aR 62, aI (l3 + 6)]) dL_law_1066 rfl rfl (by decide) rfl ?_
    refine x_goto (tgt := 18) dL_law_1069 (by decide) ?_
    exact k
  · replace k := k2 c3
    refine x_iconst (pc2 := 776) dL_law_775 rfl ?_
    exact x_ireturn dL_law_776 ⟨.boolean, rfl, rfl⟩ k
set_option maxRecDepth 4000 in
theorem g_L_law_786 {sc : List Int} {d : Nat} {m : Mem} {Q : Option AV → Mem → Prop} {l3 s0 : Int} (k : (0 ≤ (l3 + 1)) ∧ ((l3 + 1) < sc.length) ∧ S_L_law sc d 792 [aR (-7), aR 0, aR 62, aI l3] [aI (sc.getD (l3 + 1).toNat 0), aR 62, aI s0] m Q) : S_L_law sc d 786 [aR (-7), aR 0, aR 62, aI l3] [aI s0] m Q := by
  refine x_aload_n (pc2 := 787) dL_law_786 rfl rfl ?_
  refine x_aload_n (pc2 := 788) dL_law_787 rfl rfl ?_
  refine x_iload_n (pc2 := 789) dL_law_788 rfl rfl ?_
  refine x_iconst (pc2 := 790) dL_law_789 rfl ?_
  refine x_iadd (pc2 := 791) dL_law_790 rfl ?_
  obtain ⟨h1, k⟩ := k
  obtain ⟨h2, k⟩ := k
  refine x_sald (pc2 := 792) h1 h2 dL_law_791 rfl ?_
  exact k
set_option maxRecDepth 4000 in
theorem g_L_law_795 {sc : List Int} {d : Nat} {m : Mem} {Q : Option AV → Mem → Prop} {l3 s0 s1 : Int} (k : (-2147483648 ≤ s0 ∧ s0 < 2147483648) ∧ (-2147483648 ≤ s1 ∧ s1 < 2147483648) ∧ ((s0 = s1) → (S_L_law sc d 18 [aR (-7), aR 0, aR 62, aI (l3 + 6)] [] m Q)) ∧ (¬ (s0 = s1) → (Q (some (aI 0)) m))) : S_L_law sc d 795 [aR (-7), aR 0, aR 62, aI l3] [aI s1, aI s0] m Q := by
  obtain ⟨h1, k⟩ := k
  obtain ⟨h2, k⟩ := k
  obtain ⟨k1, k2⟩ := k
  refine x_icmp_eq (tgt := 1066) (pc2 := 798) dL_law_795 (by decide) rfl h1 h2 (fun c3 => ?_) (fun c3 => ?_)
  · replace k := k1 c3
    refine x_iinc (pc2 := 1069) (ls2 := [aR (-7), aR 0, aR 62, aI (l3 + 6)]) dL_law_1066 rfl rfl (by decide) rfl ?_
    refine x_goto (tgt := 18) dL_law_1069 (by decide) ?_
    exact k
  · replace k := k2 c3
    refine x_iconst (pc2 := 799) dL_law_798 rfl ?_
    exact x_ireturn dL_law_799 ⟨.boolean, rfl, rfl⟩ k
set_option maxRecDepth 4000 in
theorem g_L_law_817 {sc : List Int} {d : Nat} {m : Mem} {Q : Option AV → Mem → Prop} {l3 s0 : Int} (k : (0 ≤ (l3 + 1)) ∧ ((l3 + 1) < sc.length) ∧ ((-2147483648 ≤ (sc.getD (l3 + 1).toNat 0) ∧ (sc.getD (l3 + 1).toNat 0) < 2147483648)) ∧ S_L_law sc d 831 [aR (-7), aR 0, aR 62, aI l3] [aI (if (sc.getD (l3 + 1).toNat 0) = 0 then 0 else 1 : Int), aR 62, aI s0] m Q) : S_L_law sc d 817 [aR (-7), aR 0, aR 62, aI l3] [aI s0] m Q := by
  refine x_aload_n (pc2 := 818) dL_law_817 rfl rfl ?_
  refine x_aload_n (pc2 := 819) dL_law_818 rfl rfl ?_
  refine x_iload_n (pc2 := 820) dL_law_819 rfl rfl ?_
  refine x_iconst (pc2 := 821) dL_law_820 rfl ?_
  refine x_iadd (pc2 := 822) dL_law_821 rfl ?_
  obtain ⟨h1, k⟩ := k
  obtain ⟨h2, k⟩ := k
  refine x_sald (pc2 := 823) h1 h2 dL_law_822 rfl ?_
  obtain ⟨g4, k⟩ := k
  have kj : S_L_law sc d 831 [aR (-7), aR 0, aR 62, aI l3] [aI (if (sc.getD (l3 + 1).toNat 0) = 0 then 0 else 1 : Int), aR 62, aI s0] m Q := by
    exact k
  have h5 := g4 
  refine x_if_eq (tgt := 830) (pc2 := 826) dL_law_823 (by decide) rfl h5 (fun c6 => ?_) (fun c6 => ?_)
  · skip
    refine x_iconst (pc2 := 831) dL_law_830 rfl ?_
    exact x_topI (v := (if (sc.getD (l3 + 1).toNat 0) = 0 then 0 else 1 : Int)) (if_pos c6) kj
  · skip
    refine x_iconst (pc2 := 827) dL_law_826 rfl ?_
    refine x_goto (tgt := 831) dL_law_827 (by decide) ?_
    exact x_topI (v := (if (sc.getD (l3 + 1).toNat 0) = 0 then 0 else 1 : Int)) (if_neg c6) kj
set_option maxRecDepth 4000 in
theorem g_L_law_834 {sc : List Int} {d : Nat} {m : Mem} {Q : Option AV → Mem → Prop} {l3 s0 s1 : Int} (k : (-2147483648 ≤ s0 ∧ s0 < 2147483648) ∧ (-2147483648 ≤ s1 ∧ s1 < 2147483648) ∧ ((s0 = s1) → (S_L_law sc d 18 [aR (-7), aR 0, aR 62, aI (l3 + 6)] [] m Q)) ∧ (¬ (s0 = s1) → (Q (some (aI 0)) m))) : S_L_law sc d 834 [aR (-7), aR 0, aR 62, aI l3] [aI s1, aI s0] m Q := by
  obtain ⟨h1, k⟩ := k
  obtain ⟨h2, k⟩ := k
  obtain ⟨k1, k2⟩ := k
  refine x_icmp_eq (tgt := 1066) (pc2 := 837) dL_law_834 (by decide) rfl h1 h2 (fun c3 => ?_) (fun c3 => ?_)
  · replace k := k1 c3
    refine x_iinc (pc2 := 1069) (ls2 := [aR (-7), aR 0, aR 62, aI (l3 + 6)]) dL_law_1066 rfl rfl (by decide) rfl ?_
    refine x_goto (tgt := 18) dL_law_1069 (by decide) ?_
    exact k
  · replace k := k2 c3
    refine x_iconst (pc2 := 838) dL_law_837 rfl ?_
    exact x_ireturn dL_law_838 ⟨.boolean, rfl, rfl⟩ k
set_option maxRecDepth 4000 in
theorem g_L_law_843 {sc : List Int} {d : Nat} {m : Mem} {Q : Option AV → Mem → Prop} {l3 s0 : Int} (k : S_L_law sc d 844 [aR (-7), aR 0, aR 62, aI l3] [aR 62, aI s0] m Q) : S_L_law sc d 843 [aR (-7), aR 0, aR 62, aI l3] [aI s0] m Q := by
  refine x_aload_n (pc2 := 844) dL_law_843 rfl rfl ?_
  exact k
set_option maxRecDepth 4000 in
theorem g_L_law_847 {sc : List Int} {d : Nat} {m : Mem} {Q : Option AV → Mem → Prop} {l3 s0 s1 : Int} (k : (-2147483648 ≤ s0 ∧ s0 < 2147483648) ∧ (-2147483648 ≤ s1 ∧ s1 < 2147483648) ∧ ((s0 = s1) → (S_L_law sc d 18 [aR (-7), aR 0, aR 62, aI (l3 + 6)] [] m Q)) ∧ (¬ (s0 = s1) → (Q (some (aI 0)) m))) : S_L_law sc d 847 [aR (-7), aR 0, aR 62, aI l3] [aI s1, aI s0] m Q := by
  obtain ⟨h1, k⟩ := k
  obtain ⟨h2, k⟩ := k
  obtain ⟨k1, k2⟩ := k
  refine x_icmp_eq (tgt := 1066) (pc2 := 850) dL_law_847 (by decide) rfl h1 h2 (fun c3 => ?_) (fun c3 => ?_)
  · replace k := k1 c3
    refine x_iinc (pc2 := 1069) (ls2 := [aR (-7), aR 0, aR 62, aI (l3 + 6)]) dL_law_1066 rfl rfl (by decide) rfl ?_
    refine x_goto (tgt := 18) dL_law_1069 (by decide) ?_
    exact k
  · replace k := k2 c3
    refine x_iconst (pc2 := 851) dL_law_850 rfl ?_
    exact x_ireturn dL_law_851 ⟨.boolean, rfl, rfl⟩ k
set_option maxRecDepth 4000 in
theorem g_L_law_861 {sc : List Int} {d : Nat} {m : Mem} {Q : Option AV → Mem → Prop} {l3 s0 : Int} (k : (0 ≤ (l3 + 1)) ∧ ((l3 + 1) < sc.length) ∧ S_L_law sc d 867 [aR (-7), aR 0, aR 62, aI l3] [aI (sc.getD (l3 + 1).toNat 0), aR 62, aI s0] m Q) : S_L_law sc d 861 [aR (-7), aR 0, aR 62, aI l3] [aI s0] m Q := by
  refine x_aload_n (pc2 := 862) dL_law_861 rfl rfl ?_
  refine x_aload_n (pc2 := 863) dL_law_862 rfl rfl ?_
  refine x_iload_n (pc2 := 864) dL_law_863 rfl rfl ?_
  refine x_iconst (pc2 := 865) dL_law_864 rfl ?_
  refine x_iadd (pc2 := 866) dL_law_865 rfl ?_
  obtain ⟨h1, k⟩ := k
  obtain ⟨h2, k⟩ := k
  refine x_sald (pc2 := 867) h1 h2 dL_law_866 rfl ?_
  exact k
set_option maxRecDepth 4000 in
theorem g_L_law_870 {sc : List Int} {d : Nat} {m : Mem} {Q : Option AV → Mem → Prop} {l3 s0 s1 : Int} (k : (-2147483648 ≤ s0 ∧ s0 < 2147483648) ∧ (-2147483648 ≤ s1 ∧ s1 < 2147483648) ∧ ((s0 = s1) → (S_L_law sc d 18 [aR (-7), aR 0, aR 62, aI (l3 + 6)] [] m Q)) ∧ (¬ (s0 = s1) → (Q (some (aI 0)) m))) : S_L_law sc d 870 [aR (-7), aR 0, aR 62, aI l3] [aI s1, aI s0] m Q := by
  obtain ⟨h1, k⟩ := k
  obtain ⟨h2, k⟩ := k
  obtain ⟨k1, k2⟩ := k
  refine x_icmp_eq (tgt := 1066) (pc2 := 873) dL_law_870 (by decide) rfl h1 h2 (fun c3 => ?_) (fun c3 => ?_)
  · replace k := k1 c3
    refine x_iinc (pc2 := 1069) (ls2 := [aR (-7), aR 0, aR 62, aI (l3 + 6)]) dL_law_1066 rfl rfl (by decide) rfl ?_
    refine x_goto (tgt := 18) dL_law_1069 (by decide) ?_
    exact k
  · replace k := k2 c3
    refine x_iconst (pc2 := 874) dL_law_873 rfl ?_
    exact x_ireturn dL_law_874 ⟨.boolean, rfl, rfl⟩ k
set_option maxRecDepth 4000 in
theorem g_L_law_879 {sc : List Int} {d : Nat} {m : Mem} {Q : Option AV → Mem → Prop} {l3 s0 : Int} (k : S_L_law sc d 880 [aR (-7), aR 0, aR 62, aI l3] [aR 62, aI s0] m Q) : S_L_law sc d 879 [aR (-7), aR 0, aR 62, aI l3] [aI s0] m Q := by
  refine x_aload_n (pc2 := 880) dL_law_879 rfl rfl ?_
  exact k
set_option maxRecDepth 4000 in
theorem g_L_law_883 {sc : List Int} {d : Nat} {m : Mem} {Q : Option AV → Mem → Prop} {l3 s0 s1 : Int} (k : (-2147483648 ≤ s0 ∧ s0 < 2147483648) ∧ (-2147483648 ≤ s1 ∧ s1 < 2147483648) ∧ ((s0 = s1) → (S_L_law sc d 18 [aR (-7), aR 0, aR 62, aI (l3 + 6)] [] m Q)) ∧ (¬ (s0 = s1) → (Q (some (aI 0)) m))) : S_L_law sc d 883 [aR (-7), aR 0, aR 62, aI l3] [aI s1, aI s0] m Q := by
  obtain ⟨h1, k⟩ := k
  obtain ⟨h2, k⟩ := k
  obtain ⟨k1, k2⟩ := k
  refine x_icmp_eq (tgt := 1066) (pc2 := 886) dL_law_883 (by decide) rfl h1 h2 (fun c3 => ?_) (fun c3 => ?_)
  · replace k := k1 c3
    refine x_iinc (pc2 := 1069) (ls2 := [aR (-7), aR 0, aR 62, aI (l3 + 6)]) dL_law_1066 rfl rfl (by decide) rfl ?_
    refine x_goto (tgt := 18) dL_law_1069 (by decide) ?_
    exact k
  · replace k := k2 c3
    refine x_iconst (pc2 := 887) dL_law_886 rfl ?_
    exact x_ireturn dL_law_887 ⟨.boolean, rfl, rfl⟩ k
set_option maxRecDepth 4000 in
theorem g_L_law_892 {sc : List Int} {d : Nat} {m : Mem} {Q : Option AV → Mem → Prop} {l3 s0 : Int} (k : S_L_law sc d 893 [aR (-7), aR 0, aR 62, aI l3] [aR 62, aI s0] m Q) : S_L_law sc d 892 [aR (-7), aR 0, aR 62, aI l3] [aI s0] m Q := by
  refine x_aload_n (pc2 := 893) dL_law_892 rfl rfl ?_
  exact k
set_option maxRecDepth 4000 in
theorem g_L_law_896 {sc : List Int} {d : Nat} {m : Mem} {Q : Option AV → Mem → Prop} {l3 s0 s1 : Int} (k : (-2147483648 ≤ s0 ∧ s0 < 2147483648) ∧ (-2147483648 ≤ s1 ∧ s1 < 2147483648) ∧ ((s0 = s1) → (S_L_law sc d 18 [aR (-7), aR 0, aR 62, aI (l3 + 6)] [] m Q)) ∧ (¬ (s0 = s1) → (Q (some (aI 0)) m))) : S_L_law sc d 896 [aR (-7), aR 0, aR 62, aI l3] [aI s1, aI s0] m Q := by
  obtain ⟨h1, k⟩ := k
  obtain ⟨h2, k⟩ := k
  obtain ⟨k1, k2⟩ := k
  refine x_icmp_eq (tgt := 1066) (pc2 := 899) dL_law_896 (by decide) rfl h1 h2 (fun c3 => ?_) (fun c3 => ?_)
  · replace k := k1 c3
    refine x_iinc (pc2 := 1069) (ls2 := [aR (-7), aR 0, aR 62, aI (l3 + 6)]) dL_law_1066 rfl rfl (by decide) rfl ?_
    refine x_goto (tgt := 18) dL_law_1069 (by decide) ?_
    exact k
  · replace k := k2 c3
    refine x_iconst (pc2 := 900) dL_law_899 rfl ?_
    exact x_ireturn dL_law_900 ⟨.boolean, rfl, rfl⟩ k
set_option maxRecDepth 4000 in
theorem g_L_law_910 {sc : List Int} {d : Nat} {m : Mem} {Q : Option AV → Mem → Prop} {l3 s0 : Int} (k : (0 ≤ (l3 + 1)) ∧ ((l3 + 1) < sc.length) ∧ S_L_law sc d 916 [aR (-7), aR 0, aR 62, aI l3] [aI (sc.getD (l3 + 1).toNat 0), aR 62, aI s0] m Q) : S_L_law sc d 910 [aR (-7), aR 0, aR 62, aI l3] [aI s0] m Q := by
  refine x_aload_n (pc2 := 911) dL_law_910 rfl rfl ?_
  refine x_aload_n (pc2 := 912) dL_law_911 rfl rfl ?_
  refine x_iload_n (pc2 := 913) dL_law_912 rfl rfl ?_
  refine x_iconst (pc2 := 914) dL_law_913 rfl ?_
  refine x_iadd (pc2 := 915) dL_law_914 rfl ?_
  obtain ⟨h1, k⟩ := k
  obtain ⟨h2, k⟩ := k
  refine x_sald (pc2 := 916) h1 h2 dL_law_915 rfl ?_
  exact k
set_option maxRecDepth 4000 in
theorem g_L_law_919 {sc : List Int} {d : Nat} {m : Mem} {Q : Option AV → Mem → Prop} {l3 s0 s1 : Int} (k : (-2147483648 ≤ s0 ∧ s0 < 2147483648) ∧ (-2147483648 ≤ s1 ∧ s1 < 2147483648) ∧ ((s0 = s1) → (S_L_law sc d 18 [aR (-7), aR 0, aR 62, aI (l3 + 6)] [] m Q)) ∧ (¬ (s0 = s1) → (Q (some (aI 0)) m))) : S_L_law sc d 919 [aR (-7), aR 0, aR 62, aI l3] [aI s1, aI s0] m Q := by
  obtain ⟨h1, k⟩ := k
  obtain ⟨h2, k⟩ := k
  obtain ⟨k1, k2⟩ := k
  refine x_icmp_eq (tgt := 1066) (pc2 := 922) dL_law_919 (by decide) rfl h1 h2 (fun c3 => ?_) (fun c3 => ?_)
  · replace k := k1 c3
    refine x_iinc (pc2 := 1069) (ls2 := [aR (-7), aR 0, aR 62, aI (l3 + 6)]) dL_law_1066 rfl rfl (by decide) rfl ?_
    refine x_goto (tgt := 18) dL_law_1069 (by decide) ?_
    exact k
  · replace k := k2 c3
    refine x_iconst (pc2 := 923) dL_law_922 rfl ?_
    exact x_ireturn dL_law_923 ⟨.boolean, rfl, rfl⟩ k
set_option maxRecDepth 4000 in
theorem g_L_law_928 {sc : List Int} {d : Nat} {m : Mem} {Q : Option AV → Mem → Prop} {l3 s0 : Int} (k : S_L_law sc d 929 [aR (-7), aR 0, aR 62, aI l3] [aR 62, aI s0] m Q) : S_L_law sc d 928 [aR (-7), aR 0, aR 62, aI l3] [aI s0] m Q := by
  refine x_aload_n (pc2 := 929) dL_law_928 rfl rfl ?_
  exact k
set_option maxRecDepth 4000 in
theorem g_L_law_932 {sc : List Int} {d : Nat} {m : Mem} {Q : Option AV → Mem → Prop} {l3 s0 s1 : Int} (k : (-2147483648 ≤ s0 ∧ s0 < 2147483648) ∧ (-2147483648 ≤ s1 ∧ s1 < 2147483648) ∧ ((s0 = s1) → (S_L_law sc d 18 [aR (-7), aR 0, aR 62, aI (l3 + 6)] [] m Q)) ∧ (¬ (s0 = s1) → (Q (some (aI 0)) m))) : S_L_law sc d 932 [aR (-7), aR 0, aR 62, aI l3] [aI s1, aI s0] m Q := by
  obtain ⟨h1, k⟩ := k
  obtain ⟨h2, k⟩ := k
  obtain ⟨k1, k2⟩ := k
  refine x_icmp_eq (tgt := 1066) (pc2 := 935) dL_law_932 (by decide) rfl h1 h2 (fun c3 => ?_) (fun c3 => ?_)
  · replace k := k1 c3
    refine x_iinc (pc2 := 1069) (ls2 := [aR (-7), aR 0, aR 62, aI (l3 + 6)]) dL_law_1066 rfl rfl (by decide) rfl ?_
    refine x_goto (tgt := 18) dL_law_1069 (by decide) ?_
    exact k
  · replace k := k2 c3
    refine x_iconst (pc2 := 936) dL_law_935 rfl ?_
    exact x_ireturn dL_law_936 ⟨.boolean, rfl, rfl⟩ k
set_option maxRecDepth 4000 in
theorem g_L_law_946 {sc : List Int} {d : Nat} {m : Mem} {Q : Option AV → Mem → Prop} {l3 s0 : Int} (k : (0 ≤ (l3 + 1)) ∧ ((l3 + 1) < sc.length) ∧ S_L_law sc d 952 [aR (-7), aR 0, aR 62, aI l3] [aI (sc.getD (l3 + 1).toNat 0), aR 62, aI s0] m Q) : S_L_law sc d 946 [aR (-7), aR 0, aR 62, aI l3] [aI s0] m Q := by
  refine x_aload_n (pc2 := 947) dL_law_946 rfl rfl ?_
  refine x_aload_n (pc2 := 948) dL_law_947 rfl rfl ?_
  refine x_iload_n (pc2 := 949) dL_law_948 rfl rfl ?_
  refine x_iconst (pc2 := 950) dL_law_949 rfl ?_
  refine x_iadd (pc2 := 951) dL_law_950 rfl ?_
  obtain ⟨h1, k⟩ := k
  obtain ⟨h2, k⟩ := k
  refine x_sald (pc2 := 952) h1 h2 dL_law_951 rfl ?_
  exact k
set_option maxRecDepth 4000 in
theorem g_L_law_955 {sc : List Int} {d : Nat} {m : Mem} {Q : Option AV → Mem → Prop} {l3 s0 s1 : Int} (k : (-2147483648 ≤ s0 ∧ s0 < 2147483648) ∧ (-2147483648 ≤ s1 ∧ s1 < 2147483648) ∧ ((s0 = s1) → (S_L_law sc d 18 [aR (-7), aR 0, aR 62, aI (l3 + 6)] [] m Q)) ∧ (¬ (s0 = s1) → (Q (some (aI 0)) m))) : S_L_law sc d 955 [aR (-7), aR 0, aR 62, aI l3] [aI s1, aI s0] m Q := by
  obtain ⟨h1, k⟩ := k
  obtain ⟨h2, k⟩ := k
  obtain ⟨k1, k2⟩ := k
  refine x_icmp_eq (tgt := 1066) (pc2 := 958) dL_law_955 (by decide) rfl h1 h2 (fun c3 => ?_) (fun c3 => ?_)
  · replace k := k1 c3
    refine x_iinc (pc2 := 1069) (ls2 := [aR (-7), aR 0, aR 62, aI (l3 + 6)]) dL_law_1066 rfl rfl (by decide) rfl ?_
    refine x_goto (tgt := 18) dL_law_1069 (by decide) ?_
    exact k
  · replace k := k2 c3
    refine x_iconst (pc2 := 959) dL_law_958 rfl ?_
    exact x_ireturn dL_law_959 ⟨.boolean, rfl, rfl⟩ k
set_option maxRecDepth 4000 in
theorem g_L_law_974 {sc : List Int} {d : Nat} {m : Mem} {Q : Option AV → Mem → Prop} {l3 s0 : Int} (k : (0 ≤ (l3 + 1)) ∧ ((l3 + 1) < sc.length) ∧ (0 ≤ (l3 + 2)) ∧ ((l3 + 2) < sc.length) ∧ S_L_law sc d 985 [aR (-7), aR 0, aR 62, aI l3] [aI (sc.getD (l3 + 2).toNat 0), aI (sc.getD (l3 + 1).toNat 0), aR 62, aJ s0] m Q) : S_L_law sc d 974 [aR (-7), aR 0, aR 62, aI l3] [aJ s0] m Q := by
  refine x_aload_n (pc2 := 975) dL_law_974 rfl rfl ?_
  refine x_aload_n (pc2 := 976) dL_law_975 rfl rfl ?_
  refine x_iload_n (pc2 := 977) dL_law_976 rfl rfl ?_
  refine x_iconst (pc2 := 978) dL_law_977 rfl ?_
  refine x_iadd (pc2 := 979) dL_law_978 rfl ?_
  obtain ⟨h1, k⟩ := k
  obtain ⟨h2, k⟩ := k
  refine x_sald (pc2 := 980) h1 h2 dL_law_979 rfl ?_
  refine x_aload_n (pc2 := 981) dL_law_980 rfl rfl ?_
  refine x_iload_n (pc2 := 982) dL_law_981 rfl rfl ?_
  refine x_iconst (pc2 := 983) dL_law_982 rfl ?_
  refine x_iadd (pc2 := 984) dL_law_983 rfl ?_
  obtain ⟨h3, k⟩ := k
  obtain ⟨h4, k⟩ := k
  refine x_sald (pc2 := 985) h3 h4 dL_law_984 rfl ?_
  exact k
set_option maxRecDepth 4000 in
theorem g_L_law_988 {sc : List Int} {d : Nat} {m : Mem} {Q : Option AV → Mem → Prop} {l3 s0 s1 : Int} (k : (-9223372036854775808 ≤ s0 ∧ s0 < 9223372036854775808) ∧ (-9223372036854775808 ≤ s1 ∧ s1 < 9223372036854775808) ∧ ((s0 = s1) → (S_L_law sc d 18 [aR (-7), aR 0, aR 62, aI (l3 + 6)] [] m Q)) ∧ (¬ (s0 = s1) → (Q (some (aI 0)) m))) : S_L_law sc d 988 [aR (-7), aR 0, aR 62, aI l3] [aJ s1, aJ s0] m Q := by
  obtain ⟨h1, k⟩ := k
  obtain ⟨h2, k⟩ := k
  obtain ⟨k1, k2⟩ := k
  refine x_lc_eq (tgt := 1066) (pc2 := 992) dL_law_988 dL_law_989 (by decide) rfl h1 h2 (fun c3 => ?_) (fun c3 => ?_)
  · replace k := k1 c3
    refine x_iinc (pc2 := 1069) (ls2 := [aR (-7), aR 0, aR 62, aI (l3 + 6)]) dL_law_1066 rfl rfl (by decide) rfl ?_
    refine x_goto (tgt := 18) dL_law_1069 (by decide) ?_
    exact k
  · replace k := k2 c3
    refine x_iconst (pc2 := 993) dL_law_992 rfl ?_
    exact x_ireturn dL_law_993 ⟨.boolean, rfl, rfl⟩ k
set_option maxRecDepth 4000 in
theorem g_L_law_998 {sc : List Int} {d : Nat} {m : Mem} {Q : Option AV → Mem → Prop} {l3 s0 : Int} (k : S_L_law sc d 999 [aR (-7), aR 0, aR 62, aI l3] [aR 62, aI s0] m Q) : S_L_law sc d 998 [aR (-7), aR 0, aR 62, aI l3] [aI s0] m Q := by
  refine x_aload_n (pc2 := 999) dL_law_998 rfl rfl ?_
  exact k
set_option maxRecDepth 4000 in
theorem g_L_law_1002 {sc : List Int} {d : Nat} {m : Mem} {Q : Option AV → Mem → Prop} {l3 s0 s1 : Int} (k : (-2147483648 ≤ s0 ∧ s0 < 2147483648) ∧ (-2147483648 ≤ s1 ∧ s1 < 2147483648) ∧ ((s0 = s1) → (S_L_law sc d 18 [aR (-7), aR 0, aR 62, aI (l3 + 6)] [] m Q)) ∧ (¬ (s0 = s1) → (Q (some (aI 0)) m))) : S_L_law sc d 1002 [aR (-7), aR 0, aR 62, aI l3] [aI s1, aI s0] m Q := by
  obtain ⟨h1, k⟩ := k
  obtain ⟨h2, k⟩ := k
  obtain ⟨k1, k2⟩ := k
  refine x_icmp_eq (tgt := 1066) (pc2 := 1005) dL_law_1002 (by decide) rfl h1 h2 (fun c3 => ?_) (fun c3 => ?_)
  · replace k := k1 c3
    refine x_iinc (pc2 := 1069) (ls2 := [aR (-7), aR 0, aR 62, aI (l3 + 6)]) dL_law_1066 rfl rfl (by decide) rfl ?_
    refine x_goto (tgt := 18) dL_law_1069 (by decide) ?_
    exact k
  · replace k := k2 c3
    refine x_iconst (pc2 := 1006) dL_law_1005 rfl ?_
    exact x_ireturn dL_law_1006 ⟨.boolean, rfl, rfl⟩ k
set_option maxRecDepth 4000 in
theorem g_L_law_1016 {sc : List Int} {d : Nat} {m : Mem} {Q : Option AV → Mem → Prop} {l3 s0 : Int} (k : (0 ≤ (l3 + 1)) ∧ ((l3 + 1) < sc.length) ∧ S_L_law sc d 1022 [aR (-7), aR 0, aR 62, aI l3] [aI (sc.getD (l3 + 1).toNat 0), aR 62, aI s0] m Q) : S_L_law sc d 1016 [aR (-7), aR 0, aR 62, aI l3] [aI s0] m Q := by
  refine x_aload_n (pc2 := 1017) dL_law_1016 rfl rfl ?_
  refine x_aload_n (pc2 := 1018) dL_law_1017 rfl rfl ?_
  refine x_iload_n (pc2 := 1019) dL_law_1018 rfl rfl ?_
  refine x_iconst (pc2 := 1020) dL_law_1019 rfl ?_
  refine x_iadd (pc2 := 1021) dL_law_1020 rfl ?_
  obtain ⟨h1, k⟩ := k
  obtain ⟨h2, k⟩ := k
  refine x_sald (pc2 := 1022) h1 h2 dL_law_1021 rfl ?_
  exact k
set_option maxRecDepth 4000 in
theorem g_L_law_1025 {sc : List Int} {d : Nat} {m : Mem} {Q : Option AV → Mem → Prop} {l3 s0 s1 : Int} (k : (-2147483648 ≤ s0 ∧ s0 < 2147483648) ∧ (-2147483648 ≤ s1 ∧ s1 < 2147483648) ∧ ((s0 = s1) → (S_L_law sc d 18 [aR (-7), aR 0, aR 62, aI (l3 + 6)] [] m Q)) ∧ (¬ (s0 = s1) → (Q (some (aI 0)) m))) : S_L_law sc d 1025 [aR (-7), aR 0, aR 62, aI l3] [aI s1, aI s0] m Q := by
  obtain ⟨h1, k⟩ := k
  obtain ⟨h2, k⟩ := k
  obtain ⟨k1, k2⟩ := k
  refine x_icmp_eq (tgt := 1066) (pc2 := 1028) dL_law_1025 (by decide) rfl h1 h2 (fun c3 => ?_) (fun c3 => ?_)
  · replace k := k1 c3
    refine x_iinc (pc2 := 1069) (ls2 := [aR (-7), aR 0, aR 62, aI (l3 + 6)]) dL_law_1066 rfl rfl (by decide) rfl ?_
    refine x_goto (tgt := 18) dL_law_1069 (by decide) ?_
    exact k
  · replace k := k2 c3
    refine x_iconst (pc2 := 1029) dL_law_1028 rfl ?_
    exact x_ireturn dL_law_1029 ⟨.boolean, rfl, rfl⟩ k
set_option maxRecDepth 4000 in
theorem g_L_law_1034 {sc : List Int} {d : Nat} {m : Mem} {Q : Option AV → Mem → Prop} {l3 s0 : Int} (k : S_L_law sc d 1035 [aR (-7), aR 0, aR 62, aI l3] [aR 62, aI s0] m Q) : S_L_law sc d 1034 [aR (-7), aR 0, aR 62, aI l3] [aI s0] m Q := by
  refine x_aload_n (pc2 := 1035) dL_law_1034 rfl rfl ?_
  exact k
set_option maxRecDepth 4000 in
theorem g_L_law_1038 {sc : List Int} {d : Nat} {m : Mem} {Q : Option AV → Mem → Prop} {l3 s0 s1 : Int} (k : (-2147483648 ≤ s0 ∧ s0 < 2147483648) ∧ (-2147483648 ≤ s1 ∧ s1 < 2147483648) ∧ ((s0 = s1) → (S_L_law sc d 18 [aR (-7), aR 0, aR 62, aI (l3 + 6)] [] m Q)) ∧ (¬ (s0 = s1) → (Q (some (aI 0)) m))) : S_L_law sc d 1038 [aR (-7), aR 0, aR 62, aI l3] [aI s1, aI s0] m Q := by
  obtain ⟨h1, k⟩ := k
  obtain ⟨h2, k⟩ := k
  obtain ⟨k1, k2⟩ := k
  refine x_icmp_eq (tgt := 1066) (pc2 := 1041) dL_law_1038 (by decide) rfl h1 h2 (fun c3 => ?_) (fun c3 => ?_)
  · replace k := k1 c3
    refine x_iinc (pc2 := 1069) (ls2 := [aR (-7), aR 0, aR 62, aI (l3 + 6)]) dL_law_1066 rfl rfl (by decide) rfl ?_
    refine x_goto (tgt := 18) dL_law_1069 (by decide) ?_
    exact k
  · replace k := k2 c3
    refine x_iconst (pc2 := 1042) dL_law_1041 rfl ?_
    exact x_ireturn dL_law_1042 ⟨.boolean, rfl, rfl⟩ k
set_option maxRecDepth 4000 in
theorem g_L_law_1052 {sc : List Int} {d : Nat} {m : Mem} {Q : Option AV → Mem → Prop} {l3 s0 : Int} (k : (0 ≤ (l3 + 1)) ∧ ((l3 + 1) < sc.length) ∧ S_L_law sc d 1058 [aR (-7), aR 0, aR 62, aI l3] [aI (sc.getD (l3 + 1).toNat 0), aR 62, aI s0] m Q) : S_L_law sc d 1052 [aR (-7), aR 0, aR 62, aI l3] [aI s0] m Q := by
  refine x_aload_n (pc2 := 1053) dL_law_1052 rfl rfl ?_
  refine x_aload_n (pc2 := 1054) dL_law_1053 rfl rfl ?_
  refine x_iload_n (pc2 := 1055) dL_law_1054 rfl rfl ?_
  refine x_iconst (pc2 := 1056) dL_law_1055 rfl ?_
  refine x_iadd (pc2 := 1057) dL_law_1056 rfl ?_
  obtain ⟨h1, k⟩ := k
  obtain ⟨h2, k⟩ := k
  refine x_sald (pc2 := 1058) h1 h2 dL_law_1057 rfl ?_
  exact k
set_option maxRecDepth 4000 in
theorem g_L_law_1061 {sc : List Int} {d : Nat} {m : Mem} {Q : Option AV → Mem → Prop} {l3 s0 s1 : Int} (k : (-2147483648 ≤ s0 ∧ s0 < 2147483648) ∧ (-2147483648 ≤ s1 ∧ s1 < 2147483648) ∧ ((s0 = s1) → (S_L_law sc d 18 [aR (-7), aR 0, aR 62, aI (l3 + 6)] [] m Q)) ∧ (¬ (s0 = s1) → (Q (some (aI 0)) m))) : S_L_law sc d 1061 [aR (-7), aR 0, aR 62, aI l3] [aI s1, aI s0] m Q := by
  obtain ⟨h1, k⟩ := k
  obtain ⟨h2, k⟩ := k
  obtain ⟨k1, k2⟩ := k
  refine x_icmp_eq (tgt := 1066) (pc2 := 1064) dL_law_1061 (by decide) rfl h1 h2 (fun c3 => ?_) (fun c3 => ?_)
  · replace k := k1 c3
    refine x_iinc (pc2 := 1069) (ls2 := [aR (-7), aR 0, aR 62, aI (l3 + 6)]) dL_law_1066 rfl rfl (by decide) rfl ?_
    refine x_goto (tgt := 18) dL_law_1069 (by decide) ?_
    exact k
  · replace k := k2 c3
    refine x_iconst (pc2 := 1065) dL_law_1064 rfl ?_
    exact x_ireturn dL_law_1065 ⟨.boolean, rfl, rfl⟩ k
theorem c_L_law_206 {sc : List Int} {d d2 : Nat} {m m2 : Mem} {Q : Option AV → Mem → Prop} {l3 s1 s2 s3 s4 s5 : Int} {v : Int} (hM : C_X7_feed sc d2 [aR 0, aI s1, aI s2, aI s3, aI s4, aI s5] m (some (aI v)) m2) (hd : d2 + 1 ≤ d) (k : S_L_law sc d 209 [aR (-7), aR 0, aR 62, aI l3] [aI v] m2 Q) : S_L_law sc d 206 [aR (-7), aR 0, aR 62, aI l3] [aI s5, aI s4, aI s3, aI s2, aI s1, aR 0] m Q := x_callV (as := [aI s1, aI s2, aI s3, aI s4, aI s5]) (rest := []) hM mk_X7_feed mv_X7_feed lk_L_13 (Or.inl ⟨7, (RX7, TX7, 14), ic_0, Nat.le_of_ble_eq_true rfl, rfl, rfl⟩) hd rfl rfl (Nat.le_of_ble_eq_true rfl) dL_law_206 rfl k
theorem c_L_law_235 {sc : List Int} {d d2 : Nat} {m m2 : Mem} {Q : Option AV → Mem → Prop} {l3 s0 s2 s3 s4 s5 s6 : Int} {v : Int} (hM : C_X8_feed sc d2 [aR 62, aI s2, aI s3, aI s4, aI s5, aI s6] m (some (aI v)) m2) (hd : d2 + 1 ≤ d) (k : S_L_law sc d 238 [aR (-7), aR 0, aR 62, aI l3] [aI v, aI s0] m2 Q) : S_L_law sc d 235 [aR (-7), aR 0, aR 62, aI l3] [aI s6, aI s5, aI s4, aI s3, aI s2, aR 62, aI s0] m Q := x_callV (as := [aI s2, aI s3, aI s4, aI s5, aI s6]) (rest := [aI s0]) hM mk_X8_feed mv_X8_feed lk_L_17 (Or.inl ⟨8, (RX8, TX8, 123), ic_62, Nat.le_of_ble_eq_true rfl, rfl, rfl⟩) hd rfl rfl (Nat.le_of_ble_eq_true rfl) dL_law_235 rfl k
theorem c_L_law_249 {sc : List Int} {d d2 : Nat} {m m2 : Mem} {Q : Option AV → Mem → Prop} {l3 s1 : Int} {v : Int} (hM : C_X7_end sc d2 [aR 0, aI s1] m (some (aI v)) m2) (hd : d2 + 1 ≤ d) (k : S_L_law sc d 252 [aR (-7), aR 0, aR 62, aI l3] [aI v] m2 Q) : S_L_law sc d 249 [aR (-7), aR 0, aR 62, aI l3] [aI s1, aR 0] m Q := x_callV (as := [aI s1]) (rest := []) hM mk_X7_end mv_X7_end lk_L_18 (Or.inl ⟨7, (RX7, TX7, 14), ic_0, Nat.le_of_ble_eq_true rfl, rfl, rfl⟩) hd rfl rfl (Nat.le_of_ble_eq_true rfl) dL_law_249 rfl k
theorem c_L_law_258 {sc : List Int} {d d2 : Nat} {m m2 : Mem} {Q : Option AV → Mem → Prop} {l3 s0 s2 : Int} {v : Int} (hM : C_X8_end sc d2 [aR 62, aI s2] m (some (aI v)) m2) (hd : d2 + 1 ≤ d) (k : S_L_law sc d 261 [aR (-7), aR 0, aR 62, aI l3] [aI v, aI s0] m2 Q) : S_L_law sc d 258 [aR (-7), aR 0, aR 62, aI l3] [aI s2, aR 62, aI s0] m Q := x_callV (as := [aI s2]) (rest := [aI s0]) hM mk_X8_end mv_X8_end lk_L_22 (Or.inl ⟨8, (RX8, TX8, 123), ic_62, Nat.le_of_ble_eq_true rfl, rfl, rfl⟩) hd rfl rfl (Nat.le_of_ble_eq_true rfl) dL_law_258 rfl k
theorem c_L_law_267 {sc : List Int} {d d2 : Nat} {m m2 : Mem} {Q : Option AV → Mem → Prop} {l3 : Int} {v : Int} (hM : C_X7_room sc d2 [aR 0] m (some (aI v)) m2) (hd : d2 + 1 ≤ d) (k : S_L_law sc d 270 [aR (-7), aR 0, aR 62, aI l3] [aI v] m2 Q) : S_L_law sc d 267 [aR (-7), aR 0, aR 62, aI l3] [aR 0] m Q := x_callV (as := []) (rest := []) hM mk_X7_room mv_X7_room lk_L_23 (Or.inl ⟨7, (RX7, TX7, 14), ic_0, Nat.le_of_ble_eq_true rfl, rfl, rfl⟩) hd rfl rfl (Nat.le_of_ble_eq_true rfl) dL_law_267 rfl k
theorem c_L_law_271 {sc : List Int} {d d2 : Nat} {m m2 : Mem} {Q : Option AV → Mem → Prop} {l3 s0 : Int} {v : Int} (hM : C_X8_room sc d2 [aR 62] m (some (aI v)) m2) (hd : d2 + 1 ≤ d) (k : S_L_law sc d 274 [aR (-7), aR 0, aR 62, aI l3] [aI v, aI s0] m2 Q) : S_L_law sc d 271 [aR (-7), aR 0, aR 62, aI l3] [aR 62, aI s0] m Q := x_callV (as := []) (rest := [aI s0]) hM mk_X8_room mv_X8_room lk_L_27 (Or.inl ⟨8, (RX8, TX8, 123), ic_62, Nat.le_of_ble_eq_true rfl, rfl, rfl⟩) hd rfl rfl (Nat.le_of_ble_eq_true rfl) dL_law_271 rfl k
theorem c_L_law_285 {sc : List Int} {d d2 : Nat} {m m2 : Mem} {Q : Option AV → Mem → Prop} {l3 s1 : Int} {v : Int} (hM : C_X7_fault sc d2 [aR 0, aI s1] m (some (aI v)) m2) (hd : d2 + 1 ≤ d) (k : S_L_law sc d 288 [aR (-7), aR 0, aR 62, aI l3] [aI v] m2 Q) : S_L_law sc d 285 [aR (-7), aR 0, aR 62, aI l3] [aI s1, aR 0] m Q := x_callV (as := [aI s1]) (rest := []) hM mk_X7_fault mv_X7_fault lk_L_28 (Or.inl ⟨7, (RX7, TX7, 14), ic_0, Nat.le_of_ble_eq_true rfl, rfl, rfl⟩) hd rfl rfl (Nat.le_of_ble_eq_true rfl) dL_law_285 rfl k
theorem c_L_law_294 {sc : List Int} {d d2 : Nat} {m m2 : Mem} {Q : Option AV → Mem → Prop} {l3 s0 s2 : Int} {v : Int} (hM : C_X8_fault sc d2 [aR 62, aI s2] m (some (aI v)) m2) (hd : d2 + 1 ≤ d) (k : S_L_law sc d 297 [aR (-7), aR 0, aR 62, aI l3] [aI v, aI s0] m2 Q) : S_L_law sc d 294 [aR (-7), aR 0, aR 62, aI l3] [aI s2, aR 62, aI s0] m Q := x_callV (as := [aI s2]) (rest := [aI s0]) hM mk_X8_fault mv_X8_fault lk_L_32 (Or.inl ⟨8, (RX8, TX8, 123), ic_62, Nat.le_of_ble_eq_true rfl, rfl, rfl⟩) hd rfl rfl (Nat.le_of_ble_eq_true rfl) dL_law_294 rfl k
theorem c_L_law_308 {sc : List Int} {d d2 : Nat} {m m2 : Mem} {Q : Option AV → Mem → Prop} {l3 s1 : Int} {v : Int} (hM : C_X7_has sc d2 [aR 0, aI s1] m (some (aI v)) m2) (hd : d2 + 1 ≤ d) (k : S_L_law sc d 311 [aR (-7), aR 0, aR 62, aI l3] [aI v] m2 Q) : S_L_law sc d 308 [aR (-7), aR 0, aR 62, aI l3] [aI s1, aR 0] m Q := x_callV (as := [aI s1]) (rest := []) hM mk_X7_has mv_X7_has lk_L_33 (Or.inl ⟨7, (RX7, TX7, 14), ic_0, Nat.le_of_ble_eq_true rfl, rfl, rfl⟩) hd rfl rfl (Nat.le_of_ble_eq_true rfl) dL_law_308 rfl k
theorem c_L_law_317 {sc : List Int} {d d2 : Nat} {m m2 : Mem} {Q : Option AV → Mem → Prop} {l3 s0 s2 : Int} {v : Int} (hM : C_X8_has sc d2 [aR 62, aI s2] m (some (aI v)) m2) (hd : d2 + 1 ≤ d) (k : S_L_law sc d 320 [aR (-7), aR 0, aR 62, aI l3] [aI v, aI s0] m2 Q) : S_L_law sc d 317 [aR (-7), aR 0, aR 62, aI l3] [aI s2, aR 62, aI s0] m Q := x_callV (as := [aI s2]) (rest := [aI s0]) hM mk_X8_has mv_X8_has lk_L_36 (Or.inl ⟨8, (RX8, TX8, 123), ic_62, Nat.le_of_ble_eq_true rfl, rfl, rfl⟩) hd rfl rfl (Nat.le_of_ble_eq_true rfl) dL_law_317 rfl k
theorem c_L_law_341 {sc : List Int} {d d2 : Nat} {m m2 : Mem} {Q : Option AV → Mem → Prop} {l3 s1 s2 s3 : Int} {v : Int} (hM : C_X7_letter sc d2 [aR 0, aI s1, aI s2, aI s3] m (some (aI v)) m2) (hd : d2 + 1 ≤ d) (k : S_L_law sc d 344 [aR (-7), aR 0, aR 62, aI l3] [aI v] m2 Q) : S_L_law sc d 341 [aR (-7), aR 0, aR 62, aI l3] [aI s3, aI s2, aI s1, aR 0] m Q := x_callV (as := [aI s1, aI s2, aI s3]) (rest := []) hM mk_X7_letter mv_X7_letter lk_L_37 (Or.inl ⟨7, (RX7, TX7, 14), ic_0, Nat.le_of_ble_eq_true rfl, rfl, rfl⟩) hd rfl rfl (Nat.le_of_ble_eq_true rfl) dL_law_341 rfl k
theorem c_L_law_360 {sc : List Int} {d d2 : Nat} {m m2 : Mem} {Q : Option AV → Mem → Prop} {l3 s0 s2 s3 s4 : Int} {v : Int} (hM : C_X8_letter sc d2 [aR 62, aI s2, aI s3, aI s4] m (some (aI v)) m2) (hd : d2 + 1 ≤ d) (k : S_L_law sc d 363 [aR (-7), aR 0, aR 62, aI l3] [aI v, aI s0] m2 Q) : S_L_law sc d 360 [aR (-7), aR 0, aR 62, aI l3] [aI s4, aI s3, aI s2, aR 62, aI s0] m Q := x_callV (as := [aI s2, aI s3, aI s4]) (rest := [aI s0]) hM mk_X8_letter mv_X8_letter lk_L_41 (Or.inl ⟨8, (RX8, TX8, 123), ic_62, Nat.le_of_ble_eq_true rfl, rfl, rfl⟩) hd rfl rfl (Nat.le_of_ble_eq_true rfl) dL_law_360 rfl k
theorem c_L_law_379 {sc : List Int} {d d2 : Nat} {m m2 : Mem} {Q : Option AV → Mem → Prop} {l3 s1 s2 : Int} {v : Int} (hM : C_X7_bobbin sc d2 [aR 0, aI s1, aI s2] m (some (aI v)) m2) (hd : d2 + 1 ≤ d) (k : S_L_law sc d 382 [aR (-7), aR 0, aR 62, aI l3] [aI v] m2 Q) : S_L_law sc d 379 [aR (-7), aR 0, aR 62, aI l3] [aI s2, aI s1, aR 0] m Q := x_callV (as := [aI s1, aI s2]) (rest := []) hM mk_X7_bobbin mv_X7_bobbin lk_L_42 (Or.inl ⟨7, (RX7, TX7, 14), ic_0, Nat.le_of_ble_eq_true rfl, rfl, rfl⟩) hd rfl rfl (Nat.le_of_ble_eq_true rfl) dL_law_379 rfl k
theorem c_L_law_393 {sc : List Int} {d d2 : Nat} {m m2 : Mem} {Q : Option AV → Mem → Prop} {l3 s0 s2 s3 : Int} {v : Int} (hM : C_X8_bobbin sc d2 [aR 62, aI s2, aI s3] m (some (aI v)) m2) (hd : d2 + 1 ≤ d) (k : S_L_law sc d 396 [aR (-7), aR 0, aR 62, aI l3] [aI v, aI s0] m2 Q) : S_L_law sc d 393 [aR (-7), aR 0, aR 62, aI l3] [aI s3, aI s2, aR 62, aI s0] m Q := x_callV (as := [aI s2, aI s3]) (rest := [aI s0]) hM mk_X8_bobbin mv_X8_bobbin lk_L_46 (Or.inl ⟨8, (RX8, TX8, 123), ic_62, Nat.le_of_ble_eq_true rfl, rfl, rfl⟩) hd rfl rfl (Nat.le_of_ble_eq_true rfl) dL_law_393 rfl k
theorem c_L_law_412 {sc : List Int} {d d2 : Nat} {m m2 : Mem} {Q : Option AV → Mem → Prop} {l3 s1 s2 : Int} {v : Int} (hM : C_X7_seam sc d2 [aR 0, aI s1, aI s2] m (some (aI v)) m2) (hd : d2 + 1 ≤ d) (k : S_L_law sc d 415 [aR (-7), aR 0, aR 62, aI l3] [aI v] m2 Q) : S_L_law sc d 412 [aR (-7), aR 0, aR 62, aI l3] [aI s2, aI s1, aR 0] m Q := x_callV (as := [aI s1, aI s2]) (rest := []) hM mk_X7_seam mv_X7_seam lk_L_47 (Or.inl ⟨7, (RX7, TX7, 14), ic_0, Nat.le_of_ble_eq_true rfl, rfl, rfl⟩) hd rfl rfl (Nat.le_of_ble_eq_true rfl) dL_law_412 rfl k
theorem c_L_law_426 {sc : List Int} {d d2 : Nat} {m m2 : Mem} {Q : Option AV → Mem → Prop} {l3 s0 s2 s3 : Int} {v : Int} (hM : C_X8_seam sc d2 [aR 62, aI s2, aI s3] m (some (aI v)) m2) (hd : d2 + 1 ≤ d) (k : S_L_law sc d 429 [aR (-7), aR 0, aR 62, aI l3] [aI v, aI s0] m2 Q) : S_L_law sc d 426 [aR (-7), aR 0, aR 62, aI l3] [aI s3, aI s2, aR 62, aI s0] m Q := x_callV (as := [aI s2, aI s3]) (rest := [aI s0]) hM mk_X8_seam mv_X8_seam lk_L_50 (Or.inl ⟨8, (RX8, TX8, 123), ic_62, Nat.le_of_ble_eq_true rfl, rfl, rfl⟩) hd rfl rfl (Nat.le_of_ble_eq_true rfl) dL_law_426 rfl k
theorem c_L_law_455 {sc : List Int} {d d2 : Nat} {m m2 : Mem} {Q : Option AV → Mem → Prop} {l3 s1 s2 s3 s4 : Int} {v : Int} (hM : C_X7_row sc d2 [aR 0, aI s1, aI s2, aI s3, aI s4] m (some (aI v)) m2) (hd : d2 + 1 ≤ d) (k : S_L_law sc d 458 [aR (-7), aR 0, aR 62, aI l3] [aI v] m2 Q) : S_L_law sc d 455 [aR (-7), aR 0, aR 62, aI l3] [aI s4, aI s3, aI s2, aI s1, aR 0] m Q := x_callV (as := [aI s1, aI s2, aI s3, aI s4]) (rest := []) hM mk_X7_row mv_X7_row lk_L_51 (Or.inl ⟨7, (RX7, TX7, 14), ic_0, Nat.le_of_ble_eq_true rfl, rfl, rfl⟩) hd rfl rfl (Nat.le_of_ble_eq_true rfl) dL_law_455 rfl k
theorem c_L_law_479 {sc : List Int} {d d2 : Nat} {m m2 : Mem} {Q : Option AV → Mem → Prop} {l3 s0 s2 s3 s4 s5 : Int} {v : Int} (hM : C_X8_row sc d2 [aR 62, aI s2, aI s3, aI s4, aI s5] m (some (aI v)) m2) (hd : d2 + 1 ≤ d) (k : S_L_law sc d 482 [aR (-7), aR 0, aR 62, aI l3] [aI v, aI s0] m2 Q) : S_L_law sc d 479 [aR (-7), aR 0, aR 62, aI l3] [aI s5, aI s4, aI s3, aI s2, aR 62, aI s0] m Q := x_callV (as := [aI s2, aI s3, aI s4, aI s5]) (rest := [aI s0]) hM mk_X8_row mv_X8_row lk_L_55 (Or.inl ⟨8, (RX8, TX8, 123), ic_62, Nat.le_of_ble_eq_true rfl, rfl, rfl⟩) hd rfl rfl (Nat.le_of_ble_eq_true rfl) dL_law_479 rfl k
theorem c_L_law_503 {sc : List Int} {d d2 : Nat} {m m2 : Mem} {Q : Option AV → Mem → Prop} {l3 s1 s2 s3 : Int} {v : Int} (hM : C_X7_judge sc d2 [aR 0, aI s1, aI s2, aI s3] m (some (aI v)) m2) (hd : d2 + 1 ≤ d) (k : S_L_law sc d 506 [aR (-7), aR 0, aR 62, aI l3] [aI v] m2 Q) : S_L_law sc d 503 [aR (-7), aR 0, aR 62, aI l3] [aI s3, aI s2, aI s1, aR 0] m Q := x_callV (as := [aI s1, aI s2, aI s3]) (rest := []) hM mk_X7_judge mv_X7_judge lk_L_56 (Or.inl ⟨7, (RX7, TX7, 14), ic_0, Nat.le_of_ble_eq_true rfl, rfl, rfl⟩) hd rfl rfl (Nat.le_of_ble_eq_true rfl) dL_law_503 rfl k
theorem c_L_law_522 {sc : List Int} {d d2 : Nat} {m m2 : Mem} {Q : Option AV → Mem → Prop} {l3 s0 s2 s3 s4 : Int} {v : Int} (hM : C_X8_judge sc d2 [aR 62, aI s2, aI s3, aI s4] m (some (aI v)) m2) (hd : d2 + 1 ≤ d) (k : S_L_law sc d 525 [aR (-7), aR 0, aR 62, aI l3] [aI v, aI s0] m2 Q) : S_L_law sc d 522 [aR (-7), aR 0, aR 62, aI l3] [aI s4, aI s3, aI s2, aR 62, aI s0] m Q := x_callV (as := [aI s2, aI s3, aI s4]) (rest := [aI s0]) hM mk_X8_judge mv_X8_judge lk_L_59 (Or.inl ⟨8, (RX8, TX8, 123), ic_62, Nat.le_of_ble_eq_true rfl, rfl, rfl⟩) hd rfl rfl (Nat.le_of_ble_eq_true rfl) dL_law_522 rfl k
theorem c_L_law_536 {sc : List Int} {d d2 : Nat} {m m2 : Mem} {Q : Option AV → Mem → Prop} {l3 s1 : Int} {v : Int} (hM : C_X7_mean sc d2 [aR 0, aI s1] m (some (aI v)) m2) (hd : d2 + 1 ≤ d) (k : S_L_law sc d 539 [aR (-7), aR 0, aR 62, aI l3] [aI v] m2 Q) : S_L_law sc d 536 [aR (-7), aR 0, aR 62, aI l3] [aI s1, aR 0] m Q := x_callV (as := [aI s1]) (rest := []) hM mk_X7_mean mv_X7_mean lk_L_60 (Or.inl ⟨7, (RX7, TX7, 14), ic_0, Nat.le_of_ble_eq_true rfl, rfl, rfl⟩) hd rfl rfl (Nat.le_of_ble_eq_true rfl) dL_law_536 rfl k
theorem c_L_law_545 {sc : List Int} {d d2 : Nat} {m m2 : Mem} {Q : Option AV → Mem → Prop} {l3 s0 s2 : Int} {v : Int} (hM : C_X8_mean sc d2 [aR 62, aI s2] m (some (aI v)) m2) (hd : d2 + 1 ≤ d) (k : S_L_law sc d 548 [aR (-7), aR 0, aR 62, aI l3] [aI v, aI s0] m2 Q) : S_L_law sc d 545 [aR (-7), aR 0, aR 62, aI l3] [aI s2, aR 62, aI s0] m Q := x_callV (as := [aI s2]) (rest := [aI s0]) hM mk_X8_mean mv_X8_mean lk_L_63 (Or.inl ⟨8, (RX8, TX8, 123), ic_62, Nat.le_of_ble_eq_true rfl, rfl, rfl⟩) hd rfl rfl (Nat.le_of_ble_eq_true rfl) dL_law_545 rfl k
theorem c_L_law_564 {sc : List Int} {d d2 : Nat} {m m2 : Mem} {Q : Option AV → Mem → Prop} {l3 s1 s2 : Int} {v : Int} (hM : C_X7_when sc d2 [aR 0, aI s1, aI s2] m (some (aI v)) m2) (hd : d2 + 1 ≤ d) (k : S_L_law sc d 567 [aR (-7), aR 0, aR 62, aI l3] [aI v] m2 Q) : S_L_law sc d 564 [aR (-7), aR 0, aR 62, aI l3] [aI s2, aI s1, aR 0] m Q := x_callV (as := [aI s1, aI s2]) (rest := []) hM mk_X7_when mv_X7_when lk_L_64 (Or.inl ⟨7, (RX7, TX7, 14), ic_0, Nat.le_of_ble_eq_true rfl, rfl, rfl⟩) hd rfl rfl (Nat.le_of_ble_eq_true rfl) dL_law_564 rfl k
theorem c_L_law_578 {sc : List Int} {d d2 : Nat} {m m2 : Mem} {Q : Option AV → Mem → Prop} {l3 s0 s2 s3 : Int} {v : Int} (hM : C_X8_when sc d2 [aR 62, aI s2, aI s3] m (some (aI v)) m2) (hd : d2 + 1 ≤ d) (k : S_L_law sc d 581 [aR (-7), aR 0, aR 62, aI l3] [aI v, aI s0] m2 Q) : S_L_law sc d 578 [aR (-7), aR 0, aR 62, aI l3] [aI s3, aI s2, aR 62, aI s0] m Q := x_callV (as := [aI s2, aI s3]) (rest := [aI s0]) hM mk_X8_when mv_X8_when lk_L_67 (Or.inl ⟨8, (RX8, TX8, 123), ic_62, Nat.le_of_ble_eq_true rfl, rfl, rfl⟩) hd rfl rfl (Nat.le_of_ble_eq_true rfl) dL_law_578 rfl k
theorem c_L_law_592 {sc : List Int} {d d2 : Nat} {m m2 : Mem} {Q : Option AV → Mem → Prop} {l3 s1 : Int} {v : Int} (hM : C_X7_looks sc d2 [aR 0, aI s1] m (some (aI v)) m2) (hd : d2 + 1 ≤ d) (k : S_L_law sc d 595 [aR (-7), aR 0, aR 62, aI l3] [aI v] m2 Q) : S_L_law sc d 592 [aR (-7), aR 0, aR 62, aI l3] [aI s1, aR 0] m Q := x_callV (as := [aI s1]) (rest := []) hM mk_X7_looks mv_X7_looks lk_L_68 (Or.inl ⟨7, (RX7, TX7, 14), ic_0, Nat.le_of_ble_eq_true rfl, rfl, rfl⟩) hd rfl rfl (Nat.le_of_ble_eq_true rfl) dL_law_592 rfl k
theorem c_L_law_601 {sc : List Int} {d d2 : Nat} {m m2 : Mem} {Q : Option AV → Mem → Prop} {l3 s0 s2 : Int} {v : Int} (hM : C_X8_looks sc d2 [aR 62, aI s2] m (some (aI v)) m2) (hd : d2 + 1 ≤ d) (k : S_L_law sc d 604 [aR (-7), aR 0, aR 62, aI l3] [aI v, aI s0] m2 Q) : S_L_law sc d 601 [aR (-7), aR 0, aR 62, aI l3] [aI s2, aR 62, aI s0] m Q := x_callV (as := [aI s2]) (rest := [aI s0]) hM mk_X8_looks mv_X8_looks lk_L_71 (Or.inl ⟨8, (RX8, TX8, 123), ic_62, Nat.le_of_ble_eq_true rfl, rfl, rfl⟩) hd rfl rfl (Nat.le_of_ble_eq_true rfl) dL_law_601 rfl k
theorem c_L_law_610 {sc : List Int} {d d2 : Nat} {m m2 : Mem} {Q : Option AV → Mem → Prop} {l3 : Int} {v : Int} (hM : C_X7_rule sc d2 [aR 0] m (some (aI v)) m2) (hd : d2 + 1 ≤ d) (k : S_L_law sc d 613 [aR (-7), aR 0, aR 62, aI l3] [aI v] m2 Q) : S_L_law sc d 610 [aR (-7), aR 0, aR 62, aI l3] [aR 0] m Q := x_callV (as := []) (rest := []) hM mk_X7_rule mv_X7_rule lk_L_72 (Or.inl ⟨7, (RX7, TX7, 14), ic_0, Nat.le_of_ble_eq_true rfl, rfl, rfl⟩) hd rfl rfl (Nat.le_of_ble_eq_true rfl) dL_law_610 rfl k
theorem c_L_law_614 {sc : List Int} {d d2 : Nat} {m m2 : Mem} {Q : Option AV → Mem → Prop} {l3 s0 : Int} {v : Int} (hM : C_X8_rule sc d2 [aR 62] m (some (aI v)) m2) (hd : d2 + 1 ≤ d) (k : S_L_law sc d 617 [aR (-7), aR 0, aR 62, aI l3] [aI v, aI s0] m2 Q) : S_L_law sc d 614 [aR (-7), aR 0, aR 62, aI l3] [aR 62, aI s0] m Q := x_callV (as := []) (rest := [aI s0]) hM mk_X8_rule mv_X8_rule lk_L_75 (Or.inl ⟨8, (RX8, TX8, 123), ic_62, Nat.le_of_ble_eq_true rfl, rfl, rfl⟩) hd rfl rfl (Nat.le_of_ble_eq_true rfl) dL_law_614 rfl k
theorem c_L_law_633 {sc : List Int} {d d2 : Nat} {m m2 : Mem} {Q : Option AV → Mem → Prop} {l3 s1 s2 : Int} {v : Int} (hM : C_X7_fewest sc d2 [aR 0, aI s1, aI s2] m (some (aI v)) m2) (hd : d2 + 1 ≤ d) (k : S_L_law sc d 636 [aR (-7), aR 0, aR 62, aI l3] [aI v] m2 Q) : S_L_law sc d 633 [aR (-7), aR 0, aR 62, aI l3] [aI s2, aI s1, aR 0] m Q := x_callV (as := [aI s1, aI s2]) (rest := []) hM mk_X7_fewest mv_X7_fewest lk_L_76 (Or.inl ⟨7, (RX7, TX7, 14), ic_0, Nat.le_of_ble_eq_true rfl, rfl, rfl⟩) hd rfl rfl (Nat.le_of_ble_eq_true rfl) dL_law_633 rfl k
theorem c_L_law_647 {sc : List Int} {d d2 : Nat} {m m2 : Mem} {Q : Option AV → Mem → Prop} {l3 s0 s2 s3 : Int} {v : Int} (hM : C_X8_fewest sc d2 [aR 62, aI s2, aI s3] m (some (aI v)) m2) (hd : d2 + 1 ≤ d) (k : S_L_law sc d 650 [aR (-7), aR 0, aR 62, aI l3] [aI v, aI s0] m2 Q) : S_L_law sc d 647 [aR (-7), aR 0, aR 62, aI l3] [aI s3, aI s2, aR 62, aI s0] m Q := x_callV (as := [aI s2, aI s3]) (rest := [aI s0]) hM mk_X8_fewest mv_X8_fewest lk_L_79 (Or.inl ⟨8, (RX8, TX8, 123), ic_62, Nat.le_of_ble_eq_true rfl, rfl, rfl⟩) hd rfl rfl (Nat.le_of_ble_eq_true rfl) dL_law_647 rfl k
theorem c_L_law_666 {sc : List Int} {d d2 : Nat} {m m2 : Mem} {Q : Option AV → Mem → Prop} {l3 s1 s2 : Int} {v : Int} (hM : C_X7_free sc d2 [aR 0, aI s1, aI s2] m (some (aI v)) m2) (hd : d2 + 1 ≤ d) (k : S_L_law sc d 669 [aR (-7), aR 0, aR 62, aI l3] [aI v] m2 Q) : S_L_law sc d 666 [aR (-7), aR 0, aR 62, aI l3] [aI s2, aI s1, aR 0] m Q := x_callV (as := [aI s1, aI s2]) (rest := []) hM mk_X7_free mv_X7_free lk_L_80 (Or.inl ⟨7, (RX7, TX7, 14), ic_0, Nat.le_of_ble_eq_true rfl, rfl, rfl⟩) hd rfl rfl (Nat.le_of_ble_eq_true rfl) dL_law_666 rfl k
theorem c_L_law_680 {sc : List Int} {d d2 : Nat} {m m2 : Mem} {Q : Option AV → Mem → Prop} {l3 s0 s2 s3 : Int} {v : Int} (hM : C_X8_free sc d2 [aR 62, aI s2, aI s3] m (some (aI v)) m2) (hd : d2 + 1 ≤ d) (k : S_L_law sc d 683 [aR (-7), aR 0, aR 62, aI l3] [aI v, aI s0] m2 Q) : S_L_law sc d 680 [aR (-7), aR 0, aR 62, aI l3] [aI s3, aI s2, aR 62, aI s0] m Q := x_callV (as := [aI s2, aI s3]) (rest := [aI s0]) hM mk_X8_free mv_X8_free lk_L_83 (Or.inl ⟨8, (RX8, TX8, 123), ic_62, Nat.le_of_ble_eq_true rfl, rfl, rfl⟩) hd rfl rfl (Nat.le_of_ble_eq_true rfl) dL_law_680 rfl k
theorem c_L_law_699 {sc : List Int} {d d2 : Nat} {m m2 : Mem} {Q : Option AV → Mem → Prop} {l3 s1 s2 : Int} {v : Int} (hM : C_X7_hidden sc d2 [aR 0, aI s1, aI s2] m (some (aI v)) m2) (hd : d2 + 1 ≤ d) (k : S_L_law sc d 702 [aR (-7), aR 0, aR 62, aI l3] [aI v] m2 Q) : S_L_law sc d 699 [aR (-7), aR 0, aR 62, aI l3] [aI s2, aI s1, aR 0] m Q := x_callV (as := [aI s1, aI s2]) (rest := []) hM mk_X7_hidden mv_X7_hidden lk_L_84 (Or.inl ⟨7, (RX7, TX7, 14), ic_0, Nat.le_of_ble_eq_true rfl, rfl, rfl⟩) hd rfl rfl (Nat.le_of_ble_eq_true rfl) dL_law_699 rfl k
theorem c_L_law_713 {sc : List Int} {d d2 : Nat} {m m2 : Mem} {Q : Option AV → Mem → Prop} {l3 s0 s2 s3 : Int} {v : Int} (hM : C_X8_hidden sc d2 [aR 62, aI s2, aI s3] m (some (aI v)) m2) (hd : d2 + 1 ≤ d) (k : S_L_law sc d 716 [aR (-7), aR 0, aR 62, aI l3] [aI v, aI s0] m2 Q) : S_L_law sc d 713 [aR (-7), aR 0, aR 62, aI l3] [aI s3, aI s2, aR 62, aI s0] m Q := x_callV (as := [aI s2, aI s3]) (rest := [aI s0]) hM mk_X8_hidden mv_X8_hidden lk_L_87 (Or.inl ⟨8, (RX8, TX8, 123), ic_62, Nat.le_of_ble_eq_true rfl, rfl, rfl⟩) hd rfl rfl (Nat.le_of_ble_eq_true rfl) dL_law_713 rfl k
theorem c_L_law_732 {sc : List Int} {d d2 : Nat} {m m2 : Mem} {Q : Option AV → Mem → Prop} {l3 s1 s2 : Int} {v : Int} (hM : C_X7_several sc d2 [aR 0, aI s1, aI s2] m (some (aI v)) m2) (hd : d2 + 1 ≤ d) (k : S_L_law sc d 735 [aR (-7), aR 0, aR 62, aI l3] [aI v] m2 Q) : S_L_law sc d 732 [aR (-7), aR 0, aR 62, aI l3] [aI s2, aI s1, aR 0] m Q := x_callV (as := [aI s1, aI s2]) (rest := []) hM mk_X7_several mv_X7_several lk_L_88 (Or.inl ⟨7, (RX7, TX7, 14), ic_0, Nat.le_of_ble_eq_true rfl, rfl, rfl⟩) hd rfl rfl (Nat.le_of_ble_eq_true rfl) dL_law_732 rfl k
theorem c_L_law_746 {sc : List Int} {d d2 : Nat} {m m2 : Mem} {Q : Option AV → Mem → Prop} {l3 s0 s2 s3 : Int} {v : Int} (hM : C_X8_several sc d2 [aR 62, aI s2, aI s3] m (some (aI v)) m2) (hd : d2 + 1 ≤ d) (k : S_L_law sc d 749 [aR (-7), aR 0, aR 62, aI l3] [aI v, aI s0] m2 Q) : S_L_law sc d 746 [aR (-7), aR 0, aR 62, aI l3] [aI s3, aI s2, aR 62, aI s0] m Q := x_callV (as := [aI s2, aI s3]) (rest := [aI s0]) hM mk_X8_several mv_X8_several lk_L_91 (Or.inl ⟨8, (RX8, TX8, 123), ic_62, Nat.le_of_ble_eq_true rfl, rfl, rfl⟩) hd rfl rfl (Nat.le_of_ble_eq_true rfl) dL_law_746 rfl k
theorem c_L_law_760 {sc : List Int} {d d2 : Nat} {m m2 : Mem} {Q : Option AV → Mem → Prop} {l3 s1 : Int} {v : Int} (hM : C_X7_wound sc d2 [aR 0, aI s1] m (some (aI v)) m2) (hd : d2 + 1 ≤ d) (k : S_L_law sc d 763 [aR (-7), aR 0, aR 62, aI l3] [aI v] m2 Q) : S_L_law sc d 760 [aR (-7), aR 0, aR 62, aI l3] [aI s1, aR 0] m Q := x_callV (as := [aI s1]) (rest := []) hM mk_X7_wound mv_X7_wound lk_L_92 (Or.inl ⟨7, (RX7, TX7, 14), ic_0, Nat.le_of_ble_eq_true rfl, rfl, rfl⟩) hd rfl rfl (Nat.le_of_ble_eq_true rfl) dL_law_760 rfl k
theorem c_L_law_769 {sc : List Int} {d d2 : Nat} {m m2 : Mem} {Q : Option AV → Mem → Prop} {l3 s0 s2 : Int} {v : Int} (hM : C_X8_wound sc d2 [aR 62, aI s2] m (some (aI v)) m2) (hd : d2 + 1 ≤ d) (k : S_L_law sc d 772 [aR (-7), aR 0, aR 62, aI l3] [aI v, aI s0] m2 Q) : S_L_law sc d 769 [aR (-7), aR 0, aR 62, aI l3] [aI s2, aR 62, aI s0] m Q := x_callV (as := [aI s2]) (rest := [aI s0]) hM mk_X8_wound mv_X8_wound lk_L_95 (Or.inl ⟨8, (RX8, TX8, 123), ic_62, Nat.le_of_ble_eq_true rfl, rfl, rfl⟩) hd rfl rfl (Nat.le_of_ble_eq_true rfl) dL_law_769 rfl k
theorem c_L_law_783 {sc : List Int} {d d2 : Nat} {m m2 : Mem} {Q : Option AV → Mem → Prop} {l3 s1 : Int} {v : Int} (hM : C_X7_day sc d2 [aR 0, aI s1] m (some (aI v)) m2) (hd : d2 + 1 ≤ d) (k : S_L_law sc d 786 [aR (-7), aR 0, aR 62, aI l3] [aI v] m2 Q) : S_L_law sc d 783 [aR (-7), aR 0, aR 62, aI l3] [aI s1, aR 0] m Q := x_callV (as := [aI s1]) (rest := []) hM mk_X7_day mv_X7_day lk_L_96 (Or.inl ⟨7, (RX7, TX7, 14), ic_0, Nat.le_of_ble_eq_true rfl, rfl, rfl⟩) hd rfl rfl (Nat.le_of_ble_eq_true rfl) dL_law_783 rfl k
theorem c_L_law_792 {sc : List Int} {d d2 : Nat} {m m2 : Mem} {Q : Option AV → Mem → Prop} {l3 s0 s2 : Int} {v : Int} (hM : C_X8_day sc d2 [aR 62, aI s2] m (some (aI v)) m2) (hd : d2 + 1 ≤ d) (k : S_L_law sc d 795 [aR (-7), aR 0, aR 62, aI l3] [aI v, aI s0] m2 Q) : S_L_law sc d 792 [aR (-7), aR 0, aR 62, aI l3] [aI s2, aR 62, aI s0] m Q := x_callV (as := [aI s2]) (rest := [aI s0]) hM mk_X8_day mv_X8_day lk_L_99 (Or.inl ⟨8, (RX8, TX8, 123), ic_62, Nat.le_of_ble_eq_true rfl, rfl, rfl⟩) hd rfl rfl (Nat.le_of_ble_eq_true rfl) dL_law_792 rfl k
theorem c_L_law_814 {sc : List Int} {d d2 : Nat} {m m2 : Mem} {Q : Option AV → Mem → Prop} {l3 s1 : Int} {v : Int} (hM : C_X7_sew sc d2 [aR 0, aI s1] m (some (aI v)) m2) (hd : d2 + 1 ≤ d) (k : S_L_law sc d 817 [aR (-7), aR 0, aR 62, aI l3] [aI v] m2 Q) : S_L_law sc d 814 [aR (-7), aR 0, aR 62, aI l3] [aI s1, aR 0] m Q := x_callV (as := [aI s1]) (rest := []) hM mk_X7_sew mv_X7_sew lk_L_100 (Or.inl ⟨7, (RX7, TX7, 14), ic_0, Nat.le_of_ble_eq_true rfl, rfl, rfl⟩) hd rfl rfl (Nat.le_of_ble_eq_true rfl) dL_law_814 rfl k
theorem c_L_law_831 {sc : List Int} {d d2 : Nat} {m m2 : Mem} {Q : Option AV → Mem → Prop} {l3 s0 s2 : Int} {v : Int} (hM : C_X8_sew sc d2 [aR 62, aI s2] m (some (aI v)) m2) (hd : d2 + 1 ≤ d) (k : S_L_law sc d 834 [aR (-7), aR 0, aR 62, aI l3] [aI v, aI s0] m2 Q) : S_L_law sc d 831 [aR (-7), aR 0, aR 62, aI l3] [aI s2, aR 62, aI s0] m Q := x_callV (as := [aI s2]) (rest := [aI s0]) hM mk_X8_sew mv_X8_sew lk_L_104 (Or.inl ⟨8, (RX8, TX8, 123), ic_62, Nat.le_of_ble_eq_true rfl, rfl, rfl⟩) hd rfl rfl (Nat.le_of_ble_eq_true rfl) dL_law_831 rfl k
theorem c_L_law_840 {sc : List Int} {d d2 : Nat} {m m2 : Mem} {Q : Option AV → Mem → Prop} {l3 : Int} {v : Int} (hM : C_X7_glance sc d2 [aR 0] m (some (aI v)) m2) (hd : d2 + 1 ≤ d) (k : S_L_law sc d 843 [aR (-7), aR 0, aR 62, aI l3] [aI v] m2 Q) : S_L_law sc d 840 [aR (-7), aR 0, aR 62, aI l3] [aR 0] m Q := x_callV (as := []) (rest := []) hM mk_X7_glance mv_X7_glance lk_L_105 (Or.inl ⟨7, (RX7, TX7, 14), ic_0, Nat.le_of_ble_eq_true rfl, rfl, rfl⟩) hd rfl rfl (Nat.le_of_ble_eq_true rfl) dL_law_840 rfl k
theorem c_L_law_844 {sc : List Int} {d d2 : Nat} {m m2 : Mem} {Q : Option AV → Mem → Prop} {l3 s0 : Int} {v : Int} (hM : C_X8_glance sc d2 [aR 62] m (some (aI v)) m2) (hd : d2 + 1 ≤ d) (k : S_L_law sc d 847 [aR (-7), aR 0, aR 62, aI l3] [aI v, aI s0] m2 Q) : S_L_law sc d 844 [aR (-7), aR 0, aR 62, aI l3] [aR 62, aI s0] m Q := x_callV (as := []) (rest := [aI s0]) hM mk_X8_glance mv_X8_glance lk_L_108 (Or.inl ⟨8, (RX8, TX8, 123), ic_62, Nat.le_of_ble_eq_true rfl, rfl, rfl⟩) hd rfl rfl (Nat.le_of_ble_eq_true rfl) dL_law_844 rfl k
theorem c_L_law_858 {sc : List Int} {d d2 : Nat} {m m2 : Mem} {Q : Option AV → Mem → Prop} {l3 s1 : Int} {v : Int} (hM : C_X7_sews sc d2 [aR 0, aI s1] m (some (aI v)) m2) (hd : d2 + 1 ≤ d) (k : S_L_law sc d 861 [aR (-7), aR 0, aR 62, aI l3] [aI v] m2 Q) : S_L_law sc d 858 [aR (-7), aR 0, aR 62, aI l3] [aI s1, aR 0] m Q := x_callV (as := [aI s1]) (rest := []) hM mk_X7_sews mv_X7_sews lk_L_109 (Or.inl ⟨7, (RX7, TX7, 14), ic_0, Nat.le_of_ble_eq_true rfl, rfl, rfl⟩) hd rfl rfl (Nat.le_of_ble_eq_true rfl) dL_law_858 rfl k
theorem c_L_law_867 {sc : List Int} {d d2 : Nat} {m m2 : Mem} {Q : Option AV → Mem → Prop} {l3 s0 s2 : Int} {v : Int} (hM : C_X8_sews sc d2 [aR 62, aI s2] m (some (aI v)) m2) (hd : d2 + 1 ≤ d) (k : S_L_law sc d 870 [aR (-7), aR 0, aR 62, aI l3] [aI v, aI s0] m2 Q) : S_L_law sc d 867 [aR (-7), aR 0, aR 62, aI l3] [aI s2, aR 62, aI s0] m Q := x_callV (as := [aI s2]) (rest := [aI s0]) hM mk_X8_sews mv_X8_sews lk_L_112 (Or.inl ⟨8, (RX8, TX8, 123), ic_62, Nat.le_of_ble_eq_true rfl, rfl, rfl⟩) hd rfl rfl (Nat.le_of_ble_eq_true rfl) dL_law_867 rfl k
theorem c_L_law_876 {sc : List Int} {d d2 : Nat} {m m2 : Mem} {Q : Option AV → Mem → Prop} {l3 : Int} {v : Int} (hM : C_X7_anew sc d2 [aR 0] m (some (aI v)) m2) (hd : d2 + 1 ≤ d) (k : S_L_law sc d 879 [aR (-7), aR 0, aR 62, aI l3] [aI v] m2 Q) : S_L_law sc d 876 [aR (-7), aR 0, aR 62, aI l3] [aR 0] m Q := x_callV (as := []) (rest := []) hM mk_X7_anew mv_X7_anew lk_L_113 (Or.inl ⟨7, (RX7, TX7, 14), ic_0, Nat.le_of_ble_eq_true rfl, rfl, rfl⟩) hd rfl rfl (Nat.le_of_ble_eq_true rfl) dL_law_876 rfl k
theorem c_L_law_880 {sc : List Int} {d d2 : Nat} {m m2 : Mem} {Q : Option AV → Mem → Prop} {l3 s0 : Int} {v : Int} (hM : C_X8_anew sc d2 [aR 62] m (some (aI v)) m2) (hd : d2 + 1 ≤ d) (k : S_L_law sc d 883 [aR (-7), aR 0, aR 62, aI l3] [aI v, aI s0] m2 Q) : S_L_law sc d 880 [aR (-7), aR 0, aR 62, aI l3] [aR 62, aI s0] m Q := x_callV (as := []) (rest := [aI s0]) hM mk_X8_anew mv_X8_anew lk_L_116 (Or.inl ⟨8, (RX8, TX8, 123), ic_62, Nat.le_of_ble_eq_true rfl, rfl, rfl⟩) hd rfl rfl (Nat.le_of_ble_eq_true rfl) dL_law_880 rfl k
theorem c_L_law_889 {sc : List Int} {d d2 : Nat} {m m2 : Mem} {Q : Option AV → Mem → Prop} {l3 : Int} {v : Int} (hM : C_X7_undo sc d2 [aR 0] m (some (aI v)) m2) (hd : d2 + 1 ≤ d) (k : S_L_law sc d 892 [aR (-7), aR 0, aR 62, aI l3] [aI v] m2 Q) : S_L_law sc d 889 [aR (-7), aR 0, aR 62, aI l3] [aR 0] m Q := x_callV (as := []) (rest := []) hM mk_X7_undo mv_X7_undo lk_L_117 (Or.inl ⟨7, (RX7, TX7, 14), ic_0, Nat.le_of_ble_eq_true rfl, rfl, rfl⟩) hd rfl rfl (Nat.le_of_ble_eq_true rfl) dL_law_889 rfl k
theorem c_L_law_893 {sc : List Int} {d d2 : Nat} {m m2 : Mem} {Q : Option AV → Mem → Prop} {l3 s0 : Int} {v : Int} (hM : C_X8_undo sc d2 [aR 62] m (some (aI v)) m2) (hd : d2 + 1 ≤ d) (k : S_L_law sc d 896 [aR (-7), aR 0, aR 62, aI l3] [aI v, aI s0] m2 Q) : S_L_law sc d 893 [aR (-7), aR 0, aR 62, aI l3] [aR 62, aI s0] m Q := x_callV (as := []) (rest := [aI s0]) hM mk_X8_undo mv_X8_undo lk_L_121 (Or.inl ⟨8, (RX8, TX8, 123), ic_62, Nat.le_of_ble_eq_true rfl, rfl, rfl⟩) hd rfl rfl (Nat.le_of_ble_eq_true rfl) dL_law_893 rfl k
theorem c_L_law_907 {sc : List Int} {d d2 : Nat} {m m2 : Mem} {Q : Option AV → Mem → Prop} {l3 s1 : Int} {v : Int} (hM : C_X7_seed sc d2 [aR 0, aI s1] m (some (aI v)) m2) (hd : d2 + 1 ≤ d) (k : S_L_law sc d 910 [aR (-7), aR 0, aR 62, aI l3] [aI v] m2 Q) : S_L_law sc d 907 [aR (-7), aR 0, aR 62, aI l3] [aI s1, aR 0] m Q := x_callV (as := [aI s1]) (rest := []) hM mk_X7_seed mv_X7_seed lk_L_122 (Or.inl ⟨7, (RX7, TX7, 14), ic_0, Nat.le_of_ble_eq_true rfl, rfl, rfl⟩) hd rfl rfl (Nat.le_of_ble_eq_true rfl) dL_law_907 rfl k
theorem c_L_law_916 {sc : List Int} {d d2 : Nat} {m m2 : Mem} {Q : Option AV → Mem → Prop} {l3 s0 s2 : Int} {v : Int} (hM : C_X8_seed sc d2 [aR 62, aI s2] m (some (aI v)) m2) (hd : d2 + 1 ≤ d) (k : S_L_law sc d 919 [aR (-7), aR 0, aR 62, aI l3] [aI v, aI s0] m2 Q) : S_L_law sc d 916 [aR (-7), aR 0, aR 62, aI l3] [aI s2, aR 62, aI s0] m Q := x_callV (as := [aI s2]) (rest := [aI s0]) hM mk_X8_seed mv_X8_seed lk_L_125 (Or.inl ⟨8, (RX8, TX8, 123), ic_62, Nat.le_of_ble_eq_true rfl, rfl, rfl⟩) hd rfl rfl (Nat.le_of_ble_eq_true rfl) dL_law_916 rfl k
theorem c_L_law_925 {sc : List Int} {d d2 : Nat} {m m2 : Mem} {Q : Option AV → Mem → Prop} {l3 : Int} {v : Int} (hM : C_X7_see sc d2 [aR 0] m (some (aI v)) m2) (hd : d2 + 1 ≤ d) (k : S_L_law sc d 928 [aR (-7), aR 0, aR 62, aI l3] [aI v] m2 Q) : S_L_law sc d 925 [aR (-7), aR 0, aR 62, aI l3] [aR 0] m Q := x_callV (as := []) (rest := []) hM mk_X7_see mv_X7_see lk_L_126 (Or.inl ⟨7, (RX7, TX7, 14), ic_0, Nat.le_of_ble_eq_true rfl, rfl, rfl⟩) hd rfl rfl (Nat.le_of_ble_eq_true rfl) dL_law_925 rfl k
theorem c_L_law_929 {sc : List Int} {d d2 : Nat} {m m2 : Mem} {Q : Option AV → Mem → Prop} {l3 s0 : Int} {v : Int} (hM : C_X8_see sc d2 [aR 62] m (some (aI v)) m2) (hd : d2 + 1 ≤ d) (k : S_L_law sc d 932 [aR (-7), aR 0, aR 62, aI l3] [aI v, aI s0] m2 Q) : S_L_law sc d 929 [aR (-7), aR 0, aR 62, aI l3] [aR 62, aI s0] m Q := x_callV (as := []) (rest := [aI s0]) hM mk_X8_see mv_X8_see lk_L_129 (Or.inl ⟨8, (RX8, TX8, 123), ic_62, Nat.le_of_ble_eq_true rfl, rfl, rfl⟩) hd rfl rfl (Nat.le_of_ble_eq_true rfl) dL_law_929 rfl k
theorem c_L_law_943 {sc : List Int} {d d2 : Nat} {m m2 : Mem} {Q : Option AV → Mem → Prop} {l3 s1 : Int} {v : Int} (hM : C_X7_fits sc d2 [aR 0, aI s1] m (some (aI v)) m2) (hd : d2 + 1 ≤ d) (k : S_L_law sc d 946 [aR (-7), aR 0, aR 62, aI l3] [aI v] m2 Q) : S_L_law sc d 943 [aR (-7), aR 0, aR 62, aI l3] [aI s1, aR 0] m Q := x_callV (as := [aI s1]) (rest := []) hM mk_X7_fits mv_X7_fits lk_L_130 (Or.inl ⟨7, (RX7, TX7, 14), ic_0, Nat.le_of_ble_eq_true rfl, rfl, rfl⟩) hd rfl rfl (Nat.le_of_ble_eq_true rfl) dL_law_943 rfl k
theorem c_L_law_952 {sc : List Int} {d d2 : Nat} {m m2 : Mem} {Q : Option AV → Mem → Prop} {l3 s0 s2 : Int} {v : Int} (hM : C_X8_fits sc d2 [aR 62, aI s2] m (some (aI v)) m2) (hd : d2 + 1 ≤ d) (k : S_L_law sc d 955 [aR (-7), aR 0, aR 62, aI l3] [aI v, aI s0] m2 Q) : S_L_law sc d 952 [aR (-7), aR 0, aR 62, aI l3] [aI s2, aR 62, aI s0] m Q := x_callV (as := [aI s2]) (rest := [aI s0]) hM mk_X8_fits mv_X8_fits lk_L_133 (Or.inl ⟨8, (RX8, TX8, 123), ic_62, Nat.le_of_ble_eq_true rfl, rfl, rfl⟩) hd rfl rfl (Nat.le_of_ble_eq_true rfl) dL_law_952 rfl k
theorem c_L_law_971 {sc : List Int} {d d2 : Nat} {m m2 : Mem} {Q : Option AV → Mem → Prop} {l3 s1 s2 : Int} {v : Int} (hM : C_X7_ask sc d2 [aR 0, aI s1, aI s2] m (some (aJ v)) m2) (hd : d2 + 1 ≤ d) (k : S_L_law sc d 974 [aR (-7), aR 0, aR 62, aI l3] [aJ v] m2 Q) : S_L_law sc d 971 [aR (-7), aR 0, aR 62, aI l3] [aI s2, aI s1, aR 0] m Q := x_callV (as := [aI s1, aI s2]) (rest := []) hM mk_X7_ask mv_X7_ask lk_L_134 (Or.inl ⟨7, (RX7, TX7, 14), ic_0, Nat.le_of_ble_eq_true rfl, rfl, rfl⟩) hd rfl rfl (Nat.le_of_ble_eq_true rfl) dL_law_971 rfl k
theorem c_L_law_985 {sc : List Int} {d d2 : Nat} {m m2 : Mem} {Q : Option AV → Mem → Prop} {l3 s0 s2 s3 : Int} {v : Int} (hM : C_X8_ask sc d2 [aR 62, aI s2, aI s3] m (some (aJ v)) m2) (hd : d2 + 1 ≤ d) (k : S_L_law sc d 988 [aR (-7), aR 0, aR 62, aI l3] [aJ v, aJ s0] m2 Q) : S_L_law sc d 985 [aR (-7), aR 0, aR 62, aI l3] [aI s3, aI s2, aR 62, aJ s0] m Q := x_callV (as := [aI s2, aI s3]) (rest := [aJ s0]) hM mk_X8_ask mv_X8_ask lk_L_138 (Or.inl ⟨8, (RX8, TX8, 123), ic_62, Nat.le_of_ble_eq_true rfl, rfl, rfl⟩) hd rfl rfl (Nat.le_of_ble_eq_true rfl) dL_law_985 rfl k
theorem c_L_law_995 {sc : List Int} {d d2 : Nat} {m m2 : Mem} {Q : Option AV → Mem → Prop} {l3 : Int} {v : Int} (hM : C_X7_image sc d2 [aR 0] m (some (aI v)) m2) (hd : d2 + 1 ≤ d) (k : S_L_law sc d 998 [aR (-7), aR 0, aR 62, aI l3] [aI v] m2 Q) : S_L_law sc d 995 [aR (-7), aR 0, aR 62, aI l3] [aR 0] m Q := x_callV (as := []) (rest := []) hM mk_X7_image mv_X7_image lk_L_139 (Or.inl ⟨7, (RX7, TX7, 14), ic_0, Nat.le_of_ble_eq_true rfl, rfl, rfl⟩) hd rfl rfl (Nat.le_of_ble_eq_true rfl) dL_law_995 rfl k
theorem c_L_law_999 {sc : List Int} {d d2 : Nat} {m m2 : Mem} {Q : Option AV → Mem → Prop} {l3 s0 : Int} {v : Int} (hM : C_X8_image sc d2 [aR 62] m (some (aI v)) m2) (hd : d2 + 1 ≤ d) (k : S_L_law sc d 1002 [aR (-7), aR 0, aR 62, aI l3] [aI v, aI s0] m2 Q) : S_L_law sc d 999 [aR (-7), aR 0, aR 62, aI l3] [aR 62, aI s0] m Q := x_callV (as := []) (rest := [aI s0]) hM mk_X8_image mv_X8_image lk_L_142 (Or.inl ⟨8, (RX8, TX8, 123), ic_62, Nat.le_of_ble_eq_true rfl, rfl, rfl⟩) hd rfl rfl (Nat.le_of_ble_eq_true rfl) dL_law_999 rfl k
theorem c_L_law_1013 {sc : List Int} {d d2 : Nat} {m m2 : Mem} {Q : Option AV → Mem → Prop} {l3 s1 : Int} {v : Int} (hM : C_X7_octet sc d2 [aR 0, aI s1] m (some (aI v)) m2) (hd : d2 + 1 ≤ d) (k : S_L_law sc d 1016 [aR (-7), aR 0, aR 62, aI l3] [aI v] m2 Q) : S_L_law sc d 1013 [aR (-7), aR 0, aR 62, aI l3] [aI s1, aR 0] m Q := x_callV (as := [aI s1]) (rest := []) hM mk_X7_octet mv_X7_octet lk_L_143 (Or.inl ⟨7, (RX7, TX7, 14), ic_0, Nat.le_of_ble_eq_true rfl, rfl, rfl⟩) hd rfl rfl (Nat.le_of_ble_eq_true rfl) dL_law_1013 rfl k
theorem c_L_law_1022 {sc : List Int} {d d2 : Nat} {m m2 : Mem} {Q : Option AV → Mem → Prop} {l3 s0 s2 : Int} {v : Int} (hM : C_X8_octet sc d2 [aR 62, aI s2] m (some (aI v)) m2) (hd : d2 + 1 ≤ d) (k : S_L_law sc d 1025 [aR (-7), aR 0, aR 62, aI l3] [aI v, aI s0] m2 Q) : S_L_law sc d 1022 [aR (-7), aR 0, aR 62, aI l3] [aI s2, aR 62, aI s0] m Q := x_callV (as := [aI s2]) (rest := [aI s0]) hM mk_X8_octet mv_X8_octet lk_L_146 (Or.inl ⟨8, (RX8, TX8, 123), ic_62, Nat.le_of_ble_eq_true rfl, rfl, rfl⟩) hd rfl rfl (Nat.le_of_ble_eq_true rfl) dL_law_1022 rfl k
theorem c_L_law_1031 {sc : List Int} {d d2 : Nat} {m m2 : Mem} {Q : Option AV → Mem → Prop} {l3 : Int} {v : Int} (hM : C_X7_on sc d2 [aR 0] m (some (aI v)) m2) (hd : d2 + 1 ≤ d) (k : S_L_law sc d 1034 [aR (-7), aR 0, aR 62, aI l3] [aI v] m2 Q) : S_L_law sc d 1031 [aR (-7), aR 0, aR 62, aI l3] [aR 0] m Q := x_callV (as := []) (rest := []) hM mk_X7_on mv_X7_on lk_L_147 (Or.inl ⟨7, (RX7, TX7, 14), ic_0, Nat.le_of_ble_eq_true rfl, rfl, rfl⟩) hd rfl rfl (Nat.le_of_ble_eq_true rfl) dL_law_1031 rfl k
theorem c_L_law_1035 {sc : List Int} {d d2 : Nat} {m m2 : Mem} {Q : Option AV → Mem → Prop} {l3 s0 : Int} {v : Int} (hM : C_X8_on sc d2 [aR 62] m (some (aI v)) m2) (hd : d2 + 1 ≤ d) (k : S_L_law sc d 1038 [aR (-7), aR 0, aR 62, aI l3] [aI v, aI s0] m2 Q) : S_L_law sc d 1035 [aR (-7), aR 0, aR 62, aI l3] [aR 62, aI s0] m Q := x_callV (as := []) (rest := [aI s0]) hM mk_X8_on mv_X8_on lk_L_150 (Or.inl ⟨8, (RX8, TX8, 123), ic_62, Nat.le_of_ble_eq_true rfl, rfl, rfl⟩) hd rfl rfl (Nat.le_of_ble_eq_true rfl) dL_law_1035 rfl k
theorem c_L_law_1049 {sc : List Int} {d d2 : Nat} {m m2 : Mem} {Q : Option AV → Mem → Prop} {l3 s1 : Int} {v : Int} (hM : C_X7_status sc d2 [aR 0, aI s1] m (some (aI v)) m2) (hd : d2 + 1 ≤ d) (k : S_L_law sc d 1052 [aR (-7), aR 0, aR 62, aI l3] [aI v] m2 Q) : S_L_law sc d 1049 [aR (-7), aR 0, aR 62, aI l3] [aI s1, aR 0] m Q := x_callV (as := [aI s1]) (rest := []) hM mk_X7_status mv_X7_status lk_L_151 (Or.inl ⟨7, (RX7, TX7, 14), ic_0, Nat.le_of_ble_eq_true rfl, rfl, rfl⟩) hd rfl rfl (Nat.le_of_ble_eq_true rfl) dL_law_1049 rfl k
theorem c_L_law_1058 {sc : List Int} {d d2 : Nat} {m m2 : Mem} {Q : Option AV → Mem → Prop} {l3 s0 s2 : Int} {v : Int} (hM : C_X8_status sc d2 [aR 62, aI s2] m (some (aI v)) m2) (hd : d2 + 1 ≤ d) (k : S_L_law sc d 1061 [aR (-7), aR 0, aR 62, aI l3] [aI v, aI s0] m2 Q) : S_L_law sc d 1058 [aR (-7), aR 0, aR 62, aI l3] [aI s2, aR 62, aI s0] m Q := x_callV (as := [aI s2]) (rest := [aI s0]) hM mk_X8_status mv_X8_status lk_L_154 (Or.inl ⟨8, (RX8, TX8, 123), ic_62, Nat.le_of_ble_eq_true rfl, rfl, rfl⟩) hd rfl rfl (Nat.le_of_ble_eq_true rfl) dL_law_1058 rfl k
