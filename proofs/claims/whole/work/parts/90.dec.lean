theorem dL_0 : decode code 0 = .ok (.new 7, 3) := by decide +kernel
theorem dL_3 : decode code 3 = .ok (.dup, 1) := by decide +kernel
theorem dL_4 : decode code 4 = .ok (.invokespecial 9, 3) := by decide +kernel
theorem dL_7 : decode code 7 = .ok (.astore_n 1, 1) := by decide +kernel
theorem dL_8 : decode code 8 = .ok (.new 10, 3) := by decide +kernel
theorem dL_11 : decode code 11 = .ok (.dup, 1) := by decide +kernel
theorem dL_12 : decode code 12 = .ok (.invokespecial 12, 3) := by decide +kernel
theorem dL_15 : decode code 15 = .ok (.astore_n 2, 1) := by decide +kernel
theorem dL_16 : decode code 16 = .ok (.iconst 0, 1) := by decide +kernel
theorem dL_17 : decode code 17 = .ok (.istore_n 3, 1) := by decide +kernel
theorem dL_18 : decode code 18 = .ok (.iload_n 3, 1) := by decide +kernel
theorem dL_19 : decode code 19 = .ok (.aload_n 0, 1) := by decide +kernel
theorem dL_20 : decode code 20 = .ok (.arraylength, 1) := by decide +kernel
theorem dL_21 : decode code 21 = .ok (.iconst 5, 1) := by decide +kernel
theorem dL_22 : decode code 22 = .ok (.isub, 1) := by decide +kernel
theorem dL_23 : decode code 23 = .ok (.if_icmp .gt 750, 3) := by decide +kernel
theorem dL_26 : decode code 26 = .ok (.aload_n 0, 1) := by decide +kernel
theorem dL_27 : decode code 27 = .ok (.iload_n 3, 1) := by decide +kernel
theorem dL_28 : decode code 28 = .ok (.iaload, 1) := by decide +kernel
theorem dL_29 : decode code 29 = .ok (.bipush 31, 2) := by decide +kernel
theorem dL_31 : decode code 31 = .ok (.iand, 1) := by decide +kernel
theorem dL_32 : decode code 32 = .ok (.tableswitch 735 0 21 #[104, 147, 160, 173, 186, 199, 212, 235, 268, 302, 316, 350, 403, 456, 500, 543, 597, 630, 643, 676, 699, 722], 104) := by decide +kernel
theorem dL_136 : decode code 136 = .ok (.aload_n 1, 1) := by decide +kernel
theorem dL_137 : decode code 137 = .ok (.aload_n 0, 1) := by decide +kernel
theorem dL_138 : decode code 138 = .ok (.iload_n 3, 1) := by decide +kernel
theorem dL_139 : decode code 139 = .ok (.iconst 1, 1) := by decide +kernel
theorem dL_140 : decode code 140 = .ok (.iadd, 1) := by decide +kernel
theorem dL_141 : decode code 141 = .ok (.iaload, 1) := by decide +kernel
theorem dL_142 : decode code 142 = .ok (.aload_n 0, 1) := by decide +kernel
theorem dL_143 : decode code 143 = .ok (.iload_n 3, 1) := by decide +kernel
theorem dL_144 : decode code 144 = .ok (.iconst 2, 1) := by decide +kernel
theorem dL_145 : decode code 145 = .ok (.iadd, 1) := by decide +kernel
theorem dL_146 : decode code 146 = .ok (.iaload, 1) := by decide +kernel
theorem dL_147 : decode code 147 = .ok (.aload_n 0, 1) := by decide +kernel
theorem dL_148 : decode code 148 = .ok (.iload_n 3, 1) := by decide +kernel
theorem dL_149 : decode code 149 = .ok (.iconst 3, 1) := by decide +kernel
theorem dL_150 : decode code 150 = .ok (.iadd, 1) := by decide +kernel
theorem dL_151 : decode code 151 = .ok (.iaload, 1) := by decide +kernel
theorem dL_152 : decode code 152 = .ok (.invokevirtual 13, 3) := by decide +kernel
theorem dL_155 : decode code 155 = .ok (.aload_n 2, 1) := by decide +kernel
theorem dL_156 : decode code 156 = .ok (.aload_n 0, 1) := by decide +kernel
theorem dL_157 : decode code 157 = .ok (.iload_n 3, 1) := by decide +kernel
theorem dL_158 : decode code 158 = .ok (.iconst 1, 1) := by decide +kernel
theorem dL_159 : decode code 159 = .ok (.iadd, 1) := by decide +kernel
theorem dL_160 : decode code 160 = .ok (.iaload, 1) := by decide +kernel
theorem dL_161 : decode code 161 = .ok (.aload_n 0, 1) := by decide +kernel
theorem dL_162 : decode code 162 = .ok (.iload_n 3, 1) := by decide +kernel
theorem dL_163 : decode code 163 = .ok (.iconst 2, 1) := by decide +kernel
theorem dL_164 : decode code 164 = .ok (.iadd, 1) := by decide +kernel
theorem dL_165 : decode code 165 = .ok (.iaload, 1) := by decide +kernel
theorem dL_166 : decode code 166 = .ok (.aload_n 0, 1) := by decide +kernel
theorem dL_167 : decode code 167 = .ok (.iload_n 3, 1) := by decide +kernel
theorem dL_168 : decode code 168 = .ok (.iconst 3, 1) := by decide +kernel
theorem dL_169 : decode code 169 = .ok (.iadd, 1) := by decide +kernel
theorem dL_170 : decode code 170 = .ok (.iaload, 1) := by decide +kernel
theorem dL_171 : decode code 171 = .ok (.invokevirtual 17, 3) := by decide +kernel
theorem dL_174 : decode code 174 = .ok (.if_icmp .eq 593, 3) := by decide +kernel
theorem dL_177 : decode code 177 = .ok (.iconst 0, 1) := by decide +kernel
theorem dL_178 : decode code 178 = .ok (.ireturn, 1) := by decide +kernel
theorem dL_179 : decode code 179 = .ok (.aload_n 1, 1) := by decide +kernel
theorem dL_180 : decode code 180 = .ok (.invokevirtual 18, 3) := by decide +kernel
theorem dL_183 : decode code 183 = .ok (.aload_n 2, 1) := by decide +kernel
theorem dL_184 : decode code 184 = .ok (.invokevirtual 22, 3) := by decide +kernel
theorem dL_187 : decode code 187 = .ok (.if_icmp .eq 580, 3) := by decide +kernel
theorem dL_190 : decode code 190 = .ok (.iconst 0, 1) := by decide +kernel
theorem dL_191 : decode code 191 = .ok (.ireturn, 1) := by decide +kernel
theorem dL_192 : decode code 192 = .ok (.aload_n 1, 1) := by decide +kernel
theorem dL_193 : decode code 193 = .ok (.invokevirtual 23, 3) := by decide +kernel
theorem dL_196 : decode code 196 = .ok (.aload_n 2, 1) := by decide +kernel
theorem dL_197 : decode code 197 = .ok (.invokevirtual 27, 3) := by decide +kernel
theorem dL_200 : decode code 200 = .ok (.if_icmp .eq 567, 3) := by decide +kernel
theorem dL_203 : decode code 203 = .ok (.iconst 0, 1) := by decide +kernel
theorem dL_204 : decode code 204 = .ok (.ireturn, 1) := by decide +kernel
theorem dL_205 : decode code 205 = .ok (.aload_n 1, 1) := by decide +kernel
theorem dL_206 : decode code 206 = .ok (.invokevirtual 28, 3) := by decide +kernel
theorem dL_209 : decode code 209 = .ok (.aload_n 2, 1) := by decide +kernel
theorem dL_210 : decode code 210 = .ok (.invokevirtual 31, 3) := by decide +kernel
theorem dL_213 : decode code 213 = .ok (.if_icmp .eq 554, 3) := by decide +kernel
theorem dL_216 : decode code 216 = .ok (.iconst 0, 1) := by decide +kernel
theorem dL_217 : decode code 217 = .ok (.ireturn, 1) := by decide +kernel
theorem dL_218 : decode code 218 = .ok (.aload_n 1, 1) := by decide +kernel
theorem dL_219 : decode code 219 = .ok (.invokevirtual 32, 3) := by decide +kernel
theorem dL_222 : decode code 222 = .ok (.aload_n 2, 1) := by decide +kernel
theorem dL_223 : decode code 223 = .ok (.invokevirtual 35, 3) := by decide +kernel
theorem dL_226 : decode code 226 = .ok (.if_icmp .eq 541, 3) := by decide +kernel
theorem dL_229 : decode code 229 = .ok (.iconst 0, 1) := by decide +kernel
theorem dL_230 : decode code 230 = .ok (.ireturn, 1) := by decide +kernel
theorem dL_231 : decode code 231 = .ok (.aload_n 1, 1) := by decide +kernel
theorem dL_232 : decode code 232 = .ok (.invokevirtual 36, 3) := by decide +kernel
theorem dL_235 : decode code 235 = .ok (.aload_n 2, 1) := by decide +kernel
theorem dL_236 : decode code 236 = .ok (.invokevirtual 39, 3) := by decide +kernel
theorem dL_239 : decode code 239 = .ok (.if_icmp .eq 528, 3) := by decide +kernel
theorem dL_242 : decode code 242 = .ok (.iconst 0, 1) := by decide +kernel
theorem dL_243 : decode code 243 = .ok (.ireturn, 1) := by decide +kernel
theorem dL_244 : decode code 244 = .ok (.aload_n 1, 1) := by decide +kernel
theorem dL_245 : decode code 245 = .ok (.aload_n 0, 1) := by decide +kernel
theorem dL_246 : decode code 246 = .ok (.iload_n 3, 1) := by decide +kernel
theorem dL_247 : decode code 247 = .ok (.iconst 1, 1) := by decide +kernel
theorem dL_248 : decode code 248 = .ok (.iadd, 1) := by decide +kernel
theorem dL_249 : decode code 249 = .ok (.iaload, 1) := by decide +kernel
theorem dL_250 : decode code 250 = .ok (.invokevirtual 40, 3) := by decide +kernel
theorem dL_253 : decode code 253 = .ok (.aload_n 2, 1) := by decide +kernel
theorem dL_254 : decode code 254 = .ok (.aload_n 0, 1) := by decide +kernel
theorem dL_255 : decode code 255 = .ok (.iload_n 3, 1) := by decide +kernel
theorem dL_256 : decode code 256 = .ok (.iconst 1, 1) := by decide +kernel
theorem dL_257 : decode code 257 = .ok (.iadd, 1) := by decide +kernel
theorem dL_258 : decode code 258 = .ok (.iaload, 1) := by decide +kernel
theorem dL_259 : decode code 259 = .ok (.invokevirtual 44, 3) := by decide +kernel
theorem dL_262 : decode code 262 = .ok (.if_icmp .eq 505, 3) := by decide +kernel
theorem dL_265 : decode code 265 = .ok (.iconst 0, 1) := by decide +kernel
theorem dL_266 : decode code 266 = .ok (.ireturn, 1) := by decide +kernel
theorem dL_267 : decode code 267 = .ok (.aload_n 1, 1) := by decide +kernel
theorem dL_268 : decode code 268 = .ok (.aload_n 0, 1) := by decide +kernel
theorem dL_269 : decode code 269 = .ok (.iload_n 3, 1) := by decide +kernel
theorem dL_270 : decode code 270 = .ok (.iconst 1, 1) := by decide +kernel
theorem dL_271 : decode code 271 = .ok (.iadd, 1) := by decide +kernel
theorem dL_272 : decode code 272 = .ok (.iaload, 1) := by decide +kernel
theorem dL_273 : decode code 273 = .ok (.aload_n 0, 1) := by decide +kernel
theorem dL_274 : decode code 274 = .ok (.iload_n 3, 1) := by decide +kernel
theorem dL_275 : decode code 275 = .ok (.iconst 2, 1) := by decide +kernel
theorem dL_276 : decode code 276 = .ok (.iadd, 1) := by decide +kernel
theorem dL_277 : decode code 277 = .ok (.iaload, 1) := by decide +kernel
theorem dL_278 : decode code 278 = .ok (.invokevirtual 45, 3) := by decide +kernel
theorem dL_281 : decode code 281 = .ok (.aload_n 2, 1) := by decide +kernel
theorem dL_282 : decode code 282 = .ok (.aload_n 0, 1) := by decide +kernel
theorem dL_283 : decode code 283 = .ok (.iload_n 3, 1) := by decide +kernel
theorem dL_284 : decode code 284 = .ok (.iconst 1, 1) := by decide +kernel
theorem dL_285 : decode code 285 = .ok (.iadd, 1) := by decide +kernel
theorem dL_286 : decode code 286 = .ok (.iaload, 1) := by decide +kernel
theorem dL_287 : decode code 287 = .ok (.aload_n 0, 1) := by decide +kernel
theorem dL_288 : decode code 288 = .ok (.iload_n 3, 1) := by decide +kernel
theorem dL_289 : decode code 289 = .ok (.iconst 2, 1) := by decide +kernel
theorem dL_290 : decode code 290 = .ok (.iadd, 1) := by decide +kernel
theorem dL_291 : decode code 291 = .ok (.iaload, 1) := by decide +kernel
theorem dL_292 : decode code 292 = .ok (.invokevirtual 49, 3) := by decide +kernel
theorem dL_295 : decode code 295 = .ok (.if_icmp .eq 472, 3) := by decide +kernel
theorem dL_298 : decode code 298 = .ok (.iconst 0, 1) := by decide +kernel
theorem dL_299 : decode code 299 = .ok (.ireturn, 1) := by decide +kernel
theorem dL_300 : decode code 300 = .ok (.aload_n 1, 1) := by decide +kernel
theorem dL_301 : decode code 301 = .ok (.aload_n 0, 1) := by decide +kernel
theorem dL_302 : decode code 302 = .ok (.iload_n 3, 1) := by decide +kernel
theorem dL_303 : decode code 303 = .ok (.iconst 1, 1) := by decide +kernel
theorem dL_304 : decode code 304 = .ok (.iadd, 1) := by decide +kernel
theorem dL_305 : decode code 305 = .ok (.iaload, 1) := by decide +kernel
theorem dL_306 : decode code 306 = .ok (.aload_n 0, 1) := by decide +kernel
theorem dL_307 : decode code 307 = .ok (.iload_n 3, 1) := by decide +kernel
theorem dL_308 : decode code 308 = .ok (.iconst 2, 1) := by decide +kernel
theorem dL_309 : decode code 309 = .ok (.iadd, 1) := by decide +kernel
theorem dL_310 : decode code 310 = .ok (.iaload, 1) := by decide +kernel
theorem dL_311 : decode code 311 = .ok (.invokevirtual 50, 3) := by decide +kernel
theorem dL_314 : decode code 314 = .ok (.aload_n 2, 1) := by decide +kernel
theorem dL_315 : decode code 315 = .ok (.aload_n 0, 1) := by decide +kernel
theorem dL_316 : decode code 316 = .ok (.iload_n 3, 1) := by decide +kernel
theorem dL_317 : decode code 317 = .ok (.iconst 1, 1) := by decide +kernel
theorem dL_318 : decode code 318 = .ok (.iadd, 1) := by decide +kernel
theorem dL_319 : decode code 319 = .ok (.iaload, 1) := by decide +kernel
theorem dL_320 : decode code 320 = .ok (.aload_n 0, 1) := by decide +kernel
theorem dL_321 : decode code 321 = .ok (.iload_n 3, 1) := by decide +kernel
theorem dL_322 : decode code 322 = .ok (.iconst 2, 1) := by decide +kernel
theorem dL_323 : decode code 323 = .ok (.iadd, 1) := by decide +kernel
theorem dL_324 : decode code 324 = .ok (.iaload, 1) := by decide +kernel
theorem dL_325 : decode code 325 = .ok (.invokevirtual 54, 3) := by decide +kernel
theorem dL_328 : decode code 328 = .ok (.lcmp, 1) := by decide +kernel
theorem dL_329 : decode code 329 = .ok (.ifCond .eq 438, 3) := by decide +kernel
theorem dL_332 : decode code 332 = .ok (.iconst 0, 1) := by decide +kernel
theorem dL_333 : decode code 333 = .ok (.ireturn, 1) := by decide +kernel
theorem dL_334 : decode code 334 = .ok (.aload_n 1, 1) := by decide +kernel
theorem dL_335 : decode code 335 = .ok (.invokevirtual 55, 3) := by decide +kernel
theorem dL_338 : decode code 338 = .ok (.aload_n 2, 1) := by decide +kernel
theorem dL_339 : decode code 339 = .ok (.invokevirtual 59, 3) := by decide +kernel
theorem dL_342 : decode code 342 = .ok (.lcmp, 1) := by decide +kernel
theorem dL_343 : decode code 343 = .ok (.ifCond .eq 424, 3) := by decide +kernel
theorem dL_346 : decode code 346 = .ok (.iconst 0, 1) := by decide +kernel
theorem dL_347 : decode code 347 = .ok (.ireturn, 1) := by decide +kernel
theorem dL_348 : decode code 348 = .ok (.aload_n 1, 1) := by decide +kernel
theorem dL_349 : decode code 349 = .ok (.aload_n 0, 1) := by decide +kernel
theorem dL_350 : decode code 350 = .ok (.iload_n 3, 1) := by decide +kernel
theorem dL_351 : decode code 351 = .ok (.iconst 1, 1) := by decide +kernel
theorem dL_352 : decode code 352 = .ok (.iadd, 1) := by decide +kernel
theorem dL_353 : decode code 353 = .ok (.iaload, 1) := by decide +kernel
theorem dL_354 : decode code 354 = .ok (.aload_n 0, 1) := by decide +kernel
theorem dL_355 : decode code 355 = .ok (.iload_n 3, 1) := by decide +kernel
theorem dL_356 : decode code 356 = .ok (.iconst 2, 1) := by decide +kernel
theorem dL_357 : decode code 357 = .ok (.iadd, 1) := by decide +kernel
theorem dL_358 : decode code 358 = .ok (.iaload, 1) := by decide +kernel
theorem dL_359 : decode code 359 = .ok (.invokevirtual 60, 3) := by decide +kernel
theorem dL_362 : decode code 362 = .ok (.aload_n 2, 1) := by decide +kernel
theorem dL_363 : decode code 363 = .ok (.aload_n 0, 1) := by decide +kernel
theorem dL_364 : decode code 364 = .ok (.iload_n 3, 1) := by decide +kernel
theorem dL_365 : decode code 365 = .ok (.iconst 1, 1) := by decide +kernel
theorem dL_366 : decode code 366 = .ok (.iadd, 1) := by decide +kernel
theorem dL_367 : decode code 367 = .ok (.iaload, 1) := by decide +kernel
theorem dL_368 : decode code 368 = .ok (.aload_n 0, 1) := by decide +kernel
theorem dL_369 : decode code 369 = .ok (.iload_n 3, 1) := by decide +kernel
theorem dL_370 : decode code 370 = .ok (.iconst 2, 1) := by decide +kernel
theorem dL_371 : decode code 371 = .ok (.iadd, 1) := by decide +kernel
theorem dL_372 : decode code 372 = .ok (.iaload, 1) := by decide +kernel
theorem dL_373 : decode code 373 = .ok (.invokevirtual 63, 3) := by decide +kernel
theorem dL_376 : decode code 376 = .ok (.lcmp, 1) := by decide +kernel
theorem dL_377 : decode code 377 = .ok (.ifCond .eq 390, 3) := by decide +kernel
theorem dL_380 : decode code 380 = .ok (.iconst 0, 1) := by decide +kernel
theorem dL_381 : decode code 381 = .ok (.ireturn, 1) := by decide +kernel
theorem dL_382 : decode code 382 = .ok (.aload_n 1, 1) := by decide +kernel
theorem dL_383 : decode code 383 = .ok (.aload_n 0, 1) := by decide +kernel
theorem dL_384 : decode code 384 = .ok (.iload_n 3, 1) := by decide +kernel
theorem dL_385 : decode code 385 = .ok (.iconst 1, 1) := by decide +kernel
theorem dL_386 : decode code 386 = .ok (.iadd, 1) := by decide +kernel
theorem dL_387 : decode code 387 = .ok (.iaload, 1) := by decide +kernel
theorem dL_388 : decode code 388 = .ok (.aload_n 0, 1) := by decide +kernel
theorem dL_389 : decode code 389 = .ok (.iload_n 3, 1) := by decide +kernel
theorem dL_390 : decode code 390 = .ok (.iconst 2, 1) := by decide +kernel
theorem dL_391 : decode code 391 = .ok (.iadd, 1) := by decide +kernel
theorem dL_392 : decode code 392 = .ok (.iaload, 1) := by decide +kernel
theorem dL_393 : decode code 393 = .ok (.aload_n 0, 1) := by decide +kernel
theorem dL_394 : decode code 394 = .ok (.iload_n 3, 1) := by decide +kernel
theorem dL_395 : decode code 395 = .ok (.iconst 3, 1) := by decide +kernel
theorem dL_396 : decode code 396 = .ok (.iadd, 1) := by decide +kernel
theorem dL_397 : decode code 397 = .ok (.iaload, 1) := by decide +kernel
theorem dL_398 : decode code 398 = .ok (.aload_n 0, 1) := by decide +kernel
theorem dL_399 : decode code 399 = .ok (.iload_n 3, 1) := by decide +kernel
theorem dL_400 : decode code 400 = .ok (.iconst 4, 1) := by decide +kernel
theorem dL_401 : decode code 401 = .ok (.iadd, 1) := by decide +kernel
theorem dL_402 : decode code 402 = .ok (.iaload, 1) := by decide +kernel
theorem dL_403 : decode code 403 = .ok (.invokevirtual 64, 3) := by decide +kernel
theorem dL_406 : decode code 406 = .ok (.aload_n 2, 1) := by decide +kernel
theorem dL_407 : decode code 407 = .ok (.aload_n 0, 1) := by decide +kernel
theorem dL_408 : decode code 408 = .ok (.iload_n 3, 1) := by decide +kernel
theorem dL_409 : decode code 409 = .ok (.iconst 1, 1) := by decide +kernel
theorem dL_410 : decode code 410 = .ok (.iadd, 1) := by decide +kernel
theorem dL_411 : decode code 411 = .ok (.iaload, 1) := by decide +kernel
theorem dL_412 : decode code 412 = .ok (.aload_n 0, 1) := by decide +kernel
theorem dL_413 : decode code 413 = .ok (.iload_n 3, 1) := by decide +kernel
theorem dL_414 : decode code 414 = .ok (.iconst 2, 1) := by decide +kernel
theorem dL_415 : decode code 415 = .ok (.iadd, 1) := by decide +kernel
theorem dL_416 : decode code 416 = .ok (.iaload, 1) := by decide +kernel
theorem dL_417 : decode code 417 = .ok (.aload_n 0, 1) := by decide +kernel
theorem dL_418 : decode code 418 = .ok (.iload_n 3, 1) := by decide +kernel
theorem dL_419 : decode code 419 = .ok (.iconst 3, 1) := by decide +kernel
theorem dL_420 : decode code 420 = .ok (.iadd, 1) := by decide +kernel
theorem dL_421 : decode code 421 = .ok (.iaload, 1) := by decide +kernel
theorem dL_422 : decode code 422 = .ok (.aload_n 0, 1) := by decide +kernel
theorem dL_423 : decode code 423 = .ok (.iload_n 3, 1) := by decide +kernel
theorem dL_424 : decode code 424 = .ok (.iconst 4, 1) := by decide +kernel
theorem dL_425 : decode code 425 = .ok (.iadd, 1) := by decide +kernel
theorem dL_426 : decode code 426 = .ok (.iaload, 1) := by decide +kernel
theorem dL_427 : decode code 427 = .ok (.invokevirtual 68, 3) := by decide +kernel
theorem dL_430 : decode code 430 = .ok (.if_icmp .eq 337, 3) := by decide +kernel
theorem dL_433 : decode code 433 = .ok (.iconst 0, 1) := by decide +kernel
theorem dL_434 : decode code 434 = .ok (.ireturn, 1) := by decide +kernel
theorem dL_435 : decode code 435 = .ok (.aload_n 1, 1) := by decide +kernel
theorem dL_436 : decode code 436 = .ok (.aload_n 0, 1) := by decide +kernel
theorem dL_437 : decode code 437 = .ok (.iload_n 3, 1) := by decide +kernel
theorem dL_438 : decode code 438 = .ok (.iconst 1, 1) := by decide +kernel
theorem dL_439 : decode code 439 = .ok (.iadd, 1) := by decide +kernel
theorem dL_440 : decode code 440 = .ok (.iaload, 1) := by decide +kernel
theorem dL_441 : decode code 441 = .ok (.aload_n 0, 1) := by decide +kernel
theorem dL_442 : decode code 442 = .ok (.iload_n 3, 1) := by decide +kernel
theorem dL_443 : decode code 443 = .ok (.iconst 2, 1) := by decide +kernel
theorem dL_444 : decode code 444 = .ok (.iadd, 1) := by decide +kernel
theorem dL_445 : decode code 445 = .ok (.iaload, 1) := by decide +kernel
theorem dL_446 : decode code 446 = .ok (.aload_n 0, 1) := by decide +kernel
theorem dL_447 : decode code 447 = .ok (.iload_n 3, 1) := by decide +kernel
theorem dL_448 : decode code 448 = .ok (.iconst 3, 1) := by decide +kernel
theorem dL_449 : decode code 449 = .ok (.iadd, 1) := by decide +kernel
theorem dL_450 : decode code 450 = .ok (.iaload, 1) := by decide +kernel
theorem dL_451 : decode code 451 = .ok (.aload_n 0, 1) := by decide +kernel
theorem dL_452 : decode code 452 = .ok (.iload_n 3, 1) := by decide +kernel
theorem dL_453 : decode code 453 = .ok (.iconst 4, 1) := by decide +kernel
theorem dL_454 : decode code 454 = .ok (.iadd, 1) := by decide +kernel
theorem dL_455 : decode code 455 = .ok (.iaload, 1) := by decide +kernel
theorem dL_456 : decode code 456 = .ok (.invokevirtual 69, 3) := by decide +kernel
theorem dL_459 : decode code 459 = .ok (.aload_n 2, 1) := by decide +kernel
theorem dL_460 : decode code 460 = .ok (.aload_n 0, 1) := by decide +kernel
theorem dL_461 : decode code 461 = .ok (.iload_n 3, 1) := by decide +kernel
theorem dL_462 : decode code 462 = .ok (.iconst 1, 1) := by decide +kernel
theorem dL_463 : decode code 463 = .ok (.iadd, 1) := by decide +kernel
theorem dL_464 : decode code 464 = .ok (.iaload, 1) := by decide +kernel
theorem dL_465 : decode code 465 = .ok (.aload_n 0, 1) := by decide +kernel
theorem dL_466 : decode code 466 = .ok (.iload_n 3, 1) := by decide +kernel
theorem dL_467 : decode code 467 = .ok (.iconst 2, 1) := by decide +kernel
theorem dL_468 : decode code 468 = .ok (.iadd, 1) := by decide +kernel
theorem dL_469 : decode code 469 = .ok (.iaload, 1) := by decide +kernel
theorem dL_470 : decode code 470 = .ok (.aload_n 0, 1) := by decide +kernel
theorem dL_471 : decode code 471 = .ok (.iload_n 3, 1) := by decide +kernel
theorem dL_472 : decode code 472 = .ok (.iconst 3, 1) := by decide +kernel
theorem dL_473 : decode code 473 = .ok (.iadd, 1) := by decide +kernel
theorem dL_474 : decode code 474 = .ok (.iaload, 1) := by decide +kernel
theorem dL_475 : decode code 475 = .ok (.aload_n 0, 1) := by decide +kernel
theorem dL_476 : decode code 476 = .ok (.iload_n 3, 1) := by decide +kernel
theorem dL_477 : decode code 477 = .ok (.iconst 4, 1) := by decide +kernel
theorem dL_478 : decode code 478 = .ok (.iadd, 1) := by decide +kernel
theorem dL_479 : decode code 479 = .ok (.iaload, 1) := by decide +kernel
theorem dL_480 : decode code 480 = .ok (.invokevirtual 72, 3) := by decide +kernel
theorem dL_483 : decode code 483 = .ok (.if_icmp .eq 284, 3) := by decide +kernel
theorem dL_486 : decode code 486 = .ok (.iconst 0, 1) := by decide +kernel
theorem dL_487 : decode code 487 = .ok (.ireturn, 1) := by decide +kernel
theorem dL_488 : decode code 488 = .ok (.aload_n 1, 1) := by decide +kernel
theorem dL_489 : decode code 489 = .ok (.aload_n 0, 1) := by decide +kernel
theorem dL_490 : decode code 490 = .ok (.iload_n 3, 1) := by decide +kernel
theorem dL_491 : decode code 491 = .ok (.iconst 1, 1) := by decide +kernel
theorem dL_492 : decode code 492 = .ok (.iadd, 1) := by decide +kernel
theorem dL_493 : decode code 493 = .ok (.iaload, 1) := by decide +kernel
theorem dL_494 : decode code 494 = .ok (.aload_n 0, 1) := by decide +kernel
theorem dL_495 : decode code 495 = .ok (.iload_n 3, 1) := by decide +kernel
theorem dL_496 : decode code 496 = .ok (.iconst 2, 1) := by decide +kernel
theorem dL_497 : decode code 497 = .ok (.iadd, 1) := by decide +kernel
theorem dL_498 : decode code 498 = .ok (.iaload, 1) := by decide +kernel
theorem dL_499 : decode code 499 = .ok (.aload_n 0, 1) := by decide +kernel
theorem dL_500 : decode code 500 = .ok (.iload_n 3, 1) := by decide +kernel
theorem dL_501 : decode code 501 = .ok (.iconst 3, 1) := by decide +kernel
theorem dL_502 : decode code 502 = .ok (.iadd, 1) := by decide +kernel
theorem dL_503 : decode code 503 = .ok (.iaload, 1) := by decide +kernel
theorem dL_504 : decode code 504 = .ok (.invokevirtual 73, 3) := by decide +kernel
theorem dL_507 : decode code 507 = .ok (.aload_n 2, 1) := by decide +kernel
theorem dL_508 : decode code 508 = .ok (.aload_n 0, 1) := by decide +kernel
theorem dL_509 : decode code 509 = .ok (.iload_n 3, 1) := by decide +kernel
theorem dL_510 : decode code 510 = .ok (.iconst 1, 1) := by decide +kernel
theorem dL_511 : decode code 511 = .ok (.iadd, 1) := by decide +kernel
theorem dL_512 : decode code 512 = .ok (.iaload, 1) := by decide +kernel
theorem dL_513 : decode code 513 = .ok (.aload_n 0, 1) := by decide +kernel
theorem dL_514 : decode code 514 = .ok (.iload_n 3, 1) := by decide +kernel
theorem dL_515 : decode code 515 = .ok (.iconst 2, 1) := by decide +kernel
theorem dL_516 : decode code 516 = .ok (.iadd, 1) := by decide +kernel
theorem dL_517 : decode code 517 = .ok (.iaload, 1) := by decide +kernel
theorem dL_518 : decode code 518 = .ok (.aload_n 0, 1) := by decide +kernel
theorem dL_519 : decode code 519 = .ok (.iload_n 3, 1) := by decide +kernel
theorem dL_520 : decode code 520 = .ok (.iconst 3, 1) := by decide +kernel
theorem dL_521 : decode code 521 = .ok (.iadd, 1) := by decide +kernel
theorem dL_522 : decode code 522 = .ok (.iaload, 1) := by decide +kernel
theorem dL_523 : decode code 523 = .ok (.invokevirtual 77, 3) := by decide +kernel
theorem dL_526 : decode code 526 = .ok (.lcmp, 1) := by decide +kernel
theorem dL_527 : decode code 527 = .ok (.ifCond .eq 240, 3) := by decide +kernel
theorem dL_530 : decode code 530 = .ok (.iconst 0, 1) := by decide +kernel
theorem dL_531 : decode code 531 = .ok (.ireturn, 1) := by decide +kernel
theorem dL_532 : decode code 532 = .ok (.aload_n 1, 1) := by decide +kernel
theorem dL_533 : decode code 533 = .ok (.aload_n 0, 1) := by decide +kernel
theorem dL_534 : decode code 534 = .ok (.iload_n 3, 1) := by decide +kernel
theorem dL_535 : decode code 535 = .ok (.iconst 1, 1) := by decide +kernel
theorem dL_536 : decode code 536 = .ok (.iadd, 1) := by decide +kernel
theorem dL_537 : decode code 537 = .ok (.iaload, 1) := by decide +kernel
theorem dL_538 : decode code 538 = .ok (.aload_n 0, 1) := by decide +kernel
theorem dL_539 : decode code 539 = .ok (.iload_n 3, 1) := by decide +kernel
theorem dL_540 : decode code 540 = .ok (.iconst 2, 1) := by decide +kernel
theorem dL_541 : decode code 541 = .ok (.iadd, 1) := by decide +kernel
theorem dL_542 : decode code 542 = .ok (.iaload, 1) := by decide +kernel
theorem dL_543 : decode code 543 = .ok (.aload_n 0, 1) := by decide +kernel
theorem dL_544 : decode code 544 = .ok (.iload_n 3, 1) := by decide +kernel
theorem dL_545 : decode code 545 = .ok (.iconst 3, 1) := by decide +kernel
theorem dL_546 : decode code 546 = .ok (.iadd, 1) := by decide +kernel
theorem dL_547 : decode code 547 = .ok (.iaload, 1) := by decide +kernel
theorem dL_548 : decode code 548 = .ok (.invokevirtual 78, 3) := by decide +kernel
theorem dL_551 : decode code 551 = .ok (.aload_n 2, 1) := by decide +kernel
theorem dL_552 : decode code 552 = .ok (.aload_n 0, 1) := by decide +kernel
theorem dL_553 : decode code 553 = .ok (.iload_n 3, 1) := by decide +kernel
theorem dL_554 : decode code 554 = .ok (.iconst 1, 1) := by decide +kernel
theorem dL_555 : decode code 555 = .ok (.iadd, 1) := by decide +kernel
theorem dL_556 : decode code 556 = .ok (.iaload, 1) := by decide +kernel
theorem dL_557 : decode code 557 = .ok (.aload_n 0, 1) := by decide +kernel
theorem dL_558 : decode code 558 = .ok (.iload_n 3, 1) := by decide +kernel
theorem dL_559 : decode code 559 = .ok (.iconst 2, 1) := by decide +kernel
theorem dL_560 : decode code 560 = .ok (.iadd, 1) := by decide +kernel
theorem dL_561 : decode code 561 = .ok (.iaload, 1) := by decide +kernel
theorem dL_562 : decode code 562 = .ok (.aload_n 0, 1) := by decide +kernel
theorem dL_563 : decode code 563 = .ok (.iload_n 3, 1) := by decide +kernel
theorem dL_564 : decode code 564 = .ok (.iconst 3, 1) := by decide +kernel
theorem dL_565 : decode code 565 = .ok (.iadd, 1) := by decide +kernel
theorem dL_566 : decode code 566 = .ok (.iaload, 1) := by decide +kernel
theorem dL_567 : decode code 567 = .ok (.invokevirtual 81, 3) := by decide +kernel
theorem dL_570 : decode code 570 = .ok (.if_icmp .eq 197, 3) := by decide +kernel
theorem dL_573 : decode code 573 = .ok (.iconst 0, 1) := by decide +kernel
theorem dL_574 : decode code 574 = .ok (.ireturn, 1) := by decide +kernel
theorem dL_575 : decode code 575 = .ok (.aload_n 1, 1) := by decide +kernel
theorem dL_576 : decode code 576 = .ok (.aload_n 0, 1) := by decide +kernel
theorem dL_577 : decode code 577 = .ok (.iload_n 3, 1) := by decide +kernel
theorem dL_578 : decode code 578 = .ok (.iconst 1, 1) := by decide +kernel
theorem dL_579 : decode code 579 = .ok (.iadd, 1) := by decide +kernel
theorem dL_580 : decode code 580 = .ok (.iaload, 1) := by decide +kernel
theorem dL_581 : decode code 581 = .ok (.aload_n 0, 1) := by decide +kernel
theorem dL_582 : decode code 582 = .ok (.iload_n 3, 1) := by decide +kernel
theorem dL_583 : decode code 583 = .ok (.iconst 2, 1) := by decide +kernel
theorem dL_584 : decode code 584 = .ok (.iadd, 1) := by decide +kernel
theorem dL_585 : decode code 585 = .ok (.iaload, 1) := by decide +kernel
theorem dL_586 : decode code 586 = .ok (.aload_n 0, 1) := by decide +kernel
theorem dL_587 : decode code 587 = .ok (.iload_n 3, 1) := by decide +kernel
theorem dL_588 : decode code 588 = .ok (.iconst 3, 1) := by decide +kernel
theorem dL_589 : decode code 589 = .ok (.iadd, 1) := by decide +kernel
theorem dL_590 : decode code 590 = .ok (.iaload, 1) := by decide +kernel
theorem dL_591 : decode code 591 = .ok (.aload_n 0, 1) := by decide +kernel
theorem dL_592 : decode code 592 = .ok (.iload_n 3, 1) := by decide +kernel
theorem dL_593 : decode code 593 = .ok (.iconst 4, 1) := by decide +kernel
theorem dL_594 : decode code 594 = .ok (.iadd, 1) := by decide +kernel
theorem dL_595 : decode code 595 = .ok (.iaload, 1) := by decide +kernel
theorem dL_596 : decode code 596 = .ok (.invokevirtual 82, 3) := by decide +kernel
theorem dL_599 : decode code 599 = .ok (.aload_n 2, 1) := by decide +kernel
theorem dL_600 : decode code 600 = .ok (.aload_n 0, 1) := by decide +kernel
theorem dL_601 : decode code 601 = .ok (.iload_n 3, 1) := by decide +kernel
theorem dL_602 : decode code 602 = .ok (.iconst 1, 1) := by decide +kernel
theorem dL_603 : decode code 603 = .ok (.iadd, 1) := by decide +kernel
theorem dL_604 : decode code 604 = .ok (.iaload, 1) := by decide +kernel
theorem dL_605 : decode code 605 = .ok (.aload_n 0, 1) := by decide +kernel
theorem dL_606 : decode code 606 = .ok (.iload_n 3, 1) := by decide +kernel
theorem dL_607 : decode code 607 = .ok (.iconst 2, 1) := by decide +kernel
theorem dL_608 : decode code 608 = .ok (.iadd, 1) := by decide +kernel
theorem dL_609 : decode code 609 = .ok (.iaload, 1) := by decide +kernel
theorem dL_610 : decode code 610 = .ok (.aload_n 0, 1) := by decide +kernel
theorem dL_611 : decode code 611 = .ok (.iload_n 3, 1) := by decide +kernel
theorem dL_612 : decode code 612 = .ok (.iconst 3, 1) := by decide +kernel
theorem dL_613 : decode code 613 = .ok (.iadd, 1) := by decide +kernel
theorem dL_614 : decode code 614 = .ok (.iaload, 1) := by decide +kernel
theorem dL_615 : decode code 615 = .ok (.aload_n 0, 1) := by decide +kernel
theorem dL_616 : decode code 616 = .ok (.iload_n 3, 1) := by decide +kernel
theorem dL_617 : decode code 617 = .ok (.iconst 4, 1) := by decide +kernel
theorem dL_618 : decode code 618 = .ok (.iadd, 1) := by decide +kernel
theorem dL_619 : decode code 619 = .ok (.iaload, 1) := by decide +kernel
theorem dL_620 : decode code 620 = .ok (.invokevirtual 86, 3) := by decide +kernel
theorem dL_623 : decode code 623 = .ok (.lcmp, 1) := by decide +kernel
theorem dL_624 : decode code 624 = .ok (.ifCond .eq 143, 3) := by decide +kernel
theorem dL_627 : decode code 627 = .ok (.iconst 0, 1) := by decide +kernel
theorem dL_628 : decode code 628 = .ok (.ireturn, 1) := by decide +kernel
theorem dL_629 : decode code 629 = .ok (.aload_n 1, 1) := by decide +kernel
theorem dL_630 : decode code 630 = .ok (.aload_n 0, 1) := by decide +kernel
theorem dL_631 : decode code 631 = .ok (.iload_n 3, 1) := by decide +kernel
theorem dL_632 : decode code 632 = .ok (.iconst 1, 1) := by decide +kernel
theorem dL_633 : decode code 633 = .ok (.iadd, 1) := by decide +kernel
theorem dL_634 : decode code 634 = .ok (.iaload, 1) := by decide +kernel
theorem dL_635 : decode code 635 = .ok (.aload_n 0, 1) := by decide +kernel
theorem dL_636 : decode code 636 = .ok (.iload_n 3, 1) := by decide +kernel
theorem dL_637 : decode code 637 = .ok (.iconst 2, 1) := by decide +kernel
theorem dL_638 : decode code 638 = .ok (.iadd, 1) := by decide +kernel
theorem dL_639 : decode code 639 = .ok (.iaload, 1) := by decide +kernel
theorem dL_640 : decode code 640 = .ok (.invokevirtual 87, 3) := by decide +kernel
theorem dL_643 : decode code 643 = .ok (.aload_n 2, 1) := by decide +kernel
theorem dL_644 : decode code 644 = .ok (.aload_n 0, 1) := by decide +kernel
theorem dL_645 : decode code 645 = .ok (.iload_n 3, 1) := by decide +kernel
theorem dL_646 : decode code 646 = .ok (.iconst 1, 1) := by decide +kernel
theorem dL_647 : decode code 647 = .ok (.iadd, 1) := by decide +kernel
theorem dL_648 : decode code 648 = .ok (.iaload, 1) := by decide +kernel
theorem dL_649 : decode code 649 = .ok (.aload_n 0, 1) := by decide +kernel
theorem dL_650 : decode code 650 = .ok (.iload_n 3, 1) := by decide +kernel
theorem dL_651 : decode code 651 = .ok (.iconst 2, 1) := by decide +kernel
theorem dL_652 : decode code 652 = .ok (.iadd, 1) := by decide +kernel
theorem dL_653 : decode code 653 = .ok (.iaload, 1) := by decide +kernel
theorem dL_654 : decode code 654 = .ok (.invokevirtual 90, 3) := by decide +kernel
theorem dL_657 : decode code 657 = .ok (.if_icmp .eq 110, 3) := by decide +kernel
theorem dL_660 : decode code 660 = .ok (.iconst 0, 1) := by decide +kernel
theorem dL_661 : decode code 661 = .ok (.ireturn, 1) := by decide +kernel
theorem dL_662 : decode code 662 = .ok (.aload_n 1, 1) := by decide +kernel
theorem dL_663 : decode code 663 = .ok (.invokevirtual 91, 3) := by decide +kernel
theorem dL_666 : decode code 666 = .ok (.aload_n 2, 1) := by decide +kernel
theorem dL_667 : decode code 667 = .ok (.invokevirtual 94, 3) := by decide +kernel
theorem dL_670 : decode code 670 = .ok (.if_icmp .eq 97, 3) := by decide +kernel
theorem dL_673 : decode code 673 = .ok (.iconst 0, 1) := by decide +kernel
theorem dL_674 : decode code 674 = .ok (.ireturn, 1) := by decide +kernel
theorem dL_675 : decode code 675 = .ok (.aload_n 1, 1) := by decide +kernel
theorem dL_676 : decode code 676 = .ok (.aload_n 0, 1) := by decide +kernel
theorem dL_677 : decode code 677 = .ok (.iload_n 3, 1) := by decide +kernel
theorem dL_678 : decode code 678 = .ok (.iconst 1, 1) := by decide +kernel
theorem dL_679 : decode code 679 = .ok (.iadd, 1) := by decide +kernel
theorem dL_680 : decode code 680 = .ok (.iaload, 1) := by decide +kernel
theorem dL_681 : decode code 681 = .ok (.aload_n 0, 1) := by decide +kernel
theorem dL_682 : decode code 682 = .ok (.iload_n 3, 1) := by decide +kernel
theorem dL_683 : decode code 683 = .ok (.iconst 2, 1) := by decide +kernel
theorem dL_684 : decode code 684 = .ok (.iadd, 1) := by decide +kernel
theorem dL_685 : decode code 685 = .ok (.iaload, 1) := by decide +kernel
theorem dL_686 : decode code 686 = .ok (.invokevirtual 95, 3) := by decide +kernel
theorem dL_689 : decode code 689 = .ok (.aload_n 2, 1) := by decide +kernel
theorem dL_690 : decode code 690 = .ok (.aload_n 0, 1) := by decide +kernel
theorem dL_691 : decode code 691 = .ok (.iload_n 3, 1) := by decide +kernel
theorem dL_692 : decode code 692 = .ok (.iconst 1, 1) := by decide +kernel
theorem dL_693 : decode code 693 = .ok (.iadd, 1) := by decide +kernel
theorem dL_694 : decode code 694 = .ok (.iaload, 1) := by decide +kernel
theorem dL_695 : decode code 695 = .ok (.aload_n 0, 1) := by decide +kernel
theorem dL_696 : decode code 696 = .ok (.iload_n 3, 1) := by decide +kernel
theorem dL_697 : decode code 697 = .ok (.iconst 2, 1) := by decide +kernel
theorem dL_698 : decode code 698 = .ok (.iadd, 1) := by decide +kernel
theorem dL_699 : decode code 699 = .ok (.iaload, 1) := by decide +kernel
theorem dL_700 : decode code 700 = .ok (.invokevirtual 98, 3) := by decide +kernel
theorem dL_703 : decode code 703 = .ok (.if_icmp .eq 64, 3) := by decide +kernel
theorem dL_706 : decode code 706 = .ok (.iconst 0, 1) := by decide +kernel
theorem dL_707 : decode code 707 = .ok (.ireturn, 1) := by decide +kernel
theorem dL_708 : decode code 708 = .ok (.aload_n 1, 1) := by decide +kernel
theorem dL_709 : decode code 709 = .ok (.aload_n 0, 1) := by decide +kernel
theorem dL_710 : decode code 710 = .ok (.iload_n 3, 1) := by decide +kernel
theorem dL_711 : decode code 711 = .ok (.iconst 1, 1) := by decide +kernel
theorem dL_712 : decode code 712 = .ok (.iadd, 1) := by decide +kernel
theorem dL_713 : decode code 713 = .ok (.iaload, 1) := by decide +kernel
theorem dL_714 : decode code 714 = .ok (.invokevirtual 99, 3) := by decide +kernel
theorem dL_717 : decode code 717 = .ok (.aload_n 2, 1) := by decide +kernel
theorem dL_718 : decode code 718 = .ok (.aload_n 0, 1) := by decide +kernel
theorem dL_719 : decode code 719 = .ok (.iload_n 3, 1) := by decide +kernel
theorem dL_720 : decode code 720 = .ok (.iconst 1, 1) := by decide +kernel
theorem dL_721 : decode code 721 = .ok (.iadd, 1) := by decide +kernel
theorem dL_722 : decode code 722 = .ok (.iaload, 1) := by decide +kernel
theorem dL_723 : decode code 723 = .ok (.invokevirtual 102, 3) := by decide +kernel
theorem dL_726 : decode code 726 = .ok (.if_icmp .eq 41, 3) := by decide +kernel
theorem dL_729 : decode code 729 = .ok (.iconst 0, 1) := by decide +kernel
theorem dL_730 : decode code 730 = .ok (.ireturn, 1) := by decide +kernel
theorem dL_731 : decode code 731 = .ok (.aload_n 1, 1) := by decide +kernel
theorem dL_732 : decode code 732 = .ok (.aload_n 0, 1) := by decide +kernel
theorem dL_733 : decode code 733 = .ok (.iload_n 3, 1) := by decide +kernel
theorem dL_734 : decode code 734 = .ok (.iconst 1, 1) := by decide +kernel
theorem dL_735 : decode code 735 = .ok (.iadd, 1) := by decide +kernel
theorem dL_736 : decode code 736 = .ok (.iaload, 1) := by decide +kernel
theorem dL_737 : decode code 737 = .ok (.invokevirtual 103, 3) := by decide +kernel
theorem dL_740 : decode code 740 = .ok (.aload_n 2, 1) := by decide +kernel
theorem dL_741 : decode code 741 = .ok (.aload_n 0, 1) := by decide +kernel
theorem dL_742 : decode code 742 = .ok (.iload_n 3, 1) := by decide +kernel
theorem dL_743 : decode code 743 = .ok (.iconst 1, 1) := by decide +kernel
theorem dL_744 : decode code 744 = .ok (.iadd, 1) := by decide +kernel
theorem dL_745 : decode code 745 = .ok (.iaload, 1) := by decide +kernel
theorem dL_746 : decode code 746 = .ok (.invokevirtual 106, 3) := by decide +kernel
theorem dL_749 : decode code 749 = .ok (.if_icmp .eq 18, 3) := by decide +kernel
theorem dL_752 : decode code 752 = .ok (.iconst 0, 1) := by decide +kernel
theorem dL_753 : decode code 753 = .ok (.ireturn, 1) := by decide +kernel
theorem dL_754 : decode code 754 = .ok (.aload_n 1, 1) := by decide +kernel
theorem dL_755 : decode code 755 = .ok (.invokevirtual 107, 3) := by decide +kernel
theorem dL_758 : decode code 758 = .ok (.aload_n 2, 1) := by decide +kernel
theorem dL_759 : decode code 759 = .ok (.invokevirtual 110, 3) := by decide +kernel
theorem dL_762 : decode code 762 = .ok (.if_icmp .eq 5, 3) := by decide +kernel
theorem dL_765 : decode code 765 = .ok (.iconst 0, 1) := by decide +kernel
theorem dL_766 : decode code 766 = .ok (.ireturn, 1) := by decide +kernel
theorem dL_767 : decode code 767 = .ok (.iinc 3 5, 3) := by decide +kernel
theorem dL_770 : decode code 770 = .ok (.goto (-752), 3) := by decide +kernel
theorem dL_773 : decode code 773 = .ok (.iconst 1, 1) := by decide +kernel
theorem dL_774 : decode code 774 = .ok (.ireturn, 1) := by decide +kernel
