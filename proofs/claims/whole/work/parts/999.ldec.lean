/-! THE LAW: its instructions -/
theorem dW_0 : decode code 0 = .ok (.new 7, 3) := by decide +kernel
theorem dW_3 : decode code 3 = .ok (.dup, 1) := by decide +kernel
theorem dW_4 : decode code 4 = .ok (.invokespecial 9, 3) := by decide +kernel
theorem dW_7 : decode code 7 = .ok (.astore_n 1, 1) := by decide +kernel
theorem dW_8 : decode code 8 = .ok (.new 10, 3) := by decide +kernel
theorem dW_11 : decode code 11 = .ok (.dup, 1) := by decide +kernel
theorem dW_12 : decode code 12 = .ok (.invokespecial 12, 3) := by decide +kernel
theorem dW_15 : decode code 15 = .ok (.astore_n 2, 1) := by decide +kernel
theorem dW_16 : decode code 16 = .ok (.iconst 0, 1) := by decide +kernel
theorem dW_17 : decode code 17 = .ok (.istore_n 3, 1) := by decide +kernel
theorem dW_18 : decode code 18 = .ok (.iload_n 3, 1) := by decide +kernel
theorem dW_19 : decode code 19 = .ok (.aload_n 0, 1) := by decide +kernel
theorem dW_20 : decode code 20 = .ok (.arraylength, 1) := by decide +kernel
theorem dW_21 : decode code 21 = .ok (.bipush 6, 2) := by decide +kernel
theorem dW_23 : decode code 23 = .ok (.isub, 1) := by decide +kernel
theorem dW_24 : decode code 24 = .ok (.if_icmp .gt 902, 3) := by decide +kernel
theorem dW_27 : decode code 27 = .ok (.aload_n 0, 1) := by decide +kernel
theorem dW_28 : decode code 28 = .ok (.iload_n 3, 1) := by decide +kernel
theorem dW_29 : decode code 29 = .ok (.iaload, 1) := by decide +kernel
theorem dW_30 : decode code 30 = .ok (.bipush 31, 2) := by decide +kernel
theorem dW_32 : decode code 32 = .ok (.iand, 1) := by decide +kernel
theorem dW_33 : decode code 33 = .ok (.tableswitch 887 0 25 #[119, 142, 165, 208, 261, 294, 347, 370, 403, 436, 469, 502, 565, 588, 611, 644, 657, 680, 703, 726, 749, 762, 775, 808, 831, 864], 119) := by decide +kernel
theorem dW_152 : decode code 152 = .ok (.aload_n 1, 1) := by decide +kernel
theorem dW_153 : decode code 153 = .ok (.aload_n 0, 1) := by decide +kernel
theorem dW_154 : decode code 154 = .ok (.iload_n 3, 1) := by decide +kernel
theorem dW_155 : decode code 155 = .ok (.iconst 1, 1) := by decide +kernel
theorem dW_156 : decode code 156 = .ok (.iadd, 1) := by decide +kernel
theorem dW_157 : decode code 157 = .ok (.iaload, 1) := by decide +kernel
theorem dW_158 : decode code 158 = .ok (.invokevirtual 13, 3) := by decide +kernel
theorem dW_161 : decode code 161 = .ok (.aload_n 2, 1) := by decide +kernel
theorem dW_162 : decode code 162 = .ok (.aload_n 0, 1) := by decide +kernel
theorem dW_163 : decode code 163 = .ok (.iload_n 3, 1) := by decide +kernel
theorem dW_164 : decode code 164 = .ok (.iconst 1, 1) := by decide +kernel
theorem dW_165 : decode code 165 = .ok (.iadd, 1) := by decide +kernel
theorem dW_166 : decode code 166 = .ok (.iaload, 1) := by decide +kernel
theorem dW_167 : decode code 167 = .ok (.invokevirtual 17, 3) := by decide +kernel
theorem dW_170 : decode code 170 = .ok (.if_icmp .eq 750, 3) := by decide +kernel
theorem dW_173 : decode code 173 = .ok (.iconst 0, 1) := by decide +kernel
theorem dW_174 : decode code 174 = .ok (.ireturn, 1) := by decide +kernel
theorem dW_175 : decode code 175 = .ok (.aload_n 1, 1) := by decide +kernel
theorem dW_176 : decode code 176 = .ok (.aload_n 0, 1) := by decide +kernel
theorem dW_177 : decode code 177 = .ok (.iload_n 3, 1) := by decide +kernel
theorem dW_178 : decode code 178 = .ok (.iconst 1, 1) := by decide +kernel
theorem dW_179 : decode code 179 = .ok (.iadd, 1) := by decide +kernel
theorem dW_180 : decode code 180 = .ok (.iaload, 1) := by decide +kernel
theorem dW_181 : decode code 181 = .ok (.invokevirtual 18, 3) := by decide +kernel
theorem dW_184 : decode code 184 = .ok (.aload_n 2, 1) := by decide +kernel
theorem dW_185 : decode code 185 = .ok (.aload_n 0, 1) := by decide +kernel
theorem dW_186 : decode code 186 = .ok (.iload_n 3, 1) := by decide +kernel
theorem dW_187 : decode code 187 = .ok (.iconst 1, 1) := by decide +kernel
theorem dW_188 : decode code 188 = .ok (.iadd, 1) := by decide +kernel
theorem dW_189 : decode code 189 = .ok (.iaload, 1) := by decide +kernel
theorem dW_190 : decode code 190 = .ok (.invokevirtual 21, 3) := by decide +kernel
theorem dW_193 : decode code 193 = .ok (.if_icmp .eq 727, 3) := by decide +kernel
theorem dW_196 : decode code 196 = .ok (.iconst 0, 1) := by decide +kernel
theorem dW_197 : decode code 197 = .ok (.ireturn, 1) := by decide +kernel
theorem dW_198 : decode code 198 = .ok (.aload_n 1, 1) := by decide +kernel
theorem dW_199 : decode code 199 = .ok (.aload_n 0, 1) := by decide +kernel
theorem dW_200 : decode code 200 = .ok (.iload_n 3, 1) := by decide +kernel
theorem dW_201 : decode code 201 = .ok (.iconst 1, 1) := by decide +kernel
theorem dW_202 : decode code 202 = .ok (.iadd, 1) := by decide +kernel
theorem dW_203 : decode code 203 = .ok (.iaload, 1) := by decide +kernel
theorem dW_204 : decode code 204 = .ok (.aload_n 0, 1) := by decide +kernel
theorem dW_205 : decode code 205 = .ok (.iload_n 3, 1) := by decide +kernel
theorem dW_206 : decode code 206 = .ok (.iconst 2, 1) := by decide +kernel
theorem dW_207 : decode code 207 = .ok (.iadd, 1) := by decide +kernel
theorem dW_208 : decode code 208 = .ok (.iaload, 1) := by decide +kernel
theorem dW_209 : decode code 209 = .ok (.aload_n 0, 1) := by decide +kernel
theorem dW_210 : decode code 210 = .ok (.iload_n 3, 1) := by decide +kernel
theorem dW_211 : decode code 211 = .ok (.iconst 3, 1) := by decide +kernel
theorem dW_212 : decode code 212 = .ok (.iadd, 1) := by decide +kernel
theorem dW_213 : decode code 213 = .ok (.iaload, 1) := by decide +kernel
theorem dW_214 : decode code 214 = .ok (.invokevirtual 22, 3) := by decide +kernel
theorem dW_217 : decode code 217 = .ok (.aload_n 2, 1) := by decide +kernel
theorem dW_218 : decode code 218 = .ok (.aload_n 0, 1) := by decide +kernel
theorem dW_219 : decode code 219 = .ok (.iload_n 3, 1) := by decide +kernel
theorem dW_220 : decode code 220 = .ok (.iconst 1, 1) := by decide +kernel
theorem dW_221 : decode code 221 = .ok (.iadd, 1) := by decide +kernel
theorem dW_222 : decode code 222 = .ok (.iaload, 1) := by decide +kernel
theorem dW_223 : decode code 223 = .ok (.aload_n 0, 1) := by decide +kernel
theorem dW_224 : decode code 224 = .ok (.iload_n 3, 1) := by decide +kernel
theorem dW_225 : decode code 225 = .ok (.iconst 2, 1) := by decide +kernel
theorem dW_226 : decode code 226 = .ok (.iadd, 1) := by decide +kernel
theorem dW_227 : decode code 227 = .ok (.iaload, 1) := by decide +kernel
theorem dW_228 : decode code 228 = .ok (.aload_n 0, 1) := by decide +kernel
theorem dW_229 : decode code 229 = .ok (.iload_n 3, 1) := by decide +kernel
theorem dW_230 : decode code 230 = .ok (.iconst 3, 1) := by decide +kernel
theorem dW_231 : decode code 231 = .ok (.iadd, 1) := by decide +kernel
theorem dW_232 : decode code 232 = .ok (.iaload, 1) := by decide +kernel
theorem dW_233 : decode code 233 = .ok (.invokevirtual 26, 3) := by decide +kernel
theorem dW_236 : decode code 236 = .ok (.if_icmp .eq 684, 3) := by decide +kernel
theorem dW_239 : decode code 239 = .ok (.iconst 0, 1) := by decide +kernel
theorem dW_240 : decode code 240 = .ok (.ireturn, 1) := by decide +kernel
theorem dW_241 : decode code 241 = .ok (.aload_n 1, 1) := by decide +kernel
theorem dW_242 : decode code 242 = .ok (.aload_n 0, 1) := by decide +kernel
theorem dW_243 : decode code 243 = .ok (.iload_n 3, 1) := by decide +kernel
theorem dW_244 : decode code 244 = .ok (.iconst 1, 1) := by decide +kernel
theorem dW_245 : decode code 245 = .ok (.iadd, 1) := by decide +kernel
theorem dW_246 : decode code 246 = .ok (.iaload, 1) := by decide +kernel
theorem dW_247 : decode code 247 = .ok (.aload_n 0, 1) := by decide +kernel
theorem dW_248 : decode code 248 = .ok (.iload_n 3, 1) := by decide +kernel
theorem dW_249 : decode code 249 = .ok (.iconst 2, 1) := by decide +kernel
theorem dW_250 : decode code 250 = .ok (.iadd, 1) := by decide +kernel
theorem dW_251 : decode code 251 = .ok (.iaload, 1) := by decide +kernel
theorem dW_252 : decode code 252 = .ok (.aload_n 0, 1) := by decide +kernel
theorem dW_253 : decode code 253 = .ok (.iload_n 3, 1) := by decide +kernel
theorem dW_254 : decode code 254 = .ok (.iconst 3, 1) := by decide +kernel
theorem dW_255 : decode code 255 = .ok (.iadd, 1) := by decide +kernel
theorem dW_256 : decode code 256 = .ok (.iaload, 1) := by decide +kernel
theorem dW_257 : decode code 257 = .ok (.aload_n 0, 1) := by decide +kernel
theorem dW_258 : decode code 258 = .ok (.iload_n 3, 1) := by decide +kernel
theorem dW_259 : decode code 259 = .ok (.iconst 4, 1) := by decide +kernel
theorem dW_260 : decode code 260 = .ok (.iadd, 1) := by decide +kernel
theorem dW_261 : decode code 261 = .ok (.iaload, 1) := by decide +kernel
theorem dW_262 : decode code 262 = .ok (.invokevirtual 27, 3) := by decide +kernel
theorem dW_265 : decode code 265 = .ok (.aload_n 2, 1) := by decide +kernel
theorem dW_266 : decode code 266 = .ok (.aload_n 0, 1) := by decide +kernel
theorem dW_267 : decode code 267 = .ok (.iload_n 3, 1) := by decide +kernel
theorem dW_268 : decode code 268 = .ok (.iconst 1, 1) := by decide +kernel
theorem dW_269 : decode code 269 = .ok (.iadd, 1) := by decide +kernel
theorem dW_270 : decode code 270 = .ok (.iaload, 1) := by decide +kernel
theorem dW_271 : decode code 271 = .ok (.aload_n 0, 1) := by decide +kernel
theorem dW_272 : decode code 272 = .ok (.iload_n 3, 1) := by decide +kernel
theorem dW_273 : decode code 273 = .ok (.iconst 2, 1) := by decide +kernel
theorem dW_274 : decode code 274 = .ok (.iadd, 1) := by decide +kernel
theorem dW_275 : decode code 275 = .ok (.iaload, 1) := by decide +kernel
theorem dW_276 : decode code 276 = .ok (.aload_n 0, 1) := by decide +kernel
theorem dW_277 : decode code 277 = .ok (.iload_n 3, 1) := by decide +kernel
theorem dW_278 : decode code 278 = .ok (.iconst 3, 1) := by decide +kernel
theorem dW_279 : decode code 279 = .ok (.iadd, 1) := by decide +kernel
theorem dW_280 : decode code 280 = .ok (.iaload, 1) := by decide +kernel
theorem dW_281 : decode code 281 = .ok (.aload_n 0, 1) := by decide +kernel
theorem dW_282 : decode code 282 = .ok (.iload_n 3, 1) := by decide +kernel
theorem dW_283 : decode code 283 = .ok (.iconst 4, 1) := by decide +kernel
theorem dW_284 : decode code 284 = .ok (.iadd, 1) := by decide +kernel
theorem dW_285 : decode code 285 = .ok (.iaload, 1) := by decide +kernel
theorem dW_286 : decode code 286 = .ok (.invokevirtual 31, 3) := by decide +kernel
theorem dW_289 : decode code 289 = .ok (.if_icmp .eq 631, 3) := by decide +kernel
theorem dW_292 : decode code 292 = .ok (.iconst 0, 1) := by decide +kernel
theorem dW_293 : decode code 293 = .ok (.ireturn, 1) := by decide +kernel
theorem dW_294 : decode code 294 = .ok (.aload_n 1, 1) := by decide +kernel
theorem dW_295 : decode code 295 = .ok (.aload_n 0, 1) := by decide +kernel
theorem dW_296 : decode code 296 = .ok (.iload_n 3, 1) := by decide +kernel
theorem dW_297 : decode code 297 = .ok (.iconst 1, 1) := by decide +kernel
theorem dW_298 : decode code 298 = .ok (.iadd, 1) := by decide +kernel
theorem dW_299 : decode code 299 = .ok (.iaload, 1) := by decide +kernel
theorem dW_300 : decode code 300 = .ok (.aload_n 0, 1) := by decide +kernel
theorem dW_301 : decode code 301 = .ok (.iload_n 3, 1) := by decide +kernel
theorem dW_302 : decode code 302 = .ok (.iconst 2, 1) := by decide +kernel
theorem dW_303 : decode code 303 = .ok (.iadd, 1) := by decide +kernel
theorem dW_304 : decode code 304 = .ok (.iaload, 1) := by decide +kernel
theorem dW_305 : decode code 305 = .ok (.invokevirtual 32, 3) := by decide +kernel
theorem dW_308 : decode code 308 = .ok (.aload_n 2, 1) := by decide +kernel
theorem dW_309 : decode code 309 = .ok (.aload_n 0, 1) := by decide +kernel
theorem dW_310 : decode code 310 = .ok (.iload_n 3, 1) := by decide +kernel
theorem dW_311 : decode code 311 = .ok (.iconst 1, 1) := by decide +kernel
theorem dW_312 : decode code 312 = .ok (.iadd, 1) := by decide +kernel
theorem dW_313 : decode code 313 = .ok (.iaload, 1) := by decide +kernel
theorem dW_314 : decode code 314 = .ok (.aload_n 0, 1) := by decide +kernel
theorem dW_315 : decode code 315 = .ok (.iload_n 3, 1) := by decide +kernel
theorem dW_316 : decode code 316 = .ok (.iconst 2, 1) := by decide +kernel
theorem dW_317 : decode code 317 = .ok (.iadd, 1) := by decide +kernel
theorem dW_318 : decode code 318 = .ok (.iaload, 1) := by decide +kernel
theorem dW_319 : decode code 319 = .ok (.invokevirtual 36, 3) := by decide +kernel
theorem dW_322 : decode code 322 = .ok (.if_icmp .eq 598, 3) := by decide +kernel
theorem dW_325 : decode code 325 = .ok (.iconst 0, 1) := by decide +kernel
theorem dW_326 : decode code 326 = .ok (.ireturn, 1) := by decide +kernel
theorem dW_327 : decode code 327 = .ok (.aload_n 1, 1) := by decide +kernel
theorem dW_328 : decode code 328 = .ok (.aload_n 0, 1) := by decide +kernel
theorem dW_329 : decode code 329 = .ok (.iload_n 3, 1) := by decide +kernel
theorem dW_330 : decode code 330 = .ok (.iconst 1, 1) := by decide +kernel
theorem dW_331 : decode code 331 = .ok (.iadd, 1) := by decide +kernel
theorem dW_332 : decode code 332 = .ok (.iaload, 1) := by decide +kernel
theorem dW_333 : decode code 333 = .ok (.aload_n 0, 1) := by decide +kernel
theorem dW_334 : decode code 334 = .ok (.iload_n 3, 1) := by decide +kernel
theorem dW_335 : decode code 335 = .ok (.iconst 2, 1) := by decide +kernel
theorem dW_336 : decode code 336 = .ok (.iadd, 1) := by decide +kernel
theorem dW_337 : decode code 337 = .ok (.iaload, 1) := by decide +kernel
theorem dW_338 : decode code 338 = .ok (.aload_n 0, 1) := by decide +kernel
theorem dW_339 : decode code 339 = .ok (.iload_n 3, 1) := by decide +kernel
theorem dW_340 : decode code 340 = .ok (.iconst 3, 1) := by decide +kernel
theorem dW_341 : decode code 341 = .ok (.iadd, 1) := by decide +kernel
theorem dW_342 : decode code 342 = .ok (.iaload, 1) := by decide +kernel
theorem dW_343 : decode code 343 = .ok (.aload_n 0, 1) := by decide +kernel
theorem dW_344 : decode code 344 = .ok (.iload_n 3, 1) := by decide +kernel
theorem dW_345 : decode code 345 = .ok (.iconst 4, 1) := by decide +kernel
theorem dW_346 : decode code 346 = .ok (.iadd, 1) := by decide +kernel
theorem dW_347 : decode code 347 = .ok (.iaload, 1) := by decide +kernel
theorem dW_348 : decode code 348 = .ok (.invokevirtual 37, 3) := by decide +kernel
theorem dW_351 : decode code 351 = .ok (.aload_n 2, 1) := by decide +kernel
theorem dW_352 : decode code 352 = .ok (.aload_n 0, 1) := by decide +kernel
theorem dW_353 : decode code 353 = .ok (.iload_n 3, 1) := by decide +kernel
theorem dW_354 : decode code 354 = .ok (.iconst 1, 1) := by decide +kernel
theorem dW_355 : decode code 355 = .ok (.iadd, 1) := by decide +kernel
theorem dW_356 : decode code 356 = .ok (.iaload, 1) := by decide +kernel
theorem dW_357 : decode code 357 = .ok (.aload_n 0, 1) := by decide +kernel
theorem dW_358 : decode code 358 = .ok (.iload_n 3, 1) := by decide +kernel
theorem dW_359 : decode code 359 = .ok (.iconst 2, 1) := by decide +kernel
theorem dW_360 : decode code 360 = .ok (.iadd, 1) := by decide +kernel
theorem dW_361 : decode code 361 = .ok (.iaload, 1) := by decide +kernel
theorem dW_362 : decode code 362 = .ok (.aload_n 0, 1) := by decide +kernel
theorem dW_363 : decode code 363 = .ok (.iload_n 3, 1) := by decide +kernel
theorem dW_364 : decode code 364 = .ok (.iconst 3, 1) := by decide +kernel
theorem dW_365 : decode code 365 = .ok (.iadd, 1) := by decide +kernel
theorem dW_366 : decode code 366 = .ok (.iaload, 1) := by decide +kernel
theorem dW_367 : decode code 367 = .ok (.aload_n 0, 1) := by decide +kernel
theorem dW_368 : decode code 368 = .ok (.iload_n 3, 1) := by decide +kernel
theorem dW_369 : decode code 369 = .ok (.iconst 4, 1) := by decide +kernel
theorem dW_370 : decode code 370 = .ok (.iadd, 1) := by decide +kernel
theorem dW_371 : decode code 371 = .ok (.iaload, 1) := by decide +kernel
theorem dW_372 : decode code 372 = .ok (.invokevirtual 40, 3) := by decide +kernel
theorem dW_375 : decode code 375 = .ok (.if_icmp .eq 545, 3) := by decide +kernel
theorem dW_378 : decode code 378 = .ok (.iconst 0, 1) := by decide +kernel
theorem dW_379 : decode code 379 = .ok (.ireturn, 1) := by decide +kernel
theorem dW_380 : decode code 380 = .ok (.aload_n 1, 1) := by decide +kernel
theorem dW_381 : decode code 381 = .ok (.aload_n 0, 1) := by decide +kernel
theorem dW_382 : decode code 382 = .ok (.iload_n 3, 1) := by decide +kernel
theorem dW_383 : decode code 383 = .ok (.iconst 1, 1) := by decide +kernel
theorem dW_384 : decode code 384 = .ok (.iadd, 1) := by decide +kernel
theorem dW_385 : decode code 385 = .ok (.iaload, 1) := by decide +kernel
theorem dW_386 : decode code 386 = .ok (.invokevirtual 41, 3) := by decide +kernel
theorem dW_389 : decode code 389 = .ok (.aload_n 2, 1) := by decide +kernel
theorem dW_390 : decode code 390 = .ok (.aload_n 0, 1) := by decide +kernel
theorem dW_391 : decode code 391 = .ok (.iload_n 3, 1) := by decide +kernel
theorem dW_392 : decode code 392 = .ok (.iconst 1, 1) := by decide +kernel
theorem dW_393 : decode code 393 = .ok (.iadd, 1) := by decide +kernel
theorem dW_394 : decode code 394 = .ok (.iaload, 1) := by decide +kernel
theorem dW_395 : decode code 395 = .ok (.invokevirtual 44, 3) := by decide +kernel
theorem dW_398 : decode code 398 = .ok (.if_icmp .eq 522, 3) := by decide +kernel
theorem dW_401 : decode code 401 = .ok (.iconst 0, 1) := by decide +kernel
theorem dW_402 : decode code 402 = .ok (.ireturn, 1) := by decide +kernel
theorem dW_403 : decode code 403 = .ok (.aload_n 1, 1) := by decide +kernel
theorem dW_404 : decode code 404 = .ok (.aload_n 0, 1) := by decide +kernel
theorem dW_405 : decode code 405 = .ok (.iload_n 3, 1) := by decide +kernel
theorem dW_406 : decode code 406 = .ok (.iconst 1, 1) := by decide +kernel
theorem dW_407 : decode code 407 = .ok (.iadd, 1) := by decide +kernel
theorem dW_408 : decode code 408 = .ok (.iaload, 1) := by decide +kernel
theorem dW_409 : decode code 409 = .ok (.aload_n 0, 1) := by decide +kernel
theorem dW_410 : decode code 410 = .ok (.iload_n 3, 1) := by decide +kernel
theorem dW_411 : decode code 411 = .ok (.iconst 2, 1) := by decide +kernel
theorem dW_412 : decode code 412 = .ok (.iadd, 1) := by decide +kernel
theorem dW_413 : decode code 413 = .ok (.iaload, 1) := by decide +kernel
theorem dW_414 : decode code 414 = .ok (.invokevirtual 45, 3) := by decide +kernel
theorem dW_417 : decode code 417 = .ok (.aload_n 2, 1) := by decide +kernel
theorem dW_418 : decode code 418 = .ok (.aload_n 0, 1) := by decide +kernel
theorem dW_419 : decode code 419 = .ok (.iload_n 3, 1) := by decide +kernel
theorem dW_420 : decode code 420 = .ok (.iconst 1, 1) := by decide +kernel
theorem dW_421 : decode code 421 = .ok (.iadd, 1) := by decide +kernel
theorem dW_422 : decode code 422 = .ok (.iaload, 1) := by decide +kernel
theorem dW_423 : decode code 423 = .ok (.aload_n 0, 1) := by decide +kernel
theorem dW_424 : decode code 424 = .ok (.iload_n 3, 1) := by decide +kernel
theorem dW_425 : decode code 425 = .ok (.iconst 2, 1) := by decide +kernel
theorem dW_426 : decode code 426 = .ok (.iadd, 1) := by decide +kernel
theorem dW_427 : decode code 427 = .ok (.iaload, 1) := by decide +kernel
theorem dW_428 : decode code 428 = .ok (.invokevirtual 48, 3) := by decide +kernel
theorem dW_431 : decode code 431 = .ok (.if_icmp .eq 489, 3) := by decide +kernel
theorem dW_434 : decode code 434 = .ok (.iconst 0, 1) := by decide +kernel
theorem dW_435 : decode code 435 = .ok (.ireturn, 1) := by decide +kernel
theorem dW_436 : decode code 436 = .ok (.aload_n 1, 1) := by decide +kernel
theorem dW_437 : decode code 437 = .ok (.aload_n 0, 1) := by decide +kernel
theorem dW_438 : decode code 438 = .ok (.iload_n 3, 1) := by decide +kernel
theorem dW_439 : decode code 439 = .ok (.iconst 1, 1) := by decide +kernel
theorem dW_440 : decode code 440 = .ok (.iadd, 1) := by decide +kernel
theorem dW_441 : decode code 441 = .ok (.iaload, 1) := by decide +kernel
theorem dW_442 : decode code 442 = .ok (.aload_n 0, 1) := by decide +kernel
theorem dW_443 : decode code 443 = .ok (.iload_n 3, 1) := by decide +kernel
theorem dW_444 : decode code 444 = .ok (.iconst 2, 1) := by decide +kernel
theorem dW_445 : decode code 445 = .ok (.iadd, 1) := by decide +kernel
theorem dW_446 : decode code 446 = .ok (.iaload, 1) := by decide +kernel
theorem dW_447 : decode code 447 = .ok (.invokevirtual 49, 3) := by decide +kernel
theorem dW_450 : decode code 450 = .ok (.aload_n 2, 1) := by decide +kernel
theorem dW_451 : decode code 451 = .ok (.aload_n 0, 1) := by decide +kernel
theorem dW_452 : decode code 452 = .ok (.iload_n 3, 1) := by decide +kernel
theorem dW_453 : decode code 453 = .ok (.iconst 1, 1) := by decide +kernel
theorem dW_454 : decode code 454 = .ok (.iadd, 1) := by decide +kernel
theorem dW_455 : decode code 455 = .ok (.iaload, 1) := by decide +kernel
theorem dW_456 : decode code 456 = .ok (.aload_n 0, 1) := by decide +kernel
theorem dW_457 : decode code 457 = .ok (.iload_n 3, 1) := by decide +kernel
theorem dW_458 : decode code 458 = .ok (.iconst 2, 1) := by decide +kernel
theorem dW_459 : decode code 459 = .ok (.iadd, 1) := by decide +kernel
theorem dW_460 : decode code 460 = .ok (.iaload, 1) := by decide +kernel
theorem dW_461 : decode code 461 = .ok (.invokevirtual 52, 3) := by decide +kernel
theorem dW_464 : decode code 464 = .ok (.if_icmp .eq 456, 3) := by decide +kernel
theorem dW_467 : decode code 467 = .ok (.iconst 0, 1) := by decide +kernel
theorem dW_468 : decode code 468 = .ok (.ireturn, 1) := by decide +kernel
theorem dW_469 : decode code 469 = .ok (.aload_n 1, 1) := by decide +kernel
theorem dW_470 : decode code 470 = .ok (.aload_n 0, 1) := by decide +kernel
theorem dW_471 : decode code 471 = .ok (.iload_n 3, 1) := by decide +kernel
theorem dW_472 : decode code 472 = .ok (.iconst 1, 1) := by decide +kernel
theorem dW_473 : decode code 473 = .ok (.iadd, 1) := by decide +kernel
theorem dW_474 : decode code 474 = .ok (.iaload, 1) := by decide +kernel
theorem dW_475 : decode code 475 = .ok (.aload_n 0, 1) := by decide +kernel
theorem dW_476 : decode code 476 = .ok (.iload_n 3, 1) := by decide +kernel
theorem dW_477 : decode code 477 = .ok (.iconst 2, 1) := by decide +kernel
theorem dW_478 : decode code 478 = .ok (.iadd, 1) := by decide +kernel
theorem dW_479 : decode code 479 = .ok (.iaload, 1) := by decide +kernel
theorem dW_480 : decode code 480 = .ok (.invokevirtual 53, 3) := by decide +kernel
theorem dW_483 : decode code 483 = .ok (.aload_n 2, 1) := by decide +kernel
theorem dW_484 : decode code 484 = .ok (.aload_n 0, 1) := by decide +kernel
theorem dW_485 : decode code 485 = .ok (.iload_n 3, 1) := by decide +kernel
theorem dW_486 : decode code 486 = .ok (.iconst 1, 1) := by decide +kernel
theorem dW_487 : decode code 487 = .ok (.iadd, 1) := by decide +kernel
theorem dW_488 : decode code 488 = .ok (.iaload, 1) := by decide +kernel
theorem dW_489 : decode code 489 = .ok (.aload_n 0, 1) := by decide +kernel
theorem dW_490 : decode code 490 = .ok (.iload_n 3, 1) := by decide +kernel
theorem dW_491 : decode code 491 = .ok (.iconst 2, 1) := by decide +kernel
theorem dW_492 : decode code 492 = .ok (.iadd, 1) := by decide +kernel
theorem dW_493 : decode code 493 = .ok (.iaload, 1) := by decide +kernel
theorem dW_494 : decode code 494 = .ok (.invokevirtual 56, 3) := by decide +kernel
theorem dW_497 : decode code 497 = .ok (.if_icmp .eq 423, 3) := by decide +kernel
theorem dW_500 : decode code 500 = .ok (.iconst 0, 1) := by decide +kernel
theorem dW_501 : decode code 501 = .ok (.ireturn, 1) := by decide +kernel
theorem dW_502 : decode code 502 = .ok (.aload_n 1, 1) := by decide +kernel
theorem dW_503 : decode code 503 = .ok (.aload_n 0, 1) := by decide +kernel
theorem dW_504 : decode code 504 = .ok (.iload_n 3, 1) := by decide +kernel
theorem dW_505 : decode code 505 = .ok (.iconst 1, 1) := by decide +kernel
theorem dW_506 : decode code 506 = .ok (.iadd, 1) := by decide +kernel
theorem dW_507 : decode code 507 = .ok (.iaload, 1) := by decide +kernel
theorem dW_508 : decode code 508 = .ok (.aload_n 0, 1) := by decide +kernel
theorem dW_509 : decode code 509 = .ok (.iload_n 3, 1) := by decide +kernel
theorem dW_510 : decode code 510 = .ok (.iconst 2, 1) := by decide +kernel
theorem dW_511 : decode code 511 = .ok (.iadd, 1) := by decide +kernel
theorem dW_512 : decode code 512 = .ok (.iaload, 1) := by decide +kernel
theorem dW_513 : decode code 513 = .ok (.invokevirtual 57, 3) := by decide +kernel
theorem dW_516 : decode code 516 = .ok (.aload_n 2, 1) := by decide +kernel
theorem dW_517 : decode code 517 = .ok (.aload_n 0, 1) := by decide +kernel
theorem dW_518 : decode code 518 = .ok (.iload_n 3, 1) := by decide +kernel
theorem dW_519 : decode code 519 = .ok (.iconst 1, 1) := by decide +kernel
theorem dW_520 : decode code 520 = .ok (.iadd, 1) := by decide +kernel
theorem dW_521 : decode code 521 = .ok (.iaload, 1) := by decide +kernel
theorem dW_522 : decode code 522 = .ok (.aload_n 0, 1) := by decide +kernel
theorem dW_523 : decode code 523 = .ok (.iload_n 3, 1) := by decide +kernel
theorem dW_524 : decode code 524 = .ok (.iconst 2, 1) := by decide +kernel
theorem dW_525 : decode code 525 = .ok (.iadd, 1) := by decide +kernel
theorem dW_526 : decode code 526 = .ok (.iaload, 1) := by decide +kernel
theorem dW_527 : decode code 527 = .ok (.invokevirtual 60, 3) := by decide +kernel
theorem dW_530 : decode code 530 = .ok (.if_icmp .eq 390, 3) := by decide +kernel
theorem dW_533 : decode code 533 = .ok (.iconst 0, 1) := by decide +kernel
theorem dW_534 : decode code 534 = .ok (.ireturn, 1) := by decide +kernel
theorem dW_535 : decode code 535 = .ok (.aload_n 1, 1) := by decide +kernel
theorem dW_536 : decode code 536 = .ok (.aload_n 0, 1) := by decide +kernel
theorem dW_537 : decode code 537 = .ok (.iload_n 3, 1) := by decide +kernel
theorem dW_538 : decode code 538 = .ok (.iconst 1, 1) := by decide +kernel
theorem dW_539 : decode code 539 = .ok (.iadd, 1) := by decide +kernel
theorem dW_540 : decode code 540 = .ok (.iaload, 1) := by decide +kernel
theorem dW_541 : decode code 541 = .ok (.aload_n 0, 1) := by decide +kernel
theorem dW_542 : decode code 542 = .ok (.iload_n 3, 1) := by decide +kernel
theorem dW_543 : decode code 543 = .ok (.iconst 2, 1) := by decide +kernel
theorem dW_544 : decode code 544 = .ok (.iadd, 1) := by decide +kernel
theorem dW_545 : decode code 545 = .ok (.iaload, 1) := by decide +kernel
theorem dW_546 : decode code 546 = .ok (.aload_n 0, 1) := by decide +kernel
theorem dW_547 : decode code 547 = .ok (.iload_n 3, 1) := by decide +kernel
theorem dW_548 : decode code 548 = .ok (.iconst 3, 1) := by decide +kernel
theorem dW_549 : decode code 549 = .ok (.iadd, 1) := by decide +kernel
theorem dW_550 : decode code 550 = .ok (.iaload, 1) := by decide +kernel
theorem dW_551 : decode code 551 = .ok (.aload_n 0, 1) := by decide +kernel
theorem dW_552 : decode code 552 = .ok (.iload_n 3, 1) := by decide +kernel
theorem dW_553 : decode code 553 = .ok (.iconst 4, 1) := by decide +kernel
theorem dW_554 : decode code 554 = .ok (.iadd, 1) := by decide +kernel
theorem dW_555 : decode code 555 = .ok (.iaload, 1) := by decide +kernel
theorem dW_556 : decode code 556 = .ok (.aload_n 0, 1) := by decide +kernel
theorem dW_557 : decode code 557 = .ok (.iload_n 3, 1) := by decide +kernel
theorem dW_558 : decode code 558 = .ok (.iconst 5, 1) := by decide +kernel
theorem dW_559 : decode code 559 = .ok (.iadd, 1) := by decide +kernel
theorem dW_560 : decode code 560 = .ok (.iaload, 1) := by decide +kernel
theorem dW_561 : decode code 561 = .ok (.invokevirtual 61, 3) := by decide +kernel
theorem dW_564 : decode code 564 = .ok (.aload_n 2, 1) := by decide +kernel
theorem dW_565 : decode code 565 = .ok (.aload_n 0, 1) := by decide +kernel
theorem dW_566 : decode code 566 = .ok (.iload_n 3, 1) := by decide +kernel
theorem dW_567 : decode code 567 = .ok (.iconst 1, 1) := by decide +kernel
theorem dW_568 : decode code 568 = .ok (.iadd, 1) := by decide +kernel
theorem dW_569 : decode code 569 = .ok (.iaload, 1) := by decide +kernel
theorem dW_570 : decode code 570 = .ok (.aload_n 0, 1) := by decide +kernel
theorem dW_571 : decode code 571 = .ok (.iload_n 3, 1) := by decide +kernel
theorem dW_572 : decode code 572 = .ok (.iconst 2, 1) := by decide +kernel
theorem dW_573 : decode code 573 = .ok (.iadd, 1) := by decide +kernel
theorem dW_574 : decode code 574 = .ok (.iaload, 1) := by decide +kernel
theorem dW_575 : decode code 575 = .ok (.aload_n 0, 1) := by decide +kernel
theorem dW_576 : decode code 576 = .ok (.iload_n 3, 1) := by decide +kernel
theorem dW_577 : decode code 577 = .ok (.iconst 3, 1) := by decide +kernel
theorem dW_578 : decode code 578 = .ok (.iadd, 1) := by decide +kernel
theorem dW_579 : decode code 579 = .ok (.iaload, 1) := by decide +kernel
theorem dW_580 : decode code 580 = .ok (.aload_n 0, 1) := by decide +kernel
theorem dW_581 : decode code 581 = .ok (.iload_n 3, 1) := by decide +kernel
theorem dW_582 : decode code 582 = .ok (.iconst 4, 1) := by decide +kernel
theorem dW_583 : decode code 583 = .ok (.iadd, 1) := by decide +kernel
theorem dW_584 : decode code 584 = .ok (.iaload, 1) := by decide +kernel
theorem dW_585 : decode code 585 = .ok (.aload_n 0, 1) := by decide +kernel
theorem dW_586 : decode code 586 = .ok (.iload_n 3, 1) := by decide +kernel
theorem dW_587 : decode code 587 = .ok (.iconst 5, 1) := by decide +kernel
theorem dW_588 : decode code 588 = .ok (.iadd, 1) := by decide +kernel
theorem dW_589 : decode code 589 = .ok (.iaload, 1) := by decide +kernel
theorem dW_590 : decode code 590 = .ok (.invokevirtual 65, 3) := by decide +kernel
theorem dW_593 : decode code 593 = .ok (.if_icmp .eq 327, 3) := by decide +kernel
theorem dW_596 : decode code 596 = .ok (.iconst 0, 1) := by decide +kernel
theorem dW_597 : decode code 597 = .ok (.ireturn, 1) := by decide +kernel
theorem dW_598 : decode code 598 = .ok (.aload_n 1, 1) := by decide +kernel
theorem dW_599 : decode code 599 = .ok (.aload_n 0, 1) := by decide +kernel
theorem dW_600 : decode code 600 = .ok (.iload_n 3, 1) := by decide +kernel
theorem dW_601 : decode code 601 = .ok (.iconst 1, 1) := by decide +kernel
theorem dW_602 : decode code 602 = .ok (.iadd, 1) := by decide +kernel
theorem dW_603 : decode code 603 = .ok (.iaload, 1) := by decide +kernel
theorem dW_604 : decode code 604 = .ok (.invokevirtual 66, 3) := by decide +kernel
theorem dW_607 : decode code 607 = .ok (.aload_n 2, 1) := by decide +kernel
theorem dW_608 : decode code 608 = .ok (.aload_n 0, 1) := by decide +kernel
theorem dW_609 : decode code 609 = .ok (.iload_n 3, 1) := by decide +kernel
theorem dW_610 : decode code 610 = .ok (.iconst 1, 1) := by decide +kernel
theorem dW_611 : decode code 611 = .ok (.iadd, 1) := by decide +kernel
theorem dW_612 : decode code 612 = .ok (.iaload, 1) := by decide +kernel
theorem dW_613 : decode code 613 = .ok (.invokevirtual 69, 3) := by decide +kernel
theorem dW_616 : decode code 616 = .ok (.if_icmp .eq 304, 3) := by decide +kernel
theorem dW_619 : decode code 619 = .ok (.iconst 0, 1) := by decide +kernel
theorem dW_620 : decode code 620 = .ok (.ireturn, 1) := by decide +kernel
theorem dW_621 : decode code 621 = .ok (.aload_n 1, 1) := by decide +kernel
theorem dW_622 : decode code 622 = .ok (.aload_n 0, 1) := by decide +kernel
theorem dW_623 : decode code 623 = .ok (.iload_n 3, 1) := by decide +kernel
theorem dW_624 : decode code 624 = .ok (.iconst 1, 1) := by decide +kernel
theorem dW_625 : decode code 625 = .ok (.iadd, 1) := by decide +kernel
theorem dW_626 : decode code 626 = .ok (.iaload, 1) := by decide +kernel
theorem dW_627 : decode code 627 = .ok (.invokevirtual 70, 3) := by decide +kernel
theorem dW_630 : decode code 630 = .ok (.aload_n 2, 1) := by decide +kernel
theorem dW_631 : decode code 631 = .ok (.aload_n 0, 1) := by decide +kernel
theorem dW_632 : decode code 632 = .ok (.iload_n 3, 1) := by decide +kernel
theorem dW_633 : decode code 633 = .ok (.iconst 1, 1) := by decide +kernel
theorem dW_634 : decode code 634 = .ok (.iadd, 1) := by decide +kernel
theorem dW_635 : decode code 635 = .ok (.iaload, 1) := by decide +kernel
theorem dW_636 : decode code 636 = .ok (.invokevirtual 73, 3) := by decide +kernel
theorem dW_639 : decode code 639 = .ok (.if_icmp .eq 281, 3) := by decide +kernel
theorem dW_642 : decode code 642 = .ok (.iconst 0, 1) := by decide +kernel
theorem dW_643 : decode code 643 = .ok (.ireturn, 1) := by decide +kernel
theorem dW_644 : decode code 644 = .ok (.aload_n 1, 1) := by decide +kernel
theorem dW_645 : decode code 645 = .ok (.aload_n 0, 1) := by decide +kernel
theorem dW_646 : decode code 646 = .ok (.iload_n 3, 1) := by decide +kernel
theorem dW_647 : decode code 647 = .ok (.iconst 1, 1) := by decide +kernel
theorem dW_648 : decode code 648 = .ok (.iadd, 1) := by decide +kernel
theorem dW_649 : decode code 649 = .ok (.iaload, 1) := by decide +kernel
theorem dW_650 : decode code 650 = .ok (.aload_n 0, 1) := by decide +kernel
theorem dW_651 : decode code 651 = .ok (.iload_n 3, 1) := by decide +kernel
theorem dW_652 : decode code 652 = .ok (.iconst 2, 1) := by decide +kernel
theorem dW_653 : decode code 653 = .ok (.iadd, 1) := by decide +kernel
theorem dW_654 : decode code 654 = .ok (.iaload, 1) := by decide +kernel
theorem dW_655 : decode code 655 = .ok (.invokevirtual 74, 3) := by decide +kernel
theorem dW_658 : decode code 658 = .ok (.aload_n 2, 1) := by decide +kernel
theorem dW_659 : decode code 659 = .ok (.aload_n 0, 1) := by decide +kernel
theorem dW_660 : decode code 660 = .ok (.iload_n 3, 1) := by decide +kernel
theorem dW_661 : decode code 661 = .ok (.iconst 1, 1) := by decide +kernel
theorem dW_662 : decode code 662 = .ok (.iadd, 1) := by decide +kernel
theorem dW_663 : decode code 663 = .ok (.iaload, 1) := by decide +kernel
theorem dW_664 : decode code 664 = .ok (.aload_n 0, 1) := by decide +kernel
theorem dW_665 : decode code 665 = .ok (.iload_n 3, 1) := by decide +kernel
theorem dW_666 : decode code 666 = .ok (.iconst 2, 1) := by decide +kernel
theorem dW_667 : decode code 667 = .ok (.iadd, 1) := by decide +kernel
theorem dW_668 : decode code 668 = .ok (.iaload, 1) := by decide +kernel
theorem dW_669 : decode code 669 = .ok (.invokevirtual 77, 3) := by decide +kernel
theorem dW_672 : decode code 672 = .ok (.if_icmp .eq 248, 3) := by decide +kernel
theorem dW_675 : decode code 675 = .ok (.iconst 0, 1) := by decide +kernel
theorem dW_676 : decode code 676 = .ok (.ireturn, 1) := by decide +kernel
theorem dW_677 : decode code 677 = .ok (.aload_n 1, 1) := by decide +kernel
theorem dW_678 : decode code 678 = .ok (.invokevirtual 78, 3) := by decide +kernel
theorem dW_681 : decode code 681 = .ok (.aload_n 2, 1) := by decide +kernel
theorem dW_682 : decode code 682 = .ok (.invokevirtual 82, 3) := by decide +kernel
theorem dW_685 : decode code 685 = .ok (.if_icmp .eq 235, 3) := by decide +kernel
theorem dW_688 : decode code 688 = .ok (.iconst 0, 1) := by decide +kernel
theorem dW_689 : decode code 689 = .ok (.ireturn, 1) := by decide +kernel
theorem dW_690 : decode code 690 = .ok (.aload_n 1, 1) := by decide +kernel
theorem dW_691 : decode code 691 = .ok (.aload_n 0, 1) := by decide +kernel
theorem dW_692 : decode code 692 = .ok (.iload_n 3, 1) := by decide +kernel
theorem dW_693 : decode code 693 = .ok (.iconst 1, 1) := by decide +kernel
theorem dW_694 : decode code 694 = .ok (.iadd, 1) := by decide +kernel
theorem dW_695 : decode code 695 = .ok (.iaload, 1) := by decide +kernel
theorem dW_696 : decode code 696 = .ok (.invokevirtual 83, 3) := by decide +kernel
theorem dW_699 : decode code 699 = .ok (.aload_n 2, 1) := by decide +kernel
theorem dW_700 : decode code 700 = .ok (.aload_n 0, 1) := by decide +kernel
theorem dW_701 : decode code 701 = .ok (.iload_n 3, 1) := by decide +kernel
theorem dW_702 : decode code 702 = .ok (.iconst 1, 1) := by decide +kernel
theorem dW_703 : decode code 703 = .ok (.iadd, 1) := by decide +kernel
theorem dW_704 : decode code 704 = .ok (.iaload, 1) := by decide +kernel
theorem dW_705 : decode code 705 = .ok (.invokevirtual 86, 3) := by decide +kernel
theorem dW_708 : decode code 708 = .ok (.if_icmp .eq 212, 3) := by decide +kernel
theorem dW_711 : decode code 711 = .ok (.iconst 0, 1) := by decide +kernel
theorem dW_712 : decode code 712 = .ok (.ireturn, 1) := by decide +kernel
theorem dW_713 : decode code 713 = .ok (.aload_n 1, 1) := by decide +kernel
theorem dW_714 : decode code 714 = .ok (.aload_n 0, 1) := by decide +kernel
theorem dW_715 : decode code 715 = .ok (.iload_n 3, 1) := by decide +kernel
theorem dW_716 : decode code 716 = .ok (.iconst 1, 1) := by decide +kernel
theorem dW_717 : decode code 717 = .ok (.iadd, 1) := by decide +kernel
theorem dW_718 : decode code 718 = .ok (.iaload, 1) := by decide +kernel
theorem dW_719 : decode code 719 = .ok (.invokevirtual 87, 3) := by decide +kernel
theorem dW_722 : decode code 722 = .ok (.aload_n 2, 1) := by decide +kernel
theorem dW_723 : decode code 723 = .ok (.aload_n 0, 1) := by decide +kernel
theorem dW_724 : decode code 724 = .ok (.iload_n 3, 1) := by decide +kernel
theorem dW_725 : decode code 725 = .ok (.iconst 1, 1) := by decide +kernel
theorem dW_726 : decode code 726 = .ok (.iadd, 1) := by decide +kernel
theorem dW_727 : decode code 727 = .ok (.iaload, 1) := by decide +kernel
theorem dW_728 : decode code 728 = .ok (.invokevirtual 90, 3) := by decide +kernel
theorem dW_731 : decode code 731 = .ok (.if_icmp .eq 189, 3) := by decide +kernel
theorem dW_734 : decode code 734 = .ok (.iconst 0, 1) := by decide +kernel
theorem dW_735 : decode code 735 = .ok (.ireturn, 1) := by decide +kernel
theorem dW_736 : decode code 736 = .ok (.aload_n 1, 1) := by decide +kernel
theorem dW_737 : decode code 737 = .ok (.aload_n 0, 1) := by decide +kernel
theorem dW_738 : decode code 738 = .ok (.iload_n 3, 1) := by decide +kernel
theorem dW_739 : decode code 739 = .ok (.iconst 1, 1) := by decide +kernel
theorem dW_740 : decode code 740 = .ok (.iadd, 1) := by decide +kernel
theorem dW_741 : decode code 741 = .ok (.iaload, 1) := by decide +kernel
theorem dW_742 : decode code 742 = .ok (.invokevirtual 91, 3) := by decide +kernel
theorem dW_745 : decode code 745 = .ok (.aload_n 2, 1) := by decide +kernel
theorem dW_746 : decode code 746 = .ok (.aload_n 0, 1) := by decide +kernel
theorem dW_747 : decode code 747 = .ok (.iload_n 3, 1) := by decide +kernel
theorem dW_748 : decode code 748 = .ok (.iconst 1, 1) := by decide +kernel
theorem dW_749 : decode code 749 = .ok (.iadd, 1) := by decide +kernel
theorem dW_750 : decode code 750 = .ok (.iaload, 1) := by decide +kernel
theorem dW_751 : decode code 751 = .ok (.invokevirtual 94, 3) := by decide +kernel
theorem dW_754 : decode code 754 = .ok (.if_icmp .eq 166, 3) := by decide +kernel
theorem dW_757 : decode code 757 = .ok (.iconst 0, 1) := by decide +kernel
theorem dW_758 : decode code 758 = .ok (.ireturn, 1) := by decide +kernel
theorem dW_759 : decode code 759 = .ok (.aload_n 1, 1) := by decide +kernel
theorem dW_760 : decode code 760 = .ok (.aload_n 0, 1) := by decide +kernel
theorem dW_761 : decode code 761 = .ok (.iload_n 3, 1) := by decide +kernel
theorem dW_762 : decode code 762 = .ok (.iconst 1, 1) := by decide +kernel
theorem dW_763 : decode code 763 = .ok (.iadd, 1) := by decide +kernel
theorem dW_764 : decode code 764 = .ok (.iaload, 1) := by decide +kernel
theorem dW_765 : decode code 765 = .ok (.invokevirtual 95, 3) := by decide +kernel
theorem dW_768 : decode code 768 = .ok (.aload_n 2, 1) := by decide +kernel
theorem dW_769 : decode code 769 = .ok (.aload_n 0, 1) := by decide +kernel
theorem dW_770 : decode code 770 = .ok (.iload_n 3, 1) := by decide +kernel
theorem dW_771 : decode code 771 = .ok (.iconst 1, 1) := by decide +kernel
theorem dW_772 : decode code 772 = .ok (.iadd, 1) := by decide +kernel
theorem dW_773 : decode code 773 = .ok (.iaload, 1) := by decide +kernel
theorem dW_774 : decode code 774 = .ok (.invokevirtual 98, 3) := by decide +kernel
theorem dW_777 : decode code 777 = .ok (.if_icmp .eq 143, 3) := by decide +kernel
theorem dW_780 : decode code 780 = .ok (.iconst 0, 1) := by decide +kernel
theorem dW_781 : decode code 781 = .ok (.ireturn, 1) := by decide +kernel
theorem dW_782 : decode code 782 = .ok (.aload_n 1, 1) := by decide +kernel
theorem dW_783 : decode code 783 = .ok (.invokevirtual 99, 3) := by decide +kernel
theorem dW_786 : decode code 786 = .ok (.aload_n 2, 1) := by decide +kernel
theorem dW_787 : decode code 787 = .ok (.invokevirtual 102, 3) := by decide +kernel
theorem dW_790 : decode code 790 = .ok (.if_icmp .eq 130, 3) := by decide +kernel
theorem dW_793 : decode code 793 = .ok (.iconst 0, 1) := by decide +kernel
theorem dW_794 : decode code 794 = .ok (.ireturn, 1) := by decide +kernel
theorem dW_795 : decode code 795 = .ok (.aload_n 1, 1) := by decide +kernel
theorem dW_796 : decode code 796 = .ok (.invokevirtual 103, 3) := by decide +kernel
theorem dW_799 : decode code 799 = .ok (.aload_n 2, 1) := by decide +kernel
theorem dW_800 : decode code 800 = .ok (.invokevirtual 106, 3) := by decide +kernel
theorem dW_803 : decode code 803 = .ok (.if_icmp .eq 117, 3) := by decide +kernel
theorem dW_806 : decode code 806 = .ok (.iconst 0, 1) := by decide +kernel
theorem dW_807 : decode code 807 = .ok (.ireturn, 1) := by decide +kernel
theorem dW_808 : decode code 808 = .ok (.aload_n 1, 1) := by decide +kernel
theorem dW_809 : decode code 809 = .ok (.aload_n 0, 1) := by decide +kernel
theorem dW_810 : decode code 810 = .ok (.iload_n 3, 1) := by decide +kernel
theorem dW_811 : decode code 811 = .ok (.iconst 1, 1) := by decide +kernel
theorem dW_812 : decode code 812 = .ok (.iadd, 1) := by decide +kernel
theorem dW_813 : decode code 813 = .ok (.iaload, 1) := by decide +kernel
theorem dW_814 : decode code 814 = .ok (.aload_n 0, 1) := by decide +kernel
theorem dW_815 : decode code 815 = .ok (.iload_n 3, 1) := by decide +kernel
theorem dW_816 : decode code 816 = .ok (.iconst 2, 1) := by decide +kernel
theorem dW_817 : decode code 817 = .ok (.iadd, 1) := by decide +kernel
theorem dW_818 : decode code 818 = .ok (.iaload, 1) := by decide +kernel
theorem dW_819 : decode code 819 = .ok (.invokevirtual 107, 3) := by decide +kernel
theorem dW_822 : decode code 822 = .ok (.aload_n 2, 1) := by decide +kernel
theorem dW_823 : decode code 823 = .ok (.aload_n 0, 1) := by decide +kernel
theorem dW_824 : decode code 824 = .ok (.iload_n 3, 1) := by decide +kernel
theorem dW_825 : decode code 825 = .ok (.iconst 1, 1) := by decide +kernel
theorem dW_826 : decode code 826 = .ok (.iadd, 1) := by decide +kernel
theorem dW_827 : decode code 827 = .ok (.iaload, 1) := by decide +kernel
theorem dW_828 : decode code 828 = .ok (.aload_n 0, 1) := by decide +kernel
theorem dW_829 : decode code 829 = .ok (.iload_n 3, 1) := by decide +kernel
theorem dW_830 : decode code 830 = .ok (.iconst 2, 1) := by decide +kernel
theorem dW_831 : decode code 831 = .ok (.iadd, 1) := by decide +kernel
theorem dW_832 : decode code 832 = .ok (.iaload, 1) := by decide +kernel
theorem dW_833 : decode code 833 = .ok (.invokevirtual 110, 3) := by decide +kernel
theorem dW_836 : decode code 836 = .ok (.if_icmp .eq 84, 3) := by decide +kernel
theorem dW_839 : decode code 839 = .ok (.iconst 0, 1) := by decide +kernel
theorem dW_840 : decode code 840 = .ok (.ireturn, 1) := by decide +kernel
theorem dW_841 : decode code 841 = .ok (.aload_n 1, 1) := by decide +kernel
theorem dW_842 : decode code 842 = .ok (.aload_n 0, 1) := by decide +kernel
theorem dW_843 : decode code 843 = .ok (.iload_n 3, 1) := by decide +kernel
theorem dW_844 : decode code 844 = .ok (.iconst 1, 1) := by decide +kernel
theorem dW_845 : decode code 845 = .ok (.iadd, 1) := by decide +kernel
theorem dW_846 : decode code 846 = .ok (.iaload, 1) := by decide +kernel
theorem dW_847 : decode code 847 = .ok (.invokevirtual 111, 3) := by decide +kernel
theorem dW_850 : decode code 850 = .ok (.aload_n 2, 1) := by decide +kernel
theorem dW_851 : decode code 851 = .ok (.aload_n 0, 1) := by decide +kernel
theorem dW_852 : decode code 852 = .ok (.iload_n 3, 1) := by decide +kernel
theorem dW_853 : decode code 853 = .ok (.iconst 1, 1) := by decide +kernel
theorem dW_854 : decode code 854 = .ok (.iadd, 1) := by decide +kernel
theorem dW_855 : decode code 855 = .ok (.iaload, 1) := by decide +kernel
theorem dW_856 : decode code 856 = .ok (.invokevirtual 114, 3) := by decide +kernel
theorem dW_859 : decode code 859 = .ok (.if_icmp .eq 61, 3) := by decide +kernel
theorem dW_862 : decode code 862 = .ok (.iconst 0, 1) := by decide +kernel
theorem dW_863 : decode code 863 = .ok (.ireturn, 1) := by decide +kernel
theorem dW_864 : decode code 864 = .ok (.aload_n 1, 1) := by decide +kernel
theorem dW_865 : decode code 865 = .ok (.aload_n 0, 1) := by decide +kernel
theorem dW_866 : decode code 866 = .ok (.iload_n 3, 1) := by decide +kernel
theorem dW_867 : decode code 867 = .ok (.iconst 1, 1) := by decide +kernel
theorem dW_868 : decode code 868 = .ok (.iadd, 1) := by decide +kernel
theorem dW_869 : decode code 869 = .ok (.iaload, 1) := by decide +kernel
theorem dW_870 : decode code 870 = .ok (.aload_n 0, 1) := by decide +kernel
theorem dW_871 : decode code 871 = .ok (.iload_n 3, 1) := by decide +kernel
theorem dW_872 : decode code 872 = .ok (.iconst 2, 1) := by decide +kernel
theorem dW_873 : decode code 873 = .ok (.iadd, 1) := by decide +kernel
theorem dW_874 : decode code 874 = .ok (.iaload, 1) := by decide +kernel
theorem dW_875 : decode code 875 = .ok (.invokevirtual 115, 3) := by decide +kernel
theorem dW_878 : decode code 878 = .ok (.aload_n 2, 1) := by decide +kernel
theorem dW_879 : decode code 879 = .ok (.aload_n 0, 1) := by decide +kernel
theorem dW_880 : decode code 880 = .ok (.iload_n 3, 1) := by decide +kernel
theorem dW_881 : decode code 881 = .ok (.iconst 1, 1) := by decide +kernel
theorem dW_882 : decode code 882 = .ok (.iadd, 1) := by decide +kernel
theorem dW_883 : decode code 883 = .ok (.iaload, 1) := by decide +kernel
theorem dW_884 : decode code 884 = .ok (.aload_n 0, 1) := by decide +kernel
theorem dW_885 : decode code 885 = .ok (.iload_n 3, 1) := by decide +kernel
theorem dW_886 : decode code 886 = .ok (.iconst 2, 1) := by decide +kernel
theorem dW_887 : decode code 887 = .ok (.iadd, 1) := by decide +kernel
theorem dW_888 : decode code 888 = .ok (.iaload, 1) := by decide +kernel
theorem dW_889 : decode code 889 = .ok (.invokevirtual 118, 3) := by decide +kernel
theorem dW_892 : decode code 892 = .ok (.if_icmp .eq 28, 3) := by decide +kernel
theorem dW_895 : decode code 895 = .ok (.iconst 0, 1) := by decide +kernel
theorem dW_896 : decode code 896 = .ok (.ireturn, 1) := by decide +kernel
theorem dW_897 : decode code 897 = .ok (.aload_n 1, 1) := by decide +kernel
theorem dW_898 : decode code 898 = .ok (.aload_n 0, 1) := by decide +kernel
theorem dW_899 : decode code 899 = .ok (.iload_n 3, 1) := by decide +kernel
theorem dW_900 : decode code 900 = .ok (.iconst 1, 1) := by decide +kernel
theorem dW_901 : decode code 901 = .ok (.iadd, 1) := by decide +kernel
theorem dW_902 : decode code 902 = .ok (.iaload, 1) := by decide +kernel
theorem dW_903 : decode code 903 = .ok (.invokevirtual 119, 3) := by decide +kernel
theorem dW_906 : decode code 906 = .ok (.aload_n 2, 1) := by decide +kernel
theorem dW_907 : decode code 907 = .ok (.aload_n 0, 1) := by decide +kernel
theorem dW_908 : decode code 908 = .ok (.iload_n 3, 1) := by decide +kernel
theorem dW_909 : decode code 909 = .ok (.iconst 1, 1) := by decide +kernel
theorem dW_910 : decode code 910 = .ok (.iadd, 1) := by decide +kernel
theorem dW_911 : decode code 911 = .ok (.iaload, 1) := by decide +kernel
theorem dW_912 : decode code 912 = .ok (.invokevirtual 122, 3) := by decide +kernel
theorem dW_915 : decode code 915 = .ok (.if_icmp .eq 5, 3) := by decide +kernel
theorem dW_918 : decode code 918 = .ok (.iconst 0, 1) := by decide +kernel
theorem dW_919 : decode code 919 = .ok (.ireturn, 1) := by decide +kernel
theorem dW_920 : decode code 920 = .ok (.iinc 3 6, 3) := by decide +kernel
theorem dW_923 : decode code 923 = .ok (.goto (-905), 3) := by decide +kernel
theorem dW_926 : decode code 926 = .ok (.iconst 1, 1) := by decide +kernel
theorem dW_927 : decode code 927 = .ok (.ireturn, 1) := by decide +kernel
