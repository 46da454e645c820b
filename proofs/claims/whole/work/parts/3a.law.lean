theorem dL_law_0 : decode cL_law 0 = .ok (.new 7, 3) := by decide +kernel
theorem dL_law_3 : decode cL_law 3 = .ok (.dup, 1) := by decide +kernel
theorem dL_law_4 : decode cL_law 4 = .ok (.invokespecial 9, 3) := by decide +kernel
theorem dL_law_7 : decode cL_law 7 = .ok (.astore_n 1, 1) := by decide +kernel
theorem dL_law_8 : decode cL_law 8 = .ok (.new 10, 3) := by decide +kernel
theorem dL_law_11 : decode cL_law 11 = .ok (.dup, 1) := by decide +kernel
theorem dL_law_12 : decode cL_law 12 = .ok (.invokespecial 12, 3) := by decide +kernel
theorem dL_law_15 : decode cL_law 15 = .ok (.astore_n 2, 1) := by decide +kernel
theorem dL_law_16 : decode cL_law 16 = .ok (.iconst 0, 1) := by decide +kernel
theorem dL_law_17 : decode cL_law 17 = .ok (.istore_n 3, 1) := by decide +kernel
theorem dL_law_18 : decode cL_law 18 = .ok (.iload_n 3, 1) := by decide +kernel
theorem dL_law_19 : decode cL_law 19 = .ok (.aload_n 0, 1) := by decide +kernel
theorem dL_law_20 : decode cL_law 20 = .ok (.arraylength, 1) := by decide +kernel
theorem dL_law_21 : decode cL_law 21 = .ok (.bipush 6, 2) := by decide +kernel
theorem dL_law_23 : decode cL_law 23 = .ok (.isub, 1) := by decide +kernel
theorem dL_law_24 : decode cL_law 24 = .ok (.if_icmp .gt 1274, 3) := by decide +kernel
theorem dL_law_27 : decode cL_law 27 = .ok (.aload_n 0, 1) := by decide +kernel
theorem dL_law_28 : decode cL_law 28 = .ok (.iload_n 3, 1) := by decide +kernel
theorem dL_law_29 : decode cL_law 29 = .ok (.iaload, 1) := by decide +kernel
theorem dL_law_30 : decode cL_law 30 = .ok (.bipush 31, 2) := by decide +kernel
theorem dL_law_32 : decode cL_law 32 = .ok (.iand, 1) := by decide +kernel
theorem dL_law_33 : decode cL_law 33 = .ok (.tableswitch 1259 0 31 #[143, 186, 219, 252, 285, 318, 341, 364, 377, 400, 433, 456, 479, 502, 515, 538, 571, 604, 637, 660, 703, 756, 799, 852, 865, 878, 931, 984, 1047, 1090, 1113, 1196], 143) := by decide +kernel
theorem dL_law_176 : decode cL_law 176 = .ok (.aload_n 1, 1) := by decide +kernel
theorem dL_law_177 : decode cL_law 177 = .ok (.aload_n 0, 1) := by decide +kernel
theorem dL_law_178 : decode cL_law 178 = .ok (.iload_n 3, 1) := by decide +kernel
theorem dL_law_179 : decode cL_law 179 = .ok (.iconst 1, 1) := by decide +kernel
theorem dL_law_180 : decode cL_law 180 = .ok (.iadd, 1) := by decide +kernel
theorem dL_law_181 : decode cL_law 181 = .ok (.iaload, 1) := by decide +kernel
theorem dL_law_182 : decode cL_law 182 = .ok (.aload_n 0, 1) := by decide +kernel
theorem dL_law_183 : decode cL_law 183 = .ok (.iload_n 3, 1) := by decide +kernel
theorem dL_law_184 : decode cL_law 184 = .ok (.iconst 2, 1) := by decide +kernel
theorem dL_law_185 : decode cL_law 185 = .ok (.iadd, 1) := by decide +kernel
theorem dL_law_186 : decode cL_law 186 = .ok (.iaload, 1) := by decide +kernel
theorem dL_law_187 : decode cL_law 187 = .ok (.aload_n 0, 1) := by decide +kernel
theorem dL_law_188 : decode cL_law 188 = .ok (.iload_n 3, 1) := by decide +kernel
theorem dL_law_189 : decode cL_law 189 = .ok (.iconst 3, 1) := by decide +kernel
theorem dL_law_190 : decode cL_law 190 = .ok (.iadd, 1) := by decide +kernel
theorem dL_law_191 : decode cL_law 191 = .ok (.iaload, 1) := by decide +kernel
theorem dL_law_192 : decode cL_law 192 = .ok (.invokevirtual 13, 3) := by decide +kernel
theorem dL_law_195 : decode cL_law 195 = .ok (.aload_n 2, 1) := by decide +kernel
theorem dL_law_196 : decode cL_law 196 = .ok (.aload_n 0, 1) := by decide +kernel
theorem dL_law_197 : decode cL_law 197 = .ok (.iload_n 3, 1) := by decide +kernel
theorem dL_law_198 : decode cL_law 198 = .ok (.iconst 1, 1) := by decide +kernel
theorem dL_law_199 : decode cL_law 199 = .ok (.iadd, 1) := by decide +kernel
theorem dL_law_200 : decode cL_law 200 = .ok (.iaload, 1) := by decide +kernel
theorem dL_law_201 : decode cL_law 201 = .ok (.aload_n 0, 1) := by decide +kernel
theorem dL_law_202 : decode cL_law 202 = .ok (.iload_n 3, 1) := by decide +kernel
theorem dL_law_203 : decode cL_law 203 = .ok (.iconst 2, 1) := by decide +kernel
theorem dL_law_204 : decode cL_law 204 = .ok (.iadd, 1) := by decide +kernel
theorem dL_law_205 : decode cL_law 205 = .ok (.iaload, 1) := by decide +kernel
theorem dL_law_206 : decode cL_law 206 = .ok (.aload_n 0, 1) := by decide +kernel
theorem dL_law_207 : decode cL_law 207 = .ok (.iload_n 3, 1) := by decide +kernel
theorem dL_law_208 : decode cL_law 208 = .ok (.iconst 3, 1) := by decide +kernel
theorem dL_law_209 : decode cL_law 209 = .ok (.iadd, 1) := by decide +kernel
theorem dL_law_210 : decode cL_law 210 = .ok (.iaload, 1) := by decide +kernel
theorem dL_law_211 : decode cL_law 211 = .ok (.invokevirtual 17, 3) := by decide +kernel
theorem dL_law_214 : decode cL_law 214 = .ok (.if_icmp .eq 1078, 3) := by decide +kernel
theorem dL_law_217 : decode cL_law 217 = .ok (.iconst 0, 1) := by decide +kernel
theorem dL_law_218 : decode cL_law 218 = .ok (.ireturn, 1) := by decide +kernel
theorem dL_law_219 : decode cL_law 219 = .ok (.aload_n 1, 1) := by decide +kernel
theorem dL_law_220 : decode cL_law 220 = .ok (.aload_n 0, 1) := by decide +kernel
theorem dL_law_221 : decode cL_law 221 = .ok (.iload_n 3, 1) := by decide +kernel
theorem dL_law_222 : decode cL_law 222 = .ok (.iconst 1, 1) := by decide +kernel
theorem dL_law_223 : decode cL_law 223 = .ok (.iadd, 1) := by decide +kernel
theorem dL_law_224 : decode cL_law 224 = .ok (.iaload, 1) := by decide +kernel
theorem dL_law_225 : decode cL_law 225 = .ok (.aload_n 0, 1) := by decide +kernel
theorem dL_law_226 : decode cL_law 226 = .ok (.iload_n 3, 1) := by decide +kernel
theorem dL_law_227 : decode cL_law 227 = .ok (.iconst 2, 1) := by decide +kernel
theorem dL_law_228 : decode cL_law 228 = .ok (.iadd, 1) := by decide +kernel
theorem dL_law_229 : decode cL_law 229 = .ok (.iaload, 1) := by decide +kernel
theorem dL_law_230 : decode cL_law 230 = .ok (.invokevirtual 18, 3) := by decide +kernel
theorem dL_law_233 : decode cL_law 233 = .ok (.aload_n 2, 1) := by decide +kernel
theorem dL_law_234 : decode cL_law 234 = .ok (.aload_n 0, 1) := by decide +kernel
theorem dL_law_235 : decode cL_law 235 = .ok (.iload_n 3, 1) := by decide +kernel
theorem dL_law_236 : decode cL_law 236 = .ok (.iconst 1, 1) := by decide +kernel
theorem dL_law_237 : decode cL_law 237 = .ok (.iadd, 1) := by decide +kernel
theorem dL_law_238 : decode cL_law 238 = .ok (.iaload, 1) := by decide +kernel
theorem dL_law_239 : decode cL_law 239 = .ok (.aload_n 0, 1) := by decide +kernel
theorem dL_law_240 : decode cL_law 240 = .ok (.iload_n 3, 1) := by decide +kernel
theorem dL_law_241 : decode cL_law 241 = .ok (.iconst 2, 1) := by decide +kernel
theorem dL_law_242 : decode cL_law 242 = .ok (.iadd, 1) := by decide +kernel
theorem dL_law_243 : decode cL_law 243 = .ok (.iaload, 1) := by decide +kernel
theorem dL_law_244 : decode cL_law 244 = .ok (.invokevirtual 22, 3) := by decide +kernel
theorem dL_law_247 : decode cL_law 247 = .ok (.if_icmp .eq 1045, 3) := by decide +kernel
theorem dL_law_250 : decode cL_law 250 = .ok (.iconst 0, 1) := by decide +kernel
theorem dL_law_251 : decode cL_law 251 = .ok (.ireturn, 1) := by decide +kernel
theorem dL_law_252 : decode cL_law 252 = .ok (.aload_n 1, 1) := by decide +kernel
theorem dL_law_253 : decode cL_law 253 = .ok (.aload_n 0, 1) := by decide +kernel
theorem dL_law_254 : decode cL_law 254 = .ok (.iload_n 3, 1) := by decide +kernel
theorem dL_law_255 : decode cL_law 255 = .ok (.iconst 1, 1) := by decide +kernel
theorem dL_law_256 : decode cL_law 256 = .ok (.iadd, 1) := by decide +kernel
theorem dL_law_257 : decode cL_law 257 = .ok (.iaload, 1) := by decide +kernel
theorem dL_law_258 : decode cL_law 258 = .ok (.aload_n 0, 1) := by decide +kernel
theorem dL_law_259 : decode cL_law 259 = .ok (.iload_n 3, 1) := by decide +kernel
theorem dL_law_260 : decode cL_law 260 = .ok (.iconst 2, 1) := by decide +kernel
theorem dL_law_261 : decode cL_law 261 = .ok (.iadd, 1) := by decide +kernel
theorem dL_law_262 : decode cL_law 262 = .ok (.iaload, 1) := by decide +kernel
theorem dL_law_263 : decode cL_law 263 = .ok (.invokevirtual 23, 3) := by decide +kernel
theorem dL_law_266 : decode cL_law 266 = .ok (.aload_n 2, 1) := by decide +kernel
theorem dL_law_267 : decode cL_law 267 = .ok (.aload_n 0, 1) := by decide +kernel
theorem dL_law_268 : decode cL_law 268 = .ok (.iload_n 3, 1) := by decide +kernel
theorem dL_law_269 : decode cL_law 269 = .ok (.iconst 1, 1) := by decide +kernel
theorem dL_law_270 : decode cL_law 270 = .ok (.iadd, 1) := by decide +kernel
theorem dL_law_271 : decode cL_law 271 = .ok (.iaload, 1) := by decide +kernel
theorem dL_law_272 : decode cL_law 272 = .ok (.aload_n 0, 1) := by decide +kernel
theorem dL_law_273 : decode cL_law 273 = .ok (.iload_n 3, 1) := by decide +kernel
theorem dL_law_274 : decode cL_law 274 = .ok (.iconst 2, 1) := by decide +kernel
theorem dL_law_275 : decode cL_law 275 = .ok (.iadd, 1) := by decide +kernel
theorem dL_law_276 : decode cL_law 276 = .ok (.iaload, 1) := by decide +kernel
theorem dL_law_277 : decode cL_law 277 = .ok (.invokevirtual 26, 3) := by decide +kernel
theorem dL_law_280 : decode cL_law 280 = .ok (.if_icmp .eq 1012, 3) := by decide +kernel
theorem dL_law_283 : decode cL_law 283 = .ok (.iconst 0, 1) := by decide +kernel
theorem dL_law_284 : decode cL_law 284 = .ok (.ireturn, 1) := by decide +kernel
theorem dL_law_285 : decode cL_law 285 = .ok (.aload_n 1, 1) := by decide +kernel
theorem dL_law_286 : decode cL_law 286 = .ok (.aload_n 0, 1) := by decide +kernel
theorem dL_law_287 : decode cL_law 287 = .ok (.iload_n 3, 1) := by decide +kernel
theorem dL_law_288 : decode cL_law 288 = .ok (.iconst 1, 1) := by decide +kernel
theorem dL_law_289 : decode cL_law 289 = .ok (.iadd, 1) := by decide +kernel
theorem dL_law_290 : decode cL_law 290 = .ok (.iaload, 1) := by decide +kernel
theorem dL_law_291 : decode cL_law 291 = .ok (.aload_n 0, 1) := by decide +kernel
theorem dL_law_292 : decode cL_law 292 = .ok (.iload_n 3, 1) := by decide +kernel
theorem dL_law_293 : decode cL_law 293 = .ok (.iconst 2, 1) := by decide +kernel
theorem dL_law_294 : decode cL_law 294 = .ok (.iadd, 1) := by decide +kernel
theorem dL_law_295 : decode cL_law 295 = .ok (.iaload, 1) := by decide +kernel
theorem dL_law_296 : decode cL_law 296 = .ok (.invokevirtual 27, 3) := by decide +kernel
theorem dL_law_299 : decode cL_law 299 = .ok (.aload_n 2, 1) := by decide +kernel
theorem dL_law_300 : decode cL_law 300 = .ok (.aload_n 0, 1) := by decide +kernel
theorem dL_law_301 : decode cL_law 301 = .ok (.iload_n 3, 1) := by decide +kernel
theorem dL_law_302 : decode cL_law 302 = .ok (.iconst 1, 1) := by decide +kernel
theorem dL_law_303 : decode cL_law 303 = .ok (.iadd, 1) := by decide +kernel
theorem dL_law_304 : decode cL_law 304 = .ok (.iaload, 1) := by decide +kernel
theorem dL_law_305 : decode cL_law 305 = .ok (.aload_n 0, 1) := by decide +kernel
theorem dL_law_306 : decode cL_law 306 = .ok (.iload_n 3, 1) := by decide +kernel
theorem dL_law_307 : decode cL_law 307 = .ok (.iconst 2, 1) := by decide +kernel
theorem dL_law_308 : decode cL_law 308 = .ok (.iadd, 1) := by decide +kernel
theorem dL_law_309 : decode cL_law 309 = .ok (.iaload, 1) := by decide +kernel
theorem dL_law_310 : decode cL_law 310 = .ok (.invokevirtual 30, 3) := by decide +kernel
theorem dL_law_313 : decode cL_law 313 = .ok (.if_icmp .eq 979, 3) := by decide +kernel
theorem dL_law_316 : decode cL_law 316 = .ok (.iconst 0, 1) := by decide +kernel
theorem dL_law_317 : decode cL_law 317 = .ok (.ireturn, 1) := by decide +kernel
theorem dL_law_318 : decode cL_law 318 = .ok (.aload_n 1, 1) := by decide +kernel
theorem dL_law_319 : decode cL_law 319 = .ok (.aload_n 0, 1) := by decide +kernel
theorem dL_law_320 : decode cL_law 320 = .ok (.iload_n 3, 1) := by decide +kernel
theorem dL_law_321 : decode cL_law 321 = .ok (.iconst 1, 1) := by decide +kernel
theorem dL_law_322 : decode cL_law 322 = .ok (.iadd, 1) := by decide +kernel
theorem dL_law_323 : decode cL_law 323 = .ok (.iaload, 1) := by decide +kernel
theorem dL_law_324 : decode cL_law 324 = .ok (.aload_n 0, 1) := by decide +kernel
theorem dL_law_325 : decode cL_law 325 = .ok (.iload_n 3, 1) := by decide +kernel
theorem dL_law_326 : decode cL_law 326 = .ok (.iconst 2, 1) := by decide +kernel
theorem dL_law_327 : decode cL_law 327 = .ok (.iadd, 1) := by decide +kernel
theorem dL_law_328 : decode cL_law 328 = .ok (.iaload, 1) := by decide +kernel
theorem dL_law_329 : decode cL_law 329 = .ok (.invokevirtual 31, 3) := by decide +kernel
theorem dL_law_332 : decode cL_law 332 = .ok (.aload_n 2, 1) := by decide +kernel
theorem dL_law_333 : decode cL_law 333 = .ok (.aload_n 0, 1) := by decide +kernel
theorem dL_law_334 : decode cL_law 334 = .ok (.iload_n 3, 1) := by decide +kernel
theorem dL_law_335 : decode cL_law 335 = .ok (.iconst 1, 1) := by decide +kernel
theorem dL_law_336 : decode cL_law 336 = .ok (.iadd, 1) := by decide +kernel
theorem dL_law_337 : decode cL_law 337 = .ok (.iaload, 1) := by decide +kernel
theorem dL_law_338 : decode cL_law 338 = .ok (.aload_n 0, 1) := by decide +kernel
theorem dL_law_339 : decode cL_law 339 = .ok (.iload_n 3, 1) := by decide +kernel
theorem dL_law_340 : decode cL_law 340 = .ok (.iconst 2, 1) := by decide +kernel
theorem dL_law_341 : decode cL_law 341 = .ok (.iadd, 1) := by decide +kernel
theorem dL_law_342 : decode cL_law 342 = .ok (.iaload, 1) := by decide +kernel
theorem dL_law_343 : decode cL_law 343 = .ok (.invokevirtual 34, 3) := by decide +kernel
theorem dL_law_346 : decode cL_law 346 = .ok (.if_icmp .eq 946, 3) := by decide +kernel
theorem dL_law_349 : decode cL_law 349 = .ok (.iconst 0, 1) := by decide +kernel
theorem dL_law_350 : decode cL_law 350 = .ok (.ireturn, 1) := by decide +kernel
theorem dL_law_351 : decode cL_law 351 = .ok (.aload_n 1, 1) := by decide +kernel
theorem dL_law_352 : decode cL_law 352 = .ok (.aload_n 0, 1) := by decide +kernel
theorem dL_law_353 : decode cL_law 353 = .ok (.iload_n 3, 1) := by decide +kernel
theorem dL_law_354 : decode cL_law 354 = .ok (.iconst 1, 1) := by decide +kernel
theorem dL_law_355 : decode cL_law 355 = .ok (.iadd, 1) := by decide +kernel
theorem dL_law_356 : decode cL_law 356 = .ok (.iaload, 1) := by decide +kernel
theorem dL_law_357 : decode cL_law 357 = .ok (.invokevirtual 35, 3) := by decide +kernel
theorem dL_law_360 : decode cL_law 360 = .ok (.aload_n 2, 1) := by decide +kernel
theorem dL_law_361 : decode cL_law 361 = .ok (.aload_n 0, 1) := by decide +kernel
theorem dL_law_362 : decode cL_law 362 = .ok (.iload_n 3, 1) := by decide +kernel
theorem dL_law_363 : decode cL_law 363 = .ok (.iconst 1, 1) := by decide +kernel
theorem dL_law_364 : decode cL_law 364 = .ok (.iadd, 1) := by decide +kernel
theorem dL_law_365 : decode cL_law 365 = .ok (.iaload, 1) := by decide +kernel
theorem dL_law_366 : decode cL_law 366 = .ok (.invokevirtual 39, 3) := by decide +kernel
theorem dL_law_369 : decode cL_law 369 = .ok (.if_icmp .eq 923, 3) := by decide +kernel
theorem dL_law_372 : decode cL_law 372 = .ok (.iconst 0, 1) := by decide +kernel
theorem dL_law_373 : decode cL_law 373 = .ok (.ireturn, 1) := by decide +kernel
theorem dL_law_374 : decode cL_law 374 = .ok (.aload_n 1, 1) := by decide +kernel
theorem dL_law_375 : decode cL_law 375 = .ok (.aload_n 0, 1) := by decide +kernel
theorem dL_law_376 : decode cL_law 376 = .ok (.iload_n 3, 1) := by decide +kernel
theorem dL_law_377 : decode cL_law 377 = .ok (.iconst 1, 1) := by decide +kernel
theorem dL_law_378 : decode cL_law 378 = .ok (.iadd, 1) := by decide +kernel
theorem dL_law_379 : decode cL_law 379 = .ok (.iaload, 1) := by decide +kernel
theorem dL_law_380 : decode cL_law 380 = .ok (.invokevirtual 40, 3) := by decide +kernel
theorem dL_law_383 : decode cL_law 383 = .ok (.aload_n 2, 1) := by decide +kernel
theorem dL_law_384 : decode cL_law 384 = .ok (.aload_n 0, 1) := by decide +kernel
theorem dL_law_385 : decode cL_law 385 = .ok (.iload_n 3, 1) := by decide +kernel
theorem dL_law_386 : decode cL_law 386 = .ok (.iconst 1, 1) := by decide +kernel
theorem dL_law_387 : decode cL_law 387 = .ok (.iadd, 1) := by decide +kernel
theorem dL_law_388 : decode cL_law 388 = .ok (.iaload, 1) := by decide +kernel
theorem dL_law_389 : decode cL_law 389 = .ok (.invokevirtual 43, 3) := by decide +kernel
theorem dL_law_392 : decode cL_law 392 = .ok (.if_icmp .eq 900, 3) := by decide +kernel
theorem dL_law_395 : decode cL_law 395 = .ok (.iconst 0, 1) := by decide +kernel
theorem dL_law_396 : decode cL_law 396 = .ok (.ireturn, 1) := by decide +kernel
theorem dL_law_397 : decode cL_law 397 = .ok (.aload_n 1, 1) := by decide +kernel
theorem dL_law_398 : decode cL_law 398 = .ok (.invokevirtual 44, 3) := by decide +kernel
theorem dL_law_401 : decode cL_law 401 = .ok (.aload_n 2, 1) := by decide +kernel
theorem dL_law_402 : decode cL_law 402 = .ok (.invokevirtual 48, 3) := by decide +kernel
theorem dL_law_405 : decode cL_law 405 = .ok (.if_icmp .eq 887, 3) := by decide +kernel
theorem dL_law_408 : decode cL_law 408 = .ok (.iconst 0, 1) := by decide +kernel
theorem dL_law_409 : decode cL_law 409 = .ok (.ireturn, 1) := by decide +kernel
theorem dL_law_410 : decode cL_law 410 = .ok (.aload_n 1, 1) := by decide +kernel
theorem dL_law_411 : decode cL_law 411 = .ok (.aload_n 0, 1) := by decide +kernel
theorem dL_law_412 : decode cL_law 412 = .ok (.iload_n 3, 1) := by decide +kernel
theorem dL_law_413 : decode cL_law 413 = .ok (.iconst 1, 1) := by decide +kernel
theorem dL_law_414 : decode cL_law 414 = .ok (.iadd, 1) := by decide +kernel
theorem dL_law_415 : decode cL_law 415 = .ok (.iaload, 1) := by decide +kernel
theorem dL_law_416 : decode cL_law 416 = .ok (.invokevirtual 49, 3) := by decide +kernel
theorem dL_law_419 : decode cL_law 419 = .ok (.aload_n 2, 1) := by decide +kernel
theorem dL_law_420 : decode cL_law 420 = .ok (.aload_n 0, 1) := by decide +kernel
theorem dL_law_421 : decode cL_law 421 = .ok (.iload_n 3, 1) := by decide +kernel
theorem dL_law_422 : decode cL_law 422 = .ok (.iconst 1, 1) := by decide +kernel
theorem dL_law_423 : decode cL_law 423 = .ok (.iadd, 1) := by decide +kernel
theorem dL_law_424 : decode cL_law 424 = .ok (.iaload, 1) := by decide +kernel
theorem dL_law_425 : decode cL_law 425 = .ok (.invokevirtual 52, 3) := by decide +kernel
theorem dL_law_428 : decode cL_law 428 = .ok (.if_icmp .eq 864, 3) := by decide +kernel
theorem dL_law_431 : decode cL_law 431 = .ok (.iconst 0, 1) := by decide +kernel
theorem dL_law_432 : decode cL_law 432 = .ok (.ireturn, 1) := by decide +kernel
theorem dL_law_433 : decode cL_law 433 = .ok (.aload_n 1, 1) := by decide +kernel
theorem dL_law_434 : decode cL_law 434 = .ok (.aload_n 0, 1) := by decide +kernel
theorem dL_law_435 : decode cL_law 435 = .ok (.iload_n 3, 1) := by decide +kernel
theorem dL_law_436 : decode cL_law 436 = .ok (.iconst 1, 1) := by decide +kernel
theorem dL_law_437 : decode cL_law 437 = .ok (.iadd, 1) := by decide +kernel
theorem dL_law_438 : decode cL_law 438 = .ok (.iaload, 1) := by decide +kernel
theorem dL_law_439 : decode cL_law 439 = .ok (.aload_n 0, 1) := by decide +kernel
theorem dL_law_440 : decode cL_law 440 = .ok (.iload_n 3, 1) := by decide +kernel
theorem dL_law_441 : decode cL_law 441 = .ok (.iconst 2, 1) := by decide +kernel
theorem dL_law_442 : decode cL_law 442 = .ok (.iadd, 1) := by decide +kernel
theorem dL_law_443 : decode cL_law 443 = .ok (.iaload, 1) := by decide +kernel
theorem dL_law_444 : decode cL_law 444 = .ok (.invokevirtual 53, 3) := by decide +kernel
theorem dL_law_447 : decode cL_law 447 = .ok (.aload_n 2, 1) := by decide +kernel
theorem dL_law_448 : decode cL_law 448 = .ok (.aload_n 0, 1) := by decide +kernel
theorem dL_law_449 : decode cL_law 449 = .ok (.iload_n 3, 1) := by decide +kernel
theorem dL_law_450 : decode cL_law 450 = .ok (.iconst 1, 1) := by decide +kernel
theorem dL_law_451 : decode cL_law 451 = .ok (.iadd, 1) := by decide +kernel
theorem dL_law_452 : decode cL_law 452 = .ok (.iaload, 1) := by decide +kernel
theorem dL_law_453 : decode cL_law 453 = .ok (.aload_n 0, 1) := by decide +kernel
theorem dL_law_454 : decode cL_law 454 = .ok (.iload_n 3, 1) := by decide +kernel
theorem dL_law_455 : decode cL_law 455 = .ok (.iconst 2, 1) := by decide +kernel
theorem dL_law_456 : decode cL_law 456 = .ok (.iadd, 1) := by decide +kernel
theorem dL_law_457 : decode cL_law 457 = .ok (.iaload, 1) := by decide +kernel
theorem dL_law_458 : decode cL_law 458 = .ok (.invokevirtual 56, 3) := by decide +kernel
theorem dL_law_461 : decode cL_law 461 = .ok (.if_icmp .eq 831, 3) := by decide +kernel
theorem dL_law_464 : decode cL_law 464 = .ok (.iconst 0, 1) := by decide +kernel
theorem dL_law_465 : decode cL_law 465 = .ok (.ireturn, 1) := by decide +kernel
theorem dL_law_466 : decode cL_law 466 = .ok (.aload_n 1, 1) := by decide +kernel
theorem dL_law_467 : decode cL_law 467 = .ok (.aload_n 0, 1) := by decide +kernel
theorem dL_law_468 : decode cL_law 468 = .ok (.iload_n 3, 1) := by decide +kernel
theorem dL_law_469 : decode cL_law 469 = .ok (.iconst 1, 1) := by decide +kernel
theorem dL_law_470 : decode cL_law 470 = .ok (.iadd, 1) := by decide +kernel
theorem dL_law_471 : decode cL_law 471 = .ok (.iaload, 1) := by decide +kernel
theorem dL_law_472 : decode cL_law 472 = .ok (.invokevirtual 57, 3) := by decide +kernel
theorem dL_law_475 : decode cL_law 475 = .ok (.aload_n 2, 1) := by decide +kernel
theorem dL_law_476 : decode cL_law 476 = .ok (.aload_n 0, 1) := by decide +kernel
theorem dL_law_477 : decode cL_law 477 = .ok (.iload_n 3, 1) := by decide +kernel
theorem dL_law_478 : decode cL_law 478 = .ok (.iconst 1, 1) := by decide +kernel
theorem dL_law_479 : decode cL_law 479 = .ok (.iadd, 1) := by decide +kernel
theorem dL_law_480 : decode cL_law 480 = .ok (.iaload, 1) := by decide +kernel
theorem dL_law_481 : decode cL_law 481 = .ok (.invokevirtual 60, 3) := by decide +kernel
theorem dL_law_484 : decode cL_law 484 = .ok (.if_icmp .eq 808, 3) := by decide +kernel
theorem dL_law_487 : decode cL_law 487 = .ok (.iconst 0, 1) := by decide +kernel
theorem dL_law_488 : decode cL_law 488 = .ok (.ireturn, 1) := by decide +kernel
theorem dL_law_489 : decode cL_law 489 = .ok (.aload_n 1, 1) := by decide +kernel
theorem dL_law_490 : decode cL_law 490 = .ok (.aload_n 0, 1) := by decide +kernel
theorem dL_law_491 : decode cL_law 491 = .ok (.iload_n 3, 1) := by decide +kernel
theorem dL_law_492 : decode cL_law 492 = .ok (.iconst 1, 1) := by decide +kernel
theorem dL_law_493 : decode cL_law 493 = .ok (.iadd, 1) := by decide +kernel
theorem dL_law_494 : decode cL_law 494 = .ok (.iaload, 1) := by decide +kernel
theorem dL_law_495 : decode cL_law 495 = .ok (.invokevirtual 61, 3) := by decide +kernel
theorem dL_law_498 : decode cL_law 498 = .ok (.aload_n 2, 1) := by decide +kernel
theorem dL_law_499 : decode cL_law 499 = .ok (.aload_n 0, 1) := by decide +kernel
theorem dL_law_500 : decode cL_law 500 = .ok (.iload_n 3, 1) := by decide +kernel
theorem dL_law_501 : decode cL_law 501 = .ok (.iconst 1, 1) := by decide +kernel
theorem dL_law_502 : decode cL_law 502 = .ok (.iadd, 1) := by decide +kernel
theorem dL_law_503 : decode cL_law 503 = .ok (.iaload, 1) := by decide +kernel
theorem dL_law_504 : decode cL_law 504 = .ok (.invokevirtual 64, 3) := by decide +kernel
theorem dL_law_507 : decode cL_law 507 = .ok (.if_icmp .eq 785, 3) := by decide +kernel
theorem dL_law_510 : decode cL_law 510 = .ok (.iconst 0, 1) := by decide +kernel
theorem dL_law_511 : decode cL_law 511 = .ok (.ireturn, 1) := by decide +kernel
theorem dL_law_512 : decode cL_law 512 = .ok (.aload_n 1, 1) := by decide +kernel
theorem dL_law_513 : decode cL_law 513 = .ok (.aload_n 0, 1) := by decide +kernel
theorem dL_law_514 : decode cL_law 514 = .ok (.iload_n 3, 1) := by decide +kernel
theorem dL_law_515 : decode cL_law 515 = .ok (.iconst 1, 1) := by decide +kernel
theorem dL_law_516 : decode cL_law 516 = .ok (.iadd, 1) := by decide +kernel
theorem dL_law_517 : decode cL_law 517 = .ok (.iaload, 1) := by decide +kernel
theorem dL_law_518 : decode cL_law 518 = .ok (.invokevirtual 65, 3) := by decide +kernel
theorem dL_law_521 : decode cL_law 521 = .ok (.aload_n 2, 1) := by decide +kernel
theorem dL_law_522 : decode cL_law 522 = .ok (.aload_n 0, 1) := by decide +kernel
theorem dL_law_523 : decode cL_law 523 = .ok (.iload_n 3, 1) := by decide +kernel
theorem dL_law_524 : decode cL_law 524 = .ok (.iconst 1, 1) := by decide +kernel
theorem dL_law_525 : decode cL_law 525 = .ok (.iadd, 1) := by decide +kernel
theorem dL_law_526 : decode cL_law 526 = .ok (.iaload, 1) := by decide +kernel
theorem dL_law_527 : decode cL_law 527 = .ok (.invokevirtual 68, 3) := by decide +kernel
theorem dL_law_530 : decode cL_law 530 = .ok (.if_icmp .eq 762, 3) := by decide +kernel
theorem dL_law_533 : decode cL_law 533 = .ok (.iconst 0, 1) := by decide +kernel
theorem dL_law_534 : decode cL_law 534 = .ok (.ireturn, 1) := by decide +kernel
theorem dL_law_535 : decode cL_law 535 = .ok (.aload_n 1, 1) := by decide +kernel
theorem dL_law_536 : decode cL_law 536 = .ok (.invokevirtual 69, 3) := by decide +kernel
theorem dL_law_539 : decode cL_law 539 = .ok (.aload_n 2, 1) := by decide +kernel
theorem dL_law_540 : decode cL_law 540 = .ok (.invokevirtual 72, 3) := by decide +kernel
theorem dL_law_543 : decode cL_law 543 = .ok (.if_icmp .eq 749, 3) := by decide +kernel
theorem dL_law_546 : decode cL_law 546 = .ok (.iconst 0, 1) := by decide +kernel
theorem dL_law_547 : decode cL_law 547 = .ok (.ireturn, 1) := by decide +kernel
theorem dL_law_548 : decode cL_law 548 = .ok (.aload_n 1, 1) := by decide +kernel
theorem dL_law_549 : decode cL_law 549 = .ok (.aload_n 0, 1) := by decide +kernel
theorem dL_law_550 : decode cL_law 550 = .ok (.iload_n 3, 1) := by decide +kernel
theorem dL_law_551 : decode cL_law 551 = .ok (.iconst 1, 1) := by decide +kernel
theorem dL_law_552 : decode cL_law 552 = .ok (.iadd, 1) := by decide +kernel
theorem dL_law_553 : decode cL_law 553 = .ok (.iaload, 1) := by decide +kernel
theorem dL_law_554 : decode cL_law 554 = .ok (.invokevirtual 73, 3) := by decide +kernel
theorem dL_law_557 : decode cL_law 557 = .ok (.aload_n 2, 1) := by decide +kernel
theorem dL_law_558 : decode cL_law 558 = .ok (.aload_n 0, 1) := by decide +kernel
theorem dL_law_559 : decode cL_law 559 = .ok (.iload_n 3, 1) := by decide +kernel
theorem dL_law_560 : decode cL_law 560 = .ok (.iconst 1, 1) := by decide +kernel
theorem dL_law_561 : decode cL_law 561 = .ok (.iadd, 1) := by decide +kernel
theorem dL_law_562 : decode cL_law 562 = .ok (.iaload, 1) := by decide +kernel
theorem dL_law_563 : decode cL_law 563 = .ok (.invokevirtual 76, 3) := by decide +kernel
theorem dL_law_566 : decode cL_law 566 = .ok (.if_icmp .eq 726, 3) := by decide +kernel
theorem dL_law_569 : decode cL_law 569 = .ok (.iconst 0, 1) := by decide +kernel
theorem dL_law_570 : decode cL_law 570 = .ok (.ireturn, 1) := by decide +kernel
theorem dL_law_571 : decode cL_law 571 = .ok (.aload_n 1, 1) := by decide +kernel
theorem dL_law_572 : decode cL_law 572 = .ok (.aload_n 0, 1) := by decide +kernel
theorem dL_law_573 : decode cL_law 573 = .ok (.iload_n 3, 1) := by decide +kernel
theorem dL_law_574 : decode cL_law 574 = .ok (.iconst 1, 1) := by decide +kernel
theorem dL_law_575 : decode cL_law 575 = .ok (.iadd, 1) := by decide +kernel
theorem dL_law_576 : decode cL_law 576 = .ok (.iaload, 1) := by decide +kernel
theorem dL_law_577 : decode cL_law 577 = .ok (.aload_n 0, 1) := by decide +kernel
theorem dL_law_578 : decode cL_law 578 = .ok (.iload_n 3, 1) := by decide +kernel
theorem dL_law_579 : decode cL_law 579 = .ok (.iconst 2, 1) := by decide +kernel
theorem dL_law_580 : decode cL_law 580 = .ok (.iadd, 1) := by decide +kernel
theorem dL_law_581 : decode cL_law 581 = .ok (.iaload, 1) := by decide +kernel
theorem dL_law_582 : decode cL_law 582 = .ok (.invokevirtual 77, 3) := by decide +kernel
theorem dL_law_585 : decode cL_law 585 = .ok (.aload_n 2, 1) := by decide +kernel
theorem dL_law_586 : decode cL_law 586 = .ok (.aload_n 0, 1) := by decide +kernel
theorem dL_law_587 : decode cL_law 587 = .ok (.iload_n 3, 1) := by decide +kernel
theorem dL_law_588 : decode cL_law 588 = .ok (.iconst 1, 1) := by decide +kernel
theorem dL_law_589 : decode cL_law 589 = .ok (.iadd, 1) := by decide +kernel
theorem dL_law_590 : decode cL_law 590 = .ok (.iaload, 1) := by decide +kernel
theorem dL_law_591 : decode cL_law 591 = .ok (.aload_n 0, 1) := by decide +kernel
theorem dL_law_592 : decode cL_law 592 = .ok (.iload_n 3, 1) := by decide +kernel
theorem dL_law_593 : decode cL_law 593 = .ok (.iconst 2, 1) := by decide +kernel
theorem dL_law_594 : decode cL_law 594 = .ok (.iadd, 1) := by decide +kernel
theorem dL_law_595 : decode cL_law 595 = .ok (.iaload, 1) := by decide +kernel
theorem dL_law_596 : decode cL_law 596 = .ok (.invokevirtual 80, 3) := by decide +kernel
theorem dL_law_599 : decode cL_law 599 = .ok (.if_icmp .eq 693, 3) := by decide +kernel
theorem dL_law_602 : decode cL_law 602 = .ok (.iconst 0, 1) := by decide +kernel
theorem dL_law_603 : decode cL_law 603 = .ok (.ireturn, 1) := by decide +kernel
theorem dL_law_604 : decode cL_law 604 = .ok (.aload_n 1, 1) := by decide +kernel
theorem dL_law_605 : decode cL_law 605 = .ok (.aload_n 0, 1) := by decide +kernel
theorem dL_law_606 : decode cL_law 606 = .ok (.iload_n 3, 1) := by decide +kernel
theorem dL_law_607 : decode cL_law 607 = .ok (.iconst 1, 1) := by decide +kernel
theorem dL_law_608 : decode cL_law 608 = .ok (.iadd, 1) := by decide +kernel
theorem dL_law_609 : decode cL_law 609 = .ok (.iaload, 1) := by decide +kernel
theorem dL_law_610 : decode cL_law 610 = .ok (.aload_n 0, 1) := by decide +kernel
theorem dL_law_611 : decode cL_law 611 = .ok (.iload_n 3, 1) := by decide +kernel
theorem dL_law_612 : decode cL_law 612 = .ok (.iconst 2, 1) := by decide +kernel
theorem dL_law_613 : decode cL_law 613 = .ok (.iadd, 1) := by decide +kernel
theorem dL_law_614 : decode cL_law 614 = .ok (.iaload, 1) := by decide +kernel
theorem dL_law_615 : decode cL_law 615 = .ok (.invokevirtual 81, 3) := by decide +kernel
theorem dL_law_618 : decode cL_law 618 = .ok (.aload_n 2, 1) := by decide +kernel
theorem dL_law_619 : decode cL_law 619 = .ok (.aload_n 0, 1) := by decide +kernel
theorem dL_law_620 : decode cL_law 620 = .ok (.iload_n 3, 1) := by decide +kernel
theorem dL_law_621 : decode cL_law 621 = .ok (.iconst 1, 1) := by decide +kernel
theorem dL_law_622 : decode cL_law 622 = .ok (.iadd, 1) := by decide +kernel
theorem dL_law_623 : decode cL_law 623 = .ok (.iaload, 1) := by decide +kernel
theorem dL_law_624 : decode cL_law 624 = .ok (.aload_n 0, 1) := by decide +kernel
theorem dL_law_625 : decode cL_law 625 = .ok (.iload_n 3, 1) := by decide +kernel
theorem dL_law_626 : decode cL_law 626 = .ok (.iconst 2, 1) := by decide +kernel
theorem dL_law_627 : decode cL_law 627 = .ok (.iadd, 1) := by decide +kernel
theorem dL_law_628 : decode cL_law 628 = .ok (.iaload, 1) := by decide +kernel
theorem dL_law_629 : decode cL_law 629 = .ok (.invokevirtual 84, 3) := by decide +kernel
theorem dL_law_632 : decode cL_law 632 = .ok (.if_icmp .eq 660, 3) := by decide +kernel
theorem dL_law_635 : decode cL_law 635 = .ok (.iconst 0, 1) := by decide +kernel
theorem dL_law_636 : decode cL_law 636 = .ok (.ireturn, 1) := by decide +kernel
theorem dL_law_637 : decode cL_law 637 = .ok (.aload_n 1, 1) := by decide +kernel
theorem dL_law_638 : decode cL_law 638 = .ok (.aload_n 0, 1) := by decide +kernel
theorem dL_law_639 : decode cL_law 639 = .ok (.iload_n 3, 1) := by decide +kernel
theorem dL_law_640 : decode cL_law 640 = .ok (.iconst 1, 1) := by decide +kernel
theorem dL_law_641 : decode cL_law 641 = .ok (.iadd, 1) := by decide +kernel
theorem dL_law_642 : decode cL_law 642 = .ok (.iaload, 1) := by decide +kernel
theorem dL_law_643 : decode cL_law 643 = .ok (.aload_n 0, 1) := by decide +kernel
theorem dL_law_644 : decode cL_law 644 = .ok (.iload_n 3, 1) := by decide +kernel
theorem dL_law_645 : decode cL_law 645 = .ok (.iconst 2, 1) := by decide +kernel
theorem dL_law_646 : decode cL_law 646 = .ok (.iadd, 1) := by decide +kernel
theorem dL_law_647 : decode cL_law 647 = .ok (.iaload, 1) := by decide +kernel
theorem dL_law_648 : decode cL_law 648 = .ok (.invokevirtual 85, 3) := by decide +kernel
theorem dL_law_651 : decode cL_law 651 = .ok (.aload_n 2, 1) := by decide +kernel
theorem dL_law_652 : decode cL_law 652 = .ok (.aload_n 0, 1) := by decide +kernel
theorem dL_law_653 : decode cL_law 653 = .ok (.iload_n 3, 1) := by decide +kernel
theorem dL_law_654 : decode cL_law 654 = .ok (.iconst 1, 1) := by decide +kernel
theorem dL_law_655 : decode cL_law 655 = .ok (.iadd, 1) := by decide +kernel
theorem dL_law_656 : decode cL_law 656 = .ok (.iaload, 1) := by decide +kernel
theorem dL_law_657 : decode cL_law 657 = .ok (.aload_n 0, 1) := by decide +kernel
theorem dL_law_658 : decode cL_law 658 = .ok (.iload_n 3, 1) := by decide +kernel
theorem dL_law_659 : decode cL_law 659 = .ok (.iconst 2, 1) := by decide +kernel
theorem dL_law_660 : decode cL_law 660 = .ok (.iadd, 1) := by decide +kernel
theorem dL_law_661 : decode cL_law 661 = .ok (.iaload, 1) := by decide +kernel
theorem dL_law_662 : decode cL_law 662 = .ok (.invokevirtual 88, 3) := by decide +kernel
theorem dL_law_665 : decode cL_law 665 = .ok (.if_icmp .eq 627, 3) := by decide +kernel
theorem dL_law_668 : decode cL_law 668 = .ok (.iconst 0, 1) := by decide +kernel
theorem dL_law_669 : decode cL_law 669 = .ok (.ireturn, 1) := by decide +kernel
theorem dL_law_670 : decode cL_law 670 = .ok (.aload_n 1, 1) := by decide +kernel
theorem dL_law_671 : decode cL_law 671 = .ok (.aload_n 0, 1) := by decide +kernel
theorem dL_law_672 : decode cL_law 672 = .ok (.iload_n 3, 1) := by decide +kernel
theorem dL_law_673 : decode cL_law 673 = .ok (.iconst 1, 1) := by decide +kernel
theorem dL_law_674 : decode cL_law 674 = .ok (.iadd, 1) := by decide +kernel
theorem dL_law_675 : decode cL_law 675 = .ok (.iaload, 1) := by decide +kernel
theorem dL_law_676 : decode cL_law 676 = .ok (.invokevirtual 89, 3) := by decide +kernel
theorem dL_law_679 : decode cL_law 679 = .ok (.aload_n 2, 1) := by decide +kernel
theorem dL_law_680 : decode cL_law 680 = .ok (.aload_n 0, 1) := by decide +kernel
theorem dL_law_681 : decode cL_law 681 = .ok (.iload_n 3, 1) := by decide +kernel
theorem dL_law_682 : decode cL_law 682 = .ok (.iconst 1, 1) := by decide +kernel
theorem dL_law_683 : decode cL_law 683 = .ok (.iadd, 1) := by decide +kernel
theorem dL_law_684 : decode cL_law 684 = .ok (.iaload, 1) := by decide +kernel
theorem dL_law_685 : decode cL_law 685 = .ok (.invokevirtual 92, 3) := by decide +kernel
theorem dL_law_688 : decode cL_law 688 = .ok (.if_icmp .eq 604, 3) := by decide +kernel
theorem dL_law_691 : decode cL_law 691 = .ok (.iconst 0, 1) := by decide +kernel
theorem dL_law_692 : decode cL_law 692 = .ok (.ireturn, 1) := by decide +kernel
theorem dL_law_693 : decode cL_law 693 = .ok (.aload_n 1, 1) := by decide +kernel
theorem dL_law_694 : decode cL_law 694 = .ok (.aload_n 0, 1) := by decide +kernel
theorem dL_law_695 : decode cL_law 695 = .ok (.iload_n 3, 1) := by decide +kernel
theorem dL_law_696 : decode cL_law 696 = .ok (.iconst 1, 1) := by decide +kernel
theorem dL_law_697 : decode cL_law 697 = .ok (.iadd, 1) := by decide +kernel
theorem dL_law_698 : decode cL_law 698 = .ok (.iaload, 1) := by decide +kernel
theorem dL_law_699 : decode cL_law 699 = .ok (.aload_n 0, 1) := by decide +kernel
theorem dL_law_700 : decode cL_law 700 = .ok (.iload_n 3, 1) := by decide +kernel
theorem dL_law_701 : decode cL_law 701 = .ok (.iconst 2, 1) := by decide +kernel
theorem dL_law_702 : decode cL_law 702 = .ok (.iadd, 1) := by decide +kernel
theorem dL_law_703 : decode cL_law 703 = .ok (.iaload, 1) := by decide +kernel
theorem dL_law_704 : decode cL_law 704 = .ok (.aload_n 0, 1) := by decide +kernel
theorem dL_law_705 : decode cL_law 705 = .ok (.iload_n 3, 1) := by decide +kernel
theorem dL_law_706 : decode cL_law 706 = .ok (.iconst 3, 1) := by decide +kernel
theorem dL_law_707 : decode cL_law 707 = .ok (.iadd, 1) := by decide +kernel
theorem dL_law_708 : decode cL_law 708 = .ok (.iaload, 1) := by decide +kernel
theorem dL_law_709 : decode cL_law 709 = .ok (.invokevirtual 93, 3) := by decide +kernel
theorem dL_law_712 : decode cL_law 712 = .ok (.aload_n 2, 1) := by decide +kernel
theorem dL_law_713 : decode cL_law 713 = .ok (.aload_n 0, 1) := by decide +kernel
theorem dL_law_714 : decode cL_law 714 = .ok (.iload_n 3, 1) := by decide +kernel
theorem dL_law_715 : decode cL_law 715 = .ok (.iconst 1, 1) := by decide +kernel
theorem dL_law_716 : decode cL_law 716 = .ok (.iadd, 1) := by decide +kernel
theorem dL_law_717 : decode cL_law 717 = .ok (.iaload, 1) := by decide +kernel
theorem dL_law_718 : decode cL_law 718 = .ok (.aload_n 0, 1) := by decide +kernel
theorem dL_law_719 : decode cL_law 719 = .ok (.iload_n 3, 1) := by decide +kernel
theorem dL_law_720 : decode cL_law 720 = .ok (.iconst 2, 1) := by decide +kernel
theorem dL_law_721 : decode cL_law 721 = .ok (.iadd, 1) := by decide +kernel
theorem dL_law_722 : decode cL_law 722 = .ok (.iaload, 1) := by decide +kernel
theorem dL_law_723 : decode cL_law 723 = .ok (.aload_n 0, 1) := by decide +kernel
theorem dL_law_724 : decode cL_law 724 = .ok (.iload_n 3, 1) := by decide +kernel
theorem dL_law_725 : decode cL_law 725 = .ok (.iconst 3, 1) := by decide +kernel
theorem dL_law_726 : decode cL_law 726 = .ok (.iadd, 1) := by decide +kernel
theorem dL_law_727 : decode cL_law 727 = .ok (.iaload, 1) := by decide +kernel
theorem dL_law_728 : decode cL_law 728 = .ok (.invokevirtual 96, 3) := by decide +kernel
theorem dL_law_731 : decode cL_law 731 = .ok (.if_icmp .eq 561, 3) := by decide +kernel
theorem dL_law_734 : decode cL_law 734 = .ok (.iconst 0, 1) := by decide +kernel
theorem dL_law_735 : decode cL_law 735 = .ok (.ireturn, 1) := by decide +kernel
theorem dL_law_736 : decode cL_law 736 = .ok (.aload_n 1, 1) := by decide +kernel
theorem dL_law_737 : decode cL_law 737 = .ok (.aload_n 0, 1) := by decide +kernel
theorem dL_law_738 : decode cL_law 738 = .ok (.iload_n 3, 1) := by decide +kernel
theorem dL_law_739 : decode cL_law 739 = .ok (.iconst 1, 1) := by decide +kernel
theorem dL_law_740 : decode cL_law 740 = .ok (.iadd, 1) := by decide +kernel
theorem dL_law_741 : decode cL_law 741 = .ok (.iaload, 1) := by decide +kernel
theorem dL_law_742 : decode cL_law 742 = .ok (.aload_n 0, 1) := by decide +kernel
theorem dL_law_743 : decode cL_law 743 = .ok (.iload_n 3, 1) := by decide +kernel
theorem dL_law_744 : decode cL_law 744 = .ok (.iconst 2, 1) := by decide +kernel
theorem dL_law_745 : decode cL_law 745 = .ok (.iadd, 1) := by decide +kernel
theorem dL_law_746 : decode cL_law 746 = .ok (.iaload, 1) := by decide +kernel
theorem dL_law_747 : decode cL_law 747 = .ok (.aload_n 0, 1) := by decide +kernel
theorem dL_law_748 : decode cL_law 748 = .ok (.iload_n 3, 1) := by decide +kernel
theorem dL_law_749 : decode cL_law 749 = .ok (.iconst 3, 1) := by decide +kernel
theorem dL_law_750 : decode cL_law 750 = .ok (.iadd, 1) := by decide +kernel
theorem dL_law_751 : decode cL_law 751 = .ok (.iaload, 1) := by decide +kernel
theorem dL_law_752 : decode cL_law 752 = .ok (.aload_n 0, 1) := by decide +kernel
theorem dL_law_753 : decode cL_law 753 = .ok (.iload_n 3, 1) := by decide +kernel
theorem dL_law_754 : decode cL_law 754 = .ok (.iconst 4, 1) := by decide +kernel
theorem dL_law_755 : decode cL_law 755 = .ok (.iadd, 1) := by decide +kernel
theorem dL_law_756 : decode cL_law 756 = .ok (.iaload, 1) := by decide +kernel
theorem dL_law_757 : decode cL_law 757 = .ok (.invokevirtual 97, 3) := by decide +kernel
theorem dL_law_760 : decode cL_law 760 = .ok (.aload_n 2, 1) := by decide +kernel
theorem dL_law_761 : decode cL_law 761 = .ok (.aload_n 0, 1) := by decide +kernel
theorem dL_law_762 : decode cL_law 762 = .ok (.iload_n 3, 1) := by decide +kernel
theorem dL_law_763 : decode cL_law 763 = .ok (.iconst 1, 1) := by decide +kernel
theorem dL_law_764 : decode cL_law 764 = .ok (.iadd, 1) := by decide +kernel
theorem dL_law_765 : decode cL_law 765 = .ok (.iaload, 1) := by decide +kernel
theorem dL_law_766 : decode cL_law 766 = .ok (.aload_n 0, 1) := by decide +kernel
theorem dL_law_767 : decode cL_law 767 = .ok (.iload_n 3, 1) := by decide +kernel
theorem dL_law_768 : decode cL_law 768 = .ok (.iconst 2, 1) := by decide +kernel
theorem dL_law_769 : decode cL_law 769 = .ok (.iadd, 1) := by decide +kernel
theorem dL_law_770 : decode cL_law 770 = .ok (.iaload, 1) := by decide +kernel
theorem dL_law_771 : decode cL_law 771 = .ok (.aload_n 0, 1) := by decide +kernel
theorem dL_law_772 : decode cL_law 772 = .ok (.iload_n 3, 1) := by decide +kernel
theorem dL_law_773 : decode cL_law 773 = .ok (.iconst 3, 1) := by decide +kernel
theorem dL_law_774 : decode cL_law 774 = .ok (.iadd, 1) := by decide +kernel
theorem dL_law_775 : decode cL_law 775 = .ok (.iaload, 1) := by decide +kernel
theorem dL_law_776 : decode cL_law 776 = .ok (.aload_n 0, 1) := by decide +kernel
theorem dL_law_777 : decode cL_law 777 = .ok (.iload_n 3, 1) := by decide +kernel
theorem dL_law_778 : decode cL_law 778 = .ok (.iconst 4, 1) := by decide +kernel
theorem dL_law_779 : decode cL_law 779 = .ok (.iadd, 1) := by decide +kernel
theorem dL_law_780 : decode cL_law 780 = .ok (.iaload, 1) := by decide +kernel
theorem dL_law_781 : decode cL_law 781 = .ok (.invokevirtual 101, 3) := by decide +kernel
theorem dL_law_784 : decode cL_law 784 = .ok (.if_icmp .eq 508, 3) := by decide +kernel
theorem dL_law_787 : decode cL_law 787 = .ok (.iconst 0, 1) := by decide +kernel
theorem dL_law_788 : decode cL_law 788 = .ok (.ireturn, 1) := by decide +kernel
theorem dL_law_789 : decode cL_law 789 = .ok (.aload_n 1, 1) := by decide +kernel
theorem dL_law_790 : decode cL_law 790 = .ok (.aload_n 0, 1) := by decide +kernel
theorem dL_law_791 : decode cL_law 791 = .ok (.iload_n 3, 1) := by decide +kernel
theorem dL_law_792 : decode cL_law 792 = .ok (.iconst 1, 1) := by decide +kernel
theorem dL_law_793 : decode cL_law 793 = .ok (.iadd, 1) := by decide +kernel
theorem dL_law_794 : decode cL_law 794 = .ok (.iaload, 1) := by decide +kernel
theorem dL_law_795 : decode cL_law 795 = .ok (.aload_n 0, 1) := by decide +kernel
theorem dL_law_796 : decode cL_law 796 = .ok (.iload_n 3, 1) := by decide +kernel
theorem dL_law_797 : decode cL_law 797 = .ok (.iconst 2, 1) := by decide +kernel
theorem dL_law_798 : decode cL_law 798 = .ok (.iadd, 1) := by decide +kernel
theorem dL_law_799 : decode cL_law 799 = .ok (.iaload, 1) := by decide +kernel
theorem dL_law_800 : decode cL_law 800 = .ok (.aload_n 0, 1) := by decide +kernel
theorem dL_law_801 : decode cL_law 801 = .ok (.iload_n 3, 1) := by decide +kernel
theorem dL_law_802 : decode cL_law 802 = .ok (.iconst 3, 1) := by decide +kernel
theorem dL_law_803 : decode cL_law 803 = .ok (.iadd, 1) := by decide +kernel
theorem dL_law_804 : decode cL_law 804 = .ok (.iaload, 1) := by decide +kernel
theorem dL_law_805 : decode cL_law 805 = .ok (.invokevirtual 102, 3) := by decide +kernel
theorem dL_law_808 : decode cL_law 808 = .ok (.aload_n 2, 1) := by decide +kernel
theorem dL_law_809 : decode cL_law 809 = .ok (.aload_n 0, 1) := by decide +kernel
theorem dL_law_810 : decode cL_law 810 = .ok (.iload_n 3, 1) := by decide +kernel
theorem dL_law_811 : decode cL_law 811 = .ok (.iconst 1, 1) := by decide +kernel
theorem dL_law_812 : decode cL_law 812 = .ok (.iadd, 1) := by decide +kernel
theorem dL_law_813 : decode cL_law 813 = .ok (.iaload, 1) := by decide +kernel
theorem dL_law_814 : decode cL_law 814 = .ok (.aload_n 0, 1) := by decide +kernel
theorem dL_law_815 : decode cL_law 815 = .ok (.iload_n 3, 1) := by decide +kernel
theorem dL_law_816 : decode cL_law 816 = .ok (.iconst 2, 1) := by decide +kernel
theorem dL_law_817 : decode cL_law 817 = .ok (.iadd, 1) := by decide +kernel
theorem dL_law_818 : decode cL_law 818 = .ok (.iaload, 1) := by decide +kernel
theorem dL_law_819 : decode cL_law 819 = .ok (.aload_n 0, 1) := by decide +kernel
theorem dL_law_820 : decode cL_law 820 = .ok (.iload_n 3, 1) := by decide +kernel
theorem dL_law_821 : decode cL_law 821 = .ok (.iconst 3, 1) := by decide +kernel
theorem dL_law_822 : decode cL_law 822 = .ok (.iadd, 1) := by decide +kernel
theorem dL_law_823 : decode cL_law 823 = .ok (.iaload, 1) := by decide +kernel
theorem dL_law_824 : decode cL_law 824 = .ok (.invokevirtual 105, 3) := by decide +kernel
theorem dL_law_827 : decode cL_law 827 = .ok (.if_icmp .eq 465, 3) := by decide +kernel
theorem dL_law_830 : decode cL_law 830 = .ok (.iconst 0, 1) := by decide +kernel
theorem dL_law_831 : decode cL_law 831 = .ok (.ireturn, 1) := by decide +kernel
theorem dL_law_832 : decode cL_law 832 = .ok (.aload_n 1, 1) := by decide +kernel
theorem dL_law_833 : decode cL_law 833 = .ok (.aload_n 0, 1) := by decide +kernel
theorem dL_law_834 : decode cL_law 834 = .ok (.iload_n 3, 1) := by decide +kernel
theorem dL_law_835 : decode cL_law 835 = .ok (.iconst 1, 1) := by decide +kernel
theorem dL_law_836 : decode cL_law 836 = .ok (.iadd, 1) := by decide +kernel
theorem dL_law_837 : decode cL_law 837 = .ok (.iaload, 1) := by decide +kernel
theorem dL_law_838 : decode cL_law 838 = .ok (.aload_n 0, 1) := by decide +kernel
theorem dL_law_839 : decode cL_law 839 = .ok (.iload_n 3, 1) := by decide +kernel
theorem dL_law_840 : decode cL_law 840 = .ok (.iconst 2, 1) := by decide +kernel
theorem dL_law_841 : decode cL_law 841 = .ok (.iadd, 1) := by decide +kernel
theorem dL_law_842 : decode cL_law 842 = .ok (.iaload, 1) := by decide +kernel
theorem dL_law_843 : decode cL_law 843 = .ok (.aload_n 0, 1) := by decide +kernel
theorem dL_law_844 : decode cL_law 844 = .ok (.iload_n 3, 1) := by decide +kernel
theorem dL_law_845 : decode cL_law 845 = .ok (.iconst 3, 1) := by decide +kernel
theorem dL_law_846 : decode cL_law 846 = .ok (.iadd, 1) := by decide +kernel
theorem dL_law_847 : decode cL_law 847 = .ok (.iaload, 1) := by decide +kernel
theorem dL_law_848 : decode cL_law 848 = .ok (.aload_n 0, 1) := by decide +kernel
theorem dL_law_849 : decode cL_law 849 = .ok (.iload_n 3, 1) := by decide +kernel
theorem dL_law_850 : decode cL_law 850 = .ok (.iconst 4, 1) := by decide +kernel
theorem dL_law_851 : decode cL_law 851 = .ok (.iadd, 1) := by decide +kernel
theorem dL_law_852 : decode cL_law 852 = .ok (.iaload, 1) := by decide +kernel
theorem dL_law_853 : decode cL_law 853 = .ok (.invokevirtual 106, 3) := by decide +kernel
theorem dL_law_856 : decode cL_law 856 = .ok (.aload_n 2, 1) := by decide +kernel
theorem dL_law_857 : decode cL_law 857 = .ok (.aload_n 0, 1) := by decide +kernel
theorem dL_law_858 : decode cL_law 858 = .ok (.iload_n 3, 1) := by decide +kernel
theorem dL_law_859 : decode cL_law 859 = .ok (.iconst 1, 1) := by decide +kernel
theorem dL_law_860 : decode cL_law 860 = .ok (.iadd, 1) := by decide +kernel
theorem dL_law_861 : decode cL_law 861 = .ok (.iaload, 1) := by decide +kernel
theorem dL_law_862 : decode cL_law 862 = .ok (.aload_n 0, 1) := by decide +kernel
theorem dL_law_863 : decode cL_law 863 = .ok (.iload_n 3, 1) := by decide +kernel
theorem dL_law_864 : decode cL_law 864 = .ok (.iconst 2, 1) := by decide +kernel
theorem dL_law_865 : decode cL_law 865 = .ok (.iadd, 1) := by decide +kernel
theorem dL_law_866 : decode cL_law 866 = .ok (.iaload, 1) := by decide +kernel
theorem dL_law_867 : decode cL_law 867 = .ok (.aload_n 0, 1) := by decide +kernel
theorem dL_law_868 : decode cL_law 868 = .ok (.iload_n 3, 1) := by decide +kernel
theorem dL_law_869 : decode cL_law 869 = .ok (.iconst 3, 1) := by decide +kernel
theorem dL_law_870 : decode cL_law 870 = .ok (.iadd, 1) := by decide +kernel
theorem dL_law_871 : decode cL_law 871 = .ok (.iaload, 1) := by decide +kernel
theorem dL_law_872 : decode cL_law 872 = .ok (.aload_n 0, 1) := by decide +kernel
theorem dL_law_873 : decode cL_law 873 = .ok (.iload_n 3, 1) := by decide +kernel
theorem dL_law_874 : decode cL_law 874 = .ok (.iconst 4, 1) := by decide +kernel
theorem dL_law_875 : decode cL_law 875 = .ok (.iadd, 1) := by decide +kernel
theorem dL_law_876 : decode cL_law 876 = .ok (.iaload, 1) := by decide +kernel
theorem dL_law_877 : decode cL_law 877 = .ok (.invokevirtual 109, 3) := by decide +kernel
theorem dL_law_880 : decode cL_law 880 = .ok (.if_icmp .eq 412, 3) := by decide +kernel
theorem dL_law_883 : decode cL_law 883 = .ok (.iconst 0, 1) := by decide +kernel
theorem dL_law_884 : decode cL_law 884 = .ok (.ireturn, 1) := by decide +kernel
theorem dL_law_885 : decode cL_law 885 = .ok (.aload_n 1, 1) := by decide +kernel
theorem dL_law_886 : decode cL_law 886 = .ok (.invokevirtual 110, 3) := by decide +kernel
theorem dL_law_889 : decode cL_law 889 = .ok (.aload_n 2, 1) := by decide +kernel
theorem dL_law_890 : decode cL_law 890 = .ok (.invokevirtual 113, 3) := by decide +kernel
theorem dL_law_893 : decode cL_law 893 = .ok (.if_icmp .eq 399, 3) := by decide +kernel
theorem dL_law_896 : decode cL_law 896 = .ok (.iconst 0, 1) := by decide +kernel
theorem dL_law_897 : decode cL_law 897 = .ok (.ireturn, 1) := by decide +kernel
theorem dL_law_898 : decode cL_law 898 = .ok (.aload_n 1, 1) := by decide +kernel
theorem dL_law_899 : decode cL_law 899 = .ok (.invokevirtual 114, 3) := by decide +kernel
theorem dL_law_902 : decode cL_law 902 = .ok (.aload_n 2, 1) := by decide +kernel
theorem dL_law_903 : decode cL_law 903 = .ok (.invokevirtual 117, 3) := by decide +kernel
theorem dL_law_906 : decode cL_law 906 = .ok (.if_icmp .eq 386, 3) := by decide +kernel
theorem dL_law_909 : decode cL_law 909 = .ok (.iconst 0, 1) := by decide +kernel
theorem dL_law_910 : decode cL_law 910 = .ok (.ireturn, 1) := by decide +kernel
theorem dL_law_911 : decode cL_law 911 = .ok (.aload_n 1, 1) := by decide +kernel
theorem dL_law_912 : decode cL_law 912 = .ok (.aload_n 0, 1) := by decide +kernel
theorem dL_law_913 : decode cL_law 913 = .ok (.iload_n 3, 1) := by decide +kernel
theorem dL_law_914 : decode cL_law 914 = .ok (.iconst 1, 1) := by decide +kernel
theorem dL_law_915 : decode cL_law 915 = .ok (.iadd, 1) := by decide +kernel
theorem dL_law_916 : decode cL_law 916 = .ok (.iaload, 1) := by decide +kernel
theorem dL_law_917 : decode cL_law 917 = .ok (.aload_n 0, 1) := by decide +kernel
theorem dL_law_918 : decode cL_law 918 = .ok (.iload_n 3, 1) := by decide +kernel
theorem dL_law_919 : decode cL_law 919 = .ok (.iconst 2, 1) := by decide +kernel
theorem dL_law_920 : decode cL_law 920 = .ok (.iadd, 1) := by decide +kernel
theorem dL_law_921 : decode cL_law 921 = .ok (.iaload, 1) := by decide +kernel
theorem dL_law_922 : decode cL_law 922 = .ok (.aload_n 0, 1) := by decide +kernel
theorem dL_law_923 : decode cL_law 923 = .ok (.iload_n 3, 1) := by decide +kernel
theorem dL_law_924 : decode cL_law 924 = .ok (.iconst 3, 1) := by decide +kernel
theorem dL_law_925 : decode cL_law 925 = .ok (.iadd, 1) := by decide +kernel
theorem dL_law_926 : decode cL_law 926 = .ok (.iaload, 1) := by decide +kernel
theorem dL_law_927 : decode cL_law 927 = .ok (.aload_n 0, 1) := by decide +kernel
theorem dL_law_928 : decode cL_law 928 = .ok (.iload_n 3, 1) := by decide +kernel
theorem dL_law_929 : decode cL_law 929 = .ok (.iconst 4, 1) := by decide +kernel
theorem dL_law_930 : decode cL_law 930 = .ok (.iadd, 1) := by decide +kernel
theorem dL_law_931 : decode cL_law 931 = .ok (.iaload, 1) := by decide +kernel
theorem dL_law_932 : decode cL_law 932 = .ok (.invokevirtual 118, 3) := by decide +kernel
theorem dL_law_935 : decode cL_law 935 = .ok (.aload_n 2, 1) := by decide +kernel
theorem dL_law_936 : decode cL_law 936 = .ok (.aload_n 0, 1) := by decide +kernel
theorem dL_law_937 : decode cL_law 937 = .ok (.iload_n 3, 1) := by decide +kernel
theorem dL_law_938 : decode cL_law 938 = .ok (.iconst 1, 1) := by decide +kernel
theorem dL_law_939 : decode cL_law 939 = .ok (.iadd, 1) := by decide +kernel
theorem dL_law_940 : decode cL_law 940 = .ok (.iaload, 1) := by decide +kernel
theorem dL_law_941 : decode cL_law 941 = .ok (.aload_n 0, 1) := by decide +kernel
theorem dL_law_942 : decode cL_law 942 = .ok (.iload_n 3, 1) := by decide +kernel
theorem dL_law_943 : decode cL_law 943 = .ok (.iconst 2, 1) := by decide +kernel
theorem dL_law_944 : decode cL_law 944 = .ok (.iadd, 1) := by decide +kernel
theorem dL_law_945 : decode cL_law 945 = .ok (.iaload, 1) := by decide +kernel
theorem dL_law_946 : decode cL_law 946 = .ok (.aload_n 0, 1) := by decide +kernel
theorem dL_law_947 : decode cL_law 947 = .ok (.iload_n 3, 1) := by decide +kernel
theorem dL_law_948 : decode cL_law 948 = .ok (.iconst 3, 1) := by decide +kernel
theorem dL_law_949 : decode cL_law 949 = .ok (.iadd, 1) := by decide +kernel
theorem dL_law_950 : decode cL_law 950 = .ok (.iaload, 1) := by decide +kernel
theorem dL_law_951 : decode cL_law 951 = .ok (.aload_n 0, 1) := by decide +kernel
theorem dL_law_952 : decode cL_law 952 = .ok (.iload_n 3, 1) := by decide +kernel
theorem dL_law_953 : decode cL_law 953 = .ok (.iconst 4, 1) := by decide +kernel
theorem dL_law_954 : decode cL_law 954 = .ok (.iadd, 1) := by decide +kernel
theorem dL_law_955 : decode cL_law 955 = .ok (.iaload, 1) := by decide +kernel
theorem dL_law_956 : decode cL_law 956 = .ok (.invokevirtual 121, 3) := by decide +kernel
theorem dL_law_959 : decode cL_law 959 = .ok (.if_icmp .eq 333, 3) := by decide +kernel
theorem dL_law_962 : decode cL_law 962 = .ok (.iconst 0, 1) := by decide +kernel
theorem dL_law_963 : decode cL_law 963 = .ok (.ireturn, 1) := by decide +kernel
theorem dL_law_964 : decode cL_law 964 = .ok (.aload_n 1, 1) := by decide +kernel
theorem dL_law_965 : decode cL_law 965 = .ok (.aload_n 0, 1) := by decide +kernel
theorem dL_law_966 : decode cL_law 966 = .ok (.iload_n 3, 1) := by decide +kernel
theorem dL_law_967 : decode cL_law 967 = .ok (.iconst 1, 1) := by decide +kernel
theorem dL_law_968 : decode cL_law 968 = .ok (.iadd, 1) := by decide +kernel
theorem dL_law_969 : decode cL_law 969 = .ok (.iaload, 1) := by decide +kernel
theorem dL_law_970 : decode cL_law 970 = .ok (.aload_n 0, 1) := by decide +kernel
theorem dL_law_971 : decode cL_law 971 = .ok (.iload_n 3, 1) := by decide +kernel
theorem dL_law_972 : decode cL_law 972 = .ok (.iconst 2, 1) := by decide +kernel
theorem dL_law_973 : decode cL_law 973 = .ok (.iadd, 1) := by decide +kernel
theorem dL_law_974 : decode cL_law 974 = .ok (.iaload, 1) := by decide +kernel
theorem dL_law_975 : decode cL_law 975 = .ok (.aload_n 0, 1) := by decide +kernel
theorem dL_law_976 : decode cL_law 976 = .ok (.iload_n 3, 1) := by decide +kernel
theorem dL_law_977 : decode cL_law 977 = .ok (.iconst 3, 1) := by decide +kernel
theorem dL_law_978 : decode cL_law 978 = .ok (.iadd, 1) := by decide +kernel
theorem dL_law_979 : decode cL_law 979 = .ok (.iaload, 1) := by decide +kernel
theorem dL_law_980 : decode cL_law 980 = .ok (.aload_n 0, 1) := by decide +kernel
theorem dL_law_981 : decode cL_law 981 = .ok (.iload_n 3, 1) := by decide +kernel
theorem dL_law_982 : decode cL_law 982 = .ok (.iconst 4, 1) := by decide +kernel
theorem dL_law_983 : decode cL_law 983 = .ok (.iadd, 1) := by decide +kernel
theorem dL_law_984 : decode cL_law 984 = .ok (.iaload, 1) := by decide +kernel
theorem dL_law_985 : decode cL_law 985 = .ok (.invokevirtual 122, 3) := by decide +kernel
theorem dL_law_988 : decode cL_law 988 = .ok (.aload_n 2, 1) := by decide +kernel
theorem dL_law_989 : decode cL_law 989 = .ok (.aload_n 0, 1) := by decide +kernel
theorem dL_law_990 : decode cL_law 990 = .ok (.iload_n 3, 1) := by decide +kernel
theorem dL_law_991 : decode cL_law 991 = .ok (.iconst 1, 1) := by decide +kernel
theorem dL_law_992 : decode cL_law 992 = .ok (.iadd, 1) := by decide +kernel
theorem dL_law_993 : decode cL_law 993 = .ok (.iaload, 1) := by decide +kernel
theorem dL_law_994 : decode cL_law 994 = .ok (.aload_n 0, 1) := by decide +kernel
theorem dL_law_995 : decode cL_law 995 = .ok (.iload_n 3, 1) := by decide +kernel
theorem dL_law_996 : decode cL_law 996 = .ok (.iconst 2, 1) := by decide +kernel
theorem dL_law_997 : decode cL_law 997 = .ok (.iadd, 1) := by decide +kernel
theorem dL_law_998 : decode cL_law 998 = .ok (.iaload, 1) := by decide +kernel
theorem dL_law_999 : decode cL_law 999 = .ok (.aload_n 0, 1) := by decide +kernel
theorem dL_law_1000 : decode cL_law 1000 = .ok (.iload_n 3, 1) := by decide +kernel
theorem dL_law_1001 : decode cL_law 1001 = .ok (.iconst 3, 1) := by decide +kernel
theorem dL_law_1002 : decode cL_law 1002 = .ok (.iadd, 1) := by decide +kernel
theorem dL_law_1003 : decode cL_law 1003 = .ok (.iaload, 1) := by decide +kernel
theorem dL_law_1004 : decode cL_law 1004 = .ok (.aload_n 0, 1) := by decide +kernel
theorem dL_law_1005 : decode cL_law 1005 = .ok (.iload_n 3, 1) := by decide +kernel
theorem dL_law_1006 : decode cL_law 1006 = .ok (.iconst 4, 1) := by decide +kernel
theorem dL_law_1007 : decode cL_law 1007 = .ok (.iadd, 1) := by decide +kernel
theorem dL_law_1008 : decode cL_law 1008 = .ok (.iaload, 1) := by decide +kernel
theorem dL_law_1009 : decode cL_law 1009 = .ok (.invokevirtual 125, 3) := by decide +kernel
theorem dL_law_1012 : decode cL_law 1012 = .ok (.if_icmp .eq 280, 3) := by decide +kernel
theorem dL_law_1015 : decode cL_law 1015 = .ok (.iconst 0, 1) := by decide +kernel
theorem dL_law_1016 : decode cL_law 1016 = .ok (.ireturn, 1) := by decide +kernel
theorem dL_law_1017 : decode cL_law 1017 = .ok (.aload_n 1, 1) := by decide +kernel
theorem dL_law_1018 : decode cL_law 1018 = .ok (.aload_n 0, 1) := by decide +kernel
theorem dL_law_1019 : decode cL_law 1019 = .ok (.iload_n 3, 1) := by decide +kernel
theorem dL_law_1020 : decode cL_law 1020 = .ok (.iconst 1, 1) := by decide +kernel
theorem dL_law_1021 : decode cL_law 1021 = .ok (.iadd, 1) := by decide +kernel
theorem dL_law_1022 : decode cL_law 1022 = .ok (.iaload, 1) := by decide +kernel
theorem dL_law_1023 : decode cL_law 1023 = .ok (.aload_n 0, 1) := by decide +kernel
theorem dL_law_1024 : decode cL_law 1024 = .ok (.iload_n 3, 1) := by decide +kernel
theorem dL_law_1025 : decode cL_law 1025 = .ok (.iconst 2, 1) := by decide +kernel
theorem dL_law_1026 : decode cL_law 1026 = .ok (.iadd, 1) := by decide +kernel
theorem dL_law_1027 : decode cL_law 1027 = .ok (.iaload, 1) := by decide +kernel
theorem dL_law_1028 : decode cL_law 1028 = .ok (.aload_n 0, 1) := by decide +kernel
theorem dL_law_1029 : decode cL_law 1029 = .ok (.iload_n 3, 1) := by decide +kernel
theorem dL_law_1030 : decode cL_law 1030 = .ok (.iconst 3, 1) := by decide +kernel
theorem dL_law_1031 : decode cL_law 1031 = .ok (.iadd, 1) := by decide +kernel
theorem dL_law_1032 : decode cL_law 1032 = .ok (.iaload, 1) := by decide +kernel
theorem dL_law_1033 : decode cL_law 1033 = .ok (.aload_n 0, 1) := by decide +kernel
theorem dL_law_1034 : decode cL_law 1034 = .ok (.iload_n 3, 1) := by decide +kernel
theorem dL_law_1035 : decode cL_law 1035 = .ok (.iconst 4, 1) := by decide +kernel
theorem dL_law_1036 : decode cL_law 1036 = .ok (.iadd, 1) := by decide +kernel
theorem dL_law_1037 : decode cL_law 1037 = .ok (.iaload, 1) := by decide +kernel
theorem dL_law_1038 : decode cL_law 1038 = .ok (.aload_n 0, 1) := by decide +kernel
theorem dL_law_1039 : decode cL_law 1039 = .ok (.iload_n 3, 1) := by decide +kernel
theorem dL_law_1040 : decode cL_law 1040 = .ok (.iconst 5, 1) := by decide +kernel
theorem dL_law_1041 : decode cL_law 1041 = .ok (.iadd, 1) := by decide +kernel
theorem dL_law_1042 : decode cL_law 1042 = .ok (.iaload, 1) := by decide +kernel
theorem dL_law_1043 : decode cL_law 1043 = .ok (.invokevirtual 126, 3) := by decide +kernel
theorem dL_law_1046 : decode cL_law 1046 = .ok (.aload_n 2, 1) := by decide +kernel
theorem dL_law_1047 : decode cL_law 1047 = .ok (.aload_n 0, 1) := by decide +kernel
theorem dL_law_1048 : decode cL_law 1048 = .ok (.iload_n 3, 1) := by decide +kernel
theorem dL_law_1049 : decode cL_law 1049 = .ok (.iconst 1, 1) := by decide +kernel
theorem dL_law_1050 : decode cL_law 1050 = .ok (.iadd, 1) := by decide +kernel
theorem dL_law_1051 : decode cL_law 1051 = .ok (.iaload, 1) := by decide +kernel
theorem dL_law_1052 : decode cL_law 1052 = .ok (.aload_n 0, 1) := by decide +kernel
theorem dL_law_1053 : decode cL_law 1053 = .ok (.iload_n 3, 1) := by decide +kernel
theorem dL_law_1054 : decode cL_law 1054 = .ok (.iconst 2, 1) := by decide +kernel
theorem dL_law_1055 : decode cL_law 1055 = .ok (.iadd, 1) := by decide +kernel
theorem dL_law_1056 : decode cL_law 1056 = .ok (.iaload, 1) := by decide +kernel
theorem dL_law_1057 : decode cL_law 1057 = .ok (.aload_n 0, 1) := by decide +kernel
theorem dL_law_1058 : decode cL_law 1058 = .ok (.iload_n 3, 1) := by decide +kernel
theorem dL_law_1059 : decode cL_law 1059 = .ok (.iconst 3, 1) := by decide +kernel
theorem dL_law_1060 : decode cL_law 1060 = .ok (.iadd, 1) := by decide +kernel
theorem dL_law_1061 : decode cL_law 1061 = .ok (.iaload, 1) := by decide +kernel
theorem dL_law_1062 : decode cL_law 1062 = .ok (.aload_n 0, 1) := by decide +kernel
theorem dL_law_1063 : decode cL_law 1063 = .ok (.iload_n 3, 1) := by decide +kernel
theorem dL_law_1064 : decode cL_law 1064 = .ok (.iconst 4, 1) := by decide +kernel
theorem dL_law_1065 : decode cL_law 1065 = .ok (.iadd, 1) := by decide +kernel
theorem dL_law_1066 : decode cL_law 1066 = .ok (.iaload, 1) := by decide +kernel
theorem dL_law_1067 : decode cL_law 1067 = .ok (.aload_n 0, 1) := by decide +kernel
theorem dL_law_1068 : decode cL_law 1068 = .ok (.iload_n 3, 1) := by decide +kernel
theorem dL_law_1069 : decode cL_law 1069 = .ok (.iconst 5, 1) := by decide +kernel
theorem dL_law_1070 : decode cL_law 1070 = .ok (.iadd, 1) := by decide +kernel
theorem dL_law_1071 : decode cL_law 1071 = .ok (.iaload, 1) := by decide +kernel
theorem dL_law_1072 : decode cL_law 1072 = .ok (.invokevirtual 130, 3) := by decide +kernel
theorem dL_law_1075 : decode cL_law 1075 = .ok (.if_icmp .eq 217, 3) := by decide +kernel
theorem dL_law_1078 : decode cL_law 1078 = .ok (.iconst 0, 1) := by decide +kernel
theorem dL_law_1079 : decode cL_law 1079 = .ok (.ireturn, 1) := by decide +kernel
theorem dL_law_1080 : decode cL_law 1080 = .ok (.aload_n 1, 1) := by decide +kernel
theorem dL_law_1081 : decode cL_law 1081 = .ok (.aload_n 0, 1) := by decide +kernel
theorem dL_law_1082 : decode cL_law 1082 = .ok (.iload_n 3, 1) := by decide +kernel
theorem dL_law_1083 : decode cL_law 1083 = .ok (.iconst 1, 1) := by decide +kernel
theorem dL_law_1084 : decode cL_law 1084 = .ok (.iadd, 1) := by decide +kernel
theorem dL_law_1085 : decode cL_law 1085 = .ok (.iaload, 1) := by decide +kernel
theorem dL_law_1086 : decode cL_law 1086 = .ok (.aload_n 0, 1) := by decide +kernel
theorem dL_law_1087 : decode cL_law 1087 = .ok (.iload_n 3, 1) := by decide +kernel
theorem dL_law_1088 : decode cL_law 1088 = .ok (.iconst 2, 1) := by decide +kernel
theorem dL_law_1089 : decode cL_law 1089 = .ok (.iadd, 1) := by decide +kernel
theorem dL_law_1090 : decode cL_law 1090 = .ok (.iaload, 1) := by decide +kernel
theorem dL_law_1091 : decode cL_law 1091 = .ok (.aload_n 0, 1) := by decide +kernel
theorem dL_law_1092 : decode cL_law 1092 = .ok (.iload_n 3, 1) := by decide +kernel
theorem dL_law_1093 : decode cL_law 1093 = .ok (.iconst 3, 1) := by decide +kernel
theorem dL_law_1094 : decode cL_law 1094 = .ok (.iadd, 1) := by decide +kernel
theorem dL_law_1095 : decode cL_law 1095 = .ok (.iaload, 1) := by decide +kernel
theorem dL_law_1096 : decode cL_law 1096 = .ok (.invokevirtual 131, 3) := by decide +kernel
theorem dL_law_1099 : decode cL_law 1099 = .ok (.aload_n 2, 1) := by decide +kernel
theorem dL_law_1100 : decode cL_law 1100 = .ok (.aload_n 0, 1) := by decide +kernel
theorem dL_law_1101 : decode cL_law 1101 = .ok (.iload_n 3, 1) := by decide +kernel
theorem dL_law_1102 : decode cL_law 1102 = .ok (.iconst 1, 1) := by decide +kernel
theorem dL_law_1103 : decode cL_law 1103 = .ok (.iadd, 1) := by decide +kernel
theorem dL_law_1104 : decode cL_law 1104 = .ok (.iaload, 1) := by decide +kernel
theorem dL_law_1105 : decode cL_law 1105 = .ok (.aload_n 0, 1) := by decide +kernel
theorem dL_law_1106 : decode cL_law 1106 = .ok (.iload_n 3, 1) := by decide +kernel
theorem dL_law_1107 : decode cL_law 1107 = .ok (.iconst 2, 1) := by decide +kernel
theorem dL_law_1108 : decode cL_law 1108 = .ok (.iadd, 1) := by decide +kernel
theorem dL_law_1109 : decode cL_law 1109 = .ok (.iaload, 1) := by decide +kernel
theorem dL_law_1110 : decode cL_law 1110 = .ok (.aload_n 0, 1) := by decide +kernel
theorem dL_law_1111 : decode cL_law 1111 = .ok (.iload_n 3, 1) := by decide +kernel
theorem dL_law_1112 : decode cL_law 1112 = .ok (.iconst 3, 1) := by decide +kernel
theorem dL_law_1113 : decode cL_law 1113 = .ok (.iadd, 1) := by decide +kernel
theorem dL_law_1114 : decode cL_law 1114 = .ok (.iaload, 1) := by decide +kernel
theorem dL_law_1115 : decode cL_law 1115 = .ok (.invokevirtual 134, 3) := by decide +kernel
theorem dL_law_1118 : decode cL_law 1118 = .ok (.if_icmp .eq 174, 3) := by decide +kernel
theorem dL_law_1121 : decode cL_law 1121 = .ok (.iconst 0, 1) := by decide +kernel
theorem dL_law_1122 : decode cL_law 1122 = .ok (.ireturn, 1) := by decide +kernel
theorem dL_law_1123 : decode cL_law 1123 = .ok (.aload_n 1, 1) := by decide +kernel
theorem dL_law_1124 : decode cL_law 1124 = .ok (.aload_n 0, 1) := by decide +kernel
theorem dL_law_1125 : decode cL_law 1125 = .ok (.iload_n 3, 1) := by decide +kernel
theorem dL_law_1126 : decode cL_law 1126 = .ok (.iconst 1, 1) := by decide +kernel
theorem dL_law_1127 : decode cL_law 1127 = .ok (.iadd, 1) := by decide +kernel
theorem dL_law_1128 : decode cL_law 1128 = .ok (.iaload, 1) := by decide +kernel
theorem dL_law_1129 : decode cL_law 1129 = .ok (.invokevirtual 135, 3) := by decide +kernel
theorem dL_law_1132 : decode cL_law 1132 = .ok (.aload_n 2, 1) := by decide +kernel
theorem dL_law_1133 : decode cL_law 1133 = .ok (.aload_n 0, 1) := by decide +kernel
theorem dL_law_1134 : decode cL_law 1134 = .ok (.iload_n 3, 1) := by decide +kernel
theorem dL_law_1135 : decode cL_law 1135 = .ok (.iconst 1, 1) := by decide +kernel
theorem dL_law_1136 : decode cL_law 1136 = .ok (.iadd, 1) := by decide +kernel
theorem dL_law_1137 : decode cL_law 1137 = .ok (.iaload, 1) := by decide +kernel
theorem dL_law_1138 : decode cL_law 1138 = .ok (.invokevirtual 138, 3) := by decide +kernel
theorem dL_law_1141 : decode cL_law 1141 = .ok (.if_icmp .eq 151, 3) := by decide +kernel
theorem dL_law_1144 : decode cL_law 1144 = .ok (.iconst 0, 1) := by decide +kernel
theorem dL_law_1145 : decode cL_law 1145 = .ok (.ireturn, 1) := by decide +kernel
theorem dL_law_1146 : decode cL_law 1146 = .ok (.aload_n 1, 1) := by decide +kernel
theorem dL_law_1147 : decode cL_law 1147 = .ok (.aload_n 0, 1) := by decide +kernel
theorem dL_law_1148 : decode cL_law 1148 = .ok (.iload_n 3, 1) := by decide +kernel
theorem dL_law_1149 : decode cL_law 1149 = .ok (.iconst 1, 1) := by decide +kernel
theorem dL_law_1150 : decode cL_law 1150 = .ok (.iadd, 1) := by decide +kernel
theorem dL_law_1151 : decode cL_law 1151 = .ok (.iaload, 1) := by decide +kernel
theorem dL_law_1152 : decode cL_law 1152 = .ok (.aload_n 0, 1) := by decide +kernel
theorem dL_law_1153 : decode cL_law 1153 = .ok (.iload_n 3, 1) := by decide +kernel
theorem dL_law_1154 : decode cL_law 1154 = .ok (.iconst 2, 1) := by decide +kernel
theorem dL_law_1155 : decode cL_law 1155 = .ok (.iadd, 1) := by decide +kernel
theorem dL_law_1156 : decode cL_law 1156 = .ok (.iaload, 1) := by decide +kernel
theorem dL_law_1157 : decode cL_law 1157 = .ok (.aload_n 0, 1) := by decide +kernel
theorem dL_law_1158 : decode cL_law 1158 = .ok (.iload_n 3, 1) := by decide +kernel
theorem dL_law_1159 : decode cL_law 1159 = .ok (.iconst 3, 1) := by decide +kernel
theorem dL_law_1160 : decode cL_law 1160 = .ok (.iadd, 1) := by decide +kernel
theorem dL_law_1161 : decode cL_law 1161 = .ok (.iaload, 1) := by decide +kernel
theorem dL_law_1162 : decode cL_law 1162 = .ok (.aload_n 0, 1) := by decide +kernel
theorem dL_law_1163 : decode cL_law 1163 = .ok (.iload_n 3, 1) := by decide +kernel
theorem dL_law_1164 : decode cL_law 1164 = .ok (.iconst 4, 1) := by decide +kernel
theorem dL_law_1165 : decode cL_law 1165 = .ok (.iadd, 1) := by decide +kernel
theorem dL_law_1166 : decode cL_law 1166 = .ok (.iaload, 1) := by decide +kernel
theorem dL_law_1167 : decode cL_law 1167 = .ok (.i2l, 1) := by decide +kernel
theorem dL_law_1168 : decode cL_law 1168 = .ok (.bipush 32, 2) := by decide +kernel
theorem dL_law_1170 : decode cL_law 1170 = .ok (.lshl, 1) := by decide +kernel
theorem dL_law_1171 : decode cL_law 1171 = .ok (.aload_n 0, 1) := by decide +kernel
theorem dL_law_1172 : decode cL_law 1172 = .ok (.iload_n 3, 1) := by decide +kernel
theorem dL_law_1173 : decode cL_law 1173 = .ok (.iconst 5, 1) := by decide +kernel
theorem dL_law_1174 : decode cL_law 1174 = .ok (.iadd, 1) := by decide +kernel
theorem dL_law_1175 : decode cL_law 1175 = .ok (.iaload, 1) := by decide +kernel
theorem dL_law_1176 : decode cL_law 1176 = .ok (.i2l, 1) := by decide +kernel
theorem dL_law_1177 : decode cL_law 1177 = .ok (.ldc2_w 139, 3) := by decide +kernel
theorem dL_law_1180 : decode cL_law 1180 = .ok (.land, 1) := by decide +kernel
theorem dL_law_1181 : decode cL_law 1181 = .ok (.lor, 1) := by decide +kernel
theorem dL_law_1182 : decode cL_law 1182 = .ok (.invokevirtual 141, 3) := by decide +kernel
theorem dL_law_1185 : decode cL_law 1185 = .ok (.aload_n 2, 1) := by decide +kernel
theorem dL_law_1186 : decode cL_law 1186 = .ok (.aload_n 0, 1) := by decide +kernel
theorem dL_law_1187 : decode cL_law 1187 = .ok (.iload_n 3, 1) := by decide +kernel
theorem dL_law_1188 : decode cL_law 1188 = .ok (.iconst 1, 1) := by decide +kernel
theorem dL_law_1189 : decode cL_law 1189 = .ok (.iadd, 1) := by decide +kernel
theorem dL_law_1190 : decode cL_law 1190 = .ok (.iaload, 1) := by decide +kernel
theorem dL_law_1191 : decode cL_law 1191 = .ok (.aload_n 0, 1) := by decide +kernel
theorem dL_law_1192 : decode cL_law 1192 = .ok (.iload_n 3, 1) := by decide +kernel
theorem dL_law_1193 : decode cL_law 1193 = .ok (.iconst 2, 1) := by decide +kernel
theorem dL_law_1194 : decode cL_law 1194 = .ok (.iadd, 1) := by decide +kernel
theorem dL_law_1195 : decode cL_law 1195 = .ok (.iaload, 1) := by decide +kernel
theorem dL_law_1196 : decode cL_law 1196 = .ok (.aload_n 0, 1) := by decide +kernel
theorem dL_law_1197 : decode cL_law 1197 = .ok (.iload_n 3, 1) := by decide +kernel
theorem dL_law_1198 : decode cL_law 1198 = .ok (.iconst 3, 1) := by decide +kernel
theorem dL_law_1199 : decode cL_law 1199 = .ok (.iadd, 1) := by decide +kernel
theorem dL_law_1200 : decode cL_law 1200 = .ok (.iaload, 1) := by decide +kernel
theorem dL_law_1201 : decode cL_law 1201 = .ok (.aload_n 0, 1) := by decide +kernel
theorem dL_law_1202 : decode cL_law 1202 = .ok (.iload_n 3, 1) := by decide +kernel
theorem dL_law_1203 : decode cL_law 1203 = .ok (.iconst 4, 1) := by decide +kernel
theorem dL_law_1204 : decode cL_law 1204 = .ok (.iadd, 1) := by decide +kernel
theorem dL_law_1205 : decode cL_law 1205 = .ok (.iaload, 1) := by decide +kernel
theorem dL_law_1206 : decode cL_law 1206 = .ok (.i2l, 1) := by decide +kernel
theorem dL_law_1207 : decode cL_law 1207 = .ok (.bipush 32, 2) := by decide +kernel
theorem dL_law_1209 : decode cL_law 1209 = .ok (.lshl, 1) := by decide +kernel
theorem dL_law_1210 : decode cL_law 1210 = .ok (.aload_n 0, 1) := by decide +kernel
theorem dL_law_1211 : decode cL_law 1211 = .ok (.iload_n 3, 1) := by decide +kernel
theorem dL_law_1212 : decode cL_law 1212 = .ok (.iconst 5, 1) := by decide +kernel
theorem dL_law_1213 : decode cL_law 1213 = .ok (.iadd, 1) := by decide +kernel
theorem dL_law_1214 : decode cL_law 1214 = .ok (.iaload, 1) := by decide +kernel
theorem dL_law_1215 : decode cL_law 1215 = .ok (.i2l, 1) := by decide +kernel
theorem dL_law_1216 : decode cL_law 1216 = .ok (.ldc2_w 139, 3) := by decide +kernel
theorem dL_law_1219 : decode cL_law 1219 = .ok (.land, 1) := by decide +kernel
theorem dL_law_1220 : decode cL_law 1220 = .ok (.lor, 1) := by decide +kernel
theorem dL_law_1221 : decode cL_law 1221 = .ok (.invokevirtual 145, 3) := by decide +kernel
theorem dL_law_1224 : decode cL_law 1224 = .ok (.if_icmp .eq 68, 3) := by decide +kernel
theorem dL_law_1227 : decode cL_law 1227 = .ok (.iconst 0, 1) := by decide +kernel
theorem dL_law_1228 : decode cL_law 1228 = .ok (.ireturn, 1) := by decide +kernel
theorem dL_law_1229 : decode cL_law 1229 = .ok (.aload_n 1, 1) := by decide +kernel
theorem dL_law_1230 : decode cL_law 1230 = .ok (.aload_n 0, 1) := by decide +kernel
theorem dL_law_1231 : decode cL_law 1231 = .ok (.iload_n 3, 1) := by decide +kernel
theorem dL_law_1232 : decode cL_law 1232 = .ok (.iconst 1, 1) := by decide +kernel
theorem dL_law_1233 : decode cL_law 1233 = .ok (.iadd, 1) := by decide +kernel
theorem dL_law_1234 : decode cL_law 1234 = .ok (.iaload, 1) := by decide +kernel
theorem dL_law_1235 : decode cL_law 1235 = .ok (.aload_n 0, 1) := by decide +kernel
theorem dL_law_1236 : decode cL_law 1236 = .ok (.iload_n 3, 1) := by decide +kernel
theorem dL_law_1237 : decode cL_law 1237 = .ok (.iconst 2, 1) := by decide +kernel
theorem dL_law_1238 : decode cL_law 1238 = .ok (.iadd, 1) := by decide +kernel
theorem dL_law_1239 : decode cL_law 1239 = .ok (.iaload, 1) := by decide +kernel
theorem dL_law_1240 : decode cL_law 1240 = .ok (.aload_n 0, 1) := by decide +kernel
theorem dL_law_1241 : decode cL_law 1241 = .ok (.iload_n 3, 1) := by decide +kernel
theorem dL_law_1242 : decode cL_law 1242 = .ok (.iconst 3, 1) := by decide +kernel
theorem dL_law_1243 : decode cL_law 1243 = .ok (.iadd, 1) := by decide +kernel
theorem dL_law_1244 : decode cL_law 1244 = .ok (.iaload, 1) := by decide +kernel
theorem dL_law_1245 : decode cL_law 1245 = .ok (.aload_n 0, 1) := by decide +kernel
theorem dL_law_1246 : decode cL_law 1246 = .ok (.iload_n 3, 1) := by decide +kernel
theorem dL_law_1247 : decode cL_law 1247 = .ok (.iconst 4, 1) := by decide +kernel
theorem dL_law_1248 : decode cL_law 1248 = .ok (.iadd, 1) := by decide +kernel
theorem dL_law_1249 : decode cL_law 1249 = .ok (.iaload, 1) := by decide +kernel
theorem dL_law_1250 : decode cL_law 1250 = .ok (.aload_n 0, 1) := by decide +kernel
theorem dL_law_1251 : decode cL_law 1251 = .ok (.iload_n 3, 1) := by decide +kernel
theorem dL_law_1252 : decode cL_law 1252 = .ok (.iconst 5, 1) := by decide +kernel
theorem dL_law_1253 : decode cL_law 1253 = .ok (.iadd, 1) := by decide +kernel
theorem dL_law_1254 : decode cL_law 1254 = .ok (.iaload, 1) := by decide +kernel
theorem dL_law_1255 : decode cL_law 1255 = .ok (.invokevirtual 146, 3) := by decide +kernel
theorem dL_law_1258 : decode cL_law 1258 = .ok (.aload_n 2, 1) := by decide +kernel
theorem dL_law_1259 : decode cL_law 1259 = .ok (.aload_n 0, 1) := by decide +kernel
theorem dL_law_1260 : decode cL_law 1260 = .ok (.iload_n 3, 1) := by decide +kernel
theorem dL_law_1261 : decode cL_law 1261 = .ok (.iconst 1, 1) := by decide +kernel
theorem dL_law_1262 : decode cL_law 1262 = .ok (.iadd, 1) := by decide +kernel
theorem dL_law_1263 : decode cL_law 1263 = .ok (.iaload, 1) := by decide +kernel
theorem dL_law_1264 : decode cL_law 1264 = .ok (.aload_n 0, 1) := by decide +kernel
theorem dL_law_1265 : decode cL_law 1265 = .ok (.iload_n 3, 1) := by decide +kernel
theorem dL_law_1266 : decode cL_law 1266 = .ok (.iconst 2, 1) := by decide +kernel
theorem dL_law_1267 : decode cL_law 1267 = .ok (.iadd, 1) := by decide +kernel
theorem dL_law_1268 : decode cL_law 1268 = .ok (.iaload, 1) := by decide +kernel
theorem dL_law_1269 : decode cL_law 1269 = .ok (.aload_n 0, 1) := by decide +kernel
theorem dL_law_1270 : decode cL_law 1270 = .ok (.iload_n 3, 1) := by decide +kernel
theorem dL_law_1271 : decode cL_law 1271 = .ok (.iconst 3, 1) := by decide +kernel
theorem dL_law_1272 : decode cL_law 1272 = .ok (.iadd, 1) := by decide +kernel
theorem dL_law_1273 : decode cL_law 1273 = .ok (.iaload, 1) := by decide +kernel
theorem dL_law_1274 : decode cL_law 1274 = .ok (.aload_n 0, 1) := by decide +kernel
theorem dL_law_1275 : decode cL_law 1275 = .ok (.iload_n 3, 1) := by decide +kernel
theorem dL_law_1276 : decode cL_law 1276 = .ok (.iconst 4, 1) := by decide +kernel
theorem dL_law_1277 : decode cL_law 1277 = .ok (.iadd, 1) := by decide +kernel
theorem dL_law_1278 : decode cL_law 1278 = .ok (.iaload, 1) := by decide +kernel
theorem dL_law_1279 : decode cL_law 1279 = .ok (.aload_n 0, 1) := by decide +kernel
theorem dL_law_1280 : decode cL_law 1280 = .ok (.iload_n 3, 1) := by decide +kernel
theorem dL_law_1281 : decode cL_law 1281 = .ok (.iconst 5, 1) := by decide +kernel
theorem dL_law_1282 : decode cL_law 1282 = .ok (.iadd, 1) := by decide +kernel
theorem dL_law_1283 : decode cL_law 1283 = .ok (.iaload, 1) := by decide +kernel
theorem dL_law_1284 : decode cL_law 1284 = .ok (.invokevirtual 149, 3) := by decide +kernel
theorem dL_law_1287 : decode cL_law 1287 = .ok (.if_icmp .eq 5, 3) := by decide +kernel
theorem dL_law_1290 : decode cL_law 1290 = .ok (.iconst 0, 1) := by decide +kernel
theorem dL_law_1291 : decode cL_law 1291 = .ok (.ireturn, 1) := by decide +kernel
theorem dL_law_1292 : decode cL_law 1292 = .ok (.iinc 3 6, 3) := by decide +kernel
theorem dL_law_1295 : decode cL_law 1295 = .ok (.goto (-1277), 3) := by decide +kernel
theorem dL_law_1298 : decode cL_law 1298 = .ok (.iconst 1, 1) := by decide +kernel
theorem dL_law_1299 : decode cL_law 1299 = .ok (.ireturn, 1) := by decide +kernel
def f_law_j1229 (nL : Nat) (xs : Nat → Int32) (x3 : Int32) (S : gSt) : Option ((Int32 × gSt) ⊕ ((Int32 × gSt) ⊕ (gSt))) :=
if gin (x3 + (1 : Int32)) nL then
(if gin (x3 + (2 : Int32)) nL then
(if gin (x3 + (3 : Int32)) nL then
(if gin (x3 + (4 : Int32)) nL then
(if gin (x3 + (5 : Int32)) nL then
(gBind2 (f_X6_copy (xs (x3 + (1 : Int32)).toNatClampNeg) (xs (x3 + (2 : Int32)).toNatClampNeg) (xs (x3 + (3 : Int32)).toNatClampNeg) (xs (x3 + (4 : Int32)).toNatClampNeg) (xs (x3 + (5 : Int32)).toNatClampNeg) S) fun r8 S6 =>
if gin (x3 + (1 : Int32)) nL then
(if gin (x3 + (2 : Int32)) nL then
(if gin (x3 + (3 : Int32)) nL then
(if gin (x3 + (4 : Int32)) nL then
(if gin (x3 + (5 : Int32)) nL then
(gBind2 (f_X7_copy (xs (x3 + (1 : Int32)).toNatClampNeg) (xs (x3 + (2 : Int32)).toNatClampNeg) (xs (x3 + (3 : Int32)).toNatClampNeg) (xs (x3 + (4 : Int32)).toNatClampNeg) (xs (x3 + (5 : Int32)).toNatClampNeg) S6) fun r16 S14 =>
(if r8 = r16 then
some (.inl (x3 + (6 : Int32), S14))
else
some (.inr (.inl ((0 : Int32), S14))))) else none) else none) else none) else none) else none) else none) else none) else none) else none) else none
def f_law_j1146 (nL : Nat) (xs : Nat → Int32) (x3 : Int32) (S : gSt) : Option ((Int32 × gSt) ⊕ ((Int32 × gSt) ⊕ (gSt))) :=
if gin (x3 + (1 : Int32)) nL then
(if gin (x3 + (2 : Int32)) nL then
(if gin (x3 + (3 : Int32)) nL then
(if gin (x3 + (4 : Int32)) nL then
(if gin (x3 + (5 : Int32)) nL then
(gBind2 (f_X6_item (xs (x3 + (1 : Int32)).toNatClampNeg) (xs (x3 + (2 : Int32)).toNatClampNeg) (xs (x3 + (3 : Int32)).toNatClampNeg) ((((xs (x3 + (4 : Int32)).toNatClampNeg).toInt64) <<< ((32 : Int32).toInt64 &&& 63)) ||| (((xs (x3 + (5 : Int32)).toNatClampNeg).toInt64) &&& (4294967295 : Int64))) S) fun r25 S23 =>
if gin (x3 + (1 : Int32)) nL then
(if gin (x3 + (2 : Int32)) nL then
(if gin (x3 + (3 : Int32)) nL then
(if gin (x3 + (4 : Int32)) nL then
(if gin (x3 + (5 : Int32)) nL then
(gBind2 (f_X7_item (xs (x3 + (1 : Int32)).toNatClampNeg) (xs (x3 + (2 : Int32)).toNatClampNeg) (xs (x3 + (3 : Int32)).toNatClampNeg) ((((xs (x3 + (4 : Int32)).toNatClampNeg).toInt64) <<< ((32 : Int32).toInt64 &&& 63)) ||| (((xs (x3 + (5 : Int32)).toNatClampNeg).toInt64) &&& (4294967295 : Int64))) S23) fun r33 S31 =>
(if r25 = r33 then
some (.inl (x3 + (6 : Int32), S31))
else
some (.inr (.inl ((0 : Int32), S31))))) else none) else none) else none) else none) else none) else none) else none) else none) else none) else none
def f_law_j1123 (nL : Nat) (xs : Nat → Int32) (x3 : Int32) (S : gSt) : Option ((Int32 × gSt) ⊕ ((Int32 × gSt) ⊕ (gSt))) :=
if gin (x3 + (1 : Int32)) nL then
(gBind2 (f_X6_drop (xs (x3 + (1 : Int32)).toNatClampNeg) S) fun r38 S36 =>
if gin (x3 + (1 : Int32)) nL then
(gBind2 (f_X7_drop (xs (x3 + (1 : Int32)).toNatClampNeg) S36) fun r42 S40 =>
(if r38 = r42 then
some (.inl (x3 + (6 : Int32), S40))
else
some (.inr (.inl ((0 : Int32), S40))))) else none) else none
def f_law_j1080 (nL : Nat) (xs : Nat → Int32) (x3 : Int32) (S : gSt) : Option ((Int32 × gSt) ⊕ ((Int32 × gSt) ⊕ (gSt))) :=
if gin (x3 + (1 : Int32)) nL then
(if gin (x3 + (2 : Int32)) nL then
(if gin (x3 + (3 : Int32)) nL then
(gBind2 (f_X6_sheet (xs (x3 + (1 : Int32)).toNatClampNeg) (xs (x3 + (2 : Int32)).toNatClampNeg) (xs (x3 + (3 : Int32)).toNatClampNeg) S) fun r49 S47 =>
if gin (x3 + (1 : Int32)) nL then
(if gin (x3 + (2 : Int32)) nL then
(if gin (x3 + (3 : Int32)) nL then
(gBind2 (f_X7_sheet (xs (x3 + (1 : Int32)).toNatClampNeg) (xs (x3 + (2 : Int32)).toNatClampNeg) (xs (x3 + (3 : Int32)).toNatClampNeg) S47) fun r55 S53 =>
(if r49 = r55 then
some (.inl (x3 + (6 : Int32), S53))
else
some (.inr (.inl ((0 : Int32), S53))))) else none) else none) else none) else none) else none) else none
def f_law_j1017 (nL : Nat) (xs : Nat → Int32) (x3 : Int32) (S : gSt) : Option ((Int32 × gSt) ⊕ ((Int32 × gSt) ⊕ (gSt))) :=
if gin (x3 + (1 : Int32)) nL then
(if gin (x3 + (2 : Int32)) nL then
(if gin (x3 + (3 : Int32)) nL then
(if gin (x3 + (4 : Int32)) nL then
(if gin (x3 + (5 : Int32)) nL then
(gBind2 (f_X6_film (xs (x3 + (1 : Int32)).toNatClampNeg) (xs (x3 + (2 : Int32)).toNatClampNeg) (xs (x3 + (3 : Int32)).toNatClampNeg) (xs (x3 + (4 : Int32)).toNatClampNeg) (xs (x3 + (5 : Int32)).toNatClampNeg) S) fun r64 S62 =>
if gin (x3 + (1 : Int32)) nL then
(if gin (x3 + (2 : Int32)) nL then
(if gin (x3 + (3 : Int32)) nL then
(if gin (x3 + (4 : Int32)) nL then
(if gin (x3 + (5 : Int32)) nL then
(gBind2 (f_X7_film (xs (x3 + (1 : Int32)).toNatClampNeg) (xs (x3 + (2 : Int32)).toNatClampNeg) (xs (x3 + (3 : Int32)).toNatClampNeg) (xs (x3 + (4 : Int32)).toNatClampNeg) (xs (x3 + (5 : Int32)).toNatClampNeg) S62) fun r72 S70 =>
(if r64 = r72 then
some (.inl (x3 + (6 : Int32), S70))
else
some (.inr (.inl ((0 : Int32), S70))))) else none) else none) else none) else none) else none) else none) else none) else none) else none) else none
def f_law_j964 (nL : Nat) (xs : Nat → Int32) (x3 : Int32) (S : gSt) : Option ((Int32 × gSt) ⊕ ((Int32 × gSt) ⊕ (gSt))) :=
if gin (x3 + (1 : Int32)) nL then
(if gin (x3 + (2 : Int32)) nL then
(if gin (x3 + (3 : Int32)) nL then
(if gin (x3 + (4 : Int32)) nL then
(gBind2 (f_X6_shoes (xs (x3 + (1 : Int32)).toNatClampNeg) (xs (x3 + (2 : Int32)).toNatClampNeg) (xs (x3 + (3 : Int32)).toNatClampNeg) (xs (x3 + (4 : Int32)).toNatClampNeg) S) fun r80 S78 =>
if gin (x3 + (1 : Int32)) nL then
(if gin (x3 + (2 : Int32)) nL then
(if gin (x3 + (3 : Int32)) nL then
(if gin (x3 + (4 : Int32)) nL then
(gBind2 (f_X7_shoes (xs (x3 + (1 : Int32)).toNatClampNeg) (xs (x3 + (2 : Int32)).toNatClampNeg) (xs (x3 + (3 : Int32)).toNatClampNeg) (xs (x3 + (4 : Int32)).toNatClampNeg) S78) fun r87 S85 =>
(if r80 = r87 then
some (.inl (x3 + (6 : Int32), S85))
else
some (.inr (.inl ((0 : Int32), S85))))) else none) else none) else none) else none) else none) else none) else none) else none
def f_law_j911 (nL : Nat) (xs : Nat → Int32) (x3 : Int32) (S : gSt) : Option ((Int32 × gSt) ⊕ ((Int32 × gSt) ⊕ (gSt))) :=
if gin (x3 + (1 : Int32)) nL then
(if gin (x3 + (2 : Int32)) nL then
(if gin (x3 + (3 : Int32)) nL then
(if gin (x3 + (4 : Int32)) nL then
(gBind2 (f_X6_raked (xs (x3 + (1 : Int32)).toNatClampNeg) (xs (x3 + (2 : Int32)).toNatClampNeg) (xs (x3 + (3 : Int32)).toNatClampNeg) (xs (x3 + (4 : Int32)).toNatClampNeg) S) fun r95 S93 =>
if gin (x3 + (1 : Int32)) nL then
(if gin (x3 + (2 : Int32)) nL then
(if gin (x3 + (3 : Int32)) nL then
(if gin (x3 + (4 : Int32)) nL then
(gBind2 (f_X7_raked (xs (x3 + (1 : Int32)).toNatClampNeg) (xs (x3 + (2 : Int32)).toNatClampNeg) (xs (x3 + (3 : Int32)).toNatClampNeg) (xs (x3 + (4 : Int32)).toNatClampNeg) S93) fun r102 S100 =>
(if r95 = r102 then
some (.inl (x3 + (6 : Int32), S100))
else
some (.inr (.inl ((0 : Int32), S100))))) else none) else none) else none) else none) else none) else none) else none) else none
def f_law_j898 (nL : Nat) (xs : Nat → Int32) (x3 : Int32) (S : gSt) : Option ((Int32 × gSt) ⊕ ((Int32 × gSt) ⊕ (gSt))) :=
gBind2 (f_X6_restore S) fun r106 S104 =>
gBind2 (f_X7_restore S104) fun r109 S107 =>
(if r106 = r109 then
some (.inl (x3 + (6 : Int32), S107))
else
some (.inr (.inl ((0 : Int32), S107))))
def f_law_j885 (nL : Nat) (xs : Nat → Int32) (x3 : Int32) (S : gSt) : Option ((Int32 × gSt) ⊕ ((Int32 × gSt) ⊕ (gSt))) :=
gBind2 (f_X6_image S) fun r113 S111 =>
gBind2 (f_X7_image S111) fun r116 S114 =>
(if r113 = r116 then
some (.inl (x3 + (6 : Int32), S114))
else
some (.inr (.inl ((0 : Int32), S114))))
def f_law_j832 (nL : Nat) (xs : Nat → Int32) (x3 : Int32) (S : gSt) : Option ((Int32 × gSt) ⊕ ((Int32 × gSt) ⊕ (gSt))) :=
if gin (x3 + (1 : Int32)) nL then
(if gin (x3 + (2 : Int32)) nL then
(if gin (x3 + (3 : Int32)) nL then
(if gin (x3 + (4 : Int32)) nL then
(gBind2 (f_X6_crabs (xs (x3 + (1 : Int32)).toNatClampNeg) (xs (x3 + (2 : Int32)).toNatClampNeg) (xs (x3 + (3 : Int32)).toNatClampNeg) (xs (x3 + (4 : Int32)).toNatClampNeg) S) fun r124 S122 =>
if gin (x3 + (1 : Int32)) nL then
(if gin (x3 + (2 : Int32)) nL then
(if gin (x3 + (3 : Int32)) nL then
(if gin (x3 + (4 : Int32)) nL then
(gBind2 (f_X7_crabs (xs (x3 + (1 : Int32)).toNatClampNeg) (xs (x3 + (2 : Int32)).toNatClampNeg) (xs (x3 + (3 : Int32)).toNatClampNeg) (xs (x3 + (4 : Int32)).toNatClampNeg) S122) fun r131 S129 =>
(if r124 = r131 then
some (.inl (x3 + (6 : Int32), S129))
else
some (.inr (.inl ((0 : Int32), S129))))) else none) else none) else none) else none) else none) else none) else none) else none
def f_law_j789 (nL : Nat) (xs : Nat → Int32) (x3 : Int32) (S : gSt) : Option ((Int32 × gSt) ⊕ ((Int32 × gSt) ⊕ (gSt))) :=
if gin (x3 + (1 : Int32)) nL then
(if gin (x3 + (2 : Int32)) nL then
(if gin (x3 + (3 : Int32)) nL then
(gBind2 (f_X6_well (xs (x3 + (1 : Int32)).toNatClampNeg) (xs (x3 + (2 : Int32)).toNatClampNeg) (xs (x3 + (3 : Int32)).toNatClampNeg) S) fun r138 S136 =>
if gin (x3 + (1 : Int32)) nL then
(if gin (x3 + (2 : Int32)) nL then
(if gin (x3 + (3 : Int32)) nL then
(gBind2 (f_X7_well (xs (x3 + (1 : Int32)).toNatClampNeg) (xs (x3 + (2 : Int32)).toNatClampNeg) (xs (x3 + (3 : Int32)).toNatClampNeg) S136) fun r144 S142 =>
(if r138 = r144 then
some (.inl (x3 + (6 : Int32), S142))
else
some (.inr (.inl ((0 : Int32), S142))))) else none) else none) else none) else none) else none) else none
def f_law_j736 (nL : Nat) (xs : Nat → Int32) (x3 : Int32) (S : gSt) : Option ((Int32 × gSt) ⊕ ((Int32 × gSt) ⊕ (gSt))) :=
if gin (x3 + (1 : Int32)) nL then
(if gin (x3 + (2 : Int32)) nL then
(if gin (x3 + (3 : Int32)) nL then
(if gin (x3 + (4 : Int32)) nL then
(gBind2 (f_X6_walk (xs (x3 + (1 : Int32)).toNatClampNeg) (xs (x3 + (2 : Int32)).toNatClampNeg) (xs (x3 + (3 : Int32)).toNatClampNeg) (xs (x3 + (4 : Int32)).toNatClampNeg) S) fun r152 S150 =>
if gin (x3 + (1 : Int32)) nL then
(if gin (x3 + (2 : Int32)) nL then
(if gin (x3 + (3 : Int32)) nL then
(if gin (x3 + (4 : Int32)) nL then
(gBind2 (f_X7_walk (xs (x3 + (1 : Int32)).toNatClampNeg) (xs (x3 + (2 : Int32)).toNatClampNeg) (xs (x3 + (3 : Int32)).toNatClampNeg) (xs (x3 + (4 : Int32)).toNatClampNeg) S150) fun r159 S157 =>
(if r152 = r159 then
some (.inl (x3 + (6 : Int32), S157))
else
some (.inr (.inl ((0 : Int32), S157))))) else none) else none) else none) else none) else none) else none) else none) else none
def f_law_j693 (nL : Nat) (xs : Nat → Int32) (x3 : Int32) (S : gSt) : Option ((Int32 × gSt) ⊕ ((Int32 × gSt) ⊕ (gSt))) :=
if gin (x3 + (1 : Int32)) nL then
(if gin (x3 + (2 : Int32)) nL then
(if gin (x3 + (3 : Int32)) nL then
(gBind2 (f_X6_way (xs (x3 + (1 : Int32)).toNatClampNeg) (xs (x3 + (2 : Int32)).toNatClampNeg) (xs (x3 + (3 : Int32)).toNatClampNeg) S) fun r166 S164 =>
if gin (x3 + (1 : Int32)) nL then
(if gin (x3 + (2 : Int32)) nL then
(if gin (x3 + (3 : Int32)) nL then
(gBind2 (f_X7_way (xs (x3 + (1 : Int32)).toNatClampNeg) (xs (x3 + (2 : Int32)).toNatClampNeg) (xs (x3 + (3 : Int32)).toNatClampNeg) S164) fun r172 S170 =>
(if r166 = r172 then
some (.inl (x3 + (6 : Int32), S170))
else
some (.inr (.inl ((0 : Int32), S170))))) else none) else none) else none) else none) else none) else none
def f_law_j670 (nL : Nat) (xs : Nat → Int32) (x3 : Int32) (S : gSt) : Option ((Int32 × gSt) ⊕ ((Int32 × gSt) ⊕ (gSt))) :=
if gin (x3 + (1 : Int32)) nL then
(gBind2 (f_X6_county (xs (x3 + (1 : Int32)).toNatClampNeg) S) fun r177 S175 =>
if gin (x3 + (1 : Int32)) nL then
(gBind2 (f_X7_county (xs (x3 + (1 : Int32)).toNatClampNeg) S175) fun r181 S179 =>
(if r177 = r181 then
some (.inl (x3 + (6 : Int32), S179))
else
some (.inr (.inl ((0 : Int32), S179))))) else none) else none
def f_law_j637 (nL : Nat) (xs : Nat → Int32) (x3 : Int32) (S : gSt) : Option ((Int32 × gSt) ⊕ ((Int32 × gSt) ⊕ (gSt))) :=
if gin (x3 + (1 : Int32)) nL then
(if gin (x3 + (2 : Int32)) nL then
(gBind2 (f_X6_lasts (xs (x3 + (1 : Int32)).toNatClampNeg) (xs (x3 + (2 : Int32)).toNatClampNeg) S) fun r187 S185 =>
if gin (x3 + (1 : Int32)) nL then
(if gin (x3 + (2 : Int32)) nL then
(gBind2 (f_X7_lasts (xs (x3 + (1 : Int32)).toNatClampNeg) (xs (x3 + (2 : Int32)).toNatClampNeg) S185) fun r192 S190 =>
(if r187 = r192 then
some (.inl (x3 + (6 : Int32), S190))
else
some (.inr (.inl ((0 : Int32), S190))))) else none) else none) else none) else none
def f_law_j604 (nL : Nat) (xs : Nat → Int32) (x3 : Int32) (S : gSt) : Option ((Int32 × gSt) ⊕ ((Int32 × gSt) ⊕ (gSt))) :=
if gin (x3 + (1 : Int32)) nL then
(if gin (x3 + (2 : Int32)) nL then
(gBind2 (f_X6_land (xs (x3 + (1 : Int32)).toNatClampNeg) (xs (x3 + (2 : Int32)).toNatClampNeg) S) fun r198 S196 =>
if gin (x3 + (1 : Int32)) nL then
(if gin (x3 + (2 : Int32)) nL then
(gBind2 (f_X7_land (xs (x3 + (1 : Int32)).toNatClampNeg) (xs (x3 + (2 : Int32)).toNatClampNeg) S196) fun r203 S201 =>
(if r198 = r203 then
some (.inl (x3 + (6 : Int32), S201))
else
some (.inr (.inl ((0 : Int32), S201))))) else none) else none) else none) else none
def f_law_j571 (nL : Nat) (xs : Nat → Int32) (x3 : Int32) (S : gSt) : Option ((Int32 × gSt) ⊕ ((Int32 × gSt) ⊕ (gSt))) :=
if gin (x3 + (1 : Int32)) nL then
(if gin (x3 + (2 : Int32)) nL then
(gBind2 (f_X6_ahead (xs (x3 + (1 : Int32)).toNatClampNeg) (xs (x3 + (2 : Int32)).toNatClampNeg) S) fun r209 S207 =>
if gin (x3 + (1 : Int32)) nL then
(if gin (x3 + (2 : Int32)) nL then
(gBind2 (f_X7_ahead (xs (x3 + (1 : Int32)).toNatClampNeg) (xs (x3 + (2 : Int32)).toNatClampNeg) S207) fun r214 S212 =>
(if r209 = r214 then
some (.inl (x3 + (6 : Int32), S212))
else
some (.inr (.inl ((0 : Int32), S212))))) else none) else none) else none) else none
def f_law_j548 (nL : Nat) (xs : Nat → Int32) (x3 : Int32) (S : gSt) : Option ((Int32 × gSt) ⊕ ((Int32 × gSt) ⊕ (gSt))) :=
if gin (x3 + (1 : Int32)) nL then
(gBind2 (f_X6_seed (xs (x3 + (1 : Int32)).toNatClampNeg) S) fun r219 S217 =>
if gin (x3 + (1 : Int32)) nL then
(gBind2 (f_X7_seed (xs (x3 + (1 : Int32)).toNatClampNeg) S217) fun r223 S221 =>
(if r219 = r223 then
some (.inl (x3 + (6 : Int32), S221))
else
some (.inr (.inl ((0 : Int32), S221))))) else none) else none
def f_law_j535 (nL : Nat) (xs : Nat → Int32) (x3 : Int32) (S : gSt) : Option ((Int32 × gSt) ⊕ ((Int32 × gSt) ⊕ (gSt))) :=
gBind2 (f_X6_undo S) fun r227 S225 =>
gBind2 (f_X7_undo S225) fun r230 S228 =>
(if r227 = r230 then
some (.inl (x3 + (6 : Int32), S228))
else
some (.inr (.inl ((0 : Int32), S228))))
def f_law_j512 (nL : Nat) (xs : Nat → Int32) (x3 : Int32) (S : gSt) : Option ((Int32 × gSt) ⊕ ((Int32 × gSt) ⊕ (gSt))) :=
if gin (x3 + (1 : Int32)) nL then
(gBind2 (f_X6_rake (xs (x3 + (1 : Int32)).toNatClampNeg) S) fun r235 S233 =>
if gin (x3 + (1 : Int32)) nL then
(gBind2 (f_X7_rake (xs (x3 + (1 : Int32)).toNatClampNeg) S233) fun r239 S237 =>
(if r235 = r239 then
some (.inl (x3 + (6 : Int32), S237))
else
some (.inr (.inl ((0 : Int32), S237))))) else none) else none
def f_law_j489 (nL : Nat) (xs : Nat → Int32) (x3 : Int32) (S : gSt) : Option ((Int32 × gSt) ⊕ ((Int32 × gSt) ⊕ (gSt))) :=
if gin (x3 + (1 : Int32)) nL then
(gBind2 (f_X6_drift (xs (x3 + (1 : Int32)).toNatClampNeg) S) fun r244 S242 =>
if gin (x3 + (1 : Int32)) nL then
(gBind2 (f_X7_drift (xs (x3 + (1 : Int32)).toNatClampNeg) S242) fun r248 S246 =>
(if r244 = r248 then
some (.inl (x3 + (6 : Int32), S246))
else
some (.inr (.inl ((0 : Int32), S246))))) else none) else none
def f_law_j466 (nL : Nat) (xs : Nat → Int32) (x3 : Int32) (S : gSt) : Option ((Int32 × gSt) ⊕ ((Int32 × gSt) ⊕ (gSt))) :=
if gin (x3 + (1 : Int32)) nL then
(gBind2 (f_X6_hours (xs (x3 + (1 : Int32)).toNatClampNeg) S) fun r253 S251 =>
if gin (x3 + (1 : Int32)) nL then
(gBind2 (f_X7_hours (xs (x3 + (1 : Int32)).toNatClampNeg) S251) fun r257 S255 =>
(if r253 = r257 then
some (.inl (x3 + (6 : Int32), S255))
else
some (.inr (.inl ((0 : Int32), S255))))) else none) else none
def f_law_j433 (nL : Nat) (xs : Nat → Int32) (x3 : Int32) (S : gSt) : Option ((Int32 × gSt) ⊕ ((Int32 × gSt) ⊕ (gSt))) :=
if gin (x3 + (1 : Int32)) nL then
(if gin (x3 + (2 : Int32)) nL then
(gBind2 (f_X6_step (xs (x3 + (1 : Int32)).toNatClampNeg) (xs (x3 + (2 : Int32)).toNatClampNeg) S) fun r263 S261 =>
if gin (x3 + (1 : Int32)) nL then
(if gin (x3 + (2 : Int32)) nL then
(gBind2 (f_X7_step (xs (x3 + (1 : Int32)).toNatClampNeg) (xs (x3 + (2 : Int32)).toNatClampNeg) S261) fun r268 S266 =>
(if r263 = r268 then
some (.inl (x3 + (6 : Int32), S266))
else
some (.inr (.inl ((0 : Int32), S266))))) else none) else none) else none) else none
def f_law_j410 (nL : Nat) (xs : Nat → Int32) (x3 : Int32) (S : gSt) : Option ((Int32 × gSt) ⊕ ((Int32 × gSt) ⊕ (gSt))) :=
if gin (x3 + (1 : Int32)) nL then
(gBind2 (f_X6_count (xs (x3 + (1 : Int32)).toNatClampNeg) S) fun r273 S271 =>
if gin (x3 + (1 : Int32)) nL then
(gBind2 (f_X7_count (xs (x3 + (1 : Int32)).toNatClampNeg) S271) fun r277 S275 =>
(if r273 = r277 then
some (.inl (x3 + (6 : Int32), S275))
else
some (.inr (.inl ((0 : Int32), S275))))) else none) else none
def f_law_j397 (nL : Nat) (xs : Nat → Int32) (x3 : Int32) (S : gSt) : Option ((Int32 × gSt) ⊕ ((Int32 × gSt) ⊕ (gSt))) :=
gBind2 (f_X6_settle S) fun r281 S279 =>
gBind2 (f_X7_settle S279) fun r284 S282 =>
(if r281 = r284 then
some (.inl (x3 + (6 : Int32), S282))
else
some (.inr (.inl ((0 : Int32), S282))))
def f_law_j374 (nL : Nat) (xs : Nat → Int32) (x3 : Int32) (S : gSt) : Option ((Int32 × gSt) ⊕ ((Int32 × gSt) ⊕ (gSt))) :=
if gin (x3 + (1 : Int32)) nL then
(gBind2 (f_X6_type (xs (x3 + (1 : Int32)).toNatClampNeg) S) fun r289 S287 =>
if gin (x3 + (1 : Int32)) nL then
(gBind2 (f_X7_type (xs (x3 + (1 : Int32)).toNatClampNeg) S287) fun r293 S291 =>
(if r289 = r293 then
some (.inl (x3 + (6 : Int32), S291))
else
some (.inr (.inl ((0 : Int32), S291))))) else none) else none
def f_law_j351 (nL : Nat) (xs : Nat → Int32) (x3 : Int32) (S : gSt) : Option ((Int32 × gSt) ⊕ ((Int32 × gSt) ⊕ (gSt))) :=
if gin (x3 + (1 : Int32)) nL then
(gBind2 (f_X6_held (xs (x3 + (1 : Int32)).toNatClampNeg) S) fun r298 S296 =>
if gin (x3 + (1 : Int32)) nL then
(gBind2 (f_X7_held (xs (x3 + (1 : Int32)).toNatClampNeg) S296) fun r302 S300 =>
(if r298 = r302 then
some (.inl (x3 + (6 : Int32), S300))
else
some (.inr (.inl ((0 : Int32), S300))))) else none) else none
def f_law_j318 (nL : Nat) (xs : Nat → Int32) (x3 : Int32) (S : gSt) : Option ((Int32 × gSt) ⊕ ((Int32 × gSt) ⊕ (gSt))) :=
if gin (x3 + (1 : Int32)) nL then
(if gin (x3 + (2 : Int32)) nL then
(gBind2 (f_X6_claim (xs (x3 + (1 : Int32)).toNatClampNeg) (xs (x3 + (2 : Int32)).toNatClampNeg) S) fun r308 S306 =>
if gin (x3 + (1 : Int32)) nL then
(if gin (x3 + (2 : Int32)) nL then
(gBind2 (f_X7_claim (xs (x3 + (1 : Int32)).toNatClampNeg) (xs (x3 + (2 : Int32)).toNatClampNeg) S306) fun r313 S311 =>
(if r308 = r313 then
some (.inl (x3 + (6 : Int32), S311))
else
some (.inr (.inl ((0 : Int32), S311))))) else none) else none) else none) else none
def f_law_j285 (nL : Nat) (xs : Nat → Int32) (x3 : Int32) (S : gSt) : Option ((Int32 × gSt) ⊕ ((Int32 × gSt) ⊕ (gSt))) :=
if gin (x3 + (1 : Int32)) nL then
(if gin (x3 + (2 : Int32)) nL then
(gBind2 (f_X6_print (xs (x3 + (1 : Int32)).toNatClampNeg) (xs (x3 + (2 : Int32)).toNatClampNeg) S) fun r319 S317 =>
if gin (x3 + (1 : Int32)) nL then
(if gin (x3 + (2 : Int32)) nL then
(gBind2 (f_X7_print (xs (x3 + (1 : Int32)).toNatClampNeg) (xs (x3 + (2 : Int32)).toNatClampNeg) S317) fun r324 S322 =>
(if r319 = r324 then
some (.inl (x3 + (6 : Int32), S322))
else
some (.inr (.inl ((0 : Int32), S322))))) else none) else none) else none) else none
def f_law_j252 (nL : Nat) (xs : Nat → Int32) (x3 : Int32) (S : gSt) : Option ((Int32 × gSt) ⊕ ((Int32 × gSt) ⊕ (gSt))) :=
if gin (x3 + (1 : Int32)) nL then
(if gin (x3 + (2 : Int32)) nL then
(gBind2 (f_X6_isle (xs (x3 + (1 : Int32)).toNatClampNeg) (xs (x3 + (2 : Int32)).toNatClampNeg) S) fun r330 S328 =>
if gin (x3 + (1 : Int32)) nL then
(if gin (x3 + (2 : Int32)) nL then
(gBind2 (f_X7_isle (xs (x3 + (1 : Int32)).toNatClampNeg) (xs (x3 + (2 : Int32)).toNatClampNeg) S328) fun r335 S333 =>
(if r330 = r335 then
some (.inl (x3 + (6 : Int32), S333))
else
some (.inr (.inl ((0 : Int32), S333))))) else none) else none) else none) else none
def f_law_j219 (nL : Nat) (xs : Nat → Int32) (x3 : Int32) (S : gSt) : Option ((Int32 × gSt) ⊕ ((Int32 × gSt) ⊕ (gSt))) :=
if gin (x3 + (1 : Int32)) nL then
(if gin (x3 + (2 : Int32)) nL then
(gBind2 (f_X6_of (xs (x3 + (1 : Int32)).toNatClampNeg) (xs (x3 + (2 : Int32)).toNatClampNeg) S) fun r341 S339 =>
if gin (x3 + (1 : Int32)) nL then
(if gin (x3 + (2 : Int32)) nL then
(gBind2 (f_X7_of (xs (x3 + (1 : Int32)).toNatClampNeg) (xs (x3 + (2 : Int32)).toNatClampNeg) S339) fun r346 S344 =>
(if r341 = r346 then
some (.inl (x3 + (6 : Int32), S344))
else
some (.inr (.inl ((0 : Int32), S344))))) else none) else none) else none) else none
def f_law_j176 (nL : Nat) (xs : Nat → Int32) (x3 : Int32) (S : gSt) : Option ((Int32 × gSt) ⊕ ((Int32 × gSt) ⊕ (gSt))) :=
if gin (x3 + (1 : Int32)) nL then
(if gin (x3 + (2 : Int32)) nL then
(if gin (x3 + (3 : Int32)) nL then
(gBind2 (f_X6_walker (xs (x3 + (1 : Int32)).toNatClampNeg) (xs (x3 + (2 : Int32)).toNatClampNeg) (xs (x3 + (3 : Int32)).toNatClampNeg) S) fun r353 S351 =>
if gin (x3 + (1 : Int32)) nL then
(if gin (x3 + (2 : Int32)) nL then
(if gin (x3 + (3 : Int32)) nL then
(gBind2 (f_X7_walker (xs (x3 + (1 : Int32)).toNatClampNeg) (xs (x3 + (2 : Int32)).toNatClampNeg) (xs (x3 + (3 : Int32)).toNatClampNeg) S351) fun r359 S357 =>
(if r353 = r359 then
some (.inl (x3 + (6 : Int32), S357))
else
some (.inr (.inl ((0 : Int32), S357))))) else none) else none) else none) else none) else none) else none
def f_law_s18_b (nL : Nat) (xs : Nat → Int32) (x3 : Int32) (S : gSt) : Option ((Int32 × gSt) ⊕ ((Int32 × gSt) ⊕ (gSt))) :=
(if ((Int32.ofNat nL) - (6 : Int32)) < x3 then
some (.inr (.inr (S)))
else
if gin x3 nL then
((if ((xs x3.toNatClampNeg) &&& (31 : Int32)).toInt < 0 ∨ 31 < ((xs x3.toNatClampNeg) &&& (31 : Int32)).toInt then
some (.inl (x3 + (6 : Int32), S))
else if ((xs x3.toNatClampNeg) &&& (31 : Int32)) = (0 : Int32) then
f_law_j176 nL xs x3 S
else if ((xs x3.toNatClampNeg) &&& (31 : Int32)) = (1 : Int32) then
f_law_j219 nL xs x3 S
else if ((xs x3.toNatClampNeg) &&& (31 : Int32)) = (2 : Int32) then
f_law_j252 nL xs x3 S
else if ((xs x3.toNatClampNeg) &&& (31 : Int32)) = (3 : Int32) then
f_law_j285 nL xs x3 S
else if ((xs x3.toNatClampNeg) &&& (31 : Int32)) = (4 : Int32) then
f_law_j318 nL xs x3 S
else if ((xs x3.toNatClampNeg) &&& (31 : Int32)) = (5 : Int32) then
f_law_j351 nL xs x3 S
else if ((xs x3.toNatClampNeg) &&& (31 : Int32)) = (6 : Int32) then
f_law_j374 nL xs x3 S
else if ((xs x3.toNatClampNeg) &&& (31 : Int32)) = (7 : Int32) then
f_law_j397 nL xs x3 S
else if ((xs x3.toNatClampNeg) &&& (31 : Int32)) = (8 : Int32) then
f_law_j410 nL xs x3 S
else if ((xs x3.toNatClampNeg) &&& (31 : Int32)) = (9 : Int32) then
f_law_j433 nL xs x3 S
else if ((xs x3.toNatClampNeg) &&& (31 : Int32)) = (10 : Int32) then
f_law_j466 nL xs x3 S
else if ((xs x3.toNatClampNeg) &&& (31 : Int32)) = (11 : Int32) then
f_law_j489 nL xs x3 S
else if ((xs x3.toNatClampNeg) &&& (31 : Int32)) = (12 : Int32) then
f_law_j512 nL xs x3 S
else if ((xs x3.toNatClampNeg) &&& (31 : Int32)) = (13 : Int32) then
f_law_j535 nL xs x3 S
else if ((xs x3.toNatClampNeg) &&& (31 : Int32)) = (14 : Int32) then
f_law_j548 nL xs x3 S
else if ((xs x3.toNatClampNeg) &&& (31 : Int32)) = (15 : Int32) then
f_law_j571 nL xs x3 S
else if ((xs x3.toNatClampNeg) &&& (31 : Int32)) = (16 : Int32) then
f_law_j604 nL xs x3 S
else if ((xs x3.toNatClampNeg) &&& (31 : Int32)) = (17 : Int32) then
f_law_j637 nL xs x3 S
else if ((xs x3.toNatClampNeg) &&& (31 : Int32)) = (18 : Int32) then
f_law_j670 nL xs x3 S
else if ((xs x3.toNatClampNeg) &&& (31 : Int32)) = (19 : Int32) then
f_law_j693 nL xs x3 S
else if ((xs x3.toNatClampNeg) &&& (31 : Int32)) = (20 : Int32) then
f_law_j736 nL xs x3 S
else if ((xs x3.toNatClampNeg) &&& (31 : Int32)) = (21 : Int32) then
f_law_j789 nL xs x3 S
else if ((xs x3.toNatClampNeg) &&& (31 : Int32)) = (22 : Int32) then
f_law_j832 nL xs x3 S
else if ((xs x3.toNatClampNeg) &&& (31 : Int32)) = (23 : Int32) then
f_law_j885 nL xs x3 S
else if ((xs x3.toNatClampNeg) &&& (31 : Int32)) = (24 : Int32) then
f_law_j898 nL xs x3 S
else if ((xs x3.toNatClampNeg) &&& (31 : Int32)) = (25 : Int32) then
f_law_j911 nL xs x3 S
else if ((xs x3.toNatClampNeg) &&& (31 : Int32)) = (26 : Int32) then
f_law_j964 nL xs x3 S
else if ((xs x3.toNatClampNeg) &&& (31 : Int32)) = (27 : Int32) then
f_law_j1017 nL xs x3 S
else if ((xs x3.toNatClampNeg) &&& (31 : Int32)) = (28 : Int32) then
f_law_j1080 nL xs x3 S
else if ((xs x3.toNatClampNeg) &&& (31 : Int32)) = (29 : Int32) then
f_law_j1123 nL xs x3 S
else if ((xs x3.toNatClampNeg) &&& (31 : Int32)) = (30 : Int32) then
f_law_j1146 nL xs x3 S
else if ((xs x3.toNatClampNeg) &&& (31 : Int32)) = (31 : Int32) then
f_law_j1229 nL xs x3 S
else none)) else none)
def f_law_s18 (nL : Nat) (xs : Nat → Int32) : (Int32 × gSt) → Option ((Int32 × gSt) ⊕ ((Int32 × gSt) ⊕ (gSt))) := fun t => f_law_s18_b nL xs t.1 t.2
def f_law (nL : Nat) (xs : Nat → Int32) (x3 : Int32) (S : gSt) : Option (Int32 × gSt) :=
(gLoop (f_law_s18 nL xs) gFuel (x3, S)).bind fun q396 => match q396 with
| .inl (v396, T396) => some (v396, T396)
| .inr S396 =>
some ((1 : Int32), S396)
set_option maxHeartbeats 8000000 in
set_option maxRecDepth 20000 in
theorem ok_law {X : gX} {b nL : Nat} {xs : Nat → Int32} (hp : gLaw X b nL xs) {x3 : Int32} {S S0 : gSt} (h : f_law nL xs x3 S = some (1, S0)) : AW X RL 12 cL_law 18 [some (.ref b), some (.ref (gad X 0)), some (.ref (gad X 47)), some (.int x3)] [] S := by
  unfold f_law at h
  obtain ⟨R396, hR396, h⟩ := g_bind h
  have E18 : ∀  (S396 : gSt), (some ((1 : Int32), S396)) = some (1, S0) → AW X RL 12 cL_law 1298 [none, none, none, none] [] S396 := by
    intro S396 h
    refine a_iconst (pc := 1298) (v := (1 : Int32)) dL_law_1298 (by decide) ?_
    exact a_lawret hp dL_law_1299
  have lp : ∀ (n : Nat) (x3 : Int32) (S : gSt), gLoop (f_law_s18 nL xs) n (x3, S) = some R396 → AW X RL 12 cL_law 18 [some (.ref b), some (.ref (gad X 0)), some (.ref (gad X 47)), some (.int x3)] [] S := by
    intro n
    induction n with
    | zero => intro x3 S hR; cases hR
    | succ n ih =>
      intro x3 S hR
      obtain ⟨q, hs, hR⟩ := g_bind hR
      have hs : f_law_s18_b nL xs x3 S = some q := hs
      unfold f_law_s18_b at hs
      have J1229 : ∀ (x3 : Int32) (S : gSt), f_law_j1229 nL xs x3 S = some q → AW X RL 12 cL_law 1229 [some (.ref b), some (.ref (gad X 0)), some (.ref (gad X 47)), some (.int x3)] [] S := by
        intro x3 S hs
        unfold f_law_j1229 at hs
        refine a_aloadn (pc := 1229) dL_law_1229 rfl rfl ?_
        refine a_aloadn (pc := 1230) dL_law_1230 rfl rfl ?_
        refine a_iloadn (pc := 1231) dL_law_1231 rfl rfl ?_
        refine a_iconst (pc := 1232) (v := (1 : Int32)) dL_law_1232 (by decide) ?_
        refine a_iadd (pc := 1233) dL_law_1233 ?_
        obtain ⟨hi1, hs⟩ := g_if hs
        refine a_sld (pc := 1234) hp hi1 dL_law_1234 ?_
        refine a_aloadn (pc := 1235) dL_law_1235 rfl rfl ?_
        refine a_iloadn (pc := 1236) dL_law_1236 rfl rfl ?_
        refine a_iconst (pc := 1237) (v := (2 : Int32)) dL_law_1237 (by decide) ?_
        refine a_iadd (pc := 1238) dL_law_1238 ?_
        obtain ⟨hi2, hs⟩ := g_if hs
        refine a_sld (pc := 1239) hp hi2 dL_law_1239 ?_
        refine a_aloadn (pc := 1240) dL_law_1240 rfl rfl ?_
        refine a_iloadn (pc := 1241) dL_law_1241 rfl rfl ?_
        refine a_iconst (pc := 1242) (v := (3 : Int32)) dL_law_1242 (by decide) ?_
        refine a_iadd (pc := 1243) dL_law_1243 ?_
        obtain ⟨hi3, hs⟩ := g_if hs
        refine a_sld (pc := 1244) hp hi3 dL_law_1244 ?_
        refine a_aloadn (pc := 1245) dL_law_1245 rfl rfl ?_
        refine a_iloadn (pc := 1246) dL_law_1246 rfl rfl ?_
        refine a_iconst (pc := 1247) (v := (4 : Int32)) dL_law_1247 (by decide) ?_
        refine a_iadd (pc := 1248) dL_law_1248 ?_
        obtain ⟨hi4, hs⟩ := g_if hs
        refine a_sld (pc := 1249) hp hi4 dL_law_1249 ?_
        refine a_aloadn (pc := 1250) dL_law_1250 rfl rfl ?_
        refine a_iloadn (pc := 1251) dL_law_1251 rfl rfl ?_
        refine a_iconst (pc := 1252) (v := (5 : Int32)) dL_law_1252 (by decide) ?_
        refine a_iadd (pc := 1253) dL_law_1253 ?_
        obtain ⟨hi5, hs⟩ := g_if hs
        refine a_sld (pc := 1254) hp hi5 dL_law_1254 ?_
        obtain ⟨r8, S6, hc7, hs⟩ := g_bind2 hs
        refine a_invVi (pc := 1255) (ok_X6_copy hc7) gyX6_copy vyX6_copy mlL_146 sh_0 rfl (As := [.int (xs (x3 + (1 : Int32)).toNatClampNeg), .int (xs (x3 + (2 : Int32)).toNatClampNeg), .int (xs (x3 + (3 : Int32)).toNatClampNeg), .int (xs (x3 + (4 : Int32)).toNatClampNeg), .int (xs (x3 + (5 : Int32)).toNatClampNeg)]) rfl rfl (by decide) (st := []) rfl (Nat.le_of_ble_eq_true rfl) dL_law_1255 ?_
        refine a_aloadn (pc := 1258) dL_law_1258 rfl rfl ?_
        refine a_aloadn (pc := 1259) dL_law_1259 rfl rfl ?_
        refine a_iloadn (pc := 1260) dL_law_1260 rfl rfl ?_
        refine a_iconst (pc := 1261) (v := (1 : Int32)) dL_law_1261 (by decide) ?_
        refine a_iadd (pc := 1262) dL_law_1262 ?_
        obtain ⟨hi9, hs⟩ := g_if hs
        refine a_sld (pc := 1263) hp hi9 dL_law_1263 ?_
        refine a_aloadn (pc := 1264) dL_law_1264 rfl rfl ?_
        refine a_iloadn (pc := 1265) dL_law_1265 rfl rfl ?_
        refine a_iconst (pc := 1266) (v := (2 : Int32)) dL_law_1266 (by decide) ?_
        refine a_iadd (pc := 1267) dL_law_1267 ?_
        obtain ⟨hi10, hs⟩ := g_if hs
        refine a_sld (pc := 1268) hp hi10 dL_law_1268 ?_
        refine a_aloadn (pc := 1269) dL_law_1269 rfl rfl ?_
        refine a_iloadn (pc := 1270) dL_law_1270 rfl rfl ?_
        refine a_iconst (pc := 1271) (v := (3 : Int32)) dL_law_1271 (by decide) ?_
        refine a_iadd (pc := 1272) dL_law_1272 ?_
        obtain ⟨hi11, hs⟩ := g_if hs
        refine a_sld (pc := 1273) hp hi11 dL_law_1273 ?_
        refine a_aloadn (pc := 1274) dL_law_1274 rfl rfl ?_
        refine a_iloadn (pc := 1275) dL_law_1275 rfl rfl ?_
        refine a_iconst (pc := 1276) (v := (4 : Int32)) dL_law_1276 (by decide) ?_
        refine a_iadd (pc := 1277) dL_law_1277 ?_
        obtain ⟨hi12, hs⟩ := g_if hs
        refine a_sld (pc := 1278) hp hi12 dL_law_1278 ?_
        refine a_aloadn (pc := 1279) dL_law_1279 rfl rfl ?_
        refine a_iloadn (pc := 1280) dL_law_1280 rfl rfl ?_
        refine a_iconst (pc := 1281) (v := (5 : Int32)) dL_law_1281 (by decide) ?_
        refine a_iadd (pc := 1282) dL_law_1282 ?_
        obtain ⟨hi13, hs⟩ := g_if hs
        refine a_sld (pc := 1283) hp hi13 dL_law_1283 ?_
        obtain ⟨r16, S14, hc15, hs⟩ := g_bind2 hs
        refine a_invVi (pc := 1284) (ok_X7_copy hc15) gyX7_copy vyX7_copy mlL_149 sh_47 rfl (As := [.int (xs (x3 + (1 : Int32)).toNatClampNeg), .int (xs (x3 + (2 : Int32)).toNatClampNeg), .int (xs (x3 + (3 : Int32)).toNatClampNeg), .int (xs (x3 + (4 : Int32)).toNatClampNeg), .int (xs (x3 + (5 : Int32)).toNatClampNeg)]) rfl rfl (by decide) (st := [.int r8]) rfl (Nat.le_of_ble_eq_true rfl) dL_law_1284 ?_
        refine a_icmp_eq (pc := 1287) (tgt := 1292) dL_law_1287 (by decide) (fun c17 => ?_) (fun c17 => ?_)
        · rw [if_pos c17] at hs
          refine a_iinc (pc := 1292) dL_law_1292 rfl (v := x3 + (6 : Int32)) rfl (Nat.le_of_ble_eq_true rfl) rfl (L' := [some (.ref b), some (.ref (gad X 0)), some (.ref (gad X 47)), some (.int (x3 + (6 : Int32)))]) rfl ?_
          refine a_goto (pc := 1295) (tgt := 18) dL_law_1295 (by decide) ?_
          obtain rfl := Option.some.inj hs
          exact ih _ _ hR
        · rw [if_neg c17] at hs
          refine a_iconst (pc := 1290) (v := (0 : Int32)) dL_law_1290 (by decide) ?_
          obtain rfl := Option.some.inj hs
          obtain rfl := Option.some.inj hR
          exact absurd (Prod.mk.inj (Option.some.inj h)).1 (by decide)
      have J1146 : ∀ (x3 : Int32) (S : gSt), f_law_j1146 nL xs x3 S = some q → AW X RL 12 cL_law 1146 [some (.ref b), some (.ref (gad X 0)), some (.ref (gad X 47)), some (.int x3)] [] S := by
        intro x3 S hs
        unfold f_law_j1146 at hs
        refine a_aloadn (pc := 1146) dL_law_1146 rfl rfl ?_
        refine a_aloadn (pc := 1147) dL_law_1147 rfl rfl ?_
        refine a_iloadn (pc := 1148) dL_law_1148 rfl rfl ?_
        refine a_iconst (pc := 1149) (v := (1 : Int32)) dL_law_1149 (by decide) ?_
        refine a_iadd (pc := 1150) dL_law_1150 ?_
        obtain ⟨hi18, hs⟩ := g_if hs
        refine a_sld (pc := 1151) hp hi18 dL_law_1151 ?_
        refine a_aloadn (pc := 1152) dL_law_1152 rfl rfl ?_
        refine a_iloadn (pc := 1153) dL_law_1153 rfl rfl ?_
        refine a_iconst (pc := 1154) (v := (2 : Int32)) dL_law_1154 (by decide) ?_
        refine a_iadd (pc := 1155) dL_law_1155 ?_
        obtain ⟨hi19, hs⟩ := g_if hs
        refine a_sld (pc := 1156) hp hi19 dL_law_1156 ?_
        refine a_aloadn (pc := 1157) dL_law_1157 rfl rfl ?_
        refine a_iloadn (pc := 1158) dL_law_1158 rfl rfl ?_
        refine a_iconst (pc := 1159) (v := (3 : Int32)) dL_law_1159 (by decide) ?_
        refine a_iadd (pc := 1160) dL_law_1160 ?_
        obtain ⟨hi20, hs⟩ := g_if hs
        refine a_sld (pc := 1161) hp hi20 dL_law_1161 ?_
        refine a_aloadn (pc := 1162) dL_law_1162 rfl rfl ?_
        refine a_iloadn (pc := 1163) dL_law_1163 rfl rfl ?_
        refine a_iconst (pc := 1164) (v := (4 : Int32)) dL_law_1164 (by decide) ?_
        refine a_iadd (pc := 1165) dL_law_1165 ?_
        obtain ⟨hi21, hs⟩ := g_if hs
        refine a_sld (pc := 1166) hp hi21 dL_law_1166 ?_
        refine a_i2l (pc := 1167) dL_law_1167 ?_
        refine a_bipush (pc := 1168) (v := (32 : Int32)) dL_law_1168 (by decide) ?_
        refine a_lshl (pc := 1170) dL_law_1170 ?_
        refine a_aloadn (pc := 1171) dL_law_1171 rfl rfl ?_
        refine a_iloadn (pc := 1172) dL_law_1172 rfl rfl ?_
        refine a_iconst (pc := 1173) (v := (5 : Int32)) dL_law_1173 (by decide) ?_
        refine a_iadd (pc := 1174) dL_law_1174 ?_
        obtain ⟨hi22, hs⟩ := g_if hs
        refine a_sld (pc := 1175) hp hi22 dL_law_1175 ?_
        refine a_i2l (pc := 1176) dL_law_1176 ?_
        refine a_ldc2 (pc := 1177) kL_139 dL_law_1177 ?_
        refine a_land (pc := 1180) dL_law_1180 ?_
        refine a_lor (pc := 1181) dL_law_1181 ?_
        obtain ⟨r25, S23, hc24, hs⟩ := g_bind2 hs
        refine a_invVi (pc := 1182) (ok_X6_item hc24) gyX6_item vyX6_item mlL_141 sh_0 rfl (As := [.int (xs (x3 + (1 : Int32)).toNatClampNeg), .int (xs (x3 + (2 : Int32)).toNatClampNeg), .int (xs (x3 + (3 : Int32)).toNatClampNeg), .long ((((xs (x3 + (4 : Int32)).toNatClampNeg).toInt64) <<< ((32 : Int32).toInt64 &&& 63)) ||| (((xs (x3 + (5 : Int32)).toNatClampNeg).toInt64) &&& (4294967295 : Int64)))]) rfl rfl (by decide) (st := []) rfl (Nat.le_of_ble_eq_true rfl) dL_law_1182 ?_
        refine a_aloadn (pc := 1185) dL_law_1185 rfl rfl ?_
        refine a_aloadn (pc := 1186) dL_law_1186 rfl rfl ?_
        refine a_iloadn (pc := 1187) dL_law_1187 rfl rfl ?_
        refine a_iconst (pc := 1188) (v := (1 : Int32)) dL_law_1188 (by decide) ?_
        refine a_iadd (pc := 1189) dL_law_1189 ?_
        obtain ⟨hi26, hs⟩ := g_if hs
        refine a_sld (pc := 1190) hp hi26 dL_law_1190 ?_
        refine a_aloadn (pc := 1191) dL_law_1191 rfl rfl ?_
        refine a_iloadn (pc := 1192) dL_law_1192 rfl rfl ?_
        refine a_iconst (pc := 1193) (v := (2 : Int32)) dL_law_1193 (by decide) ?_
        refine a_iadd (pc := 1194) dL_law_1194 ?_
        obtain ⟨hi27, hs⟩ := g_if hs
        refine a_sld (pc := 1195) hp hi27 dL_law_1195 ?_
        refine a_aloadn (pc := 1196) dL_law_1196 rfl rfl ?_
        refine a_iloadn (pc := 1197) dL_law_1197 rfl rfl ?_
        refine a_iconst (pc := 1198) (v := (3 : Int32)) dL_law_1198 (by decide) ?_
        refine a_iadd (pc := 1199) dL_law_1199 ?_
        obtain ⟨hi28, hs⟩ := g_if hs
        refine a_sld (pc := 1200) hp hi28 dL_law_1200 ?_
        refine a_aloadn (pc := 1201) dL_law_1201 rfl rfl ?_
        refine a_iloadn (pc := 1202) dL_law_1202 rfl rfl ?_
        refine a_iconst (pc := 1203) (v := (4 : Int32)) dL_law_1203 (by decide) ?_
        refine a_iadd (pc := 1204) dL_law_1204 ?_
        obtain ⟨hi29, hs⟩ := g_if hs
        refine a_sld (pc := 1205) hp hi29 dL_law_1205 ?_
        refine a_i2l (pc := 1206) dL_law_1206 ?_
        refine a_bipush (pc := 1207) (v := (32 : Int32)) dL_law_1207 (by decide) ?_
        refine a_lshl (pc := 1209) dL_law_1209 ?_
        refine a_aloadn (pc := 1210) dL_law_1210 rfl rfl ?_
        refine a_iloadn (pc := 1211) dL_law_1211 rfl rfl ?_
        refine a_iconst (pc := 1212) (v := (5 : Int32)) dL_law_1212 (by decide) ?_
        refine a_iadd (pc := 1213) dL_law_1213 ?_
        obtain ⟨hi30, hs⟩ := g_if hs
        refine a_sld (pc := 1214) hp hi30 dL_law_1214 ?_
        refine a_i2l (pc := 1215) dL_law_1215 ?_
        refine a_ldc2 (pc := 1216) kL_139 dL_law_1216 ?_
        refine a_land (pc := 1219) dL_law_1219 ?_
        refine a_lor (pc := 1220) dL_law_1220 ?_
        obtain ⟨r33, S31, hc32, hs⟩ := g_bind2 hs
        refine a_invVi (pc := 1221) (ok_X7_item hc32) gyX7_item vyX7_item mlL_145 sh_47 rfl (As := [.int (xs (x3 + (1 : Int32)).toNatClampNeg), .int (xs (x3 + (2 : Int32)).toNatClampNeg), .int (xs (x3 + (3 : Int32)).toNatClampNeg), .long ((((xs (x3 + (4 : Int32)).toNatClampNeg).toInt64) <<< ((32 : Int32).toInt64 &&& 63)) ||| (((xs (x3 + (5 : Int32)).toNatClampNeg).toInt64) &&& (4294967295 : Int64)))]) rfl rfl (by decide) (st := [.int r25]) rfl (Nat.le_of_ble_eq_true rfl) dL_law_1221 ?_
        refine a_icmp_eq (pc := 1224) (tgt := 1292) dL_law_1224 (by decide) (fun c34 => ?_) (fun c34 => ?_)
        · rw [if_pos c34] at hs
          refine a_iinc (pc := 1292) dL_law_1292 rfl (v := x3 + (6 : Int32)) rfl (Nat.le_of_ble_eq_true rfl) rfl (L' := [some (.ref b), some (.ref (gad X 0)), some (.ref (gad X 47)), some (.int (x3 + (6 : Int32)))]) rfl ?_
          refine a_goto (pc := 1295) (tgt := 18) dL_law_1295 (by decide) ?_
          obtain rfl := Option.some.inj hs
          exact ih _ _ hR
        · rw [if_neg c34] at hs
          refine a_iconst (pc := 1227) (v := (0 : Int32)) dL_law_1227 (by decide) ?_
          obtain rfl := Option.some.inj hs
          obtain rfl := Option.some.inj hR
          exact absurd (Prod.mk.inj (Option.some.inj h)).1 (by decide)
      have J1123 : ∀ (x3 : Int32) (S : gSt), f_law_j1123 nL xs x3 S = some q → AW X RL 12 cL_law 1123 [some (.ref b), some (.ref (gad X 0)), some (.ref (gad X 47)), some (.int x3)] [] S := by
        intro x3 S hs
        unfold f_law_j1123 at hs
        refine a_aloadn (pc := 1123) dL_law_1123 rfl rfl ?_
        refine a_aloadn (pc := 1124) dL_law_1124 rfl rfl ?_
        refine a_iloadn (pc := 1125) dL_law_1125 rfl rfl ?_
        refine a_iconst (pc := 1126) (v := (1 : Int32)) dL_law_1126 (by decide) ?_
        refine a_iadd (pc := 1127) dL_law_1127 ?_
        obtain ⟨hi35, hs⟩ := g_if hs
        refine a_sld (pc := 1128) hp hi35 dL_law_1128 ?_
        obtain ⟨r38, S36, hc37, hs⟩ := g_bind2 hs
        refine a_invVi (pc := 1129) (ok_X6_drop hc37) gyX6_drop vyX6_drop mlL_135 sh_0 rfl (As := [.int (xs (x3 + (1 : Int32)).toNatClampNeg)]) rfl rfl (by decide) (st := []) rfl (Nat.le_of_ble_eq_true rfl) dL_law_1129 ?_
        refine a_aloadn (pc := 1132) dL_law_1132 rfl rfl ?_
        refine a_aloadn (pc := 1133) dL_law_1133 rfl rfl ?_
        refine a_iloadn (pc := 1134) dL_law_1134 rfl rfl ?_
        refine a_iconst (pc := 1135) (v := (1 : Int32)) dL_law_1135 (by decide) ?_
        refine a_iadd (pc := 1136) dL_law_1136 ?_
        obtain ⟨hi39, hs⟩ := g_if hs
        refine a_sld (pc := 1137) hp hi39 dL_law_1137 ?_
        obtain ⟨r42, S40, hc41, hs⟩ := g_bind2 hs
        refine a_invVi (pc := 1138) (ok_X7_drop hc41) gyX7_drop vyX7_drop mlL_138 sh_47 rfl (As := [.int (xs (x3 + (1 : Int32)).toNatClampNeg)]) rfl rfl (by decide) (st := [.int r38]) rfl (Nat.le_of_ble_eq_true rfl) dL_law_1138 ?_
        refine a_icmp_eq (pc := 1141) (tgt := 1292) dL_law_1141 (by decide) (fun c43 => ?_) (fun c43 => ?_)
        · rw [if_pos c43] at hs
          refine a_iinc (pc := 1292) dL_law_1292 rfl (v := x3 + (6 : Int32)) rfl (Nat.le_of_ble_eq_true rfl) rfl (L' := [some (.ref b), some (.ref (gad X 0)), some (.ref (gad X 47)), some (.int (x3 + (6 : Int32)))]) rfl ?_
          refine a_goto (pc := 1295) (tgt := 18) dL_law_1295 (by decide) ?_
          obtain rfl := Option.some.inj hs
          exact ih _ _ hR
        · rw [if_neg c43] at hs
          refine a_iconst (pc := 1144) (v := (0 : Int32)) dL_law_1144 (by decide) ?_
          obtain rfl := Option.some.inj hs
          obtain rfl := Option.some.inj hR
          exact absurd (Prod.mk.inj (Option.some.inj h)).1 (by decide)
      have J1080 : ∀ (x3 : Int32) (S : gSt), f_law_j1080 nL xs x3 S = some q → AW X RL 12 cL_law 1080 [some (.ref b), some (.ref (gad X 0)), some (.ref (gad X 47)), some (.int x3)] [] S := by
        intro x3 S hs
        unfold f_law_j1080 at hs
        refine a_aloadn (pc := 1080) dL_law_1080 rfl rfl ?_
        refine a_aloadn (pc := 1081) dL_law_1081 rfl rfl ?_
        refine a_iloadn (pc := 1082) dL_law_1082 rfl rfl ?_
        refine a_iconst (pc := 1083) (v := (1 : Int32)) dL_law_1083 (by decide) ?_
        refine a_iadd (pc := 1084) dL_law_1084 ?_
        obtain ⟨hi44, hs⟩ := g_if hs
        refine a_sld (pc := 1085) hp hi44 dL_law_1085 ?_
        refine a_aloadn (pc := 1086) dL_law_1086 rfl rfl ?_
        refine a_iloadn (pc := 1087) dL_law_1087 rfl rfl ?_
        refine a_iconst (pc := 1088) (v := (2 : Int32)) dL_law_1088 (by decide) ?_
        refine a_iadd (pc := 1089) dL_law_1089 ?_
        obtain ⟨hi45, hs⟩ := g_if hs
        refine a_sld (pc := 1090) hp hi45 dL_law_1090 ?_
        refine a_aloadn (pc := 1091) dL_law_1091 rfl rfl ?_
        refine a_iloadn (pc := 1092) dL_law_1092 rfl rfl ?_
        refine a_iconst (pc := 1093) (v := (3 : Int32)) dL_law_1093 (by decide) ?_
        refine a_iadd (pc := 1094) dL_law_1094 ?_
        obtain ⟨hi46, hs⟩ := g_if hs
        refine a_sld (pc := 1095) hp hi46 dL_law_1095 ?_
        obtain ⟨r49, S47, hc48, hs⟩ := g_bind2 hs
        refine a_invVi (pc := 1096) (ok_X6_sheet hc48) gyX6_sheet vyX6_sheet mlL_131 sh_0 rfl (As := [.int (xs (x3 + (1 : Int32)).toNatClampNeg), .int (xs (x3 + (2 : Int32)).toNatClampNeg), .int (xs (x3 + (3 : Int32)).toNatClampNeg)]) rfl rfl (by decide) (st := []) rfl (Nat.le_of_ble_eq_true rfl) dL_law_1096 ?_
        refine a_aloadn (pc := 1099) dL_law_1099 rfl rfl ?_
        refine a_aloadn (pc := 1100) dL_law_1100 rfl rfl ?_
        refine a_iloadn (pc := 1101) dL_law_1101 rfl rfl ?_
        refine a_iconst (pc := 1102) (v := (1 : Int32)) dL_law_1102 (by decide) ?_
        refine a_iadd (pc := 1103) dL_law_1103 ?_
        obtain ⟨hi50, hs⟩ := g_if hs
        refine a_sld (pc := 1104) hp hi50 dL_law_1104 ?_
        refine a_aloadn (pc := 1105) dL_law_1105 rfl rfl ?_
        refine a_iloadn (pc := 1106) dL_law_1106 rfl rfl ?_
        refine a_iconst (pc := 1107) (v := (2 : Int32)) dL_law_1107 (by decide) ?_
        refine a_iadd (pc := 1108) dL_law_1108 ?_
        obtain ⟨hi51, hs⟩ := g_if hs
        refine a_sld (pc := 1109) hp hi51 dL_law_1109 ?_
        refine a_aloadn (pc := 1110) dL_law_1110 rfl rfl ?_
        refine a_iloadn (pc := 1111) dL_law_1111 rfl rfl ?_
        refine a_iconst (pc := 1112) (v := (3 : Int32)) dL_law_1112 (by decide) ?_
        refine a_iadd (pc := 1113) dL_law_1113 ?_
        obtain ⟨hi52, hs⟩ := g_if hs
        refine a_sld (pc := 1114) hp hi52 dL_law_1114 ?_
        obtain ⟨r55, S53, hc54, hs⟩ := g_bind2 hs
        refine a_invVi (pc := 1115) (ok_X7_sheet hc54) gyX7_sheet vyX7_sheet mlL_134 sh_47 rfl (As := [.int (xs (x3 + (1 : Int32)).toNatClampNeg), .int (xs (x3 + (2 : Int32)).toNatClampNeg), .int (xs (x3 + (3 : Int32)).toNatClampNeg)]) rfl rfl (by decide) (st := [.int r49]) rfl (Nat.le_of_ble_eq_true rfl) dL_law_1115 ?_
        refine a_icmp_eq (pc := 1118) (tgt := 1292) dL_law_1118 (by decide) (fun c56 => ?_) (fun c56 => ?_)
        · rw [if_pos c56] at hs
          refine a_iinc (pc := 1292) dL_law_1292 rfl (v := x3 + (6 : Int32)) rfl (Nat.le_of_ble_eq_true rfl) rfl (L' := [some (.ref b), some (.ref (gad X 0)), some (.ref (gad X 47)), some (.int (x3 + (6 : Int32)))]) rfl ?_
          refine a_goto (pc := 1295) (tgt := 18) dL_law_1295 (by decide) ?_
          obtain rfl := Option.some.inj hs
          exact ih _ _ hR
        · rw [if_neg c56] at hs
          refine a_iconst (pc := 1121) (v := (0 : Int32)) dL_law_1121 (by decide) ?_
          obtain rfl := Option.some.inj hs
          obtain rfl := Option.some.inj hR
          exact absurd (Prod.mk.inj (Option.some.inj h)).1 (by decide)
      have J1017 : ∀ (x3 : Int32) (S : gSt), f_law_j1017 nL xs x3 S = some q → AW X RL 12 cL_law 1017 [some (.ref b), some (.ref (gad X 0)), some (.ref (gad X 47)), some (.int x3)] [] S := by
        intro x3 S hs
        unfold f_law_j1017 at hs
        refine a_aloadn (pc := 1017) dL_law_1017 rfl rfl ?_
        refine a_aloadn (pc := 1018) dL_law_1018 rfl rfl ?_
        refine a_iloadn (pc := 1019) dL_law_1019 rfl rfl ?_
        refine a_iconst (pc := 1020) (v := (1 : Int32)) dL_law_1020 (by decide) ?_
        refine a_iadd (pc := 1021) dL_law_1021 ?_
        obtain ⟨hi57, hs⟩ := g_if hs
        refine a_sld (pc := 1022) hp hi57 dL_law_1022 ?_
        refine a_aloadn (pc := 1023) dL_law_1023 rfl rfl ?_
        refine a_iloadn (pc := 1024) dL_law_1024 rfl rfl ?_
        refine a_iconst (pc := 1025) (v := (2 : Int32)) dL_law_1025 (by decide) ?_
        refine a_iadd (pc := 1026) dL_law_1026 ?_
        obtain ⟨hi58, hs⟩ := g_if hs
        refine a_sld (pc := 1027) hp hi58 dL_law_1027 ?_
        refine a_aloadn (pc := 1028) dL_law_1028 rfl rfl ?_
        refine a_iloadn (pc := 1029) dL_law_1029 rfl rfl ?_
        refine a_iconst (pc := 1030) (v := (3 : Int32)) dL_law_1030 (by decide) ?_
        refine a_iadd (pc := 1031) dL_law_1031 ?_
        obtain ⟨hi59, hs⟩ := g_if hs
        refine a_sld (pc := 1032) hp hi59 dL_law_1032 ?_
        refine a_aloadn (pc := 1033) dL_law_1033 rfl rfl ?_
        refine a_iloadn (pc := 1034) dL_law_1034 rfl rfl ?_
        refine a_iconst (pc := 1035) (v := (4 : Int32)) dL_law_1035 (by decide) ?_
        refine a_iadd (pc := 1036) dL_law_1036 ?_
        obtain ⟨hi60, hs⟩ := g_if hs
        refine a_sld (pc := 1037) hp hi60 dL_law_1037 ?_
        refine a_aloadn (pc := 1038) dL_law_1038 rfl rfl ?_
        refine a_iloadn (pc := 1039) dL_law_1039 rfl rfl ?_
        refine a_iconst (pc := 1040) (v := (5 : Int32)) dL_law_1040 (by decide) ?_
        refine a_iadd (pc := 1041) dL_law_1041 ?_
        obtain ⟨hi61, hs⟩ := g_if hs
        refine a_sld (pc := 1042) hp hi61 dL_law_1042 ?_
        obtain ⟨r64, S62, hc63, hs⟩ := g_bind2 hs
        refine a_invVi (pc := 1043) (ok_X6_film hc63) gyX6_film vyX6_film mlL_126 sh_0 rfl (As := [.int (xs (x3 + (1 : Int32)).toNatClampNeg), .int (xs (x3 + (2 : Int32)).toNatClampNeg), .int (xs (x3 + (3 : Int32)).toNatClampNeg), .int (xs (x3 + (4 : Int32)).toNatClampNeg), .int (xs (x3 + (5 : Int32)).toNatClampNeg)]) rfl rfl (by decide) (st := []) rfl (Nat.le_of_ble_eq_true rfl) dL_law_1043 ?_
        refine a_aloadn (pc := 1046) dL_law_1046 rfl rfl ?_
        refine a_aloadn (pc := 1047) dL_law_1047 rfl rfl ?_
        refine a_iloadn (pc := 1048) dL_law_1048 rfl rfl ?_
        refine a_iconst (pc := 1049) (v := (1 : Int32)) dL_law_1049 (by decide) ?_
        refine a_iadd (pc := 1050) dL_law_1050 ?_
        obtain ⟨hi65, hs⟩ := g_if hs
        refine a_sld (pc := 1051) hp hi65 dL_law_1051 ?_
        refine a_aloadn (pc := 1052) dL_law_1052 rfl rfl ?_
        refine a_iloadn (pc := 1053) dL_law_1053 rfl rfl ?_
        refine a_iconst (pc := 1054) (v := (2 : Int32)) dL_law_1054 (by decide) ?_
        refine a_iadd (pc := 1055) dL_law_1055 ?_
        obtain ⟨hi66, hs⟩ := g_if hs
        refine a_sld (pc := 1056) hp hi66 dL_law_1056 ?_
        refine a_aloadn (pc := 1057) dL_law_1057 rfl rfl ?_
        refine a_iloadn (pc := 1058) dL_law_1058 rfl rfl ?_
        refine a_iconst (pc := 1059) (v := (3 : Int32)) dL_law_1059 (by decide) ?_
        refine a_iadd (pc := 1060) dL_law_1060 ?_
        obtain ⟨hi67, hs⟩ := g_if hs
        refine a_sld (pc := 1061) hp hi67 dL_law_1061 ?_
        refine a_aloadn (pc := 1062) dL_law_1062 rfl rfl ?_
        refine a_iloadn (pc := 1063) dL_law_1063 rfl rfl ?_
        refine a_iconst (pc := 1064) (v := (4 : Int32)) dL_law_1064 (by decide) ?_
        refine a_iadd (pc := 1065) dL_law_1065 ?_
        obtain ⟨hi68, hs⟩ := g_if hs
        refine a_sld (pc := 1066) hp hi68 dL_law_1066 ?_
        refine a_aloadn (pc := 1067) dL_law_1067 rfl rfl ?_
        refine a_iloadn (pc := 1068) dL_law_1068 rfl rfl ?_
        refine a_iconst (pc := 1069) (v := (5 : Int32)) dL_law_1069 (by decide) ?_
        refine a_iadd (pc := 1070) dL_law_1070 ?_
        obtain ⟨hi69, hs⟩ := g_if hs
        refine a_sld (pc := 1071) hp hi69 dL_law_1071 ?_
        obtain ⟨r72, S70, hc71, hs⟩ := g_bind2 hs
        refine a_invVi (pc := 1072) (ok_X7_film hc71) gyX7_film vyX7_film mlL_130 sh_47 rfl (As := [.int (xs (x3 + (1 : Int32)).toNatClampNeg), .int (xs (x3 + (2 : Int32)).toNatClampNeg), .int (xs (x3 + (3 : Int32)).toNatClampNeg), .int (xs (x3 + (4 : Int32)).toNatClampNeg), .int (xs (x3 + (5 : Int32)).toNatClampNeg)]) rfl rfl (by decide) (st := [.int r64]) rfl (Nat.le_of_ble_eq_true rfl) dL_law_1072 ?_
        refine a_icmp_eq (pc := 1075) (tgt := 1292) dL_law_1075 (by decide) (fun c73 => ?_) (fun c73 => ?_)
        · rw [if_pos c73] at hs
          refine a_iinc (pc := 1292) dL_law_1292 rfl (v := x3 + (6 : Int32)) rfl (Nat.le_of_ble_eq_true rfl) rfl (L' := [some (.ref b), some (.ref (gad X 0)), some (.ref (gad X 47)), some (.int (x3 + (6 : Int32)))]) rfl ?_
          refine a_goto (pc := 1295) (tgt := 18) dL_law_1295 (by decide) ?_
          obtain rfl := Option.some.inj hs
          exact ih _ _ hR
        · rw [if_neg c73] at hs
          refine a_iconst (pc := 1078) (v := (0 : Int32)) dL_law_1078 (by decide) ?_
          obtain rfl := Option.some.inj hs
          obtain rfl := Option.some.inj hR
          exact absurd (Prod.mk.inj (Option.some.inj h)).1 (by decide)
      have J964 : ∀ (x3 : Int32) (S : gSt), f_law_j964 nL xs x3 S = some q → AW X RL 12 cL_law 964 [some (.ref b), some (.ref (gad X 0)), some (.ref (gad X 47)), some (.int x3)] [] S := by
        intro x3 S hs
        unfold f_law_j964 at hs
        refine a_aloadn (pc := 964) dL_law_964 rfl rfl ?_
        refine a_aloadn (pc := 965) dL_law_965 rfl rfl ?_
        refine a_iloadn (pc := 966) dL_law_966 rfl rfl ?_
        refine a_iconst (pc := 967) (v := (1 : Int32)) dL_law_967 (by decide) ?_
        refine a_iadd (pc := 968) dL_law_968 ?_
        obtain ⟨hi74, hs⟩ := g_if hs
        refine a_sld (pc := 969) hp hi74 dL_law_969 ?_
        refine a_aloadn (pc := 970) dL_law_970 rfl rfl ?_
        refine a_iloadn (pc := 971) dL_law_971 rfl rfl ?_
        refine a_iconst (pc := 972) (v := (2 : Int32)) dL_law_972 (by decide) ?_
        refine a_iadd (pc := 973) dL_law_973 ?_
        obtain ⟨hi75, hs⟩ := g_if hs
        refine a_sld (pc := 974) hp hi75 dL_law_974 ?_
        refine a_aloadn (pc := 975) dL_law_975 rfl rfl ?_
        refine a_iloadn (pc := 976) dL_law_976 rfl rfl ?_
        refine a_iconst (pc := 977) (v := (3 : Int32)) dL_law_977 (by decide) ?_
        refine a_iadd (pc := 978) dL_law_978 ?_
        obtain ⟨hi76, hs⟩ := g_if hs
        refine a_sld (pc := 979) hp hi76 dL_law_979 ?_
        refine a_aloadn (pc := 980) dL_law_980 rfl rfl ?_
        refine a_iloadn (pc := 981) dL_law_981 rfl rfl ?_
        refine a_iconst (pc := 982) (v := (4 : Int32)) dL_law_982 (by decide) ?_
        refine a_iadd (pc := 983) dL_law_983 ?_
        obtain ⟨hi77, hs⟩ := g_if hs
        refine a_sld (pc := 984) hp hi77 dL_law_984 ?_
        obtain ⟨r80, S78, hc79, hs⟩ := g_bind2 hs
        refine a_invVi (pc := 985) (ok_X6_shoes hc79) gyX6_shoes vyX6_shoes mlL_122 sh_0 rfl (As := [.int (xs (x3 + (1 : Int32)).toNatClampNeg), .int (xs (x3 + (2 : Int32)).toNatClampNeg), .int (xs (x3 + (3 : Int32)).toNatClampNeg), .int (xs (x3 + (4 : Int32)).toNatClampNeg)]) rfl rfl (by decide) (st := []) rfl (Nat.le_of_ble_eq_true rfl) dL_law_985 ?_
        refine a_aloadn (pc := 988) dL_law_988 rfl rfl ?_
        refine a_aloadn (pc := 989) dL_law_989 rfl rfl ?_
        refine a_iloadn (pc := 990) dL_law_990 rfl rfl ?_
        refine a_iconst (pc := 991) (v := (1 : Int32)) dL_law_991 (by decide) ?_
        refine a_iadd (pc := 992) dL_law_992 ?_
        obtain ⟨hi81, hs⟩ := g_if hs
        refine a_sld (pc := 993) hp hi81 dL_law_993 ?_
        refine a_aloadn (pc := 994) dL_law_994 rfl rfl ?_
        refine a_iloadn (pc := 995) dL_law_995 rfl rfl ?_
        refine a_iconst (pc := 996) (v := (2 : Int32)) dL_law_996 (by decide) ?_
        refine a_iadd (pc := 997) dL_law_997 ?_
        obtain ⟨hi82, hs⟩ := g_if hs
        refine a_sld (pc := 998) hp hi82 dL_law_998 ?_
        refine a_aloadn (pc := 999) dL_law_999 rfl rfl ?_
        refine a_iloadn (pc := 1000) dL_law_1000 rfl rfl ?_
        refine a_iconst (pc := 1001) (v := (3 : Int32)) dL_law_1001 (by decide) ?_
        refine a_iadd (pc := 1002) dL_law_1002 ?_
        obtain ⟨hi83, hs⟩ := g_if hs
        refine a_sld (pc := 1003) hp hi83 dL_law_1003 ?_
        refine a_aloadn (pc := 1004) dL_law_1004 rfl rfl ?_
        refine a_iloadn (pc := 1005) dL_law_1005 rfl rfl ?_
        refine a_iconst (pc := 1006) (v := (4 : Int32)) dL_law_1006 (by decide) ?_
        refine a_iadd (pc := 1007) dL_law_1007 ?_
        obtain ⟨hi84, hs⟩ := g_if hs
        refine a_sld (pc := 1008) hp hi84 dL_law_1008 ?_
        obtain ⟨r87, S85, hc86, hs⟩ := g_bind2 hs
        refine a_invVi (pc := 1009) (ok_X7_shoes hc86) gyX7_shoes vyX7_shoes mlL_125 sh_47 rfl (As := [.int (xs (x3 + (1 : Int32)).toNatClampNeg), .int (xs (x3 + (2 : Int32)).toNatClampNeg), .int (xs (x3 + (3 : Int32)).toNatClampNeg), .int (xs (x3 + (4 : Int32)).toNatClampNeg)]) rfl rfl (by decide) (st := [.int r80]) rfl (Nat.le_of_ble_eq_true rfl) dL_law_1009 ?_
        refine a_icmp_eq (pc := 1012) (tgt := 1292) dL_law_1012 (by decide) (fun c88 => ?_) (fun c88 => ?_)
        · rw [if_pos c88] at hs
          refine a_iinc (pc := 1292) dL_law_1292 rfl (v := x3 + (6 : Int32)) rfl (Nat.le_of_ble_eq_true rfl) rfl (L' := [some (.ref b), some (.ref (gad X 0)), some (.ref (gad X 47)), some (.int (x3 + (6 : Int32)))]) rfl ?_
          refine a_goto (pc := 1295) (tgt := 18) dL_law_1295 (by decide) ?_
          obtain rfl := Option.some.inj hs
          exact ih _ _ hR
        · rw [if_neg c88] at hs
          refine a_iconst (pc := 1015) (v := (0 : Int32)) dL_law_1015 (by decide) ?_
          obtain rfl := Option.some.inj hs
          obtain rfl := Option.some.inj hR
          exact absurd (Prod.mk.inj (Option.some.inj h)).1 (by decide)
      have J911 : ∀ (x3 : Int32) (S : gSt), f_law_j911 nL xs x3 S = some q → AW X RL 12 cL_law 911 [some (.ref b), some (.ref (gad X 0)), some (.ref (gad X 47)), some (.int x3)] [] S := by
        intro x3 S hs
        unfold f_law_j911 at hs
        refine a_aloadn (pc := 911) dL_law_911 rfl rfl ?_
        refine a_aloadn (pc := 912) dL_law_912 rfl rfl ?_
        refine a_iloadn (pc := 913) dL_law_913 rfl rfl ?_
        refine a_iconst (pc := 914) (v := (1 : Int32)) dL_law_914 (by decide) ?_
        refine a_iadd (pc := 915) dL_law_915 ?_
        obtain ⟨hi89, hs⟩ := g_if hs
        refine a_sld (pc := 916) hp hi89 dL_law_916 ?_
        refine a_aloadn (pc := 917) dL_law_917 rfl rfl ?_
        refine a_iloadn (pc := 918) dL_law_918 rfl rfl ?_
        refine a_iconst (pc := 919) (v := (2 : Int32)) dL_law_919 (by decide) ?_
        refine a_iadd (pc := 920) dL_law_920 ?_
        obtain ⟨hi90, hs⟩ := g_if hs
        refine a_sld (pc := 921) hp hi90 dL_law_921 ?_
        refine a_aloadn (pc := 922) dL_law_922 rfl rfl ?_
        refine a_iloadn (pc := 923) dL_law_923 rfl rfl ?_
        refine a_iconst (pc := 924) (v := (3 : Int32)) dL_law_924 (by decide) ?_
        refine a_iadd (pc := 925) dL_law_925 ?_
        obtain ⟨hi91, hs⟩ := g_if hs
        refine a_sld (pc := 926) hp hi91 dL_law_926 ?_
        refine a_aloadn (pc := 927) dL_law_927 rfl rfl ?_
        refine a_iloadn (pc := 928) dL_law_928 rfl rfl ?_
        refine a_iconst (pc := 929) (v := (4 : Int32)) dL_law_929 (by decide) ?_
        refine a_iadd (pc := 930) dL_law_930 ?_
        obtain ⟨hi92, hs⟩ := g_if hs
        refine a_sld (pc := 931) hp hi92 dL_law_931 ?_
        obtain ⟨r95, S93, hc94, hs⟩ := g_bind2 hs
        refine a_invVi (pc := 932) (ok_X6_raked hc94) gyX6_raked vyX6_raked mlL_118 sh_0 rfl (As := [.int (xs (x3 + (1 : Int32)).toNatClampNeg), .int (xs (x3 + (2 : Int32)).toNatClampNeg), .int (xs (x3 + (3 : Int32)).toNatClampNeg), .int (xs (x3 + (4 : Int32)).toNatClampNeg)]) rfl rfl (by decide) (st := []) rfl (Nat.le_of_ble_eq_true rfl) dL_law_932 ?_
        refine a_aloadn (pc := 935) dL_law_935 rfl rfl ?_
        refine a_aloadn (pc := 936) dL_law_936 rfl rfl ?_
        refine a_iloadn (pc := 937) dL_law_937 rfl rfl ?_
        refine a_iconst (pc := 938) (v := (1 : Int32)) dL_law_938 (by decide) ?_
        refine a_iadd (pc := 939) dL_law_939 ?_
        obtain ⟨hi96, hs⟩ := g_if hs
        refine a_sld (pc := 940) hp hi96 dL_law_940 ?_
        refine a_aloadn (pc := 941) dL_law_941 rfl rfl ?_
        refine a_iloadn (pc := 942) dL_law_942 rfl rfl ?_
        refine a_iconst (pc := 943) (v := (2 : Int32)) dL_law_943 (by decide) ?_
        refine a_iadd (pc := 944) dL_law_944 ?_
        obtain ⟨hi97, hs⟩ := g_if hs
        refine a_sld (pc := 945) hp hi97 dL_law_945 ?_
        refine a_aloadn (pc := 946) dL_law_946 rfl rfl ?_
        refine a_iloadn (pc := 947) dL_law_947 rfl rfl ?_
        refine a_iconst (pc := 948) (v := (3 : Int32)) dL_law_948 (by decide) ?_
        refine a_iadd (pc := 949) dL_law_949 ?_
        obtain ⟨hi98, hs⟩ := g_if hs
        refine a_sld (pc := 950) hp hi98 dL_law_950 ?_
        refine a_aloadn (pc := 951) dL_law_951 rfl rfl ?_
        refine a_iloadn (pc := 952) dL_law_952 rfl rfl ?_
        refine a_iconst (pc := 953) (v := (4 : Int32)) dL_law_953 (by decide) ?_
        refine a_iadd (pc := 954) dL_law_954 ?_
        obtain ⟨hi99, hs⟩ := g_if hs
        refine a_sld (pc := 955) hp hi99 dL_law_955 ?_
        obtain ⟨r102, S100, hc101, hs⟩ := g_bind2 hs
        refine a_invVi (pc := 956) (ok_X7_raked hc101) gyX7_raked vyX7_raked mlL_121 sh_47 rfl (As := [.int (xs (x3 + (1 : Int32)).toNatClampNeg), .int (xs (x3 + (2 : Int32)).toNatClampNeg), .int (xs (x3 + (3 : Int32)).toNatClampNeg), .int (xs (x3 + (4 : Int32)).toNatClampNeg)]) rfl rfl (by decide) (st := [.int r95]) rfl (Nat.le_of_ble_eq_true rfl) dL_law_956 ?_
        refine a_icmp_eq (pc := 959) (tgt := 1292) dL_law_959 (by decide) (fun c103 => ?_) (fun c103 => ?_)
        · rw [if_pos c103] at hs
          refine a_iinc (pc := 1292) dL_law_1292 rfl (v := x3 + (6 : Int32)) rfl (Nat.le_of_ble_eq_true rfl) rfl (L' := [some (.ref b), some (.ref (gad X 0)), some (.ref (gad X 47)), some (.int (x3 + (6 : Int32)))]) rfl ?_
          refine a_goto (pc := 1295) (tgt := 18) dL_law_1295 (by decide) ?_
          obtain rfl := Option.some.inj hs
          exact ih _ _ hR
        · rw [if_neg c103] at hs
          refine a_iconst (pc := 962) (v := (0 : Int32)) dL_law_962 (by decide) ?_
          obtain rfl := Option.some.inj hs
          obtain rfl := Option.some.inj hR
          exact absurd (Prod.mk.inj (Option.some.inj h)).1 (by decide)
      have J898 : ∀ (x3 : Int32) (S : gSt), f_law_j898 nL xs x3 S = some q → AW X RL 12 cL_law 898 [some (.ref b), some (.ref (gad X 0)), some (.ref (gad X 47)), some (.int x3)] [] S := by
        intro x3 S hs
        unfold f_law_j898 at hs
        refine a_aloadn (pc := 898) dL_law_898 rfl rfl ?_
        obtain ⟨r106, S104, hc105, hs⟩ := g_bind2 hs
        refine a_invVi (pc := 899) (ok_X6_restore hc105) gyX6_restore vyX6_restore mlL_114 sh_0 rfl (As := []) rfl rfl (by decide) (st := []) rfl (Nat.le_of_ble_eq_true rfl) dL_law_899 ?_
        refine a_aloadn (pc := 902) dL_law_902 rfl rfl ?_
        obtain ⟨r109, S107, hc108, hs⟩ := g_bind2 hs
        refine a_invVi (pc := 903) (ok_X7_restore hc108) gyX7_restore vyX7_restore mlL_117 sh_47 rfl (As := []) rfl rfl (by decide) (st := [.int r106]) rfl (Nat.le_of_ble_eq_true rfl) dL_law_903 ?_
        refine a_icmp_eq (pc := 906) (tgt := 1292) dL_law_906 (by decide) (fun c110 => ?_) (fun c110 => ?_)
        · rw [if_pos c110] at hs
          refine a_iinc (pc := 1292) dL_law_1292 rfl (v := x3 + (6 : Int32)) rfl (Nat.le_of_ble_eq_true rfl) rfl (L' := [some (.ref b), some (.ref (gad X 0)), some (.ref (gad X 47)), some (.int (x3 + (6 : Int32)))]) rfl ?_
          refine a_goto (pc := 1295) (tgt := 18) dL_law_1295 (by decide) ?_
          obtain rfl := Option.some.inj hs
          exact ih _ _ hR
        · rw [if_neg c110] at hs
          refine a_iconst (pc := 909) (v := (0 : Int32)) dL_law_909 (by decide) ?_
          obtain rfl := Option.some.inj hs
          obtain rfl := Option.some.inj hR
          exact absurd (Prod.mk.inj (Option.some.inj h)).1 (by decide)
      have J885 : ∀ (x3 : Int32) (S : gSt), f_law_j885 nL xs x3 S = some q → AW X RL 12 cL_law 885 [some (.ref b), some (.ref (gad X 0)), some (.ref (gad X 47)), some (.int x3)] [] S := by
        intro x3 S hs
        unfold f_law_j885 at hs
        refine a_aloadn (pc := 885) dL_law_885 rfl rfl ?_
        obtain ⟨r113, S111, hc112, hs⟩ := g_bind2 hs
        refine a_invVi (pc := 886) (ok_X6_image hc112) gyX6_image vyX6_image mlL_110 sh_0 rfl (As := []) rfl rfl (by decide) (st := []) rfl (Nat.le_of_ble_eq_true rfl) dL_law_886 ?_
        refine a_aloadn (pc := 889) dL_law_889 rfl rfl ?_
        obtain ⟨r116, S114, hc115, hs⟩ := g_bind2 hs
        refine a_invVi (pc := 890) (ok_X7_image hc115) gyX7_image vyX7_image mlL_113 sh_47 rfl (As := []) rfl rfl (by decide) (st := [.int r113]) rfl (Nat.le_of_ble_eq_true rfl) dL_law_890 ?_
        refine a_icmp_eq (pc := 893) (tgt := 1292) dL_law_893 (by decide) (fun c117 => ?_) (fun c117 => ?_)
        · rw [if_pos c117] at hs
          refine a_iinc (pc := 1292) dL_law_1292 rfl (v := x3 + (6 : Int32)) rfl (Nat.le_of_ble_eq_true rfl) rfl (L' := [some (.ref b), some (.ref (gad X 0)), some (.ref (gad X 47)), some (.int (x3 + (6 : Int32)))]) rfl ?_
          refine a_goto (pc := 1295) (tgt := 18) dL_law_1295 (by decide) ?_
          obtain rfl := Option.some.inj hs
          exact ih _ _ hR
        · rw [if_neg c117] at hs
          refine a_iconst (pc := 896) (v := (0 : Int32)) dL_law_896 (by decide) ?_
          obtain rfl := Option.some.inj hs
          obtain rfl := Option.some.inj hR
          exact absurd (Prod.mk.inj (Option.some.inj h)).1 (by decide)
      have J832 : ∀ (x3 : Int32) (S : gSt), f_law_j832 nL xs x3 S = some q → AW X RL 12 cL_law 832 [some (.ref b), some (.ref (gad X 0)), some (.ref (gad X 47)), some (.int x3)] [] S := by
        intro x3 S hs
        unfold f_law_j832 at hs
        refine a_aloadn (pc := 832) dL_law_832 rfl rfl ?_
        refine a_aloadn (pc := 833) dL_law_833 rfl rfl ?_
        refine a_iloadn (pc := 834) dL_law_834 rfl rfl ?_
        refine a_iconst (pc := 835) (v := (1 : Int32)) dL_law_835 (by decide) ?_
        refine a_iadd (pc := 836) dL_law_836 ?_
        obtain ⟨hi118, hs⟩ := g_if hs
        refine a_sld (pc := 837) hp hi118 dL_law_837 ?_
        refine a_aloadn (pc := 838) dL_law_838 rfl rfl ?_
        refine a_iloadn (pc := 839) dL_law_839 rfl rfl ?_
        refine a_iconst (pc := 840) (v := (2 : Int32)) dL_law_840 (by decide) ?_
        refine a_iadd (pc := 841) dL_law_841 ?_
        obtain ⟨hi119, hs⟩ := g_if hs
        refine a_sld (pc := 842) hp hi119 dL_law_842 ?_
        refine a_aloadn (pc := 843) dL_law_843 rfl rfl ?_
        refine a_iloadn (pc := 844) dL_law_844 rfl rfl ?_
        refine a_iconst (pc := 845) (v := (3 : Int32)) dL_law_845 (by decide) ?_
        refine a_iadd (pc := 846) dL_law_846 ?_
        obtain ⟨hi120, hs⟩ := g_if hs
        refine a_sld (pc := 847) hp hi120 dL_law_847 ?_
        refine a_aloadn (pc := 848) dL_law_848 rfl rfl ?_
        refine a_iloadn (pc := 849) dL_law_849 rfl rfl ?_
        refine a_iconst (pc := 850) (v := (4 : Int32)) dL_law_850 (by decide) ?_
        refine a_iadd (pc := 851) dL_law_851 ?_
        obtain ⟨hi121, hs⟩ := g_if hs
        refine a_sld (pc := 852) hp hi121 dL_law_852 ?_
        obtain ⟨r124, S122, hc123, hs⟩ := g_bind2 hs
        refine a_invVi (pc := 853) (ok_X6_crabs hc123) gyX6_crabs vyX6_crabs mlL_106 sh_0 rfl (As := [.int (xs (x3 + (1 : Int32)).toNatClampNeg), .int (xs (x3 + (2 : Int32)).toNatClampNeg), .int (xs (x3 + (3 : Int32)).toNatClampNeg), .int (xs (x3 + (4 : Int32)).toNatClampNeg)]) rfl rfl (by decide) (st := []) rfl (Nat.le_of_ble_eq_true rfl) dL_law_853 ?_
        refine a_aloadn (pc := 856) dL_law_856 rfl rfl ?_
        refine a_aloadn (pc := 857) dL_law_857 rfl rfl ?_
        refine a_iloadn (pc := 858) dL_law_858 rfl rfl ?_
        refine a_iconst (pc := 859) (v := (1 : Int32)) dL_law_859 (by decide) ?_
        refine a_iadd (pc := 860) dL_law_860 ?_
        obtain ⟨hi125, hs⟩ := g_if hs
        refine a_sld (pc := 861) hp hi125 dL_law_861 ?_
        refine a_aloadn (pc := 862) dL_law_862 rfl rfl ?_
        refine a_iloadn (pc := 863) dL_law_863 rfl rfl ?_
        refine a_iconst (pc := 864) (v := (2 : Int32)) dL_law_864 (by decide) ?_
        refine a_iadd (pc := 865) dL_law_865 ?_
        obtain ⟨hi126, hs⟩ := g_if hs
        refine a_sld (pc := 866) hp hi126 dL_law_866 ?_
        refine a_aloadn (pc := 867) dL_law_867 rfl rfl ?_
        refine a_iloadn (pc := 868) dL_law_868 rfl rfl ?_
        refine a_iconst (pc := 869) (v := (3 : Int32)) dL_law_869 (by decide) ?_
        refine a_iadd (pc := 870) dL_law_870 ?_
        obtain ⟨hi127, hs⟩ := g_if hs
        refine a_sld (pc := 871) hp hi127 dL_law_871 ?_
        refine a_aloadn (pc := 872) dL_law_872 rfl rfl ?_
        refine a_iloadn (pc := 873) dL_law_873 rfl rfl ?_
        refine a_iconst (pc := 874) (v := (4 : Int32)) dL_law_874 (by decide) ?_
        refine a_iadd (pc := 875) dL_law_875 ?_
        obtain ⟨hi128, hs⟩ := g_if hs
        refine a_sld (pc := 876) hp hi128 dL_law_876 ?_
        obtain ⟨r131, S129, hc130, hs⟩ := g_bind2 hs
        refine a_invVi (pc := 877) (ok_X7_crabs hc130) gyX7_crabs vyX7_crabs mlL_109 sh_47 rfl (As := [.int (xs (x3 + (1 : Int32)).toNatClampNeg), .int (xs (x3 + (2 : Int32)).toNatClampNeg), .int (xs (x3 + (3 : Int32)).toNatClampNeg), .int (xs (x3 + (4 : Int32)).toNatClampNeg)]) rfl rfl (by decide) (st := [.int r124]) rfl (Nat.le_of_ble_eq_true rfl) dL_law_877 ?_
        refine a_icmp_eq (pc := 880) (tgt := 1292) dL_law_880 (by decide) (fun c132 => ?_) (fun c132 => ?_)
        · rw [if_pos c132] at hs
          refine a_iinc (pc := 1292) dL_law_1292 rfl (v := x3 + (6 : Int32)) rfl (Nat.le_of_ble_eq_true rfl) rfl (L' := [some (.ref b), some (.ref (gad X 0)), some (.ref (gad X 47)), some (.int (x3 + (6 : Int32)))]) rfl ?_
          refine a_goto (pc := 1295) (tgt := 18) dL_law_1295 (by decide) ?_
          obtain rfl := Option.some.inj hs
          exact ih _ _ hR
        · rw [if_neg c132] at hs
          refine a_iconst (pc := 883) (v := (0 : Int32)) dL_law_883 (by decide) ?_
          obtain rfl := Option.some.inj hs
          obtain rfl := Option.some.inj hR
          exact absurd (Prod.mk.inj (Option.some.inj h)).1 (by decide)
      have J789 : ∀ (x3 : Int32) (S : gSt), f_law_j789 nL xs x3 S = some q → AW X RL 12 cL_law 789 [some (.ref b), some (.ref (gad X 0)), some (.ref (gad X 47)), some (.int x3)] [] S := by
        intro x3 S hs
        unfold f_law_j789 at hs
        refine a_aloadn (pc := 789) dL_law_789 rfl rfl ?_
        refine a_aloadn (pc := 790) dL_law_790 rfl rfl ?_
        refine a_iloadn (pc := 791) dL_law_791 rfl rfl ?_
        refine a_iconst (pc := 792) (v := (1 : Int32)) dL_law_792 (by decide) ?_
        refine a_iadd (pc := 793) dL_law_793 ?_
        obtain ⟨hi133, hs⟩ := g_if hs
        refine a_sld (pc := 794) hp hi133 dL_law_794 ?_
        refine a_aloadn (pc := 795) dL_law_795 rfl rfl ?_
        refine a_iloadn (pc := 796) dL_law_796 rfl rfl ?_
        refine a_iconst (pc := 797) (v := (2 : Int32)) dL_law_797 (by decide) ?_
        refine a_iadd (pc := 798) dL_law_798 ?_
        obtain ⟨hi134, hs⟩ := g_if hs
        refine a_sld (pc := 799) hp hi134 dL_law_799 ?_
        refine a_aloadn (pc := 800) dL_law_800 rfl rfl ?_
        refine a_iloadn (pc := 801) dL_law_801 rfl rfl ?_
        refine a_iconst (pc := 802) (v := (3 : Int32)) dL_law_802 (by decide) ?_
        refine a_iadd (pc := 803) dL_law_803 ?_
        obtain ⟨hi135, hs⟩ := g_if hs
        refine a_sld (pc := 804) hp hi135 dL_law_804 ?_
        obtain ⟨r138, S136, hc137, hs⟩ := g_bind2 hs
        refine a_invVi (pc := 805) (ok_X6_well hc137) gyX6_well vyX6_well mlL_102 sh_0 rfl (As := [.int (xs (x3 + (1 : Int32)).toNatClampNeg), .int (xs (x3 + (2 : Int32)).toNatClampNeg), .int (xs (x3 + (3 : Int32)).toNatClampNeg)]) rfl rfl (by decide) (st := []) rfl (Nat.le_of_ble_eq_true rfl) dL_law_805 ?_
        refine a_aloadn (pc := 808) dL_law_808 rfl rfl ?_
        refine a_aloadn (pc := 809) dL_law_809 rfl rfl ?_
        refine a_iloadn (pc := 810) dL_law_810 rfl rfl ?_
        refine a_iconst (pc := 811) (v := (1 : Int32)) dL_law_811 (by decide) ?_
        refine a_iadd (pc := 812) dL_law_812 ?_
        obtain ⟨hi139, hs⟩ := g_if hs
        refine a_sld (pc := 813) hp hi139 dL_law_813 ?_
        refine a_aloadn (pc := 814) dL_law_814 rfl rfl ?_
        refine a_iloadn (pc := 815) dL_law_815 rfl rfl ?_
        refine a_iconst (pc := 816) (v := (2 : Int32)) dL_law_816 (by decide) ?_
        refine a_iadd (pc := 817) dL_law_817 ?_
        obtain ⟨hi140, hs⟩ := g_if hs
        refine a_sld (pc := 818) hp hi140 dL_law_818 ?_
        refine a_aloadn (pc := 819) dL_law_819 rfl rfl ?_
        refine a_iloadn (pc := 820) dL_law_820 rfl rfl ?_
        refine a_iconst (pc := 821) (v := (3 : Int32)) dL_law_821 (by decide) ?_
        refine a_iadd (pc := 822) dL_law_822 ?_
        obtain ⟨hi141, hs⟩ := g_if hs
        refine a_sld (pc := 823) hp hi141 dL_law_823 ?_
        obtain ⟨r144, S142, hc143, hs⟩ := g_bind2 hs
        refine a_invVi (pc := 824) (ok_X7_well hc143) gyX7_well vyX7_well mlL_105 sh_47 rfl (As := [.int (xs (x3 + (1 : Int32)).toNatClampNeg), .int (xs (x3 + (2 : Int32)).toNatClampNeg), .int (xs (x3 + (3 : Int32)).toNatClampNeg)]) rfl rfl (by decide) (st := [.int r138]) rfl (Nat.le_of_ble_eq_true rfl) dL_law_824 ?_
        refine a_icmp_eq (pc := 827) (tgt := 1292) dL_law_827 (by decide) (fun c145 => ?_) (fun c145 => ?_)
        · rw [if_pos c145] at hs
          refine a_iinc (pc := 1292) dL_law_1292 rfl (v := x3 + (6 : Int32)) rfl (Nat.le_of_ble_eq_true rfl) rfl (L' := [some (.ref b), some (.ref (gad X 0)), some (.ref (gad X 47)), some (.int (x3 + (6 : Int32)))]) rfl ?_
          refine a_goto (pc := 1295) (tgt := 18) dL_law_1295 (by decide) ?_
          obtain rfl := Option.some.inj hs
          exact ih _ _ hR
        · rw [if_neg c145] at hs
          refine a_iconst (pc := 830) (v := (0 : Int32)) dL_law_830 (by decide) ?_
          obtain rfl := Option.some.inj hs
          obtain rfl := Option.some.inj hR
          exact absurd (Prod.mk.inj (Option.some.inj h)).1 (by decide)
      have J736 : ∀ (x3 : Int32) (S : gSt), f_law_j736 nL xs x3 S = some q → AW X RL 12 cL_law 736 [some (.ref b), some (.ref (gad X 0)), some (.ref (gad X 47)), some (.int x3)] [] S := by
        intro x3 S hs
        unfold f_law_j736 at hs
        refine a_aloadn (pc := 736) dL_law_736 rfl rfl ?_
        refine a_aloadn (pc := 737) dL_law_737 rfl rfl ?_
        refine a_iloadn (pc := 738) dL_law_738 rfl rfl ?_
        refine a_iconst (pc := 739) (v := (1 : Int32)) dL_law_739 (by decide) ?_
        refine a_iadd (pc := 740) dL_law_740 ?_
        obtain ⟨hi146, hs⟩ := g_if hs
        refine a_sld (pc := 741) hp hi146 dL_law_741 ?_
        refine a_aloadn (pc := 742) dL_law_742 rfl rfl ?_
        refine a_iloadn (pc := 743) dL_law_743 rfl rfl ?_
        refine a_iconst (pc := 744) (v := (2 : Int32)) dL_law_744 (by decide) ?_
        refine a_iadd (pc := 745) dL_law_745 ?_
        obtain ⟨hi147, hs⟩ := g_if hs
        refine a_sld (pc := 746) hp hi147 dL_law_746 ?_
        refine a_aloadn (pc := 747) dL_law_747 rfl rfl ?_
        refine a_iloadn (pc := 748) dL_law_748 rfl rfl ?_
        refine a_iconst (pc := 749) (v := (3 : Int32)) dL_law_749 (by decide) ?_
        refine a_iadd (pc := 750) dL_law_750 ?_
        obtain ⟨hi148, hs⟩ := g_if hs
        refine a_sld (pc := 751) hp hi148 dL_law_751 ?_
        refine a_aloadn (pc := 752) dL_law_752 rfl rfl ?_
        refine a_iloadn (pc := 753) dL_law_753 rfl rfl ?_
        refine a_iconst (pc := 754) (v := (4 : Int32)) dL_law_754 (by decide) ?_
        refine a_iadd (pc := 755) dL_law_755 ?_
        obtain ⟨hi149, hs⟩ := g_if hs
        refine a_sld (pc := 756) hp hi149 dL_law_756 ?_
        obtain ⟨r152, S150, hc151, hs⟩ := g_bind2 hs
        refine a_invVi (pc := 757) (ok_X6_walk hc151) gyX6_walk vyX6_walk mlL_97 sh_0 rfl (As := [.int (xs (x3 + (1 : Int32)).toNatClampNeg), .int (xs (x3 + (2 : Int32)).toNatClampNeg), .int (xs (x3 + (3 : Int32)).toNatClampNeg), .int (xs (x3 + (4 : Int32)).toNatClampNeg)]) rfl rfl (by decide) (st := []) rfl (Nat.le_of_ble_eq_true rfl) dL_law_757 ?_
        refine a_aloadn (pc := 760) dL_law_760 rfl rfl ?_
        refine a_aloadn (pc := 761) dL_law_761 rfl rfl ?_
        refine a_iloadn (pc := 762) dL_law_762 rfl rfl ?_
        refine a_iconst (pc := 763) (v := (1 : Int32)) dL_law_763 (by decide) ?_
        refine a_iadd (pc := 764) dL_law_764 ?_
        obtain ⟨hi153, hs⟩ := g_if hs
        refine a_sld (pc := 765) hp hi153 dL_law_765 ?_
        refine a_aloadn (pc := 766) dL_law_766 rfl rfl ?_
        refine a_iloadn (pc := 767) dL_law_767 rfl rfl ?_
        refine a_iconst (pc := 768) (v := (2 : Int32)) dL_law_768 (by decide) ?_
        refine a_iadd (pc := 769) dL_law_769 ?_
        obtain ⟨hi154, hs⟩ := g_if hs
        refine a_sld (pc := 770) hp hi154 dL_law_770 ?_
        refine a_aloadn (pc := 771) dL_law_771 rfl rfl ?_
        refine a_iloadn (pc := 772) dL_law_772 rfl rfl ?_
        refine a_iconst (pc := 773) (v := (3 : Int32)) dL_law_773 (by decide) ?_
        refine a_iadd (pc := 774) dL_law_774 ?_
        obtain ⟨hi155, hs⟩ := g_if hs
        refine a_sld (pc := 775) hp hi155 dL_law_775 ?_
        refine a_aloadn (pc := 776) dL_law_776 rfl rfl ?_
        refine a_iloadn (pc := 777) dL_law_777 rfl rfl ?_
        refine a_iconst (pc := 778) (v := (4 : Int32)) dL_law_778 (by decide) ?_
        refine a_iadd (pc := 779) dL_law_779 ?_
        obtain ⟨hi156, hs⟩ := g_if hs
        refine a_sld (pc := 780) hp hi156 dL_law_780 ?_
        obtain ⟨r159, S157, hc158, hs⟩ := g_bind2 hs
        refine a_invVi (pc := 781) (ok_X7_walk hc158) gyX7_walk vyX7_walk mlL_101 sh_47 rfl (As := [.int (xs (x3 + (1 : Int32)).toNatClampNeg), .int (xs (x3 + (2 : Int32)).toNatClampNeg), .int (xs (x3 + (3 : Int32)).toNatClampNeg), .int (xs (x3 + (4 : Int32)).toNatClampNeg)]) rfl rfl (by decide) (st := [.int r152]) rfl (Nat.le_of_ble_eq_true rfl) dL_law_781 ?_
        refine a_icmp_eq (pc := 784) (tgt := 1292) dL_law_784 (by decide) (fun c160 => ?_) (fun c160 => ?_)
        · rw [if_pos c160] at hs
          refine a_iinc (pc := 1292) dL_law_1292 rfl (v := x3 + (6 : Int32)) rfl (Nat.le_of_ble_eq_true rfl) rfl (L' := [some (.ref b), some (.ref (gad X 0)), some (.ref (gad X 47)), some (.int (x3 + (6 : Int32)))]) rfl ?_
          refine a_goto (pc := 1295) (tgt := 18) dL_law_1295 (by decide) ?_
          obtain rfl := Option.some.inj hs
          exact ih _ _ hR
        · rw [if_neg c160] at hs
          refine a_iconst (pc := 787) (v := (0 : Int32)) dL_law_787 (by decide) ?_
          obtain rfl := Option.some.inj hs
          obtain rfl := Option.some.inj hR
          exact absurd (Prod.mk.inj (Option.some.inj h)).1 (by decide)
      have J693 : ∀ (x3 : Int32) (S : gSt), f_law_j693 nL xs x3 S = some q → AW X RL 12 cL_law 693 [some (.ref b), some (.ref (gad X 0)), some (.ref (gad X 47)), some (.int x3)] [] S := by
        intro x3 S hs
        unfold f_law_j693 at hs
        refine a_aloadn (pc := 693) dL_law_693 rfl rfl ?_
        refine a_aloadn (pc := 694) dL_law_694 rfl rfl ?_
        refine a_iloadn (pc := 695) dL_law_695 rfl rfl ?_
        refine a_iconst (pc := 696) (v := (1 : Int32)) dL_law_696 (by decide) ?_
        refine a_iadd (pc := 697) dL_law_697 ?_
        obtain ⟨hi161, hs⟩ := g_if hs
        refine a_sld (pc := 698) hp hi161 dL_law_698 ?_
        refine a_aloadn (pc := 699) dL_law_699 rfl rfl ?_
        refine a_iloadn (pc := 700) dL_law_700 rfl rfl ?_
        refine a_iconst (pc := 701) (v := (2 : Int32)) dL_law_701 (by decide) ?_
        refine a_iadd (pc := 702) dL_law_702 ?_
        obtain ⟨hi162, hs⟩ := g_if hs
        refine a_sld (pc := 703) hp hi162 dL_law_703 ?_
        refine a_aloadn (pc := 704) dL_law_704 rfl rfl ?_
        refine a_iloadn (pc := 705) dL_law_705 rfl rfl ?_
        refine a_iconst (pc := 706) (v := (3 : Int32)) dL_law_706 (by decide) ?_
        refine a_iadd (pc := 707) dL_law_707 ?_
        obtain ⟨hi163, hs⟩ := g_if hs
        refine a_sld (pc := 708) hp hi163 dL_law_708 ?_
        obtain ⟨r166, S164, hc165, hs⟩ := g_bind2 hs
        refine a_invVi (pc := 709) (ok_X6_way hc165) gyX6_way vyX6_way mlL_93 sh_0 rfl (As := [.int (xs (x3 + (1 : Int32)).toNatClampNeg), .int (xs (x3 + (2 : Int32)).toNatClampNeg), .int (xs (x3 + (3 : Int32)).toNatClampNeg)]) rfl rfl (by decide) (st := []) rfl (Nat.le_of_ble_eq_true rfl) dL_law_709 ?_
        refine a_aloadn (pc := 712) dL_law_712 rfl rfl ?_
        refine a_aloadn (pc := 713) dL_law_713 rfl rfl ?_
        refine a_iloadn (pc := 714) dL_law_714 rfl rfl ?_
        refine a_iconst (pc := 715) (v := (1 : Int32)) dL_law_715 (by decide) ?_
        refine a_iadd (pc := 716) dL_law_716 ?_
        obtain ⟨hi167, hs⟩ := g_if hs
        refine a_sld (pc := 717) hp hi167 dL_law_717 ?_
        refine a_aloadn (pc := 718) dL_law_718 rfl rfl ?_
        refine a_iloadn (pc := 719) dL_law_719 rfl rfl ?_
        refine a_iconst (pc := 720) (v := (2 : Int32)) dL_law_720 (by decide) ?_
        refine a_iadd (pc := 721) dL_law_721 ?_
        obtain ⟨hi168, hs⟩ := g_if hs
        refine a_sld (pc := 722) hp hi168 dL_law_722 ?_
        refine a_aloadn (pc := 723) dL_law_723 rfl rfl ?_
        refine a_iloadn (pc := 724) dL_law_724 rfl rfl ?_
        refine a_iconst (pc := 725) (v := (3 : Int32)) dL_law_725 (by decide) ?_
        refine a_iadd (pc := 726) dL_law_726 ?_
        obtain ⟨hi169, hs⟩ := g_if hs
        refine a_sld (pc := 727) hp hi169 dL_law_727 ?_
        obtain ⟨r172, S170, hc171, hs⟩ := g_bind2 hs
        refine a_invVi (pc := 728) (ok_X7_way hc171) gyX7_way vyX7_way mlL_96 sh_47 rfl (As := [.int (xs (x3 + (1 : Int32)).toNatClampNeg), .int (xs (x3 + (2 : Int32)).toNatClampNeg), .int (xs (x3 + (3 : Int32)).toNatClampNeg)]) rfl rfl (by decide) (st := [.int r166]) rfl (Nat.le_of_ble_eq_true rfl) dL_law_728 ?_
        refine a_icmp_eq (pc := 731) (tgt := 1292) dL_law_731 (by decide) (fun c173 => ?_) (fun c173 => ?_)
        · rw [if_pos c173] at hs
          refine a_iinc (pc := 1292) dL_law_1292 rfl (v := x3 + (6 : Int32)) rfl (Nat.le_of_ble_eq_true rfl) rfl (L' := [some (.ref b), some (.ref (gad X 0)), some (.ref (gad X 47)), some (.int (x3 + (6 : Int32)))]) rfl ?_
          refine a_goto (pc := 1295) (tgt := 18) dL_law_1295 (by decide) ?_
          obtain rfl := Option.some.inj hs
          exact ih _ _ hR
        · rw [if_neg c173] at hs
          refine a_iconst (pc := 734) (v := (0 : Int32)) dL_law_734 (by decide) ?_
          obtain rfl := Option.some.inj hs
          obtain rfl := Option.some.inj hR
          exact absurd (Prod.mk.inj (Option.some.inj h)).1 (by decide)
      have J670 : ∀ (x3 : Int32) (S : gSt), f_law_j670 nL xs x3 S = some q → AW X RL 12 cL_law 670 [some (.ref b), some (.ref (gad X 0)), some (.ref (gad X 47)), some (.int x3)] [] S := by
        intro x3 S hs
        unfold f_law_j670 at hs
        refine a_aloadn (pc := 670) dL_law_670 rfl rfl ?_
        refine a_aloadn (pc := 671) dL_law_671 rfl rfl ?_
        refine a_iloadn (pc := 672) dL_law_672 rfl rfl ?_
        refine a_iconst (pc := 673) (v := (1 : Int32)) dL_law_673 (by decide) ?_
        refine a_iadd (pc := 674) dL_law_674 ?_
        obtain ⟨hi174, hs⟩ := g_if hs
        refine a_sld (pc := 675) hp hi174 dL_law_675 ?_
        obtain ⟨r177, S175, hc176, hs⟩ := g_bind2 hs
        refine a_invVi (pc := 676) (ok_X6_county hc176) gyX6_county vyX6_county mlL_89 sh_0 rfl (As := [.int (xs (x3 + (1 : Int32)).toNatClampNeg)]) rfl rfl (by decide) (st := []) rfl (Nat.le_of_ble_eq_true rfl) dL_law_676 ?_
        refine a_aloadn (pc := 679) dL_law_679 rfl rfl ?_
        refine a_aloadn (pc := 680) dL_law_680 rfl rfl ?_
        refine a_iloadn (pc := 681) dL_law_681 rfl rfl ?_
        refine a_iconst (pc := 682) (v := (1 : Int32)) dL_law_682 (by decide) ?_
        refine a_iadd (pc := 683) dL_law_683 ?_
        obtain ⟨hi178, hs⟩ := g_if hs
        refine a_sld (pc := 684) hp hi178 dL_law_684 ?_
        obtain ⟨r181, S179, hc180, hs⟩ := g_bind2 hs
        refine a_invVi (pc := 685) (ok_X7_county hc180) gyX7_county vyX7_county mlL_92 sh_47 rfl (As := [.int (xs (x3 + (1 : Int32)).toNatClampNeg)]) rfl rfl (by decide) (st := [.int r177]) rfl (Nat.le_of_ble_eq_true rfl) dL_law_685 ?_
        refine a_icmp_eq (pc := 688) (tgt := 1292) dL_law_688 (by decide) (fun c182 => ?_) (fun c182 => ?_)
        · rw [if_pos c182] at hs
          refine a_iinc (pc := 1292) dL_law_1292 rfl (v := x3 + (6 : Int32)) rfl (Nat.le_of_ble_eq_true rfl) rfl (L' := [some (.ref b), some (.ref (gad X 0)), some (.ref (gad X 47)), some (.int (x3 + (6 : Int32)))]) rfl ?_
          refine a_goto (pc := 1295) (tgt := 18) dL_law_1295 (by decide) ?_
          obtain rfl := Option.some.inj hs
          exact ih _ _ hR
        · rw [if_neg c182] at hs
          refine a_iconst (pc := 691) (v := (0 : Int32)) dL_law_691 (by decide) ?_
          obtain rfl := Option.some.inj hs
          obtain rfl := Option.some.inj hR
          exact absurd (Prod.mk.inj (Option.some.inj h)).1 (by decide)
      have J637 : ∀ (x3 : Int32) (S : gSt), f_law_j637 nL xs x3 S = some q → AW X RL 12 cL_law 637 [some (.ref b), some (.ref (gad X 0)), some (.ref (gad X 47)), some (.int x3)] [] S := by
        intro x3 S hs
        unfold f_law_j637 at hs
        refine a_aloadn (pc := 637) dL_law_637 rfl rfl ?_
        refine a_aloadn (pc := 638) dL_law_638 rfl rfl ?_
        refine a_iloadn (pc := 639) dL_law_639 rfl rfl ?_
        refine a_iconst (pc := 640) (v := (1 : Int32)) dL_law_640 (by decide) ?_
        refine a_iadd (pc := 641) dL_law_641 ?_
        obtain ⟨hi183, hs⟩ := g_if hs
        refine a_sld (pc := 642) hp hi183 dL_law_642 ?_
        refine a_aloadn (pc := 643) dL_law_643 rfl rfl ?_
        refine a_iloadn (pc := 644) dL_law_644 rfl rfl ?_
        refine a_iconst (pc := 645) (v := (2 : Int32)) dL_law_645 (by decide) ?_
        refine a_iadd (pc := 646) dL_law_646 ?_
        obtain ⟨hi184, hs⟩ := g_if hs
        refine a_sld (pc := 647) hp hi184 dL_law_647 ?_
        obtain ⟨r187, S185, hc186, hs⟩ := g_bind2 hs
        refine a_invVi (pc := 648) (ok_X6_lasts hc186) gyX6_lasts vyX6_lasts mlL_85 sh_0 rfl (As := [.int (xs (x3 + (1 : Int32)).toNatClampNeg), .int (xs (x3 + (2 : Int32)).toNatClampNeg)]) rfl rfl (by decide) (st := []) rfl (Nat.le_of_ble_eq_true rfl) dL_law_648 ?_
        refine a_aloadn (pc := 651) dL_law_651 rfl rfl ?_
        refine a_aloadn (pc := 652) dL_law_652 rfl rfl ?_
        refine a_iloadn (pc := 653) dL_law_653 rfl rfl ?_
        refine a_iconst (pc := 654) (v := (1 : Int32)) dL_law_654 (by decide) ?_
        refine a_iadd (pc := 655) dL_law_655 ?_
        obtain ⟨hi188, hs⟩ := g_if hs
        refine a_sld (pc := 656) hp hi188 dL_law_656 ?_
        refine a_aloadn (pc := 657) dL_law_657 rfl rfl ?_
        refine a_iloadn (pc := 658) dL_law_658 rfl rfl ?_
        refine a_iconst (pc := 659) (v := (2 : Int32)) dL_law_659 (by decide) ?_
        refine a_iadd (pc := 660) dL_law_660 ?_
        obtain ⟨hi189, hs⟩ := g_if hs
        refine a_sld (pc := 661) hp hi189 dL_law_661 ?_
        obtain ⟨r192, S190, hc191, hs⟩ := g_bind2 hs
        refine a_invVi (pc := 662) (ok_X7_lasts hc191) gyX7_lasts vyX7_lasts mlL_88 sh_47 rfl (As := [.int (xs (x3 + (1 : Int32)).toNatClampNeg), .int (xs (x3 + (2 : Int32)).toNatClampNeg)]) rfl rfl (by decide) (st := [.int r187]) rfl (Nat.le_of_ble_eq_true rfl) dL_law_662 ?_
        refine a_icmp_eq (pc := 665) (tgt := 1292) dL_law_665 (by decide) (fun c193 => ?_) (fun c193 => ?_)
        · rw [if_pos c193] at hs
          refine a_iinc (pc := 1292) dL_law_1292 rfl (v := x3 + (6 : Int32)) rfl (Nat.le_of_ble_eq_true rfl) rfl (L' := [some (.ref b), some (.ref (gad X 0)), some (.ref (gad X 47)), some (.int (x3 + (6 : Int32)))]) rfl ?_
          refine a_goto (pc := 1295) (tgt := 18) dL_law_1295 (by decide) ?_
          obtain rfl := Option.some.inj hs
          exact ih _ _ hR
        · rw [if_neg c193] at hs
          refine a_iconst (pc := 668) (v := (0 : Int32)) dL_law_668 (by decide) ?_
          obtain rfl := Option.some.inj hs
          obtain rfl := Option.some.inj hR
          exact absurd (Prod.mk.inj (Option.some.inj h)).1 (by decide)
      have J604 : ∀ (x3 : Int32) (S : gSt), f_law_j604 nL xs x3 S = some q → AW X RL 12 cL_law 604 [some (.ref b), some (.ref (gad X 0)), some (.ref (gad X 47)), some (.int x3)] [] S := by
        intro x3 S hs
        unfold f_law_j604 at hs
        refine a_aloadn (pc := 604) dL_law_604 rfl rfl ?_
        refine a_aloadn (pc := 605) dL_law_605 rfl rfl ?_
        refine a_iloadn (pc := 606) dL_law_606 rfl rfl ?_
        refine a_iconst (pc := 607) (v := (1 : Int32)) dL_law_607 (by decide) ?_
        refine a_iadd (pc := 608) dL_law_608 ?_
        obtain ⟨hi194, hs⟩ := g_if hs
        refine a_sld (pc := 609) hp hi194 dL_law_609 ?_
        refine a_aloadn (pc := 610) dL_law_610 rfl rfl ?_
        refine a_iloadn (pc := 611) dL_law_611 rfl rfl ?_
        refine a_iconst (pc := 612) (v := (2 : Int32)) dL_law_612 (by decide) ?_
        refine a_iadd (pc := 613) dL_law_613 ?_
        obtain ⟨hi195, hs⟩ := g_if hs
        refine a_sld (pc := 614) hp hi195 dL_law_614 ?_
        obtain ⟨r198, S196, hc197, hs⟩ := g_bind2 hs
        refine a_invVi (pc := 615) (ok_X6_land hc197) gyX6_land vyX6_land mlL_81 sh_0 rfl (As := [.int (xs (x3 + (1 : Int32)).toNatClampNeg), .int (xs (x3 + (2 : Int32)).toNatClampNeg)]) rfl rfl (by decide) (st := []) rfl (Nat.le_of_ble_eq_true rfl) dL_law_615 ?_
        refine a_aloadn (pc := 618) dL_law_618 rfl rfl ?_
        refine a_aloadn (pc := 619) dL_law_619 rfl rfl ?_
        refine a_iloadn (pc := 620) dL_law_620 rfl rfl ?_
        refine a_iconst (pc := 621) (v := (1 : Int32)) dL_law_621 (by decide) ?_
        refine a_iadd (pc := 622) dL_law_622 ?_
        obtain ⟨hi199, hs⟩ := g_if hs
        refine a_sld (pc := 623) hp hi199 dL_law_623 ?_
        refine a_aloadn (pc := 624) dL_law_624 rfl rfl ?_
        refine a_iloadn (pc := 625) dL_law_625 rfl rfl ?_
        refine a_iconst (pc := 626) (v := (2 : Int32)) dL_law_626 (by decide) ?_
        refine a_iadd (pc := 627) dL_law_627 ?_
        obtain ⟨hi200, hs⟩ := g_if hs
        refine a_sld (pc := 628) hp hi200 dL_law_628 ?_
        obtain ⟨r203, S201, hc202, hs⟩ := g_bind2 hs
        refine a_invVi (pc := 629) (ok_X7_land hc202) gyX7_land vyX7_land mlL_84 sh_47 rfl (As := [.int (xs (x3 + (1 : Int32)).toNatClampNeg), .int (xs (x3 + (2 : Int32)).toNatClampNeg)]) rfl rfl (by decide) (st := [.int r198]) rfl (Nat.le_of_ble_eq_true rfl) dL_law_629 ?_
        refine a_icmp_eq (pc := 632) (tgt := 1292) dL_law_632 (by decide) (fun c204 => ?_) (fun c204 => ?_)
        · rw [if_pos c204] at hs
          refine a_iinc (pc := 1292) dL_law_1292 rfl (v := x3 + (6 : Int32)) rfl (Nat.le_of_ble_eq_true rfl) rfl (L' := [some (.ref b), some (.ref (gad X 0)), some (.ref (gad X 47)), some (.int (x3 + (6 : Int32)))]) rfl ?_
          refine a_goto (pc := 1295) (tgt := 18) dL_law_1295 (by decide) ?_
          obtain rfl := Option.some.inj hs
          exact ih _ _ hR
        · rw [if_neg c204] at hs
          refine a_iconst (pc := 635) (v := (0 : Int32)) dL_law_635 (by decide) ?_
          obtain rfl := Option.some.inj hs
          obtain rfl := Option.some.inj hR
          exact absurd (Prod.mk.inj (Option.some.inj h)).1 (by decide)
      have J571 : ∀ (x3 : Int32) (S : gSt), f_law_j571 nL xs x3 S = some q → AW X RL 12 cL_law 571 [some (.ref b), some (.ref (gad X 0)), some (.ref (gad X 47)), some (.int x3)] [] S := by
        intro x3 S hs
        unfold f_law_j571 at hs
        refine a_aloadn (pc := 571) dL_law_571 rfl rfl ?_
        refine a_aloadn (pc := 572) dL_law_572 rfl rfl ?_
        refine a_iloadn (pc := 573) dL_law_573 rfl rfl ?_
        refine a_iconst (pc := 574) (v := (1 : Int32)) dL_law_574 (by decide) ?_
        refine a_iadd (pc := 575) dL_law_575 ?_
        obtain ⟨hi205, hs⟩ := g_if hs
        refine a_sld (pc := 576) hp hi205 dL_law_576 ?_
        refine a_aloadn (pc := 577) dL_law_577 rfl rfl ?_
        refine a_iloadn (pc := 578) dL_law_578 rfl rfl ?_
        refine a_iconst (pc := 579) (v := (2 : Int32)) dL_law_579 (by decide) ?_
        refine a_iadd (pc := 580) dL_law_580 ?_
        obtain ⟨hi206, hs⟩ := g_if hs
        refine a_sld (pc := 581) hp hi206 dL_law_581 ?_
        obtain ⟨r209, S207, hc208, hs⟩ := g_bind2 hs
        refine a_invVi (pc := 582) (ok_X6_ahead hc208) gyX6_ahead vyX6_ahead mlL_77 sh_0 rfl (As := [.int (xs (x3 + (1 : Int32)).toNatClampNeg), .int (xs (x3 + (2 : Int32)).toNatClampNeg)]) rfl rfl (by decide) (st := []) rfl (Nat.le_of_ble_eq_true rfl) dL_law_582 ?_
        refine a_aloadn (pc := 585) dL_law_585 rfl rfl ?_
        refine a_aloadn (pc := 586) dL_law_586 rfl rfl ?_
        refine a_iloadn (pc := 587) dL_law_587 rfl rfl ?_
        refine a_iconst (pc := 588) (v := (1 : Int32)) dL_law_588 (by decide) ?_
        refine a_iadd (pc := 589) dL_law_589 ?_
        obtain ⟨hi210, hs⟩ := g_if hs
        refine a_sld (pc := 590) hp hi210 dL_law_590 ?_
        refine a_aloadn (pc := 591) dL_law_591 rfl rfl ?_
        refine a_iloadn (pc := 592) dL_law_592 rfl rfl ?_
        refine a_iconst (pc := 593) (v := (2 : Int32)) dL_law_593 (by decide) ?_
        refine a_iadd (pc := 594) dL_law_594 ?_
        obtain ⟨hi211, hs⟩ := g_if hs
        refine a_sld (pc := 595) hp hi211 dL_law_595 ?_
        obtain ⟨r214, S212, hc213, hs⟩ := g_bind2 hs
        refine a_invVi (pc := 596) (ok_X7_ahead hc213) gyX7_ahead vyX7_ahead mlL_80 sh_47 rfl (As := [.int (xs (x3 + (1 : Int32)).toNatClampNeg), .int (xs (x3 + (2 : Int32)).toNatClampNeg)]) rfl rfl (by decide) (st := [.int r209]) rfl (Nat.le_of_ble_eq_true rfl) dL_law_596 ?_
        refine a_icmp_eq (pc := 599) (tgt := 1292) dL_law_599 (by decide) (fun c215 => ?_) (fun c215 => ?_)
        · rw [if_pos c215] at hs
          refine a_iinc (pc := 1292) dL_law_1292 rfl (v := x3 + (6 : Int32)) rfl (Nat.le_of_ble_eq_true rfl) rfl (L' := [some (.ref b), some (.ref (gad X 0)), some (.ref (gad X 47)), some (.int (x3 + (6 : Int32)))]) rfl ?_
          refine a_goto (pc := 1295) (tgt := 18) dL_law_1295 (by decide) ?_
          obtain rfl := Option.some.inj hs
          exact ih _ _ hR
        · rw [if_neg c215] at hs
          refine a_iconst (pc := 602) (v := (0 : Int32)) dL_law_602 (by decide) ?_
          obtain rfl := Option.some.inj hs
          obtain rfl := Option.some.inj hR
          exact absurd (Prod.mk.inj (Option.some.inj h)).1 (by decide)
      have J548 : ∀ (x3 : Int32) (S : gSt), f_law_j548 nL xs x3 S = some q → AW X RL 12 cL_law 548 [some (.ref b), some (.ref (gad X 0)), some (.ref (gad X 47)), some (.int x3)] [] S := by
        intro x3 S hs
        unfold f_law_j548 at hs
        refine a_aloadn (pc := 548) dL_law_548 rfl rfl ?_
        refine a_aloadn (pc := 549) dL_law_549 rfl rfl ?_
        refine a_iloadn (pc := 550) dL_law_550 rfl rfl ?_
        refine a_iconst (pc := 551) (v := (1 : Int32)) dL_law_551 (by decide) ?_
        refine a_iadd (pc := 552) dL_law_552 ?_
        obtain ⟨hi216, hs⟩ := g_if hs
        refine a_sld (pc := 553) hp hi216 dL_law_553 ?_
        obtain ⟨r219, S217, hc218, hs⟩ := g_bind2 hs
        refine a_invVi (pc := 554) (ok_X6_seed hc218) gyX6_seed vyX6_seed mlL_73 sh_0 rfl (As := [.int (xs (x3 + (1 : Int32)).toNatClampNeg)]) rfl rfl (by decide) (st := []) rfl (Nat.le_of_ble_eq_true rfl) dL_law_554 ?_
        refine a_aloadn (pc := 557) dL_law_557 rfl rfl ?_
        refine a_aloadn (pc := 558) dL_law_558 rfl rfl ?_
        refine a_iloadn (pc := 559) dL_law_559 rfl rfl ?_
        refine a_iconst (pc := 560) (v := (1 : Int32)) dL_law_560 (by decide) ?_
        refine a_iadd (pc := 561) dL_law_561 ?_
        obtain ⟨hi220, hs⟩ := g_if hs
        refine a_sld (pc := 562) hp hi220 dL_law_562 ?_
        obtain ⟨r223, S221, hc222, hs⟩ := g_bind2 hs
        refine a_invVi (pc := 563) (ok_X7_seed hc222) gyX7_seed vyX7_seed mlL_76 sh_47 rfl (As := [.int (xs (x3 + (1 : Int32)).toNatClampNeg)]) rfl rfl (by decide) (st := [.int r219]) rfl (Nat.le_of_ble_eq_true rfl) dL_law_563 ?_
        refine a_icmp_eq (pc := 566) (tgt := 1292) dL_law_566 (by decide) (fun c224 => ?_) (fun c224 => ?_)
        · rw [if_pos c224] at hs
          refine a_iinc (pc := 1292) dL_law_1292 rfl (v := x3 + (6 : Int32)) rfl (Nat.le_of_ble_eq_true rfl) rfl (L' := [some (.ref b), some (.ref (gad X 0)), some (.ref (gad X 47)), some (.int (x3 + (6 : Int32)))]) rfl ?_
          refine a_goto (pc := 1295) (tgt := 18) dL_law_1295 (by decide) ?_
          obtain rfl := Option.some.inj hs
          exact ih _ _ hR
        · rw [if_neg c224] at hs
          refine a_iconst (pc := 569) (v := (0 : Int32)) dL_law_569 (by decide) ?_
          obtain rfl := Option.some.inj hs
          obtain rfl := Option.some.inj hR
          exact absurd (Prod.mk.inj (Option.some.inj h)).1 (by decide)
      have J535 : ∀ (x3 : Int32) (S : gSt), f_law_j535 nL xs x3 S = some q → AW X RL 12 cL_law 535 [some (.ref b), some (.ref (gad X 0)), some (.ref (gad X 47)), some (.int x3)] [] S := by
        intro x3 S hs
        unfold f_law_j535 at hs
        refine a_aloadn (pc := 535) dL_law_535 rfl rfl ?_
        obtain ⟨r227, S225, hc226, hs⟩ := g_bind2 hs
        refine a_invVi (pc := 536) (ok_X6_undo hc226) gyX6_undo vyX6_undo mlL_69 sh_0 rfl (As := []) rfl rfl (by decide) (st := []) rfl (Nat.le_of_ble_eq_true rfl) dL_law_536 ?_
        refine a_aloadn (pc := 539) dL_law_539 rfl rfl ?_
        obtain ⟨r230, S228, hc229, hs⟩ := g_bind2 hs
        refine a_invVi (pc := 540) (ok_X7_undo hc229) gyX7_undo vyX7_undo mlL_72 sh_47 rfl (As := []) rfl rfl (by decide) (st := [.int r227]) rfl (Nat.le_of_ble_eq_true rfl) dL_law_540 ?_
        refine a_icmp_eq (pc := 543) (tgt := 1292) dL_law_543 (by decide) (fun c231 => ?_) (fun c231 => ?_)
        · rw [if_pos c231] at hs
          refine a_iinc (pc := 1292) dL_law_1292 rfl (v := x3 + (6 : Int32)) rfl (Nat.le_of_ble_eq_true rfl) rfl (L' := [some (.ref b), some (.ref (gad X 0)), some (.ref (gad X 47)), some (.int (x3 + (6 : Int32)))]) rfl ?_
          refine a_goto (pc := 1295) (tgt := 18) dL_law_1295 (by decide) ?_
          obtain rfl := Option.some.inj hs
          exact ih _ _ hR
        · rw [if_neg c231] at hs
          refine a_iconst (pc := 546) (v := (0 : Int32)) dL_law_546 (by decide) ?_
          obtain rfl := Option.some.inj hs
          obtain rfl := Option.some.inj hR
          exact absurd (Prod.mk.inj (Option.some.inj h)).1 (by decide)
      have J512 : ∀ (x3 : Int32) (S : gSt), f_law_j512 nL xs x3 S = some q → AW X RL 12 cL_law 512 [some (.ref b), some (.ref (gad X 0)), some (.ref (gad X 47)), some (.int x3)] [] S := by
        intro x3 S hs
        unfold f_law_j512 at hs
        refine a_aloadn (pc := 512) dL_law_512 rfl rfl ?_
        refine a_aloadn (pc := 513) dL_law_513 rfl rfl ?_
        refine a_iloadn (pc := 514) dL_law_514 rfl rfl ?_
        refine a_iconst (pc := 515) (v := (1 : Int32)) dL_law_515 (by decide) ?_
        refine a_iadd (pc := 516) dL_law_516 ?_
        obtain ⟨hi232, hs⟩ := g_if hs
        refine a_sld (pc := 517) hp hi232 dL_law_517 ?_
        obtain ⟨r235, S233, hc234, hs⟩ := g_bind2 hs
        refine a_invVi (pc := 518) (ok_X6_rake hc234) gyX6_rake vyX6_rake mlL_65 sh_0 rfl (As := [.int (xs (x3 + (1 : Int32)).toNatClampNeg)]) rfl rfl (by decide) (st := []) rfl (Nat.le_of_ble_eq_true rfl) dL_law_518 ?_
        refine a_aloadn (pc := 521) dL_law_521 rfl rfl ?_
        refine a_aloadn (pc := 522) dL_law_522 rfl rfl ?_
        refine a_iloadn (pc := 523) dL_law_523 rfl rfl ?_
        refine a_iconst (pc := 524) (v := (1 : Int32)) dL_law_524 (by decide) ?_
        refine a_iadd (pc := 525) dL_law_525 ?_
        obtain ⟨hi236, hs⟩ := g_if hs
        refine a_sld (pc := 526) hp hi236 dL_law_526 ?_
        obtain ⟨r239, S237, hc238, hs⟩ := g_bind2 hs
        refine a_invVi (pc := 527) (ok_X7_rake hc238) gyX7_rake vyX7_rake mlL_68 sh_47 rfl (As := [.int (xs (x3 + (1 : Int32)).toNatClampNeg)]) rfl rfl (by decide) (st := [.int r235]) rfl (Nat.le_of_ble_eq_true rfl) dL_law_527 ?_
        refine a_icmp_eq (pc := 530) (tgt := 1292) dL_law_530 (by decide) (fun c240 => ?_) (fun c240 => ?_)
        · rw [if_pos c240] at hs
          refine a_iinc (pc := 1292) dL_law_1292 rfl (v := x3 + (6 : Int32)) rfl (Nat.le_of_ble_eq_true rfl) rfl (L' := [some (.ref b), some (.ref (gad X 0)), some (.ref (gad X 47)), some (.int (x3 + (6 : Int32)))]) rfl ?_
          refine a_goto (pc := 1295) (tgt := 18) dL_law_1295 (by decide) ?_
          obtain rfl := Option.some.inj hs
          exact ih _ _ hR
        · rw [if_neg c240] at hs
          refine a_iconst (pc := 533) (v := (0 : Int32)) dL_law_533 (by decide) ?_
          obtain rfl := Option.some.inj hs
          obtain rfl := Option.some.inj hR
          exact absurd (Prod.mk.inj (Option.some.inj h)).1 (by decide)
      have J489 : ∀ (x3 : Int32) (S : gSt), f_law_j489 nL xs x3 S = some q → AW X RL 12 cL_law 489 [some (.ref b), some (.ref (gad X 0)), some (.ref (gad X 47)), some (.int x3)] [] S := by
        intro x3 S hs
        unfold f_law_j489 at hs
        refine a_aloadn (pc := 489) dL_law_489 rfl rfl ?_
        refine a_aloadn (pc := 490) dL_law_490 rfl rfl ?_
        refine a_iloadn (pc := 491) dL_law_491 rfl rfl ?_
        refine a_iconst (pc := 492) (v := (1 : Int32)) dL_law_492 (by decide) ?_
        refine a_iadd (pc := 493) dL_law_493 ?_
        obtain ⟨hi241, hs⟩ := g_if hs
        refine a_sld (pc := 494) hp hi241 dL_law_494 ?_
        obtain ⟨r244, S242, hc243, hs⟩ := g_bind2 hs
        refine a_invVi (pc := 495) (ok_X6_drift hc243) gyX6_drift vyX6_drift mlL_61 sh_0 rfl (As := [.int (xs (x3 + (1 : Int32)).toNatClampNeg)]) rfl rfl (by decide) (st := []) rfl (Nat.le_of_ble_eq_true rfl) dL_law_495 ?_
        refine a_aloadn (pc := 498) dL_law_498 rfl rfl ?_
        refine a_aloadn (pc := 499) dL_law_499 rfl rfl ?_
        refine a_iloadn (pc := 500) dL_law_500 rfl rfl ?_
        refine a_iconst (pc := 501) (v := (1 : Int32)) dL_law_501 (by decide) ?_
        refine a_iadd (pc := 502) dL_law_502 ?_
        obtain ⟨hi245, hs⟩ := g_if hs
        refine a_sld (pc := 503) hp hi245 dL_law_503 ?_
        obtain ⟨r248, S246, hc247, hs⟩ := g_bind2 hs
        refine a_invVi (pc := 504) (ok_X7_drift hc247) gyX7_drift vyX7_drift mlL_64 sh_47 rfl (As := [.int (xs (x3 + (1 : Int32)).toNatClampNeg)]) rfl rfl (by decide) (st := [.int r244]) rfl (Nat.le_of_ble_eq_true rfl) dL_law_504 ?_
        refine a_icmp_eq (pc := 507) (tgt := 1292) dL_law_507 (by decide) (fun c249 => ?_) (fun c249 => ?_)
        · rw [if_pos c249] at hs
          refine a_iinc (pc := 1292) dL_law_1292 rfl (v := x3 + (6 : Int32)) rfl (Nat.le_of_ble_eq_true rfl) rfl (L' := [some (.ref b), some (.ref (gad X 0)), some (.ref (gad X 47)), some (.int (x3 + (6 : Int32)))]) rfl ?_
          refine a_goto (pc := 1295) (tgt := 18) dL_law_1295 (by decide) ?_
          obtain rfl := Option.some.inj hs
          exact ih _ _ hR
        · rw [if_neg c249] at hs
          refine a_iconst (pc := 510) (v := (0 : Int32)) dL_law_510 (by decide) ?_
          obtain rfl := Option.some.inj hs
          obtain rfl := Option.some.inj hR
          exact absurd (Prod.mk.inj (Option.some.inj h)).1 (by decide)
      have J466 : ∀ (x3 : Int32) (S : gSt), f_law_j466 nL xs x3 S = some q → AW X RL 12 cL_law 466 [some (.ref b), some (.ref (gad X 0)), some (.ref (gad X 47)), some (.int x3)] [] S := by
        intro x3 S hs
        unfold f_law_j466 at hs
        refine a_aloadn (pc := 466) dL_law_466 rfl rfl ?_
        refine a_aloadn (pc := 467) dL_law_467 rfl rfl ?_
        refine a_iloadn (pc := 468) dL_law_468 rfl rfl ?_
        refine a_iconst (pc := 469) (v := (1 : Int32)) dL_law_469 (by decide) ?_
        refine a_iadd (pc := 470) dL_law_470 ?_
        obtain ⟨hi250, hs⟩ := g_if hs
        refine a_sld (pc := 471) hp hi250 dL_law_471 ?_
        obtain ⟨r253, S251, hc252, hs⟩ := g_bind2 hs
        refine a_invVi (pc := 472) (ok_X6_hours hc252) gyX6_hours vyX6_hours mlL_57 sh_0 rfl (As := [.int (xs (x3 + (1 : Int32)).toNatClampNeg)]) rfl rfl (by decide) (st := []) rfl (Nat.le_of_ble_eq_true rfl) dL_law_472 ?_
        refine a_aloadn (pc := 475) dL_law_475 rfl rfl ?_
        refine a_aloadn (pc := 476) dL_law_476 rfl rfl ?_
        refine a_iloadn (pc := 477) dL_law_477 rfl rfl ?_
        refine a_iconst (pc := 478) (v := (1 : Int32)) dL_law_478 (by decide) ?_
        refine a_iadd (pc := 479) dL_law_479 ?_
        obtain ⟨hi254, hs⟩ := g_if hs
        refine a_sld (pc := 480) hp hi254 dL_law_480 ?_
        obtain ⟨r257, S255, hc256, hs⟩ := g_bind2 hs
        refine a_invVi (pc := 481) (ok_X7_hours hc256) gyX7_hours vyX7_hours mlL_60 sh_47 rfl (As := [.int (xs (x3 + (1 : Int32)).toNatClampNeg)]) rfl rfl (by decide) (st := [.int r253]) rfl (Nat.le_of_ble_eq_true rfl) dL_law_481 ?_
        refine a_icmp_eq (pc := 484) (tgt := 1292) dL_law_484 (by decide) (fun c258 => ?_) (fun c258 => ?_)
        · rw [if_pos c258] at hs
          refine a_iinc (pc := 1292) dL_law_1292 rfl (v := x3 + (6 : Int32)) rfl (Nat.le_of_ble_eq_true rfl) rfl (L' := [some (.ref b), some (.ref (gad X 0)), some (.ref (gad X 47)), some (.int (x3 + (6 : Int32)))]) rfl ?_
          refine a_goto (pc := 1295) (tgt := 18) dL_law_1295 (by decide) ?_
          obtain rfl := Option.some.inj hs
          exact ih _ _ hR
        · rw [if_neg c258] at hs
          refine a_iconst (pc := 487) (v := (0 : Int32)) dL_law_487 (by decide) ?_
          obtain rfl := Option.some.inj hs
          obtain rfl := Option.some.inj hR
          exact absurd (Prod.mk.inj (Option.some.inj h)).1 (by decide)
      have J433 : ∀ (x3 : Int32) (S : gSt), f_law_j433 nL xs x3 S = some q → AW X RL 12 cL_law 433 [some (.ref b), some (.ref (gad X 0)), some (.ref (gad X 47)), some (.int x3)] [] S := by
        intro x3 S hs
        unfold f_law_j433 at hs
        refine a_aloadn (pc := 433) dL_law_433 rfl rfl ?_
        refine a_aloadn (pc := 434) dL_law_434 rfl rfl ?_
        refine a_iloadn (pc := 435) dL_law_435 rfl rfl ?_
        refine a_iconst (pc := 436) (v := (1 : Int32)) dL_law_436 (by decide) ?_
        refine a_iadd (pc := 437) dL_law_437 ?_
        obtain ⟨hi259, hs⟩ := g_if hs
        refine a_sld (pc := 438) hp hi259 dL_law_438 ?_
        refine a_aloadn (pc := 439) dL_law_439 rfl rfl ?_
        refine a_iloadn (pc := 440) dL_law_440 rfl rfl ?_
        refine a_iconst (pc := 441) (v := (2 : Int32)) dL_law_441 (by decide) ?_
        refine a_iadd (pc := 442) dL_law_442 ?_
        obtain ⟨hi260, hs⟩ := g_if hs
        refine a_sld (pc := 443) hp hi260 dL_law_443 ?_
        obtain ⟨r263, S261, hc262, hs⟩ := g_bind2 hs
        refine a_invVi (pc := 444) (ok_X6_step hc262) gyX6_step vyX6_step mlL_53 sh_0 rfl (As := [.int (xs (x3 + (1 : Int32)).toNatClampNeg), .int (xs (x3 + (2 : Int32)).toNatClampNeg)]) rfl rfl (by decide) (st := []) rfl (Nat.le_of_ble_eq_true rfl) dL_law_444 ?_
        refine a_aloadn (pc := 447) dL_law_447 rfl rfl ?_
        refine a_aloadn (pc := 448) dL_law_448 rfl rfl ?_
        refine a_iloadn (pc := 449) dL_law_449 rfl rfl ?_
        refine a_iconst (pc := 450) (v := (1 : Int32)) dL_law_450 (by decide) ?_
        refine a_iadd (pc := 451) dL_law_451 ?_
        obtain ⟨hi264, hs⟩ := g_if hs
        refine a_sld (pc := 452) hp hi264 dL_law_452 ?_
        refine a_aloadn (pc := 453) dL_law_453 rfl rfl ?_
        refine a_iloadn (pc := 454) dL_law_454 rfl rfl ?_
        refine a_iconst (pc := 455) (v := (2 : Int32)) dL_law_455 (by decide) ?_
        refine a_iadd (pc := 456) dL_law_456 ?_
        obtain ⟨hi265, hs⟩ := g_if hs
        refine a_sld (pc := 457) hp hi265 dL_law_457 ?_
        obtain ⟨r268, S266, hc267, hs⟩ := g_bind2 hs
        refine a_invVi (pc := 458) (ok_X7_step hc267) gyX7_step vyX7_step mlL_56 sh_47 rfl (As := [.int (xs (x3 + (1 : Int32)).toNatClampNeg), .int (xs (x3 + (2 : Int32)).toNatClampNeg)]) rfl rfl (by decide) (st := [.int r263]) rfl (Nat.le_of_ble_eq_true rfl) dL_law_458 ?_
        refine a_icmp_eq (pc := 461) (tgt := 1292) dL_law_461 (by decide) (fun c269 => ?_) (fun c269 => ?_)
        · rw [if_pos c269] at hs
          refine a_iinc (pc := 1292) dL_law_1292 rfl (v := x3 + (6 : Int32)) rfl (Nat.le_of_ble_eq_true rfl) rfl (L' := [some (.ref b), some (.ref (gad X 0)), some (.ref (gad X 47)), some (.int (x3 + (6 : Int32)))]) rfl ?_
          refine a_goto (pc := 1295) (tgt := 18) dL_law_1295 (by decide) ?_
          obtain rfl := Option.some.inj hs
          exact ih _ _ hR
        · rw [if_neg c269] at hs
          refine a_iconst (pc := 464) (v := (0 : Int32)) dL_law_464 (by decide) ?_
          obtain rfl := Option.some.inj hs
          obtain rfl := Option.some.inj hR
          exact absurd (Prod.mk.inj (Option.some.inj h)).1 (by decide)
      have J410 : ∀ (x3 : Int32) (S : gSt), f_law_j410 nL xs x3 S = some q → AW X RL 12 cL_law 410 [some (.ref b), some (.ref (gad X 0)), some (.ref (gad X 47)), some (.int x3)] [] S := by
        intro x3 S hs
        unfold f_law_j410 at hs
        refine a_aloadn (pc := 410) dL_law_410 rfl rfl ?_
        refine a_aloadn (pc := 411) dL_law_411 rfl rfl ?_
        refine a_iloadn (pc := 412) dL_law_412 rfl rfl ?_
        refine a_iconst (pc := 413) (v := (1 : Int32)) dL_law_413 (by decide) ?_
        refine a_iadd (pc := 414) dL_law_414 ?_
        obtain ⟨hi270, hs⟩ := g_if hs
        refine a_sld (pc := 415) hp hi270 dL_law_415 ?_
        obtain ⟨r273, S271, hc272, hs⟩ := g_bind2 hs
        refine a_invVi (pc := 416) (ok_X6_count hc272) gyX6_count vyX6_count mlL_49 sh_0 rfl (As := [.int (xs (x3 + (1 : Int32)).toNatClampNeg)]) rfl rfl (by decide) (st := []) rfl (Nat.le_of_ble_eq_true rfl) dL_law_416 ?_
        refine a_aloadn (pc := 419) dL_law_419 rfl rfl ?_
        refine a_aloadn (pc := 420) dL_law_420 rfl rfl ?_
        refine a_iloadn (pc := 421) dL_law_421 rfl rfl ?_
        refine a_iconst (pc := 422) (v := (1 : Int32)) dL_law_422 (by decide) ?_
        refine a_iadd (pc := 423) dL_law_423 ?_
        obtain ⟨hi274, hs⟩ := g_if hs
        refine a_sld (pc := 424) hp hi274 dL_law_424 ?_
        obtain ⟨r277, S275, hc276, hs⟩ := g_bind2 hs
        refine a_invVi (pc := 425) (ok_X7_count hc276) gyX7_count vyX7_count mlL_52 sh_47 rfl (As := [.int (xs (x3 + (1 : Int32)).toNatClampNeg)]) rfl rfl (by decide) (st := [.int r273]) rfl (Nat.le_of_ble_eq_true rfl) dL_law_425 ?_
        refine a_icmp_eq (pc := 428) (tgt := 1292) dL_law_428 (by decide) (fun c278 => ?_) (fun c278 => ?_)
        · rw [if_pos c278] at hs
          refine a_iinc (pc := 1292) dL_law_1292 rfl (v := x3 + (6 : Int32)) rfl (Nat.le_of_ble_eq_true rfl) rfl (L' := [some (.ref b), some (.ref (gad X 0)), some (.ref (gad X 47)), some (.int (x3 + (6 : Int32)))]) rfl ?_
          refine a_goto (pc := 1295) (tgt := 18) dL_law_1295 (by decide) ?_
          obtain rfl := Option.some.inj hs
          exact ih _ _ hR
        · rw [if_neg c278] at hs
          refine a_iconst (pc := 431) (v := (0 : Int32)) dL_law_431 (by decide) ?_
          obtain rfl := Option.some.inj hs
          obtain rfl := Option.some.inj hR
          exact absurd (Prod.mk.inj (Option.some.inj h)).1 (by decide)
      have J397 : ∀ (x3 : Int32) (S : gSt), f_law_j397 nL xs x3 S = some q → AW X RL 12 cL_law 397 [some (.ref b), some (.ref (gad X 0)), some (.ref (gad X 47)), some (.int x3)] [] S := by
        intro x3 S hs
        unfold f_law_j397 at hs
        refine a_aloadn (pc := 397) dL_law_397 rfl rfl ?_
        obtain ⟨r281, S279, hc280, hs⟩ := g_bind2 hs
        refine a_invVi (pc := 398) (ok_X6_settle hc280) gyX6_settle vyX6_settle mlL_44 sh_0 rfl (As := []) rfl rfl (by decide) (st := []) rfl (Nat.le_of_ble_eq_true rfl) dL_law_398 ?_
        refine a_aloadn (pc := 401) dL_law_401 rfl rfl ?_
        obtain ⟨r284, S282, hc283, hs⟩ := g_bind2 hs
        refine a_invVi (pc := 402) (ok_X7_settle hc283) gyX7_settle vyX7_settle mlL_48 sh_47 rfl (As := []) rfl rfl (by decide) (st := [.int r281]) rfl (Nat.le_of_ble_eq_true rfl) dL_law_402 ?_
        refine a_icmp_eq (pc := 405) (tgt := 1292) dL_law_405 (by decide) (fun c285 => ?_) (fun c285 => ?_)
        · rw [if_pos c285] at hs
          refine a_iinc (pc := 1292) dL_law_1292 rfl (v := x3 + (6 : Int32)) rfl (Nat.le_of_ble_eq_true rfl) rfl (L' := [some (.ref b), some (.ref (gad X 0)), some (.ref (gad X 47)), some (.int (x3 + (6 : Int32)))]) rfl ?_
          refine a_goto (pc := 1295) (tgt := 18) dL_law_1295 (by decide) ?_
          obtain rfl := Option.some.inj hs
          exact ih _ _ hR
        · rw [if_neg c285] at hs
          refine a_iconst (pc := 408) (v := (0 : Int32)) dL_law_408 (by decide) ?_
          obtain rfl := Option.some.inj hs
          obtain rfl := Option.some.inj hR
          exact absurd (Prod.mk.inj (Option.some.inj h)).1 (by decide)
      have J374 : ∀ (x3 : Int32) (S : gSt), f_law_j374 nL xs x3 S = some q → AW X RL 12 cL_law 374 [some (.ref b), some (.ref (gad X 0)), some (.ref (gad X 47)), some (.int x3)] [] S := by
        intro x3 S hs
        unfold f_law_j374 at hs
        refine a_aloadn (pc := 374) dL_law_374 rfl rfl ?_
        refine a_aloadn (pc := 375) dL_law_375 rfl rfl ?_
        refine a_iloadn (pc := 376) dL_law_376 rfl rfl ?_
        refine a_iconst (pc := 377) (v := (1 : Int32)) dL_law_377 (by decide) ?_
        refine a_iadd (pc := 378) dL_law_378 ?_
        obtain ⟨hi286, hs⟩ := g_if hs
        refine a_sld (pc := 379) hp hi286 dL_law_379 ?_
        obtain ⟨r289, S287, hc288, hs⟩ := g_bind2 hs
        refine a_invVi (pc := 380) (ok_X6_type hc288) gyX6_type vyX6_type mlL_40 sh_0 rfl (As := [.int (xs (x3 + (1 : Int32)).toNatClampNeg)]) rfl rfl (by decide) (st := []) rfl (Nat.le_of_ble_eq_true rfl) dL_law_380 ?_
        refine a_aloadn (pc := 383) dL_law_383 rfl rfl ?_
        refine a_aloadn (pc := 384) dL_law_384 rfl rfl ?_
        refine a_iloadn (pc := 385) dL_law_385 rfl rfl ?_
        refine a_iconst (pc := 386) (v := (1 : Int32)) dL_law_386 (by decide) ?_
        refine a_iadd (pc := 387) dL_law_387 ?_
        obtain ⟨hi290, hs⟩ := g_if hs
        refine a_sld (pc := 388) hp hi290 dL_law_388 ?_
        obtain ⟨r293, S291, hc292, hs⟩ := g_bind2 hs
        refine a_invVi (pc := 389) (ok_X7_type hc292) gyX7_type vyX7_type mlL_43 sh_47 rfl (As := [.int (xs (x3 + (1 : Int32)).toNatClampNeg)]) rfl rfl (by decide) (st := [.int r289]) rfl (Nat.le_of_ble_eq_true rfl) dL_law_389 ?_
        refine a_icmp_eq (pc := 392) (tgt := 1292) dL_law_392 (by decide) (fun c294 => ?_) (fun c294 => ?_)
        · rw [if_pos c294] at hs
          refine a_iinc (pc := 1292) dL_law_1292 rfl (v := x3 + (6 : Int32)) rfl (Nat.le_of_ble_eq_true rfl) rfl (L' := [some (.ref b), some (.ref (gad X 0)), some (.ref (gad X 47)), some (.int (x3 + (6 : Int32)))]) rfl ?_
          refine a_goto (pc := 1295) (tgt := 18) dL_law_1295 (by decide) ?_
          obtain rfl := Option.some.inj hs
          exact ih _ _ hR
        · rw [if_neg c294] at hs
          refine a_iconst (pc := 395) (v := (0 : Int32)) dL_law_395 (by decide) ?_
          obtain rfl := Option.some.inj hs
          obtain rfl := Option.some.inj hR
          exact absurd (Prod.mk.inj (Option.some.inj h)).1 (by decide)
      have J351 : ∀ (x3 : Int32) (S : gSt), f_law_j351 nL xs x3 S = some q → AW X RL 12 cL_law 351 [some (.ref b), some (.ref (gad X 0)), some (.ref (gad X 47)), some (.int x3)] [] S := by
        intro x3 S hs
        unfold f_law_j351 at hs
        refine a_aloadn (pc := 351) dL_law_351 rfl rfl ?_
        refine a_aloadn (pc := 352) dL_law_352 rfl rfl ?_
        refine a_iloadn (pc := 353) dL_law_353 rfl rfl ?_
        refine a_iconst (pc := 354) (v := (1 : Int32)) dL_law_354 (by decide) ?_
        refine a_iadd (pc := 355) dL_law_355 ?_
        obtain ⟨hi295, hs⟩ := g_if hs
        refine a_sld (pc := 356) hp hi295 dL_law_356 ?_
        obtain ⟨r298, S296, hc297, hs⟩ := g_bind2 hs
        refine a_invVi (pc := 357) (ok_X6_held hc297) gyX6_held vyX6_held mlL_35 sh_0 rfl (As := [.int (xs (x3 + (1 : Int32)).toNatClampNeg)]) rfl rfl (by decide) (st := []) rfl (Nat.le_of_ble_eq_true rfl) dL_law_357 ?_
        refine a_aloadn (pc := 360) dL_law_360 rfl rfl ?_
        refine a_aloadn (pc := 361) dL_law_361 rfl rfl ?_
        refine a_iloadn (pc := 362) dL_law_362 rfl rfl ?_
        refine a_iconst (pc := 363) (v := (1 : Int32)) dL_law_363 (by decide) ?_
        refine a_iadd (pc := 364) dL_law_364 ?_
        obtain ⟨hi299, hs⟩ := g_if hs
        refine a_sld (pc := 365) hp hi299 dL_law_365 ?_
        obtain ⟨r302, S300, hc301, hs⟩ := g_bind2 hs
        refine a_invVi (pc := 366) (ok_X7_held hc301) gyX7_held vyX7_held mlL_39 sh_47 rfl (As := [.int (xs (x3 + (1 : Int32)).toNatClampNeg)]) rfl rfl (by decide) (st := [.int r298]) rfl (Nat.le_of_ble_eq_true rfl) dL_law_366 ?_
        refine a_icmp_eq (pc := 369) (tgt := 1292) dL_law_369 (by decide) (fun c303 => ?_) (fun c303 => ?_)
        · rw [if_pos c303] at hs
          refine a_iinc (pc := 1292) dL_law_1292 rfl (v := x3 + (6 : Int32)) rfl (Nat.le_of_ble_eq_true rfl) rfl (L' := [some (.ref b), some (.ref (gad X 0)), some (.ref (gad X 47)), some (.int (x3 + (6 : Int32)))]) rfl ?_
          refine a_goto (pc := 1295) (tgt := 18) dL_law_1295 (by decide) ?_
          obtain rfl := Option.some.inj hs
          exact ih _ _ hR
        · rw [if_neg c303] at hs
          refine a_iconst (pc := 372) (v := (0 : Int32)) dL_law_372 (by decide) ?_
          obtain rfl := Option.some.inj hs
          obtain rfl := Option.some.inj hR
          exact absurd (Prod.mk.inj (Option.some.inj h)).1 (by decide)
      have J318 : ∀ (x3 : Int32) (S : gSt), f_law_j318 nL xs x3 S = some q → AW X RL 12 cL_law 318 [some (.ref b), some (.ref (gad X 0)), some (.ref (gad X 47)), some (.int x3)] [] S := by
        intro x3 S hs
        unfold f_law_j318 at hs
        refine a_aloadn (pc := 318) dL_law_318 rfl rfl ?_
        refine a_aloadn (pc := 319) dL_law_319 rfl rfl ?_
        refine a_iloadn (pc := 320) dL_law_320 rfl rfl ?_
        refine a_iconst (pc := 321) (v := (1 : Int32)) dL_law_321 (by decide) ?_
        refine a_iadd (pc := 322) dL_law_322 ?_
        obtain ⟨hi304, hs⟩ := g_if hs
        refine a_sld (pc := 323) hp hi304 dL_law_323 ?_
        refine a_aloadn (pc := 324) dL_law_324 rfl rfl ?_
        refine a_iloadn (pc := 325) dL_law_325 rfl rfl ?_
        refine a_iconst (pc := 326) (v := (2 : Int32)) dL_law_326 (by decide) ?_
        refine a_iadd (pc := 327) dL_law_327 ?_
        obtain ⟨hi305, hs⟩ := g_if hs
        refine a_sld (pc := 328) hp hi305 dL_law_328 ?_
        obtain ⟨r308, S306, hc307, hs⟩ := g_bind2 hs
        refine a_invVi (pc := 329) (ok_X6_claim hc307) gyX6_claim vyX6_claim mlL_31 sh_0 rfl (As := [.int (xs (x3 + (1 : Int32)).toNatClampNeg), .int (xs (x3 + (2 : Int32)).toNatClampNeg)]) rfl rfl (by decide) (st := []) rfl (Nat.le_of_ble_eq_true rfl) dL_law_329 ?_
        refine a_aloadn (pc := 332) dL_law_332 rfl rfl ?_
        refine a_aloadn (pc := 333) dL_law_333 rfl rfl ?_
        refine a_iloadn (pc := 334) dL_law_334 rfl rfl ?_
        refine a_iconst (pc := 335) (v := (1 : Int32)) dL_law_335 (by decide) ?_
        refine a_iadd (pc := 336) dL_law_336 ?_
        obtain ⟨hi309, hs⟩ := g_if hs
        refine a_sld (pc := 337) hp hi309 dL_law_337 ?_
        refine a_aloadn (pc := 338) dL_law_338 rfl rfl ?_
        refine a_iloadn (pc := 339) dL_law_339 rfl rfl ?_
        refine a_iconst (pc := 340) (v := (2 : Int32)) dL_law_340 (by decide) ?_
        refine a_iadd (pc := 341) dL_law_341 ?_
        obtain ⟨hi310, hs⟩ := g_if hs
        refine a_sld (pc := 342) hp hi310 dL_law_342 ?_
        obtain ⟨r313, S311, hc312, hs⟩ := g_bind2 hs
        refine a_invVi (pc := 343) (ok_X7_claim hc312) gyX7_claim vyX7_claim mlL_34 sh_47 rfl (As := [.int (xs (x3 + (1 : Int32)).toNatClampNeg), .int (xs (x3 + (2 : Int32)).toNatClampNeg)]) rfl rfl (by decide) (st := [.int r308]) rfl (Nat.le_of_ble_eq_true rfl) dL_law_343 ?_
        refine a_icmp_eq (pc := 346) (tgt := 1292) dL_law_346 (by decide) (fun c314 => ?_) (fun c314 => ?_)
        · rw [if_pos c314] at hs
          refine a_iinc (pc := 1292) dL_law_1292 rfl (v := x3 + (6 : Int32)) rfl (Nat.le_of_ble_eq_true rfl) rfl (L' := [some (.ref b), some (.ref (gad X 0)), some (.ref (gad X 47)), some (.int (x3 + (6 : Int32)))]) rfl ?_
          refine a_goto (pc := 1295) (tgt := 18) dL_law_1295 (by decide) ?_
          obtain rfl := Option.some.inj hs
          exact ih _ _ hR
        · rw [if_neg c314] at hs
          refine a_iconst (pc := 349) (v := (0 : Int32)) dL_law_349 (by decide) ?_
          obtain rfl := Option.some.inj hs
          obtain rfl := Option.some.inj hR
          exact absurd (Prod.mk.inj (Option.some.inj h)).1 (by decide)
      have J285 : ∀ (x3 : Int32) (S : gSt), f_law_j285 nL xs x3 S = some q → AW X RL 12 cL_law 285 [some (.ref b), some (.ref (gad X 0)), some (.ref (gad X 47)), some (.int x3)] [] S := by
        intro x3 S hs
        unfold f_law_j285 at hs
        refine a_aloadn (pc := 285) dL_law_285 rfl rfl ?_
        refine a_aloadn (pc := 286) dL_law_286 rfl rfl ?_
        refine a_iloadn (pc := 287) dL_law_287 rfl rfl ?_
        refine a_iconst (pc := 288) (v := (1 : Int32)) dL_law_288 (by decide) ?_
        refine a_iadd (pc := 289) dL_law_289 ?_
        obtain ⟨hi315, hs⟩ := g_if hs
        refine a_sld (pc := 290) hp hi315 dL_law_290 ?_
        refine a_aloadn (pc := 291) dL_law_291 rfl rfl ?_
        refine a_iloadn (pc := 292) dL_law_292 rfl rfl ?_
        refine a_iconst (pc := 293) (v := (2 : Int32)) dL_law_293 (by decide) ?_
        refine a_iadd (pc := 294) dL_law_294 ?_
        obtain ⟨hi316, hs⟩ := g_if hs
        refine a_sld (pc := 295) hp hi316 dL_law_295 ?_
        obtain ⟨r319, S317, hc318, hs⟩ := g_bind2 hs
        refine a_invVi (pc := 296) (ok_X6_print hc318) gyX6_print vyX6_print mlL_27 sh_0 rfl (As := [.int (xs (x3 + (1 : Int32)).toNatClampNeg), .int (xs (x3 + (2 : Int32)).toNatClampNeg)]) rfl rfl (by decide) (st := []) rfl (Nat.le_of_ble_eq_true rfl) dL_law_296 ?_
        refine a_aloadn (pc := 299) dL_law_299 rfl rfl ?_
        refine a_aloadn (pc := 300) dL_law_300 rfl rfl ?_
        refine a_iloadn (pc := 301) dL_law_301 rfl rfl ?_
        refine a_iconst (pc := 302) (v := (1 : Int32)) dL_law_302 (by decide) ?_
        refine a_iadd (pc := 303) dL_law_303 ?_
        obtain ⟨hi320, hs⟩ := g_if hs
        refine a_sld (pc := 304) hp hi320 dL_law_304 ?_
        refine a_aloadn (pc := 305) dL_law_305 rfl rfl ?_
        refine a_iloadn (pc := 306) dL_law_306 rfl rfl ?_
        refine a_iconst (pc := 307) (v := (2 : Int32)) dL_law_307 (by decide) ?_
        refine a_iadd (pc := 308) dL_law_308 ?_
        obtain ⟨hi321, hs⟩ := g_if hs
        refine a_sld (pc := 309) hp hi321 dL_law_309 ?_
        obtain ⟨r324, S322, hc323, hs⟩ := g_bind2 hs
        refine a_invVi (pc := 310) (ok_X7_print hc323) gyX7_print vyX7_print mlL_30 sh_47 rfl (As := [.int (xs (x3 + (1 : Int32)).toNatClampNeg), .int (xs (x3 + (2 : Int32)).toNatClampNeg)]) rfl rfl (by decide) (st := [.int r319]) rfl (Nat.le_of_ble_eq_true rfl) dL_law_310 ?_
        refine a_icmp_eq (pc := 313) (tgt := 1292) dL_law_313 (by decide) (fun c325 => ?_) (fun c325 => ?_)
        · rw [if_pos c325] at hs
          refine a_iinc (pc := 1292) dL_law_1292 rfl (v := x3 + (6 : Int32)) rfl (Nat.le_of_ble_eq_true rfl) rfl (L' := [some (.ref b), some (.ref (gad X 0)), some (.ref (gad X 47)), some (.int (x3 + (6 : Int32)))]) rfl ?_
          refine a_goto (pc := 1295) (tgt := 18) dL_law_1295 (by decide) ?_
          obtain rfl := Option.some.inj hs
          exact ih _ _ hR
        · rw [if_neg c325] at hs
          refine a_iconst (pc := 316) (v := (0 : Int32)) dL_law_316 (by decide) ?_
          obtain rfl := Option.some.inj hs
          obtain rfl := Option.some.inj hR
          exact absurd (Prod.mk.inj (Option.some.inj h)).1 (by decide)
      have J252 : ∀ (x3 : Int32) (S : gSt), f_law_j252 nL xs x3 S = some q → AW X RL 12 cL_law 252 [some (.ref b), some (.ref (gad X 0)), some (.ref (gad X 47)), some (.int x3)] [] S := by
        intro x3 S hs
        unfold f_law_j252 at hs
        refine a_aloadn (pc := 252) dL_law_252 rfl rfl ?_
        refine a_aloadn (pc := 253) dL_law_253 rfl rfl ?_
        refine a_iloadn (pc := 254) dL_law_254 rfl rfl ?_
        refine a_iconst (pc := 255) (v := (1 : Int32)) dL_law_255 (by decide) ?_
        refine a_iadd (pc := 256) dL_law_256 ?_
        obtain ⟨hi326, hs⟩ := g_if hs
        refine a_sld (pc := 257) hp hi326 dL_law_257 ?_
        refine a_aloadn (pc := 258) dL_law_258 rfl rfl ?_
        refine a_iloadn (pc := 259) dL_law_259 rfl rfl ?_
        refine a_iconst (pc := 260) (v := (2 : Int32)) dL_law_260 (by decide) ?_
        refine a_iadd (pc := 261) dL_law_261 ?_
        obtain ⟨hi327, hs⟩ := g_if hs
        refine a_sld (pc := 262) hp hi327 dL_law_262 ?_
        obtain ⟨r330, S328, hc329, hs⟩ := g_bind2 hs
        refine a_invVi (pc := 263) (ok_X6_isle hc329) gyX6_isle vyX6_isle mlL_23 sh_0 rfl (As := [.int (xs (x3 + (1 : Int32)).toNatClampNeg), .int (xs (x3 + (2 : Int32)).toNatClampNeg)]) rfl rfl (by decide) (st := []) rfl (Nat.le_of_ble_eq_true rfl) dL_law_263 ?_
        refine a_aloadn (pc := 266) dL_law_266 rfl rfl ?_
        refine a_aloadn (pc := 267) dL_law_267 rfl rfl ?_
        refine a_iloadn (pc := 268) dL_law_268 rfl rfl ?_
        refine a_iconst (pc := 269) (v := (1 : Int32)) dL_law_269 (by decide) ?_
        refine a_iadd (pc := 270) dL_law_270 ?_
        obtain ⟨hi331, hs⟩ := g_if hs
        refine a_sld (pc := 271) hp hi331 dL_law_271 ?_
        refine a_aloadn (pc := 272) dL_law_272 rfl rfl ?_
        refine a_iloadn (pc := 273) dL_law_273 rfl rfl ?_
        refine a_iconst (pc := 274) (v := (2 : Int32)) dL_law_274 (by decide) ?_
        refine a_iadd (pc := 275) dL_law_275 ?_
        obtain ⟨hi332, hs⟩ := g_if hs
        refine a_sld (pc := 276) hp hi332 dL_law_276 ?_
        obtain ⟨r335, S333, hc334, hs⟩ := g_bind2 hs
        refine a_invVi (pc := 277) (ok_X7_isle hc334) gyX7_isle vyX7_isle mlL_26 sh_47 rfl (As := [.int (xs (x3 + (1 : Int32)).toNatClampNeg), .int (xs (x3 + (2 : Int32)).toNatClampNeg)]) rfl rfl (by decide) (st := [.int r330]) rfl (Nat.le_of_ble_eq_true rfl) dL_law_277 ?_
        refine a_icmp_eq (pc := 280) (tgt := 1292) dL_law_280 (by decide) (fun c336 => ?_) (fun c336 => ?_)
        · rw [if_pos c336] at hs
          refine a_iinc (pc := 1292) dL_law_1292 rfl (v := x3 + (6 : Int32)) rfl (Nat.le_of_ble_eq_true rfl) rfl (L' := [some (.ref b), some (.ref (gad X 0)), some (.ref (gad X 47)), some (.int (x3 + (6 : Int32)))]) rfl ?_
          refine a_goto (pc := 1295) (tgt := 18) dL_law_1295 (by decide) ?_
          obtain rfl := Option.some.inj hs
          exact ih _ _ hR
        · rw [if_neg c336] at hs
          refine a_iconst (pc := 283) (v := (0 : Int32)) dL_law_283 (by decide) ?_
          obtain rfl := Option.some.inj hs
          obtain rfl := Option.some.inj hR
          exact absurd (Prod.mk.inj (Option.some.inj h)).1 (by decide)
      have J219 : ∀ (x3 : Int32) (S : gSt), f_law_j219 nL xs x3 S = some q → AW X RL 12 cL_law 219 [some (.ref b), some (.ref (gad X 0)), some (.ref (gad X 47)), some (.int x3)] [] S := by
        intro x3 S hs
        unfold f_law_j219 at hs
        refine a_aloadn (pc := 219) dL_law_219 rfl rfl ?_
        refine a_aloadn (pc := 220) dL_law_220 rfl rfl ?_
        refine a_iloadn (pc := 221) dL_law_221 rfl rfl ?_
        refine a_iconst (pc := 222) (v := (1 : Int32)) dL_law_222 (by decide) ?_
        refine a_iadd (pc := 223) dL_law_223 ?_
        obtain ⟨hi337, hs⟩ := g_if hs
        refine a_sld (pc := 224) hp hi337 dL_law_224 ?_
        refine a_aloadn (pc := 225) dL_law_225 rfl rfl ?_
        refine a_iloadn (pc := 226) dL_law_226 rfl rfl ?_
        refine a_iconst (pc := 227) (v := (2 : Int32)) dL_law_227 (by decide) ?_
        refine a_iadd (pc := 228) dL_law_228 ?_
        obtain ⟨hi338, hs⟩ := g_if hs
        refine a_sld (pc := 229) hp hi338 dL_law_229 ?_
        obtain ⟨r341, S339, hc340, hs⟩ := g_bind2 hs
        refine a_invVi (pc := 230) (ok_X6_of hc340) gyX6_of vyX6_of mlL_18 sh_0 rfl (As := [.int (xs (x3 + (1 : Int32)).toNatClampNeg), .int (xs (x3 + (2 : Int32)).toNatClampNeg)]) rfl rfl (by decide) (st := []) rfl (Nat.le_of_ble_eq_true rfl) dL_law_230 ?_
        refine a_aloadn (pc := 233) dL_law_233 rfl rfl ?_
        refine a_aloadn (pc := 234) dL_law_234 rfl rfl ?_
        refine a_iloadn (pc := 235) dL_law_235 rfl rfl ?_
        refine a_iconst (pc := 236) (v := (1 : Int32)) dL_law_236 (by decide) ?_
        refine a_iadd (pc := 237) dL_law_237 ?_
        obtain ⟨hi342, hs⟩ := g_if hs
        refine a_sld (pc := 238) hp hi342 dL_law_238 ?_
        refine a_aloadn (pc := 239) dL_law_239 rfl rfl ?_
        refine a_iloadn (pc := 240) dL_law_240 rfl rfl ?_
        refine a_iconst (pc := 241) (v := (2 : Int32)) dL_law_241 (by decide) ?_
        refine a_iadd (pc := 242) dL_law_242 ?_
        obtain ⟨hi343, hs⟩ := g_if hs
        refine a_sld (pc := 243) hp hi343 dL_law_243 ?_
        obtain ⟨r346, S344, hc345, hs⟩ := g_bind2 hs
        refine a_invVi (pc := 244) (ok_X7_of hc345) gyX7_of vyX7_of mlL_22 sh_47 rfl (As := [.int (xs (x3 + (1 : Int32)).toNatClampNeg), .int (xs (x3 + (2 : Int32)).toNatClampNeg)]) rfl rfl (by decide) (st := [.int r341]) rfl (Nat.le_of_ble_eq_true rfl) dL_law_244 ?_
        refine a_icmp_eq (pc := 247) (tgt := 1292) dL_law_247 (by decide) (fun c347 => ?_) (fun c347 => ?_)
        · rw [if_pos c347] at hs
          refine a_iinc (pc := 1292) dL_law_1292 rfl (v := x3 + (6 : Int32)) rfl (Nat.le_of_ble_eq_true rfl) rfl (L' := [some (.ref b), some (.ref (gad X 0)), some (.ref (gad X 47)), some (.int (x3 + (6 : Int32)))]) rfl ?_
          refine a_goto (pc := 1295) (tgt := 18) dL_law_1295 (by decide) ?_
          obtain rfl := Option.some.inj hs
          exact ih _ _ hR
        · rw [if_neg c347] at hs
          refine a_iconst (pc := 250) (v := (0 : Int32)) dL_law_250 (by decide) ?_
          obtain rfl := Option.some.inj hs
          obtain rfl := Option.some.inj hR
          exact absurd (Prod.mk.inj (Option.some.inj h)).1 (by decide)
      have J176 : ∀ (x3 : Int32) (S : gSt), f_law_j176 nL xs x3 S = some q → AW X RL 12 cL_law 176 [some (.ref b), some (.ref (gad X 0)), some (.ref (gad X 47)), some (.int x3)] [] S := by
        intro x3 S hs
        unfold f_law_j176 at hs
        refine a_aloadn (pc := 176) dL_law_176 rfl rfl ?_
        refine a_aloadn (pc := 177) dL_law_177 rfl rfl ?_
        refine a_iloadn (pc := 178) dL_law_178 rfl rfl ?_
        refine a_iconst (pc := 179) (v := (1 : Int32)) dL_law_179 (by decide) ?_
        refine a_iadd (pc := 180) dL_law_180 ?_
        obtain ⟨hi348, hs⟩ := g_if hs
        refine a_sld (pc := 181) hp hi348 dL_law_181 ?_
        refine a_aloadn (pc := 182) dL_law_182 rfl rfl ?_
        refine a_iloadn (pc := 183) dL_law_183 rfl rfl ?_
        refine a_iconst (pc := 184) (v := (2 : Int32)) dL_law_184 (by decide) ?_
        refine a_iadd (pc := 185) dL_law_185 ?_
        obtain ⟨hi349, hs⟩ := g_if hs
        refine a_sld (pc := 186) hp hi349 dL_law_186 ?_
        refine a_aloadn (pc := 187) dL_law_187 rfl rfl ?_
        refine a_iloadn (pc := 188) dL_law_188 rfl rfl ?_
        refine a_iconst (pc := 189) (v := (3 : Int32)) dL_law_189 (by decide) ?_
        refine a_iadd (pc := 190) dL_law_190 ?_
        obtain ⟨hi350, hs⟩ := g_if hs
        refine a_sld (pc := 191) hp hi350 dL_law_191 ?_
        obtain ⟨r353, S351, hc352, hs⟩ := g_bind2 hs
        refine a_invVi (pc := 192) (ok_X6_walker hc352) gyX6_walker vyX6_walker mlL_13 sh_0 rfl (As := [.int (xs (x3 + (1 : Int32)).toNatClampNeg), .int (xs (x3 + (2 : Int32)).toNatClampNeg), .int (xs (x3 + (3 : Int32)).toNatClampNeg)]) rfl rfl (by decide) (st := []) rfl (Nat.le_of_ble_eq_true rfl) dL_law_192 ?_
        refine a_aloadn (pc := 195) dL_law_195 rfl rfl ?_
        refine a_aloadn (pc := 196) dL_law_196 rfl rfl ?_
        refine a_iloadn (pc := 197) dL_law_197 rfl rfl ?_
        refine a_iconst (pc := 198) (v := (1 : Int32)) dL_law_198 (by decide) ?_
        refine a_iadd (pc := 199) dL_law_199 ?_
        obtain ⟨hi354, hs⟩ := g_if hs
        refine a_sld (pc := 200) hp hi354 dL_law_200 ?_
        refine a_aloadn (pc := 201) dL_law_201 rfl rfl ?_
        refine a_iloadn (pc := 202) dL_law_202 rfl rfl ?_
        refine a_iconst (pc := 203) (v := (2 : Int32)) dL_law_203 (by decide) ?_
        refine a_iadd (pc := 204) dL_law_204 ?_
        obtain ⟨hi355, hs⟩ := g_if hs
        refine a_sld (pc := 205) hp hi355 dL_law_205 ?_
        refine a_aloadn (pc := 206) dL_law_206 rfl rfl ?_
        refine a_iloadn (pc := 207) dL_law_207 rfl rfl ?_
        refine a_iconst (pc := 208) (v := (3 : Int32)) dL_law_208 (by decide) ?_
        refine a_iadd (pc := 209) dL_law_209 ?_
        obtain ⟨hi356, hs⟩ := g_if hs
        refine a_sld (pc := 210) hp hi356 dL_law_210 ?_
        obtain ⟨r359, S357, hc358, hs⟩ := g_bind2 hs
        refine a_invVi (pc := 211) (ok_X7_walker hc358) gyX7_walker vyX7_walker mlL_17 sh_47 rfl (As := [.int (xs (x3 + (1 : Int32)).toNatClampNeg), .int (xs (x3 + (2 : Int32)).toNatClampNeg), .int (xs (x3 + (3 : Int32)).toNatClampNeg)]) rfl rfl (by decide) (st := [.int r353]) rfl (Nat.le_of_ble_eq_true rfl) dL_law_211 ?_
        refine a_icmp_eq (pc := 214) (tgt := 1292) dL_law_214 (by decide) (fun c360 => ?_) (fun c360 => ?_)
        · rw [if_pos c360] at hs
          refine a_iinc (pc := 1292) dL_law_1292 rfl (v := x3 + (6 : Int32)) rfl (Nat.le_of_ble_eq_true rfl) rfl (L' := [some (.ref b), some (.ref (gad X 0)), some (.ref (gad X 47)), some (.int (x3 + (6 : Int32)))]) rfl ?_
          refine a_goto (pc := 1295) (tgt := 18) dL_law_1295 (by decide) ?_
          obtain rfl := Option.some.inj hs
          exact ih _ _ hR
        · rw [if_neg c360] at hs
          refine a_iconst (pc := 217) (v := (0 : Int32)) dL_law_217 (by decide) ?_
          obtain rfl := Option.some.inj hs
          obtain rfl := Option.some.inj hR
          exact absurd (Prod.mk.inj (Option.some.inj h)).1 (by decide)
      refine a_iloadn (pc := 18) dL_law_18 rfl rfl ?_
      refine a_aloadn (pc := 19) dL_law_19 rfl rfl ?_
      refine a_slen (pc := 20) hp dL_law_20 ?_
      refine a_bipush (pc := 21) (v := (6 : Int32)) dL_law_21 (by decide) ?_
      refine a_isub (pc := 23) dL_law_23 ?_
      refine a_icmp_gt (pc := 24) (tgt := 1298) dL_law_24 (by decide) (fun c361 => ?_) (fun c361 => ?_)
      · rw [if_pos c361] at hs
        obtain rfl := Option.some.inj hs
        obtain rfl := Option.some.inj hR
        refine a_mask [false, false, false, false] (L' := [none, none, none, none]) rfl ?_
        exact E18  _ h
      · rw [if_neg c361] at hs
        refine a_aloadn (pc := 27) dL_law_27 rfl rfl ?_
        refine a_iloadn (pc := 28) dL_law_28 rfl rfl ?_
        obtain ⟨hi362, hs⟩ := g_if hs
        refine a_sld (pc := 29) hp hi362 dL_law_29 ?_
        refine a_bipush (pc := 30) (v := (31 : Int32)) dL_law_30 (by decide) ?_
        refine a_iand (pc := 32) dL_law_32 ?_
        by_cases c363 : ((xs x3.toNatClampNeg) &&& (31 : Int32)).toInt < 0 ∨ 31 < ((xs x3.toNatClampNeg) &&& (31 : Int32)).toInt
        · rw [if_pos c363] at hs
          refine a_tabOut (pc := 33) (tgt := 1292) dL_law_33 c363 (by decide) ?_
          refine a_iinc (pc := 1292) dL_law_1292 rfl (v := x3 + (6 : Int32)) rfl (Nat.le_of_ble_eq_true rfl) rfl (L' := [some (.ref b), some (.ref (gad X 0)), some (.ref (gad X 47)), some (.int (x3 + (6 : Int32)))]) rfl ?_
          refine a_goto (pc := 1295) (tgt := 18) dL_law_1295 (by decide) ?_
          obtain rfl := Option.some.inj hs
          exact ih _ _ hR
        rw [if_neg c363] at hs
        by_cases c364 : ((xs x3.toNatClampNeg) &&& (31 : Int32)) = (0 : Int32)
        · rw [if_pos c364] at hs
          refine a_nmI c364 ?_
          refine a_tabIn (pc := 33) (off := 143) (tgt := 176) dL_law_33 (by decide) (by decide) (by decide) (by decide) ?_
          exact J176 _ _ hs
        rw [if_neg c364] at hs
        by_cases c365 : ((xs x3.toNatClampNeg) &&& (31 : Int32)) = (1 : Int32)
        · rw [if_pos c365] at hs
          refine a_nmI c365 ?_
          refine a_tabIn (pc := 33) (off := 186) (tgt := 219) dL_law_33 (by decide) (by decide) (by decide) (by decide) ?_
          exact J219 _ _ hs
        rw [if_neg c365] at hs
        by_cases c366 : ((xs x3.toNatClampNeg) &&& (31 : Int32)) = (2 : Int32)
        · rw [if_pos c366] at hs
          refine a_nmI c366 ?_
          refine a_tabIn (pc := 33) (off := 219) (tgt := 252) dL_law_33 (by decide) (by decide) (by decide) (by decide) ?_
          exact J252 _ _ hs
        rw [if_neg c366] at hs
        by_cases c367 : ((xs x3.toNatClampNeg) &&& (31 : Int32)) = (3 : Int32)
        · rw [if_pos c367] at hs
          refine a_nmI c367 ?_
          refine a_tabIn (pc := 33) (off := 252) (tgt := 285) dL_law_33 (by decide) (by decide) (by decide) (by decide) ?_
          exact J285 _ _ hs
        rw [if_neg c367] at hs
        by_cases c368 : ((xs x3.toNatClampNeg) &&& (31 : Int32)) = (4 : Int32)
        · rw [if_pos c368] at hs
          refine a_nmI c368 ?_
          refine a_tabIn (pc := 33) (off := 285) (tgt := 318) dL_law_33 (by decide) (by decide) (by decide) (by decide) ?_
          exact J318 _ _ hs
        rw [if_neg c368] at hs
        by_cases c369 : ((xs x3.toNatClampNeg) &&& (31 : Int32)) = (5 : Int32)
        · rw [if_pos c369] at hs
          refine a_nmI c369 ?_
          refine a_tabIn (pc := 33) (off := 318) (tgt := 351) dL_law_33 (by decide) (by decide) (by decide) (by decide) ?_
          exact J351 _ _ hs
        rw [if_neg c369] at hs
        by_cases c370 : ((xs x3.toNatClampNeg) &&& (31 : Int32)) = (6 : Int32)
        · rw [if_pos c370] at hs
          refine a_nmI c370 ?_
          refine a_tabIn (pc := 33) (off := 341) (tgt := 374) dL_law_33 (by decide) (by decide) (by decide) (by decide) ?_
          exact J374 _ _ hs
        rw [if_neg c370] at hs
        by_cases c371 : ((xs x3.toNatClampNeg) &&& (31 : Int32)) = (7 : Int32)
        · rw [if_pos c371] at hs
          refine a_nmI c371 ?_
          refine a_tabIn (pc := 33) (off := 364) (tgt := 397) dL_law_33 (by decide) (by decide) (by decide) (by decide) ?_
          exact J397 _ _ hs
        rw [if_neg c371] at hs
        by_cases c372 : ((xs x3.toNatClampNeg) &&& (31 : Int32)) = (8 : Int32)
        · rw [if_pos c372] at hs
          refine a_nmI c372 ?_
          refine a_tabIn (pc := 33) (off := 377) (tgt := 410) dL_law_33 (by decide) (by decide) (by decide) (by decide) ?_
          exact J410 _ _ hs
        rw [if_neg c372] at hs
        by_cases c373 : ((xs x3.toNatClampNeg) &&& (31 : Int32)) = (9 : Int32)
        · rw [if_pos c373] at hs
          refine a_nmI c373 ?_
          refine a_tabIn (pc := 33) (off := 400) (tgt := 433) dL_law_33 (by decide) (by decide) (by decide) (by decide) ?_
          exact J433 _ _ hs
        rw [if_neg c373] at hs
        by_cases c374 : ((xs x3.toNatClampNeg) &&& (31 : Int32)) = (10 : Int32)
        · rw [if_pos c374] at hs
          refine a_nmI c374 ?_
          refine a_tabIn (pc := 33) (off := 433) (tgt := 466) dL_law_33 (by decide) (by decide) (by decide) (by decide) ?_
          exact J466 _ _ hs
        rw [if_neg c374] at hs
        by_cases c375 : ((xs x3.toNatClampNeg) &&& (31 : Int32)) = (11 : Int32)
        · rw [if_pos c375] at hs
          refine a_nmI c375 ?_
          refine a_tabIn (pc := 33) (off := 456) (tgt := 489) dL_law_33 (by decide) (by decide) (by decide) (by decide) ?_
          exact J489 _ _ hs
        rw [if_neg c375] at hs
        by_cases c376 : ((xs x3.toNatClampNeg) &&& (31 : Int32)) = (12 : Int32)
        · rw [if_pos c376] at hs
          refine a_nmI c376 ?_
          refine a_tabIn (pc := 33) (off := 479) (tgt := 512) dL_law_33 (by decide) (by decide) (by decide) (by decide) ?_
          exact J512 _ _ hs
        rw [if_neg c376] at hs
        by_cases c377 : ((xs x3.toNatClampNeg) &&& (31 : Int32)) = (13 : Int32)
        · rw [if_pos c377] at hs
          refine a_nmI c377 ?_
          refine a_tabIn (pc := 33) (off := 502) (tgt := 535) dL_law_33 (by decide) (by decide) (by decide) (by decide) ?_
          exact J535 _ _ hs
        rw [if_neg c377] at hs
        by_cases c378 : ((xs x3.toNatClampNeg) &&& (31 : Int32)) = (14 : Int32)
        · rw [if_pos c378] at hs
          refine a_nmI c378 ?_
          refine a_tabIn (pc := 33) (off := 515) (tgt := 548) dL_law_33 (by decide) (by decide) (by decide) (by decide) ?_
          exact J548 _ _ hs
        rw [if_neg c378] at hs
        by_cases c379 : ((xs x3.toNatClampNeg) &&& (31 : Int32)) = (15 : Int32)
        · rw [if_pos c379] at hs
          refine a_nmI c379 ?_
          refine a_tabIn (pc := 33) (off := 538) (tgt := 571) dL_law_33 (by decide) (by decide) (by decide) (by decide) ?_
          exact J571 _ _ hs
        rw [if_neg c379] at hs
        by_cases c380 : ((xs x3.toNatClampNeg) &&& (31 : Int32)) = (16 : Int32)
        · rw [if_pos c380] at hs
          refine a_nmI c380 ?_
          refine a_tabIn (pc := 33) (off := 571) (tgt := 604) dL_law_33 (by decide) (by decide) (by decide) (by decide) ?_
          exact J604 _ _ hs
        rw [if_neg c380] at hs
        by_cases c381 : ((xs x3.toNatClampNeg) &&& (31 : Int32)) = (17 : Int32)
        · rw [if_pos c381] at hs
          refine a_nmI c381 ?_
          refine a_tabIn (pc := 33) (off := 604) (tgt := 637) dL_law_33 (by decide) (by decide) (by decide) (by decide) ?_
          exact J637 _ _ hs
        rw [if_neg c381] at hs
        by_cases c382 : ((xs x3.toNatClampNeg) &&& (31 : Int32)) = (18 : Int32)
        · rw [if_pos c382] at hs
          refine a_nmI c382 ?_
          refine a_tabIn (pc := 33) (off := 637) (tgt := 670) dL_law_33 (by decide) (by decide) (by decide) (by decide) ?_
          exact J670 _ _ hs
        rw [if_neg c382] at hs
        by_cases c383 : ((xs x3.toNatClampNeg) &&& (31 : Int32)) = (19 : Int32)
        · rw [if_pos c383] at hs
          refine a_nmI c383 ?_
          refine a_tabIn (pc := 33) (off := 660) (tgt := 693) dL_law_33 (by decide) (by decide) (by decide) (by decide) ?_
          exact J693 _ _ hs
        rw [if_neg c383] at hs
        by_cases c384 : ((xs x3.toNatClampNeg) &&& (31 : Int32)) = (20 : Int32)
        · rw [if_pos c384] at hs
          refine a_nmI c384 ?_
          refine a_tabIn (pc := 33) (off := 703) (tgt := 736) dL_law_33 (by decide) (by decide) (by decide) (by decide) ?_
          exact J736 _ _ hs
        rw [if_neg c384] at hs
        by_cases c385 : ((xs x3.toNatClampNeg) &&& (31 : Int32)) = (21 : Int32)
        · rw [if_pos c385] at hs
          refine a_nmI c385 ?_
          refine a_tabIn (pc := 33) (off := 756) (tgt := 789) dL_law_33 (by decide) (by decide) (by decide) (by decide) ?_
          exact J789 _ _ hs
        rw [if_neg c385] at hs
        by_cases c386 : ((xs x3.toNatClampNeg) &&& (31 : Int32)) = (22 : Int32)
        · rw [if_pos c386] at hs
          refine a_nmI c386 ?_
          refine a_tabIn (pc := 33) (off := 799) (tgt := 832) dL_law_33 (by decide) (by decide) (by decide) (by decide) ?_
          exact J832 _ _ hs
        rw [if_neg c386] at hs
        by_cases c387 : ((xs x3.toNatClampNeg) &&& (31 : Int32)) = (23 : Int32)
        · rw [if_pos c387] at hs
          refine a_nmI c387 ?_
          refine a_tabIn (pc := 33) (off := 852) (tgt := 885) dL_law_33 (by decide) (by decide) (by decide) (by decide) ?_
          exact J885 _ _ hs
        rw [if_neg c387] at hs
        by_cases c388 : ((xs x3.toNatClampNeg) &&& (31 : Int32)) = (24 : Int32)
        · rw [if_pos c388] at hs
          refine a_nmI c388 ?_
          refine a_tabIn (pc := 33) (off := 865) (tgt := 898) dL_law_33 (by decide) (by decide) (by decide) (by decide) ?_
          exact J898 _ _ hs
        rw [if_neg c388] at hs
        by_cases c389 : ((xs x3.toNatClampNeg) &&& (31 : Int32)) = (25 : Int32)
        · rw [if_pos c389] at hs
          refine a_nmI c389 ?_
          refine a_tabIn (pc := 33) (off := 878) (tgt := 911) dL_law_33 (by decide) (by decide) (by decide) (by decide) ?_
          exact J911 _ _ hs
        rw [if_neg c389] at hs
        by_cases c390 : ((xs x3.toNatClampNeg) &&& (31 : Int32)) = (26 : Int32)
        · rw [if_pos c390] at hs
          refine a_nmI c390 ?_
          refine a_tabIn (pc := 33) (off := 931) (tgt := 964) dL_law_33 (by decide) (by decide) (by decide) (by decide) ?_
          exact J964 _ _ hs
        rw [if_neg c390] at hs
        by_cases c391 : ((xs x3.toNatClampNeg) &&& (31 : Int32)) = (27 : Int32)
        · rw [if_pos c391] at hs
          refine a_nmI c391 ?_
          refine a_tabIn (pc := 33) (off := 984) (tgt := 1017) dL_law_33 (by decide) (by decide) (by decide) (by decide) ?_
          exact J1017 _ _ hs
        rw [if_neg c391] at hs
        by_cases c392 : ((xs x3.toNatClampNeg) &&& (31 : Int32)) = (28 : Int32)
        · rw [if_pos c392] at hs
          refine a_nmI c392 ?_
          refine a_tabIn (pc := 33) (off := 1047) (tgt := 1080) dL_law_33 (by decide) (by decide) (by decide) (by decide) ?_
          exact J1080 _ _ hs
        rw [if_neg c392] at hs
        by_cases c393 : ((xs x3.toNatClampNeg) &&& (31 : Int32)) = (29 : Int32)
        · rw [if_pos c393] at hs
          refine a_nmI c393 ?_
          refine a_tabIn (pc := 33) (off := 1090) (tgt := 1123) dL_law_33 (by decide) (by decide) (by decide) (by decide) ?_
          exact J1123 _ _ hs
        rw [if_neg c393] at hs
        by_cases c394 : ((xs x3.toNatClampNeg) &&& (31 : Int32)) = (30 : Int32)
        · rw [if_pos c394] at hs
          refine a_nmI c394 ?_
          refine a_tabIn (pc := 33) (off := 1113) (tgt := 1146) dL_law_33 (by decide) (by decide) (by decide) (by decide) ?_
          exact J1146 _ _ hs
        rw [if_neg c394] at hs
        by_cases c395 : ((xs x3.toNatClampNeg) &&& (31 : Int32)) = (31 : Int32)
        · rw [if_pos c395] at hs
          refine a_nmI c395 ?_
          refine a_tabIn (pc := 33) (off := 1196) (tgt := 1229) dL_law_33 (by decide) (by decide) (by decide) (by decide) ?_
          exact J1229 _ _ hs
        rw [if_neg c395] at hs
        cases hs
  exact lp _ _ _ hR396
