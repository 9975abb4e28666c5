theorem dL_below_0 : decode cL_below 0 = .ok (.iload_n 0, 1) := by decide +kernel
theorem dL_below_1 : decode cL_below 1 = .ok (.ldc 7, 2) := by decide +kernel
theorem dL_below_3 : decode cL_below 3 = .ok (.iand, 1) := by decide +kernel
theorem dL_below_4 : decode cL_below 4 = .ok (.iload_n 1, 1) := by decide +kernel
theorem dL_below_5 : decode cL_below 5 = .ok (.irem, 1) := by decide +kernel
theorem dL_below_6 : decode cL_below 6 = .ok (.ireturn, 1) := by decide +kernel
theorem dL_cell_0 : decode cL_cell 0 = .ok (.iload_n 1, 1) := by decide +kernel
theorem dL_cell_1 : decode cL_cell 1 = .ok (.aload_n 0, 1) := by decide +kernel
theorem dL_cell_2 : decode cL_cell 2 = .ok (.arraylength, 1) := by decide +kernel
theorem dL_cell_3 : decode cL_cell 3 = .ok (.if_icmp .ge 9, 3) := by decide +kernel
theorem dL_cell_6 : decode cL_cell 6 = .ok (.aload_n 0, 1) := by decide +kernel
theorem dL_cell_7 : decode cL_cell 7 = .ok (.iload_n 1, 1) := by decide +kernel
theorem dL_cell_8 : decode cL_cell 8 = .ok (.iaload, 1) := by decide +kernel
theorem dL_cell_9 : decode cL_cell 9 = .ok (.goto 9, 3) := by decide +kernel
theorem dL_cell_12 : decode cL_cell 12 = .ok (.ldc 8, 2) := by decide +kernel
theorem dL_cell_14 : decode cL_cell 14 = .ok (.iload_n 1, 1) := by decide +kernel
theorem dL_cell_15 : decode cL_cell 15 = .ok (.iconst 3, 1) := by decide +kernel
theorem dL_cell_16 : decode cL_cell 16 = .ok (.iadd, 1) := by decide +kernel
theorem dL_cell_17 : decode cL_cell 17 = .ok (.imul, 1) := by decide +kernel
theorem dL_cell_18 : decode cL_cell 18 = .ok (.ireturn, 1) := by decide +kernel
theorem dL_mix_0 : decode cL_mix 0 = .ok (.iload_n 0, 1) := by decide +kernel
theorem dL_mix_1 : decode cL_mix 1 = .ok (.ldc 9, 2) := by decide +kernel
theorem dL_mix_3 : decode cL_mix 3 = .ok (.imul, 1) := by decide +kernel
theorem dL_mix_4 : decode cL_mix 4 = .ok (.istore_n 1, 1) := by decide +kernel
theorem dL_mix_5 : decode cL_mix 5 = .ok (.iload_n 1, 1) := by decide +kernel
theorem dL_mix_6 : decode cL_mix 6 = .ok (.iload_n 1, 1) := by decide +kernel
theorem dL_mix_7 : decode cL_mix 7 = .ok (.bipush 15, 2) := by decide +kernel
theorem dL_mix_9 : decode cL_mix 9 = .ok (.iushr, 1) := by decide +kernel
theorem dL_mix_10 : decode cL_mix 10 = .ok (.ixor, 1) := by decide +kernel
theorem dL_mix_11 : decode cL_mix 11 = .ok (.istore_n 1, 1) := by decide +kernel
theorem dL_mix_12 : decode cL_mix 12 = .ok (.iload_n 1, 1) := by decide +kernel
theorem dL_mix_13 : decode cL_mix 13 = .ok (.ldc 10, 2) := by decide +kernel
theorem dL_mix_15 : decode cL_mix 15 = .ok (.imul, 1) := by decide +kernel
theorem dL_mix_16 : decode cL_mix 16 = .ok (.istore_n 1, 1) := by decide +kernel
theorem dL_mix_17 : decode cL_mix 17 = .ok (.iload_n 1, 1) := by decide +kernel
theorem dL_mix_18 : decode cL_mix 18 = .ok (.iload_n 1, 1) := by decide +kernel
theorem dL_mix_19 : decode cL_mix 19 = .ok (.bipush 13, 2) := by decide +kernel
theorem dL_mix_21 : decode cL_mix 21 = .ok (.iushr, 1) := by decide +kernel
theorem dL_mix_22 : decode cL_mix 22 = .ok (.ixor, 1) := by decide +kernel
theorem dL_mix_23 : decode cL_mix 23 = .ok (.ireturn, 1) := by decide +kernel
theorem dL_told_0 : decode cL_told 0 = .ok (.iload_n 1, 1) := by decide +kernel
theorem dL_told_1 : decode cL_told 1 = .ok (.tableswitch 500 0 36 #[163, 187, 193, 199, 206, 212, 219, 226, 233, 240, 247, 265, 283, 290, 297, 306, 315, 322, 331, 338, 347, 354, 369, 383, 389, 395, 412, 421, 436, 443, 450, 456, 463, 469, 475, 480, 495], 163) := by decide +kernel
theorem dL_told_164 : decode cL_told 164 = .ok (.aload_n 0, 1) := by decide +kernel
theorem dL_told_165 : decode cL_told 165 = .ok (.iload_n 2, 1) := by decide +kernel
theorem dL_told_166 : decode cL_told 166 = .ok (.iload_n 3, 1) := by decide +kernel
theorem dL_told_167 : decode cL_told 167 = .ok (.iload 4, 2) := by decide +kernel
theorem dL_told_169 : decode cL_told 169 = .ok (.iconst 2, 1) := by decide +kernel
theorem dL_told_170 : decode cL_told 170 = .ok (.idiv, 1) := by decide +kernel
theorem dL_told_171 : decode cL_told 171 = .ok (.iload 4, 2) := by decide +kernel
theorem dL_told_173 : decode cL_told 173 = .ok (.iconst 2, 1) := by decide +kernel
theorem dL_told_174 : decode cL_told 174 = .ok (.irem, 1) := by decide +kernel
theorem dL_told_175 : decode cL_told 175 = .ok (.iconst 1, 1) := by decide +kernel
theorem dL_told_176 : decode cL_told 176 = .ok (.if_icmp .ne 7, 3) := by decide +kernel
theorem dL_told_179 : decode cL_told 179 = .ok (.iconst 1, 1) := by decide +kernel
theorem dL_told_180 : decode cL_told 180 = .ok (.goto 4, 3) := by decide +kernel
theorem dL_told_183 : decode cL_told 183 = .ok (.iconst 0, 1) := by decide +kernel
theorem dL_told_184 : decode cL_told 184 = .ok (.invokevirtual 11, 3) := by decide +kernel
theorem dL_told_187 : decode cL_told 187 = .ok (.ireturn, 1) := by decide +kernel
theorem dL_told_188 : decode cL_told 188 = .ok (.aload_n 0, 1) := by decide +kernel
theorem dL_told_189 : decode cL_told 189 = .ok (.iload_n 2, 1) := by decide +kernel
theorem dL_told_190 : decode cL_told 190 = .ok (.invokevirtual 17, 3) := by decide +kernel
theorem dL_told_193 : decode cL_told 193 = .ok (.ireturn, 1) := by decide +kernel
theorem dL_told_194 : decode cL_told 194 = .ok (.aload_n 0, 1) := by decide +kernel
theorem dL_told_195 : decode cL_told 195 = .ok (.iload_n 2, 1) := by decide +kernel
theorem dL_told_196 : decode cL_told 196 = .ok (.invokevirtual 21, 3) := by decide +kernel
theorem dL_told_199 : decode cL_told 199 = .ok (.ireturn, 1) := by decide +kernel
theorem dL_told_200 : decode cL_told 200 = .ok (.aload_n 0, 1) := by decide +kernel
theorem dL_told_201 : decode cL_told 201 = .ok (.iload_n 2, 1) := by decide +kernel
theorem dL_told_202 : decode cL_told 202 = .ok (.iload_n 3, 1) := by decide +kernel
theorem dL_told_203 : decode cL_told 203 = .ok (.invokevirtual 24, 3) := by decide +kernel
theorem dL_told_206 : decode cL_told 206 = .ok (.ireturn, 1) := by decide +kernel
theorem dL_told_207 : decode cL_told 207 = .ok (.aload_n 0, 1) := by decide +kernel
theorem dL_told_208 : decode cL_told 208 = .ok (.iload_n 2, 1) := by decide +kernel
theorem dL_told_209 : decode cL_told 209 = .ok (.invokevirtual 28, 3) := by decide +kernel
theorem dL_told_212 : decode cL_told 212 = .ok (.ireturn, 1) := by decide +kernel
theorem dL_told_213 : decode cL_told 213 = .ok (.aload_n 0, 1) := by decide +kernel
theorem dL_told_214 : decode cL_told 214 = .ok (.iload_n 2, 1) := by decide +kernel
theorem dL_told_215 : decode cL_told 215 = .ok (.iload_n 3, 1) := by decide +kernel
theorem dL_told_216 : decode cL_told 216 = .ok (.invokevirtual 31, 3) := by decide +kernel
theorem dL_told_219 : decode cL_told 219 = .ok (.ireturn, 1) := by decide +kernel
theorem dL_told_220 : decode cL_told 220 = .ok (.aload_n 0, 1) := by decide +kernel
theorem dL_told_221 : decode cL_told 221 = .ok (.iload_n 2, 1) := by decide +kernel
theorem dL_told_222 : decode cL_told 222 = .ok (.iload_n 3, 1) := by decide +kernel
theorem dL_told_223 : decode cL_told 223 = .ok (.invokevirtual 34, 3) := by decide +kernel
theorem dL_told_226 : decode cL_told 226 = .ok (.ireturn, 1) := by decide +kernel
theorem dL_told_227 : decode cL_told 227 = .ok (.aload_n 0, 1) := by decide +kernel
theorem dL_told_228 : decode cL_told 228 = .ok (.iload_n 2, 1) := by decide +kernel
theorem dL_told_229 : decode cL_told 229 = .ok (.iload_n 3, 1) := by decide +kernel
theorem dL_told_230 : decode cL_told 230 = .ok (.invokevirtual 37, 3) := by decide +kernel
theorem dL_told_233 : decode cL_told 233 = .ok (.ireturn, 1) := by decide +kernel
theorem dL_told_234 : decode cL_told 234 = .ok (.aload_n 0, 1) := by decide +kernel
theorem dL_told_235 : decode cL_told 235 = .ok (.iload_n 2, 1) := by decide +kernel
theorem dL_told_236 : decode cL_told 236 = .ok (.iload_n 3, 1) := by decide +kernel
theorem dL_told_237 : decode cL_told 237 = .ok (.invokevirtual 40, 3) := by decide +kernel
theorem dL_told_240 : decode cL_told 240 = .ok (.ireturn, 1) := by decide +kernel
theorem dL_told_241 : decode cL_told 241 = .ok (.aload_n 0, 1) := by decide +kernel
theorem dL_told_242 : decode cL_told 242 = .ok (.iload_n 2, 1) := by decide +kernel
theorem dL_told_243 : decode cL_told 243 = .ok (.iload_n 3, 1) := by decide +kernel
theorem dL_told_244 : decode cL_told 244 = .ok (.invokevirtual 43, 3) := by decide +kernel
theorem dL_told_247 : decode cL_told 247 = .ok (.ireturn, 1) := by decide +kernel
theorem dL_told_248 : decode cL_told 248 = .ok (.aload_n 0, 1) := by decide +kernel
theorem dL_told_249 : decode cL_told 249 = .ok (.iload_n 2, 1) := by decide +kernel
theorem dL_told_250 : decode cL_told 250 = .ok (.iload_n 3, 1) := by decide +kernel
theorem dL_told_251 : decode cL_told 251 = .ok (.iload 4, 2) := by decide +kernel
theorem dL_told_253 : decode cL_told 253 = .ok (.iconst 1, 1) := by decide +kernel
theorem dL_told_254 : decode cL_told 254 = .ok (.if_icmp .ne 7, 3) := by decide +kernel
theorem dL_told_257 : decode cL_told 257 = .ok (.iconst 1, 1) := by decide +kernel
theorem dL_told_258 : decode cL_told 258 = .ok (.goto 4, 3) := by decide +kernel
theorem dL_told_261 : decode cL_told 261 = .ok (.iconst 0, 1) := by decide +kernel
theorem dL_told_262 : decode cL_told 262 = .ok (.invokevirtual 46, 3) := by decide +kernel
theorem dL_told_265 : decode cL_told 265 = .ok (.ireturn, 1) := by decide +kernel
theorem dL_told_266 : decode cL_told 266 = .ok (.aload_n 0, 1) := by decide +kernel
theorem dL_told_267 : decode cL_told 267 = .ok (.iload_n 2, 1) := by decide +kernel
theorem dL_told_268 : decode cL_told 268 = .ok (.iload_n 3, 1) := by decide +kernel
theorem dL_told_269 : decode cL_told 269 = .ok (.iload 4, 2) := by decide +kernel
theorem dL_told_271 : decode cL_told 271 = .ok (.iconst 1, 1) := by decide +kernel
theorem dL_told_272 : decode cL_told 272 = .ok (.if_icmp .ne 7, 3) := by decide +kernel
theorem dL_told_275 : decode cL_told 275 = .ok (.iconst 1, 1) := by decide +kernel
theorem dL_told_276 : decode cL_told 276 = .ok (.goto 4, 3) := by decide +kernel
theorem dL_told_279 : decode cL_told 279 = .ok (.iconst 0, 1) := by decide +kernel
theorem dL_told_280 : decode cL_told 280 = .ok (.invokevirtual 50, 3) := by decide +kernel
theorem dL_told_283 : decode cL_told 283 = .ok (.ireturn, 1) := by decide +kernel
theorem dL_told_284 : decode cL_told 284 = .ok (.aload_n 0, 1) := by decide +kernel
theorem dL_told_285 : decode cL_told 285 = .ok (.iload_n 2, 1) := by decide +kernel
theorem dL_told_286 : decode cL_told 286 = .ok (.iload_n 3, 1) := by decide +kernel
theorem dL_told_287 : decode cL_told 287 = .ok (.invokevirtual 53, 3) := by decide +kernel
theorem dL_told_290 : decode cL_told 290 = .ok (.ireturn, 1) := by decide +kernel
theorem dL_told_291 : decode cL_told 291 = .ok (.aload_n 0, 1) := by decide +kernel
theorem dL_told_292 : decode cL_told 292 = .ok (.iload_n 2, 1) := by decide +kernel
theorem dL_told_293 : decode cL_told 293 = .ok (.iload_n 3, 1) := by decide +kernel
theorem dL_told_294 : decode cL_told 294 = .ok (.invokevirtual 56, 3) := by decide +kernel
theorem dL_told_297 : decode cL_told 297 = .ok (.ireturn, 1) := by decide +kernel
theorem dL_told_298 : decode cL_told 298 = .ok (.aload_n 0, 1) := by decide +kernel
theorem dL_told_299 : decode cL_told 299 = .ok (.iload_n 2, 1) := by decide +kernel
theorem dL_told_300 : decode cL_told 300 = .ok (.iload_n 3, 1) := by decide +kernel
theorem dL_told_301 : decode cL_told 301 = .ok (.iload 4, 2) := by decide +kernel
theorem dL_told_303 : decode cL_told 303 = .ok (.invokevirtual 59, 3) := by decide +kernel
theorem dL_told_306 : decode cL_told 306 = .ok (.ireturn, 1) := by decide +kernel
theorem dL_told_307 : decode cL_told 307 = .ok (.aload_n 0, 1) := by decide +kernel
theorem dL_told_308 : decode cL_told 308 = .ok (.iload_n 2, 1) := by decide +kernel
theorem dL_told_309 : decode cL_told 309 = .ok (.iload_n 3, 1) := by decide +kernel
theorem dL_told_310 : decode cL_told 310 = .ok (.iload 4, 2) := by decide +kernel
theorem dL_told_312 : decode cL_told 312 = .ok (.invokevirtual 63, 3) := by decide +kernel
theorem dL_told_315 : decode cL_told 315 = .ok (.ireturn, 1) := by decide +kernel
theorem dL_told_316 : decode cL_told 316 = .ok (.aload_n 0, 1) := by decide +kernel
theorem dL_told_317 : decode cL_told 317 = .ok (.iload_n 2, 1) := by decide +kernel
theorem dL_told_318 : decode cL_told 318 = .ok (.iload_n 3, 1) := by decide +kernel
theorem dL_told_319 : decode cL_told 319 = .ok (.invokevirtual 66, 3) := by decide +kernel
theorem dL_told_322 : decode cL_told 322 = .ok (.ireturn, 1) := by decide +kernel
theorem dL_told_323 : decode cL_told 323 = .ok (.aload_n 0, 1) := by decide +kernel
theorem dL_told_324 : decode cL_told 324 = .ok (.iload_n 2, 1) := by decide +kernel
theorem dL_told_325 : decode cL_told 325 = .ok (.iload_n 3, 1) := by decide +kernel
theorem dL_told_326 : decode cL_told 326 = .ok (.iload 4, 2) := by decide +kernel
theorem dL_told_328 : decode cL_told 328 = .ok (.invokevirtual 69, 3) := by decide +kernel
theorem dL_told_331 : decode cL_told 331 = .ok (.ireturn, 1) := by decide +kernel
theorem dL_told_332 : decode cL_told 332 = .ok (.aload_n 0, 1) := by decide +kernel
theorem dL_told_333 : decode cL_told 333 = .ok (.iload_n 2, 1) := by decide +kernel
theorem dL_told_334 : decode cL_told 334 = .ok (.iload_n 3, 1) := by decide +kernel
theorem dL_told_335 : decode cL_told 335 = .ok (.invokevirtual 72, 3) := by decide +kernel
theorem dL_told_338 : decode cL_told 338 = .ok (.ireturn, 1) := by decide +kernel
theorem dL_told_339 : decode cL_told 339 = .ok (.aload_n 0, 1) := by decide +kernel
theorem dL_told_340 : decode cL_told 340 = .ok (.iload_n 2, 1) := by decide +kernel
theorem dL_told_341 : decode cL_told 341 = .ok (.iload_n 3, 1) := by decide +kernel
theorem dL_told_342 : decode cL_told 342 = .ok (.iload 4, 2) := by decide +kernel
theorem dL_told_344 : decode cL_told 344 = .ok (.invokevirtual 75, 3) := by decide +kernel
theorem dL_told_347 : decode cL_told 347 = .ok (.ireturn, 1) := by decide +kernel
theorem dL_told_348 : decode cL_told 348 = .ok (.aload_n 0, 1) := by decide +kernel
theorem dL_told_349 : decode cL_told 349 = .ok (.iload_n 2, 1) := by decide +kernel
theorem dL_told_350 : decode cL_told 350 = .ok (.iload_n 3, 1) := by decide +kernel
theorem dL_told_351 : decode cL_told 351 = .ok (.invokevirtual 78, 3) := by decide +kernel
theorem dL_told_354 : decode cL_told 354 = .ok (.ireturn, 1) := by decide +kernel
theorem dL_told_355 : decode cL_told 355 = .ok (.aload_n 0, 1) := by decide +kernel
theorem dL_told_356 : decode cL_told 356 = .ok (.iload_n 2, 1) := by decide +kernel
theorem dL_told_357 : decode cL_told 357 = .ok (.iload_n 3, 1) := by decide +kernel
theorem dL_told_358 : decode cL_told 358 = .ok (.invokevirtual 81, 3) := by decide +kernel
theorem dL_told_361 : decode cL_told 361 = .ok (.ifCond .eq 7, 3) := by decide +kernel
theorem dL_told_364 : decode cL_told 364 = .ok (.iconst 1, 1) := by decide +kernel
theorem dL_told_365 : decode cL_told 365 = .ok (.goto 4, 3) := by decide +kernel
theorem dL_told_368 : decode cL_told 368 = .ok (.iconst 0, 1) := by decide +kernel
theorem dL_told_369 : decode cL_told 369 = .ok (.ireturn, 1) := by decide +kernel
theorem dL_told_370 : decode cL_told 370 = .ok (.aload_n 0, 1) := by decide +kernel
theorem dL_told_371 : decode cL_told 371 = .ok (.iload_n 2, 1) := by decide +kernel
theorem dL_told_372 : decode cL_told 372 = .ok (.invokevirtual 85, 3) := by decide +kernel
theorem dL_told_375 : decode cL_told 375 = .ok (.ifCond .eq 7, 3) := by decide +kernel
theorem dL_told_378 : decode cL_told 378 = .ok (.iconst 1, 1) := by decide +kernel
theorem dL_told_379 : decode cL_told 379 = .ok (.goto 4, 3) := by decide +kernel
theorem dL_told_382 : decode cL_told 382 = .ok (.iconst 0, 1) := by decide +kernel
theorem dL_told_383 : decode cL_told 383 = .ok (.ireturn, 1) := by decide +kernel
theorem dL_told_384 : decode cL_told 384 = .ok (.aload_n 0, 1) := by decide +kernel
theorem dL_told_385 : decode cL_told 385 = .ok (.iload_n 2, 1) := by decide +kernel
theorem dL_told_386 : decode cL_told 386 = .ok (.invokevirtual 89, 3) := by decide +kernel
theorem dL_told_389 : decode cL_told 389 = .ok (.ireturn, 1) := by decide +kernel
theorem dL_told_390 : decode cL_told 390 = .ok (.aload_n 0, 1) := by decide +kernel
theorem dL_told_391 : decode cL_told 391 = .ok (.iload_n 2, 1) := by decide +kernel
theorem dL_told_392 : decode cL_told 392 = .ok (.invokevirtual 92, 3) := by decide +kernel
theorem dL_told_395 : decode cL_told 395 = .ok (.ireturn, 1) := by decide +kernel
theorem dL_told_396 : decode cL_told 396 = .ok (.aload_n 0, 1) := by decide +kernel
theorem dL_told_397 : decode cL_told 397 = .ok (.iload_n 2, 1) := by decide +kernel
theorem dL_told_398 : decode cL_told 398 = .ok (.iload_n 3, 1) := by decide +kernel
theorem dL_told_399 : decode cL_told 399 = .ok (.iload 4, 2) := by decide +kernel
theorem dL_told_401 : decode cL_told 401 = .ok (.invokevirtual 95, 3) := by decide +kernel
theorem dL_told_404 : decode cL_told 404 = .ok (.ifCond .eq 7, 3) := by decide +kernel
theorem dL_told_407 : decode cL_told 407 = .ok (.iconst 1, 1) := by decide +kernel
theorem dL_told_408 : decode cL_told 408 = .ok (.goto 4, 3) := by decide +kernel
theorem dL_told_411 : decode cL_told 411 = .ok (.iconst 0, 1) := by decide +kernel
theorem dL_told_412 : decode cL_told 412 = .ok (.ireturn, 1) := by decide +kernel
theorem dL_told_413 : decode cL_told 413 = .ok (.aload_n 0, 1) := by decide +kernel
theorem dL_told_414 : decode cL_told 414 = .ok (.iload_n 2, 1) := by decide +kernel
theorem dL_told_415 : decode cL_told 415 = .ok (.iload_n 3, 1) := by decide +kernel
theorem dL_told_416 : decode cL_told 416 = .ok (.iload 4, 2) := by decide +kernel
theorem dL_told_418 : decode cL_told 418 = .ok (.invokevirtual 99, 3) := by decide +kernel
theorem dL_told_421 : decode cL_told 421 = .ok (.ireturn, 1) := by decide +kernel
theorem dL_told_422 : decode cL_told 422 = .ok (.aload_n 0, 1) := by decide +kernel
theorem dL_told_423 : decode cL_told 423 = .ok (.iload_n 2, 1) := by decide +kernel
theorem dL_told_424 : decode cL_told 424 = .ok (.iload_n 3, 1) := by decide +kernel
theorem dL_told_425 : decode cL_told 425 = .ok (.invokevirtual 102, 3) := by decide +kernel
theorem dL_told_428 : decode cL_told 428 = .ok (.ifCond .eq 7, 3) := by decide +kernel
theorem dL_told_431 : decode cL_told 431 = .ok (.iconst 1, 1) := by decide +kernel
theorem dL_told_432 : decode cL_told 432 = .ok (.goto 4, 3) := by decide +kernel
theorem dL_told_435 : decode cL_told 435 = .ok (.iconst 0, 1) := by decide +kernel
theorem dL_told_436 : decode cL_told 436 = .ok (.ireturn, 1) := by decide +kernel
theorem dL_told_437 : decode cL_told 437 = .ok (.aload_n 0, 1) := by decide +kernel
theorem dL_told_438 : decode cL_told 438 = .ok (.iload_n 2, 1) := by decide +kernel
theorem dL_told_439 : decode cL_told 439 = .ok (.iload_n 3, 1) := by decide +kernel
theorem dL_told_440 : decode cL_told 440 = .ok (.invokevirtual 105, 3) := by decide +kernel
theorem dL_told_443 : decode cL_told 443 = .ok (.ireturn, 1) := by decide +kernel
theorem dL_told_444 : decode cL_told 444 = .ok (.aload_n 0, 1) := by decide +kernel
theorem dL_told_445 : decode cL_told 445 = .ok (.iload_n 2, 1) := by decide +kernel
theorem dL_told_446 : decode cL_told 446 = .ok (.iload_n 3, 1) := by decide +kernel
theorem dL_told_447 : decode cL_told 447 = .ok (.invokevirtual 108, 3) := by decide +kernel
theorem dL_told_450 : decode cL_told 450 = .ok (.ireturn, 1) := by decide +kernel
theorem dL_told_451 : decode cL_told 451 = .ok (.aload_n 0, 1) := by decide +kernel
theorem dL_told_452 : decode cL_told 452 = .ok (.iload_n 2, 1) := by decide +kernel
theorem dL_told_453 : decode cL_told 453 = .ok (.invokevirtual 111, 3) := by decide +kernel
theorem dL_told_456 : decode cL_told 456 = .ok (.ireturn, 1) := by decide +kernel
theorem dL_told_457 : decode cL_told 457 = .ok (.aload_n 0, 1) := by decide +kernel
theorem dL_told_458 : decode cL_told 458 = .ok (.iload_n 2, 1) := by decide +kernel
theorem dL_told_459 : decode cL_told 459 = .ok (.iload_n 3, 1) := by decide +kernel
theorem dL_told_460 : decode cL_told 460 = .ok (.invokevirtual 114, 3) := by decide +kernel
theorem dL_told_463 : decode cL_told 463 = .ok (.ireturn, 1) := by decide +kernel
theorem dL_told_464 : decode cL_told 464 = .ok (.aload_n 0, 1) := by decide +kernel
theorem dL_told_465 : decode cL_told 465 = .ok (.iload_n 2, 1) := by decide +kernel
theorem dL_told_466 : decode cL_told 466 = .ok (.invokevirtual 117, 3) := by decide +kernel
theorem dL_told_469 : decode cL_told 469 = .ok (.ireturn, 1) := by decide +kernel
theorem dL_told_470 : decode cL_told 470 = .ok (.aload_n 0, 1) := by decide +kernel
theorem dL_told_471 : decode cL_told 471 = .ok (.iload_n 2, 1) := by decide +kernel
theorem dL_told_472 : decode cL_told 472 = .ok (.invokevirtual 120, 3) := by decide +kernel
theorem dL_told_475 : decode cL_told 475 = .ok (.ireturn, 1) := by decide +kernel
theorem dL_told_476 : decode cL_told 476 = .ok (.aload_n 0, 1) := by decide +kernel
theorem dL_told_477 : decode cL_told 477 = .ok (.invokevirtual 123, 3) := by decide +kernel
theorem dL_told_480 : decode cL_told 480 = .ok (.ireturn, 1) := by decide +kernel
theorem dL_told_481 : decode cL_told 481 = .ok (.aload_n 0, 1) := by decide +kernel
theorem dL_told_482 : decode cL_told 482 = .ok (.iload_n 2, 1) := by decide +kernel
theorem dL_told_483 : decode cL_told 483 = .ok (.iconst 1, 1) := by decide +kernel
theorem dL_told_484 : decode cL_told 484 = .ok (.if_icmp .ne 7, 3) := by decide +kernel
theorem dL_told_487 : decode cL_told 487 = .ok (.iconst 1, 1) := by decide +kernel
theorem dL_told_488 : decode cL_told 488 = .ok (.goto 4, 3) := by decide +kernel
theorem dL_told_491 : decode cL_told 491 = .ok (.iconst 0, 1) := by decide +kernel
theorem dL_told_492 : decode cL_told 492 = .ok (.invokevirtual 127, 3) := by decide +kernel
theorem dL_told_495 : decode cL_told 495 = .ok (.ireturn, 1) := by decide +kernel
theorem dL_told_496 : decode cL_told 496 = .ok (.aload_n 0, 1) := by decide +kernel
theorem dL_told_497 : decode cL_told 497 = .ok (.invokevirtual 131, 3) := by decide +kernel
theorem dL_told_500 : decode cL_told 500 = .ok (.ireturn, 1) := by decide +kernel
theorem dL_told_501 : decode cL_told 501 = .ok (.aload_n 0, 1) := by decide +kernel
theorem dL_told_502 : decode cL_told 502 = .ok (.iload_n 2, 1) := by decide +kernel
theorem dL_told_503 : decode cL_told 503 = .ok (.invokevirtual 134, 3) := by decide +kernel
theorem dL_told_506 : decode cL_told 506 = .ok (.ireturn, 1) := by decide +kernel
theorem dL_told_507 : decode cL_told 507 = .ok (.astore 5, 2) := by decide +kernel
theorem dL_told_509 : decode cL_told 509 = .ok (.sipush (-1011), 3) := by decide +kernel
theorem dL_told_512 : decode cL_told 512 = .ok (.ireturn, 1) := by decide +kernel
theorem dL_told_513 : decode cL_told 513 = .ok (.astore 5, 2) := by decide +kernel
theorem dL_told_515 : decode cL_told 515 = .ok (.sipush (-1012), 3) := by decide +kernel
theorem dL_told_518 : decode cL_told 518 = .ok (.ireturn, 1) := by decide +kernel
theorem dL_told_519 : decode cL_told 519 = .ok (.astore 5, 2) := by decide +kernel
theorem dL_told_521 : decode cL_told 521 = .ok (.sipush (-1013), 3) := by decide +kernel
theorem dL_told_524 : decode cL_told 524 = .ok (.ireturn, 1) := by decide +kernel
theorem dL_does_0 : decode cL_does 0 = .ok (.aload_n 0, 1) := by decide +kernel
theorem dL_does_1 : decode cL_does 1 = .ok (.iload_n 2, 1) := by decide +kernel
theorem dL_does_2 : decode cL_does 2 = .ok (.iload_n 3, 1) := by decide +kernel
theorem dL_does_3 : decode cL_does 3 = .ok (.iload 4, 2) := by decide +kernel
theorem dL_does_5 : decode cL_does 5 = .ok (.iload 5, 2) := by decide +kernel
theorem dL_does_7 : decode cL_does 7 = .ok (.invokestatic 143, 3) := by decide +kernel
theorem dL_does_10 : decode cL_does 10 = .ok (.aload_n 1, 1) := by decide +kernel
theorem dL_does_11 : decode cL_does 11 = .ok (.iload_n 2, 1) := by decide +kernel
theorem dL_does_12 : decode cL_does 12 = .ok (.iload_n 3, 1) := by decide +kernel
theorem dL_does_13 : decode cL_does 13 = .ok (.iload 4, 2) := by decide +kernel
theorem dL_does_15 : decode cL_does 15 = .ok (.iload 5, 2) := by decide +kernel
theorem dL_does_17 : decode cL_does 17 = .ok (.invokevirtual 149, 3) := by decide +kernel
theorem dL_does_20 : decode cL_does 20 = .ok (.if_icmp .ne 7, 3) := by decide +kernel
theorem dL_does_23 : decode cL_does 23 = .ok (.iconst 1, 1) := by decide +kernel
theorem dL_does_24 : decode cL_does 24 = .ok (.goto 4, 3) := by decide +kernel
theorem dL_does_27 : decode cL_does 27 = .ok (.iconst 0, 1) := by decide +kernel
theorem dL_does_28 : decode cL_does 28 = .ok (.ireturn, 1) := by decide +kernel
theorem dL_slotOf_0 : decode cL_slotOf 0 = .ok (.aload_n 0, 1) := by decide +kernel
theorem dL_slotOf_1 : decode cL_slotOf 1 = .ok (.getfield 155, 3) := by decide +kernel
theorem dL_slotOf_4 : decode cL_slotOf 4 = .ok (.aload_n 0, 1) := by decide +kernel
theorem dL_slotOf_5 : decode cL_slotOf 5 = .ok (.getfield 159, 3) := by decide +kernel
theorem dL_slotOf_8 : decode cL_slotOf 8 = .ok (.aaload, 1) := by decide +kernel
theorem dL_slotOf_9 : decode cL_slotOf 9 = .ok (.arraylength, 1) := by decide +kernel
theorem dL_slotOf_10 : decode cL_slotOf 10 = .ok (.istore 4, 2) := by decide +kernel
theorem dL_slotOf_12 : decode cL_slotOf 12 = .ok (.iconst 0, 1) := by decide +kernel
theorem dL_slotOf_13 : decode cL_slotOf 13 = .ok (.istore 5, 2) := by decide +kernel
theorem dL_slotOf_15 : decode cL_slotOf 15 = .ok (.iload 5, 2) := by decide +kernel
theorem dL_slotOf_17 : decode cL_slotOf 17 = .ok (.iload 4, 2) := by decide +kernel
theorem dL_slotOf_19 : decode cL_slotOf 19 = .ok (.if_icmp .ge 41, 3) := by decide +kernel
theorem dL_slotOf_22 : decode cL_slotOf 22 = .ok (.iload_n 1, 1) := by decide +kernel
theorem dL_slotOf_23 : decode cL_slotOf 23 = .ok (.iload 5, 2) := by decide +kernel
theorem dL_slotOf_25 : decode cL_slotOf 25 = .ok (.iadd, 1) := by decide +kernel
theorem dL_slotOf_26 : decode cL_slotOf 26 = .ok (.iload 4, 2) := by decide +kernel
theorem dL_slotOf_28 : decode cL_slotOf 28 = .ok (.irem, 1) := by decide +kernel
theorem dL_slotOf_29 : decode cL_slotOf 29 = .ok (.istore 6, 2) := by decide +kernel
theorem dL_slotOf_31 : decode cL_slotOf 31 = .ok (.aload_n 0, 1) := by decide +kernel
theorem dL_slotOf_32 : decode cL_slotOf 32 = .ok (.iload 6, 2) := by decide +kernel
theorem dL_slotOf_34 : decode cL_slotOf 34 = .ok (.invokevirtual 163, 3) := by decide +kernel
theorem dL_slotOf_37 : decode cL_slotOf 37 = .ok (.iload_n 2, 1) := by decide +kernel
theorem dL_slotOf_38 : decode cL_slotOf 38 = .ok (.if_icmp .lt 16, 3) := by decide +kernel
theorem dL_slotOf_41 : decode cL_slotOf 41 = .ok (.aload_n 0, 1) := by decide +kernel
theorem dL_slotOf_42 : decode cL_slotOf 42 = .ok (.iload 6, 2) := by decide +kernel
theorem dL_slotOf_44 : decode cL_slotOf 44 = .ok (.invokevirtual 163, 3) := by decide +kernel
theorem dL_slotOf_47 : decode cL_slotOf 47 = .ok (.iload_n 3, 1) := by decide +kernel
theorem dL_slotOf_48 : decode cL_slotOf 48 = .ok (.if_icmp .gt 6, 3) := by decide +kernel
theorem dL_slotOf_51 : decode cL_slotOf 51 = .ok (.iload 6, 2) := by decide +kernel
theorem dL_slotOf_53 : decode cL_slotOf 53 = .ok (.ireturn, 1) := by decide +kernel
theorem dL_slotOf_54 : decode cL_slotOf 54 = .ok (.iinc 5 1, 3) := by decide +kernel
theorem dL_slotOf_57 : decode cL_slotOf 57 = .ok (.goto (-42), 3) := by decide +kernel
theorem dL_slotOf_60 : decode cL_slotOf 60 = .ok (.iload_n 1, 1) := by decide +kernel
theorem dL_slotOf_61 : decode cL_slotOf 61 = .ok (.ireturn, 1) := by decide +kernel
theorem dL_act_0 : decode cL_act 0 = .ok (.iload_n 2, 1) := by decide +kernel
theorem dL_act_1 : decode cL_act 1 = .ok (.invokestatic 166, 3) := by decide +kernel
theorem dL_act_4 : decode cL_act 4 = .ok (.istore_n 3, 1) := by decide +kernel
theorem dL_act_5 : decode cL_act 5 = .ok (.aload_n 1, 1) := by decide +kernel
theorem dL_act_6 : decode cL_act 6 = .ok (.getfield 155, 3) := by decide +kernel
theorem dL_act_9 : decode cL_act 9 = .ok (.aload_n 1, 1) := by decide +kernel
theorem dL_act_10 : decode cL_act 10 = .ok (.getfield 159, 3) := by decide +kernel
theorem dL_act_13 : decode cL_act 13 = .ok (.aaload, 1) := by decide +kernel
theorem dL_act_14 : decode cL_act 14 = .ok (.arraylength, 1) := by decide +kernel
theorem dL_act_15 : decode cL_act 15 = .ok (.istore 4, 2) := by decide +kernel
theorem dL_act_17 : decode cL_act 17 = .ok (.iload_n 3, 1) := by decide +kernel
theorem dL_act_18 : decode cL_act 18 = .ok (.bipush 6, 2) := by decide +kernel
theorem dL_act_20 : decode cL_act 20 = .ok (.ishr, 1) := by decide +kernel
theorem dL_act_21 : decode cL_act 21 = .ok (.iload 4, 2) := by decide +kernel
theorem dL_act_23 : decode cL_act 23 = .ok (.invokestatic 169, 3) := by decide +kernel
theorem dL_act_26 : decode cL_act 26 = .ok (.istore 5, 2) := by decide +kernel
theorem dL_act_28 : decode cL_act 28 = .ok (.iload_n 3, 1) := by decide +kernel
theorem dL_act_29 : decode cL_act 29 = .ok (.bipush 9, 2) := by decide +kernel
theorem dL_act_31 : decode cL_act 31 = .ok (.ishr, 1) := by decide +kernel
theorem dL_act_32 : decode cL_act 32 = .ok (.iload 4, 2) := by decide +kernel
theorem dL_act_34 : decode cL_act 34 = .ok (.invokestatic 169, 3) := by decide +kernel
theorem dL_act_37 : decode cL_act 37 = .ok (.istore 6, 2) := by decide +kernel
theorem dL_act_39 : decode cL_act 39 = .ok (.iload_n 3, 1) := by decide +kernel
theorem dL_act_40 : decode cL_act 40 = .ok (.bipush 12, 2) := by decide +kernel
theorem dL_act_42 : decode cL_act 42 = .ok (.ishr, 1) := by decide +kernel
theorem dL_act_43 : decode cL_act 43 = .ok (.iload 4, 2) := by decide +kernel
theorem dL_act_45 : decode cL_act 45 = .ok (.invokestatic 169, 3) := by decide +kernel
theorem dL_act_48 : decode cL_act 48 = .ok (.istore 7, 2) := by decide +kernel
theorem dL_act_50 : decode cL_act 50 = .ok (.iload_n 3, 1) := by decide +kernel
theorem dL_act_51 : decode cL_act 51 = .ok (.bipush 15, 2) := by decide +kernel
theorem dL_act_53 : decode cL_act 53 = .ok (.ishr, 1) := by decide +kernel
theorem dL_act_54 : decode cL_act 54 = .ok (.sipush 5040, 3) := by decide +kernel
theorem dL_act_57 : decode cL_act 57 = .ok (.invokestatic 169, 3) := by decide +kernel
theorem dL_act_60 : decode cL_act 60 = .ok (.istore 8, 2) := by decide +kernel
theorem dL_act_62 : decode cL_act 62 = .ok (.iload_n 3, 1) := by decide +kernel
theorem dL_act_63 : decode cL_act 63 = .ok (.bipush 44, 2) := by decide +kernel
theorem dL_act_65 : decode cL_act 65 = .ok (.invokestatic 169, 3) := by decide +kernel
theorem dL_act_68 : decode cL_act 68 = .ok (.tableswitch 1156 0 42 #[188, 188, 188, 222, 222, 270, 270, 304, 323, 354, 354, 370, 370, 386, 399, 416, 416, 416, 416, 416, 473, 473, 473, 526, 561, 608, 608, 627, 674, 712, 729, 729, 729, 751, 773, 815, 834, 853, 893, 970, 1008, 1052, 1114], 188) := by decide +kernel
theorem dL_act_256 : decode cL_act 256 = .ok (.aload_n 0, 1) := by decide +kernel
theorem dL_act_257 : decode cL_act 257 = .ok (.aload_n 1, 1) := by decide +kernel
theorem dL_act_258 : decode cL_act 258 = .ok (.bipush 7, 2) := by decide +kernel
theorem dL_act_260 : decode cL_act 260 = .ok (.iload 5, 2) := by decide +kernel
theorem dL_act_262 : decode cL_act 262 = .ok (.iload 8, 2) := by decide +kernel
theorem dL_act_264 : decode cL_act 264 = .ok (.aload_n 1, 1) := by decide +kernel
theorem dL_act_265 : decode cL_act 265 = .ok (.getfield 172, 3) := by decide +kernel
theorem dL_act_268 : decode cL_act 268 = .ok (.iload 8, 2) := by decide +kernel
theorem dL_act_270 : decode cL_act 270 = .ok (.bipush 31, 2) := by decide +kernel
theorem dL_act_272 : decode cL_act 272 = .ok (.irem, 1) := by decide +kernel
theorem dL_act_273 : decode cL_act 273 = .ok (.ifCond .ne 7, 3) := by decide +kernel
theorem dL_act_276 : decode cL_act 276 = .ok (.iconst 1, 1) := by decide +kernel
theorem dL_act_277 : decode cL_act 277 = .ok (.goto 4, 3) := by decide +kernel
theorem dL_act_280 : decode cL_act 280 = .ok (.iconst 0, 1) := by decide +kernel
theorem dL_act_281 : decode cL_act 281 = .ok (.iadd, 1) := by decide +kernel
theorem dL_act_282 : decode cL_act 282 = .ok (.invokestatic 169, 3) := by decide +kernel
theorem dL_act_285 : decode cL_act 285 = .ok (.iconst 0, 1) := by decide +kernel
theorem dL_act_286 : decode cL_act 286 = .ok (.invokestatic 175, 3) := by decide +kernel
theorem dL_act_289 : decode cL_act 289 = .ok (.ireturn, 1) := by decide +kernel
theorem dL_act_290 : decode cL_act 290 = .ok (.aload_n 1, 1) := by decide +kernel
theorem dL_act_291 : decode cL_act 291 = .ok (.getfield 179, 3) := by decide +kernel
theorem dL_act_294 : decode cL_act 294 = .ok (.ifCond .eq 24, 3) := by decide +kernel
theorem dL_act_297 : decode cL_act 297 = .ok (.aload_n 0, 1) := by decide +kernel
theorem dL_act_298 : decode cL_act 298 = .ok (.aload_n 1, 1) := by decide +kernel
theorem dL_act_299 : decode cL_act 299 = .ok (.bipush 8, 2) := by decide +kernel
theorem dL_act_301 : decode cL_act 301 = .ok (.iload 5, 2) := by decide +kernel
theorem dL_act_303 : decode cL_act 303 = .ok (.bipush 17, 2) := by decide +kernel
theorem dL_act_305 : decode cL_act 305 = .ok (.iload 8, 2) := by decide +kernel
theorem dL_act_307 : decode cL_act 307 = .ok (.bipush 24, 2) := by decide +kernel
theorem dL_act_309 : decode cL_act 309 = .ok (.irem, 1) := by decide +kernel
theorem dL_act_310 : decode cL_act 310 = .ok (.iadd, 1) := by decide +kernel
theorem dL_act_311 : decode cL_act 311 = .ok (.iconst 0, 1) := by decide +kernel
theorem dL_act_312 : decode cL_act 312 = .ok (.invokestatic 175, 3) := by decide +kernel
theorem dL_act_315 : decode cL_act 315 = .ok (.goto 22, 3) := by decide +kernel
theorem dL_act_318 : decode cL_act 318 = .ok (.aload_n 0, 1) := by decide +kernel
theorem dL_act_319 : decode cL_act 319 = .ok (.aload_n 1, 1) := by decide +kernel
theorem dL_act_320 : decode cL_act 320 = .ok (.bipush 7, 2) := by decide +kernel
theorem dL_act_322 : decode cL_act 322 = .ok (.iload 5, 2) := by decide +kernel
theorem dL_act_324 : decode cL_act 324 = .ok (.iload 8, 2) := by decide +kernel
theorem dL_act_326 : decode cL_act 326 = .ok (.aload_n 1, 1) := by decide +kernel
theorem dL_act_327 : decode cL_act 327 = .ok (.getfield 172, 3) := by decide +kernel
theorem dL_act_330 : decode cL_act 330 = .ok (.invokestatic 169, 3) := by decide +kernel
theorem dL_act_333 : decode cL_act 333 = .ok (.iconst 0, 1) := by decide +kernel
theorem dL_act_334 : decode cL_act 334 = .ok (.invokestatic 175, 3) := by decide +kernel
theorem dL_act_337 : decode cL_act 337 = .ok (.ireturn, 1) := by decide +kernel
theorem dL_act_338 : decode cL_act 338 = .ok (.aload_n 0, 1) := by decide +kernel
theorem dL_act_339 : decode cL_act 339 = .ok (.aload_n 1, 1) := by decide +kernel
theorem dL_act_340 : decode cL_act 340 = .ok (.bipush 8, 2) := by decide +kernel
theorem dL_act_342 : decode cL_act 342 = .ok (.iload 5, 2) := by decide +kernel
theorem dL_act_344 : decode cL_act 344 = .ok (.aload_n 1, 1) := by decide +kernel
theorem dL_act_345 : decode cL_act 345 = .ok (.getfield 179, 3) := by decide +kernel
theorem dL_act_348 : decode cL_act 348 = .ok (.ifCond .eq 14, 3) := by decide +kernel
theorem dL_act_351 : decode cL_act 351 = .ok (.bipush 22, 2) := by decide +kernel
theorem dL_act_353 : decode cL_act 353 = .ok (.iload 8, 2) := by decide +kernel
theorem dL_act_355 : decode cL_act 355 = .ok (.bipush 19, 2) := by decide +kernel
theorem dL_act_357 : decode cL_act 357 = .ok (.irem, 1) := by decide +kernel
theorem dL_act_358 : decode cL_act 358 = .ok (.iadd, 1) := by decide +kernel
theorem dL_act_359 : decode cL_act 359 = .ok (.goto 8, 3) := by decide +kernel
theorem dL_act_362 : decode cL_act 362 = .ok (.iload 8, 2) := by decide +kernel
theorem dL_act_364 : decode cL_act 364 = .ok (.bipush 7, 2) := by decide +kernel
theorem dL_act_366 : decode cL_act 366 = .ok (.irem, 1) := by decide +kernel
theorem dL_act_367 : decode cL_act 367 = .ok (.iconst 0, 1) := by decide +kernel
theorem dL_act_368 : decode cL_act 368 = .ok (.invokestatic 175, 3) := by decide +kernel
theorem dL_act_371 : decode cL_act 371 = .ok (.ireturn, 1) := by decide +kernel
theorem dL_act_372 : decode cL_act 372 = .ok (.aload_n 0, 1) := by decide +kernel
theorem dL_act_373 : decode cL_act 373 = .ok (.aload_n 1, 1) := by decide +kernel
theorem dL_act_374 : decode cL_act 374 = .ok (.bipush 8, 2) := by decide +kernel
theorem dL_act_376 : decode cL_act 376 = .ok (.iload 5, 2) := by decide +kernel
theorem dL_act_378 : decode cL_act 378 = .ok (.bipush 29, 2) := by decide +kernel
theorem dL_act_380 : decode cL_act 380 = .ok (.iload 8, 2) := by decide +kernel
theorem dL_act_382 : decode cL_act 382 = .ok (.bipush 12, 2) := by decide +kernel
theorem dL_act_384 : decode cL_act 384 = .ok (.irem, 1) := by decide +kernel
theorem dL_act_385 : decode cL_act 385 = .ok (.iadd, 1) := by decide +kernel
theorem dL_act_386 : decode cL_act 386 = .ok (.iconst 0, 1) := by decide +kernel
theorem dL_act_387 : decode cL_act 387 = .ok (.invokestatic 175, 3) := by decide +kernel
theorem dL_act_390 : decode cL_act 390 = .ok (.ireturn, 1) := by decide +kernel
theorem dL_act_391 : decode cL_act 391 = .ok (.aload_n 0, 1) := by decide +kernel
theorem dL_act_392 : decode cL_act 392 = .ok (.aload_n 1, 1) := by decide +kernel
theorem dL_act_393 : decode cL_act 393 = .ok (.bipush 9, 2) := by decide +kernel
theorem dL_act_395 : decode cL_act 395 = .ok (.iload 5, 2) := by decide +kernel
theorem dL_act_397 : decode cL_act 397 = .ok (.iload 8, 2) := by decide +kernel
theorem dL_act_399 : decode cL_act 399 = .ok (.bipush 9, 2) := by decide +kernel
theorem dL_act_401 : decode cL_act 401 = .ok (.irem, 1) := by decide +kernel
theorem dL_act_402 : decode cL_act 402 = .ok (.ifCond .ne 11, 3) := by decide +kernel
theorem dL_act_405 : decode cL_act 405 = .ok (.iload 8, 2) := by decide +kernel
theorem dL_act_407 : decode cL_act 407 = .ok (.bipush 121, 2) := by decide +kernel
theorem dL_act_409 : decode cL_act 409 = .ok (.irem, 1) := by decide +kernel
theorem dL_act_410 : decode cL_act 410 = .ok (.goto 7, 3) := by decide +kernel
theorem dL_act_413 : decode cL_act 413 = .ok (.iload 8, 2) := by decide +kernel
theorem dL_act_415 : decode cL_act 415 = .ok (.iconst 3, 1) := by decide +kernel
theorem dL_act_416 : decode cL_act 416 = .ok (.irem, 1) := by decide +kernel
theorem dL_act_417 : decode cL_act 417 = .ok (.iconst 0, 1) := by decide +kernel
theorem dL_act_418 : decode cL_act 418 = .ok (.invokestatic 175, 3) := by decide +kernel
theorem dL_act_421 : decode cL_act 421 = .ok (.ireturn, 1) := by decide +kernel
theorem dL_act_422 : decode cL_act 422 = .ok (.aload_n 0, 1) := by decide +kernel
theorem dL_act_423 : decode cL_act 423 = .ok (.aload_n 1, 1) := by decide +kernel
theorem dL_act_424 : decode cL_act 424 = .ok (.bipush 10, 2) := by decide +kernel
theorem dL_act_426 : decode cL_act 426 = .ok (.iload 5, 2) := by decide +kernel
theorem dL_act_428 : decode cL_act 428 = .ok (.iload 6, 2) := by decide +kernel
theorem dL_act_430 : decode cL_act 430 = .ok (.iload 8, 2) := by decide +kernel
theorem dL_act_432 : decode cL_act 432 = .ok (.iconst 2, 1) := by decide +kernel
theorem dL_act_433 : decode cL_act 433 = .ok (.irem, 1) := by decide +kernel
theorem dL_act_434 : decode cL_act 434 = .ok (.invokestatic 175, 3) := by decide +kernel
theorem dL_act_437 : decode cL_act 437 = .ok (.ireturn, 1) := by decide +kernel
theorem dL_act_438 : decode cL_act 438 = .ok (.aload_n 0, 1) := by decide +kernel
theorem dL_act_439 : decode cL_act 439 = .ok (.aload_n 1, 1) := by decide +kernel
theorem dL_act_440 : decode cL_act 440 = .ok (.bipush 11, 2) := by decide +kernel
theorem dL_act_442 : decode cL_act 442 = .ok (.iload 5, 2) := by decide +kernel
theorem dL_act_444 : decode cL_act 444 = .ok (.iload 6, 2) := by decide +kernel
theorem dL_act_446 : decode cL_act 446 = .ok (.iload 8, 2) := by decide +kernel
theorem dL_act_448 : decode cL_act 448 = .ok (.iconst 2, 1) := by decide +kernel
theorem dL_act_449 : decode cL_act 449 = .ok (.irem, 1) := by decide +kernel
theorem dL_act_450 : decode cL_act 450 = .ok (.invokestatic 175, 3) := by decide +kernel
theorem dL_act_453 : decode cL_act 453 = .ok (.ireturn, 1) := by decide +kernel
theorem dL_act_454 : decode cL_act 454 = .ok (.aload_n 0, 1) := by decide +kernel
theorem dL_act_455 : decode cL_act 455 = .ok (.aload_n 1, 1) := by decide +kernel
theorem dL_act_456 : decode cL_act 456 = .ok (.bipush 12, 2) := by decide +kernel
theorem dL_act_458 : decode cL_act 458 = .ok (.iload 5, 2) := by decide +kernel
theorem dL_act_460 : decode cL_act 460 = .ok (.iload 6, 2) := by decide +kernel
theorem dL_act_462 : decode cL_act 462 = .ok (.iconst 0, 1) := by decide +kernel
theorem dL_act_463 : decode cL_act 463 = .ok (.invokestatic 175, 3) := by decide +kernel
theorem dL_act_466 : decode cL_act 466 = .ok (.ireturn, 1) := by decide +kernel
theorem dL_act_467 : decode cL_act 467 = .ok (.aload_n 0, 1) := by decide +kernel
theorem dL_act_468 : decode cL_act 468 = .ok (.aload_n 1, 1) := by decide +kernel
theorem dL_act_469 : decode cL_act 469 = .ok (.bipush 13, 2) := by decide +kernel
theorem dL_act_471 : decode cL_act 471 = .ok (.iload 5, 2) := by decide +kernel
theorem dL_act_473 : decode cL_act 473 = .ok (.iconst 1, 1) := by decide +kernel
theorem dL_act_474 : decode cL_act 474 = .ok (.iload 8, 2) := by decide +kernel
theorem dL_act_476 : decode cL_act 476 = .ok (.iconst 3, 1) := by decide +kernel
theorem dL_act_477 : decode cL_act 477 = .ok (.irem, 1) := by decide +kernel
theorem dL_act_478 : decode cL_act 478 = .ok (.iadd, 1) := by decide +kernel
theorem dL_act_479 : decode cL_act 479 = .ok (.iconst 0, 1) := by decide +kernel
theorem dL_act_480 : decode cL_act 480 = .ok (.invokestatic 175, 3) := by decide +kernel
theorem dL_act_483 : decode cL_act 483 = .ok (.ireturn, 1) := by decide +kernel
theorem dL_act_484 : decode cL_act 484 = .ok (.aload_n 1, 1) := by decide +kernel
theorem dL_act_485 : decode cL_act 485 = .ok (.iload 5, 2) := by decide +kernel
theorem dL_act_487 : decode cL_act 487 = .ok (.iconst 0, 1) := by decide +kernel
theorem dL_act_488 : decode cL_act 488 = .ok (.iconst 1, 1) := by decide +kernel
theorem dL_act_489 : decode cL_act 489 = .ok (.invokestatic 183, 3) := by decide +kernel
theorem dL_act_492 : decode cL_act 492 = .ok (.istore 9, 2) := by decide +kernel
theorem dL_act_494 : decode cL_act 494 = .ok (.aload_n 1, 1) := by decide +kernel
theorem dL_act_495 : decode cL_act 495 = .ok (.iload 9, 2) := by decide +kernel
theorem dL_act_497 : decode cL_act 497 = .ok (.invokevirtual 187, 3) := by decide +kernel
theorem dL_act_500 : decode cL_act 500 = .ok (.astore 10, 2) := by decide +kernel
theorem dL_act_502 : decode cL_act 502 = .ok (.aload_n 0, 1) := by decide +kernel
theorem dL_act_503 : decode cL_act 503 = .ok (.aload_n 1, 1) := by decide +kernel
theorem dL_act_504 : decode cL_act 504 = .ok (.bipush 15, 2) := by decide +kernel
theorem dL_act_506 : decode cL_act 506 = .ok (.iload 9, 2) := by decide +kernel
theorem dL_act_508 : decode cL_act 508 = .ok (.aload 10, 2) := by decide +kernel
theorem dL_act_510 : decode cL_act 510 = .ok (.ifnull 12, 3) := by decide +kernel
theorem dL_act_513 : decode cL_act 513 = .ok (.aload 10, 2) := by decide +kernel
theorem dL_act_515 : decode cL_act 515 = .ok (.getfield 191, 3) := by decide +kernel
theorem dL_act_518 : decode cL_act 518 = .ok (.arraylength, 1) := by decide +kernel
theorem dL_act_519 : decode cL_act 519 = .ok (.ifCond .ne 7, 3) := by decide +kernel
theorem dL_act_522 : decode cL_act 522 = .ok (.iconst 0, 1) := by decide +kernel
theorem dL_act_523 : decode cL_act 523 = .ok (.goto 12, 3) := by decide +kernel
theorem dL_act_526 : decode cL_act 526 = .ok (.iload 8, 2) := by decide +kernel
theorem dL_act_528 : decode cL_act 528 = .ok (.aload 10, 2) := by decide +kernel
theorem dL_act_530 : decode cL_act 530 = .ok (.getfield 191, 3) := by decide +kernel
theorem dL_act_533 : decode cL_act 533 = .ok (.arraylength, 1) := by decide +kernel
theorem dL_act_534 : decode cL_act 534 = .ok (.irem, 1) := by decide +kernel
theorem dL_act_535 : decode cL_act 535 = .ok (.iload 6, 2) := by decide +kernel
theorem dL_act_537 : decode cL_act 537 = .ok (.invokestatic 175, 3) := by decide +kernel
theorem dL_act_540 : decode cL_act 540 = .ok (.ireturn, 1) := by decide +kernel
theorem dL_act_541 : decode cL_act 541 = .ok (.aload_n 1, 1) := by decide +kernel
theorem dL_act_542 : decode cL_act 542 = .ok (.iload 5, 2) := by decide +kernel
theorem dL_act_544 : decode cL_act 544 = .ok (.iconst 0, 1) := by decide +kernel
theorem dL_act_545 : decode cL_act 545 = .ok (.iconst 1, 1) := by decide +kernel
theorem dL_act_546 : decode cL_act 546 = .ok (.invokestatic 183, 3) := by decide +kernel
theorem dL_act_549 : decode cL_act 549 = .ok (.istore 9, 2) := by decide +kernel
theorem dL_act_551 : decode cL_act 551 = .ok (.aload_n 1, 1) := by decide +kernel
theorem dL_act_552 : decode cL_act 552 = .ok (.iload 9, 2) := by decide +kernel
theorem dL_act_554 : decode cL_act 554 = .ok (.invokevirtual 187, 3) := by decide +kernel
theorem dL_act_557 : decode cL_act 557 = .ok (.astore 10, 2) := by decide +kernel
theorem dL_act_559 : decode cL_act 559 = .ok (.aload_n 0, 1) := by decide +kernel
theorem dL_act_560 : decode cL_act 560 = .ok (.aload_n 1, 1) := by decide +kernel
theorem dL_act_561 : decode cL_act 561 = .ok (.bipush 14, 2) := by decide +kernel
theorem dL_act_563 : decode cL_act 563 = .ok (.iload 6, 2) := by decide +kernel
theorem dL_act_565 : decode cL_act 565 = .ok (.iload 9, 2) := by decide +kernel
theorem dL_act_567 : decode cL_act 567 = .ok (.aload 10, 2) := by decide +kernel
theorem dL_act_569 : decode cL_act 569 = .ok (.ifnonnull 10, 3) := by decide +kernel
theorem dL_act_572 : decode cL_act 572 = .ok (.iload 8, 2) := by decide +kernel
theorem dL_act_574 : decode cL_act 574 = .ok (.iconst 3, 1) := by decide +kernel
theorem dL_act_575 : decode cL_act 575 = .ok (.irem, 1) := by decide +kernel
theorem dL_act_576 : decode cL_act 576 = .ok (.goto 14, 3) := by decide +kernel
theorem dL_act_579 : decode cL_act 579 = .ok (.iload 8, 2) := by decide +kernel
theorem dL_act_581 : decode cL_act 581 = .ok (.aload 10, 2) := by decide +kernel
theorem dL_act_583 : decode cL_act 583 = .ok (.getfield 191, 3) := by decide +kernel
theorem dL_act_586 : decode cL_act 586 = .ok (.arraylength, 1) := by decide +kernel
theorem dL_act_587 : decode cL_act 587 = .ok (.iconst 1, 1) := by decide +kernel
theorem dL_act_588 : decode cL_act 588 = .ok (.iadd, 1) := by decide +kernel
theorem dL_act_589 : decode cL_act 589 = .ok (.irem, 1) := by decide +kernel
theorem dL_act_590 : decode cL_act 590 = .ok (.invokestatic 175, 3) := by decide +kernel
theorem dL_act_593 : decode cL_act 593 = .ok (.ireturn, 1) := by decide +kernel
theorem dL_act_594 : decode cL_act 594 = .ok (.aload_n 0, 1) := by decide +kernel
theorem dL_act_595 : decode cL_act 595 = .ok (.aload_n 1, 1) := by decide +kernel
theorem dL_act_596 : decode cL_act 596 = .ok (.bipush 16, 2) := by decide +kernel
theorem dL_act_598 : decode cL_act 598 = .ok (.iload 8, 2) := by decide +kernel
theorem dL_act_600 : decode cL_act 600 = .ok (.iconst 2, 1) := by decide +kernel
theorem dL_act_601 : decode cL_act 601 = .ok (.irem, 1) := by decide +kernel
theorem dL_act_602 : decode cL_act 602 = .ok (.iadd, 1) := by decide +kernel
theorem dL_act_603 : decode cL_act 603 = .ok (.aload_n 1, 1) := by decide +kernel
theorem dL_act_604 : decode cL_act 604 = .ok (.iload 5, 2) := by decide +kernel
theorem dL_act_606 : decode cL_act 606 = .ok (.iconst 0, 1) := by decide +kernel
theorem dL_act_607 : decode cL_act 607 = .ok (.iconst 0, 1) := by decide +kernel
theorem dL_act_608 : decode cL_act 608 = .ok (.invokestatic 183, 3) := by decide +kernel
theorem dL_act_611 : decode cL_act 611 = .ok (.iload 8, 2) := by decide +kernel
theorem dL_act_613 : decode cL_act 613 = .ok (.iconst 2, 1) := by decide +kernel
theorem dL_act_614 : decode cL_act 614 = .ok (.idiv, 1) := by decide +kernel
theorem dL_act_615 : decode cL_act 615 = .ok (.iconst 3, 1) := by decide +kernel
theorem dL_act_616 : decode cL_act 616 = .ok (.irem, 1) := by decide +kernel
theorem dL_act_617 : decode cL_act 617 = .ok (.iload 8, 2) := by decide +kernel
theorem dL_act_619 : decode cL_act 619 = .ok (.bipush 90, 2) := by decide +kernel
theorem dL_act_621 : decode cL_act 621 = .ok (.irem, 1) := by decide +kernel
theorem dL_act_622 : decode cL_act 622 = .ok (.bipush 40, 2) := by decide +kernel
theorem dL_act_624 : decode cL_act 624 = .ok (.isub, 1) := by decide +kernel
theorem dL_act_625 : decode cL_act 625 = .ok (.invokestatic 175, 3) := by decide +kernel
theorem dL_act_628 : decode cL_act 628 = .ok (.ireturn, 1) := by decide +kernel
theorem dL_act_629 : decode cL_act 629 = .ok (.aload_n 0, 1) := by decide +kernel
theorem dL_act_630 : decode cL_act 630 = .ok (.aload_n 1, 1) := by decide +kernel
theorem dL_act_631 : decode cL_act 631 = .ok (.bipush 18, 2) := by decide +kernel
theorem dL_act_633 : decode cL_act 633 = .ok (.iload 8, 2) := by decide +kernel
theorem dL_act_635 : decode cL_act 635 = .ok (.iconst 2, 1) := by decide +kernel
theorem dL_act_636 : decode cL_act 636 = .ok (.irem, 1) := by decide +kernel
theorem dL_act_637 : decode cL_act 637 = .ok (.iadd, 1) := by decide +kernel
theorem dL_act_638 : decode cL_act 638 = .ok (.aload_n 1, 1) := by decide +kernel
theorem dL_act_639 : decode cL_act 639 = .ok (.iload 5, 2) := by decide +kernel
theorem dL_act_641 : decode cL_act 641 = .ok (.iconst 2, 1) := by decide +kernel
theorem dL_act_642 : decode cL_act 642 = .ok (.iconst 2, 1) := by decide +kernel
theorem dL_act_643 : decode cL_act 643 = .ok (.invokestatic 183, 3) := by decide +kernel
theorem dL_act_646 : decode cL_act 646 = .ok (.iload 8, 2) := by decide +kernel
theorem dL_act_648 : decode cL_act 648 = .ok (.iconst 2, 1) := by decide +kernel
theorem dL_act_649 : decode cL_act 649 = .ok (.idiv, 1) := by decide +kernel
theorem dL_act_650 : decode cL_act 650 = .ok (.iconst 3, 1) := by decide +kernel
theorem dL_act_651 : decode cL_act 651 = .ok (.irem, 1) := by decide +kernel
theorem dL_act_652 : decode cL_act 652 = .ok (.iload 8, 2) := by decide +kernel
theorem dL_act_654 : decode cL_act 654 = .ok (.iconst 5, 1) := by decide +kernel
theorem dL_act_655 : decode cL_act 655 = .ok (.irem, 1) := by decide +kernel
theorem dL_act_656 : decode cL_act 656 = .ok (.ifCond .ne 15, 3) := by decide +kernel
theorem dL_act_659 : decode cL_act 659 = .ok (.sipush 250, 3) := by decide +kernel
theorem dL_act_662 : decode cL_act 662 = .ok (.iload 8, 2) := by decide +kernel
theorem dL_act_664 : decode cL_act 664 = .ok (.bipush 10, 2) := by decide +kernel
theorem dL_act_666 : decode cL_act 666 = .ok (.irem, 1) := by decide +kernel
theorem dL_act_667 : decode cL_act 667 = .ok (.iadd, 1) := by decide +kernel
theorem dL_act_668 : decode cL_act 668 = .ok (.goto 4, 3) := by decide +kernel
theorem dL_act_671 : decode cL_act 671 = .ok (.iconst 0, 1) := by decide +kernel
theorem dL_act_672 : decode cL_act 672 = .ok (.invokestatic 175, 3) := by decide +kernel
theorem dL_act_675 : decode cL_act 675 = .ok (.ireturn, 1) := by decide +kernel
theorem dL_act_676 : decode cL_act 676 = .ok (.aload_n 0, 1) := by decide +kernel
theorem dL_act_677 : decode cL_act 677 = .ok (.aload_n 1, 1) := by decide +kernel
theorem dL_act_678 : decode cL_act 678 = .ok (.bipush 20, 2) := by decide +kernel
theorem dL_act_680 : decode cL_act 680 = .ok (.iload 5, 2) := by decide +kernel
theorem dL_act_682 : decode cL_act 682 = .ok (.aload_n 1, 1) := by decide +kernel
theorem dL_act_683 : decode cL_act 683 = .ok (.iload 6, 2) := by decide +kernel
theorem dL_act_685 : decode cL_act 685 = .ok (.iconst 3, 1) := by decide +kernel
theorem dL_act_686 : decode cL_act 686 = .ok (.iconst 4, 1) := by decide +kernel
theorem dL_act_687 : decode cL_act 687 = .ok (.invokestatic 183, 3) := by decide +kernel
theorem dL_act_690 : decode cL_act 690 = .ok (.iconst 0, 1) := by decide +kernel
theorem dL_act_691 : decode cL_act 691 = .ok (.invokestatic 175, 3) := by decide +kernel
theorem dL_act_694 : decode cL_act 694 = .ok (.ireturn, 1) := by decide +kernel
theorem dL_act_695 : decode cL_act 695 = .ok (.iload 8, 2) := by decide +kernel
theorem dL_act_697 : decode cL_act 697 = .ok (.iconst 3, 1) := by decide +kernel
theorem dL_act_698 : decode cL_act 698 = .ok (.irem, 1) := by decide +kernel
theorem dL_act_699 : decode cL_act 699 = .ok (.ifCond .ne 24, 3) := by decide +kernel
theorem dL_act_702 : decode cL_act 702 = .ok (.aload_n 0, 1) := by decide +kernel
theorem dL_act_703 : decode cL_act 703 = .ok (.aload_n 1, 1) := by decide +kernel
theorem dL_act_704 : decode cL_act 704 = .ok (.bipush 23, 2) := by decide +kernel
theorem dL_act_706 : decode cL_act 706 = .ok (.iload 8, 2) := by decide +kernel
theorem dL_act_708 : decode cL_act 708 = .ok (.iconst 3, 1) := by decide +kernel
theorem dL_act_709 : decode cL_act 709 = .ok (.idiv, 1) := by decide +kernel
theorem dL_act_710 : decode cL_act 710 = .ok (.iconst 2, 1) := by decide +kernel
theorem dL_act_711 : decode cL_act 711 = .ok (.irem, 1) := by decide +kernel
theorem dL_act_712 : decode cL_act 712 = .ok (.iadd, 1) := by decide +kernel
theorem dL_act_713 : decode cL_act 713 = .ok (.iload 5, 2) := by decide +kernel
theorem dL_act_715 : decode cL_act 715 = .ok (.iconst 0, 1) := by decide +kernel
theorem dL_act_716 : decode cL_act 716 = .ok (.iconst 0, 1) := by decide +kernel
theorem dL_act_717 : decode cL_act 717 = .ok (.invokestatic 175, 3) := by decide +kernel
theorem dL_act_720 : decode cL_act 720 = .ok (.goto 21, 3) := by decide +kernel
theorem dL_act_723 : decode cL_act 723 = .ok (.aload_n 0, 1) := by decide +kernel
theorem dL_act_724 : decode cL_act 724 = .ok (.aload_n 1, 1) := by decide +kernel
theorem dL_act_725 : decode cL_act 725 = .ok (.bipush 21, 2) := by decide +kernel
theorem dL_act_727 : decode cL_act 727 = .ok (.aload_n 1, 1) := by decide +kernel
theorem dL_act_728 : decode cL_act 728 = .ok (.iload 5, 2) := by decide +kernel
theorem dL_act_730 : decode cL_act 730 = .ok (.iconst 3, 1) := by decide +kernel
theorem dL_act_731 : decode cL_act 731 = .ok (.iconst 5, 1) := by decide +kernel
theorem dL_act_732 : decode cL_act 732 = .ok (.invokestatic 183, 3) := by decide +kernel
theorem dL_act_735 : decode cL_act 735 = .ok (.iload 6, 2) := by decide +kernel
theorem dL_act_737 : decode cL_act 737 = .ok (.iconst 0, 1) := by decide +kernel
theorem dL_act_738 : decode cL_act 738 = .ok (.invokestatic 175, 3) := by decide +kernel
theorem dL_act_741 : decode cL_act 741 = .ok (.ireturn, 1) := by decide +kernel
theorem dL_act_742 : decode cL_act 742 = .ok (.iload 8, 2) := by decide +kernel
theorem dL_act_744 : decode cL_act 744 = .ok (.iconst 2, 1) := by decide +kernel
theorem dL_act_745 : decode cL_act 745 = .ok (.irem, 1) := by decide +kernel
theorem dL_act_746 : decode cL_act 746 = .ok (.ifCond .ne 23, 3) := by decide +kernel
theorem dL_act_749 : decode cL_act 749 = .ok (.aload_n 0, 1) := by decide +kernel
theorem dL_act_750 : decode cL_act 750 = .ok (.aload_n 1, 1) := by decide +kernel
theorem dL_act_751 : decode cL_act 751 = .ok (.bipush 22, 2) := by decide +kernel
theorem dL_act_753 : decode cL_act 753 = .ok (.aload_n 1, 1) := by decide +kernel
theorem dL_act_754 : decode cL_act 754 = .ok (.iload 5, 2) := by decide +kernel
theorem dL_act_756 : decode cL_act 756 = .ok (.iconst 3, 1) := by decide +kernel
theorem dL_act_757 : decode cL_act 757 = .ok (.iconst 5, 1) := by decide +kernel
theorem dL_act_758 : decode cL_act 758 = .ok (.invokestatic 183, 3) := by decide +kernel
theorem dL_act_761 : decode cL_act 761 = .ok (.iconst 0, 1) := by decide +kernel
theorem dL_act_762 : decode cL_act 762 = .ok (.iconst 0, 1) := by decide +kernel
theorem dL_act_763 : decode cL_act 763 = .ok (.invokestatic 175, 3) := by decide +kernel
theorem dL_act_766 : decode cL_act 766 = .ok (.goto 13, 3) := by decide +kernel
theorem dL_act_769 : decode cL_act 769 = .ok (.aload_n 0, 1) := by decide +kernel
theorem dL_act_770 : decode cL_act 770 = .ok (.aload_n 1, 1) := by decide +kernel
theorem dL_act_771 : decode cL_act 771 = .ok (.iconst 4, 1) := by decide +kernel
theorem dL_act_772 : decode cL_act 772 = .ok (.iload 5, 2) := by decide +kernel
theorem dL_act_774 : decode cL_act 774 = .ok (.iconst 0, 1) := by decide +kernel
theorem dL_act_775 : decode cL_act 775 = .ok (.iconst 0, 1) := by decide +kernel
theorem dL_act_776 : decode cL_act 776 = .ok (.invokestatic 175, 3) := by decide +kernel
theorem dL_act_779 : decode cL_act 779 = .ok (.ireturn, 1) := by decide +kernel
theorem dL_act_780 : decode cL_act 780 = .ok (.aload_n 0, 1) := by decide +kernel
theorem dL_act_781 : decode cL_act 781 = .ok (.aload_n 1, 1) := by decide +kernel
theorem dL_act_782 : decode cL_act 782 = .ok (.bipush 23, 2) := by decide +kernel
theorem dL_act_784 : decode cL_act 784 = .ok (.iload 8, 2) := by decide +kernel
theorem dL_act_786 : decode cL_act 786 = .ok (.iconst 2, 1) := by decide +kernel
theorem dL_act_787 : decode cL_act 787 = .ok (.irem, 1) := by decide +kernel
theorem dL_act_788 : decode cL_act 788 = .ok (.iadd, 1) := by decide +kernel
theorem dL_act_789 : decode cL_act 789 = .ok (.iload 5, 2) := by decide +kernel
theorem dL_act_791 : decode cL_act 791 = .ok (.iconst 0, 1) := by decide +kernel
theorem dL_act_792 : decode cL_act 792 = .ok (.iconst 0, 1) := by decide +kernel
theorem dL_act_793 : decode cL_act 793 = .ok (.invokestatic 175, 3) := by decide +kernel
theorem dL_act_796 : decode cL_act 796 = .ok (.ireturn, 1) := by decide +kernel
theorem dL_act_797 : decode cL_act 797 = .ok (.aload_n 0, 1) := by decide +kernel
theorem dL_act_798 : decode cL_act 798 = .ok (.aload_n 1, 1) := by decide +kernel
theorem dL_act_799 : decode cL_act 799 = .ok (.bipush 25, 2) := by decide +kernel
theorem dL_act_801 : decode cL_act 801 = .ok (.aload_n 1, 1) := by decide +kernel
theorem dL_act_802 : decode cL_act 802 = .ok (.iload 5, 2) := by decide +kernel
theorem dL_act_804 : decode cL_act 804 = .ok (.bipush 6, 2) := by decide +kernel
theorem dL_act_806 : decode cL_act 806 = .ok (.bipush 6, 2) := by decide +kernel
theorem dL_act_808 : decode cL_act 808 = .ok (.invokestatic 183, 3) := by decide +kernel
theorem dL_act_811 : decode cL_act 811 = .ok (.iload 6, 2) := by decide +kernel
theorem dL_act_813 : decode cL_act 813 = .ok (.iload 7, 2) := by decide +kernel
theorem dL_act_815 : decode cL_act 815 = .ok (.invokestatic 175, 3) := by decide +kernel
theorem dL_act_818 : decode cL_act 818 = .ok (.ireturn, 1) := by decide +kernel
theorem dL_act_819 : decode cL_act 819 = .ok (.aload_n 0, 1) := by decide +kernel
theorem dL_act_820 : decode cL_act 820 = .ok (.aload_n 1, 1) := by decide +kernel
theorem dL_act_821 : decode cL_act 821 = .ok (.bipush 26, 2) := by decide +kernel
theorem dL_act_823 : decode cL_act 823 = .ok (.iload 5, 2) := by decide +kernel
theorem dL_act_825 : decode cL_act 825 = .ok (.aload_n 1, 1) := by decide +kernel
theorem dL_act_826 : decode cL_act 826 = .ok (.iload 6, 2) := by decide +kernel
theorem dL_act_828 : decode cL_act 828 = .ok (.bipush 6, 2) := by decide +kernel
theorem dL_act_830 : decode cL_act 830 = .ok (.bipush 6, 2) := by decide +kernel
theorem dL_act_832 : decode cL_act 832 = .ok (.invokestatic 183, 3) := by decide +kernel
theorem dL_act_835 : decode cL_act 835 = .ok (.iload 7, 2) := by decide +kernel
theorem dL_act_837 : decode cL_act 837 = .ok (.invokestatic 175, 3) := by decide +kernel
theorem dL_act_840 : decode cL_act 840 = .ok (.ireturn, 1) := by decide +kernel
theorem dL_act_841 : decode cL_act 841 = .ok (.iload 8, 2) := by decide +kernel
theorem dL_act_843 : decode cL_act 843 = .ok (.iconst 3, 1) := by decide +kernel
theorem dL_act_844 : decode cL_act 844 = .ok (.irem, 1) := by decide +kernel
theorem dL_act_845 : decode cL_act 845 = .ok (.ifCond .ne 26, 3) := by decide +kernel
theorem dL_act_848 : decode cL_act 848 = .ok (.aload_n 0, 1) := by decide +kernel
theorem dL_act_849 : decode cL_act 849 = .ok (.aload_n 1, 1) := by decide +kernel
theorem dL_act_850 : decode cL_act 850 = .ok (.bipush 27, 2) := by decide +kernel
theorem dL_act_852 : decode cL_act 852 = .ok (.aload_n 1, 1) := by decide +kernel
theorem dL_act_853 : decode cL_act 853 = .ok (.iload 5, 2) := by decide +kernel
theorem dL_act_855 : decode cL_act 855 = .ok (.bipush 6, 2) := by decide +kernel
theorem dL_act_857 : decode cL_act 857 = .ok (.bipush 6, 2) := by decide +kernel
theorem dL_act_859 : decode cL_act 859 = .ok (.invokestatic 183, 3) := by decide +kernel
theorem dL_act_862 : decode cL_act 862 = .ok (.iload 6, 2) := by decide +kernel
theorem dL_act_864 : decode cL_act 864 = .ok (.iconst 0, 1) := by decide +kernel
theorem dL_act_865 : decode cL_act 865 = .ok (.invokestatic 175, 3) := by decide +kernel
theorem dL_act_868 : decode cL_act 868 = .ok (.goto 14, 3) := by decide +kernel
theorem dL_act_871 : decode cL_act 871 = .ok (.aload_n 0, 1) := by decide +kernel
theorem dL_act_872 : decode cL_act 872 = .ok (.aload_n 1, 1) := by decide +kernel
theorem dL_act_873 : decode cL_act 873 = .ok (.iconst 3, 1) := by decide +kernel
theorem dL_act_874 : decode cL_act 874 = .ok (.iload 5, 2) := by decide +kernel
theorem dL_act_876 : decode cL_act 876 = .ok (.iload 6, 2) := by decide +kernel
theorem dL_act_878 : decode cL_act 878 = .ok (.iconst 0, 1) := by decide +kernel
theorem dL_act_879 : decode cL_act 879 = .ok (.invokestatic 175, 3) := by decide +kernel
theorem dL_act_882 : decode cL_act 882 = .ok (.ireturn, 1) := by decide +kernel
theorem dL_act_883 : decode cL_act 883 = .ok (.aload_n 0, 1) := by decide +kernel
theorem dL_act_884 : decode cL_act 884 = .ok (.aload_n 1, 1) := by decide +kernel
theorem dL_act_885 : decode cL_act 885 = .ok (.bipush 28, 2) := by decide +kernel
theorem dL_act_887 : decode cL_act 887 = .ok (.iload 5, 2) := by decide +kernel
theorem dL_act_889 : decode cL_act 889 = .ok (.aload_n 1, 1) := by decide +kernel
theorem dL_act_890 : decode cL_act 890 = .ok (.iload 6, 2) := by decide +kernel
theorem dL_act_892 : decode cL_act 892 = .ok (.iconst 2, 1) := by decide +kernel
theorem dL_act_893 : decode cL_act 893 = .ok (.iconst 2, 1) := by decide +kernel
theorem dL_act_894 : decode cL_act 894 = .ok (.invokestatic 183, 3) := by decide +kernel
theorem dL_act_897 : decode cL_act 897 = .ok (.iconst 0, 1) := by decide +kernel
theorem dL_act_898 : decode cL_act 898 = .ok (.invokestatic 175, 3) := by decide +kernel
theorem dL_act_901 : decode cL_act 901 = .ok (.ireturn, 1) := by decide +kernel
theorem dL_act_902 : decode cL_act 902 = .ok (.aload_n 0, 1) := by decide +kernel
theorem dL_act_903 : decode cL_act 903 = .ok (.aload_n 1, 1) := by decide +kernel
theorem dL_act_904 : decode cL_act 904 = .ok (.bipush 29, 2) := by decide +kernel
theorem dL_act_906 : decode cL_act 906 = .ok (.iload 5, 2) := by decide +kernel
theorem dL_act_908 : decode cL_act 908 = .ok (.aload_n 1, 1) := by decide +kernel
theorem dL_act_909 : decode cL_act 909 = .ok (.iload 6, 2) := by decide +kernel
theorem dL_act_911 : decode cL_act 911 = .ok (.iconst 0, 1) := by decide +kernel
theorem dL_act_912 : decode cL_act 912 = .ok (.iconst 2, 1) := by decide +kernel
theorem dL_act_913 : decode cL_act 913 = .ok (.invokestatic 183, 3) := by decide +kernel
theorem dL_act_916 : decode cL_act 916 = .ok (.iconst 0, 1) := by decide +kernel
theorem dL_act_917 : decode cL_act 917 = .ok (.invokestatic 175, 3) := by decide +kernel
theorem dL_act_920 : decode cL_act 920 = .ok (.ireturn, 1) := by decide +kernel
theorem dL_act_921 : decode cL_act 921 = .ok (.aload_n 0, 1) := by decide +kernel
theorem dL_act_922 : decode cL_act 922 = .ok (.aload_n 1, 1) := by decide +kernel
theorem dL_act_923 : decode cL_act 923 = .ok (.bipush 30, 2) := by decide +kernel
theorem dL_act_925 : decode cL_act 925 = .ok (.aload_n 1, 1) := by decide +kernel
theorem dL_act_926 : decode cL_act 926 = .ok (.iload 5, 2) := by decide +kernel
theorem dL_act_928 : decode cL_act 928 = .ok (.iconst 0, 1) := by decide +kernel
theorem dL_act_929 : decode cL_act 929 = .ok (.iconst 2, 1) := by decide +kernel
theorem dL_act_930 : decode cL_act 930 = .ok (.invokestatic 183, 3) := by decide +kernel
theorem dL_act_933 : decode cL_act 933 = .ok (.iconst 0, 1) := by decide +kernel
theorem dL_act_934 : decode cL_act 934 = .ok (.iconst 0, 1) := by decide +kernel
theorem dL_act_935 : decode cL_act 935 = .ok (.invokestatic 175, 3) := by decide +kernel
theorem dL_act_938 : decode cL_act 938 = .ok (.ifCond .eq 21, 3) := by decide +kernel
theorem dL_act_941 : decode cL_act 941 = .ok (.aload_n 0, 1) := by decide +kernel
theorem dL_act_942 : decode cL_act 942 = .ok (.aload_n 1, 1) := by decide +kernel
theorem dL_act_943 : decode cL_act 943 = .ok (.bipush 32, 2) := by decide +kernel
theorem dL_act_945 : decode cL_act 945 = .ok (.iload 6, 2) := by decide +kernel
theorem dL_act_947 : decode cL_act 947 = .ok (.iconst 0, 1) := by decide +kernel
theorem dL_act_948 : decode cL_act 948 = .ok (.iconst 0, 1) := by decide +kernel
theorem dL_act_949 : decode cL_act 949 = .ok (.invokestatic 175, 3) := by decide +kernel
theorem dL_act_952 : decode cL_act 952 = .ok (.ifCond .eq 7, 3) := by decide +kernel
theorem dL_act_955 : decode cL_act 955 = .ok (.iconst 1, 1) := by decide +kernel
theorem dL_act_956 : decode cL_act 956 = .ok (.goto 4, 3) := by decide +kernel
theorem dL_act_959 : decode cL_act 959 = .ok (.iconst 0, 1) := by decide +kernel
theorem dL_act_960 : decode cL_act 960 = .ok (.ireturn, 1) := by decide +kernel
theorem dL_act_961 : decode cL_act 961 = .ok (.iload 8, 2) := by decide +kernel
theorem dL_act_963 : decode cL_act 963 = .ok (.iconst 2, 1) := by decide +kernel
theorem dL_act_964 : decode cL_act 964 = .ok (.irem, 1) := by decide +kernel
theorem dL_act_965 : decode cL_act 965 = .ok (.ifCond .ne 23, 3) := by decide +kernel
theorem dL_act_968 : decode cL_act 968 = .ok (.aload_n 0, 1) := by decide +kernel
theorem dL_act_969 : decode cL_act 969 = .ok (.aload_n 1, 1) := by decide +kernel
theorem dL_act_970 : decode cL_act 970 = .ok (.bipush 30, 2) := by decide +kernel
theorem dL_act_972 : decode cL_act 972 = .ok (.aload_n 1, 1) := by decide +kernel
theorem dL_act_973 : decode cL_act 973 = .ok (.iload 5, 2) := by decide +kernel
theorem dL_act_975 : decode cL_act 975 = .ok (.iconst 0, 1) := by decide +kernel
theorem dL_act_976 : decode cL_act 976 = .ok (.iconst 2, 1) := by decide +kernel
theorem dL_act_977 : decode cL_act 977 = .ok (.invokestatic 183, 3) := by decide +kernel
theorem dL_act_980 : decode cL_act 980 = .ok (.iconst 0, 1) := by decide +kernel
theorem dL_act_981 : decode cL_act 981 = .ok (.iconst 0, 1) := by decide +kernel
theorem dL_act_982 : decode cL_act 982 = .ok (.invokestatic 175, 3) := by decide +kernel
theorem dL_act_985 : decode cL_act 985 = .ok (.goto 52, 3) := by decide +kernel
theorem dL_act_988 : decode cL_act 988 = .ok (.aload_n 0, 1) := by decide +kernel
theorem dL_act_989 : decode cL_act 989 = .ok (.aload_n 1, 1) := by decide +kernel
theorem dL_act_990 : decode cL_act 990 = .ok (.bipush 31, 2) := by decide +kernel
theorem dL_act_992 : decode cL_act 992 = .ok (.iload 8, 2) := by decide +kernel
theorem dL_act_994 : decode cL_act 994 = .ok (.aload_n 1, 1) := by decide +kernel
theorem dL_act_995 : decode cL_act 995 = .ok (.getfield 197, 3) := by decide +kernel
theorem dL_act_998 : decode cL_act 998 = .ok (.arraylength, 1) := by decide +kernel
theorem dL_act_999 : decode cL_act 999 = .ok (.iconst 1, 1) := by decide +kernel
theorem dL_act_1000 : decode cL_act 1000 = .ok (.iadd, 1) := by decide +kernel
theorem dL_act_1001 : decode cL_act 1001 = .ok (.invokestatic 169, 3) := by decide +kernel
theorem dL_act_1004 : decode cL_act 1004 = .ok (.iload 8, 2) := by decide +kernel
theorem dL_act_1006 : decode cL_act 1006 = .ok (.bipush 7, 2) := by decide +kernel
theorem dL_act_1008 : decode cL_act 1008 = .ok (.irem, 1) := by decide +kernel
theorem dL_act_1009 : decode cL_act 1009 = .ok (.iconst 1, 1) := by decide +kernel
theorem dL_act_1010 : decode cL_act 1010 = .ok (.isub, 1) := by decide +kernel
theorem dL_act_1011 : decode cL_act 1011 = .ok (.iconst 0, 1) := by decide +kernel
theorem dL_act_1012 : decode cL_act 1012 = .ok (.invokestatic 175, 3) := by decide +kernel
theorem dL_act_1015 : decode cL_act 1015 = .ok (.ifCond .eq 21, 3) := by decide +kernel
theorem dL_act_1018 : decode cL_act 1018 = .ok (.aload_n 0, 1) := by decide +kernel
theorem dL_act_1019 : decode cL_act 1019 = .ok (.aload_n 1, 1) := by decide +kernel
theorem dL_act_1020 : decode cL_act 1020 = .ok (.bipush 32, 2) := by decide +kernel
theorem dL_act_1022 : decode cL_act 1022 = .ok (.iload 5, 2) := by decide +kernel
theorem dL_act_1024 : decode cL_act 1024 = .ok (.iconst 0, 1) := by decide +kernel
theorem dL_act_1025 : decode cL_act 1025 = .ok (.iconst 0, 1) := by decide +kernel
theorem dL_act_1026 : decode cL_act 1026 = .ok (.invokestatic 175, 3) := by decide +kernel
theorem dL_act_1029 : decode cL_act 1029 = .ok (.ifCond .eq 7, 3) := by decide +kernel
theorem dL_act_1032 : decode cL_act 1032 = .ok (.iconst 1, 1) := by decide +kernel
theorem dL_act_1033 : decode cL_act 1033 = .ok (.goto 4, 3) := by decide +kernel
theorem dL_act_1036 : decode cL_act 1036 = .ok (.iconst 0, 1) := by decide +kernel
theorem dL_act_1037 : decode cL_act 1037 = .ok (.ireturn, 1) := by decide +kernel
theorem dL_act_1038 : decode cL_act 1038 = .ok (.iload 8, 2) := by decide +kernel
theorem dL_act_1040 : decode cL_act 1040 = .ok (.iconst 2, 1) := by decide +kernel
theorem dL_act_1041 : decode cL_act 1041 = .ok (.irem, 1) := by decide +kernel
theorem dL_act_1042 : decode cL_act 1042 = .ok (.ifCond .ne 23, 3) := by decide +kernel
theorem dL_act_1045 : decode cL_act 1045 = .ok (.aload_n 0, 1) := by decide +kernel
theorem dL_act_1046 : decode cL_act 1046 = .ok (.aload_n 1, 1) := by decide +kernel
theorem dL_act_1047 : decode cL_act 1047 = .ok (.iconst 1, 1) := by decide +kernel
theorem dL_act_1048 : decode cL_act 1048 = .ok (.iconst 1, 1) := by decide +kernel
theorem dL_act_1049 : decode cL_act 1049 = .ok (.iload 8, 2) := by decide +kernel
theorem dL_act_1051 : decode cL_act 1051 = .ok (.iconst 2, 1) := by decide +kernel
theorem dL_act_1052 : decode cL_act 1052 = .ok (.idiv, 1) := by decide +kernel
theorem dL_act_1053 : decode cL_act 1053 = .ok (.bipush 8, 2) := by decide +kernel
theorem dL_act_1055 : decode cL_act 1055 = .ok (.irem, 1) := by decide +kernel
theorem dL_act_1056 : decode cL_act 1056 = .ok (.iadd, 1) := by decide +kernel
theorem dL_act_1057 : decode cL_act 1057 = .ok (.iconst 0, 1) := by decide +kernel
theorem dL_act_1058 : decode cL_act 1058 = .ok (.iconst 0, 1) := by decide +kernel
theorem dL_act_1059 : decode cL_act 1059 = .ok (.invokestatic 175, 3) := by decide +kernel
theorem dL_act_1062 : decode cL_act 1062 = .ok (.goto 13, 3) := by decide +kernel
theorem dL_act_1065 : decode cL_act 1065 = .ok (.aload_n 0, 1) := by decide +kernel
theorem dL_act_1066 : decode cL_act 1066 = .ok (.aload_n 1, 1) := by decide +kernel
theorem dL_act_1067 : decode cL_act 1067 = .ok (.iconst 2, 1) := by decide +kernel
theorem dL_act_1068 : decode cL_act 1068 = .ok (.iload 5, 2) := by decide +kernel
theorem dL_act_1070 : decode cL_act 1070 = .ok (.iconst 0, 1) := by decide +kernel
theorem dL_act_1071 : decode cL_act 1071 = .ok (.iconst 0, 1) := by decide +kernel
theorem dL_act_1072 : decode cL_act 1072 = .ok (.invokestatic 175, 3) := by decide +kernel
theorem dL_act_1075 : decode cL_act 1075 = .ok (.ireturn, 1) := by decide +kernel
theorem dL_act_1076 : decode cL_act 1076 = .ok (.iload 8, 2) := by decide +kernel
theorem dL_act_1078 : decode cL_act 1078 = .ok (.iconst 2, 1) := by decide +kernel
theorem dL_act_1079 : decode cL_act 1079 = .ok (.irem, 1) := by decide +kernel
theorem dL_act_1080 : decode cL_act 1080 = .ok (.ifCond .ne 22, 3) := by decide +kernel
theorem dL_act_1083 : decode cL_act 1083 = .ok (.aload_n 0, 1) := by decide +kernel
theorem dL_act_1084 : decode cL_act 1084 = .ok (.aload_n 1, 1) := by decide +kernel
theorem dL_act_1085 : decode cL_act 1085 = .ok (.iconst 5, 1) := by decide +kernel
theorem dL_act_1086 : decode cL_act 1086 = .ok (.iload 8, 2) := by decide +kernel
theorem dL_act_1088 : decode cL_act 1088 = .ok (.iconst 2, 1) := by decide +kernel
theorem dL_act_1089 : decode cL_act 1089 = .ok (.idiv, 1) := by decide +kernel
theorem dL_act_1090 : decode cL_act 1090 = .ok (.bipush 8, 2) := by decide +kernel
theorem dL_act_1092 : decode cL_act 1092 = .ok (.irem, 1) := by decide +kernel
theorem dL_act_1093 : decode cL_act 1093 = .ok (.iload 5, 2) := by decide +kernel
theorem dL_act_1095 : decode cL_act 1095 = .ok (.iconst 0, 1) := by decide +kernel
theorem dL_act_1096 : decode cL_act 1096 = .ok (.invokestatic 175, 3) := by decide +kernel
theorem dL_act_1099 : decode cL_act 1099 = .ok (.goto 20, 3) := by decide +kernel
theorem dL_act_1102 : decode cL_act 1102 = .ok (.aload_n 0, 1) := by decide +kernel
theorem dL_act_1103 : decode cL_act 1103 = .ok (.aload_n 1, 1) := by decide +kernel
theorem dL_act_1104 : decode cL_act 1104 = .ok (.bipush 6, 2) := by decide +kernel
theorem dL_act_1106 : decode cL_act 1106 = .ok (.iload 5, 2) := by decide +kernel
theorem dL_act_1108 : decode cL_act 1108 = .ok (.iload 8, 2) := by decide +kernel
theorem dL_act_1110 : decode cL_act 1110 = .ok (.iconst 2, 1) := by decide +kernel
theorem dL_act_1111 : decode cL_act 1111 = .ok (.idiv, 1) := by decide +kernel
theorem dL_act_1112 : decode cL_act 1112 = .ok (.bipush 8, 2) := by decide +kernel
theorem dL_act_1114 : decode cL_act 1114 = .ok (.irem, 1) := by decide +kernel
theorem dL_act_1115 : decode cL_act 1115 = .ok (.iconst 0, 1) := by decide +kernel
theorem dL_act_1116 : decode cL_act 1116 = .ok (.invokestatic 175, 3) := by decide +kernel
theorem dL_act_1119 : decode cL_act 1119 = .ok (.ireturn, 1) := by decide +kernel
theorem dL_act_1120 : decode cL_act 1120 = .ok (.iload 8, 2) := by decide +kernel
theorem dL_act_1122 : decode cL_act 1122 = .ok (.iconst 5, 1) := by decide +kernel
theorem dL_act_1123 : decode cL_act 1123 = .ok (.irem, 1) := by decide +kernel
theorem dL_act_1124 : decode cL_act 1124 = .ok (.ifCond .ne 21, 3) := by decide +kernel
theorem dL_act_1127 : decode cL_act 1127 = .ok (.aload_n 0, 1) := by decide +kernel
theorem dL_act_1128 : decode cL_act 1128 = .ok (.aload_n 1, 1) := by decide +kernel
theorem dL_act_1129 : decode cL_act 1129 = .ok (.bipush 33, 2) := by decide +kernel
theorem dL_act_1131 : decode cL_act 1131 = .ok (.iload 8, 2) := by decide +kernel
theorem dL_act_1133 : decode cL_act 1133 = .ok (.iconst 5, 1) := by decide +kernel
theorem dL_act_1134 : decode cL_act 1134 = .ok (.idiv, 1) := by decide +kernel
theorem dL_act_1135 : decode cL_act 1135 = .ok (.iconst 5, 1) := by decide +kernel
theorem dL_act_1136 : decode cL_act 1136 = .ok (.irem, 1) := by decide +kernel
theorem dL_act_1137 : decode cL_act 1137 = .ok (.iconst 0, 1) := by decide +kernel
theorem dL_act_1138 : decode cL_act 1138 = .ok (.iconst 0, 1) := by decide +kernel
theorem dL_act_1139 : decode cL_act 1139 = .ok (.invokestatic 175, 3) := by decide +kernel
theorem dL_act_1142 : decode cL_act 1142 = .ok (.goto 39, 3) := by decide +kernel
theorem dL_act_1145 : decode cL_act 1145 = .ok (.iload 8, 2) := by decide +kernel
theorem dL_act_1147 : decode cL_act 1147 = .ok (.iconst 5, 1) := by decide +kernel
theorem dL_act_1148 : decode cL_act 1148 = .ok (.irem, 1) := by decide +kernel
theorem dL_act_1149 : decode cL_act 1149 = .ok (.iconst 3, 1) := by decide +kernel
theorem dL_act_1150 : decode cL_act 1150 = .ok (.if_icmp .ge 16, 3) := by decide +kernel
theorem dL_act_1153 : decode cL_act 1153 = .ok (.aload_n 0, 1) := by decide +kernel
theorem dL_act_1154 : decode cL_act 1154 = .ok (.aload_n 1, 1) := by decide +kernel
theorem dL_act_1155 : decode cL_act 1155 = .ok (.bipush 34, 2) := by decide +kernel
theorem dL_act_1157 : decode cL_act 1157 = .ok (.iconst 0, 1) := by decide +kernel
theorem dL_act_1158 : decode cL_act 1158 = .ok (.iconst 0, 1) := by decide +kernel
theorem dL_act_1159 : decode cL_act 1159 = .ok (.iconst 0, 1) := by decide +kernel
theorem dL_act_1160 : decode cL_act 1160 = .ok (.invokestatic 175, 3) := by decide +kernel
theorem dL_act_1163 : decode cL_act 1163 = .ok (.goto 18, 3) := by decide +kernel
theorem dL_act_1166 : decode cL_act 1166 = .ok (.aload_n 0, 1) := by decide +kernel
theorem dL_act_1167 : decode cL_act 1167 = .ok (.aload_n 1, 1) := by decide +kernel
theorem dL_act_1168 : decode cL_act 1168 = .ok (.bipush 35, 2) := by decide +kernel
theorem dL_act_1170 : decode cL_act 1170 = .ok (.iload 8, 2) := by decide +kernel
theorem dL_act_1172 : decode cL_act 1172 = .ok (.iconst 5, 1) := by decide +kernel
theorem dL_act_1173 : decode cL_act 1173 = .ok (.idiv, 1) := by decide +kernel
theorem dL_act_1174 : decode cL_act 1174 = .ok (.iconst 2, 1) := by decide +kernel
theorem dL_act_1175 : decode cL_act 1175 = .ok (.irem, 1) := by decide +kernel
theorem dL_act_1176 : decode cL_act 1176 = .ok (.iconst 0, 1) := by decide +kernel
theorem dL_act_1177 : decode cL_act 1177 = .ok (.iconst 0, 1) := by decide +kernel
theorem dL_act_1178 : decode cL_act 1178 = .ok (.invokestatic 175, 3) := by decide +kernel
theorem dL_act_1181 : decode cL_act 1181 = .ok (.ireturn, 1) := by decide +kernel
theorem dL_act_1182 : decode cL_act 1182 = .ok (.aload_n 1, 1) := by decide +kernel
theorem dL_act_1183 : decode cL_act 1183 = .ok (.getfield 201, 3) := by decide +kernel
theorem dL_act_1186 : decode cL_act 1186 = .ok (.ifCond .eq 27, 3) := by decide +kernel
theorem dL_act_1189 : decode cL_act 1189 = .ok (.iload 8, 2) := by decide +kernel
theorem dL_act_1191 : decode cL_act 1191 = .ok (.iconst 3, 1) := by decide +kernel
theorem dL_act_1192 : decode cL_act 1192 = .ok (.irem, 1) := by decide +kernel
theorem dL_act_1193 : decode cL_act 1193 = .ok (.ifCond .le 20, 3) := by decide +kernel
theorem dL_act_1196 : decode cL_act 1196 = .ok (.aload_n 0, 1) := by decide +kernel
theorem dL_act_1197 : decode cL_act 1197 = .ok (.aload_n 1, 1) := by decide +kernel
theorem dL_act_1198 : decode cL_act 1198 = .ok (.bipush 37, 2) := by decide +kernel
theorem dL_act_1200 : decode cL_act 1200 = .ok (.iload 8, 2) := by decide +kernel
theorem dL_act_1202 : decode cL_act 1202 = .ok (.bipush 21, 2) := by decide +kernel
theorem dL_act_1204 : decode cL_act 1204 = .ok (.irem, 1) := by decide +kernel
theorem dL_act_1205 : decode cL_act 1205 = .ok (.iconst 0, 1) := by decide +kernel
theorem dL_act_1206 : decode cL_act 1206 = .ok (.iconst 0, 1) := by decide +kernel
theorem dL_act_1207 : decode cL_act 1207 = .ok (.invokestatic 175, 3) := by decide +kernel
theorem dL_act_1210 : decode cL_act 1210 = .ok (.goto 13, 3) := by decide +kernel
theorem dL_act_1213 : decode cL_act 1213 = .ok (.aload_n 0, 1) := by decide +kernel
theorem dL_act_1214 : decode cL_act 1214 = .ok (.aload_n 1, 1) := by decide +kernel
theorem dL_act_1215 : decode cL_act 1215 = .ok (.bipush 36, 2) := by decide +kernel
theorem dL_act_1217 : decode cL_act 1217 = .ok (.iconst 0, 1) := by decide +kernel
theorem dL_act_1218 : decode cL_act 1218 = .ok (.iconst 0, 1) := by decide +kernel
theorem dL_act_1219 : decode cL_act 1219 = .ok (.iconst 0, 1) := by decide +kernel
theorem dL_act_1220 : decode cL_act 1220 = .ok (.invokestatic 175, 3) := by decide +kernel
theorem dL_act_1223 : decode cL_act 1223 = .ok (.ireturn, 1) := by decide +kernel
theorem dL_act_1224 : decode cL_act 1224 = .ok (.iload 8, 2) := by decide +kernel
theorem dL_act_1226 : decode cL_act 1226 = .ok (.bipush 6, 2) := by decide +kernel
theorem dL_act_1228 : decode cL_act 1228 = .ok (.irem, 1) := by decide +kernel
theorem dL_act_1229 : decode cL_act 1229 = .ok (.ifCond .ne 37, 3) := by decide +kernel
theorem dL_act_1232 : decode cL_act 1232 = .ok (.aload_n 0, 1) := by decide +kernel
theorem dL_act_1233 : decode cL_act 1233 = .ok (.aload_n 1, 1) := by decide +kernel
theorem dL_act_1234 : decode cL_act 1234 = .ok (.iconst 0, 1) := by decide +kernel
theorem dL_act_1235 : decode cL_act 1235 = .ok (.iload 8, 2) := by decide +kernel
theorem dL_act_1237 : decode cL_act 1237 = .ok (.aload_n 1, 1) := by decide +kernel
theorem dL_act_1238 : decode cL_act 1238 = .ok (.getfield 172, 3) := by decide +kernel
theorem dL_act_1241 : decode cL_act 1241 = .ok (.iconst 1, 1) := by decide +kernel
theorem dL_act_1242 : decode cL_act 1242 = .ok (.iadd, 1) := by decide +kernel
theorem dL_act_1243 : decode cL_act 1243 = .ok (.invokestatic 169, 3) := by decide +kernel
theorem dL_act_1246 : decode cL_act 1246 = .ok (.iconst 1, 1) := by decide +kernel
theorem dL_act_1247 : decode cL_act 1247 = .ok (.isub, 1) := by decide +kernel
theorem dL_act_1248 : decode cL_act 1248 = .ok (.iload 8, 2) := by decide +kernel
theorem dL_act_1250 : decode cL_act 1250 = .ok (.bipush 6, 2) := by decide +kernel
theorem dL_act_1252 : decode cL_act 1252 = .ok (.idiv, 1) := by decide +kernel
theorem dL_act_1253 : decode cL_act 1253 = .ok (.iconst 5, 1) := by decide +kernel
theorem dL_act_1254 : decode cL_act 1254 = .ok (.irem, 1) := by decide +kernel
theorem dL_act_1255 : decode cL_act 1255 = .ok (.iload 8, 2) := by decide +kernel
theorem dL_act_1257 : decode cL_act 1257 = .ok (.bipush 9, 2) := by decide +kernel
theorem dL_act_1259 : decode cL_act 1259 = .ok (.irem, 1) := by decide +kernel
theorem dL_act_1260 : decode cL_act 1260 = .ok (.invokestatic 175, 3) := by decide +kernel
theorem dL_act_1263 : decode cL_act 1263 = .ok (.goto 19, 3) := by decide +kernel
theorem dL_act_1266 : decode cL_act 1266 = .ok (.aload_n 0, 1) := by decide +kernel
theorem dL_act_1267 : decode cL_act 1267 = .ok (.aload_n 1, 1) := by decide +kernel
theorem dL_act_1268 : decode cL_act 1268 = .ok (.bipush 37, 2) := by decide +kernel
theorem dL_act_1270 : decode cL_act 1270 = .ok (.iconst 1, 1) := by decide +kernel
theorem dL_act_1271 : decode cL_act 1271 = .ok (.iload 8, 2) := by decide +kernel
theorem dL_act_1273 : decode cL_act 1273 = .ok (.bipush 20, 2) := by decide +kernel
theorem dL_act_1275 : decode cL_act 1275 = .ok (.irem, 1) := by decide +kernel
theorem dL_act_1276 : decode cL_act 1276 = .ok (.iadd, 1) := by decide +kernel
theorem dL_act_1277 : decode cL_act 1277 = .ok (.iconst 0, 1) := by decide +kernel
theorem dL_act_1278 : decode cL_act 1278 = .ok (.iconst 0, 1) := by decide +kernel
theorem dL_act_1279 : decode cL_act 1279 = .ok (.invokestatic 175, 3) := by decide +kernel
theorem dL_act_1282 : decode cL_act 1282 = .ok (.ireturn, 1) := by decide +kernel
theorem dL_build_0 : decode cL_build 0 = .ok (.new 150, 3) := by decide +kernel
theorem dL_build_3 : decode cL_build 3 = .ok (.dup, 1) := by decide +kernel
theorem dL_build_4 : decode cL_build 4 = .ok (.invokespecial 204, 3) := by decide +kernel
theorem dL_build_7 : decode cL_build 7 = .ok (.astore_n 3, 1) := by decide +kernel
theorem dL_build_8 : decode cL_build 8 = .ok (.aload_n 1, 1) := by decide +kernel
theorem dL_build_9 : decode cL_build 9 = .ok (.iconst 0, 1) := by decide +kernel
theorem dL_build_10 : decode cL_build 10 = .ok (.invokestatic 205, 3) := by decide +kernel
theorem dL_build_13 : decode cL_build 13 = .ok (.invokestatic 166, 3) := by decide +kernel
theorem dL_build_16 : decode cL_build 16 = .ok (.istore 4, 2) := by decide +kernel
theorem dL_build_18 : decode cL_build 18 = .ok (.aload_n 3, 1) := by decide +kernel
theorem dL_build_19 : decode cL_build 19 = .ok (.iload 4, 2) := by decide +kernel
theorem dL_build_21 : decode cL_build 21 = .ok (.bipush 12, 2) := by decide +kernel
theorem dL_build_23 : decode cL_build 23 = .ok (.ishr, 1) := by decide +kernel
theorem dL_build_24 : decode cL_build 24 = .ok (.iconst 2, 1) := by decide +kernel
theorem dL_build_25 : decode cL_build 25 = .ok (.invokestatic 169, 3) := by decide +kernel
theorem dL_build_28 : decode cL_build 28 = .ok (.iconst 1, 1) := by decide +kernel
theorem dL_build_29 : decode cL_build 29 = .ok (.if_icmp .ne 7, 3) := by decide +kernel
theorem dL_build_32 : decode cL_build 32 = .ok (.iconst 1, 1) := by decide +kernel
theorem dL_build_33 : decode cL_build 33 = .ok (.goto 4, 3) := by decide +kernel
theorem dL_build_36 : decode cL_build 36 = .ok (.iconst 0, 1) := by decide +kernel
theorem dL_build_37 : decode cL_build 37 = .ok (.putfield 179, 3) := by decide +kernel
theorem dL_build_40 : decode cL_build 40 = .ok (.aload_n 0, 1) := by decide +kernel
theorem dL_build_41 : decode cL_build 41 = .ok (.aload_n 3, 1) := by decide +kernel
theorem dL_build_42 : decode cL_build 42 = .ok (.iconst 0, 1) := by decide +kernel
theorem dL_build_43 : decode cL_build 43 = .ok (.iconst (-1), 1) := by decide +kernel
theorem dL_build_44 : decode cL_build 44 = .ok (.iconst 2, 1) := by decide +kernel
theorem dL_build_45 : decode cL_build 45 = .ok (.iconst 2, 1) := by decide +kernel
theorem dL_build_46 : decode cL_build 46 = .ok (.invokestatic 175, 3) := by decide +kernel
theorem dL_build_49 : decode cL_build 49 = .ok (.ifCond .eq 55, 3) := by decide +kernel
theorem dL_build_52 : decode cL_build 52 = .ok (.aload_n 0, 1) := by decide +kernel
theorem dL_build_53 : decode cL_build 53 = .ok (.aload_n 3, 1) := by decide +kernel
theorem dL_build_54 : decode cL_build 54 = .ok (.iconst 0, 1) := by decide +kernel
theorem dL_build_55 : decode cL_build 55 = .ok (.iconst 0, 1) := by decide +kernel
theorem dL_build_56 : decode cL_build 56 = .ok (.iload 4, 2) := by decide +kernel
theorem dL_build_58 : decode cL_build 58 = .ok (.iconst 3, 1) := by decide +kernel
theorem dL_build_59 : decode cL_build 59 = .ok (.invokestatic 169, 3) := by decide +kernel
theorem dL_build_62 : decode cL_build 62 = .ok (.iconst 1, 1) := by decide +kernel
theorem dL_build_63 : decode cL_build 63 = .ok (.invokestatic 175, 3) := by decide +kernel
theorem dL_build_66 : decode cL_build 66 = .ok (.ifCond .eq 38, 3) := by decide +kernel
theorem dL_build_69 : decode cL_build 69 = .ok (.aload_n 0, 1) := by decide +kernel
theorem dL_build_70 : decode cL_build 70 = .ok (.aload_n 3, 1) := by decide +kernel
theorem dL_build_71 : decode cL_build 71 = .ok (.iconst 0, 1) := by decide +kernel
theorem dL_build_72 : decode cL_build 72 = .ok (.iload 4, 2) := by decide +kernel
theorem dL_build_74 : decode cL_build 74 = .ok (.iconst 4, 1) := by decide +kernel
theorem dL_build_75 : decode cL_build 75 = .ok (.ishr, 1) := by decide +kernel
theorem dL_build_76 : decode cL_build 76 = .ok (.iconst 2, 1) := by decide +kernel
theorem dL_build_77 : decode cL_build 77 = .ok (.invokestatic 169, 3) := by decide +kernel
theorem dL_build_80 : decode cL_build 80 = .ok (.iload 4, 2) := by decide +kernel
theorem dL_build_82 : decode cL_build 82 = .ok (.bipush 6, 2) := by decide +kernel
theorem dL_build_84 : decode cL_build 84 = .ok (.ishr, 1) := by decide +kernel
theorem dL_build_85 : decode cL_build 85 = .ok (.iconst 4, 1) := by decide +kernel
theorem dL_build_86 : decode cL_build 86 = .ok (.invokestatic 169, 3) := by decide +kernel
theorem dL_build_89 : decode cL_build 89 = .ok (.iload 4, 2) := by decide +kernel
theorem dL_build_91 : decode cL_build 91 = .ok (.bipush 9, 2) := by decide +kernel
theorem dL_build_93 : decode cL_build 93 = .ok (.ishr, 1) := by decide +kernel
theorem dL_build_94 : decode cL_build 94 = .ok (.iconst 4, 1) := by decide +kernel
theorem dL_build_95 : decode cL_build 95 = .ok (.invokestatic 169, 3) := by decide +kernel
theorem dL_build_98 : decode cL_build 98 = .ok (.invokestatic 175, 3) := by decide +kernel
theorem dL_build_101 : decode cL_build 101 = .ok (.ifCond .ne 5, 3) := by decide +kernel
theorem dL_build_104 : decode cL_build 104 = .ok (.aconst_null, 1) := by decide +kernel
theorem dL_build_105 : decode cL_build 105 = .ok (.areturn, 1) := by decide +kernel
theorem dL_build_106 : decode cL_build 106 = .ok (.iconst 0, 1) := by decide +kernel
theorem dL_build_107 : decode cL_build 107 = .ok (.istore 5, 2) := by decide +kernel
theorem dL_build_109 : decode cL_build 109 = .ok (.iload 5, 2) := by decide +kernel
theorem dL_build_111 : decode cL_build 111 = .ok (.iload_n 2, 1) := by decide +kernel
theorem dL_build_112 : decode cL_build 112 = .ok (.if_icmp .ge 34, 3) := by decide +kernel
theorem dL_build_115 : decode cL_build 115 = .ok (.aload_n 0, 1) := by decide +kernel
theorem dL_build_116 : decode cL_build 116 = .ok (.aload_n 3, 1) := by decide +kernel
theorem dL_build_117 : decode cL_build 117 = .ok (.aload_n 1, 1) := by decide +kernel
theorem dL_build_118 : decode cL_build 118 = .ok (.iload 5, 2) := by decide +kernel
theorem dL_build_120 : decode cL_build 120 = .ok (.bipush 16, 2) := by decide +kernel
theorem dL_build_122 : decode cL_build 122 = .ok (.irem, 1) := by decide +kernel
theorem dL_build_123 : decode cL_build 123 = .ok (.invokestatic 205, 3) := by decide +kernel
theorem dL_build_126 : decode cL_build 126 = .ok (.bipush 71, 2) := by decide +kernel
theorem dL_build_128 : decode cL_build 128 = .ok (.iload 5, 2) := by decide +kernel
theorem dL_build_130 : decode cL_build 130 = .ok (.imul, 1) := by decide +kernel
theorem dL_build_131 : decode cL_build 131 = .ok (.iadd, 1) := by decide +kernel
theorem dL_build_132 : decode cL_build 132 = .ok (.invokestatic 209, 3) := by decide +kernel
theorem dL_build_135 : decode cL_build 135 = .ok (.ifCond .ne 5, 3) := by decide +kernel
theorem dL_build_138 : decode cL_build 138 = .ok (.aconst_null, 1) := by decide +kernel
theorem dL_build_139 : decode cL_build 139 = .ok (.areturn, 1) := by decide +kernel
theorem dL_build_140 : decode cL_build 140 = .ok (.iinc 5 1, 3) := by decide +kernel
theorem dL_build_143 : decode cL_build 143 = .ok (.goto (-34), 3) := by decide +kernel
theorem dL_build_146 : decode cL_build 146 = .ok (.aload_n 3, 1) := by decide +kernel
theorem dL_build_147 : decode cL_build 147 = .ok (.areturn, 1) := by decide +kernel
theorem dL_reached_0 : decode cL_reached 0 = .ok (.iconst 0, 1) := by decide +kernel
theorem dL_reached_1 : decode cL_reached 1 = .ok (.istore_n 1, 1) := by decide +kernel
theorem dL_reached_2 : decode cL_reached 2 = .ok (.iconst 0, 1) := by decide +kernel
theorem dL_reached_3 : decode cL_reached 3 = .ok (.istore_n 2, 1) := by decide +kernel
theorem dL_reached_4 : decode cL_reached 4 = .ok (.iload_n 2, 1) := by decide +kernel
theorem dL_reached_5 : decode cL_reached 5 = .ok (.aload_n 0, 1) := by decide +kernel
theorem dL_reached_6 : decode cL_reached 6 = .ok (.invokevirtual 213, 3) := by decide +kernel
theorem dL_reached_9 : decode cL_reached 9 = .ok (.if_icmp .ge 25, 3) := by decide +kernel
theorem dL_reached_12 : decode cL_reached 12 = .ok (.iload_n 1, 1) := by decide +kernel
theorem dL_reached_13 : decode cL_reached 13 = .ok (.aload_n 0, 1) := by decide +kernel
theorem dL_reached_14 : decode cL_reached 14 = .ok (.iload_n 2, 1) := by decide +kernel
theorem dL_reached_15 : decode cL_reached 15 = .ok (.invokevirtual 216, 3) := by decide +kernel
theorem dL_reached_18 : decode cL_reached 18 = .ok (.ifCond .eq 7, 3) := by decide +kernel
theorem dL_reached_21 : decode cL_reached 21 = .ok (.iconst 1, 1) := by decide +kernel
theorem dL_reached_22 : decode cL_reached 22 = .ok (.goto 4, 3) := by decide +kernel
theorem dL_reached_25 : decode cL_reached 25 = .ok (.iconst 0, 1) := by decide +kernel
theorem dL_reached_26 : decode cL_reached 26 = .ok (.iadd, 1) := by decide +kernel
theorem dL_reached_27 : decode cL_reached 27 = .ok (.istore_n 1, 1) := by decide +kernel
theorem dL_reached_28 : decode cL_reached 28 = .ok (.iinc 2 1, 3) := by decide +kernel
theorem dL_reached_31 : decode cL_reached 31 = .ok (.goto (-27), 3) := by decide +kernel
theorem dL_reached_34 : decode cL_reached 34 = .ok (.iload_n 1, 1) := by decide +kernel
theorem dL_reached_35 : decode cL_reached 35 = .ok (.ireturn, 1) := by decide +kernel
theorem dL_isSound_0 : decode cL_isSound 0 = .ok (.iconst 0, 1) := by decide +kernel
theorem dL_isSound_1 : decode cL_isSound 1 = .ok (.istore_n 1, 1) := by decide +kernel
theorem dL_isSound_2 : decode cL_isSound 2 = .ok (.iconst 0, 1) := by decide +kernel
theorem dL_isSound_3 : decode cL_isSound 3 = .ok (.istore_n 2, 1) := by decide +kernel
theorem dL_isSound_4 : decode cL_isSound 4 = .ok (.iconst (-1), 1) := by decide +kernel
theorem dL_isSound_5 : decode cL_isSound 5 = .ok (.istore_n 3, 1) := by decide +kernel
theorem dL_isSound_6 : decode cL_isSound 6 = .ok (.iload_n 3, 1) := by decide +kernel
theorem dL_isSound_7 : decode cL_isSound 7 = .ok (.aload_n 0, 1) := by decide +kernel
theorem dL_isSound_8 : decode cL_isSound 8 = .ok (.invokevirtual 213, 3) := by decide +kernel
theorem dL_isSound_11 : decode cL_isSound 11 = .ok (.if_icmp .gt 101, 3) := by decide +kernel
theorem dL_isSound_14 : decode cL_isSound 14 = .ok (.aload_n 0, 1) := by decide +kernel
theorem dL_isSound_15 : decode cL_isSound 15 = .ok (.iload_n 3, 1) := by decide +kernel
theorem dL_isSound_16 : decode cL_isSound 16 = .ok (.invokevirtual 219, 3) := by decide +kernel
theorem dL_isSound_19 : decode cL_isSound 19 = .ok (.istore 4, 2) := by decide +kernel
theorem dL_isSound_21 : decode cL_isSound 21 = .ok (.aload_n 0, 1) := by decide +kernel
theorem dL_isSound_22 : decode cL_isSound 22 = .ok (.iload_n 3, 1) := by decide +kernel
theorem dL_isSound_23 : decode cL_isSound 23 = .ok (.invokevirtual 216, 3) := by decide +kernel
theorem dL_isSound_26 : decode cL_isSound 26 = .ok (.istore 5, 2) := by decide +kernel
theorem dL_isSound_28 : decode cL_isSound 28 = .ok (.aload_n 0, 1) := by decide +kernel
theorem dL_isSound_29 : decode cL_isSound 29 = .ok (.iload_n 3, 1) := by decide +kernel
theorem dL_isSound_30 : decode cL_isSound 30 = .ok (.invokevirtual 222, 3) := by decide +kernel
theorem dL_isSound_33 : decode cL_isSound 33 = .ok (.istore 6, 2) := by decide +kernel
theorem dL_isSound_35 : decode cL_isSound 35 = .ok (.iload 5, 2) := by decide +kernel
theorem dL_isSound_37 : decode cL_isSound 37 = .ok (.ifCond .eq 8, 3) := by decide +kernel
theorem dL_isSound_40 : decode cL_isSound 40 = .ok (.iload 4, 2) := by decide +kernel
theorem dL_isSound_42 : decode cL_isSound 42 = .ok (.ifCond .eq 36, 3) := by decide +kernel
theorem dL_isSound_45 : decode cL_isSound 45 = .ok (.iload 6, 2) := by decide +kernel
theorem dL_isSound_47 : decode cL_isSound 47 = .ok (.iconst (-1), 1) := by decide +kernel
theorem dL_isSound_48 : decode cL_isSound 48 = .ok (.if_icmp .lt 30, 3) := by decide +kernel
theorem dL_isSound_51 : decode cL_isSound 51 = .ok (.iload 6, 2) := by decide +kernel
theorem dL_isSound_53 : decode cL_isSound 53 = .ok (.ifCond .lt 8, 3) := by decide +kernel
theorem dL_isSound_56 : decode cL_isSound 56 = .ok (.iload 5, 2) := by decide +kernel
theorem dL_isSound_58 : decode cL_isSound 58 = .ok (.ifCond .eq 20, 3) := by decide +kernel
theorem dL_isSound_61 : decode cL_isSound 61 = .ok (.iload 4, 2) := by decide +kernel
theorem dL_isSound_63 : decode cL_isSound 63 = .ok (.ifCond .eq 17, 3) := by decide +kernel
theorem dL_isSound_66 : decode cL_isSound 66 = .ok (.iload_n 3, 1) := by decide +kernel
theorem dL_isSound_67 : decode cL_isSound 67 = .ok (.ifCond .lt 11, 3) := by decide +kernel
theorem dL_isSound_70 : decode cL_isSound 70 = .ok (.iload_n 3, 1) := by decide +kernel
theorem dL_isSound_71 : decode cL_isSound 71 = .ok (.aload_n 0, 1) := by decide +kernel
theorem dL_isSound_72 : decode cL_isSound 72 = .ok (.invokevirtual 213, 3) := by decide +kernel
theorem dL_isSound_75 : decode cL_isSound 75 = .ok (.if_icmp .ne 5, 3) := by decide +kernel
theorem dL_isSound_78 : decode cL_isSound 78 = .ok (.iconst 0, 1) := by decide +kernel
theorem dL_isSound_79 : decode cL_isSound 79 = .ok (.ireturn, 1) := by decide +kernel
theorem dL_isSound_80 : decode cL_isSound 80 = .ok (.iload_n 1, 1) := by decide +kernel
theorem dL_isSound_81 : decode cL_isSound 81 = .ok (.iload 4, 2) := by decide +kernel
theorem dL_isSound_83 : decode cL_isSound 83 = .ok (.ifCond .eq 7, 3) := by decide +kernel
theorem dL_isSound_86 : decode cL_isSound 86 = .ok (.iconst 1, 1) := by decide +kernel
theorem dL_isSound_87 : decode cL_isSound 87 = .ok (.goto 4, 3) := by decide +kernel
theorem dL_isSound_90 : decode cL_isSound 90 = .ok (.iconst 0, 1) := by decide +kernel
theorem dL_isSound_91 : decode cL_isSound 91 = .ok (.iadd, 1) := by decide +kernel
theorem dL_isSound_92 : decode cL_isSound 92 = .ok (.istore_n 1, 1) := by decide +kernel
theorem dL_isSound_93 : decode cL_isSound 93 = .ok (.iload_n 2, 1) := by decide +kernel
theorem dL_isSound_94 : decode cL_isSound 94 = .ok (.iload 5, 2) := by decide +kernel
theorem dL_isSound_96 : decode cL_isSound 96 = .ok (.ifCond .eq 7, 3) := by decide +kernel
theorem dL_isSound_99 : decode cL_isSound 99 = .ok (.iconst 1, 1) := by decide +kernel
theorem dL_isSound_100 : decode cL_isSound 100 = .ok (.goto 4, 3) := by decide +kernel
theorem dL_isSound_103 : decode cL_isSound 103 = .ok (.iconst 0, 1) := by decide +kernel
theorem dL_isSound_104 : decode cL_isSound 104 = .ok (.iadd, 1) := by decide +kernel
theorem dL_isSound_105 : decode cL_isSound 105 = .ok (.istore_n 2, 1) := by decide +kernel
theorem dL_isSound_106 : decode cL_isSound 106 = .ok (.iinc 3 1, 3) := by decide +kernel
theorem dL_isSound_109 : decode cL_isSound 109 = .ok (.goto (-103), 3) := by decide +kernel
theorem dL_isSound_112 : decode cL_isSound 112 = .ok (.aload_n 0, 1) := by decide +kernel
theorem dL_isSound_113 : decode cL_isSound 113 = .ok (.invokevirtual 225, 3) := by decide +kernel
theorem dL_isSound_116 : decode cL_isSound 116 = .ok (.aload_n 0, 1) := by decide +kernel
theorem dL_isSound_117 : decode cL_isSound 117 = .ok (.invokevirtual 228, 3) := by decide +kernel
theorem dL_isSound_120 : decode cL_isSound 120 = .ok (.iadd, 1) := by decide +kernel
theorem dL_isSound_121 : decode cL_isSound 121 = .ok (.istore_n 3, 1) := by decide +kernel
theorem dL_isSound_122 : decode cL_isSound 122 = .ok (.aload_n 0, 1) := by decide +kernel
theorem dL_isSound_123 : decode cL_isSound 123 = .ok (.invokevirtual 231, 3) := by decide +kernel
theorem dL_isSound_126 : decode cL_isSound 126 = .ok (.istore 4, 2) := by decide +kernel
theorem dL_isSound_128 : decode cL_isSound 128 = .ok (.aload_n 0, 1) := by decide +kernel
theorem dL_isSound_129 : decode cL_isSound 129 = .ok (.invokevirtual 234, 3) := by decide +kernel
theorem dL_isSound_132 : decode cL_isSound 132 = .ok (.iload_n 1, 1) := by decide +kernel
theorem dL_isSound_133 : decode cL_isSound 133 = .ok (.if_icmp .ne 65, 3) := by decide +kernel
theorem dL_isSound_136 : decode cL_isSound 136 = .ok (.aload_n 0, 1) := by decide +kernel
theorem dL_isSound_137 : decode cL_isSound 137 = .ok (.invokevirtual 237, 3) := by decide +kernel
theorem dL_isSound_140 : decode cL_isSound 140 = .ok (.ifCond .lt 58, 3) := by decide +kernel
theorem dL_isSound_143 : decode cL_isSound 143 = .ok (.aload_n 0, 1) := by decide +kernel
theorem dL_isSound_144 : decode cL_isSound 144 = .ok (.invokevirtual 237, 3) := by decide +kernel
theorem dL_isSound_147 : decode cL_isSound 147 = .ok (.iload_n 1, 1) := by decide +kernel
theorem dL_isSound_148 : decode cL_isSound 148 = .ok (.if_icmp .gt 50, 3) := by decide +kernel
theorem dL_isSound_151 : decode cL_isSound 151 = .ok (.aload_n 0, 1) := by decide +kernel
theorem dL_isSound_152 : decode cL_isSound 152 = .ok (.invokevirtual 225, 3) := by decide +kernel
theorem dL_isSound_155 : decode cL_isSound 155 = .ok (.iconst 2, 1) := by decide +kernel
theorem dL_isSound_156 : decode cL_isSound 156 = .ok (.aload_n 0, 1) := by decide +kernel
theorem dL_isSound_157 : decode cL_isSound 157 = .ok (.invokevirtual 237, 3) := by decide +kernel
theorem dL_isSound_160 : decode cL_isSound 160 = .ok (.imul, 1) := by decide +kernel
theorem dL_isSound_161 : decode cL_isSound 161 = .ok (.if_icmp .lt 37, 3) := by decide +kernel
theorem dL_isSound_164 : decode cL_isSound 164 = .ok (.aload_n 0, 1) := by decide +kernel
theorem dL_isSound_165 : decode cL_isSound 165 = .ok (.invokevirtual 225, 3) := by decide +kernel
theorem dL_isSound_168 : decode cL_isSound 168 = .ok (.bipush 96, 2) := by decide +kernel
theorem dL_isSound_170 : decode cL_isSound 170 = .ok (.if_icmp .gt 28, 3) := by decide +kernel
theorem dL_isSound_173 : decode cL_isSound 173 = .ok (.aload_n 0, 1) := by decide +kernel
theorem dL_isSound_174 : decode cL_isSound 174 = .ok (.invokevirtual 228, 3) := by decide +kernel
theorem dL_isSound_177 : decode cL_isSound 177 = .ok (.iconst 2, 1) := by decide +kernel
theorem dL_isSound_178 : decode cL_isSound 178 = .ok (.iload_n 1, 1) := by decide +kernel
theorem dL_isSound_179 : decode cL_isSound 179 = .ok (.aload_n 0, 1) := by decide +kernel
theorem dL_isSound_180 : decode cL_isSound 180 = .ok (.invokevirtual 237, 3) := by decide +kernel
theorem dL_isSound_183 : decode cL_isSound 183 = .ok (.isub, 1) := by decide +kernel
theorem dL_isSound_184 : decode cL_isSound 184 = .ok (.imul, 1) := by decide +kernel
theorem dL_isSound_185 : decode cL_isSound 185 = .ok (.if_icmp .lt 13, 3) := by decide +kernel
theorem dL_isSound_188 : decode cL_isSound 188 = .ok (.aload_n 0, 1) := by decide +kernel
theorem dL_isSound_189 : decode cL_isSound 189 = .ok (.invokevirtual 228, 3) := by decide +kernel
theorem dL_isSound_192 : decode cL_isSound 192 = .ok (.sipush 320, 3) := by decide +kernel
theorem dL_isSound_195 : decode cL_isSound 195 = .ok (.if_icmp .le 5, 3) := by decide +kernel
theorem dL_isSound_198 : decode cL_isSound 198 = .ok (.iconst 0, 1) := by decide +kernel
theorem dL_isSound_199 : decode cL_isSound 199 = .ok (.ireturn, 1) := by decide +kernel
theorem dL_isSound_200 : decode cL_isSound 200 = .ok (.aload_n 0, 1) := by decide +kernel
theorem dL_isSound_201 : decode cL_isSound 201 = .ok (.invokevirtual 240, 3) := by decide +kernel
theorem dL_isSound_204 : decode cL_isSound 204 = .ok (.iload_n 1, 1) := by decide +kernel
theorem dL_isSound_205 : decode cL_isSound 205 = .ok (.if_icmp .gt 73, 3) := by decide +kernel
theorem dL_isSound_208 : decode cL_isSound 208 = .ok (.aload_n 0, 1) := by decide +kernel
theorem dL_isSound_209 : decode cL_isSound 209 = .ok (.invokevirtual 243, 3) := by decide +kernel
theorem dL_isSound_212 : decode cL_isSound 212 = .ok (.aload_n 0, 1) := by decide +kernel
theorem dL_isSound_213 : decode cL_isSound 213 = .ok (.invokevirtual 246, 3) := by decide +kernel
theorem dL_isSound_216 : decode cL_isSound 216 = .ok (.iadd, 1) := by decide +kernel
theorem dL_isSound_217 : decode cL_isSound 217 = .ok (.iload_n 1, 1) := by decide +kernel
theorem dL_isSound_218 : decode cL_isSound 218 = .ok (.if_icmp .gt 60, 3) := by decide +kernel
theorem dL_isSound_221 : decode cL_isSound 221 = .ok (.aload_n 0, 1) := by decide +kernel
theorem dL_isSound_222 : decode cL_isSound 222 = .ok (.invokevirtual 249, 3) := by decide +kernel
theorem dL_isSound_225 : decode cL_isSound 225 = .ok (.iload_n 1, 1) := by decide +kernel
theorem dL_isSound_226 : decode cL_isSound 226 = .ok (.ifCond .ne 7, 3) := by decide +kernel
theorem dL_isSound_229 : decode cL_isSound 229 = .ok (.dconst 0, 1) := by decide +kernel
theorem dL_isSound_230 : decode cL_isSound 230 = .ok (.goto 8, 3) := by decide +kernel
theorem dL_isSound_233 : decode cL_isSound 233 = .ok (.iload_n 3, 1) := by decide +kernel
theorem dL_isSound_234 : decode cL_isSound 234 = .ok (.i2d, 1) := by decide +kernel
theorem dL_isSound_235 : decode cL_isSound 235 = .ok (.iload_n 1, 1) := by decide +kernel
theorem dL_isSound_236 : decode cL_isSound 236 = .ok (.i2d, 1) := by decide +kernel
theorem dL_isSound_237 : decode cL_isSound 237 = .ok (.ddiv, 1) := by decide +kernel
theorem dL_isSound_238 : decode cL_isSound 238 = .ok (.dcmp .l, 1) := by decide +kernel
theorem dL_isSound_239 : decode cL_isSound 239 = .ok (.ifCond .ne 39, 3) := by decide +kernel
theorem dL_isSound_242 : decode cL_isSound 242 = .ok (.iload 4, 2) := by decide +kernel
theorem dL_isSound_244 : decode cL_isSound 244 = .ok (.ifCond .ge 7, 3) := by decide +kernel
theorem dL_isSound_247 : decode cL_isSound 247 = .ok (.iconst 1, 1) := by decide +kernel
theorem dL_isSound_248 : decode cL_isSound 248 = .ok (.goto 4, 3) := by decide +kernel
theorem dL_isSound_251 : decode cL_isSound 251 = .ok (.iconst 0, 1) := by decide +kernel
theorem dL_isSound_252 : decode cL_isSound 252 = .ok (.iload_n 2, 1) := by decide +kernel
theorem dL_isSound_253 : decode cL_isSound 253 = .ok (.ifCond .ne 7, 3) := by decide +kernel
theorem dL_isSound_256 : decode cL_isSound 256 = .ok (.iconst 1, 1) := by decide +kernel
theorem dL_isSound_257 : decode cL_isSound 257 = .ok (.goto 4, 3) := by decide +kernel
theorem dL_isSound_260 : decode cL_isSound 260 = .ok (.iconst 0, 1) := by decide +kernel
theorem dL_isSound_261 : decode cL_isSound 261 = .ok (.if_icmp .ne 17, 3) := by decide +kernel
theorem dL_isSound_264 : decode cL_isSound 264 = .ok (.iload 4, 2) := by decide +kernel
theorem dL_isSound_266 : decode cL_isSound 266 = .ok (.ifCond .lt 14, 3) := by decide +kernel
theorem dL_isSound_269 : decode cL_isSound 269 = .ok (.aload_n 0, 1) := by decide +kernel
theorem dL_isSound_270 : decode cL_isSound 270 = .ok (.iload 4, 2) := by decide +kernel
theorem dL_isSound_272 : decode cL_isSound 272 = .ok (.invokevirtual 216, 3) := by decide +kernel
theorem dL_isSound_275 : decode cL_isSound 275 = .ok (.ifCond .ne 5, 3) := by decide +kernel
theorem dL_isSound_278 : decode cL_isSound 278 = .ok (.iconst 0, 1) := by decide +kernel
theorem dL_isSound_279 : decode cL_isSound 279 = .ok (.ireturn, 1) := by decide +kernel
theorem dL_isSound_280 : decode cL_isSound 280 = .ok (.aload_n 0, 1) := by decide +kernel
theorem dL_isSound_281 : decode cL_isSound 281 = .ok (.iconst 0, 1) := by decide +kernel
theorem dL_isSound_282 : decode cL_isSound 282 = .ok (.invokevirtual 253, 3) := by decide +kernel
theorem dL_isSound_285 : decode cL_isSound 285 = .ok (.ifCond .lt 41, 3) := by decide +kernel
theorem dL_isSound_288 : decode cL_isSound 288 = .ok (.aload_n 0, 1) := by decide +kernel
theorem dL_isSound_289 : decode cL_isSound 289 = .ok (.iconst 0, 1) := by decide +kernel
theorem dL_isSound_290 : decode cL_isSound 290 = .ok (.invokevirtual 253, 3) := by decide +kernel
theorem dL_isSound_293 : decode cL_isSound 293 = .ok (.aload_n 0, 1) := by decide +kernel
theorem dL_isSound_294 : decode cL_isSound 294 = .ok (.iconst 1, 1) := by decide +kernel
theorem dL_isSound_295 : decode cL_isSound 295 = .ok (.invokevirtual 253, 3) := by decide +kernel
theorem dL_isSound_298 : decode cL_isSound 298 = .ok (.if_icmp .gt 28, 3) := by decide +kernel
theorem dL_isSound_301 : decode cL_isSound 301 = .ok (.aload_n 0, 1) := by decide +kernel
theorem dL_isSound_302 : decode cL_isSound 302 = .ok (.iconst 0, 1) := by decide +kernel
theorem dL_isSound_303 : decode cL_isSound 303 = .ok (.invokevirtual 253, 3) := by decide +kernel
theorem dL_isSound_306 : decode cL_isSound 306 = .ok (.iload_n 1, 1) := by decide +kernel
theorem dL_isSound_307 : decode cL_isSound 307 = .ok (.iload_n 2, 1) := by decide +kernel
theorem dL_isSound_308 : decode cL_isSound 308 = .ok (.isub, 1) := by decide +kernel
theorem dL_isSound_309 : decode cL_isSound 309 = .ok (.if_icmp .gt 17, 3) := by decide +kernel
theorem dL_isSound_312 : decode cL_isSound 312 = .ok (.aload_n 0, 1) := by decide +kernel
theorem dL_isSound_313 : decode cL_isSound 313 = .ok (.iload_n 3, 1) := by decide +kernel
theorem dL_isSound_314 : decode cL_isSound 314 = .ok (.iload 4, 2) := by decide +kernel
theorem dL_isSound_316 : decode cL_isSound 316 = .ok (.invokestatic 256, 3) := by decide +kernel
theorem dL_isSound_319 : decode cL_isSound 319 = .ok (.ifCond .eq 7, 3) := by decide +kernel
theorem dL_isSound_322 : decode cL_isSound 322 = .ok (.iconst 1, 1) := by decide +kernel
theorem dL_isSound_323 : decode cL_isSound 323 = .ok (.goto 4, 3) := by decide +kernel
theorem dL_isSound_326 : decode cL_isSound 326 = .ok (.iconst 0, 1) := by decide +kernel
theorem dL_isSound_327 : decode cL_isSound 327 = .ok (.ireturn, 1) := by decide +kernel
theorem dL_areSlotsSound_0 : decode cL_areSlotsSound 0 = .ok (.iload_n 1, 1) := by decide +kernel
theorem dL_areSlotsSound_1 : decode cL_areSlotsSound 1 = .ok (.istore_n 3, 1) := by decide +kernel
theorem dL_areSlotsSound_2 : decode cL_areSlotsSound 2 = .ok (.iconst 0, 1) := by decide +kernel
theorem dL_areSlotsSound_3 : decode cL_areSlotsSound 3 = .ok (.istore 4, 2) := by decide +kernel
theorem dL_areSlotsSound_5 : decode cL_areSlotsSound 5 = .ok (.iload 4, 2) := by decide +kernel
theorem dL_areSlotsSound_7 : decode cL_areSlotsSound 7 = .ok (.aload_n 0, 1) := by decide +kernel
theorem dL_areSlotsSound_8 : decode cL_areSlotsSound 8 = .ok (.invokevirtual 260, 3) := by decide +kernel
theorem dL_areSlotsSound_11 : decode cL_areSlotsSound 11 = .ok (.if_icmp .ge 35, 3) := by decide +kernel
theorem dL_areSlotsSound_14 : decode cL_areSlotsSound 14 = .ok (.aload_n 0, 1) := by decide +kernel
theorem dL_areSlotsSound_15 : decode cL_areSlotsSound 15 = .ok (.iload 4, 2) := by decide +kernel
theorem dL_areSlotsSound_17 : decode cL_areSlotsSound 17 = .ok (.invokevirtual 263, 3) := by decide +kernel
theorem dL_areSlotsSound_20 : decode cL_areSlotsSound 20 = .ok (.ifCond .lt 20, 3) := by decide +kernel
theorem dL_areSlotsSound_23 : decode cL_areSlotsSound 23 = .ok (.aload_n 0, 1) := by decide +kernel
theorem dL_areSlotsSound_24 : decode cL_areSlotsSound 24 = .ok (.iload 4, 2) := by decide +kernel
theorem dL_areSlotsSound_26 : decode cL_areSlotsSound 26 = .ok (.invokevirtual 263, 3) := by decide +kernel
theorem dL_areSlotsSound_29 : decode cL_areSlotsSound 29 = .ok (.iload_n 2, 1) := by decide +kernel
theorem dL_areSlotsSound_30 : decode cL_areSlotsSound 30 = .ok (.if_icmp .ne 10, 3) := by decide +kernel
theorem dL_areSlotsSound_33 : decode cL_areSlotsSound 33 = .ok (.aload_n 0, 1) := by decide +kernel
theorem dL_areSlotsSound_34 : decode cL_areSlotsSound 34 = .ok (.iload 4, 2) := by decide +kernel
theorem dL_areSlotsSound_36 : decode cL_areSlotsSound 36 = .ok (.invokevirtual 266, 3) := by decide +kernel
theorem dL_areSlotsSound_39 : decode cL_areSlotsSound 39 = .ok (.istore_n 3, 1) := by decide +kernel
theorem dL_areSlotsSound_40 : decode cL_areSlotsSound 40 = .ok (.iinc 4 1, 3) := by decide +kernel
theorem dL_areSlotsSound_43 : decode cL_areSlotsSound 43 = .ok (.goto (-38), 3) := by decide +kernel
theorem dL_areSlotsSound_46 : decode cL_areSlotsSound 46 = .ok (.iconst 0, 1) := by decide +kernel
theorem dL_areSlotsSound_47 : decode cL_areSlotsSound 47 = .ok (.istore 4, 2) := by decide +kernel
theorem dL_areSlotsSound_49 : decode cL_areSlotsSound 49 = .ok (.iload 4, 2) := by decide +kernel
theorem dL_areSlotsSound_51 : decode cL_areSlotsSound 51 = .ok (.aload_n 0, 1) := by decide +kernel
theorem dL_areSlotsSound_52 : decode cL_areSlotsSound 52 = .ok (.invokevirtual 260, 3) := by decide +kernel
theorem dL_areSlotsSound_55 : decode cL_areSlotsSound 55 = .ok (.if_icmp .ge 366, 3) := by decide +kernel
theorem dL_areSlotsSound_58 : decode cL_areSlotsSound 58 = .ok (.aload_n 0, 1) := by decide +kernel
theorem dL_areSlotsSound_59 : decode cL_areSlotsSound 59 = .ok (.iload 4, 2) := by decide +kernel
theorem dL_areSlotsSound_61 : decode cL_areSlotsSound 61 = .ok (.invokevirtual 263, 3) := by decide +kernel
theorem dL_areSlotsSound_64 : decode cL_areSlotsSound 64 = .ok (.istore 5, 2) := by decide +kernel
theorem dL_areSlotsSound_66 : decode cL_areSlotsSound 66 = .ok (.aload_n 0, 1) := by decide +kernel
theorem dL_areSlotsSound_67 : decode cL_areSlotsSound 67 = .ok (.iload 4, 2) := by decide +kernel
theorem dL_areSlotsSound_69 : decode cL_areSlotsSound 69 = .ok (.invokevirtual 269, 3) := by decide +kernel
theorem dL_areSlotsSound_72 : decode cL_areSlotsSound 72 = .ok (.istore 6, 2) := by decide +kernel
theorem dL_areSlotsSound_74 : decode cL_areSlotsSound 74 = .ok (.iload 5, 2) := by decide +kernel
theorem dL_areSlotsSound_76 : decode cL_areSlotsSound 76 = .ok (.ifCond .ge 7, 3) := by decide +kernel
theorem dL_areSlotsSound_79 : decode cL_areSlotsSound 79 = .ok (.iconst 1, 1) := by decide +kernel
theorem dL_areSlotsSound_80 : decode cL_areSlotsSound 80 = .ok (.goto 4, 3) := by decide +kernel
theorem dL_areSlotsSound_83 : decode cL_areSlotsSound 83 = .ok (.iconst 0, 1) := by decide +kernel
theorem dL_areSlotsSound_84 : decode cL_areSlotsSound 84 = .ok (.iload 6, 2) := by decide +kernel
theorem dL_areSlotsSound_86 : decode cL_areSlotsSound 86 = .ok (.ifCond .ge 7, 3) := by decide +kernel
theorem dL_areSlotsSound_89 : decode cL_areSlotsSound 89 = .ok (.iconst 1, 1) := by decide +kernel
theorem dL_areSlotsSound_90 : decode cL_areSlotsSound 90 = .ok (.goto 4, 3) := by decide +kernel
theorem dL_areSlotsSound_93 : decode cL_areSlotsSound 93 = .ok (.iconst 0, 1) := by decide +kernel
theorem dL_areSlotsSound_94 : decode cL_areSlotsSound 94 = .ok (.if_icmp .ne 16, 3) := by decide +kernel
theorem dL_areSlotsSound_97 : decode cL_areSlotsSound 97 = .ok (.iload 5, 2) := by decide +kernel
theorem dL_areSlotsSound_99 : decode cL_areSlotsSound 99 = .ok (.iconst (-1), 1) := by decide +kernel
theorem dL_areSlotsSound_100 : decode cL_areSlotsSound 100 = .ok (.if_icmp .lt 10, 3) := by decide +kernel
theorem dL_areSlotsSound_103 : decode cL_areSlotsSound 103 = .ok (.iload 6, 2) := by decide +kernel
theorem dL_areSlotsSound_105 : decode cL_areSlotsSound 105 = .ok (.bipush 6, 2) := by decide +kernel
theorem dL_areSlotsSound_107 : decode cL_areSlotsSound 107 = .ok (.if_icmp .le 5, 3) := by decide +kernel
theorem dL_areSlotsSound_110 : decode cL_areSlotsSound 110 = .ok (.iconst 0, 1) := by decide +kernel
theorem dL_areSlotsSound_111 : decode cL_areSlotsSound 111 = .ok (.ireturn, 1) := by decide +kernel
theorem dL_areSlotsSound_112 : decode cL_areSlotsSound 112 = .ok (.iload 5, 2) := by decide +kernel
theorem dL_areSlotsSound_114 : decode cL_areSlotsSound 114 = .ok (.ifCond .ge 6, 3) := by decide +kernel
theorem dL_areSlotsSound_117 : decode cL_areSlotsSound 117 = .ok (.goto 298, 3) := by decide +kernel
theorem dL_areSlotsSound_120 : decode cL_areSlotsSound 120 = .ok (.aload_n 0, 1) := by decide +kernel
theorem dL_areSlotsSound_121 : decode cL_areSlotsSound 121 = .ok (.iload 5, 2) := by decide +kernel
theorem dL_areSlotsSound_123 : decode cL_areSlotsSound 123 = .ok (.invokevirtual 219, 3) := by decide +kernel
theorem dL_areSlotsSound_126 : decode cL_areSlotsSound 126 = .ok (.ifCond .eq 72, 3) := by decide +kernel
theorem dL_areSlotsSound_129 : decode cL_areSlotsSound 129 = .ok (.aload_n 0, 1) := by decide +kernel
theorem dL_areSlotsSound_130 : decode cL_areSlotsSound 130 = .ok (.iload 5, 2) := by decide +kernel
theorem dL_areSlotsSound_132 : decode cL_areSlotsSound 132 = .ok (.invokevirtual 216, 3) := by decide +kernel
theorem dL_areSlotsSound_135 : decode cL_areSlotsSound 135 = .ok (.ifCond .eq 63, 3) := by decide +kernel
theorem dL_areSlotsSound_138 : decode cL_areSlotsSound 138 = .ok (.aload_n 0, 1) := by decide +kernel
theorem dL_areSlotsSound_139 : decode cL_areSlotsSound 139 = .ok (.iload 5, 2) := by decide +kernel
theorem dL_areSlotsSound_141 : decode cL_areSlotsSound 141 = .ok (.invokevirtual 222, 3) := by decide +kernel
theorem dL_areSlotsSound_144 : decode cL_areSlotsSound 144 = .ok (.ifCond .ne 54, 3) := by decide +kernel
theorem dL_areSlotsSound_147 : decode cL_areSlotsSound 147 = .ok (.aload_n 0, 1) := by decide +kernel
theorem dL_areSlotsSound_148 : decode cL_areSlotsSound 148 = .ok (.iload 4, 2) := by decide +kernel
theorem dL_areSlotsSound_150 : decode cL_areSlotsSound 150 = .ok (.invokevirtual 272, 3) := by decide +kernel
theorem dL_areSlotsSound_153 : decode cL_areSlotsSound 153 = .ok (.iconst 2, 1) := by decide +kernel
theorem dL_areSlotsSound_154 : decode cL_areSlotsSound 154 = .ok (.if_icmp .lt 44, 3) := by decide +kernel
theorem dL_areSlotsSound_157 : decode cL_areSlotsSound 157 = .ok (.aload_n 0, 1) := by decide +kernel
theorem dL_areSlotsSound_158 : decode cL_areSlotsSound 158 = .ok (.iload 4, 2) := by decide +kernel
theorem dL_areSlotsSound_160 : decode cL_areSlotsSound 160 = .ok (.invokevirtual 266, 3) := by decide +kernel
theorem dL_areSlotsSound_163 : decode cL_areSlotsSound 163 = .ok (.aload_n 0, 1) := by decide +kernel
theorem dL_areSlotsSound_164 : decode cL_areSlotsSound 164 = .ok (.iload 4, 2) := by decide +kernel
theorem dL_areSlotsSound_166 : decode cL_areSlotsSound 166 = .ok (.invokevirtual 272, 3) := by decide +kernel
theorem dL_areSlotsSound_169 : decode cL_areSlotsSound 169 = .ok (.if_icmp .lt 29, 3) := by decide +kernel
theorem dL_areSlotsSound_172 : decode cL_areSlotsSound 172 = .ok (.aload_n 0, 1) := by decide +kernel
theorem dL_areSlotsSound_173 : decode cL_areSlotsSound 173 = .ok (.iload 4, 2) := by decide +kernel
theorem dL_areSlotsSound_175 : decode cL_areSlotsSound 175 = .ok (.invokevirtual 266, 3) := by decide +kernel
theorem dL_areSlotsSound_178 : decode cL_areSlotsSound 178 = .ok (.iload_n 3, 1) := by decide +kernel
theorem dL_areSlotsSound_179 : decode cL_areSlotsSound 179 = .ok (.if_icmp .gt 19, 3) := by decide +kernel
theorem dL_areSlotsSound_182 : decode cL_areSlotsSound 182 = .ok (.aload_n 0, 1) := by decide +kernel
theorem dL_areSlotsSound_183 : decode cL_areSlotsSound 183 = .ok (.iload 4, 2) := by decide +kernel
theorem dL_areSlotsSound_185 : decode cL_areSlotsSound 185 = .ok (.invokevirtual 266, 3) := by decide +kernel
theorem dL_areSlotsSound_188 : decode cL_areSlotsSound 188 = .ok (.iload_n 3, 1) := by decide +kernel
theorem dL_areSlotsSound_189 : decode cL_areSlotsSound 189 = .ok (.if_icmp .ne 11, 3) := by decide +kernel
theorem dL_areSlotsSound_192 : decode cL_areSlotsSound 192 = .ok (.iload 5, 2) := by decide +kernel
theorem dL_areSlotsSound_194 : decode cL_areSlotsSound 194 = .ok (.iload_n 2, 1) := by decide +kernel
theorem dL_areSlotsSound_195 : decode cL_areSlotsSound 195 = .ok (.if_icmp .ge 5, 3) := by decide +kernel
theorem dL_areSlotsSound_198 : decode cL_areSlotsSound 198 = .ok (.iconst 0, 1) := by decide +kernel
theorem dL_areSlotsSound_199 : decode cL_areSlotsSound 199 = .ok (.ireturn, 1) := by decide +kernel
theorem dL_areSlotsSound_200 : decode cL_areSlotsSound 200 = .ok (.aload_n 0, 1) := by decide +kernel
theorem dL_areSlotsSound_201 : decode cL_areSlotsSound 201 = .ok (.iload 4, 2) := by decide +kernel
theorem dL_areSlotsSound_203 : decode cL_areSlotsSound 203 = .ok (.invokevirtual 275, 3) := by decide +kernel
theorem dL_areSlotsSound_206 : decode cL_areSlotsSound 206 = .ok (.ifCond .ne 14, 3) := by decide +kernel
theorem dL_areSlotsSound_209 : decode cL_areSlotsSound 209 = .ok (.aload_n 0, 1) := by decide +kernel
theorem dL_areSlotsSound_210 : decode cL_areSlotsSound 210 = .ok (.iload 4, 2) := by decide +kernel
theorem dL_areSlotsSound_212 : decode cL_areSlotsSound 212 = .ok (.invokevirtual 272, 3) := by decide +kernel
theorem dL_areSlotsSound_215 : decode cL_areSlotsSound 215 = .ok (.bipush 32, 2) := by decide +kernel
theorem dL_areSlotsSound_217 : decode cL_areSlotsSound 217 = .ok (.if_icmp .gt 88, 3) := by decide +kernel
theorem dL_areSlotsSound_220 : decode cL_areSlotsSound 220 = .ok (.aload_n 0, 1) := by decide +kernel
theorem dL_areSlotsSound_221 : decode cL_areSlotsSound 221 = .ok (.iload 4, 2) := by decide +kernel
theorem dL_areSlotsSound_223 : decode cL_areSlotsSound 223 = .ok (.invokevirtual 278, 3) := by decide +kernel
theorem dL_areSlotsSound_226 : decode cL_areSlotsSound 226 = .ok (.ifCond .eq 9, 3) := by decide +kernel
theorem dL_areSlotsSound_229 : decode cL_areSlotsSound 229 = .ok (.iload 6, 2) := by decide +kernel
theorem dL_areSlotsSound_231 : decode cL_areSlotsSound 231 = .ok (.iconst 2, 1) := by decide +kernel
theorem dL_areSlotsSound_232 : decode cL_areSlotsSound 232 = .ok (.if_icmp .ne 73, 3) := by decide +kernel
theorem dL_areSlotsSound_235 : decode cL_areSlotsSound 235 = .ok (.aload_n 0, 1) := by decide +kernel
theorem dL_areSlotsSound_236 : decode cL_areSlotsSound 236 = .ok (.iload 4, 2) := by decide +kernel
theorem dL_areSlotsSound_238 : decode cL_areSlotsSound 238 = .ok (.invokevirtual 281, 3) := by decide +kernel
theorem dL_areSlotsSound_241 : decode cL_areSlotsSound 241 = .ok (.ifCond .eq 15, 3) := by decide +kernel
theorem dL_areSlotsSound_244 : decode cL_areSlotsSound 244 = .ok (.iload 6, 2) := by decide +kernel
theorem dL_areSlotsSound_246 : decode cL_areSlotsSound 246 = .ok (.iconst 3, 1) := by decide +kernel
theorem dL_areSlotsSound_247 : decode cL_areSlotsSound 247 = .ok (.if_icmp .lt 58, 3) := by decide +kernel
theorem dL_areSlotsSound_250 : decode cL_areSlotsSound 250 = .ok (.iload 6, 2) := by decide +kernel
theorem dL_areSlotsSound_252 : decode cL_areSlotsSound 252 = .ok (.iconst 5, 1) := by decide +kernel
theorem dL_areSlotsSound_253 : decode cL_areSlotsSound 253 = .ok (.if_icmp .gt 52, 3) := by decide +kernel
theorem dL_areSlotsSound_256 : decode cL_areSlotsSound 256 = .ok (.aload_n 0, 1) := by decide +kernel
theorem dL_areSlotsSound_257 : decode cL_areSlotsSound 257 = .ok (.iload 4, 2) := by decide +kernel
theorem dL_areSlotsSound_259 : decode cL_areSlotsSound 259 = .ok (.invokevirtual 284, 3) := by decide +kernel
theorem dL_areSlotsSound_262 : decode cL_areSlotsSound 262 = .ok (.ifCond .ge 7, 3) := by decide +kernel
theorem dL_areSlotsSound_265 : decode cL_areSlotsSound 265 = .ok (.iconst 1, 1) := by decide +kernel
theorem dL_areSlotsSound_266 : decode cL_areSlotsSound 266 = .ok (.goto 4, 3) := by decide +kernel
theorem dL_areSlotsSound_269 : decode cL_areSlotsSound 269 = .ok (.iconst 0, 1) := by decide +kernel
theorem dL_areSlotsSound_270 : decode cL_areSlotsSound 270 = .ok (.iload 6, 2) := by decide +kernel
theorem dL_areSlotsSound_272 : decode cL_areSlotsSound 272 = .ok (.ifCond .ne 7, 3) := by decide +kernel
theorem dL_areSlotsSound_275 : decode cL_areSlotsSound 275 = .ok (.iconst 1, 1) := by decide +kernel
theorem dL_areSlotsSound_276 : decode cL_areSlotsSound 276 = .ok (.goto 4, 3) := by decide +kernel
theorem dL_areSlotsSound_279 : decode cL_areSlotsSound 279 = .ok (.iconst 0, 1) := by decide +kernel
theorem dL_areSlotsSound_280 : decode cL_areSlotsSound 280 = .ok (.if_icmp .eq 25, 3) := by decide +kernel
theorem dL_areSlotsSound_283 : decode cL_areSlotsSound 283 = .ok (.aload_n 0, 1) := by decide +kernel
theorem dL_areSlotsSound_284 : decode cL_areSlotsSound 284 = .ok (.iload 4, 2) := by decide +kernel
theorem dL_areSlotsSound_286 : decode cL_areSlotsSound 286 = .ok (.invokevirtual 287, 3) := by decide +kernel
theorem dL_areSlotsSound_289 : decode cL_areSlotsSound 289 = .ok (.ifCond .eq 18, 3) := by decide +kernel
theorem dL_areSlotsSound_292 : decode cL_areSlotsSound 292 = .ok (.aload_n 0, 1) := by decide +kernel
theorem dL_areSlotsSound_293 : decode cL_areSlotsSound 293 = .ok (.aload_n 0, 1) := by decide +kernel
theorem dL_areSlotsSound_294 : decode cL_areSlotsSound 294 = .ok (.iload 4, 2) := by decide +kernel
theorem dL_areSlotsSound_296 : decode cL_areSlotsSound 296 = .ok (.invokevirtual 284, 3) := by decide +kernel
theorem dL_areSlotsSound_299 : decode cL_areSlotsSound 299 = .ok (.invokevirtual 290, 3) := by decide +kernel
theorem dL_areSlotsSound_302 : decode cL_areSlotsSound 302 = .ok (.ifCond .ne 5, 3) := by decide +kernel
theorem dL_areSlotsSound_305 : decode cL_areSlotsSound 305 = .ok (.iconst 0, 1) := by decide +kernel
theorem dL_areSlotsSound_306 : decode cL_areSlotsSound 306 = .ok (.ireturn, 1) := by decide +kernel
theorem dL_areSlotsSound_307 : decode cL_areSlotsSound 307 = .ok (.iload 6, 2) := by decide +kernel
theorem dL_areSlotsSound_309 : decode cL_areSlotsSound 309 = .ok (.bipush 6, 2) := by decide +kernel
theorem dL_areSlotsSound_311 : decode cL_areSlotsSound 311 = .ok (.if_icmp .ne 27, 3) := by decide +kernel
theorem dL_areSlotsSound_314 : decode cL_areSlotsSound 314 = .ok (.aload_n 0, 1) := by decide +kernel
theorem dL_areSlotsSound_315 : decode cL_areSlotsSound 315 = .ok (.iload 4, 2) := by decide +kernel
theorem dL_areSlotsSound_317 : decode cL_areSlotsSound 317 = .ok (.invokevirtual 293, 3) := by decide +kernel
theorem dL_areSlotsSound_320 : decode cL_areSlotsSound 320 = .ok (.ifCond .lt 47, 3) := by decide +kernel
theorem dL_areSlotsSound_323 : decode cL_areSlotsSound 323 = .ok (.aload_n 0, 1) := by decide +kernel
theorem dL_areSlotsSound_324 : decode cL_areSlotsSound 324 = .ok (.iload 4, 2) := by decide +kernel
theorem dL_areSlotsSound_326 : decode cL_areSlotsSound 326 = .ok (.invokevirtual 293, 3) := by decide +kernel
theorem dL_areSlotsSound_329 : decode cL_areSlotsSound 329 = .ok (.aload_n 0, 1) := by decide +kernel
theorem dL_areSlotsSound_330 : decode cL_areSlotsSound 330 = .ok (.iload 4, 2) := by decide +kernel
theorem dL_areSlotsSound_332 : decode cL_areSlotsSound 332 = .ok (.invokevirtual 296, 3) := by decide +kernel
theorem dL_areSlotsSound_335 : decode cL_areSlotsSound 335 = .ok (.if_icmp .gt 32, 3) := by decide +kernel
theorem dL_areSlotsSound_338 : decode cL_areSlotsSound 338 = .ok (.aload_n 0, 1) := by decide +kernel
theorem dL_areSlotsSound_339 : decode cL_areSlotsSound 339 = .ok (.iload 4, 2) := by decide +kernel
theorem dL_areSlotsSound_341 : decode cL_areSlotsSound 341 = .ok (.invokevirtual 299, 3) := by decide +kernel
theorem dL_areSlotsSound_344 : decode cL_areSlotsSound 344 = .ok (.ifCond .eq 12, 3) := by decide +kernel
theorem dL_areSlotsSound_347 : decode cL_areSlotsSound 347 = .ok (.aload_n 0, 1) := by decide +kernel
theorem dL_areSlotsSound_348 : decode cL_areSlotsSound 348 = .ok (.iload 4, 2) := by decide +kernel
theorem dL_areSlotsSound_350 : decode cL_areSlotsSound 350 = .ok (.invokevirtual 302, 3) := by decide +kernel
theorem dL_areSlotsSound_353 : decode cL_areSlotsSound 353 = .ok (.ifCond .eq 14, 3) := by decide +kernel
theorem dL_areSlotsSound_356 : decode cL_areSlotsSound 356 = .ok (.aload_n 0, 1) := by decide +kernel
theorem dL_areSlotsSound_357 : decode cL_areSlotsSound 357 = .ok (.iload 4, 2) := by decide +kernel
theorem dL_areSlotsSound_359 : decode cL_areSlotsSound 359 = .ok (.iload 4, 2) := by decide +kernel
theorem dL_areSlotsSound_361 : decode cL_areSlotsSound 361 = .ok (.invokevirtual 305, 3) := by decide +kernel
theorem dL_areSlotsSound_364 : decode cL_areSlotsSound 364 = .ok (.ifCond .ne 5, 3) := by decide +kernel
theorem dL_areSlotsSound_367 : decode cL_areSlotsSound 367 = .ok (.iconst 0, 1) := by decide +kernel
theorem dL_areSlotsSound_368 : decode cL_areSlotsSound 368 = .ok (.ireturn, 1) := by decide +kernel
theorem dL_areSlotsSound_369 : decode cL_areSlotsSound 369 = .ok (.iconst 0, 1) := by decide +kernel
theorem dL_areSlotsSound_370 : decode cL_areSlotsSound 370 = .ok (.istore 7, 2) := by decide +kernel
theorem dL_areSlotsSound_372 : decode cL_areSlotsSound 372 = .ok (.iload 7, 2) := by decide +kernel
theorem dL_areSlotsSound_374 : decode cL_areSlotsSound 374 = .ok (.iload 4, 2) := by decide +kernel
theorem dL_areSlotsSound_376 : decode cL_areSlotsSound 376 = .ok (.if_icmp .ge 39, 3) := by decide +kernel
theorem dL_areSlotsSound_379 : decode cL_areSlotsSound 379 = .ok (.aload_n 0, 1) := by decide +kernel
theorem dL_areSlotsSound_380 : decode cL_areSlotsSound 380 = .ok (.iload 7, 2) := by decide +kernel
theorem dL_areSlotsSound_382 : decode cL_areSlotsSound 382 = .ok (.invokevirtual 263, 3) := by decide +kernel
theorem dL_areSlotsSound_385 : decode cL_areSlotsSound 385 = .ok (.ifCond .lt 24, 3) := by decide +kernel
theorem dL_areSlotsSound_388 : decode cL_areSlotsSound 388 = .ok (.aload_n 0, 1) := by decide +kernel
theorem dL_areSlotsSound_389 : decode cL_areSlotsSound 389 = .ok (.iload 7, 2) := by decide +kernel
theorem dL_areSlotsSound_391 : decode cL_areSlotsSound 391 = .ok (.iload 4, 2) := by decide +kernel
theorem dL_areSlotsSound_393 : decode cL_areSlotsSound 393 = .ok (.invokevirtual 305, 3) := by decide +kernel
theorem dL_areSlotsSound_396 : decode cL_areSlotsSound 396 = .ok (.aload_n 0, 1) := by decide +kernel
theorem dL_areSlotsSound_397 : decode cL_areSlotsSound 397 = .ok (.iload 4, 2) := by decide +kernel
theorem dL_areSlotsSound_399 : decode cL_areSlotsSound 399 = .ok (.iload 7, 2) := by decide +kernel
theorem dL_areSlotsSound_401 : decode cL_areSlotsSound 401 = .ok (.invokevirtual 305, 3) := by decide +kernel
theorem dL_areSlotsSound_404 : decode cL_areSlotsSound 404 = .ok (.if_icmp .eq 5, 3) := by decide +kernel
theorem dL_areSlotsSound_407 : decode cL_areSlotsSound 407 = .ok (.iconst 0, 1) := by decide +kernel
theorem dL_areSlotsSound_408 : decode cL_areSlotsSound 408 = .ok (.ireturn, 1) := by decide +kernel
theorem dL_areSlotsSound_409 : decode cL_areSlotsSound 409 = .ok (.iinc 7 1, 3) := by decide +kernel
theorem dL_areSlotsSound_412 : decode cL_areSlotsSound 412 = .ok (.goto (-40), 3) := by decide +kernel
theorem dL_areSlotsSound_415 : decode cL_areSlotsSound 415 = .ok (.iinc 4 1, 3) := by decide +kernel
theorem dL_areSlotsSound_418 : decode cL_areSlotsSound 418 = .ok (.goto (-369), 3) := by decide +kernel
theorem dL_areSlotsSound_421 : decode cL_areSlotsSound 421 = .ok (.iconst 1, 1) := by decide +kernel
theorem dL_areSlotsSound_422 : decode cL_areSlotsSound 422 = .ok (.ireturn, 1) := by decide +kernel
theorem dL_isCollected_0 : decode cL_isCollected 0 = .ok (.aload_n 0, 1) := by decide +kernel
theorem dL_isCollected_1 : decode cL_isCollected 1 = .ok (.invokevirtual 213, 3) := by decide +kernel
theorem dL_isCollected_4 : decode cL_isCollected 4 = .ok (.istore_n 3, 1) := by decide +kernel
theorem dL_isCollected_5 : decode cL_isCollected 5 = .ok (.iload_n 3, 1) := by decide +kernel
theorem dL_isCollected_6 : decode cL_isCollected 6 = .ok (.newarray .boolean, 2) := by decide +kernel
theorem dL_isCollected_8 : decode cL_isCollected 8 = .ok (.astore 4, 2) := by decide +kernel
theorem dL_isCollected_10 : decode cL_isCollected 10 = .ok (.iload_n 3, 1) := by decide +kernel
theorem dL_isCollected_11 : decode cL_isCollected 11 = .ok (.newarray .boolean, 2) := by decide +kernel
theorem dL_isCollected_13 : decode cL_isCollected 13 = .ok (.astore 5, 2) := by decide +kernel
theorem dL_isCollected_15 : decode cL_isCollected 15 = .ok (.iconst 0, 1) := by decide +kernel
theorem dL_isCollected_16 : decode cL_isCollected 16 = .ok (.istore 6, 2) := by decide +kernel
theorem dL_isCollected_18 : decode cL_isCollected 18 = .ok (.iload 6, 2) := by decide +kernel
theorem dL_isCollected_20 : decode cL_isCollected 20 = .ok (.iload_n 3, 1) := by decide +kernel
theorem dL_isCollected_21 : decode cL_isCollected 21 = .ok (.if_icmp .ge 31, 3) := by decide +kernel
theorem dL_isCollected_24 : decode cL_isCollected 24 = .ok (.aload 4, 2) := by decide +kernel
theorem dL_isCollected_26 : decode cL_isCollected 26 = .ok (.iload 6, 2) := by decide +kernel
theorem dL_isCollected_28 : decode cL_isCollected 28 = .ok (.aload_n 0, 1) := by decide +kernel
theorem dL_isCollected_29 : decode cL_isCollected 29 = .ok (.iload 6, 2) := by decide +kernel
theorem dL_isCollected_31 : decode cL_isCollected 31 = .ok (.invokevirtual 219, 3) := by decide +kernel
theorem dL_isCollected_34 : decode cL_isCollected 34 = .ok (.bastore, 1) := by decide +kernel
theorem dL_isCollected_35 : decode cL_isCollected 35 = .ok (.aload 5, 2) := by decide +kernel
theorem dL_isCollected_37 : decode cL_isCollected 37 = .ok (.iload 6, 2) := by decide +kernel
theorem dL_isCollected_39 : decode cL_isCollected 39 = .ok (.aload_n 0, 1) := by decide +kernel
theorem dL_isCollected_40 : decode cL_isCollected 40 = .ok (.iload 6, 2) := by decide +kernel
theorem dL_isCollected_42 : decode cL_isCollected 42 = .ok (.invokevirtual 216, 3) := by decide +kernel
theorem dL_isCollected_45 : decode cL_isCollected 45 = .ok (.bastore, 1) := by decide +kernel
theorem dL_isCollected_46 : decode cL_isCollected 46 = .ok (.iinc 6 1, 3) := by decide +kernel
theorem dL_isCollected_49 : decode cL_isCollected 49 = .ok (.goto (-31), 3) := by decide +kernel
theorem dL_isCollected_52 : decode cL_isCollected 52 = .ok (.iload_n 2, 1) := by decide +kernel
theorem dL_isCollected_53 : decode cL_isCollected 53 = .ok (.ifCond .ne 22, 3) := by decide +kernel
theorem dL_isCollected_56 : decode cL_isCollected 56 = .ok (.aload_n 0, 1) := by decide +kernel
theorem dL_isCollected_57 : decode cL_isCollected 57 = .ok (.invokevirtual 225, 3) := by decide +kernel
theorem dL_isCollected_60 : decode cL_isCollected 60 = .ok (.aload_n 0, 1) := by decide +kernel
theorem dL_isCollected_61 : decode cL_isCollected 61 = .ok (.invokevirtual 228, 3) := by decide +kernel
theorem dL_isCollected_64 : decode cL_isCollected 64 = .ok (.iadd, 1) := by decide +kernel
theorem dL_isCollected_65 : decode cL_isCollected 65 = .ok (.sipush 320, 3) := by decide +kernel
theorem dL_isCollected_68 : decode cL_isCollected 68 = .ok (.if_icmp .gt 7, 3) := by decide +kernel
theorem dL_isCollected_71 : decode cL_isCollected 71 = .ok (.iconst 1, 1) := by decide +kernel
theorem dL_isCollected_72 : decode cL_isCollected 72 = .ok (.goto 4, 3) := by decide +kernel
theorem dL_isCollected_75 : decode cL_isCollected 75 = .ok (.iconst 0, 1) := by decide +kernel
theorem dL_isCollected_76 : decode cL_isCollected 76 = .ok (.istore 6, 2) := by decide +kernel
theorem dL_isCollected_78 : decode cL_isCollected 78 = .ok (.aload_n 0, 1) := by decide +kernel
theorem dL_isCollected_79 : decode cL_isCollected 79 = .ok (.invokevirtual 234, 3) := by decide +kernel
theorem dL_isCollected_82 : decode cL_isCollected 82 = .ok (.istore 7, 2) := by decide +kernel
theorem dL_isCollected_84 : decode cL_isCollected 84 = .ok (.iload 7, 2) := by decide +kernel
theorem dL_isCollected_86 : decode cL_isCollected 86 = .ok (.aload_n 0, 1) := by decide +kernel
theorem dL_isCollected_87 : decode cL_isCollected 87 = .ok (.invokevirtual 237, 3) := by decide +kernel
theorem dL_isCollected_90 : decode cL_isCollected 90 = .ok (.isub, 1) := by decide +kernel
theorem dL_isCollected_91 : decode cL_isCollected 91 = .ok (.istore 8, 2) := by decide +kernel
theorem dL_isCollected_93 : decode cL_isCollected 93 = .ok (.aload_n 0, 1) := by decide +kernel
theorem dL_isCollected_94 : decode cL_isCollected 94 = .ok (.invokevirtual 308, 3) := by decide +kernel
theorem dL_isCollected_97 : decode cL_isCollected 97 = .ok (.istore 9, 2) := by decide +kernel
theorem dL_isCollected_99 : decode cL_isCollected 99 = .ok (.aload_n 0, 1) := by decide +kernel
theorem dL_isCollected_100 : decode cL_isCollected 100 = .ok (.invokevirtual 311, 3) := by decide +kernel
theorem dL_isCollected_103 : decode cL_isCollected 103 = .ok (.istore 10, 2) := by decide +kernel
theorem dL_isCollected_105 : decode cL_isCollected 105 = .ok (.aload_n 0, 1) := by decide +kernel
theorem dL_isCollected_106 : decode cL_isCollected 106 = .ok (.invokevirtual 246, 3) := by decide +kernel
theorem dL_isCollected_109 : decode cL_isCollected 109 = .ok (.istore 11, 2) := by decide +kernel
theorem dL_isCollected_111 : decode cL_isCollected 111 = .ok (.aload_n 0, 1) := by decide +kernel
theorem dL_isCollected_112 : decode cL_isCollected 112 = .ok (.invokevirtual 243, 3) := by decide +kernel
theorem dL_isCollected_115 : decode cL_isCollected 115 = .ok (.istore 12, 2) := by decide +kernel
theorem dL_isCollected_117 : decode cL_isCollected 117 = .ok (.aload_n 0, 1) := by decide +kernel
theorem dL_isCollected_118 : decode cL_isCollected 118 = .ok (.iload_n 2, 1) := by decide +kernel
theorem dL_isCollected_119 : decode cL_isCollected 119 = .ok (.iconst 2, 1) := by decide +kernel
theorem dL_isCollected_120 : decode cL_isCollected 120 = .ok (.if_icmp .ne 7, 3) := by decide +kernel
theorem dL_isCollected_123 : decode cL_isCollected 123 = .ok (.iconst 1, 1) := by decide +kernel
theorem dL_isCollected_124 : decode cL_isCollected 124 = .ok (.goto 4, 3) := by decide +kernel
theorem dL_isCollected_127 : decode cL_isCollected 127 = .ok (.iconst 0, 1) := by decide +kernel
theorem dL_isCollected_128 : decode cL_isCollected 128 = .ok (.invokevirtual 253, 3) := by decide +kernel
theorem dL_isCollected_131 : decode cL_isCollected 131 = .ok (.istore 13, 2) := by decide +kernel
theorem dL_isCollected_133 : decode cL_isCollected 133 = .ok (.iload_n 2, 1) := by decide +kernel
theorem dL_isCollected_134 : decode cL_isCollected 134 = .ok (.ifCond .ne 10, 3) := by decide +kernel
theorem dL_isCollected_137 : decode cL_isCollected 137 = .ok (.aload_n 0, 1) := by decide +kernel
theorem dL_isCollected_138 : decode cL_isCollected 138 = .ok (.invokevirtual 123, 3) := by decide +kernel
theorem dL_isCollected_141 : decode cL_isCollected 141 = .ok (.goto 17, 3) := by decide +kernel
theorem dL_isCollected_144 : decode cL_isCollected 144 = .ok (.aload_n 0, 1) := by decide +kernel
theorem dL_isCollected_145 : decode cL_isCollected 145 = .ok (.iload_n 2, 1) := by decide +kernel
theorem dL_isCollected_146 : decode cL_isCollected 146 = .ok (.iconst 2, 1) := by decide +kernel
theorem dL_isCollected_147 : decode cL_isCollected 147 = .ok (.if_icmp .ne 7, 3) := by decide +kernel
theorem dL_isCollected_150 : decode cL_isCollected 150 = .ok (.iconst 1, 1) := by decide +kernel
theorem dL_isCollected_151 : decode cL_isCollected 151 = .ok (.goto 4, 3) := by decide +kernel
theorem dL_isCollected_154 : decode cL_isCollected 154 = .ok (.iconst 0, 1) := by decide +kernel
theorem dL_isCollected_155 : decode cL_isCollected 155 = .ok (.invokevirtual 127, 3) := by decide +kernel
theorem dL_isCollected_158 : decode cL_isCollected 158 = .ok (.istore 14, 2) := by decide +kernel
theorem dL_isCollected_160 : decode cL_isCollected 160 = .ok (.iload 14, 2) := by decide +kernel
theorem dL_isCollected_162 : decode cL_isCollected 162 = .ok (.aload_n 1, 1) := by decide +kernel
theorem dL_isCollected_163 : decode cL_isCollected 163 = .ok (.iload_n 2, 1) := by decide +kernel
theorem dL_isCollected_164 : decode cL_isCollected 164 = .ok (.invokevirtual 314, 3) := by decide +kernel
theorem dL_isCollected_167 : decode cL_isCollected 167 = .ok (.if_icmp .ne 80, 3) := by decide +kernel
theorem dL_isCollected_170 : decode cL_isCollected 170 = .ok (.iload 14, 2) := by decide +kernel
theorem dL_isCollected_172 : decode cL_isCollected 172 = .ok (.ifCond .lt 75, 3) := by decide +kernel
theorem dL_isCollected_175 : decode cL_isCollected 175 = .ok (.iload 6, 2) := by decide +kernel
theorem dL_isCollected_177 : decode cL_isCollected 177 = .ok (.ifCond .ne 10, 3) := by decide +kernel
theorem dL_isCollected_180 : decode cL_isCollected 180 = .ok (.iload 14, 2) := by decide +kernel
theorem dL_isCollected_182 : decode cL_isCollected 182 = .ok (.iload 13, 2) := by decide +kernel
theorem dL_isCollected_184 : decode cL_isCollected 184 = .ok (.if_icmp .ne 63, 3) := by decide +kernel
theorem dL_isCollected_187 : decode cL_isCollected 187 = .ok (.aload_n 0, 1) := by decide +kernel
theorem dL_isCollected_188 : decode cL_isCollected 188 = .ok (.invokevirtual 234, 3) := by decide +kernel
theorem dL_isCollected_191 : decode cL_isCollected 191 = .ok (.iload 7, 2) := by decide +kernel
theorem dL_isCollected_193 : decode cL_isCollected 193 = .ok (.iload 14, 2) := by decide +kernel
theorem dL_isCollected_195 : decode cL_isCollected 195 = .ok (.isub, 1) := by decide +kernel
theorem dL_isCollected_196 : decode cL_isCollected 196 = .ok (.if_icmp .ne 51, 3) := by decide +kernel
theorem dL_isCollected_199 : decode cL_isCollected 199 = .ok (.aload_n 0, 1) := by decide +kernel
theorem dL_isCollected_200 : decode cL_isCollected 200 = .ok (.invokevirtual 213, 3) := by decide +kernel
theorem dL_isCollected_203 : decode cL_isCollected 203 = .ok (.iload_n 3, 1) := by decide +kernel
theorem dL_isCollected_204 : decode cL_isCollected 204 = .ok (.if_icmp .ne 43, 3) := by decide +kernel
theorem dL_isCollected_207 : decode cL_isCollected 207 = .ok (.aload_n 0, 1) := by decide +kernel
theorem dL_isCollected_208 : decode cL_isCollected 208 = .ok (.invokevirtual 308, 3) := by decide +kernel
theorem dL_isCollected_211 : decode cL_isCollected 211 = .ok (.iload 9, 2) := by decide +kernel
theorem dL_isCollected_213 : decode cL_isCollected 213 = .ok (.iload 6, 2) := by decide +kernel
theorem dL_isCollected_215 : decode cL_isCollected 215 = .ok (.ifCond .eq 7, 3) := by decide +kernel
theorem dL_isCollected_218 : decode cL_isCollected 218 = .ok (.iconst 1, 1) := by decide +kernel
theorem dL_isCollected_219 : decode cL_isCollected 219 = .ok (.goto 4, 3) := by decide +kernel
theorem dL_isCollected_222 : decode cL_isCollected 222 = .ok (.iconst 0, 1) := by decide +kernel
theorem dL_isCollected_223 : decode cL_isCollected 223 = .ok (.iadd, 1) := by decide +kernel
theorem dL_isCollected_224 : decode cL_isCollected 224 = .ok (.if_icmp .ne 23, 3) := by decide +kernel
theorem dL_isCollected_227 : decode cL_isCollected 227 = .ok (.aload_n 0, 1) := by decide +kernel
theorem dL_isCollected_228 : decode cL_isCollected 228 = .ok (.invokevirtual 311, 3) := by decide +kernel
theorem dL_isCollected_231 : decode cL_isCollected 231 = .ok (.iload 10, 2) := by decide +kernel
theorem dL_isCollected_233 : decode cL_isCollected 233 = .ok (.iload 6, 2) := by decide +kernel
theorem dL_isCollected_235 : decode cL_isCollected 235 = .ok (.ifCond .eq 7, 3) := by decide +kernel
theorem dL_isCollected_238 : decode cL_isCollected 238 = .ok (.iconst 0, 1) := by decide +kernel
theorem dL_isCollected_239 : decode cL_isCollected 239 = .ok (.goto 4, 3) := by decide +kernel
theorem dL_isCollected_242 : decode cL_isCollected 242 = .ok (.iconst 1, 1) := by decide +kernel
theorem dL_isCollected_243 : decode cL_isCollected 243 = .ok (.iadd, 1) := by decide +kernel
theorem dL_isCollected_244 : decode cL_isCollected 244 = .ok (.if_icmp .eq 5, 3) := by decide +kernel
theorem dL_isCollected_247 : decode cL_isCollected 247 = .ok (.iconst 0, 1) := by decide +kernel
theorem dL_isCollected_248 : decode cL_isCollected 248 = .ok (.ireturn, 1) := by decide +kernel
theorem dL_isCollected_249 : decode cL_isCollected 249 = .ok (.aload_n 0, 1) := by decide +kernel
theorem dL_isCollected_250 : decode cL_isCollected 250 = .ok (.invokevirtual 246, 3) := by decide +kernel
theorem dL_isCollected_253 : decode cL_isCollected 253 = .ok (.iload 11, 2) := by decide +kernel
theorem dL_isCollected_255 : decode cL_isCollected 255 = .ok (.if_icmp .lt 53, 3) := by decide +kernel
theorem dL_isCollected_258 : decode cL_isCollected 258 = .ok (.aload_n 0, 1) := by decide +kernel
theorem dL_isCollected_259 : decode cL_isCollected 259 = .ok (.invokevirtual 243, 3) := by decide +kernel
theorem dL_isCollected_262 : decode cL_isCollected 262 = .ok (.iload 12, 2) := by decide +kernel
theorem dL_isCollected_264 : decode cL_isCollected 264 = .ok (.if_icmp .lt 44, 3) := by decide +kernel
theorem dL_isCollected_267 : decode cL_isCollected 267 = .ok (.iload 6, 2) := by decide +kernel
theorem dL_isCollected_269 : decode cL_isCollected 269 = .ok (.ifCond .eq 17, 3) := by decide +kernel
theorem dL_isCollected_272 : decode cL_isCollected 272 = .ok (.aload_n 0, 1) := by decide +kernel
theorem dL_isCollected_273 : decode cL_isCollected 273 = .ok (.invokevirtual 234, 3) := by decide +kernel
theorem dL_isCollected_276 : decode cL_isCollected 276 = .ok (.aload_n 0, 1) := by decide +kernel
theorem dL_isCollected_277 : decode cL_isCollected 277 = .ok (.invokevirtual 237, 3) := by decide +kernel
theorem dL_isCollected_280 : decode cL_isCollected 280 = .ok (.isub, 1) := by decide +kernel
theorem dL_isCollected_281 : decode cL_isCollected 281 = .ok (.iload 8, 2) := by decide +kernel
theorem dL_isCollected_283 : decode cL_isCollected 283 = .ok (.if_icmp .lt 25, 3) := by decide +kernel
theorem dL_isCollected_286 : decode cL_isCollected 286 = .ok (.iload 6, 2) := by decide +kernel
theorem dL_isCollected_288 : decode cL_isCollected 288 = .ok (.ifCond .ne 22, 3) := by decide +kernel
theorem dL_isCollected_291 : decode cL_isCollected 291 = .ok (.aload_n 0, 1) := by decide +kernel
theorem dL_isCollected_292 : decode cL_isCollected 292 = .ok (.invokevirtual 237, 3) := by decide +kernel
theorem dL_isCollected_295 : decode cL_isCollected 295 = .ok (.ifCond .le 15, 3) := by decide +kernel
theorem dL_isCollected_298 : decode cL_isCollected 298 = .ok (.aload_n 0, 1) := by decide +kernel
theorem dL_isCollected_299 : decode cL_isCollected 299 = .ok (.invokevirtual 228, 3) := by decide +kernel
theorem dL_isCollected_302 : decode cL_isCollected 302 = .ok (.sipush 288, 3) := by decide +kernel
theorem dL_isCollected_305 : decode cL_isCollected 305 = .ok (.if_icmp .gt 5, 3) := by decide +kernel
theorem dL_isCollected_308 : decode cL_isCollected 308 = .ok (.iconst 0, 1) := by decide +kernel
theorem dL_isCollected_309 : decode cL_isCollected 309 = .ok (.ireturn, 1) := by decide +kernel
theorem dL_isCollected_310 : decode cL_isCollected 310 = .ok (.iconst 0, 1) := by decide +kernel
theorem dL_isCollected_311 : decode cL_isCollected 311 = .ok (.istore 15, 2) := by decide +kernel
theorem dL_isCollected_313 : decode cL_isCollected 313 = .ok (.iload 15, 2) := by decide +kernel
theorem dL_isCollected_315 : decode cL_isCollected 315 = .ok (.iload_n 3, 1) := by decide +kernel
theorem dL_isCollected_316 : decode cL_isCollected 316 = .ok (.if_icmp .ge 50, 3) := by decide +kernel
theorem dL_isCollected_319 : decode cL_isCollected 319 = .ok (.aload_n 0, 1) := by decide +kernel
theorem dL_isCollected_320 : decode cL_isCollected 320 = .ok (.iload 15, 2) := by decide +kernel
theorem dL_isCollected_322 : decode cL_isCollected 322 = .ok (.invokevirtual 219, 3) := by decide +kernel
theorem dL_isCollected_325 : decode cL_isCollected 325 = .ok (.ifCond .eq 11, 3) := by decide +kernel
theorem dL_isCollected_328 : decode cL_isCollected 328 = .ok (.aload 4, 2) := by decide +kernel
theorem dL_isCollected_330 : decode cL_isCollected 330 = .ok (.iload 15, 2) := by decide +kernel
theorem dL_isCollected_332 : decode cL_isCollected 332 = .ok (.baload, 1) := by decide +kernel
theorem dL_isCollected_333 : decode cL_isCollected 333 = .ok (.ifCond .eq 25, 3) := by decide +kernel
theorem dL_isCollected_336 : decode cL_isCollected 336 = .ok (.iload_n 2, 1) := by decide +kernel
theorem dL_isCollected_337 : decode cL_isCollected 337 = .ok (.iconst 2, 1) := by decide +kernel
theorem dL_isCollected_338 : decode cL_isCollected 338 = .ok (.if_icmp .ge 22, 3) := by decide +kernel
theorem dL_isCollected_341 : decode cL_isCollected 341 = .ok (.aload 5, 2) := by decide +kernel
theorem dL_isCollected_343 : decode cL_isCollected 343 = .ok (.iload 15, 2) := by decide +kernel
theorem dL_isCollected_345 : decode cL_isCollected 345 = .ok (.baload, 1) := by decide +kernel
theorem dL_isCollected_346 : decode cL_isCollected 346 = .ok (.ifCond .eq 14, 3) := by decide +kernel
theorem dL_isCollected_349 : decode cL_isCollected 349 = .ok (.aload_n 0, 1) := by decide +kernel
theorem dL_isCollected_350 : decode cL_isCollected 350 = .ok (.iload 15, 2) := by decide +kernel
theorem dL_isCollected_352 : decode cL_isCollected 352 = .ok (.invokevirtual 216, 3) := by decide +kernel
theorem dL_isCollected_355 : decode cL_isCollected 355 = .ok (.ifCond .ne 5, 3) := by decide +kernel
theorem dL_isCollected_358 : decode cL_isCollected 358 = .ok (.iconst 0, 1) := by decide +kernel
theorem dL_isCollected_359 : decode cL_isCollected 359 = .ok (.ireturn, 1) := by decide +kernel
theorem dL_isCollected_360 : decode cL_isCollected 360 = .ok (.iinc 15 1, 3) := by decide +kernel
theorem dL_isCollected_363 : decode cL_isCollected 363 = .ok (.goto (-50), 3) := by decide +kernel
theorem dL_isCollected_366 : decode cL_isCollected 366 = .ok (.iload 6, 2) := by decide +kernel
theorem dL_isCollected_368 : decode cL_isCollected 368 = .ok (.ifCond .ne 36, 3) := by decide +kernel
theorem dL_isCollected_371 : decode cL_isCollected 371 = .ok (.iload_n 2, 1) := by decide +kernel
theorem dL_isCollected_372 : decode cL_isCollected 372 = .ok (.iconst 2, 1) := by decide +kernel
theorem dL_isCollected_373 : decode cL_isCollected 373 = .ok (.if_icmp .eq 31, 3) := by decide +kernel
theorem dL_isCollected_376 : decode cL_isCollected 376 = .ok (.aload_n 0, 1) := by decide +kernel
theorem dL_isCollected_377 : decode cL_isCollected 377 = .ok (.invokevirtual 246, 3) := by decide +kernel
theorem dL_isCollected_380 : decode cL_isCollected 380 = .ok (.iload 11, 2) := by decide +kernel
theorem dL_isCollected_382 : decode cL_isCollected 382 = .ok (.if_icmp .gt 22, 3) := by decide +kernel
theorem dL_isCollected_385 : decode cL_isCollected 385 = .ok (.aload_n 0, 1) := by decide +kernel
theorem dL_isCollected_386 : decode cL_isCollected 386 = .ok (.invokevirtual 234, 3) := by decide +kernel
theorem dL_isCollected_389 : decode cL_isCollected 389 = .ok (.aload_n 0, 1) := by decide +kernel
theorem dL_isCollected_390 : decode cL_isCollected 390 = .ok (.invokestatic 317, 3) := by decide +kernel
theorem dL_isCollected_393 : decode cL_isCollected 393 = .ok (.if_icmp .ne 15, 3) := by decide +kernel
theorem dL_isCollected_396 : decode cL_isCollected 396 = .ok (.aload_n 0, 1) := by decide +kernel
theorem dL_isCollected_397 : decode cL_isCollected 397 = .ok (.iconst 0, 1) := by decide +kernel
theorem dL_isCollected_398 : decode cL_isCollected 398 = .ok (.invokevirtual 253, 3) := by decide +kernel
theorem dL_isCollected_401 : decode cL_isCollected 401 = .ok (.ifCond .ne 7, 3) := by decide +kernel
theorem dL_isCollected_404 : decode cL_isCollected 404 = .ok (.iconst 1, 1) := by decide +kernel
theorem dL_isCollected_405 : decode cL_isCollected 405 = .ok (.goto 4, 3) := by decide +kernel
theorem dL_isCollected_408 : decode cL_isCollected 408 = .ok (.iconst 0, 1) := by decide +kernel
theorem dL_isCollected_409 : decode cL_isCollected 409 = .ok (.ireturn, 1) := by decide +kernel
theorem dL_isMarked_0 : decode cL_isMarked 0 = .ok (.aload_n 0, 1) := by decide +kernel
theorem dL_isMarked_1 : decode cL_isMarked 1 = .ok (.invokestatic 317, 3) := by decide +kernel
theorem dL_isMarked_4 : decode cL_isMarked 4 = .ok (.istore_n 3, 1) := by decide +kernel
theorem dL_isMarked_5 : decode cL_isMarked 5 = .ok (.aload_n 0, 1) := by decide +kernel
theorem dL_isMarked_6 : decode cL_isMarked 6 = .ok (.invokevirtual 311, 3) := by decide +kernel
theorem dL_isMarked_9 : decode cL_isMarked 9 = .ok (.istore 4, 2) := by decide +kernel
theorem dL_isMarked_11 : decode cL_isMarked 11 = .ok (.aload_n 0, 1) := by decide +kernel
theorem dL_isMarked_12 : decode cL_isMarked 12 = .ok (.invokevirtual 213, 3) := by decide +kernel
theorem dL_isMarked_15 : decode cL_isMarked 15 = .ok (.istore 5, 2) := by decide +kernel
theorem dL_isMarked_17 : decode cL_isMarked 17 = .ok (.iload 5, 2) := by decide +kernel
theorem dL_isMarked_19 : decode cL_isMarked 19 = .ok (.newarray .boolean, 2) := by decide +kernel
theorem dL_isMarked_21 : decode cL_isMarked 21 = .ok (.astore 6, 2) := by decide +kernel
theorem dL_isMarked_23 : decode cL_isMarked 23 = .ok (.iconst 0, 1) := by decide +kernel
theorem dL_isMarked_24 : decode cL_isMarked 24 = .ok (.istore 7, 2) := by decide +kernel
theorem dL_isMarked_26 : decode cL_isMarked 26 = .ok (.iload 7, 2) := by decide +kernel
theorem dL_isMarked_28 : decode cL_isMarked 28 = .ok (.iload 5, 2) := by decide +kernel
theorem dL_isMarked_30 : decode cL_isMarked 30 = .ok (.if_icmp .ge 20, 3) := by decide +kernel
theorem dL_isMarked_33 : decode cL_isMarked 33 = .ok (.aload 6, 2) := by decide +kernel
theorem dL_isMarked_35 : decode cL_isMarked 35 = .ok (.iload 7, 2) := by decide +kernel
theorem dL_isMarked_37 : decode cL_isMarked 37 = .ok (.aload_n 0, 1) := by decide +kernel
theorem dL_isMarked_38 : decode cL_isMarked 38 = .ok (.iload 7, 2) := by decide +kernel
theorem dL_isMarked_40 : decode cL_isMarked 40 = .ok (.invokevirtual 216, 3) := by decide +kernel
theorem dL_isMarked_43 : decode cL_isMarked 43 = .ok (.bastore, 1) := by decide +kernel
theorem dL_isMarked_44 : decode cL_isMarked 44 = .ok (.iinc 7 1, 3) := by decide +kernel
theorem dL_isMarked_47 : decode cL_isMarked 47 = .ok (.goto (-21), 3) := by decide +kernel
theorem dL_isMarked_50 : decode cL_isMarked 50 = .ok (.aload_n 0, 1) := by decide +kernel
theorem dL_isMarked_51 : decode cL_isMarked 51 = .ok (.invokevirtual 131, 3) := by decide +kernel
theorem dL_isMarked_54 : decode cL_isMarked 54 = .ok (.istore 7, 2) := by decide +kernel
theorem dL_isMarked_56 : decode cL_isMarked 56 = .ok (.iload 7, 2) := by decide +kernel
theorem dL_isMarked_58 : decode cL_isMarked 58 = .ok (.aload_n 1, 1) := by decide +kernel
theorem dL_isMarked_59 : decode cL_isMarked 59 = .ok (.invokevirtual 321, 3) := by decide +kernel
theorem dL_isMarked_62 : decode cL_isMarked 62 = .ok (.if_icmp .ne 9, 3) := by decide +kernel
theorem dL_isMarked_65 : decode cL_isMarked 65 = .ok (.iload 7, 2) := by decide +kernel
theorem dL_isMarked_67 : decode cL_isMarked 67 = .ok (.iload_n 3, 1) := by decide +kernel
theorem dL_isMarked_68 : decode cL_isMarked 68 = .ok (.if_icmp .le 5, 3) := by decide +kernel
theorem dL_isMarked_71 : decode cL_isMarked 71 = .ok (.iconst 0, 1) := by decide +kernel
theorem dL_isMarked_72 : decode cL_isMarked 72 = .ok (.ireturn, 1) := by decide +kernel
theorem dL_isMarked_73 : decode cL_isMarked 73 = .ok (.iconst 0, 1) := by decide +kernel
theorem dL_isMarked_74 : decode cL_isMarked 74 = .ok (.istore 8, 2) := by decide +kernel
theorem dL_isMarked_76 : decode cL_isMarked 76 = .ok (.aload_n 0, 1) := by decide +kernel
theorem dL_isMarked_77 : decode cL_isMarked 77 = .ok (.invokevirtual 324, 3) := by decide +kernel
theorem dL_isMarked_80 : decode cL_isMarked 80 = .ok (.ifCond .eq 71, 3) := by decide +kernel
theorem dL_isMarked_83 : decode cL_isMarked 83 = .ok (.aload_n 0, 1) := by decide +kernel
theorem dL_isMarked_84 : decode cL_isMarked 84 = .ok (.iload_n 2, 1) := by decide +kernel
theorem dL_isMarked_85 : decode cL_isMarked 85 = .ok (.invokevirtual 134, 3) := by decide +kernel
theorem dL_isMarked_88 : decode cL_isMarked 88 = .ok (.istore 9, 2) := by decide +kernel
theorem dL_isMarked_90 : decode cL_isMarked 90 = .ok (.iload 8, 2) := by decide +kernel
theorem dL_isMarked_92 : decode cL_isMarked 92 = .ok (.iload 9, 2) := by decide +kernel
theorem dL_isMarked_94 : decode cL_isMarked 94 = .ok (.iadd, 1) := by decide +kernel
theorem dL_isMarked_95 : decode cL_isMarked 95 = .ok (.istore 8, 2) := by decide +kernel
theorem dL_isMarked_97 : decode cL_isMarked 97 = .ok (.iload 9, 2) := by decide +kernel
theorem dL_isMarked_99 : decode cL_isMarked 99 = .ok (.aload_n 1, 1) := by decide +kernel
theorem dL_isMarked_100 : decode cL_isMarked 100 = .ok (.bipush 37, 2) := by decide +kernel
theorem dL_isMarked_102 : decode cL_isMarked 102 = .ok (.iload_n 2, 1) := by decide +kernel
theorem dL_isMarked_103 : decode cL_isMarked 103 = .ok (.iconst 0, 1) := by decide +kernel
theorem dL_isMarked_104 : decode cL_isMarked 104 = .ok (.iconst 0, 1) := by decide +kernel
theorem dL_isMarked_105 : decode cL_isMarked 105 = .ok (.invokevirtual 149, 3) := by decide +kernel
theorem dL_isMarked_108 : decode cL_isMarked 108 = .ok (.if_icmp .ne 38, 3) := by decide +kernel
theorem dL_isMarked_111 : decode cL_isMarked 111 = .ok (.iload 9, 2) := by decide +kernel
theorem dL_isMarked_113 : decode cL_isMarked 113 = .ok (.ifCond .lt 33, 3) := by decide +kernel
theorem dL_isMarked_116 : decode cL_isMarked 116 = .ok (.iload 9, 2) := by decide +kernel
theorem dL_isMarked_118 : decode cL_isMarked 118 = .ok (.iload_n 2, 1) := by decide +kernel
theorem dL_isMarked_119 : decode cL_isMarked 119 = .ok (.if_icmp .gt 27, 3) := by decide +kernel
theorem dL_isMarked_122 : decode cL_isMarked 122 = .ok (.iload 8, 2) := by decide +kernel
theorem dL_isMarked_124 : decode cL_isMarked 124 = .ok (.iload_n 3, 1) := by decide +kernel
theorem dL_isMarked_125 : decode cL_isMarked 125 = .ok (.if_icmp .gt 21, 3) := by decide +kernel
theorem dL_isMarked_128 : decode cL_isMarked 128 = .ok (.aload_n 0, 1) := by decide +kernel
theorem dL_isMarked_129 : decode cL_isMarked 129 = .ok (.invokevirtual 324, 3) := by decide +kernel
theorem dL_isMarked_132 : decode cL_isMarked 132 = .ok (.iload 8, 2) := by decide +kernel
theorem dL_isMarked_134 : decode cL_isMarked 134 = .ok (.iload_n 3, 1) := by decide +kernel
theorem dL_isMarked_135 : decode cL_isMarked 135 = .ok (.if_icmp .ge 7, 3) := by decide +kernel
theorem dL_isMarked_138 : decode cL_isMarked 138 = .ok (.iconst 1, 1) := by decide +kernel
theorem dL_isMarked_139 : decode cL_isMarked 139 = .ok (.goto 4, 3) := by decide +kernel
theorem dL_isMarked_142 : decode cL_isMarked 142 = .ok (.iconst 0, 1) := by decide +kernel
theorem dL_isMarked_143 : decode cL_isMarked 143 = .ok (.if_icmp .eq 5, 3) := by decide +kernel
theorem dL_isMarked_146 : decode cL_isMarked 146 = .ok (.iconst 0, 1) := by decide +kernel
theorem dL_isMarked_147 : decode cL_isMarked 147 = .ok (.ireturn, 1) := by decide +kernel
theorem dL_isMarked_148 : decode cL_isMarked 148 = .ok (.goto (-72), 3) := by decide +kernel
theorem dL_isMarked_151 : decode cL_isMarked 151 = .ok (.iconst 0, 1) := by decide +kernel
theorem dL_isMarked_152 : decode cL_isMarked 152 = .ok (.istore 9, 2) := by decide +kernel
theorem dL_isMarked_154 : decode cL_isMarked 154 = .ok (.iload 9, 2) := by decide +kernel
theorem dL_isMarked_156 : decode cL_isMarked 156 = .ok (.iload 5, 2) := by decide +kernel
theorem dL_isMarked_158 : decode cL_isMarked 158 = .ok (.if_icmp .ge 28, 3) := by decide +kernel
theorem dL_isMarked_161 : decode cL_isMarked 161 = .ok (.aload 6, 2) := by decide +kernel
theorem dL_isMarked_163 : decode cL_isMarked 163 = .ok (.iload 9, 2) := by decide +kernel
theorem dL_isMarked_165 : decode cL_isMarked 165 = .ok (.baload, 1) := by decide +kernel
theorem dL_isMarked_166 : decode cL_isMarked 166 = .ok (.ifCond .eq 14, 3) := by decide +kernel
theorem dL_isMarked_169 : decode cL_isMarked 169 = .ok (.aload_n 0, 1) := by decide +kernel
theorem dL_isMarked_170 : decode cL_isMarked 170 = .ok (.iload 9, 2) := by decide +kernel
theorem dL_isMarked_172 : decode cL_isMarked 172 = .ok (.invokevirtual 216, 3) := by decide +kernel
theorem dL_isMarked_175 : decode cL_isMarked 175 = .ok (.ifCond .ne 5, 3) := by decide +kernel
theorem dL_isMarked_178 : decode cL_isMarked 178 = .ok (.iconst 0, 1) := by decide +kernel
theorem dL_isMarked_179 : decode cL_isMarked 179 = .ok (.ireturn, 1) := by decide +kernel
theorem dL_isMarked_180 : decode cL_isMarked 180 = .ok (.iinc 9 1, 3) := by decide +kernel
theorem dL_isMarked_183 : decode cL_isMarked 183 = .ok (.goto (-29), 3) := by decide +kernel
theorem dL_isMarked_186 : decode cL_isMarked 186 = .ok (.iload 8, 2) := by decide +kernel
theorem dL_isMarked_188 : decode cL_isMarked 188 = .ok (.iload_n 3, 1) := by decide +kernel
theorem dL_isMarked_189 : decode cL_isMarked 189 = .ok (.if_icmp .ne 18, 3) := by decide +kernel
theorem dL_isMarked_192 : decode cL_isMarked 192 = .ok (.aload_n 0, 1) := by decide +kernel
theorem dL_isMarked_193 : decode cL_isMarked 193 = .ok (.invokevirtual 311, 3) := by decide +kernel
theorem dL_isMarked_196 : decode cL_isMarked 196 = .ok (.iload 4, 2) := by decide +kernel
theorem dL_isMarked_198 : decode cL_isMarked 198 = .ok (.iconst 1, 1) := by decide +kernel
theorem dL_isMarked_199 : decode cL_isMarked 199 = .ok (.iadd, 1) := by decide +kernel
theorem dL_isMarked_200 : decode cL_isMarked 200 = .ok (.if_icmp .ne 7, 3) := by decide +kernel
theorem dL_isMarked_203 : decode cL_isMarked 203 = .ok (.iconst 1, 1) := by decide +kernel
theorem dL_isMarked_204 : decode cL_isMarked 204 = .ok (.goto 4, 3) := by decide +kernel
theorem dL_isMarked_207 : decode cL_isMarked 207 = .ok (.iconst 0, 1) := by decide +kernel
theorem dL_isMarked_208 : decode cL_isMarked 208 = .ok (.ireturn, 1) := by decide +kernel
theorem dL_law_0 : decode cL_law 0 = .ok (.new 12, 3) := by decide +kernel
theorem dL_law_3 : decode cL_law 3 = .ok (.dup, 1) := by decide +kernel
theorem dL_law_4 : decode cL_law 4 = .ok (.invokespecial 327, 3) := by decide +kernel
theorem dL_law_7 : decode cL_law 7 = .ok (.astore_n 1, 1) := by decide +kernel
theorem dL_law_8 : decode cL_law 8 = .ok (.aload_n 1, 1) := by decide +kernel
theorem dL_law_9 : decode cL_law 9 = .ok (.aload_n 0, 1) := by decide +kernel
theorem dL_law_10 : decode cL_law 10 = .ok (.bipush 24, 2) := by decide +kernel
theorem dL_law_12 : decode cL_law 12 = .ok (.invokestatic 328, 3) := by decide +kernel
theorem dL_law_15 : decode cL_law 15 = .ok (.astore_n 2, 1) := by decide +kernel
theorem dL_law_16 : decode cL_law 16 = .ok (.aload_n 2, 1) := by decide +kernel
theorem dL_law_17 : decode cL_law 17 = .ok (.ifnonnull 5, 3) := by decide +kernel
theorem dL_law_20 : decode cL_law 20 = .ok (.iconst 0, 1) := by decide +kernel
theorem dL_law_21 : decode cL_law 21 = .ok (.ireturn, 1) := by decide +kernel
theorem dL_law_22 : decode cL_law 22 = .ok (.iconst 0, 1) := by decide +kernel
theorem dL_law_23 : decode cL_law 23 = .ok (.istore_n 3, 1) := by decide +kernel
theorem dL_law_24 : decode cL_law 24 = .ok (.iload_n 3, 1) := by decide +kernel
theorem dL_law_25 : decode cL_law 25 = .ok (.bipush 8, 2) := by decide +kernel
theorem dL_law_27 : decode cL_law 27 = .ok (.if_icmp .ge 166, 3) := by decide +kernel
theorem dL_law_30 : decode cL_law 30 = .ok (.aload_n 0, 1) := by decide +kernel
theorem dL_law_31 : decode cL_law 31 = .ok (.iload_n 3, 1) := by decide +kernel
theorem dL_law_32 : decode cL_law 32 = .ok (.bipush 16, 2) := by decide +kernel
theorem dL_law_34 : decode cL_law 34 = .ok (.irem, 1) := by decide +kernel
theorem dL_law_35 : decode cL_law 35 = .ok (.invokestatic 205, 3) := by decide +kernel
theorem dL_law_38 : decode cL_law 38 = .ok (.bipush 83, 2) := by decide +kernel
theorem dL_law_40 : decode cL_law 40 = .ok (.iload_n 3, 1) := by decide +kernel
theorem dL_law_41 : decode cL_law 41 = .ok (.imul, 1) := by decide +kernel
theorem dL_law_42 : decode cL_law 42 = .ok (.iadd, 1) := by decide +kernel
theorem dL_law_43 : decode cL_law 43 = .ok (.bipush 29, 2) := by decide +kernel
theorem dL_law_45 : decode cL_law 45 = .ok (.iadd, 1) := by decide +kernel
theorem dL_law_46 : decode cL_law 46 = .ok (.invokestatic 166, 3) := by decide +kernel
theorem dL_law_49 : decode cL_law 49 = .ok (.istore 4, 2) := by decide +kernel
theorem dL_law_51 : decode cL_law 51 = .ok (.iconst 0, 1) := by decide +kernel
theorem dL_law_52 : decode cL_law 52 = .ok (.istore 5, 2) := by decide +kernel
theorem dL_law_54 : decode cL_law 54 = .ok (.iload 5, 2) := by decide +kernel
theorem dL_law_56 : decode cL_law 56 = .ok (.bipush 9, 2) := by decide +kernel
theorem dL_law_58 : decode cL_law 58 = .ok (.if_icmp .ge 42, 3) := by decide +kernel
theorem dL_law_61 : decode cL_law 61 = .ok (.aload_n 1, 1) := by decide +kernel
theorem dL_law_62 : decode cL_law 62 = .ok (.aload_n 2, 1) := by decide +kernel
theorem dL_law_63 : decode cL_law 63 = .ok (.aload_n 0, 1) := by decide +kernel
theorem dL_law_64 : decode cL_law 64 = .ok (.iload 5, 2) := by decide +kernel
theorem dL_law_66 : decode cL_law 66 = .ok (.iload_n 3, 1) := by decide +kernel
theorem dL_law_67 : decode cL_law 67 = .ok (.iadd, 1) := by decide +kernel
theorem dL_law_68 : decode cL_law 68 = .ok (.invokestatic 205, 3) := by decide +kernel
theorem dL_law_71 : decode cL_law 71 = .ok (.bipush 59, 2) := by decide +kernel
theorem dL_law_73 : decode cL_law 73 = .ok (.iload 5, 2) := by decide +kernel
theorem dL_law_75 : decode cL_law 75 = .ok (.imul, 1) := by decide +kernel
theorem dL_law_76 : decode cL_law 76 = .ok (.iadd, 1) := by decide +kernel
theorem dL_law_77 : decode cL_law 77 = .ok (.sipush 607, 3) := by decide +kernel
theorem dL_law_80 : decode cL_law 80 = .ok (.iload_n 3, 1) := by decide +kernel
theorem dL_law_81 : decode cL_law 81 = .ok (.imul, 1) := by decide +kernel
theorem dL_law_82 : decode cL_law 82 = .ok (.iadd, 1) := by decide +kernel
theorem dL_law_83 : decode cL_law 83 = .ok (.bipush 11, 2) := by decide +kernel
theorem dL_law_85 : decode cL_law 85 = .ok (.iadd, 1) := by decide +kernel
theorem dL_law_86 : decode cL_law 86 = .ok (.invokestatic 209, 3) := by decide +kernel
theorem dL_law_89 : decode cL_law 89 = .ok (.ifCond .ne 5, 3) := by decide +kernel
theorem dL_law_92 : decode cL_law 92 = .ok (.iconst 0, 1) := by decide +kernel
theorem dL_law_93 : decode cL_law 93 = .ok (.ireturn, 1) := by decide +kernel
theorem dL_law_94 : decode cL_law 94 = .ok (.iinc 5 1, 3) := by decide +kernel
theorem dL_law_97 : decode cL_law 97 = .ok (.goto (-43), 3) := by decide +kernel
theorem dL_law_100 : decode cL_law 100 = .ok (.aload_n 1, 1) := by decide +kernel
theorem dL_law_101 : decode cL_law 101 = .ok (.invokevirtual 332, 3) := by decide +kernel
theorem dL_law_104 : decode cL_law 104 = .ok (.lstore 5, 2) := by decide +kernel
theorem dL_law_106 : decode cL_law 106 = .ok (.aload_n 1, 1) := by decide +kernel
theorem dL_law_107 : decode cL_law 107 = .ok (.invokestatic 336, 3) := by decide +kernel
theorem dL_law_110 : decode cL_law 110 = .ok (.ifCond .eq 13, 3) := by decide +kernel
theorem dL_law_113 : decode cL_law 113 = .ok (.aload_n 1, 1) := by decide +kernel
theorem dL_law_114 : decode cL_law 114 = .ok (.invokevirtual 332, 3) := by decide +kernel
theorem dL_law_117 : decode cL_law 117 = .ok (.lload 5, 2) := by decide +kernel
theorem dL_law_119 : decode cL_law 119 = .ok (.lcmp, 1) := by decide +kernel
theorem dL_law_120 : decode cL_law 120 = .ok (.ifCond .eq 5, 3) := by decide +kernel
theorem dL_law_123 : decode cL_law 123 = .ok (.iconst 0, 1) := by decide +kernel
theorem dL_law_124 : decode cL_law 124 = .ok (.ireturn, 1) := by decide +kernel
theorem dL_law_125 : decode cL_law 125 = .ok (.aload_n 2, 1) := by decide +kernel
theorem dL_law_126 : decode cL_law 126 = .ok (.getfield 201, 3) := by decide +kernel
theorem dL_law_129 : decode cL_law 129 = .ok (.ifCond .eq 6, 3) := by decide +kernel
theorem dL_law_132 : decode cL_law 132 = .ok (.goto 55, 3) := by decide +kernel
theorem dL_law_135 : decode cL_law 135 = .ok (.iload 4, 2) := by decide +kernel
theorem dL_law_137 : decode cL_law 137 = .ok (.bipush 6, 2) := by decide +kernel
theorem dL_law_139 : decode cL_law 139 = .ok (.invokestatic 169, 3) := by decide +kernel
theorem dL_law_142 : decode cL_law 142 = .ok (.istore 7, 2) := by decide +kernel
theorem dL_law_144 : decode cL_law 144 = .ok (.iload 7, 2) := by decide +kernel
theorem dL_law_146 : decode cL_law 146 = .ok (.iconst 3, 1) := by decide +kernel
theorem dL_law_147 : decode cL_law 147 = .ok (.if_icmp .ge 13, 3) := by decide +kernel
theorem dL_law_150 : decode cL_law 150 = .ok (.aload_n 1, 1) := by decide +kernel
theorem dL_law_151 : decode cL_law 151 = .ok (.aload_n 2, 1) := by decide +kernel
theorem dL_law_152 : decode cL_law 152 = .ok (.iload 7, 2) := by decide +kernel
theorem dL_law_154 : decode cL_law 154 = .ok (.invokestatic 340, 3) := by decide +kernel
theorem dL_law_157 : decode cL_law 157 = .ok (.ifCond .eq 28, 3) := by decide +kernel
theorem dL_law_160 : decode cL_law 160 = .ok (.iload 7, 2) := by decide +kernel
theorem dL_law_162 : decode cL_law 162 = .ok (.iconst 3, 1) := by decide +kernel
theorem dL_law_163 : decode cL_law 163 = .ok (.if_icmp .ne 24, 3) := by decide +kernel
theorem dL_law_166 : decode cL_law 166 = .ok (.aload_n 1, 1) := by decide +kernel
theorem dL_law_167 : decode cL_law 167 = .ok (.aload_n 2, 1) := by decide +kernel
theorem dL_law_168 : decode cL_law 168 = .ok (.iconst 1, 1) := by decide +kernel
theorem dL_law_169 : decode cL_law 169 = .ok (.iload 4, 2) := by decide +kernel
theorem dL_law_171 : decode cL_law 171 = .ok (.iconst 4, 1) := by decide +kernel
theorem dL_law_172 : decode cL_law 172 = .ok (.ishr, 1) := by decide +kernel
theorem dL_law_173 : decode cL_law 173 = .ok (.bipush 50, 2) := by decide +kernel
theorem dL_law_175 : decode cL_law 175 = .ok (.invokestatic 169, 3) := by decide +kernel
theorem dL_law_178 : decode cL_law 178 = .ok (.iadd, 1) := by decide +kernel
theorem dL_law_179 : decode cL_law 179 = .ok (.invokestatic 343, 3) := by decide +kernel
theorem dL_law_182 : decode cL_law 182 = .ok (.ifCond .ne 5, 3) := by decide +kernel
theorem dL_law_185 : decode cL_law 185 = .ok (.iconst 0, 1) := by decide +kernel
theorem dL_law_186 : decode cL_law 186 = .ok (.ireturn, 1) := by decide +kernel
theorem dL_law_187 : decode cL_law 187 = .ok (.iinc 3 1, 3) := by decide +kernel
theorem dL_law_190 : decode cL_law 190 = .ok (.goto (-166), 3) := by decide +kernel
theorem dL_law_193 : decode cL_law 193 = .ok (.aload_n 1, 1) := by decide +kernel
theorem dL_law_194 : decode cL_law 194 = .ok (.invokestatic 336, 3) := by decide +kernel
theorem dL_law_197 : decode cL_law 197 = .ok (.ifCond .eq 15, 3) := by decide +kernel
theorem dL_law_200 : decode cL_law 200 = .ok (.aload_n 2, 1) := by decide +kernel
theorem dL_law_201 : decode cL_law 201 = .ok (.aload_n 1, 1) := by decide +kernel
theorem dL_law_202 : decode cL_law 202 = .ok (.invokevirtual 346, 3) := by decide +kernel
theorem dL_law_205 : decode cL_law 205 = .ok (.ifCond .eq 7, 3) := by decide +kernel
theorem dL_law_208 : decode cL_law 208 = .ok (.iconst 1, 1) := by decide +kernel
theorem dL_law_209 : decode cL_law 209 = .ok (.goto 4, 3) := by decide +kernel
theorem dL_law_212 : decode cL_law 212 = .ok (.iconst 0, 1) := by decide +kernel
theorem dL_law_213 : decode cL_law 213 = .ok (.ireturn, 1) := by decide +kernel
