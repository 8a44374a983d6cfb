theorem dL_law_0 : decode cL_law 0 = .ok (.new 7, 3) := by decide +kernel
theorem dL_law_3 : decode cL_law 3 = .ok (.dup, 1) := by decide +kernel
theorem dL_law_4 : decode cL_law 4 = .ok (.invokespecial 9, 3) := by decide +kernel
theorem dL_law_7 : decode cL_law 7 = .ok (.astore_n 1, 1) := by decide +kernel
theorem dL_law_8 : decode cL_law 8 = .ok (.new 10, 3) := by decide +kernel
theorem dL_law_11 : decode cL_law 11 = .ok (.dup, 1) := by decide +kernel
theorem dL_law_12 : decode cL_law 12 = .ok (.invokespecial 12, 3) := by decide +kernel
theorem dL_law_15 : decode cL_law 15 = .ok (.astore_n 2, 1) := by decide +kernel
theorem dL_law_16 : decode cL_law 16 = .ok (.iconst 0, 1) := by decide +kernel
theorem dL_law_17 : decode cL_law 17 = .ok (.istore_n 3, 1) := by decide +kernel
theorem dL_law_18 : decode cL_law 18 = .ok (.iload_n 3, 1) := by decide +kernel
theorem dL_law_19 : decode cL_law 19 = .ok (.aload_n 0, 1) := by decide +kernel
theorem dL_law_20 : decode cL_law 20 = .ok (.arraylength, 1) := by decide +kernel
theorem dL_law_21 : decode cL_law 21 = .ok (.bipush 10, 2) := by decide +kernel
theorem dL_law_23 : decode cL_law 23 = .ok (.isub, 1) := by decide +kernel
theorem dL_law_24 : decode cL_law 24 = .ok (.if_icmp .gt 1141, 3) := by decide +kernel
theorem dL_law_27 : decode cL_law 27 = .ok (.aload_n 0, 1) := by decide +kernel
theorem dL_law_28 : decode cL_law 28 = .ok (.iload_n 3, 1) := by decide +kernel
theorem dL_law_29 : decode cL_law 29 = .ok (.iaload, 1) := by decide +kernel
theorem dL_law_30 : decode cL_law 30 = .ok (.bipush 31, 2) := by decide +kernel
theorem dL_law_32 : decode cL_law 32 = .ok (.iand, 1) := by decide +kernel
theorem dL_law_33 : decode cL_law 33 = .ok (.tableswitch 1126 0 27 #[127, 140, 154, 168, 211, 284, 318, 381, 404, 417, 460, 483, 526, 575, 618, 729, 742, 781, 830, 853, 886, 909, 958, 981, 1014, 1047, 1070, 1103], 127) := by decide +kernel
theorem dL_law_160 : decode cL_law 160 = .ok (.aload_n 1, 1) := by decide +kernel
theorem dL_law_161 : decode cL_law 161 = .ok (.invokevirtual 13, 3) := by decide +kernel
theorem dL_law_164 : decode cL_law 164 = .ok (.aload_n 2, 1) := by decide +kernel
theorem dL_law_165 : decode cL_law 165 = .ok (.invokevirtual 17, 3) := by decide +kernel
theorem dL_law_168 : decode cL_law 168 = .ok (.if_icmp .eq 991, 3) := by decide +kernel
theorem dL_law_171 : decode cL_law 171 = .ok (.iconst 0, 1) := by decide +kernel
theorem dL_law_172 : decode cL_law 172 = .ok (.ireturn, 1) := by decide +kernel
theorem dL_law_173 : decode cL_law 173 = .ok (.aload_n 1, 1) := by decide +kernel
theorem dL_law_174 : decode cL_law 174 = .ok (.invokevirtual 18, 3) := by decide +kernel
theorem dL_law_177 : decode cL_law 177 = .ok (.aload_n 2, 1) := by decide +kernel
theorem dL_law_178 : decode cL_law 178 = .ok (.invokevirtual 22, 3) := by decide +kernel
theorem dL_law_181 : decode cL_law 181 = .ok (.lcmp, 1) := by decide +kernel
theorem dL_law_182 : decode cL_law 182 = .ok (.ifCond .eq 977, 3) := by decide +kernel
theorem dL_law_185 : decode cL_law 185 = .ok (.iconst 0, 1) := by decide +kernel
theorem dL_law_186 : decode cL_law 186 = .ok (.ireturn, 1) := by decide +kernel
theorem dL_law_187 : decode cL_law 187 = .ok (.aload_n 1, 1) := by decide +kernel
theorem dL_law_188 : decode cL_law 188 = .ok (.invokevirtual 23, 3) := by decide +kernel
theorem dL_law_191 : decode cL_law 191 = .ok (.aload_n 2, 1) := by decide +kernel
theorem dL_law_192 : decode cL_law 192 = .ok (.invokevirtual 26, 3) := by decide +kernel
theorem dL_law_195 : decode cL_law 195 = .ok (.lcmp, 1) := by decide +kernel
theorem dL_law_196 : decode cL_law 196 = .ok (.ifCond .eq 963, 3) := by decide +kernel
theorem dL_law_199 : decode cL_law 199 = .ok (.iconst 0, 1) := by decide +kernel
theorem dL_law_200 : decode cL_law 200 = .ok (.ireturn, 1) := by decide +kernel
theorem dL_law_201 : decode cL_law 201 = .ok (.aload_n 1, 1) := by decide +kernel
theorem dL_law_202 : decode cL_law 202 = .ok (.aload_n 0, 1) := by decide +kernel
theorem dL_law_203 : decode cL_law 203 = .ok (.iload_n 3, 1) := by decide +kernel
theorem dL_law_204 : decode cL_law 204 = .ok (.iconst 1, 1) := by decide +kernel
theorem dL_law_205 : decode cL_law 205 = .ok (.iadd, 1) := by decide +kernel
theorem dL_law_206 : decode cL_law 206 = .ok (.iaload, 1) := by decide +kernel
theorem dL_law_207 : decode cL_law 207 = .ok (.aload_n 0, 1) := by decide +kernel
theorem dL_law_208 : decode cL_law 208 = .ok (.iload_n 3, 1) := by decide +kernel
theorem dL_law_209 : decode cL_law 209 = .ok (.iconst 2, 1) := by decide +kernel
theorem dL_law_210 : decode cL_law 210 = .ok (.iadd, 1) := by decide +kernel
theorem dL_law_211 : decode cL_law 211 = .ok (.iaload, 1) := by decide +kernel
theorem dL_law_212 : decode cL_law 212 = .ok (.aload_n 0, 1) := by decide +kernel
theorem dL_law_213 : decode cL_law 213 = .ok (.iload_n 3, 1) := by decide +kernel
theorem dL_law_214 : decode cL_law 214 = .ok (.iconst 3, 1) := by decide +kernel
theorem dL_law_215 : decode cL_law 215 = .ok (.iadd, 1) := by decide +kernel
theorem dL_law_216 : decode cL_law 216 = .ok (.iaload, 1) := by decide +kernel
theorem dL_law_217 : decode cL_law 217 = .ok (.invokevirtual 27, 3) := by decide +kernel
theorem dL_law_220 : decode cL_law 220 = .ok (.aload_n 2, 1) := by decide +kernel
theorem dL_law_221 : decode cL_law 221 = .ok (.aload_n 0, 1) := by decide +kernel
theorem dL_law_222 : decode cL_law 222 = .ok (.iload_n 3, 1) := by decide +kernel
theorem dL_law_223 : decode cL_law 223 = .ok (.iconst 1, 1) := by decide +kernel
theorem dL_law_224 : decode cL_law 224 = .ok (.iadd, 1) := by decide +kernel
theorem dL_law_225 : decode cL_law 225 = .ok (.iaload, 1) := by decide +kernel
theorem dL_law_226 : decode cL_law 226 = .ok (.aload_n 0, 1) := by decide +kernel
theorem dL_law_227 : decode cL_law 227 = .ok (.iload_n 3, 1) := by decide +kernel
theorem dL_law_228 : decode cL_law 228 = .ok (.iconst 2, 1) := by decide +kernel
theorem dL_law_229 : decode cL_law 229 = .ok (.iadd, 1) := by decide +kernel
theorem dL_law_230 : decode cL_law 230 = .ok (.iaload, 1) := by decide +kernel
theorem dL_law_231 : decode cL_law 231 = .ok (.aload_n 0, 1) := by decide +kernel
theorem dL_law_232 : decode cL_law 232 = .ok (.iload_n 3, 1) := by decide +kernel
theorem dL_law_233 : decode cL_law 233 = .ok (.iconst 3, 1) := by decide +kernel
theorem dL_law_234 : decode cL_law 234 = .ok (.iadd, 1) := by decide +kernel
theorem dL_law_235 : decode cL_law 235 = .ok (.iaload, 1) := by decide +kernel
theorem dL_law_236 : decode cL_law 236 = .ok (.invokevirtual 31, 3) := by decide +kernel
theorem dL_law_239 : decode cL_law 239 = .ok (.if_icmp .eq 920, 3) := by decide +kernel
theorem dL_law_242 : decode cL_law 242 = .ok (.iconst 0, 1) := by decide +kernel
theorem dL_law_243 : decode cL_law 243 = .ok (.ireturn, 1) := by decide +kernel
theorem dL_law_244 : decode cL_law 244 = .ok (.aload_n 1, 1) := by decide +kernel
theorem dL_law_245 : decode cL_law 245 = .ok (.aload_n 0, 1) := by decide +kernel
theorem dL_law_246 : decode cL_law 246 = .ok (.iload_n 3, 1) := by decide +kernel
theorem dL_law_247 : decode cL_law 247 = .ok (.iconst 1, 1) := by decide +kernel
theorem dL_law_248 : decode cL_law 248 = .ok (.iadd, 1) := by decide +kernel
theorem dL_law_249 : decode cL_law 249 = .ok (.iaload, 1) := by decide +kernel
theorem dL_law_250 : decode cL_law 250 = .ok (.aload_n 0, 1) := by decide +kernel
theorem dL_law_251 : decode cL_law 251 = .ok (.iload_n 3, 1) := by decide +kernel
theorem dL_law_252 : decode cL_law 252 = .ok (.iconst 2, 1) := by decide +kernel
theorem dL_law_253 : decode cL_law 253 = .ok (.iadd, 1) := by decide +kernel
theorem dL_law_254 : decode cL_law 254 = .ok (.iaload, 1) := by decide +kernel
theorem dL_law_255 : decode cL_law 255 = .ok (.aload_n 0, 1) := by decide +kernel
theorem dL_law_256 : decode cL_law 256 = .ok (.iload_n 3, 1) := by decide +kernel
theorem dL_law_257 : decode cL_law 257 = .ok (.iconst 3, 1) := by decide +kernel
theorem dL_law_258 : decode cL_law 258 = .ok (.iadd, 1) := by decide +kernel
theorem dL_law_259 : decode cL_law 259 = .ok (.iaload, 1) := by decide +kernel
theorem dL_law_260 : decode cL_law 260 = .ok (.i2l, 1) := by decide +kernel
theorem dL_law_261 : decode cL_law 261 = .ok (.bipush 32, 2) := by decide +kernel
theorem dL_law_263 : decode cL_law 263 = .ok (.lshl, 1) := by decide +kernel
theorem dL_law_264 : decode cL_law 264 = .ok (.aload_n 0, 1) := by decide +kernel
theorem dL_law_265 : decode cL_law 265 = .ok (.iload_n 3, 1) := by decide +kernel
theorem dL_law_266 : decode cL_law 266 = .ok (.iconst 4, 1) := by decide +kernel
theorem dL_law_267 : decode cL_law 267 = .ok (.iadd, 1) := by decide +kernel
theorem dL_law_268 : decode cL_law 268 = .ok (.iaload, 1) := by decide +kernel
theorem dL_law_269 : decode cL_law 269 = .ok (.i2l, 1) := by decide +kernel
theorem dL_law_270 : decode cL_law 270 = .ok (.ldc2_w 32, 3) := by decide +kernel
theorem dL_law_273 : decode cL_law 273 = .ok (.land, 1) := by decide +kernel
theorem dL_law_274 : decode cL_law 274 = .ok (.lor, 1) := by decide +kernel
theorem dL_law_275 : decode cL_law 275 = .ok (.invokevirtual 34, 3) := by decide +kernel
theorem dL_law_278 : decode cL_law 278 = .ok (.aload_n 2, 1) := by decide +kernel
theorem dL_law_279 : decode cL_law 279 = .ok (.aload_n 0, 1) := by decide +kernel
theorem dL_law_280 : decode cL_law 280 = .ok (.iload_n 3, 1) := by decide +kernel
theorem dL_law_281 : decode cL_law 281 = .ok (.iconst 1, 1) := by decide +kernel
theorem dL_law_282 : decode cL_law 282 = .ok (.iadd, 1) := by decide +kernel
theorem dL_law_283 : decode cL_law 283 = .ok (.iaload, 1) := by decide +kernel
theorem dL_law_284 : decode cL_law 284 = .ok (.aload_n 0, 1) := by decide +kernel
theorem dL_law_285 : decode cL_law 285 = .ok (.iload_n 3, 1) := by decide +kernel
theorem dL_law_286 : decode cL_law 286 = .ok (.iconst 2, 1) := by decide +kernel
theorem dL_law_287 : decode cL_law 287 = .ok (.iadd, 1) := by decide +kernel
theorem dL_law_288 : decode cL_law 288 = .ok (.iaload, 1) := by decide +kernel
theorem dL_law_289 : decode cL_law 289 = .ok (.aload_n 0, 1) := by decide +kernel
theorem dL_law_290 : decode cL_law 290 = .ok (.iload_n 3, 1) := by decide +kernel
theorem dL_law_291 : decode cL_law 291 = .ok (.iconst 3, 1) := by decide +kernel
theorem dL_law_292 : decode cL_law 292 = .ok (.iadd, 1) := by decide +kernel
theorem dL_law_293 : decode cL_law 293 = .ok (.iaload, 1) := by decide +kernel
theorem dL_law_294 : decode cL_law 294 = .ok (.i2l, 1) := by decide +kernel
theorem dL_law_295 : decode cL_law 295 = .ok (.bipush 32, 2) := by decide +kernel
theorem dL_law_297 : decode cL_law 297 = .ok (.lshl, 1) := by decide +kernel
theorem dL_law_298 : decode cL_law 298 = .ok (.aload_n 0, 1) := by decide +kernel
theorem dL_law_299 : decode cL_law 299 = .ok (.iload_n 3, 1) := by decide +kernel
theorem dL_law_300 : decode cL_law 300 = .ok (.iconst 4, 1) := by decide +kernel
theorem dL_law_301 : decode cL_law 301 = .ok (.iadd, 1) := by decide +kernel
theorem dL_law_302 : decode cL_law 302 = .ok (.iaload, 1) := by decide +kernel
theorem dL_law_303 : decode cL_law 303 = .ok (.i2l, 1) := by decide +kernel
theorem dL_law_304 : decode cL_law 304 = .ok (.ldc2_w 32, 3) := by decide +kernel
theorem dL_law_307 : decode cL_law 307 = .ok (.land, 1) := by decide +kernel
theorem dL_law_308 : decode cL_law 308 = .ok (.lor, 1) := by decide +kernel
theorem dL_law_309 : decode cL_law 309 = .ok (.invokevirtual 38, 3) := by decide +kernel
theorem dL_law_312 : decode cL_law 312 = .ok (.if_icmp .eq 847, 3) := by decide +kernel
theorem dL_law_315 : decode cL_law 315 = .ok (.iconst 0, 1) := by decide +kernel
theorem dL_law_316 : decode cL_law 316 = .ok (.ireturn, 1) := by decide +kernel
theorem dL_law_317 : decode cL_law 317 = .ok (.aload_n 1, 1) := by decide +kernel
theorem dL_law_318 : decode cL_law 318 = .ok (.aload_n 0, 1) := by decide +kernel
theorem dL_law_319 : decode cL_law 319 = .ok (.iload_n 3, 1) := by decide +kernel
theorem dL_law_320 : decode cL_law 320 = .ok (.iconst 1, 1) := by decide +kernel
theorem dL_law_321 : decode cL_law 321 = .ok (.iadd, 1) := by decide +kernel
theorem dL_law_322 : decode cL_law 322 = .ok (.iaload, 1) := by decide +kernel
theorem dL_law_323 : decode cL_law 323 = .ok (.aload_n 0, 1) := by decide +kernel
theorem dL_law_324 : decode cL_law 324 = .ok (.iload_n 3, 1) := by decide +kernel
theorem dL_law_325 : decode cL_law 325 = .ok (.iconst 2, 1) := by decide +kernel
theorem dL_law_326 : decode cL_law 326 = .ok (.iadd, 1) := by decide +kernel
theorem dL_law_327 : decode cL_law 327 = .ok (.iaload, 1) := by decide +kernel
theorem dL_law_328 : decode cL_law 328 = .ok (.invokevirtual 39, 3) := by decide +kernel
theorem dL_law_331 : decode cL_law 331 = .ok (.aload_n 2, 1) := by decide +kernel
theorem dL_law_332 : decode cL_law 332 = .ok (.aload_n 0, 1) := by decide +kernel
theorem dL_law_333 : decode cL_law 333 = .ok (.iload_n 3, 1) := by decide +kernel
theorem dL_law_334 : decode cL_law 334 = .ok (.iconst 1, 1) := by decide +kernel
theorem dL_law_335 : decode cL_law 335 = .ok (.iadd, 1) := by decide +kernel
theorem dL_law_336 : decode cL_law 336 = .ok (.iaload, 1) := by decide +kernel
theorem dL_law_337 : decode cL_law 337 = .ok (.aload_n 0, 1) := by decide +kernel
theorem dL_law_338 : decode cL_law 338 = .ok (.iload_n 3, 1) := by decide +kernel
theorem dL_law_339 : decode cL_law 339 = .ok (.iconst 2, 1) := by decide +kernel
theorem dL_law_340 : decode cL_law 340 = .ok (.iadd, 1) := by decide +kernel
theorem dL_law_341 : decode cL_law 341 = .ok (.iaload, 1) := by decide +kernel
theorem dL_law_342 : decode cL_law 342 = .ok (.invokevirtual 43, 3) := by decide +kernel
theorem dL_law_345 : decode cL_law 345 = .ok (.lcmp, 1) := by decide +kernel
theorem dL_law_346 : decode cL_law 346 = .ok (.ifCond .eq 813, 3) := by decide +kernel
theorem dL_law_349 : decode cL_law 349 = .ok (.iconst 0, 1) := by decide +kernel
theorem dL_law_350 : decode cL_law 350 = .ok (.ireturn, 1) := by decide +kernel
theorem dL_law_351 : decode cL_law 351 = .ok (.aload_n 1, 1) := by decide +kernel
theorem dL_law_352 : decode cL_law 352 = .ok (.aload_n 0, 1) := by decide +kernel
theorem dL_law_353 : decode cL_law 353 = .ok (.iload_n 3, 1) := by decide +kernel
theorem dL_law_354 : decode cL_law 354 = .ok (.iconst 1, 1) := by decide +kernel
theorem dL_law_355 : decode cL_law 355 = .ok (.iadd, 1) := by decide +kernel
theorem dL_law_356 : decode cL_law 356 = .ok (.iaload, 1) := by decide +kernel
theorem dL_law_357 : decode cL_law 357 = .ok (.aload_n 0, 1) := by decide +kernel
theorem dL_law_358 : decode cL_law 358 = .ok (.iload_n 3, 1) := by decide +kernel
theorem dL_law_359 : decode cL_law 359 = .ok (.iconst 2, 1) := by decide +kernel
theorem dL_law_360 : decode cL_law 360 = .ok (.iadd, 1) := by decide +kernel
theorem dL_law_361 : decode cL_law 361 = .ok (.iaload, 1) := by decide +kernel
theorem dL_law_362 : decode cL_law 362 = .ok (.aload_n 0, 1) := by decide +kernel
theorem dL_law_363 : decode cL_law 363 = .ok (.iload_n 3, 1) := by decide +kernel
theorem dL_law_364 : decode cL_law 364 = .ok (.iconst 3, 1) := by decide +kernel
theorem dL_law_365 : decode cL_law 365 = .ok (.iadd, 1) := by decide +kernel
theorem dL_law_366 : decode cL_law 366 = .ok (.iaload, 1) := by decide +kernel
theorem dL_law_367 : decode cL_law 367 = .ok (.aload_n 0, 1) := by decide +kernel
theorem dL_law_368 : decode cL_law 368 = .ok (.iload_n 3, 1) := by decide +kernel
theorem dL_law_369 : decode cL_law 369 = .ok (.iconst 4, 1) := by decide +kernel
theorem dL_law_370 : decode cL_law 370 = .ok (.iadd, 1) := by decide +kernel
theorem dL_law_371 : decode cL_law 371 = .ok (.iaload, 1) := by decide +kernel
theorem dL_law_372 : decode cL_law 372 = .ok (.aload_n 0, 1) := by decide +kernel
theorem dL_law_373 : decode cL_law 373 = .ok (.iload_n 3, 1) := by decide +kernel
theorem dL_law_374 : decode cL_law 374 = .ok (.iconst 5, 1) := by decide +kernel
theorem dL_law_375 : decode cL_law 375 = .ok (.iadd, 1) := by decide +kernel
theorem dL_law_376 : decode cL_law 376 = .ok (.iaload, 1) := by decide +kernel
theorem dL_law_377 : decode cL_law 377 = .ok (.invokevirtual 44, 3) := by decide +kernel
theorem dL_law_380 : decode cL_law 380 = .ok (.aload_n 2, 1) := by decide +kernel
theorem dL_law_381 : decode cL_law 381 = .ok (.aload_n 0, 1) := by decide +kernel
theorem dL_law_382 : decode cL_law 382 = .ok (.iload_n 3, 1) := by decide +kernel
theorem dL_law_383 : decode cL_law 383 = .ok (.iconst 1, 1) := by decide +kernel
theorem dL_law_384 : decode cL_law 384 = .ok (.iadd, 1) := by decide +kernel
theorem dL_law_385 : decode cL_law 385 = .ok (.iaload, 1) := by decide +kernel
theorem dL_law_386 : decode cL_law 386 = .ok (.aload_n 0, 1) := by decide +kernel
theorem dL_law_387 : decode cL_law 387 = .ok (.iload_n 3, 1) := by decide +kernel
theorem dL_law_388 : decode cL_law 388 = .ok (.iconst 2, 1) := by decide +kernel
theorem dL_law_389 : decode cL_law 389 = .ok (.iadd, 1) := by decide +kernel
theorem dL_law_390 : decode cL_law 390 = .ok (.iaload, 1) := by decide +kernel
theorem dL_law_391 : decode cL_law 391 = .ok (.aload_n 0, 1) := by decide +kernel
theorem dL_law_392 : decode cL_law 392 = .ok (.iload_n 3, 1) := by decide +kernel
theorem dL_law_393 : decode cL_law 393 = .ok (.iconst 3, 1) := by decide +kernel
theorem dL_law_394 : decode cL_law 394 = .ok (.iadd, 1) := by decide +kernel
theorem dL_law_395 : decode cL_law 395 = .ok (.iaload, 1) := by decide +kernel
theorem dL_law_396 : decode cL_law 396 = .ok (.aload_n 0, 1) := by decide +kernel
theorem dL_law_397 : decode cL_law 397 = .ok (.iload_n 3, 1) := by decide +kernel
theorem dL_law_398 : decode cL_law 398 = .ok (.iconst 4, 1) := by decide +kernel
theorem dL_law_399 : decode cL_law 399 = .ok (.iadd, 1) := by decide +kernel
theorem dL_law_400 : decode cL_law 400 = .ok (.iaload, 1) := by decide +kernel
theorem dL_law_401 : decode cL_law 401 = .ok (.aload_n 0, 1) := by decide +kernel
theorem dL_law_402 : decode cL_law 402 = .ok (.iload_n 3, 1) := by decide +kernel
theorem dL_law_403 : decode cL_law 403 = .ok (.iconst 5, 1) := by decide +kernel
theorem dL_law_404 : decode cL_law 404 = .ok (.iadd, 1) := by decide +kernel
theorem dL_law_405 : decode cL_law 405 = .ok (.iaload, 1) := by decide +kernel
theorem dL_law_406 : decode cL_law 406 = .ok (.invokevirtual 48, 3) := by decide +kernel
theorem dL_law_409 : decode cL_law 409 = .ok (.if_icmp .eq 750, 3) := by decide +kernel
theorem dL_law_412 : decode cL_law 412 = .ok (.iconst 0, 1) := by decide +kernel
theorem dL_law_413 : decode cL_law 413 = .ok (.ireturn, 1) := by decide +kernel
theorem dL_law_414 : decode cL_law 414 = .ok (.aload_n 1, 1) := by decide +kernel
theorem dL_law_415 : decode cL_law 415 = .ok (.aload_n 0, 1) := by decide +kernel
theorem dL_law_416 : decode cL_law 416 = .ok (.iload_n 3, 1) := by decide +kernel
theorem dL_law_417 : decode cL_law 417 = .ok (.iconst 1, 1) := by decide +kernel
theorem dL_law_418 : decode cL_law 418 = .ok (.iadd, 1) := by decide +kernel
theorem dL_law_419 : decode cL_law 419 = .ok (.iaload, 1) := by decide +kernel
theorem dL_law_420 : decode cL_law 420 = .ok (.invokevirtual 49, 3) := by decide +kernel
theorem dL_law_423 : decode cL_law 423 = .ok (.aload_n 2, 1) := by decide +kernel
theorem dL_law_424 : decode cL_law 424 = .ok (.aload_n 0, 1) := by decide +kernel
theorem dL_law_425 : decode cL_law 425 = .ok (.iload_n 3, 1) := by decide +kernel
theorem dL_law_426 : decode cL_law 426 = .ok (.iconst 1, 1) := by decide +kernel
theorem dL_law_427 : decode cL_law 427 = .ok (.iadd, 1) := by decide +kernel
theorem dL_law_428 : decode cL_law 428 = .ok (.iaload, 1) := by decide +kernel
theorem dL_law_429 : decode cL_law 429 = .ok (.invokevirtual 53, 3) := by decide +kernel
theorem dL_law_432 : decode cL_law 432 = .ok (.if_icmp .eq 727, 3) := by decide +kernel
theorem dL_law_435 : decode cL_law 435 = .ok (.iconst 0, 1) := by decide +kernel
theorem dL_law_436 : decode cL_law 436 = .ok (.ireturn, 1) := by decide +kernel
theorem dL_law_437 : decode cL_law 437 = .ok (.aload_n 1, 1) := by decide +kernel
theorem dL_law_438 : decode cL_law 438 = .ok (.invokevirtual 54, 3) := by decide +kernel
theorem dL_law_441 : decode cL_law 441 = .ok (.aload_n 2, 1) := by decide +kernel
theorem dL_law_442 : decode cL_law 442 = .ok (.invokevirtual 58, 3) := by decide +kernel
theorem dL_law_445 : decode cL_law 445 = .ok (.if_icmp .eq 714, 3) := by decide +kernel
theorem dL_law_448 : decode cL_law 448 = .ok (.iconst 0, 1) := by decide +kernel
theorem dL_law_449 : decode cL_law 449 = .ok (.ireturn, 1) := by decide +kernel
theorem dL_law_450 : decode cL_law 450 = .ok (.aload_n 1, 1) := by decide +kernel
theorem dL_law_451 : decode cL_law 451 = .ok (.aload_n 0, 1) := by decide +kernel
theorem dL_law_452 : decode cL_law 452 = .ok (.iload_n 3, 1) := by decide +kernel
theorem dL_law_453 : decode cL_law 453 = .ok (.iconst 1, 1) := by decide +kernel
theorem dL_law_454 : decode cL_law 454 = .ok (.iadd, 1) := by decide +kernel
theorem dL_law_455 : decode cL_law 455 = .ok (.iaload, 1) := by decide +kernel
theorem dL_law_456 : decode cL_law 456 = .ok (.aload_n 0, 1) := by decide +kernel
theorem dL_law_457 : decode cL_law 457 = .ok (.iload_n 3, 1) := by decide +kernel
theorem dL_law_458 : decode cL_law 458 = .ok (.iconst 2, 1) := by decide +kernel
theorem dL_law_459 : decode cL_law 459 = .ok (.iadd, 1) := by decide +kernel
theorem dL_law_460 : decode cL_law 460 = .ok (.iaload, 1) := by decide +kernel
theorem dL_law_461 : decode cL_law 461 = .ok (.aload_n 0, 1) := by decide +kernel
theorem dL_law_462 : decode cL_law 462 = .ok (.iload_n 3, 1) := by decide +kernel
theorem dL_law_463 : decode cL_law 463 = .ok (.iconst 3, 1) := by decide +kernel
theorem dL_law_464 : decode cL_law 464 = .ok (.iadd, 1) := by decide +kernel
theorem dL_law_465 : decode cL_law 465 = .ok (.iaload, 1) := by decide +kernel
theorem dL_law_466 : decode cL_law 466 = .ok (.invokevirtual 59, 3) := by decide +kernel
theorem dL_law_469 : decode cL_law 469 = .ok (.aload_n 2, 1) := by decide +kernel
theorem dL_law_470 : decode cL_law 470 = .ok (.aload_n 0, 1) := by decide +kernel
theorem dL_law_471 : decode cL_law 471 = .ok (.iload_n 3, 1) := by decide +kernel
theorem dL_law_472 : decode cL_law 472 = .ok (.iconst 1, 1) := by decide +kernel
theorem dL_law_473 : decode cL_law 473 = .ok (.iadd, 1) := by decide +kernel
theorem dL_law_474 : decode cL_law 474 = .ok (.iaload, 1) := by decide +kernel
theorem dL_law_475 : decode cL_law 475 = .ok (.aload_n 0, 1) := by decide +kernel
theorem dL_law_476 : decode cL_law 476 = .ok (.iload_n 3, 1) := by decide +kernel
theorem dL_law_477 : decode cL_law 477 = .ok (.iconst 2, 1) := by decide +kernel
theorem dL_law_478 : decode cL_law 478 = .ok (.iadd, 1) := by decide +kernel
theorem dL_law_479 : decode cL_law 479 = .ok (.iaload, 1) := by decide +kernel
theorem dL_law_480 : decode cL_law 480 = .ok (.aload_n 0, 1) := by decide +kernel
theorem dL_law_481 : decode cL_law 481 = .ok (.iload_n 3, 1) := by decide +kernel
theorem dL_law_482 : decode cL_law 482 = .ok (.iconst 3, 1) := by decide +kernel
theorem dL_law_483 : decode cL_law 483 = .ok (.iadd, 1) := by decide +kernel
theorem dL_law_484 : decode cL_law 484 = .ok (.iaload, 1) := by decide +kernel
theorem dL_law_485 : decode cL_law 485 = .ok (.invokevirtual 62, 3) := by decide +kernel
theorem dL_law_488 : decode cL_law 488 = .ok (.if_icmp .eq 671, 3) := by decide +kernel
theorem dL_law_491 : decode cL_law 491 = .ok (.iconst 0, 1) := by decide +kernel
theorem dL_law_492 : decode cL_law 492 = .ok (.ireturn, 1) := by decide +kernel
theorem dL_law_493 : decode cL_law 493 = .ok (.aload_n 1, 1) := by decide +kernel
theorem dL_law_494 : decode cL_law 494 = .ok (.aload_n 0, 1) := by decide +kernel
theorem dL_law_495 : decode cL_law 495 = .ok (.iload_n 3, 1) := by decide +kernel
theorem dL_law_496 : decode cL_law 496 = .ok (.iconst 1, 1) := by decide +kernel
theorem dL_law_497 : decode cL_law 497 = .ok (.iadd, 1) := by decide +kernel
theorem dL_law_498 : decode cL_law 498 = .ok (.iaload, 1) := by decide +kernel
theorem dL_law_499 : decode cL_law 499 = .ok (.invokevirtual 63, 3) := by decide +kernel
theorem dL_law_502 : decode cL_law 502 = .ok (.aload_n 2, 1) := by decide +kernel
theorem dL_law_503 : decode cL_law 503 = .ok (.aload_n 0, 1) := by decide +kernel
theorem dL_law_504 : decode cL_law 504 = .ok (.iload_n 3, 1) := by decide +kernel
theorem dL_law_505 : decode cL_law 505 = .ok (.iconst 1, 1) := by decide +kernel
theorem dL_law_506 : decode cL_law 506 = .ok (.iadd, 1) := by decide +kernel
theorem dL_law_507 : decode cL_law 507 = .ok (.iaload, 1) := by decide +kernel
theorem dL_law_508 : decode cL_law 508 = .ok (.invokevirtual 66, 3) := by decide +kernel
theorem dL_law_511 : decode cL_law 511 = .ok (.if_icmp .eq 648, 3) := by decide +kernel
theorem dL_law_514 : decode cL_law 514 = .ok (.iconst 0, 1) := by decide +kernel
theorem dL_law_515 : decode cL_law 515 = .ok (.ireturn, 1) := by decide +kernel
theorem dL_law_516 : decode cL_law 516 = .ok (.aload_n 1, 1) := by decide +kernel
theorem dL_law_517 : decode cL_law 517 = .ok (.aload_n 0, 1) := by decide +kernel
theorem dL_law_518 : decode cL_law 518 = .ok (.iload_n 3, 1) := by decide +kernel
theorem dL_law_519 : decode cL_law 519 = .ok (.iconst 1, 1) := by decide +kernel
theorem dL_law_520 : decode cL_law 520 = .ok (.iadd, 1) := by decide +kernel
theorem dL_law_521 : decode cL_law 521 = .ok (.iaload, 1) := by decide +kernel
theorem dL_law_522 : decode cL_law 522 = .ok (.aload_n 0, 1) := by decide +kernel
theorem dL_law_523 : decode cL_law 523 = .ok (.iload_n 3, 1) := by decide +kernel
theorem dL_law_524 : decode cL_law 524 = .ok (.iconst 2, 1) := by decide +kernel
theorem dL_law_525 : decode cL_law 525 = .ok (.iadd, 1) := by decide +kernel
theorem dL_law_526 : decode cL_law 526 = .ok (.iaload, 1) := by decide +kernel
theorem dL_law_527 : decode cL_law 527 = .ok (.aload_n 0, 1) := by decide +kernel
theorem dL_law_528 : decode cL_law 528 = .ok (.iload_n 3, 1) := by decide +kernel
theorem dL_law_529 : decode cL_law 529 = .ok (.iconst 3, 1) := by decide +kernel
theorem dL_law_530 : decode cL_law 530 = .ok (.iadd, 1) := by decide +kernel
theorem dL_law_531 : decode cL_law 531 = .ok (.iaload, 1) := by decide +kernel
theorem dL_law_532 : decode cL_law 532 = .ok (.invokevirtual 67, 3) := by decide +kernel
theorem dL_law_535 : decode cL_law 535 = .ok (.aload_n 2, 1) := by decide +kernel
theorem dL_law_536 : decode cL_law 536 = .ok (.aload_n 0, 1) := by decide +kernel
theorem dL_law_537 : decode cL_law 537 = .ok (.iload_n 3, 1) := by decide +kernel
theorem dL_law_538 : decode cL_law 538 = .ok (.iconst 1, 1) := by decide +kernel
theorem dL_law_539 : decode cL_law 539 = .ok (.iadd, 1) := by decide +kernel
theorem dL_law_540 : decode cL_law 540 = .ok (.iaload, 1) := by decide +kernel
theorem dL_law_541 : decode cL_law 541 = .ok (.aload_n 0, 1) := by decide +kernel
theorem dL_law_542 : decode cL_law 542 = .ok (.iload_n 3, 1) := by decide +kernel
theorem dL_law_543 : decode cL_law 543 = .ok (.iconst 2, 1) := by decide +kernel
theorem dL_law_544 : decode cL_law 544 = .ok (.iadd, 1) := by decide +kernel
theorem dL_law_545 : decode cL_law 545 = .ok (.iaload, 1) := by decide +kernel
theorem dL_law_546 : decode cL_law 546 = .ok (.aload_n 0, 1) := by decide +kernel
theorem dL_law_547 : decode cL_law 547 = .ok (.iload_n 3, 1) := by decide +kernel
theorem dL_law_548 : decode cL_law 548 = .ok (.iconst 3, 1) := by decide +kernel
theorem dL_law_549 : decode cL_law 549 = .ok (.iadd, 1) := by decide +kernel
theorem dL_law_550 : decode cL_law 550 = .ok (.iaload, 1) := by decide +kernel
theorem dL_law_551 : decode cL_law 551 = .ok (.invokevirtual 70, 3) := by decide +kernel
theorem dL_law_554 : decode cL_law 554 = .ok (.if_icmp .eq 605, 3) := by decide +kernel
theorem dL_law_557 : decode cL_law 557 = .ok (.iconst 0, 1) := by decide +kernel
theorem dL_law_558 : decode cL_law 558 = .ok (.ireturn, 1) := by decide +kernel
theorem dL_law_559 : decode cL_law 559 = .ok (.aload_n 1, 1) := by decide +kernel
theorem dL_law_560 : decode cL_law 560 = .ok (.aload_n 0, 1) := by decide +kernel
theorem dL_law_561 : decode cL_law 561 = .ok (.iload_n 3, 1) := by decide +kernel
theorem dL_law_562 : decode cL_law 562 = .ok (.iconst 1, 1) := by decide +kernel
theorem dL_law_563 : decode cL_law 563 = .ok (.iadd, 1) := by decide +kernel
theorem dL_law_564 : decode cL_law 564 = .ok (.iaload, 1) := by decide +kernel
theorem dL_law_565 : decode cL_law 565 = .ok (.ifCond .eq 7, 3) := by decide +kernel
theorem dL_law_568 : decode cL_law 568 = .ok (.iconst 1, 1) := by decide +kernel
theorem dL_law_569 : decode cL_law 569 = .ok (.goto 4, 3) := by decide +kernel
theorem dL_law_572 : decode cL_law 572 = .ok (.iconst 0, 1) := by decide +kernel
theorem dL_law_573 : decode cL_law 573 = .ok (.aload_n 0, 1) := by decide +kernel
theorem dL_law_574 : decode cL_law 574 = .ok (.iload_n 3, 1) := by decide +kernel
theorem dL_law_575 : decode cL_law 575 = .ok (.iconst 2, 1) := by decide +kernel
theorem dL_law_576 : decode cL_law 576 = .ok (.iadd, 1) := by decide +kernel
theorem dL_law_577 : decode cL_law 577 = .ok (.iaload, 1) := by decide +kernel
theorem dL_law_578 : decode cL_law 578 = .ok (.invokevirtual 71, 3) := by decide +kernel
theorem dL_law_581 : decode cL_law 581 = .ok (.aload_n 2, 1) := by decide +kernel
theorem dL_law_582 : decode cL_law 582 = .ok (.aload_n 0, 1) := by decide +kernel
theorem dL_law_583 : decode cL_law 583 = .ok (.iload_n 3, 1) := by decide +kernel
theorem dL_law_584 : decode cL_law 584 = .ok (.iconst 1, 1) := by decide +kernel
theorem dL_law_585 : decode cL_law 585 = .ok (.iadd, 1) := by decide +kernel
theorem dL_law_586 : decode cL_law 586 = .ok (.iaload, 1) := by decide +kernel
theorem dL_law_587 : decode cL_law 587 = .ok (.ifCond .eq 7, 3) := by decide +kernel
theorem dL_law_590 : decode cL_law 590 = .ok (.iconst 1, 1) := by decide +kernel
theorem dL_law_591 : decode cL_law 591 = .ok (.goto 4, 3) := by decide +kernel
theorem dL_law_594 : decode cL_law 594 = .ok (.iconst 0, 1) := by decide +kernel
theorem dL_law_595 : decode cL_law 595 = .ok (.aload_n 0, 1) := by decide +kernel
theorem dL_law_596 : decode cL_law 596 = .ok (.iload_n 3, 1) := by decide +kernel
theorem dL_law_597 : decode cL_law 597 = .ok (.iconst 2, 1) := by decide +kernel
theorem dL_law_598 : decode cL_law 598 = .ok (.iadd, 1) := by decide +kernel
theorem dL_law_599 : decode cL_law 599 = .ok (.iaload, 1) := by decide +kernel
theorem dL_law_600 : decode cL_law 600 = .ok (.invokevirtual 75, 3) := by decide +kernel
theorem dL_law_603 : decode cL_law 603 = .ok (.if_icmp .eq 556, 3) := by decide +kernel
theorem dL_law_606 : decode cL_law 606 = .ok (.iconst 0, 1) := by decide +kernel
theorem dL_law_607 : decode cL_law 607 = .ok (.ireturn, 1) := by decide +kernel
theorem dL_law_608 : decode cL_law 608 = .ok (.aload_n 1, 1) := by decide +kernel
theorem dL_law_609 : decode cL_law 609 = .ok (.aload_n 0, 1) := by decide +kernel
theorem dL_law_610 : decode cL_law 610 = .ok (.iload_n 3, 1) := by decide +kernel
theorem dL_law_611 : decode cL_law 611 = .ok (.iconst 1, 1) := by decide +kernel
theorem dL_law_612 : decode cL_law 612 = .ok (.iadd, 1) := by decide +kernel
theorem dL_law_613 : decode cL_law 613 = .ok (.iaload, 1) := by decide +kernel
theorem dL_law_614 : decode cL_law 614 = .ok (.aload_n 0, 1) := by decide +kernel
theorem dL_law_615 : decode cL_law 615 = .ok (.iload_n 3, 1) := by decide +kernel
theorem dL_law_616 : decode cL_law 616 = .ok (.iconst 2, 1) := by decide +kernel
theorem dL_law_617 : decode cL_law 617 = .ok (.iadd, 1) := by decide +kernel
theorem dL_law_618 : decode cL_law 618 = .ok (.iaload, 1) := by decide +kernel
theorem dL_law_619 : decode cL_law 619 = .ok (.aload_n 0, 1) := by decide +kernel
theorem dL_law_620 : decode cL_law 620 = .ok (.iload_n 3, 1) := by decide +kernel
theorem dL_law_621 : decode cL_law 621 = .ok (.iconst 3, 1) := by decide +kernel
theorem dL_law_622 : decode cL_law 622 = .ok (.iadd, 1) := by decide +kernel
theorem dL_law_623 : decode cL_law 623 = .ok (.iaload, 1) := by decide +kernel
theorem dL_law_624 : decode cL_law 624 = .ok (.invokevirtual 76, 3) := by decide +kernel
theorem dL_law_627 : decode cL_law 627 = .ok (.aload_n 2, 1) := by decide +kernel
theorem dL_law_628 : decode cL_law 628 = .ok (.aload_n 0, 1) := by decide +kernel
theorem dL_law_629 : decode cL_law 629 = .ok (.iload_n 3, 1) := by decide +kernel
theorem dL_law_630 : decode cL_law 630 = .ok (.iconst 1, 1) := by decide +kernel
theorem dL_law_631 : decode cL_law 631 = .ok (.iadd, 1) := by decide +kernel
theorem dL_law_632 : decode cL_law 632 = .ok (.iaload, 1) := by decide +kernel
theorem dL_law_633 : decode cL_law 633 = .ok (.aload_n 0, 1) := by decide +kernel
theorem dL_law_634 : decode cL_law 634 = .ok (.iload_n 3, 1) := by decide +kernel
theorem dL_law_635 : decode cL_law 635 = .ok (.iconst 2, 1) := by decide +kernel
theorem dL_law_636 : decode cL_law 636 = .ok (.iadd, 1) := by decide +kernel
theorem dL_law_637 : decode cL_law 637 = .ok (.iaload, 1) := by decide +kernel
theorem dL_law_638 : decode cL_law 638 = .ok (.aload_n 0, 1) := by decide +kernel
theorem dL_law_639 : decode cL_law 639 = .ok (.iload_n 3, 1) := by decide +kernel
theorem dL_law_640 : decode cL_law 640 = .ok (.iconst 3, 1) := by decide +kernel
theorem dL_law_641 : decode cL_law 641 = .ok (.iadd, 1) := by decide +kernel
theorem dL_law_642 : decode cL_law 642 = .ok (.iaload, 1) := by decide +kernel
theorem dL_law_643 : decode cL_law 643 = .ok (.invokevirtual 80, 3) := by decide +kernel
theorem dL_law_646 : decode cL_law 646 = .ok (.if_icmp .eq 513, 3) := by decide +kernel
theorem dL_law_649 : decode cL_law 649 = .ok (.iconst 0, 1) := by decide +kernel
theorem dL_law_650 : decode cL_law 650 = .ok (.ireturn, 1) := by decide +kernel
theorem dL_law_651 : decode cL_law 651 = .ok (.aload_n 1, 1) := by decide +kernel
theorem dL_law_652 : decode cL_law 652 = .ok (.aload_n 0, 1) := by decide +kernel
theorem dL_law_653 : decode cL_law 653 = .ok (.iload_n 3, 1) := by decide +kernel
theorem dL_law_654 : decode cL_law 654 = .ok (.iconst 1, 1) := by decide +kernel
theorem dL_law_655 : decode cL_law 655 = .ok (.iadd, 1) := by decide +kernel
theorem dL_law_656 : decode cL_law 656 = .ok (.iaload, 1) := by decide +kernel
theorem dL_law_657 : decode cL_law 657 = .ok (.aload_n 0, 1) := by decide +kernel
theorem dL_law_658 : decode cL_law 658 = .ok (.iload_n 3, 1) := by decide +kernel
theorem dL_law_659 : decode cL_law 659 = .ok (.iconst 2, 1) := by decide +kernel
theorem dL_law_660 : decode cL_law 660 = .ok (.iadd, 1) := by decide +kernel
theorem dL_law_661 : decode cL_law 661 = .ok (.iaload, 1) := by decide +kernel
theorem dL_law_662 : decode cL_law 662 = .ok (.aload_n 0, 1) := by decide +kernel
theorem dL_law_663 : decode cL_law 663 = .ok (.iload_n 3, 1) := by decide +kernel
theorem dL_law_664 : decode cL_law 664 = .ok (.iconst 3, 1) := by decide +kernel
theorem dL_law_665 : decode cL_law 665 = .ok (.iadd, 1) := by decide +kernel
theorem dL_law_666 : decode cL_law 666 = .ok (.iaload, 1) := by decide +kernel
theorem dL_law_667 : decode cL_law 667 = .ok (.aload_n 0, 1) := by decide +kernel
theorem dL_law_668 : decode cL_law 668 = .ok (.iload_n 3, 1) := by decide +kernel
theorem dL_law_669 : decode cL_law 669 = .ok (.iconst 4, 1) := by decide +kernel
theorem dL_law_670 : decode cL_law 670 = .ok (.iadd, 1) := by decide +kernel
theorem dL_law_671 : decode cL_law 671 = .ok (.iaload, 1) := by decide +kernel
theorem dL_law_672 : decode cL_law 672 = .ok (.aload_n 0, 1) := by decide +kernel
theorem dL_law_673 : decode cL_law 673 = .ok (.iload_n 3, 1) := by decide +kernel
theorem dL_law_674 : decode cL_law 674 = .ok (.iconst 5, 1) := by decide +kernel
theorem dL_law_675 : decode cL_law 675 = .ok (.iadd, 1) := by decide +kernel
theorem dL_law_676 : decode cL_law 676 = .ok (.iaload, 1) := by decide +kernel
theorem dL_law_677 : decode cL_law 677 = .ok (.aload_n 0, 1) := by decide +kernel
theorem dL_law_678 : decode cL_law 678 = .ok (.iload_n 3, 1) := by decide +kernel
theorem dL_law_679 : decode cL_law 679 = .ok (.bipush 6, 2) := by decide +kernel
theorem dL_law_681 : decode cL_law 681 = .ok (.iadd, 1) := by decide +kernel
theorem dL_law_682 : decode cL_law 682 = .ok (.iaload, 1) := by decide +kernel
theorem dL_law_683 : decode cL_law 683 = .ok (.aload_n 0, 1) := by decide +kernel
theorem dL_law_684 : decode cL_law 684 = .ok (.iload_n 3, 1) := by decide +kernel
theorem dL_law_685 : decode cL_law 685 = .ok (.bipush 7, 2) := by decide +kernel
theorem dL_law_687 : decode cL_law 687 = .ok (.iadd, 1) := by decide +kernel
theorem dL_law_688 : decode cL_law 688 = .ok (.iaload, 1) := by decide +kernel
theorem dL_law_689 : decode cL_law 689 = .ok (.aload_n 0, 1) := by decide +kernel
theorem dL_law_690 : decode cL_law 690 = .ok (.iload_n 3, 1) := by decide +kernel
theorem dL_law_691 : decode cL_law 691 = .ok (.bipush 8, 2) := by decide +kernel
theorem dL_law_693 : decode cL_law 693 = .ok (.iadd, 1) := by decide +kernel
theorem dL_law_694 : decode cL_law 694 = .ok (.iaload, 1) := by decide +kernel
theorem dL_law_695 : decode cL_law 695 = .ok (.aload_n 0, 1) := by decide +kernel
theorem dL_law_696 : decode cL_law 696 = .ok (.iload_n 3, 1) := by decide +kernel
theorem dL_law_697 : decode cL_law 697 = .ok (.bipush 9, 2) := by decide +kernel
theorem dL_law_699 : decode cL_law 699 = .ok (.iadd, 1) := by decide +kernel
theorem dL_law_700 : decode cL_law 700 = .ok (.iaload, 1) := by decide +kernel
theorem dL_law_701 : decode cL_law 701 = .ok (.invokevirtual 81, 3) := by decide +kernel
theorem dL_law_704 : decode cL_law 704 = .ok (.aload_n 2, 1) := by decide +kernel
theorem dL_law_705 : decode cL_law 705 = .ok (.aload_n 0, 1) := by decide +kernel
theorem dL_law_706 : decode cL_law 706 = .ok (.iload_n 3, 1) := by decide +kernel
theorem dL_law_707 : decode cL_law 707 = .ok (.iconst 1, 1) := by decide +kernel
theorem dL_law_708 : decode cL_law 708 = .ok (.iadd, 1) := by decide +kernel
theorem dL_law_709 : decode cL_law 709 = .ok (.iaload, 1) := by decide +kernel
theorem dL_law_710 : decode cL_law 710 = .ok (.aload_n 0, 1) := by decide +kernel
theorem dL_law_711 : decode cL_law 711 = .ok (.iload_n 3, 1) := by decide +kernel
theorem dL_law_712 : decode cL_law 712 = .ok (.iconst 2, 1) := by decide +kernel
theorem dL_law_713 : decode cL_law 713 = .ok (.iadd, 1) := by decide +kernel
theorem dL_law_714 : decode cL_law 714 = .ok (.iaload, 1) := by decide +kernel
theorem dL_law_715 : decode cL_law 715 = .ok (.aload_n 0, 1) := by decide +kernel
theorem dL_law_716 : decode cL_law 716 = .ok (.iload_n 3, 1) := by decide +kernel
theorem dL_law_717 : decode cL_law 717 = .ok (.iconst 3, 1) := by decide +kernel
theorem dL_law_718 : decode cL_law 718 = .ok (.iadd, 1) := by decide +kernel
theorem dL_law_719 : decode cL_law 719 = .ok (.iaload, 1) := by decide +kernel
theorem dL_law_720 : decode cL_law 720 = .ok (.aload_n 0, 1) := by decide +kernel
theorem dL_law_721 : decode cL_law 721 = .ok (.iload_n 3, 1) := by decide +kernel
theorem dL_law_722 : decode cL_law 722 = .ok (.iconst 4, 1) := by decide +kernel
theorem dL_law_723 : decode cL_law 723 = .ok (.iadd, 1) := by decide +kernel
theorem dL_law_724 : decode cL_law 724 = .ok (.iaload, 1) := by decide +kernel
theorem dL_law_725 : decode cL_law 725 = .ok (.aload_n 0, 1) := by decide +kernel
theorem dL_law_726 : decode cL_law 726 = .ok (.iload_n 3, 1) := by decide +kernel
theorem dL_law_727 : decode cL_law 727 = .ok (.iconst 5, 1) := by decide +kernel
theorem dL_law_728 : decode cL_law 728 = .ok (.iadd, 1) := by decide +kernel
theorem dL_law_729 : decode cL_law 729 = .ok (.iaload, 1) := by decide +kernel
theorem dL_law_730 : decode cL_law 730 = .ok (.aload_n 0, 1) := by decide +kernel
theorem dL_law_731 : decode cL_law 731 = .ok (.iload_n 3, 1) := by decide +kernel
theorem dL_law_732 : decode cL_law 732 = .ok (.bipush 6, 2) := by decide +kernel
theorem dL_law_734 : decode cL_law 734 = .ok (.iadd, 1) := by decide +kernel
theorem dL_law_735 : decode cL_law 735 = .ok (.iaload, 1) := by decide +kernel
theorem dL_law_736 : decode cL_law 736 = .ok (.aload_n 0, 1) := by decide +kernel
theorem dL_law_737 : decode cL_law 737 = .ok (.iload_n 3, 1) := by decide +kernel
theorem dL_law_738 : decode cL_law 738 = .ok (.bipush 7, 2) := by decide +kernel
theorem dL_law_740 : decode cL_law 740 = .ok (.iadd, 1) := by decide +kernel
theorem dL_law_741 : decode cL_law 741 = .ok (.iaload, 1) := by decide +kernel
theorem dL_law_742 : decode cL_law 742 = .ok (.aload_n 0, 1) := by decide +kernel
theorem dL_law_743 : decode cL_law 743 = .ok (.iload_n 3, 1) := by decide +kernel
theorem dL_law_744 : decode cL_law 744 = .ok (.bipush 8, 2) := by decide +kernel
theorem dL_law_746 : decode cL_law 746 = .ok (.iadd, 1) := by decide +kernel
theorem dL_law_747 : decode cL_law 747 = .ok (.iaload, 1) := by decide +kernel
theorem dL_law_748 : decode cL_law 748 = .ok (.aload_n 0, 1) := by decide +kernel
theorem dL_law_749 : decode cL_law 749 = .ok (.iload_n 3, 1) := by decide +kernel
theorem dL_law_750 : decode cL_law 750 = .ok (.bipush 9, 2) := by decide +kernel
theorem dL_law_752 : decode cL_law 752 = .ok (.iadd, 1) := by decide +kernel
theorem dL_law_753 : decode cL_law 753 = .ok (.iaload, 1) := by decide +kernel
theorem dL_law_754 : decode cL_law 754 = .ok (.invokevirtual 85, 3) := by decide +kernel
theorem dL_law_757 : decode cL_law 757 = .ok (.if_icmp .eq 402, 3) := by decide +kernel
theorem dL_law_760 : decode cL_law 760 = .ok (.iconst 0, 1) := by decide +kernel
theorem dL_law_761 : decode cL_law 761 = .ok (.ireturn, 1) := by decide +kernel
theorem dL_law_762 : decode cL_law 762 = .ok (.aload_n 1, 1) := by decide +kernel
theorem dL_law_763 : decode cL_law 763 = .ok (.invokevirtual 86, 3) := by decide +kernel
theorem dL_law_766 : decode cL_law 766 = .ok (.aload_n 2, 1) := by decide +kernel
theorem dL_law_767 : decode cL_law 767 = .ok (.invokevirtual 89, 3) := by decide +kernel
theorem dL_law_770 : decode cL_law 770 = .ok (.if_icmp .eq 389, 3) := by decide +kernel
theorem dL_law_773 : decode cL_law 773 = .ok (.iconst 0, 1) := by decide +kernel
theorem dL_law_774 : decode cL_law 774 = .ok (.ireturn, 1) := by decide +kernel
theorem dL_law_775 : decode cL_law 775 = .ok (.aload_n 1, 1) := by decide +kernel
theorem dL_law_776 : decode cL_law 776 = .ok (.aload_n 0, 1) := by decide +kernel
theorem dL_law_777 : decode cL_law 777 = .ok (.iload_n 3, 1) := by decide +kernel
theorem dL_law_778 : decode cL_law 778 = .ok (.iconst 1, 1) := by decide +kernel
theorem dL_law_779 : decode cL_law 779 = .ok (.iadd, 1) := by decide +kernel
theorem dL_law_780 : decode cL_law 780 = .ok (.iaload, 1) := by decide +kernel
theorem dL_law_781 : decode cL_law 781 = .ok (.ifCond .eq 7, 3) := by decide +kernel
theorem dL_law_784 : decode cL_law 784 = .ok (.iconst 1, 1) := by decide +kernel
theorem dL_law_785 : decode cL_law 785 = .ok (.goto 4, 3) := by decide +kernel
theorem dL_law_788 : decode cL_law 788 = .ok (.iconst 0, 1) := by decide +kernel
theorem dL_law_789 : decode cL_law 789 = .ok (.invokevirtual 90, 3) := by decide +kernel
theorem dL_law_792 : decode cL_law 792 = .ok (.aload_n 2, 1) := by decide +kernel
theorem dL_law_793 : decode cL_law 793 = .ok (.aload_n 0, 1) := by decide +kernel
theorem dL_law_794 : decode cL_law 794 = .ok (.iload_n 3, 1) := by decide +kernel
theorem dL_law_795 : decode cL_law 795 = .ok (.iconst 1, 1) := by decide +kernel
theorem dL_law_796 : decode cL_law 796 = .ok (.iadd, 1) := by decide +kernel
theorem dL_law_797 : decode cL_law 797 = .ok (.iaload, 1) := by decide +kernel
theorem dL_law_798 : decode cL_law 798 = .ok (.ifCond .eq 7, 3) := by decide +kernel
theorem dL_law_801 : decode cL_law 801 = .ok (.iconst 1, 1) := by decide +kernel
theorem dL_law_802 : decode cL_law 802 = .ok (.goto 4, 3) := by decide +kernel
theorem dL_law_805 : decode cL_law 805 = .ok (.iconst 0, 1) := by decide +kernel
theorem dL_law_806 : decode cL_law 806 = .ok (.invokevirtual 94, 3) := by decide +kernel
theorem dL_law_809 : decode cL_law 809 = .ok (.if_icmp .eq 350, 3) := by decide +kernel
theorem dL_law_812 : decode cL_law 812 = .ok (.iconst 0, 1) := by decide +kernel
theorem dL_law_813 : decode cL_law 813 = .ok (.ireturn, 1) := by decide +kernel
theorem dL_law_814 : decode cL_law 814 = .ok (.aload_n 1, 1) := by decide +kernel
theorem dL_law_815 : decode cL_law 815 = .ok (.aload_n 0, 1) := by decide +kernel
theorem dL_law_816 : decode cL_law 816 = .ok (.iload_n 3, 1) := by decide +kernel
theorem dL_law_817 : decode cL_law 817 = .ok (.iconst 1, 1) := by decide +kernel
theorem dL_law_818 : decode cL_law 818 = .ok (.iadd, 1) := by decide +kernel
theorem dL_law_819 : decode cL_law 819 = .ok (.iaload, 1) := by decide +kernel
theorem dL_law_820 : decode cL_law 820 = .ok (.aload_n 0, 1) := by decide +kernel
theorem dL_law_821 : decode cL_law 821 = .ok (.iload_n 3, 1) := by decide +kernel
theorem dL_law_822 : decode cL_law 822 = .ok (.iconst 2, 1) := by decide +kernel
theorem dL_law_823 : decode cL_law 823 = .ok (.iadd, 1) := by decide +kernel
theorem dL_law_824 : decode cL_law 824 = .ok (.iaload, 1) := by decide +kernel
theorem dL_law_825 : decode cL_law 825 = .ok (.ifCond .eq 7, 3) := by decide +kernel
theorem dL_law_828 : decode cL_law 828 = .ok (.iconst 1, 1) := by decide +kernel
theorem dL_law_829 : decode cL_law 829 = .ok (.goto 4, 3) := by decide +kernel
theorem dL_law_832 : decode cL_law 832 = .ok (.iconst 0, 1) := by decide +kernel
theorem dL_law_833 : decode cL_law 833 = .ok (.invokevirtual 95, 3) := by decide +kernel
theorem dL_law_836 : decode cL_law 836 = .ok (.aload_n 2, 1) := by decide +kernel
theorem dL_law_837 : decode cL_law 837 = .ok (.aload_n 0, 1) := by decide +kernel
theorem dL_law_838 : decode cL_law 838 = .ok (.iload_n 3, 1) := by decide +kernel
theorem dL_law_839 : decode cL_law 839 = .ok (.iconst 1, 1) := by decide +kernel
theorem dL_law_840 : decode cL_law 840 = .ok (.iadd, 1) := by decide +kernel
theorem dL_law_841 : decode cL_law 841 = .ok (.iaload, 1) := by decide +kernel
theorem dL_law_842 : decode cL_law 842 = .ok (.aload_n 0, 1) := by decide +kernel
theorem dL_law_843 : decode cL_law 843 = .ok (.iload_n 3, 1) := by decide +kernel
theorem dL_law_844 : decode cL_law 844 = .ok (.iconst 2, 1) := by decide +kernel
theorem dL_law_845 : decode cL_law 845 = .ok (.iadd, 1) := by decide +kernel
theorem dL_law_846 : decode cL_law 846 = .ok (.iaload, 1) := by decide +kernel
theorem dL_law_847 : decode cL_law 847 = .ok (.ifCond .eq 7, 3) := by decide +kernel
theorem dL_law_850 : decode cL_law 850 = .ok (.iconst 1, 1) := by decide +kernel
theorem dL_law_851 : decode cL_law 851 = .ok (.goto 4, 3) := by decide +kernel
theorem dL_law_854 : decode cL_law 854 = .ok (.iconst 0, 1) := by decide +kernel
theorem dL_law_855 : decode cL_law 855 = .ok (.invokevirtual 99, 3) := by decide +kernel
theorem dL_law_858 : decode cL_law 858 = .ok (.if_icmp .eq 301, 3) := by decide +kernel
theorem dL_law_861 : decode cL_law 861 = .ok (.iconst 0, 1) := by decide +kernel
theorem dL_law_862 : decode cL_law 862 = .ok (.ireturn, 1) := by decide +kernel
theorem dL_law_863 : decode cL_law 863 = .ok (.aload_n 1, 1) := by decide +kernel
theorem dL_law_864 : decode cL_law 864 = .ok (.aload_n 0, 1) := by decide +kernel
theorem dL_law_865 : decode cL_law 865 = .ok (.iload_n 3, 1) := by decide +kernel
theorem dL_law_866 : decode cL_law 866 = .ok (.iconst 1, 1) := by decide +kernel
theorem dL_law_867 : decode cL_law 867 = .ok (.iadd, 1) := by decide +kernel
theorem dL_law_868 : decode cL_law 868 = .ok (.iaload, 1) := by decide +kernel
theorem dL_law_869 : decode cL_law 869 = .ok (.invokevirtual 100, 3) := by decide +kernel
theorem dL_law_872 : decode cL_law 872 = .ok (.aload_n 2, 1) := by decide +kernel
theorem dL_law_873 : decode cL_law 873 = .ok (.aload_n 0, 1) := by decide +kernel
theorem dL_law_874 : decode cL_law 874 = .ok (.iload_n 3, 1) := by decide +kernel
theorem dL_law_875 : decode cL_law 875 = .ok (.iconst 1, 1) := by decide +kernel
theorem dL_law_876 : decode cL_law 876 = .ok (.iadd, 1) := by decide +kernel
theorem dL_law_877 : decode cL_law 877 = .ok (.iaload, 1) := by decide +kernel
theorem dL_law_878 : decode cL_law 878 = .ok (.invokevirtual 104, 3) := by decide +kernel
theorem dL_law_881 : decode cL_law 881 = .ok (.if_icmp .eq 278, 3) := by decide +kernel
theorem dL_law_884 : decode cL_law 884 = .ok (.iconst 0, 1) := by decide +kernel
theorem dL_law_885 : decode cL_law 885 = .ok (.ireturn, 1) := by decide +kernel
theorem dL_law_886 : decode cL_law 886 = .ok (.aload_n 1, 1) := by decide +kernel
theorem dL_law_887 : decode cL_law 887 = .ok (.aload_n 0, 1) := by decide +kernel
theorem dL_law_888 : decode cL_law 888 = .ok (.iload_n 3, 1) := by decide +kernel
theorem dL_law_889 : decode cL_law 889 = .ok (.iconst 1, 1) := by decide +kernel
theorem dL_law_890 : decode cL_law 890 = .ok (.iadd, 1) := by decide +kernel
theorem dL_law_891 : decode cL_law 891 = .ok (.iaload, 1) := by decide +kernel
theorem dL_law_892 : decode cL_law 892 = .ok (.aload_n 0, 1) := by decide +kernel
theorem dL_law_893 : decode cL_law 893 = .ok (.iload_n 3, 1) := by decide +kernel
theorem dL_law_894 : decode cL_law 894 = .ok (.iconst 2, 1) := by decide +kernel
theorem dL_law_895 : decode cL_law 895 = .ok (.iadd, 1) := by decide +kernel
theorem dL_law_896 : decode cL_law 896 = .ok (.iaload, 1) := by decide +kernel
theorem dL_law_897 : decode cL_law 897 = .ok (.invokevirtual 105, 3) := by decide +kernel
theorem dL_law_900 : decode cL_law 900 = .ok (.aload_n 2, 1) := by decide +kernel
theorem dL_law_901 : decode cL_law 901 = .ok (.aload_n 0, 1) := by decide +kernel
theorem dL_law_902 : decode cL_law 902 = .ok (.iload_n 3, 1) := by decide +kernel
theorem dL_law_903 : decode cL_law 903 = .ok (.iconst 1, 1) := by decide +kernel
theorem dL_law_904 : decode cL_law 904 = .ok (.iadd, 1) := by decide +kernel
theorem dL_law_905 : decode cL_law 905 = .ok (.iaload, 1) := by decide +kernel
theorem dL_law_906 : decode cL_law 906 = .ok (.aload_n 0, 1) := by decide +kernel
theorem dL_law_907 : decode cL_law 907 = .ok (.iload_n 3, 1) := by decide +kernel
theorem dL_law_908 : decode cL_law 908 = .ok (.iconst 2, 1) := by decide +kernel
theorem dL_law_909 : decode cL_law 909 = .ok (.iadd, 1) := by decide +kernel
theorem dL_law_910 : decode cL_law 910 = .ok (.iaload, 1) := by decide +kernel
theorem dL_law_911 : decode cL_law 911 = .ok (.invokevirtual 109, 3) := by decide +kernel
theorem dL_law_914 : decode cL_law 914 = .ok (.if_icmp .eq 245, 3) := by decide +kernel
theorem dL_law_917 : decode cL_law 917 = .ok (.iconst 0, 1) := by decide +kernel
theorem dL_law_918 : decode cL_law 918 = .ok (.ireturn, 1) := by decide +kernel
theorem dL_law_919 : decode cL_law 919 = .ok (.aload_n 1, 1) := by decide +kernel
theorem dL_law_920 : decode cL_law 920 = .ok (.aload_n 0, 1) := by decide +kernel
theorem dL_law_921 : decode cL_law 921 = .ok (.iload_n 3, 1) := by decide +kernel
theorem dL_law_922 : decode cL_law 922 = .ok (.iconst 1, 1) := by decide +kernel
theorem dL_law_923 : decode cL_law 923 = .ok (.iadd, 1) := by decide +kernel
theorem dL_law_924 : decode cL_law 924 = .ok (.iaload, 1) := by decide +kernel
theorem dL_law_925 : decode cL_law 925 = .ok (.invokevirtual 110, 3) := by decide +kernel
theorem dL_law_928 : decode cL_law 928 = .ok (.aload_n 2, 1) := by decide +kernel
theorem dL_law_929 : decode cL_law 929 = .ok (.aload_n 0, 1) := by decide +kernel
theorem dL_law_930 : decode cL_law 930 = .ok (.iload_n 3, 1) := by decide +kernel
theorem dL_law_931 : decode cL_law 931 = .ok (.iconst 1, 1) := by decide +kernel
theorem dL_law_932 : decode cL_law 932 = .ok (.iadd, 1) := by decide +kernel
theorem dL_law_933 : decode cL_law 933 = .ok (.iaload, 1) := by decide +kernel
theorem dL_law_934 : decode cL_law 934 = .ok (.invokevirtual 113, 3) := by decide +kernel
theorem dL_law_937 : decode cL_law 937 = .ok (.if_icmp .eq 222, 3) := by decide +kernel
theorem dL_law_940 : decode cL_law 940 = .ok (.iconst 0, 1) := by decide +kernel
theorem dL_law_941 : decode cL_law 941 = .ok (.ireturn, 1) := by decide +kernel
theorem dL_law_942 : decode cL_law 942 = .ok (.aload_n 1, 1) := by decide +kernel
theorem dL_law_943 : decode cL_law 943 = .ok (.aload_n 0, 1) := by decide +kernel
theorem dL_law_944 : decode cL_law 944 = .ok (.iload_n 3, 1) := by decide +kernel
theorem dL_law_945 : decode cL_law 945 = .ok (.iconst 1, 1) := by decide +kernel
theorem dL_law_946 : decode cL_law 946 = .ok (.iadd, 1) := by decide +kernel
theorem dL_law_947 : decode cL_law 947 = .ok (.iaload, 1) := by decide +kernel
theorem dL_law_948 : decode cL_law 948 = .ok (.aload_n 0, 1) := by decide +kernel
theorem dL_law_949 : decode cL_law 949 = .ok (.iload_n 3, 1) := by decide +kernel
theorem dL_law_950 : decode cL_law 950 = .ok (.iconst 2, 1) := by decide +kernel
theorem dL_law_951 : decode cL_law 951 = .ok (.iadd, 1) := by decide +kernel
theorem dL_law_952 : decode cL_law 952 = .ok (.iaload, 1) := by decide +kernel
theorem dL_law_953 : decode cL_law 953 = .ok (.ifCond .eq 7, 3) := by decide +kernel
theorem dL_law_956 : decode cL_law 956 = .ok (.iconst 1, 1) := by decide +kernel
theorem dL_law_957 : decode cL_law 957 = .ok (.goto 4, 3) := by decide +kernel
theorem dL_law_960 : decode cL_law 960 = .ok (.iconst 0, 1) := by decide +kernel
theorem dL_law_961 : decode cL_law 961 = .ok (.invokevirtual 114, 3) := by decide +kernel
theorem dL_law_964 : decode cL_law 964 = .ok (.aload_n 2, 1) := by decide +kernel
theorem dL_law_965 : decode cL_law 965 = .ok (.aload_n 0, 1) := by decide +kernel
theorem dL_law_966 : decode cL_law 966 = .ok (.iload_n 3, 1) := by decide +kernel
theorem dL_law_967 : decode cL_law 967 = .ok (.iconst 1, 1) := by decide +kernel
theorem dL_law_968 : decode cL_law 968 = .ok (.iadd, 1) := by decide +kernel
theorem dL_law_969 : decode cL_law 969 = .ok (.iaload, 1) := by decide +kernel
theorem dL_law_970 : decode cL_law 970 = .ok (.aload_n 0, 1) := by decide +kernel
theorem dL_law_971 : decode cL_law 971 = .ok (.iload_n 3, 1) := by decide +kernel
theorem dL_law_972 : decode cL_law 972 = .ok (.iconst 2, 1) := by decide +kernel
theorem dL_law_973 : decode cL_law 973 = .ok (.iadd, 1) := by decide +kernel
theorem dL_law_974 : decode cL_law 974 = .ok (.iaload, 1) := by decide +kernel
theorem dL_law_975 : decode cL_law 975 = .ok (.ifCond .eq 7, 3) := by decide +kernel
theorem dL_law_978 : decode cL_law 978 = .ok (.iconst 1, 1) := by decide +kernel
theorem dL_law_979 : decode cL_law 979 = .ok (.goto 4, 3) := by decide +kernel
theorem dL_law_982 : decode cL_law 982 = .ok (.iconst 0, 1) := by decide +kernel
theorem dL_law_983 : decode cL_law 983 = .ok (.invokevirtual 117, 3) := by decide +kernel
theorem dL_law_986 : decode cL_law 986 = .ok (.if_icmp .eq 173, 3) := by decide +kernel
theorem dL_law_989 : decode cL_law 989 = .ok (.iconst 0, 1) := by decide +kernel
theorem dL_law_990 : decode cL_law 990 = .ok (.ireturn, 1) := by decide +kernel
theorem dL_law_991 : decode cL_law 991 = .ok (.aload_n 1, 1) := by decide +kernel
theorem dL_law_992 : decode cL_law 992 = .ok (.aload_n 0, 1) := by decide +kernel
theorem dL_law_993 : decode cL_law 993 = .ok (.iload_n 3, 1) := by decide +kernel
theorem dL_law_994 : decode cL_law 994 = .ok (.iconst 1, 1) := by decide +kernel
theorem dL_law_995 : decode cL_law 995 = .ok (.iadd, 1) := by decide +kernel
theorem dL_law_996 : decode cL_law 996 = .ok (.iaload, 1) := by decide +kernel
theorem dL_law_997 : decode cL_law 997 = .ok (.invokevirtual 118, 3) := by decide +kernel
theorem dL_law_1000 : decode cL_law 1000 = .ok (.aload_n 2, 1) := by decide +kernel
theorem dL_law_1001 : decode cL_law 1001 = .ok (.aload_n 0, 1) := by decide +kernel
theorem dL_law_1002 : decode cL_law 1002 = .ok (.iload_n 3, 1) := by decide +kernel
theorem dL_law_1003 : decode cL_law 1003 = .ok (.iconst 1, 1) := by decide +kernel
theorem dL_law_1004 : decode cL_law 1004 = .ok (.iadd, 1) := by decide +kernel
theorem dL_law_1005 : decode cL_law 1005 = .ok (.iaload, 1) := by decide +kernel
theorem dL_law_1006 : decode cL_law 1006 = .ok (.invokevirtual 121, 3) := by decide +kernel
theorem dL_law_1009 : decode cL_law 1009 = .ok (.if_icmp .eq 150, 3) := by decide +kernel
theorem dL_law_1012 : decode cL_law 1012 = .ok (.iconst 0, 1) := by decide +kernel
theorem dL_law_1013 : decode cL_law 1013 = .ok (.ireturn, 1) := by decide +kernel
theorem dL_law_1014 : decode cL_law 1014 = .ok (.aload_n 1, 1) := by decide +kernel
theorem dL_law_1015 : decode cL_law 1015 = .ok (.aload_n 0, 1) := by decide +kernel
theorem dL_law_1016 : decode cL_law 1016 = .ok (.iload_n 3, 1) := by decide +kernel
theorem dL_law_1017 : decode cL_law 1017 = .ok (.iconst 1, 1) := by decide +kernel
theorem dL_law_1018 : decode cL_law 1018 = .ok (.iadd, 1) := by decide +kernel
theorem dL_law_1019 : decode cL_law 1019 = .ok (.iaload, 1) := by decide +kernel
theorem dL_law_1020 : decode cL_law 1020 = .ok (.aload_n 0, 1) := by decide +kernel
theorem dL_law_1021 : decode cL_law 1021 = .ok (.iload_n 3, 1) := by decide +kernel
theorem dL_law_1022 : decode cL_law 1022 = .ok (.iconst 2, 1) := by decide +kernel
theorem dL_law_1023 : decode cL_law 1023 = .ok (.iadd, 1) := by decide +kernel
theorem dL_law_1024 : decode cL_law 1024 = .ok (.iaload, 1) := by decide +kernel
theorem dL_law_1025 : decode cL_law 1025 = .ok (.invokevirtual 122, 3) := by decide +kernel
theorem dL_law_1028 : decode cL_law 1028 = .ok (.aload_n 2, 1) := by decide +kernel
theorem dL_law_1029 : decode cL_law 1029 = .ok (.aload_n 0, 1) := by decide +kernel
theorem dL_law_1030 : decode cL_law 1030 = .ok (.iload_n 3, 1) := by decide +kernel
theorem dL_law_1031 : decode cL_law 1031 = .ok (.iconst 1, 1) := by decide +kernel
theorem dL_law_1032 : decode cL_law 1032 = .ok (.iadd, 1) := by decide +kernel
theorem dL_law_1033 : decode cL_law 1033 = .ok (.iaload, 1) := by decide +kernel
theorem dL_law_1034 : decode cL_law 1034 = .ok (.aload_n 0, 1) := by decide +kernel
theorem dL_law_1035 : decode cL_law 1035 = .ok (.iload_n 3, 1) := by decide +kernel
theorem dL_law_1036 : decode cL_law 1036 = .ok (.iconst 2, 1) := by decide +kernel
theorem dL_law_1037 : decode cL_law 1037 = .ok (.iadd, 1) := by decide +kernel
theorem dL_law_1038 : decode cL_law 1038 = .ok (.iaload, 1) := by decide +kernel
theorem dL_law_1039 : decode cL_law 1039 = .ok (.invokevirtual 125, 3) := by decide +kernel
theorem dL_law_1042 : decode cL_law 1042 = .ok (.if_icmp .eq 117, 3) := by decide +kernel
theorem dL_law_1045 : decode cL_law 1045 = .ok (.iconst 0, 1) := by decide +kernel
theorem dL_law_1046 : decode cL_law 1046 = .ok (.ireturn, 1) := by decide +kernel
theorem dL_law_1047 : decode cL_law 1047 = .ok (.aload_n 1, 1) := by decide +kernel
theorem dL_law_1048 : decode cL_law 1048 = .ok (.aload_n 0, 1) := by decide +kernel
theorem dL_law_1049 : decode cL_law 1049 = .ok (.iload_n 3, 1) := by decide +kernel
theorem dL_law_1050 : decode cL_law 1050 = .ok (.iconst 1, 1) := by decide +kernel
theorem dL_law_1051 : decode cL_law 1051 = .ok (.iadd, 1) := by decide +kernel
theorem dL_law_1052 : decode cL_law 1052 = .ok (.iaload, 1) := by decide +kernel
theorem dL_law_1053 : decode cL_law 1053 = .ok (.aload_n 0, 1) := by decide +kernel
theorem dL_law_1054 : decode cL_law 1054 = .ok (.iload_n 3, 1) := by decide +kernel
theorem dL_law_1055 : decode cL_law 1055 = .ok (.iconst 2, 1) := by decide +kernel
theorem dL_law_1056 : decode cL_law 1056 = .ok (.iadd, 1) := by decide +kernel
theorem dL_law_1057 : decode cL_law 1057 = .ok (.iaload, 1) := by decide +kernel
theorem dL_law_1058 : decode cL_law 1058 = .ok (.invokevirtual 126, 3) := by decide +kernel
theorem dL_law_1061 : decode cL_law 1061 = .ok (.aload_n 2, 1) := by decide +kernel
theorem dL_law_1062 : decode cL_law 1062 = .ok (.aload_n 0, 1) := by decide +kernel
theorem dL_law_1063 : decode cL_law 1063 = .ok (.iload_n 3, 1) := by decide +kernel
theorem dL_law_1064 : decode cL_law 1064 = .ok (.iconst 1, 1) := by decide +kernel
theorem dL_law_1065 : decode cL_law 1065 = .ok (.iadd, 1) := by decide +kernel
theorem dL_law_1066 : decode cL_law 1066 = .ok (.iaload, 1) := by decide +kernel
theorem dL_law_1067 : decode cL_law 1067 = .ok (.aload_n 0, 1) := by decide +kernel
theorem dL_law_1068 : decode cL_law 1068 = .ok (.iload_n 3, 1) := by decide +kernel
theorem dL_law_1069 : decode cL_law 1069 = .ok (.iconst 2, 1) := by decide +kernel
theorem dL_law_1070 : decode cL_law 1070 = .ok (.iadd, 1) := by decide +kernel
theorem dL_law_1071 : decode cL_law 1071 = .ok (.iaload, 1) := by decide +kernel
theorem dL_law_1072 : decode cL_law 1072 = .ok (.invokevirtual 129, 3) := by decide +kernel
theorem dL_law_1075 : decode cL_law 1075 = .ok (.if_icmp .eq 84, 3) := by decide +kernel
theorem dL_law_1078 : decode cL_law 1078 = .ok (.iconst 0, 1) := by decide +kernel
theorem dL_law_1079 : decode cL_law 1079 = .ok (.ireturn, 1) := by decide +kernel
theorem dL_law_1080 : decode cL_law 1080 = .ok (.aload_n 1, 1) := by decide +kernel
theorem dL_law_1081 : decode cL_law 1081 = .ok (.aload_n 0, 1) := by decide +kernel
theorem dL_law_1082 : decode cL_law 1082 = .ok (.iload_n 3, 1) := by decide +kernel
theorem dL_law_1083 : decode cL_law 1083 = .ok (.iconst 1, 1) := by decide +kernel
theorem dL_law_1084 : decode cL_law 1084 = .ok (.iadd, 1) := by decide +kernel
theorem dL_law_1085 : decode cL_law 1085 = .ok (.iaload, 1) := by decide +kernel
theorem dL_law_1086 : decode cL_law 1086 = .ok (.invokevirtual 130, 3) := by decide +kernel
theorem dL_law_1089 : decode cL_law 1089 = .ok (.aload_n 2, 1) := by decide +kernel
theorem dL_law_1090 : decode cL_law 1090 = .ok (.aload_n 0, 1) := by decide +kernel
theorem dL_law_1091 : decode cL_law 1091 = .ok (.iload_n 3, 1) := by decide +kernel
theorem dL_law_1092 : decode cL_law 1092 = .ok (.iconst 1, 1) := by decide +kernel
theorem dL_law_1093 : decode cL_law 1093 = .ok (.iadd, 1) := by decide +kernel
theorem dL_law_1094 : decode cL_law 1094 = .ok (.iaload, 1) := by decide +kernel
theorem dL_law_1095 : decode cL_law 1095 = .ok (.invokevirtual 133, 3) := by decide +kernel
theorem dL_law_1098 : decode cL_law 1098 = .ok (.if_icmp .eq 61, 3) := by decide +kernel
theorem dL_law_1101 : decode cL_law 1101 = .ok (.iconst 0, 1) := by decide +kernel
theorem dL_law_1102 : decode cL_law 1102 = .ok (.ireturn, 1) := by decide +kernel
theorem dL_law_1103 : decode cL_law 1103 = .ok (.aload_n 1, 1) := by decide +kernel
theorem dL_law_1104 : decode cL_law 1104 = .ok (.aload_n 0, 1) := by decide +kernel
theorem dL_law_1105 : decode cL_law 1105 = .ok (.iload_n 3, 1) := by decide +kernel
theorem dL_law_1106 : decode cL_law 1106 = .ok (.iconst 1, 1) := by decide +kernel
theorem dL_law_1107 : decode cL_law 1107 = .ok (.iadd, 1) := by decide +kernel
theorem dL_law_1108 : decode cL_law 1108 = .ok (.iaload, 1) := by decide +kernel
theorem dL_law_1109 : decode cL_law 1109 = .ok (.aload_n 0, 1) := by decide +kernel
theorem dL_law_1110 : decode cL_law 1110 = .ok (.iload_n 3, 1) := by decide +kernel
theorem dL_law_1111 : decode cL_law 1111 = .ok (.iconst 2, 1) := by decide +kernel
theorem dL_law_1112 : decode cL_law 1112 = .ok (.iadd, 1) := by decide +kernel
theorem dL_law_1113 : decode cL_law 1113 = .ok (.iaload, 1) := by decide +kernel
theorem dL_law_1114 : decode cL_law 1114 = .ok (.invokevirtual 134, 3) := by decide +kernel
theorem dL_law_1117 : decode cL_law 1117 = .ok (.aload_n 2, 1) := by decide +kernel
theorem dL_law_1118 : decode cL_law 1118 = .ok (.aload_n 0, 1) := by decide +kernel
theorem dL_law_1119 : decode cL_law 1119 = .ok (.iload_n 3, 1) := by decide +kernel
theorem dL_law_1120 : decode cL_law 1120 = .ok (.iconst 1, 1) := by decide +kernel
theorem dL_law_1121 : decode cL_law 1121 = .ok (.iadd, 1) := by decide +kernel
theorem dL_law_1122 : decode cL_law 1122 = .ok (.iaload, 1) := by decide +kernel
theorem dL_law_1123 : decode cL_law 1123 = .ok (.aload_n 0, 1) := by decide +kernel
theorem dL_law_1124 : decode cL_law 1124 = .ok (.iload_n 3, 1) := by decide +kernel
theorem dL_law_1125 : decode cL_law 1125 = .ok (.iconst 2, 1) := by decide +kernel
theorem dL_law_1126 : decode cL_law 1126 = .ok (.iadd, 1) := by decide +kernel
theorem dL_law_1127 : decode cL_law 1127 = .ok (.iaload, 1) := by decide +kernel
theorem dL_law_1128 : decode cL_law 1128 = .ok (.invokevirtual 137, 3) := by decide +kernel
theorem dL_law_1131 : decode cL_law 1131 = .ok (.if_icmp .eq 28, 3) := by decide +kernel
theorem dL_law_1134 : decode cL_law 1134 = .ok (.iconst 0, 1) := by decide +kernel
theorem dL_law_1135 : decode cL_law 1135 = .ok (.ireturn, 1) := by decide +kernel
theorem dL_law_1136 : decode cL_law 1136 = .ok (.aload_n 1, 1) := by decide +kernel
theorem dL_law_1137 : decode cL_law 1137 = .ok (.aload_n 0, 1) := by decide +kernel
theorem dL_law_1138 : decode cL_law 1138 = .ok (.iload_n 3, 1) := by decide +kernel
theorem dL_law_1139 : decode cL_law 1139 = .ok (.iconst 1, 1) := by decide +kernel
theorem dL_law_1140 : decode cL_law 1140 = .ok (.iadd, 1) := by decide +kernel
theorem dL_law_1141 : decode cL_law 1141 = .ok (.iaload, 1) := by decide +kernel
theorem dL_law_1142 : decode cL_law 1142 = .ok (.invokevirtual 138, 3) := by decide +kernel
theorem dL_law_1145 : decode cL_law 1145 = .ok (.aload_n 2, 1) := by decide +kernel
theorem dL_law_1146 : decode cL_law 1146 = .ok (.aload_n 0, 1) := by decide +kernel
theorem dL_law_1147 : decode cL_law 1147 = .ok (.iload_n 3, 1) := by decide +kernel
theorem dL_law_1148 : decode cL_law 1148 = .ok (.iconst 1, 1) := by decide +kernel
theorem dL_law_1149 : decode cL_law 1149 = .ok (.iadd, 1) := by decide +kernel
theorem dL_law_1150 : decode cL_law 1150 = .ok (.iaload, 1) := by decide +kernel
theorem dL_law_1151 : decode cL_law 1151 = .ok (.invokevirtual 141, 3) := by decide +kernel
theorem dL_law_1154 : decode cL_law 1154 = .ok (.if_icmp .eq 5, 3) := by decide +kernel
theorem dL_law_1157 : decode cL_law 1157 = .ok (.iconst 0, 1) := by decide +kernel
theorem dL_law_1158 : decode cL_law 1158 = .ok (.ireturn, 1) := by decide +kernel
theorem dL_law_1159 : decode cL_law 1159 = .ok (.iinc 3 10, 3) := by decide +kernel
theorem dL_law_1162 : decode cL_law 1162 = .ok (.goto (-1144), 3) := by decide +kernel
theorem dL_law_1165 : decode cL_law 1165 = .ok (.iconst 1, 1) := by decide +kernel
theorem dL_law_1166 : decode cL_law 1166 = .ok (.ireturn, 1) := by decide +kernel
theorem dX0_init_0 : decode cX0_init 0 = .ok (.aload_n 0, 1) := by decide +kernel
theorem dX0_init_1 : decode cX0_init 1 = .ok (.invokespecial 3, 3) := by decide +kernel
theorem dX0_init_4 : decode cX0_init 4 = .ok (.aload_n 0, 1) := by decide +kernel
theorem dX0_init_5 : decode cX0_init 5 = .ok (.bipush 32, 2) := by decide +kernel
theorem dX0_init_7 : decode cX0_init 7 = .ok (.newarray .long, 2) := by decide +kernel
theorem dX0_init_9 : decode cX0_init 9 = .ok (.putfield 9, 3) := by decide +kernel
theorem dX0_init_12 : decode cX0_init 12 = .ok (.aload_n 0, 1) := by decide +kernel
theorem dX0_init_13 : decode cX0_init 13 = .ok (.iconst 4, 1) := by decide +kernel
theorem dX0_init_14 : decode cX0_init 14 = .ok (.newarray .long, 2) := by decide +kernel
theorem dX0_init_16 : decode cX0_init 16 = .ok (.putfield 15, 3) := by decide +kernel
theorem dX0_init_19 : decode cX0_init 19 = .ok (.aload_n 0, 1) := by decide +kernel
theorem dX0_init_20 : decode cX0_init 20 = .ok (.iconst 3, 1) := by decide +kernel
theorem dX0_init_21 : decode cX0_init 21 = .ok (.putfield 18, 3) := by decide +kernel
theorem dX0_init_24 : decode cX0_init 24 = .ok (.aload_n 0, 1) := by decide +kernel
theorem dX0_init_25 : decode cX0_init 25 = .ok (.iconst 2, 1) := by decide +kernel
theorem dX0_init_26 : decode cX0_init 26 = .ok (.putfield 22, 3) := by decide +kernel
theorem dX0_init_29 : decode cX0_init 29 = .ok (.aload_n 0, 1) := by decide +kernel
theorem dX0_init_30 : decode cX0_init 30 = .ok (.iconst 2, 1) := by decide +kernel
theorem dX0_init_31 : decode cX0_init 31 = .ok (.putfield 25, 3) := by decide +kernel
theorem dX0_init_34 : decode cX0_init 34 = .ok (.aload_n 0, 1) := by decide +kernel
theorem dX0_init_35 : decode cX0_init 35 = .ok (.iconst 1, 1) := by decide +kernel
theorem dX0_init_36 : decode cX0_init 36 = .ok (.putfield 28, 3) := by decide +kernel
theorem dX0_init_39 : decode cX0_init 39 = .ok (.aload_n 0, 1) := by decide +kernel
theorem dX0_init_40 : decode cX0_init 40 = .ok (.lconst 0, 1) := by decide +kernel
theorem dX0_init_41 : decode cX0_init 41 = .ok (.putfield 31, 3) := by decide +kernel
theorem dX0_init_44 : decode cX0_init 44 = .ok (.aload_n 0, 1) := by decide +kernel
theorem dX0_init_45 : decode cX0_init 45 = .ok (.lconst 1, 1) := by decide +kernel
theorem dX0_init_46 : decode cX0_init 46 = .ok (.putfield 35, 3) := by decide +kernel
theorem dX0_init_49 : decode cX0_init 49 = .ok (.iconst 0, 1) := by decide +kernel
theorem dX0_init_50 : decode cX0_init 50 = .ok (.istore_n 1, 1) := by decide +kernel
theorem dX0_init_51 : decode cX0_init 51 = .ok (.iload_n 1, 1) := by decide +kernel
theorem dX0_init_52 : decode cX0_init 52 = .ok (.iconst 4, 1) := by decide +kernel
theorem dX0_init_53 : decode cX0_init 53 = .ok (.if_icmp .ge 16, 3) := by decide +kernel
theorem dX0_init_56 : decode cX0_init 56 = .ok (.aload_n 0, 1) := by decide +kernel
theorem dX0_init_57 : decode cX0_init 57 = .ok (.iload_n 1, 1) := by decide +kernel
theorem dX0_init_58 : decode cX0_init 58 = .ok (.iconst 0, 1) := by decide +kernel
theorem dX0_init_59 : decode cX0_init 59 = .ok (.lconst 1, 1) := by decide +kernel
theorem dX0_init_60 : decode cX0_init 60 = .ok (.invokevirtual 38, 3) := by decide +kernel
theorem dX0_init_63 : decode cX0_init 63 = .ok (.iinc 1 1, 3) := by decide +kernel
theorem dX0_init_66 : decode cX0_init 66 = .ok (.goto (-15), 3) := by decide +kernel
theorem dX0_init_69 : decode cX0_init 69 = .ok (.return_, 1) := by decide +kernel
theorem dX0_weigh_0 : decode cX0_weigh 0 = .ok (.iload_n 1, 1) := by decide +kernel
theorem dX0_weigh_1 : decode cX0_weigh 1 = .ok (.bipush 8, 2) := by decide +kernel
theorem dX0_weigh_3 : decode cX0_weigh 3 = .ok (.imul, 1) := by decide +kernel
theorem dX0_weigh_4 : decode cX0_weigh 4 = .ok (.iload_n 2, 1) := by decide +kernel
theorem dX0_weigh_5 : decode cX0_weigh 5 = .ok (.iadd, 1) := by decide +kernel
theorem dX0_weigh_6 : decode cX0_weigh 6 = .ok (.istore 5, 2) := by decide +kernel
theorem dX0_weigh_8 : decode cX0_weigh 8 = .ok (.aload_n 0, 1) := by decide +kernel
theorem dX0_weigh_9 : decode cX0_weigh 9 = .ok (.getfield 15, 3) := by decide +kernel
theorem dX0_weigh_12 : decode cX0_weigh 12 = .ok (.iload_n 1, 1) := by decide +kernel
theorem dX0_weigh_13 : decode cX0_weigh 13 = .ok (.dup2, 1) := by decide +kernel
theorem dX0_weigh_14 : decode cX0_weigh 14 = .ok (.laload, 1) := by decide +kernel
theorem dX0_weigh_15 : decode cX0_weigh 15 = .ok (.lload_n 3, 1) := by decide +kernel
theorem dX0_weigh_16 : decode cX0_weigh 16 = .ok (.aload_n 0, 1) := by decide +kernel
theorem dX0_weigh_17 : decode cX0_weigh 17 = .ok (.getfield 9, 3) := by decide +kernel
theorem dX0_weigh_20 : decode cX0_weigh 20 = .ok (.iload 5, 2) := by decide +kernel
theorem dX0_weigh_22 : decode cX0_weigh 22 = .ok (.laload, 1) := by decide +kernel
theorem dX0_weigh_23 : decode cX0_weigh 23 = .ok (.lsub, 1) := by decide +kernel
theorem dX0_weigh_24 : decode cX0_weigh 24 = .ok (.ladd, 1) := by decide +kernel
theorem dX0_weigh_25 : decode cX0_weigh 25 = .ok (.lastore, 1) := by decide +kernel
theorem dX0_weigh_26 : decode cX0_weigh 26 = .ok (.aload_n 0, 1) := by decide +kernel
theorem dX0_weigh_27 : decode cX0_weigh 27 = .ok (.getfield 9, 3) := by decide +kernel
theorem dX0_weigh_30 : decode cX0_weigh 30 = .ok (.iload 5, 2) := by decide +kernel
theorem dX0_weigh_32 : decode cX0_weigh 32 = .ok (.lload_n 3, 1) := by decide +kernel
theorem dX0_weigh_33 : decode cX0_weigh 33 = .ok (.lastore, 1) := by decide +kernel
theorem dX0_weigh_34 : decode cX0_weigh 34 = .ok (.return_, 1) := by decide +kernel
theorem dX0_weight_0 : decode cX0_weight 0 = .ok (.iload_n 2, 1) := by decide +kernel
theorem dX0_weight_1 : decode cX0_weight 1 = .ok (.ifCond .lt 23, 3) := by decide +kernel
theorem dX0_weight_4 : decode cX0_weight 4 = .ok (.iload_n 2, 1) := by decide +kernel
theorem dX0_weight_5 : decode cX0_weight 5 = .ok (.bipush 8, 2) := by decide +kernel
theorem dX0_weight_7 : decode cX0_weight 7 = .ok (.if_icmp .ge 17, 3) := by decide +kernel
theorem dX0_weight_10 : decode cX0_weight 10 = .ok (.aload_n 0, 1) := by decide +kernel
theorem dX0_weight_11 : decode cX0_weight 11 = .ok (.getfield 9, 3) := by decide +kernel
theorem dX0_weight_14 : decode cX0_weight 14 = .ok (.iload_n 1, 1) := by decide +kernel
theorem dX0_weight_15 : decode cX0_weight 15 = .ok (.bipush 8, 2) := by decide +kernel
theorem dX0_weight_17 : decode cX0_weight 17 = .ok (.imul, 1) := by decide +kernel
theorem dX0_weight_18 : decode cX0_weight 18 = .ok (.iload_n 2, 1) := by decide +kernel
theorem dX0_weight_19 : decode cX0_weight 19 = .ok (.iadd, 1) := by decide +kernel
theorem dX0_weight_20 : decode cX0_weight 20 = .ok (.laload, 1) := by decide +kernel
theorem dX0_weight_21 : decode cX0_weight 21 = .ok (.goto 4, 3) := by decide +kernel
theorem dX0_weight_24 : decode cX0_weight 24 = .ok (.lconst 0, 1) := by decide +kernel
theorem dX0_weight_25 : decode cX0_weight 25 = .ok (.lreturn, 1) := by decide +kernel
theorem dX0_sum_0 : decode cX0_sum 0 = .ok (.aload_n 0, 1) := by decide +kernel
theorem dX0_sum_1 : decode cX0_sum 1 = .ok (.getfield 15, 3) := by decide +kernel
theorem dX0_sum_4 : decode cX0_sum 4 = .ok (.iload_n 1, 1) := by decide +kernel
theorem dX0_sum_5 : decode cX0_sum 5 = .ok (.laload, 1) := by decide +kernel
theorem dX0_sum_6 : decode cX0_sum 6 = .ok (.lreturn, 1) := by decide +kernel
theorem dX0_above_0 : decode cX0_above 0 = .ok (.lconst 0, 1) := by decide +kernel
theorem dX0_above_1 : decode cX0_above 1 = .ok (.lstore_n 2, 1) := by decide +kernel
theorem dX0_above_2 : decode cX0_above 2 = .ok (.bipush 7, 2) := by decide +kernel
theorem dX0_above_4 : decode cX0_above 4 = .ok (.istore 4, 2) := by decide +kernel
theorem dX0_above_6 : decode cX0_above 6 = .ok (.iload 4, 2) := by decide +kernel
theorem dX0_above_8 : decode cX0_above 8 = .ok (.iload_n 1, 1) := by decide +kernel
theorem dX0_above_9 : decode cX0_above 9 = .ok (.if_icmp .le 24, 3) := by decide +kernel
theorem dX0_above_12 : decode cX0_above 12 = .ok (.iload 4, 2) := by decide +kernel
theorem dX0_above_14 : decode cX0_above 14 = .ok (.ifCond .lt 19, 3) := by decide +kernel
theorem dX0_above_17 : decode cX0_above 17 = .ok (.lload_n 2, 1) := by decide +kernel
theorem dX0_above_18 : decode cX0_above 18 = .ok (.aload_n 0, 1) := by decide +kernel
theorem dX0_above_19 : decode cX0_above 19 = .ok (.getfield 9, 3) := by decide +kernel
theorem dX0_above_22 : decode cX0_above 22 = .ok (.iload 4, 2) := by decide +kernel
theorem dX0_above_24 : decode cX0_above 24 = .ok (.laload, 1) := by decide +kernel
theorem dX0_above_25 : decode cX0_above 25 = .ok (.ladd, 1) := by decide +kernel
theorem dX0_above_26 : decode cX0_above 26 = .ok (.lstore_n 2, 1) := by decide +kernel
theorem dX0_above_27 : decode cX0_above 27 = .ok (.iinc 4 (-1), 3) := by decide +kernel
theorem dX0_above_30 : decode cX0_above 30 = .ok (.goto (-24), 3) := by decide +kernel
theorem dX0_above_33 : decode cX0_above 33 = .ok (.lload_n 2, 1) := by decide +kernel
theorem dX0_above_34 : decode cX0_above 34 = .ok (.lreturn, 1) := by decide +kernel
theorem dX0_spread_0 : decode cX0_spread 0 = .ok (.iconst 0, 1) := by decide +kernel
theorem dX0_spread_1 : decode cX0_spread 1 = .ok (.istore 4, 2) := by decide +kernel
theorem dX0_spread_3 : decode cX0_spread 3 = .ok (.iload 4, 2) := by decide +kernel
theorem dX0_spread_5 : decode cX0_spread 5 = .ok (.bipush 15, 2) := by decide +kernel
theorem dX0_spread_7 : decode cX0_spread 7 = .ok (.if_icmp .ge 64, 3) := by decide +kernel
theorem dX0_spread_10 : decode cX0_spread 10 = .ok (.iload 4, 2) := by decide +kernel
theorem dX0_spread_12 : decode cX0_spread 12 = .ok (.aload_n 3, 1) := by decide +kernel
theorem dX0_spread_13 : decode cX0_spread 13 = .ok (.arraylength, 1) := by decide +kernel
theorem dX0_spread_14 : decode cX0_spread 14 = .ok (.if_icmp .ge 57, 3) := by decide +kernel
theorem dX0_spread_17 : decode cX0_spread 17 = .ok (.lconst 0, 1) := by decide +kernel
theorem dX0_spread_18 : decode cX0_spread 18 = .ok (.lstore 5, 2) := by decide +kernel
theorem dX0_spread_20 : decode cX0_spread 20 = .ok (.iconst 0, 1) := by decide +kernel
theorem dX0_spread_21 : decode cX0_spread 21 = .ok (.istore 7, 2) := by decide +kernel
theorem dX0_spread_23 : decode cX0_spread 23 = .ok (.iload 7, 2) := by decide +kernel
theorem dX0_spread_25 : decode cX0_spread 25 = .ok (.bipush 8, 2) := by decide +kernel
theorem dX0_spread_27 : decode cX0_spread 27 = .ok (.if_icmp .ge 32, 3) := by decide +kernel
theorem dX0_spread_30 : decode cX0_spread 30 = .ok (.lload 5, 2) := by decide +kernel
theorem dX0_spread_32 : decode cX0_spread 32 = .ok (.aload_n 0, 1) := by decide +kernel
theorem dX0_spread_33 : decode cX0_spread 33 = .ok (.iload_n 1, 1) := by decide +kernel
theorem dX0_spread_34 : decode cX0_spread 34 = .ok (.iload 7, 2) := by decide +kernel
theorem dX0_spread_36 : decode cX0_spread 36 = .ok (.invokevirtual 42, 3) := by decide +kernel
theorem dX0_spread_39 : decode cX0_spread 39 = .ok (.aload_n 0, 1) := by decide +kernel
theorem dX0_spread_40 : decode cX0_spread 40 = .ok (.iload_n 2, 1) := by decide +kernel
theorem dX0_spread_41 : decode cX0_spread 41 = .ok (.iload 4, 2) := by decide +kernel
theorem dX0_spread_43 : decode cX0_spread 43 = .ok (.iload 7, 2) := by decide +kernel
theorem dX0_spread_45 : decode cX0_spread 45 = .ok (.isub, 1) := by decide +kernel
theorem dX0_spread_46 : decode cX0_spread 46 = .ok (.invokevirtual 42, 3) := by decide +kernel
theorem dX0_spread_49 : decode cX0_spread 49 = .ok (.lmul, 1) := by decide +kernel
theorem dX0_spread_50 : decode cX0_spread 50 = .ok (.ladd, 1) := by decide +kernel
theorem dX0_spread_51 : decode cX0_spread 51 = .ok (.lstore 5, 2) := by decide +kernel
theorem dX0_spread_53 : decode cX0_spread 53 = .ok (.iinc 7 1, 3) := by decide +kernel
theorem dX0_spread_56 : decode cX0_spread 56 = .ok (.goto (-33), 3) := by decide +kernel
theorem dX0_spread_59 : decode cX0_spread 59 = .ok (.aload_n 3, 1) := by decide +kernel
theorem dX0_spread_60 : decode cX0_spread 60 = .ok (.iload 4, 2) := by decide +kernel
theorem dX0_spread_62 : decode cX0_spread 62 = .ok (.lload 5, 2) := by decide +kernel
theorem dX0_spread_64 : decode cX0_spread 64 = .ok (.lastore, 1) := by decide +kernel
theorem dX0_spread_65 : decode cX0_spread 65 = .ok (.iinc 4 1, 3) := by decide +kernel
theorem dX0_spread_68 : decode cX0_spread 68 = .ok (.goto (-65), 3) := by decide +kernel
theorem dX0_spread_71 : decode cX0_spread 71 = .ok (.return_, 1) := by decide +kernel
theorem dX0_ofCopy_0 : decode cX0_ofCopy 0 = .ok (.aload_n 0, 1) := by decide +kernel
theorem dX0_ofCopy_1 : decode cX0_ofCopy 1 = .ok (.getfield 15, 3) := by decide +kernel
theorem dX0_ofCopy_4 : decode cX0_ofCopy 4 = .ok (.iconst 0, 1) := by decide +kernel
theorem dX0_ofCopy_5 : decode cX0_ofCopy 5 = .ok (.laload, 1) := by decide +kernel
theorem dX0_ofCopy_6 : decode cX0_ofCopy 6 = .ok (.iload_n 1, 1) := by decide +kernel
theorem dX0_ofCopy_7 : decode cX0_ofCopy 7 = .ok (.iconst 1, 1) := by decide +kernel
theorem dX0_ofCopy_8 : decode cX0_ofCopy 8 = .ok (.iadd, 1) := by decide +kernel
theorem dX0_ofCopy_9 : decode cX0_ofCopy 9 = .ok (.invokestatic 46, 3) := by decide +kernel
theorem dX0_ofCopy_12 : decode cX0_ofCopy 12 = .ok (.aload_n 0, 1) := by decide +kernel
theorem dX0_ofCopy_13 : decode cX0_ofCopy 13 = .ok (.getfield 15, 3) := by decide +kernel
theorem dX0_ofCopy_16 : decode cX0_ofCopy 16 = .ok (.iconst 1, 1) := by decide +kernel
theorem dX0_ofCopy_17 : decode cX0_ofCopy 17 = .ok (.laload, 1) := by decide +kernel
theorem dX0_ofCopy_18 : decode cX0_ofCopy 18 = .ok (.lmul, 1) := by decide +kernel
theorem dX0_ofCopy_19 : decode cX0_ofCopy 19 = .ok (.aload_n 0, 1) := by decide +kernel
theorem dX0_ofCopy_20 : decode cX0_ofCopy 20 = .ok (.getfield 15, 3) := by decide +kernel
theorem dX0_ofCopy_23 : decode cX0_ofCopy 23 = .ok (.iconst 2, 1) := by decide +kernel
theorem dX0_ofCopy_24 : decode cX0_ofCopy 24 = .ok (.laload, 1) := by decide +kernel
theorem dX0_ofCopy_25 : decode cX0_ofCopy 25 = .ok (.lmul, 1) := by decide +kernel
theorem dX0_ofCopy_26 : decode cX0_ofCopy 26 = .ok (.aload_n 0, 1) := by decide +kernel
theorem dX0_ofCopy_27 : decode cX0_ofCopy 27 = .ok (.getfield 15, 3) := by decide +kernel
theorem dX0_ofCopy_30 : decode cX0_ofCopy 30 = .ok (.iconst 3, 1) := by decide +kernel
theorem dX0_ofCopy_31 : decode cX0_ofCopy 31 = .ok (.laload, 1) := by decide +kernel
theorem dX0_ofCopy_32 : decode cX0_ofCopy 32 = .ok (.lmul, 1) := by decide +kernel
theorem dX0_ofCopy_33 : decode cX0_ofCopy 33 = .ok (.lreturn, 1) := by decide +kernel
theorem dX0_greatness_0 : decode cX0_greatness 0 = .ok (.aload_n 0, 1) := by decide +kernel
theorem dX0_greatness_1 : decode cX0_greatness 1 = .ok (.iload_n 2, 1) := by decide +kernel
theorem dX0_greatness_2 : decode cX0_greatness 2 = .ok (.invokevirtual 50, 3) := by decide +kernel
theorem dX0_greatness_5 : decode cX0_greatness 5 = .ok (.lstore_n 3, 1) := by decide +kernel
theorem dX0_greatness_6 : decode cX0_greatness 6 = .ok (.lconst 1, 1) := by decide +kernel
theorem dX0_greatness_7 : decode cX0_greatness 7 = .ok (.lstore 5, 2) := by decide +kernel
theorem dX0_greatness_9 : decode cX0_greatness 9 = .ok (.iconst 0, 1) := by decide +kernel
theorem dX0_greatness_10 : decode cX0_greatness 10 = .ok (.istore 7, 2) := by decide +kernel
theorem dX0_greatness_12 : decode cX0_greatness 12 = .ok (.iload 7, 2) := by decide +kernel
theorem dX0_greatness_14 : decode cX0_greatness 14 = .ok (.iload_n 1, 1) := by decide +kernel
theorem dX0_greatness_15 : decode cX0_greatness 15 = .ok (.if_icmp .ge 35, 3) := by decide +kernel
theorem dX0_greatness_18 : decode cX0_greatness 18 = .ok (.lload_n 3, 1) := by decide +kernel
theorem dX0_greatness_19 : decode cX0_greatness 19 = .ok (.lconst 1, 1) := by decide +kernel
theorem dX0_greatness_20 : decode cX0_greatness 20 = .ok (.lcmp, 1) := by decide +kernel
theorem dX0_greatness_21 : decode cX0_greatness 21 = .ok (.ifCond .lt 14, 3) := by decide +kernel
theorem dX0_greatness_24 : decode cX0_greatness 24 = .ok (.lload 5, 2) := by decide +kernel
theorem dX0_greatness_26 : decode cX0_greatness 26 = .ok (.ldc2_w 54, 3) := by decide +kernel
theorem dX0_greatness_29 : decode cX0_greatness 29 = .ok (.lload_n 3, 1) := by decide +kernel
theorem dX0_greatness_30 : decode cX0_greatness 30 = .ok (.ldiv, 1) := by decide +kernel
theorem dX0_greatness_31 : decode cX0_greatness 31 = .ok (.lcmp, 1) := by decide +kernel
theorem dX0_greatness_32 : decode cX0_greatness 32 = .ok (.ifCond .le 6, 3) := by decide +kernel
theorem dX0_greatness_35 : decode cX0_greatness 35 = .ok (.bipush 9, 2) := by decide +kernel
theorem dX0_greatness_37 : decode cX0_greatness 37 = .ok (.ireturn, 1) := by decide +kernel
theorem dX0_greatness_38 : decode cX0_greatness 38 = .ok (.lload 5, 2) := by decide +kernel
theorem dX0_greatness_40 : decode cX0_greatness 40 = .ok (.lload_n 3, 1) := by decide +kernel
theorem dX0_greatness_41 : decode cX0_greatness 41 = .ok (.lmul, 1) := by decide +kernel
theorem dX0_greatness_42 : decode cX0_greatness 42 = .ok (.lstore 5, 2) := by decide +kernel
theorem dX0_greatness_44 : decode cX0_greatness 44 = .ok (.iinc 7 1, 3) := by decide +kernel
theorem dX0_greatness_47 : decode cX0_greatness 47 = .ok (.goto (-35), 3) := by decide +kernel
theorem dX0_greatness_50 : decode cX0_greatness 50 = .ok (.iconst 0, 1) := by decide +kernel
theorem dX0_greatness_51 : decode cX0_greatness 51 = .ok (.ireturn, 1) := by decide +kernel
theorem dX0_tellFraction_0 : decode cX0_tellFraction 0 = .ok (.lload_n 1, 1) := by decide +kernel
theorem dX0_tellFraction_1 : decode cX0_tellFraction 1 = .ok (.lload_n 3, 1) := by decide +kernel
theorem dX0_tellFraction_2 : decode cX0_tellFraction 2 = .ok (.invokestatic 56, 3) := by decide +kernel
theorem dX0_tellFraction_5 : decode cX0_tellFraction 5 = .ok (.lstore 5, 2) := by decide +kernel
theorem dX0_tellFraction_7 : decode cX0_tellFraction 7 = .ok (.lload 5, 2) := by decide +kernel
theorem dX0_tellFraction_9 : decode cX0_tellFraction 9 = .ok (.lconst 1, 1) := by decide +kernel
theorem dX0_tellFraction_10 : decode cX0_tellFraction 10 = .ok (.lcmp, 1) := by decide +kernel
theorem dX0_tellFraction_11 : decode cX0_tellFraction 11 = .ok (.ifCond .ge 5, 3) := by decide +kernel
theorem dX0_tellFraction_14 : decode cX0_tellFraction 14 = .ok (.iconst (-1), 1) := by decide +kernel
theorem dX0_tellFraction_15 : decode cX0_tellFraction 15 = .ok (.ireturn, 1) := by decide +kernel
theorem dX0_tellFraction_16 : decode cX0_tellFraction 16 = .ok (.aload_n 0, 1) := by decide +kernel
theorem dX0_tellFraction_17 : decode cX0_tellFraction 17 = .ok (.lload_n 1, 1) := by decide +kernel
theorem dX0_tellFraction_18 : decode cX0_tellFraction 18 = .ok (.lload 5, 2) := by decide +kernel
theorem dX0_tellFraction_20 : decode cX0_tellFraction 20 = .ok (.ldiv, 1) := by decide +kernel
theorem dX0_tellFraction_21 : decode cX0_tellFraction 21 = .ok (.putfield 31, 3) := by decide +kernel
theorem dX0_tellFraction_24 : decode cX0_tellFraction 24 = .ok (.aload_n 0, 1) := by decide +kernel
theorem dX0_tellFraction_25 : decode cX0_tellFraction 25 = .ok (.lload_n 3, 1) := by decide +kernel
theorem dX0_tellFraction_26 : decode cX0_tellFraction 26 = .ok (.lload 5, 2) := by decide +kernel
theorem dX0_tellFraction_28 : decode cX0_tellFraction 28 = .ok (.ldiv, 1) := by decide +kernel
theorem dX0_tellFraction_29 : decode cX0_tellFraction 29 = .ok (.putfield 35, 3) := by decide +kernel
theorem dX0_tellFraction_32 : decode cX0_tellFraction 32 = .ok (.lload_n 1, 1) := by decide +kernel
theorem dX0_tellFraction_33 : decode cX0_tellFraction 33 = .ok (.lconst 0, 1) := by decide +kernel
theorem dX0_tellFraction_34 : decode cX0_tellFraction 34 = .ok (.lcmp, 1) := by decide +kernel
theorem dX0_tellFraction_35 : decode cX0_tellFraction 35 = .ok (.ifCond .le 7, 3) := by decide +kernel
theorem dX0_tellFraction_38 : decode cX0_tellFraction 38 = .ok (.iconst 1, 1) := by decide +kernel
theorem dX0_tellFraction_39 : decode cX0_tellFraction 39 = .ok (.goto 4, 3) := by decide +kernel
theorem dX0_tellFraction_42 : decode cX0_tellFraction 42 = .ok (.iconst 0, 1) := by decide +kernel
theorem dX0_tellFraction_43 : decode cX0_tellFraction 43 = .ok (.ireturn, 1) := by decide +kernel
theorem dX0_commonDivisor_0 : decode cX0_commonDivisor 0 = .ok (.lload_n 0, 1) := by decide +kernel
theorem dX0_commonDivisor_1 : decode cX0_commonDivisor 1 = .ok (.lstore 4, 2) := by decide +kernel
theorem dX0_commonDivisor_3 : decode cX0_commonDivisor 3 = .ok (.lload_n 2, 1) := by decide +kernel
theorem dX0_commonDivisor_4 : decode cX0_commonDivisor 4 = .ok (.lstore 6, 2) := by decide +kernel
theorem dX0_commonDivisor_6 : decode cX0_commonDivisor 6 = .ok (.iconst 0, 1) := by decide +kernel
theorem dX0_commonDivisor_7 : decode cX0_commonDivisor 7 = .ok (.istore 8, 2) := by decide +kernel
theorem dX0_commonDivisor_9 : decode cX0_commonDivisor 9 = .ok (.iload 8, 2) := by decide +kernel
theorem dX0_commonDivisor_11 : decode cX0_commonDivisor 11 = .ok (.sipush 200, 3) := by decide +kernel
theorem dX0_commonDivisor_14 : decode cX0_commonDivisor 14 = .ok (.if_icmp .ge 31, 3) := by decide +kernel
theorem dX0_commonDivisor_17 : decode cX0_commonDivisor 17 = .ok (.lload 6, 2) := by decide +kernel
theorem dX0_commonDivisor_19 : decode cX0_commonDivisor 19 = .ok (.lconst 0, 1) := by decide +kernel
theorem dX0_commonDivisor_20 : decode cX0_commonDivisor 20 = .ok (.lcmp, 1) := by decide +kernel
theorem dX0_commonDivisor_21 : decode cX0_commonDivisor 21 = .ok (.ifCond .eq 24, 3) := by decide +kernel
theorem dX0_commonDivisor_24 : decode cX0_commonDivisor 24 = .ok (.lload 4, 2) := by decide +kernel
theorem dX0_commonDivisor_26 : decode cX0_commonDivisor 26 = .ok (.lload 6, 2) := by decide +kernel
theorem dX0_commonDivisor_28 : decode cX0_commonDivisor 28 = .ok (.lrem, 1) := by decide +kernel
theorem dX0_commonDivisor_29 : decode cX0_commonDivisor 29 = .ok (.lstore 9, 2) := by decide +kernel
theorem dX0_commonDivisor_31 : decode cX0_commonDivisor 31 = .ok (.lload 6, 2) := by decide +kernel
theorem dX0_commonDivisor_33 : decode cX0_commonDivisor 33 = .ok (.lstore 4, 2) := by decide +kernel
theorem dX0_commonDivisor_35 : decode cX0_commonDivisor 35 = .ok (.lload 9, 2) := by decide +kernel
theorem dX0_commonDivisor_37 : decode cX0_commonDivisor 37 = .ok (.lstore 6, 2) := by decide +kernel
theorem dX0_commonDivisor_39 : decode cX0_commonDivisor 39 = .ok (.iinc 8 1, 3) := by decide +kernel
theorem dX0_commonDivisor_42 : decode cX0_commonDivisor 42 = .ok (.goto (-33), 3) := by decide +kernel
theorem dX0_commonDivisor_45 : decode cX0_commonDivisor 45 = .ok (.lload 4, 2) := by decide +kernel
theorem dX0_commonDivisor_47 : decode cX0_commonDivisor 47 = .ok (.lreturn, 1) := by decide +kernel
theorem dX0_power_0 : decode cX0_power 0 = .ok (.lconst 1, 1) := by decide +kernel
theorem dX0_power_1 : decode cX0_power 1 = .ok (.lstore_n 3, 1) := by decide +kernel
theorem dX0_power_2 : decode cX0_power 2 = .ok (.iconst 0, 1) := by decide +kernel
theorem dX0_power_3 : decode cX0_power 3 = .ok (.istore 5, 2) := by decide +kernel
theorem dX0_power_5 : decode cX0_power 5 = .ok (.iload 5, 2) := by decide +kernel
theorem dX0_power_7 : decode cX0_power 7 = .ok (.iload_n 2, 1) := by decide +kernel
theorem dX0_power_8 : decode cX0_power 8 = .ok (.if_icmp .ge 13, 3) := by decide +kernel
theorem dX0_power_11 : decode cX0_power 11 = .ok (.lload_n 3, 1) := by decide +kernel
theorem dX0_power_12 : decode cX0_power 12 = .ok (.lload_n 0, 1) := by decide +kernel
theorem dX0_power_13 : decode cX0_power 13 = .ok (.lmul, 1) := by decide +kernel
theorem dX0_power_14 : decode cX0_power 14 = .ok (.lstore_n 3, 1) := by decide +kernel
theorem dX0_power_15 : decode cX0_power 15 = .ok (.iinc 5 1, 3) := by decide +kernel
theorem dX0_power_18 : decode cX0_power 18 = .ok (.goto (-13), 3) := by decide +kernel
theorem dX0_power_21 : decode cX0_power 21 = .ok (.lload_n 3, 1) := by decide +kernel
theorem dX0_power_22 : decode cX0_power 22 = .ok (.lreturn, 1) := by decide +kernel
theorem dX1_init_0 : decode cX1_init 0 = .ok (.aload_n 0, 1) := by decide +kernel
theorem dX1_init_1 : decode cX1_init 1 = .ok (.invokespecial 3, 3) := by decide +kernel
theorem dX1_init_4 : decode cX1_init 4 = .ok (.aload_n 0, 1) := by decide +kernel
theorem dX1_init_5 : decode cX1_init 5 = .ok (.iconst 5, 1) := by decide +kernel
theorem dX1_init_6 : decode cX1_init 6 = .ok (.newarray .int, 2) := by decide +kernel
theorem dX1_init_8 : decode cX1_init 8 = .ok (.putfield 9, 3) := by decide +kernel
theorem dX1_init_11 : decode cX1_init 11 = .ok (.aload_n 0, 1) := by decide +kernel
theorem dX1_init_12 : decode cX1_init 12 = .ok (.iconst 5, 1) := by decide +kernel
theorem dX1_init_13 : decode cX1_init 13 = .ok (.newarray .boolean, 2) := by decide +kernel
theorem dX1_init_15 : decode cX1_init 15 = .ok (.putfield 15, 3) := by decide +kernel
theorem dX1_init_18 : decode cX1_init 18 = .ok (.aload_n 0, 1) := by decide +kernel
theorem dX1_init_19 : decode cX1_init 19 = .ok (.bipush 25, 2) := by decide +kernel
theorem dX1_init_21 : decode cX1_init 21 = .ok (.newarray .int, 2) := by decide +kernel
theorem dX1_init_23 : decode cX1_init 23 = .ok (.putfield 19, 3) := by decide +kernel
theorem dX1_init_26 : decode cX1_init 26 = .ok (.aload_n 0, 1) := by decide +kernel
theorem dX1_init_27 : decode cX1_init 27 = .ok (.iconst 0, 1) := by decide +kernel
theorem dX1_init_28 : decode cX1_init 28 = .ok (.putfield 22, 3) := by decide +kernel
theorem dX1_init_31 : decode cX1_init 31 = .ok (.aload_n 0, 1) := by decide +kernel
theorem dX1_init_32 : decode cX1_init 32 = .ok (.iconst 0, 1) := by decide +kernel
theorem dX1_init_33 : decode cX1_init 33 = .ok (.putfield 26, 3) := by decide +kernel
theorem dX1_init_36 : decode cX1_init 36 = .ok (.return_, 1) := by decide +kernel
theorem dX1_renew_0 : decode cX1_renew 0 = .ok (.aload_n 0, 1) := by decide +kernel
theorem dX1_renew_1 : decode cX1_renew 1 = .ok (.iload_n 1, 1) := by decide +kernel
theorem dX1_renew_2 : decode cX1_renew 2 = .ok (.iconst 5, 1) := by decide +kernel
theorem dX1_renew_3 : decode cX1_renew 3 = .ok (.invokestatic 29, 3) := by decide +kernel
theorem dX1_renew_6 : decode cX1_renew 6 = .ok (.putfield 22, 3) := by decide +kernel
theorem dX1_renew_9 : decode cX1_renew 9 = .ok (.aload_n 0, 1) := by decide +kernel
theorem dX1_renew_10 : decode cX1_renew 10 = .ok (.iconst 0, 1) := by decide +kernel
theorem dX1_renew_11 : decode cX1_renew 11 = .ok (.putfield 26, 3) := by decide +kernel
theorem dX1_renew_14 : decode cX1_renew 14 = .ok (.iconst 0, 1) := by decide +kernel
theorem dX1_renew_15 : decode cX1_renew 15 = .ok (.istore_n 2, 1) := by decide +kernel
theorem dX1_renew_16 : decode cX1_renew 16 = .ok (.iload_n 2, 1) := by decide +kernel
theorem dX1_renew_17 : decode cX1_renew 17 = .ok (.iconst 5, 1) := by decide +kernel
theorem dX1_renew_18 : decode cX1_renew 18 = .ok (.if_icmp .ge 28, 3) := by decide +kernel
theorem dX1_renew_21 : decode cX1_renew 21 = .ok (.aload_n 0, 1) := by decide +kernel
theorem dX1_renew_22 : decode cX1_renew 22 = .ok (.getfield 9, 3) := by decide +kernel
theorem dX1_renew_25 : decode cX1_renew 25 = .ok (.iload_n 2, 1) := by decide +kernel
theorem dX1_renew_26 : decode cX1_renew 26 = .ok (.iconst 0, 1) := by decide +kernel
theorem dX1_renew_27 : decode cX1_renew 27 = .ok (.iastore, 1) := by decide +kernel
theorem dX1_renew_28 : decode cX1_renew 28 = .ok (.aload_n 0, 1) := by decide +kernel
theorem dX1_renew_29 : decode cX1_renew 29 = .ok (.getfield 15, 3) := by decide +kernel
theorem dX1_renew_32 : decode cX1_renew 32 = .ok (.iload_n 2, 1) := by decide +kernel
theorem dX1_renew_33 : decode cX1_renew 33 = .ok (.iconst 1, 1) := by decide +kernel
theorem dX1_renew_34 : decode cX1_renew 34 = .ok (.bastore, 1) := by decide +kernel
theorem dX1_renew_35 : decode cX1_renew 35 = .ok (.aload_n 0, 1) := by decide +kernel
theorem dX1_renew_36 : decode cX1_renew 36 = .ok (.iload_n 2, 1) := by decide +kernel
theorem dX1_renew_37 : decode cX1_renew 37 = .ok (.invokevirtual 35, 3) := by decide +kernel
theorem dX1_renew_40 : decode cX1_renew 40 = .ok (.iinc 2 1, 3) := by decide +kernel
theorem dX1_renew_43 : decode cX1_renew 43 = .ok (.goto (-27), 3) := by decide +kernel
theorem dX1_renew_46 : decode cX1_renew 46 = .ok (.return_, 1) := by decide +kernel
theorem dX1_has_0 : decode cX1_has 0 = .ok (.iload_n 1, 1) := by decide +kernel
theorem dX1_has_1 : decode cX1_has 1 = .ok (.ifCond .lt 15, 3) := by decide +kernel
theorem dX1_has_4 : decode cX1_has 4 = .ok (.iload_n 1, 1) := by decide +kernel
theorem dX1_has_5 : decode cX1_has 5 = .ok (.aload_n 0, 1) := by decide +kernel
theorem dX1_has_6 : decode cX1_has 6 = .ok (.getfield 22, 3) := by decide +kernel
theorem dX1_has_9 : decode cX1_has 9 = .ok (.if_icmp .ge 7, 3) := by decide +kernel
theorem dX1_has_12 : decode cX1_has 12 = .ok (.iconst 1, 1) := by decide +kernel
theorem dX1_has_13 : decode cX1_has 13 = .ok (.goto 4, 3) := by decide +kernel
theorem dX1_has_16 : decode cX1_has 16 = .ok (.iconst 0, 1) := by decide +kernel
theorem dX1_has_17 : decode cX1_has 17 = .ok (.ireturn, 1) := by decide +kernel
theorem dX1_forget_0 : decode cX1_forget 0 = .ok (.iconst 0, 1) := by decide +kernel
theorem dX1_forget_1 : decode cX1_forget 1 = .ok (.istore_n 2, 1) := by decide +kernel
theorem dX1_forget_2 : decode cX1_forget 2 = .ok (.iload_n 2, 1) := by decide +kernel
theorem dX1_forget_3 : decode cX1_forget 3 = .ok (.iconst 5, 1) := by decide +kernel
theorem dX1_forget_4 : decode cX1_forget 4 = .ok (.if_icmp .ge 20, 3) := by decide +kernel
theorem dX1_forget_7 : decode cX1_forget 7 = .ok (.aload_n 0, 1) := by decide +kernel
theorem dX1_forget_8 : decode cX1_forget 8 = .ok (.getfield 19, 3) := by decide +kernel
theorem dX1_forget_11 : decode cX1_forget 11 = .ok (.iload_n 1, 1) := by decide +kernel
theorem dX1_forget_12 : decode cX1_forget 12 = .ok (.iconst 5, 1) := by decide +kernel
theorem dX1_forget_13 : decode cX1_forget 13 = .ok (.imul, 1) := by decide +kernel
theorem dX1_forget_14 : decode cX1_forget 14 = .ok (.iload_n 2, 1) := by decide +kernel
theorem dX1_forget_15 : decode cX1_forget 15 = .ok (.iadd, 1) := by decide +kernel
theorem dX1_forget_16 : decode cX1_forget 16 = .ok (.iconst 0, 1) := by decide +kernel
theorem dX1_forget_17 : decode cX1_forget 17 = .ok (.iastore, 1) := by decide +kernel
theorem dX1_forget_18 : decode cX1_forget 18 = .ok (.iinc 2 1, 3) := by decide +kernel
theorem dX1_forget_21 : decode cX1_forget 21 = .ok (.goto (-19), 3) := by decide +kernel
theorem dX1_forget_24 : decode cX1_forget 24 = .ok (.return_, 1) := by decide +kernel
theorem dX1_take_0 : decode cX1_take 0 = .ok (.aload_n 0, 1) := by decide +kernel
theorem dX1_take_1 : decode cX1_take 1 = .ok (.getfield 15, 3) := by decide +kernel
theorem dX1_take_4 : decode cX1_take 4 = .ok (.iload_n 1, 1) := by decide +kernel
theorem dX1_take_5 : decode cX1_take 5 = .ok (.baload, 1) := by decide +kernel
theorem dX1_take_6 : decode cX1_take 6 = .ok (.ifCond .eq 21, 3) := by decide +kernel
theorem dX1_take_9 : decode cX1_take 9 = .ok (.aload_n 0, 1) := by decide +kernel
theorem dX1_take_10 : decode cX1_take 10 = .ok (.getfield 9, 3) := by decide +kernel
theorem dX1_take_13 : decode cX1_take 13 = .ok (.iload_n 1, 1) := by decide +kernel
theorem dX1_take_14 : decode cX1_take 14 = .ok (.aload_n 0, 1) := by decide +kernel
theorem dX1_take_15 : decode cX1_take 15 = .ok (.getfield 9, 3) := by decide +kernel
theorem dX1_take_18 : decode cX1_take 18 = .ok (.iload_n 1, 1) := by decide +kernel
theorem dX1_take_19 : decode cX1_take 19 = .ok (.iaload, 1) := by decide +kernel
theorem dX1_take_20 : decode cX1_take 20 = .ok (.iload_n 2, 1) := by decide +kernel
theorem dX1_take_21 : decode cX1_take 21 = .ok (.invokestatic 39, 3) := by decide +kernel
theorem dX1_take_24 : decode cX1_take 24 = .ok (.iastore, 1) := by decide +kernel
theorem dX1_take_25 : decode cX1_take 25 = .ok (.iconst 1, 1) := by decide +kernel
theorem dX1_take_26 : decode cX1_take 26 = .ok (.ireturn, 1) := by decide +kernel
theorem dX1_take_27 : decode cX1_take 27 = .ok (.aload_n 0, 1) := by decide +kernel
theorem dX1_take_28 : decode cX1_take 28 = .ok (.invokevirtual 42, 3) := by decide +kernel
theorem dX1_take_31 : decode cX1_take 31 = .ok (.istore_n 3, 1) := by decide +kernel
theorem dX1_take_32 : decode cX1_take 32 = .ok (.iload_n 3, 1) := by decide +kernel
theorem dX1_take_33 : decode cX1_take 33 = .ok (.iconst (-1), 1) := by decide +kernel
theorem dX1_take_34 : decode cX1_take 34 = .ok (.if_icmp .ne 16, 3) := by decide +kernel
theorem dX1_take_37 : decode cX1_take 37 = .ok (.aload_n 0, 1) := by decide +kernel
theorem dX1_take_38 : decode cX1_take 38 = .ok (.dup, 1) := by decide +kernel
theorem dX1_take_39 : decode cX1_take 39 = .ok (.getfield 26, 3) := by decide +kernel
theorem dX1_take_42 : decode cX1_take 42 = .ok (.iconst 1, 1) := by decide +kernel
theorem dX1_take_43 : decode cX1_take 43 = .ok (.iadd, 1) := by decide +kernel
theorem dX1_take_44 : decode cX1_take 44 = .ok (.putfield 26, 3) := by decide +kernel
theorem dX1_take_47 : decode cX1_take 47 = .ok (.goto 28, 3) := by decide +kernel
theorem dX1_take_50 : decode cX1_take 50 = .ok (.iload_n 3, 1) := by decide +kernel
theorem dX1_take_51 : decode cX1_take 51 = .ok (.iconst 5, 1) := by decide +kernel
theorem dX1_take_52 : decode cX1_take 52 = .ok (.imul, 1) := by decide +kernel
theorem dX1_take_53 : decode cX1_take 53 = .ok (.iload_n 1, 1) := by decide +kernel
theorem dX1_take_54 : decode cX1_take 54 = .ok (.iadd, 1) := by decide +kernel
theorem dX1_take_55 : decode cX1_take 55 = .ok (.istore 4, 2) := by decide +kernel
theorem dX1_take_57 : decode cX1_take 57 = .ok (.aload_n 0, 1) := by decide +kernel
theorem dX1_take_58 : decode cX1_take 58 = .ok (.getfield 19, 3) := by decide +kernel
theorem dX1_take_61 : decode cX1_take 61 = .ok (.iload 4, 2) := by decide +kernel
theorem dX1_take_63 : decode cX1_take 63 = .ok (.aload_n 0, 1) := by decide +kernel
theorem dX1_take_64 : decode cX1_take 64 = .ok (.getfield 19, 3) := by decide +kernel
theorem dX1_take_67 : decode cX1_take 67 = .ok (.iload 4, 2) := by decide +kernel
theorem dX1_take_69 : decode cX1_take 69 = .ok (.iaload, 1) := by decide +kernel
theorem dX1_take_70 : decode cX1_take 70 = .ok (.iload_n 2, 1) := by decide +kernel
theorem dX1_take_71 : decode cX1_take 71 = .ok (.invokestatic 39, 3) := by decide +kernel
theorem dX1_take_74 : decode cX1_take 74 = .ok (.iastore, 1) := by decide +kernel
theorem dX1_take_75 : decode cX1_take 75 = .ok (.iconst 0, 1) := by decide +kernel
theorem dX1_take_76 : decode cX1_take 76 = .ok (.ireturn, 1) := by decide +kernel
theorem dX1_leastUp_0 : decode cX1_leastUp 0 = .ok (.iconst 0, 1) := by decide +kernel
theorem dX1_leastUp_1 : decode cX1_leastUp 1 = .ok (.istore_n 1, 1) := by decide +kernel
theorem dX1_leastUp_2 : decode cX1_leastUp 2 = .ok (.iload_n 1, 1) := by decide +kernel
theorem dX1_leastUp_3 : decode cX1_leastUp 3 = .ok (.aload_n 0, 1) := by decide +kernel
theorem dX1_leastUp_4 : decode cX1_leastUp 4 = .ok (.getfield 22, 3) := by decide +kernel
theorem dX1_leastUp_7 : decode cX1_leastUp 7 = .ok (.if_icmp .ge 20, 3) := by decide +kernel
theorem dX1_leastUp_10 : decode cX1_leastUp 10 = .ok (.aload_n 0, 1) := by decide +kernel
theorem dX1_leastUp_11 : decode cX1_leastUp 11 = .ok (.getfield 15, 3) := by decide +kernel
theorem dX1_leastUp_14 : decode cX1_leastUp 14 = .ok (.iload_n 1, 1) := by decide +kernel
theorem dX1_leastUp_15 : decode cX1_leastUp 15 = .ok (.baload, 1) := by decide +kernel
theorem dX1_leastUp_16 : decode cX1_leastUp 16 = .ok (.ifCond .eq 5, 3) := by decide +kernel
theorem dX1_leastUp_19 : decode cX1_leastUp 19 = .ok (.iload_n 1, 1) := by decide +kernel
theorem dX1_leastUp_20 : decode cX1_leastUp 20 = .ok (.ireturn, 1) := by decide +kernel
theorem dX1_leastUp_21 : decode cX1_leastUp 21 = .ok (.iinc 1 1, 3) := by decide +kernel
theorem dX1_leastUp_24 : decode cX1_leastUp 24 = .ok (.goto (-22), 3) := by decide +kernel
theorem dX1_leastUp_27 : decode cX1_leastUp 27 = .ok (.iconst (-1), 1) := by decide +kernel
theorem dX1_leastUp_28 : decode cX1_leastUp 28 = .ok (.ireturn, 1) := by decide +kernel
theorem dX1_keptBy_0 : decode cX1_keptBy 0 = .ok (.iconst 0, 1) := by decide +kernel
theorem dX1_keptBy_1 : decode cX1_keptBy 1 = .ok (.istore_n 2, 1) := by decide +kernel
theorem dX1_keptBy_2 : decode cX1_keptBy 2 = .ok (.iconst 0, 1) := by decide +kernel
theorem dX1_keptBy_3 : decode cX1_keptBy 3 = .ok (.istore_n 3, 1) := by decide +kernel
theorem dX1_keptBy_4 : decode cX1_keptBy 4 = .ok (.iload_n 3, 1) := by decide +kernel
theorem dX1_keptBy_5 : decode cX1_keptBy 5 = .ok (.aload_n 0, 1) := by decide +kernel
theorem dX1_keptBy_6 : decode cX1_keptBy 6 = .ok (.getfield 22, 3) := by decide +kernel
theorem dX1_keptBy_9 : decode cX1_keptBy 9 = .ok (.if_icmp .ge 25, 3) := by decide +kernel
theorem dX1_keptBy_12 : decode cX1_keptBy 12 = .ok (.aload_n 0, 1) := by decide +kernel
theorem dX1_keptBy_13 : decode cX1_keptBy 13 = .ok (.getfield 19, 3) := by decide +kernel
theorem dX1_keptBy_16 : decode cX1_keptBy 16 = .ok (.iload_n 1, 1) := by decide +kernel
theorem dX1_keptBy_17 : decode cX1_keptBy 17 = .ok (.iconst 5, 1) := by decide +kernel
theorem dX1_keptBy_18 : decode cX1_keptBy 18 = .ok (.imul, 1) := by decide +kernel
theorem dX1_keptBy_19 : decode cX1_keptBy 19 = .ok (.iload_n 3, 1) := by decide +kernel
theorem dX1_keptBy_20 : decode cX1_keptBy 20 = .ok (.iadd, 1) := by decide +kernel
theorem dX1_keptBy_21 : decode cX1_keptBy 21 = .ok (.iaload, 1) := by decide +kernel
theorem dX1_keptBy_22 : decode cX1_keptBy 22 = .ok (.ifCond .le 6, 3) := by decide +kernel
theorem dX1_keptBy_25 : decode cX1_keptBy 25 = .ok (.iinc 2 1, 3) := by decide +kernel
theorem dX1_keptBy_28 : decode cX1_keptBy 28 = .ok (.iinc 3 1, 3) := by decide +kernel
theorem dX1_keptBy_31 : decode cX1_keptBy 31 = .ok (.goto (-27), 3) := by decide +kernel
theorem dX1_keptBy_34 : decode cX1_keptBy 34 = .ok (.iload_n 2, 1) := by decide +kernel
theorem dX1_keptBy_35 : decode cX1_keptBy 35 = .ok (.ireturn, 1) := by decide +kernel
theorem dX1_fall_0 : decode cX1_fall 0 = .ok (.aload_n 0, 1) := by decide +kernel
theorem dX1_fall_1 : decode cX1_fall 1 = .ok (.getfield 15, 3) := by decide +kernel
theorem dX1_fall_4 : decode cX1_fall 4 = .ok (.iload_n 1, 1) := by decide +kernel
theorem dX1_fall_5 : decode cX1_fall 5 = .ok (.iconst 0, 1) := by decide +kernel
theorem dX1_fall_6 : decode cX1_fall 6 = .ok (.bastore, 1) := by decide +kernel
theorem dX1_fall_7 : decode cX1_fall 7 = .ok (.iload_n 2, 1) := by decide +kernel
theorem dX1_fall_8 : decode cX1_fall 8 = .ok (.ifCond .eq 29, 3) := by decide +kernel
theorem dX1_fall_11 : decode cX1_fall 11 = .ok (.aload_n 0, 1) := by decide +kernel
theorem dX1_fall_12 : decode cX1_fall 12 = .ok (.dup, 1) := by decide +kernel
theorem dX1_fall_13 : decode cX1_fall 13 = .ok (.getfield 26, 3) := by decide +kernel
theorem dX1_fall_16 : decode cX1_fall 16 = .ok (.aload_n 0, 1) := by decide +kernel
theorem dX1_fall_17 : decode cX1_fall 17 = .ok (.iload_n 1, 1) := by decide +kernel
theorem dX1_fall_18 : decode cX1_fall 18 = .ok (.invokevirtual 46, 3) := by decide +kernel
theorem dX1_fall_21 : decode cX1_fall 21 = .ok (.iadd, 1) := by decide +kernel
theorem dX1_fall_22 : decode cX1_fall 22 = .ok (.putfield 26, 3) := by decide +kernel
theorem dX1_fall_25 : decode cX1_fall 25 = .ok (.aload_n 0, 1) := by decide +kernel
theorem dX1_fall_26 : decode cX1_fall 26 = .ok (.getfield 9, 3) := by decide +kernel
theorem dX1_fall_29 : decode cX1_fall 29 = .ok (.iload_n 1, 1) := by decide +kernel
theorem dX1_fall_30 : decode cX1_fall 30 = .ok (.iconst 0, 1) := by decide +kernel
theorem dX1_fall_31 : decode cX1_fall 31 = .ok (.iastore, 1) := by decide +kernel
theorem dX1_fall_32 : decode cX1_fall 32 = .ok (.aload_n 0, 1) := by decide +kernel
theorem dX1_fall_33 : decode cX1_fall 33 = .ok (.iload_n 1, 1) := by decide +kernel
theorem dX1_fall_34 : decode cX1_fall 34 = .ok (.invokevirtual 35, 3) := by decide +kernel
theorem dX1_fall_37 : decode cX1_fall 37 = .ok (.return_, 1) := by decide +kernel
theorem dX1_rise_0 : decode cX1_rise 0 = .ok (.iconst 0, 1) := by decide +kernel
theorem dX1_rise_1 : decode cX1_rise 1 = .ok (.istore_n 2, 1) := by decide +kernel
theorem dX1_rise_2 : decode cX1_rise 2 = .ok (.iconst 0, 1) := by decide +kernel
theorem dX1_rise_3 : decode cX1_rise 3 = .ok (.istore_n 3, 1) := by decide +kernel
theorem dX1_rise_4 : decode cX1_rise 4 = .ok (.iload_n 3, 1) := by decide +kernel
theorem dX1_rise_5 : decode cX1_rise 5 = .ok (.aload_n 0, 1) := by decide +kernel
theorem dX1_rise_6 : decode cX1_rise 6 = .ok (.getfield 22, 3) := by decide +kernel
theorem dX1_rise_9 : decode cX1_rise 9 = .ok (.if_icmp .ge 18, 3) := by decide +kernel
theorem dX1_rise_12 : decode cX1_rise 12 = .ok (.iload_n 2, 1) := by decide +kernel
theorem dX1_rise_13 : decode cX1_rise 13 = .ok (.aload_n 0, 1) := by decide +kernel
theorem dX1_rise_14 : decode cX1_rise 14 = .ok (.iload_n 3, 1) := by decide +kernel
theorem dX1_rise_15 : decode cX1_rise 15 = .ok (.iload_n 1, 1) := by decide +kernel
theorem dX1_rise_16 : decode cX1_rise 16 = .ok (.invokevirtual 50, 3) := by decide +kernel
theorem dX1_rise_19 : decode cX1_rise 19 = .ok (.iadd, 1) := by decide +kernel
theorem dX1_rise_20 : decode cX1_rise 20 = .ok (.istore_n 2, 1) := by decide +kernel
theorem dX1_rise_21 : decode cX1_rise 21 = .ok (.iinc 3 1, 3) := by decide +kernel
theorem dX1_rise_24 : decode cX1_rise 24 = .ok (.goto (-20), 3) := by decide +kernel
theorem dX1_rise_27 : decode cX1_rise 27 = .ok (.aload_n 0, 1) := by decide +kernel
theorem dX1_rise_28 : decode cX1_rise 28 = .ok (.getfield 15, 3) := by decide +kernel
theorem dX1_rise_31 : decode cX1_rise 31 = .ok (.iload_n 1, 1) := by decide +kernel
theorem dX1_rise_32 : decode cX1_rise 32 = .ok (.iconst 1, 1) := by decide +kernel
theorem dX1_rise_33 : decode cX1_rise 33 = .ok (.bastore, 1) := by decide +kernel
theorem dX1_rise_34 : decode cX1_rise 34 = .ok (.iconst 0, 1) := by decide +kernel
theorem dX1_rise_35 : decode cX1_rise 35 = .ok (.istore_n 3, 1) := by decide +kernel
theorem dX1_rise_36 : decode cX1_rise 36 = .ok (.iload_n 3, 1) := by decide +kernel
theorem dX1_rise_37 : decode cX1_rise 37 = .ok (.aload_n 0, 1) := by decide +kernel
theorem dX1_rise_38 : decode cX1_rise 38 = .ok (.getfield 22, 3) := by decide +kernel
theorem dX1_rise_41 : decode cX1_rise 41 = .ok (.if_icmp .ge 27, 3) := by decide +kernel
theorem dX1_rise_44 : decode cX1_rise 44 = .ok (.aload_n 0, 1) := by decide +kernel
theorem dX1_rise_45 : decode cX1_rise 45 = .ok (.getfield 15, 3) := by decide +kernel
theorem dX1_rise_48 : decode cX1_rise 48 = .ok (.iload_n 3, 1) := by decide +kernel
theorem dX1_rise_49 : decode cX1_rise 49 = .ok (.baload, 1) := by decide +kernel
theorem dX1_rise_50 : decode cX1_rise 50 = .ok (.ifCond .eq 12, 3) := by decide +kernel
theorem dX1_rise_53 : decode cX1_rise 53 = .ok (.iload_n 2, 1) := by decide +kernel
theorem dX1_rise_54 : decode cX1_rise 54 = .ok (.aload_n 0, 1) := by decide +kernel
theorem dX1_rise_55 : decode cX1_rise 55 = .ok (.iload_n 1, 1) := by decide +kernel
theorem dX1_rise_56 : decode cX1_rise 56 = .ok (.iload_n 3, 1) := by decide +kernel
theorem dX1_rise_57 : decode cX1_rise 57 = .ok (.invokevirtual 50, 3) := by decide +kernel
theorem dX1_rise_60 : decode cX1_rise 60 = .ok (.iadd, 1) := by decide +kernel
theorem dX1_rise_61 : decode cX1_rise 61 = .ok (.istore_n 2, 1) := by decide +kernel
theorem dX1_rise_62 : decode cX1_rise 62 = .ok (.iinc 3 1, 3) := by decide +kernel
theorem dX1_rise_65 : decode cX1_rise 65 = .ok (.goto (-29), 3) := by decide +kernel
theorem dX1_rise_68 : decode cX1_rise 68 = .ok (.iload_n 2, 1) := by decide +kernel
theorem dX1_rise_69 : decode cX1_rise 69 = .ok (.ireturn, 1) := by decide +kernel
theorem dX1_give_0 : decode cX1_give 0 = .ok (.iload_n 1, 1) := by decide +kernel
theorem dX1_give_1 : decode cX1_give 1 = .ok (.iconst 5, 1) := by decide +kernel
theorem dX1_give_2 : decode cX1_give 2 = .ok (.imul, 1) := by decide +kernel
theorem dX1_give_3 : decode cX1_give 3 = .ok (.iload_n 2, 1) := by decide +kernel
theorem dX1_give_4 : decode cX1_give 4 = .ok (.iadd, 1) := by decide +kernel
theorem dX1_give_5 : decode cX1_give 5 = .ok (.istore_n 3, 1) := by decide +kernel
theorem dX1_give_6 : decode cX1_give 6 = .ok (.aload_n 0, 1) := by decide +kernel
theorem dX1_give_7 : decode cX1_give 7 = .ok (.getfield 19, 3) := by decide +kernel
theorem dX1_give_10 : decode cX1_give 10 = .ok (.iload_n 3, 1) := by decide +kernel
theorem dX1_give_11 : decode cX1_give 11 = .ok (.iaload, 1) := by decide +kernel
theorem dX1_give_12 : decode cX1_give 12 = .ok (.ifCond .eq 12, 3) := by decide +kernel
theorem dX1_give_15 : decode cX1_give 15 = .ok (.aload_n 0, 1) := by decide +kernel
theorem dX1_give_16 : decode cX1_give 16 = .ok (.getfield 15, 3) := by decide +kernel
theorem dX1_give_19 : decode cX1_give 19 = .ok (.iload_n 1, 1) := by decide +kernel
theorem dX1_give_20 : decode cX1_give 20 = .ok (.baload, 1) := by decide +kernel
theorem dX1_give_21 : decode cX1_give 21 = .ok (.ifCond .ne 5, 3) := by decide +kernel
theorem dX1_give_24 : decode cX1_give 24 = .ok (.iconst 0, 1) := by decide +kernel
theorem dX1_give_25 : decode cX1_give 25 = .ok (.ireturn, 1) := by decide +kernel
theorem dX1_give_26 : decode cX1_give 26 = .ok (.aload_n 0, 1) := by decide +kernel
theorem dX1_give_27 : decode cX1_give 27 = .ok (.getfield 9, 3) := by decide +kernel
theorem dX1_give_30 : decode cX1_give 30 = .ok (.iload_n 2, 1) := by decide +kernel
theorem dX1_give_31 : decode cX1_give 31 = .ok (.aload_n 0, 1) := by decide +kernel
theorem dX1_give_32 : decode cX1_give 32 = .ok (.getfield 9, 3) := by decide +kernel
theorem dX1_give_35 : decode cX1_give 35 = .ok (.iload_n 2, 1) := by decide +kernel
theorem dX1_give_36 : decode cX1_give 36 = .ok (.iaload, 1) := by decide +kernel
theorem dX1_give_37 : decode cX1_give 37 = .ok (.aload_n 0, 1) := by decide +kernel
theorem dX1_give_38 : decode cX1_give 38 = .ok (.getfield 19, 3) := by decide +kernel
theorem dX1_give_41 : decode cX1_give 41 = .ok (.iload_n 3, 1) := by decide +kernel
theorem dX1_give_42 : decode cX1_give 42 = .ok (.iaload, 1) := by decide +kernel
theorem dX1_give_43 : decode cX1_give 43 = .ok (.invokestatic 39, 3) := by decide +kernel
theorem dX1_give_46 : decode cX1_give 46 = .ok (.iastore, 1) := by decide +kernel
theorem dX1_give_47 : decode cX1_give 47 = .ok (.aload_n 0, 1) := by decide +kernel
theorem dX1_give_48 : decode cX1_give 48 = .ok (.getfield 19, 3) := by decide +kernel
theorem dX1_give_51 : decode cX1_give 51 = .ok (.iload_n 3, 1) := by decide +kernel
theorem dX1_give_52 : decode cX1_give 52 = .ok (.iconst 0, 1) := by decide +kernel
theorem dX1_give_53 : decode cX1_give 53 = .ok (.iastore, 1) := by decide +kernel
theorem dX1_give_54 : decode cX1_give 54 = .ok (.iconst 1, 1) := by decide +kernel
theorem dX1_give_55 : decode cX1_give 55 = .ok (.ireturn, 1) := by decide +kernel
theorem dX1_level_0 : decode cX1_level 0 = .ok (.aload_n 0, 1) := by decide +kernel
theorem dX1_level_1 : decode cX1_level 1 = .ok (.getfield 9, 3) := by decide +kernel
theorem dX1_level_4 : decode cX1_level 4 = .ok (.iload_n 1, 1) := by decide +kernel
theorem dX1_level_5 : decode cX1_level 5 = .ok (.iaload, 1) := by decide +kernel
theorem dX1_level_6 : decode cX1_level 6 = .ok (.aload_n 0, 1) := by decide +kernel
theorem dX1_level_7 : decode cX1_level 7 = .ok (.getfield 9, 3) := by decide +kernel
theorem dX1_level_10 : decode cX1_level 10 = .ok (.iload_n 2, 1) := by decide +kernel
theorem dX1_level_11 : decode cX1_level 11 = .ok (.iaload, 1) := by decide +kernel
theorem dX1_level_12 : decode cX1_level 12 = .ok (.if_icmp .ne 5, 3) := by decide +kernel
theorem dX1_level_15 : decode cX1_level 15 = .ok (.iconst 0, 1) := by decide +kernel
theorem dX1_level_16 : decode cX1_level 16 = .ok (.ireturn, 1) := by decide +kernel
theorem dX1_level_17 : decode cX1_level 17 = .ok (.aload_n 0, 1) := by decide +kernel
theorem dX1_level_18 : decode cX1_level 18 = .ok (.getfield 9, 3) := by decide +kernel
theorem dX1_level_21 : decode cX1_level 21 = .ok (.iload_n 1, 1) := by decide +kernel
theorem dX1_level_22 : decode cX1_level 22 = .ok (.iaload, 1) := by decide +kernel
theorem dX1_level_23 : decode cX1_level 23 = .ok (.aload_n 0, 1) := by decide +kernel
theorem dX1_level_24 : decode cX1_level 24 = .ok (.getfield 9, 3) := by decide +kernel
theorem dX1_level_27 : decode cX1_level 27 = .ok (.iload_n 2, 1) := by decide +kernel
theorem dX1_level_28 : decode cX1_level 28 = .ok (.iaload, 1) := by decide +kernel
theorem dX1_level_29 : decode cX1_level 29 = .ok (.invokestatic 39, 3) := by decide +kernel
theorem dX1_level_32 : decode cX1_level 32 = .ok (.istore_n 3, 1) := by decide +kernel
theorem dX1_level_33 : decode cX1_level 33 = .ok (.aload_n 0, 1) := by decide +kernel
theorem dX1_level_34 : decode cX1_level 34 = .ok (.getfield 9, 3) := by decide +kernel
theorem dX1_level_37 : decode cX1_level 37 = .ok (.iload_n 1, 1) := by decide +kernel
theorem dX1_level_38 : decode cX1_level 38 = .ok (.iload_n 3, 1) := by decide +kernel
theorem dX1_level_39 : decode cX1_level 39 = .ok (.iastore, 1) := by decide +kernel
theorem dX1_level_40 : decode cX1_level 40 = .ok (.aload_n 0, 1) := by decide +kernel
theorem dX1_level_41 : decode cX1_level 41 = .ok (.getfield 9, 3) := by decide +kernel
theorem dX1_level_44 : decode cX1_level 44 = .ok (.iload_n 2, 1) := by decide +kernel
theorem dX1_level_45 : decode cX1_level 45 = .ok (.iload_n 3, 1) := by decide +kernel
theorem dX1_level_46 : decode cX1_level 46 = .ok (.iastore, 1) := by decide +kernel
theorem dX1_level_47 : decode cX1_level 47 = .ok (.iconst 1, 1) := by decide +kernel
theorem dX1_level_48 : decode cX1_level 48 = .ok (.ireturn, 1) := by decide +kernel
theorem dX2_init_0 : decode cX2_init 0 = .ok (.aload_n 0, 1) := by decide +kernel
theorem dX2_init_1 : decode cX2_init 1 = .ok (.invokespecial 3, 3) := by decide +kernel
theorem dX2_init_4 : decode cX2_init 4 = .ok (.aload_n 0, 1) := by decide +kernel
theorem dX2_init_5 : decode cX2_init 5 = .ok (.bipush 15, 2) := by decide +kernel
theorem dX2_init_7 : decode cX2_init 7 = .ok (.newarray .long, 2) := by decide +kernel
theorem dX2_init_9 : decode cX2_init 9 = .ok (.putfield 11, 3) := by decide +kernel
theorem dX2_init_12 : decode cX2_init 12 = .ok (.aload_n 0, 1) := by decide +kernel
theorem dX2_init_13 : decode cX2_init 13 = .ok (.bipush 15, 2) := by decide +kernel
theorem dX2_init_15 : decode cX2_init 15 = .ok (.newarray .long, 2) := by decide +kernel
theorem dX2_init_17 : decode cX2_init 17 = .ok (.putfield 17, 3) := by decide +kernel
theorem dX2_init_20 : decode cX2_init 20 = .ok (.aload_n 0, 1) := by decide +kernel
theorem dX2_init_21 : decode cX2_init 21 = .ok (.bipush 7, 2) := by decide +kernel
theorem dX2_init_23 : decode cX2_init 23 = .ok (.newarray .long, 2) := by decide +kernel
theorem dX2_init_25 : decode cX2_init 25 = .ok (.putfield 20, 3) := by decide +kernel
theorem dX2_init_28 : decode cX2_init 28 = .ok (.aload_n 0, 1) := by decide +kernel
theorem dX2_init_29 : decode cX2_init 29 = .ok (.bipush 42, 2) := by decide +kernel
theorem dX2_init_31 : decode cX2_init 31 = .ok (.newarray .long, 2) := by decide +kernel
theorem dX2_init_33 : decode cX2_init 33 = .ok (.putfield 23, 3) := by decide +kernel
theorem dX2_init_36 : decode cX2_init 36 = .ok (.aload_n 0, 1) := by decide +kernel
theorem dX2_init_37 : decode cX2_init 37 = .ok (.bipush 6, 2) := by decide +kernel
theorem dX2_init_39 : decode cX2_init 39 = .ok (.newarray .long, 2) := by decide +kernel
theorem dX2_init_41 : decode cX2_init 41 = .ok (.putfield 26, 3) := by decide +kernel
theorem dX2_init_44 : decode cX2_init 44 = .ok (.aload_n 0, 1) := by decide +kernel
theorem dX2_init_45 : decode cX2_init 45 = .ok (.bipush 6, 2) := by decide +kernel
theorem dX2_init_47 : decode cX2_init 47 = .ok (.newarray .long, 2) := by decide +kernel
theorem dX2_init_49 : decode cX2_init 49 = .ok (.putfield 29, 3) := by decide +kernel
theorem dX2_init_52 : decode cX2_init 52 = .ok (.aload_n 0, 1) := by decide +kernel
theorem dX2_init_53 : decode cX2_init 53 = .ok (.bipush 6, 2) := by decide +kernel
theorem dX2_init_55 : decode cX2_init 55 = .ok (.newarray .long, 2) := by decide +kernel
theorem dX2_init_57 : decode cX2_init 57 = .ok (.putfield 32, 3) := by decide +kernel
theorem dX2_init_60 : decode cX2_init 60 = .ok (.aload_n 0, 1) := by decide +kernel
theorem dX2_init_61 : decode cX2_init 61 = .ok (.bipush 6, 2) := by decide +kernel
theorem dX2_init_63 : decode cX2_init 63 = .ok (.newarray .long, 2) := by decide +kernel
theorem dX2_init_65 : decode cX2_init 65 = .ok (.putfield 35, 3) := by decide +kernel
theorem dX2_init_68 : decode cX2_init 68 = .ok (.aload_n 0, 1) := by decide +kernel
theorem dX2_init_69 : decode cX2_init 69 = .ok (.iconst 0, 1) := by decide +kernel
theorem dX2_init_70 : decode cX2_init 70 = .ok (.putfield 38, 3) := by decide +kernel
theorem dX2_init_73 : decode cX2_init 73 = .ok (.aload_n 0, 1) := by decide +kernel
theorem dX2_init_74 : decode cX2_init 74 = .ok (.iconst 0, 1) := by decide +kernel
theorem dX2_init_75 : decode cX2_init 75 = .ok (.putfield 42, 3) := by decide +kernel
theorem dX2_init_78 : decode cX2_init 78 = .ok (.aload_n 0, 1) := by decide +kernel
theorem dX2_init_79 : decode cX2_init 79 = .ok (.iconst 0, 1) := by decide +kernel
theorem dX2_init_80 : decode cX2_init 80 = .ok (.putfield 45, 3) := by decide +kernel
theorem dX2_init_83 : decode cX2_init 83 = .ok (.aload_n 0, 1) := by decide +kernel
theorem dX2_init_84 : decode cX2_init 84 = .ok (.aload_n 1, 1) := by decide +kernel
theorem dX2_init_85 : decode cX2_init 85 = .ok (.putfield 48, 3) := by decide +kernel
theorem dX2_init_88 : decode cX2_init 88 = .ok (.return_, 1) := by decide +kernel
theorem dX2_tellTakes_0 : decode cX2_tellTakes 0 = .ok (.iload_n 1, 1) := by decide +kernel
theorem dX2_tellTakes_1 : decode cX2_tellTakes 1 = .ok (.ifCond .eq 7, 3) := by decide +kernel
theorem dX2_tellTakes_4 : decode cX2_tellTakes 4 = .ok (.iconst 0, 1) := by decide +kernel
theorem dX2_tellTakes_5 : decode cX2_tellTakes 5 = .ok (.goto 4, 3) := by decide +kernel
theorem dX2_tellTakes_8 : decode cX2_tellTakes 8 = .ok (.iconst 2, 1) := by decide +kernel
theorem dX2_tellTakes_9 : decode cX2_tellTakes 9 = .ok (.istore_n 3, 1) := by decide +kernel
theorem dX2_tellTakes_10 : decode cX2_tellTakes 10 = .ok (.iload_n 1, 1) := by decide +kernel
theorem dX2_tellTakes_11 : decode cX2_tellTakes 11 = .ok (.ifCond .eq 13, 3) := by decide +kernel
theorem dX2_tellTakes_14 : decode cX2_tellTakes 14 = .ok (.aload_n 0, 1) := by decide +kernel
theorem dX2_tellTakes_15 : decode cX2_tellTakes 15 = .ok (.getfield 48, 3) := by decide +kernel
theorem dX2_tellTakes_18 : decode cX2_tellTakes 18 = .ok (.getfield 52, 3) := by decide +kernel
theorem dX2_tellTakes_21 : decode cX2_tellTakes 21 = .ok (.goto 10, 3) := by decide +kernel
theorem dX2_tellTakes_24 : decode cX2_tellTakes 24 = .ok (.aload_n 0, 1) := by decide +kernel
theorem dX2_tellTakes_25 : decode cX2_tellTakes 25 = .ok (.getfield 48, 3) := by decide +kernel
theorem dX2_tellTakes_28 : decode cX2_tellTakes 28 = .ok (.getfield 55, 3) := by decide +kernel
theorem dX2_tellTakes_31 : decode cX2_tellTakes 31 = .ok (.istore 4, 2) := by decide +kernel
theorem dX2_tellTakes_33 : decode cX2_tellTakes 33 = .ok (.aload_n 0, 1) := by decide +kernel
theorem dX2_tellTakes_34 : decode cX2_tellTakes 34 = .ok (.getfield 48, 3) := by decide +kernel
theorem dX2_tellTakes_37 : decode cX2_tellTakes 37 = .ok (.iload_n 3, 1) := by decide +kernel
theorem dX2_tellTakes_38 : decode cX2_tellTakes 38 = .ok (.iload_n 3, 1) := by decide +kernel
theorem dX2_tellTakes_39 : decode cX2_tellTakes 39 = .ok (.iconst 1, 1) := by decide +kernel
theorem dX2_tellTakes_40 : decode cX2_tellTakes 40 = .ok (.iadd, 1) := by decide +kernel
theorem dX2_tellTakes_41 : decode cX2_tellTakes 41 = .ok (.aload_n 0, 1) := by decide +kernel
theorem dX2_tellTakes_42 : decode cX2_tellTakes 42 = .ok (.getfield 11, 3) := by decide +kernel
theorem dX2_tellTakes_45 : decode cX2_tellTakes 45 = .ok (.invokevirtual 58, 3) := by decide +kernel
theorem dX2_tellTakes_48 : decode cX2_tellTakes 48 = .ok (.aload_n 0, 1) := by decide +kernel
theorem dX2_tellTakes_49 : decode cX2_tellTakes 49 = .ok (.getfield 48, 3) := by decide +kernel
theorem dX2_tellTakes_52 : decode cX2_tellTakes 52 = .ok (.iload_n 3, 1) := by decide +kernel
theorem dX2_tellTakes_53 : decode cX2_tellTakes 53 = .ok (.invokevirtual 62, 3) := by decide +kernel
theorem dX2_tellTakes_56 : decode cX2_tellTakes 56 = .ok (.aload_n 0, 1) := by decide +kernel
theorem dX2_tellTakes_57 : decode cX2_tellTakes 57 = .ok (.getfield 48, 3) := by decide +kernel
theorem dX2_tellTakes_60 : decode cX2_tellTakes 60 = .ok (.iload_n 3, 1) := by decide +kernel
theorem dX2_tellTakes_61 : decode cX2_tellTakes 61 = .ok (.iconst 1, 1) := by decide +kernel
theorem dX2_tellTakes_62 : decode cX2_tellTakes 62 = .ok (.iadd, 1) := by decide +kernel
theorem dX2_tellTakes_63 : decode cX2_tellTakes 63 = .ok (.invokevirtual 62, 3) := by decide +kernel
theorem dX2_tellTakes_66 : decode cX2_tellTakes 66 = .ok (.lmul, 1) := by decide +kernel
theorem dX2_tellTakes_67 : decode cX2_tellTakes 67 = .ok (.lstore 5, 2) := by decide +kernel
theorem dX2_tellTakes_69 : decode cX2_tellTakes 69 = .ok (.aload_n 0, 1) := by decide +kernel
theorem dX2_tellTakes_70 : decode cX2_tellTakes 70 = .ok (.aload_n 0, 1) := by decide +kernel
theorem dX2_tellTakes_71 : decode cX2_tellTakes 71 = .ok (.getfield 48, 3) := by decide +kernel
theorem dX2_tellTakes_74 : decode cX2_tellTakes 74 = .ok (.getfield 66, 3) := by decide +kernel
theorem dX2_tellTakes_77 : decode cX2_tellTakes 77 = .ok (.iload 4, 2) := by decide +kernel
theorem dX2_tellTakes_79 : decode cX2_tellTakes 79 = .ok (.iload_n 2, 1) := by decide +kernel
theorem dX2_tellTakes_80 : decode cX2_tellTakes 80 = .ok (.lload 5, 2) := by decide +kernel
theorem dX2_tellTakes_82 : decode cX2_tellTakes 82 = .ok (.invokevirtual 69, 3) := by decide +kernel
theorem dX2_tellTakes_85 : decode cX2_tellTakes 85 = .ok (.lstore 7, 2) := by decide +kernel
theorem dX2_tellTakes_87 : decode cX2_tellTakes 87 = .ok (.aload_n 0, 1) := by decide +kernel
theorem dX2_tellTakes_88 : decode cX2_tellTakes 88 = .ok (.getfield 48, 3) := by decide +kernel
theorem dX2_tellTakes_91 : decode cX2_tellTakes 91 = .ok (.lload 7, 2) := by decide +kernel
theorem dX2_tellTakes_93 : decode cX2_tellTakes 93 = .ok (.lload 5, 2) := by decide +kernel
theorem dX2_tellTakes_95 : decode cX2_tellTakes 95 = .ok (.aload_n 0, 1) := by decide +kernel
theorem dX2_tellTakes_96 : decode cX2_tellTakes 96 = .ok (.getfield 48, 3) := by decide +kernel
theorem dX2_tellTakes_99 : decode cX2_tellTakes 99 = .ok (.getfield 66, 3) := by decide +kernel
theorem dX2_tellTakes_102 : decode cX2_tellTakes 102 = .ok (.invokestatic 73, 3) := by decide +kernel
theorem dX2_tellTakes_105 : decode cX2_tellTakes 105 = .ok (.invokevirtual 77, 3) := by decide +kernel
theorem dX2_tellTakes_108 : decode cX2_tellTakes 108 = .ok (.ireturn, 1) := by decide +kernel
theorem dX2_ask_0 : decode cX2_ask 0 = .ok (.aload_n 0, 1) := by decide +kernel
theorem dX2_ask_1 : decode cX2_ask 1 = .ok (.iload_n 1, 1) := by decide +kernel
theorem dX2_ask_2 : decode cX2_ask 2 = .ok (.putfield 38, 3) := by decide +kernel
theorem dX2_ask_5 : decode cX2_ask 5 = .ok (.aload_n 0, 1) := by decide +kernel
theorem dX2_ask_6 : decode cX2_ask 6 = .ok (.iload_n 2, 1) := by decide +kernel
theorem dX2_ask_7 : decode cX2_ask 7 = .ok (.putfield 42, 3) := by decide +kernel
theorem dX2_ask_10 : decode cX2_ask 10 = .ok (.aload_n 0, 1) := by decide +kernel
theorem dX2_ask_11 : decode cX2_ask 11 = .ok (.iconst 0, 1) := by decide +kernel
theorem dX2_ask_12 : decode cX2_ask 12 = .ok (.putfield 45, 3) := by decide +kernel
theorem dX2_ask_15 : decode cX2_ask 15 = .ok (.return_, 1) := by decide +kernel
theorem dX2_tellAge_0 : decode cX2_tellAge 0 = .ok (.aload_n 0, 1) := by decide +kernel
theorem dX2_tellAge_1 : decode cX2_tellAge 1 = .ok (.aload_n 0, 1) := by decide +kernel
theorem dX2_tellAge_2 : decode cX2_tellAge 2 = .ok (.getfield 48, 3) := by decide +kernel
theorem dX2_tellAge_5 : decode cX2_tellAge 5 = .ok (.getfield 66, 3) := by decide +kernel
theorem dX2_tellAge_8 : decode cX2_tellAge 8 = .ok (.aload_n 0, 1) := by decide +kernel
theorem dX2_tellAge_9 : decode cX2_tellAge 9 = .ok (.getfield 48, 3) := by decide +kernel
theorem dX2_tellAge_12 : decode cX2_tellAge 12 = .ok (.getfield 52, 3) := by decide +kernel
theorem dX2_tellAge_15 : decode cX2_tellAge 15 = .ok (.aload_n 0, 1) := by decide +kernel
theorem dX2_tellAge_16 : decode cX2_tellAge 16 = .ok (.getfield 48, 3) := by decide +kernel
theorem dX2_tellAge_19 : decode cX2_tellAge 19 = .ok (.getfield 55, 3) := by decide +kernel
theorem dX2_tellAge_22 : decode cX2_tellAge 22 = .ok (.invokevirtual 81, 3) := by decide +kernel
theorem dX2_tellAge_25 : decode cX2_tellAge 25 = .ok (.lstore_n 1, 1) := by decide +kernel
theorem dX2_tellAge_26 : decode cX2_tellAge 26 = .ok (.aload_n 0, 1) := by decide +kernel
theorem dX2_tellAge_27 : decode cX2_tellAge 27 = .ok (.getfield 48, 3) := by decide +kernel
theorem dX2_tellAge_30 : decode cX2_tellAge 30 = .ok (.lload_n 1, 1) := by decide +kernel
theorem dX2_tellAge_31 : decode cX2_tellAge 31 = .ok (.aload_n 0, 1) := by decide +kernel
theorem dX2_tellAge_32 : decode cX2_tellAge 32 = .ok (.getfield 48, 3) := by decide +kernel
theorem dX2_tellAge_35 : decode cX2_tellAge 35 = .ok (.aload_n 0, 1) := by decide +kernel
theorem dX2_tellAge_36 : decode cX2_tellAge 36 = .ok (.getfield 42, 3) := by decide +kernel
theorem dX2_tellAge_39 : decode cX2_tellAge 39 = .ok (.invokevirtual 85, 3) := by decide +kernel
theorem dX2_tellAge_42 : decode cX2_tellAge 42 = .ok (.aload_n 0, 1) := by decide +kernel
theorem dX2_tellAge_43 : decode cX2_tellAge 43 = .ok (.getfield 48, 3) := by decide +kernel
theorem dX2_tellAge_46 : decode cX2_tellAge 46 = .ok (.getfield 66, 3) := by decide +kernel
theorem dX2_tellAge_49 : decode cX2_tellAge 49 = .ok (.invokestatic 73, 3) := by decide +kernel
theorem dX2_tellAge_52 : decode cX2_tellAge 52 = .ok (.invokevirtual 77, 3) := by decide +kernel
theorem dX2_tellAge_55 : decode cX2_tellAge 55 = .ok (.ireturn, 1) := by decide +kernel
theorem dX2_prepare_0 : decode cX2_prepare 0 = .ok (.aload_n 0, 1) := by decide +kernel
theorem dX2_prepare_1 : decode cX2_prepare 1 = .ok (.getfield 48, 3) := by decide +kernel
theorem dX2_prepare_4 : decode cX2_prepare 4 = .ok (.iconst 0, 1) := by decide +kernel
theorem dX2_prepare_5 : decode cX2_prepare 5 = .ok (.iconst 1, 1) := by decide +kernel
theorem dX2_prepare_6 : decode cX2_prepare 6 = .ok (.aload_n 0, 1) := by decide +kernel
theorem dX2_prepare_7 : decode cX2_prepare 7 = .ok (.getfield 11, 3) := by decide +kernel
theorem dX2_prepare_10 : decode cX2_prepare 10 = .ok (.invokevirtual 58, 3) := by decide +kernel
theorem dX2_prepare_13 : decode cX2_prepare 13 = .ok (.aload_n 0, 1) := by decide +kernel
theorem dX2_prepare_14 : decode cX2_prepare 14 = .ok (.getfield 48, 3) := by decide +kernel
theorem dX2_prepare_17 : decode cX2_prepare 17 = .ok (.iconst 2, 1) := by decide +kernel
theorem dX2_prepare_18 : decode cX2_prepare 18 = .ok (.iconst 3, 1) := by decide +kernel
theorem dX2_prepare_19 : decode cX2_prepare 19 = .ok (.aload_n 0, 1) := by decide +kernel
theorem dX2_prepare_20 : decode cX2_prepare 20 = .ok (.getfield 17, 3) := by decide +kernel
theorem dX2_prepare_23 : decode cX2_prepare 23 = .ok (.invokevirtual 58, 3) := by decide +kernel
theorem dX2_prepare_26 : decode cX2_prepare 26 = .ok (.iconst 0, 1) := by decide +kernel
theorem dX2_prepare_27 : decode cX2_prepare 27 = .ok (.istore_n 2, 1) := by decide +kernel
theorem dX2_prepare_28 : decode cX2_prepare 28 = .ok (.iload_n 2, 1) := by decide +kernel
theorem dX2_prepare_29 : decode cX2_prepare 29 = .ok (.bipush 7, 2) := by decide +kernel
theorem dX2_prepare_31 : decode cX2_prepare 31 = .ok (.if_icmp .ge 64, 3) := by decide +kernel
theorem dX2_prepare_34 : decode cX2_prepare 34 = .ok (.aload_n 0, 1) := by decide +kernel
theorem dX2_prepare_35 : decode cX2_prepare 35 = .ok (.getfield 20, 3) := by decide +kernel
theorem dX2_prepare_38 : decode cX2_prepare 38 = .ok (.iload_n 2, 1) := by decide +kernel
theorem dX2_prepare_39 : decode cX2_prepare 39 = .ok (.lconst 1, 1) := by decide +kernel
theorem dX2_prepare_40 : decode cX2_prepare 40 = .ok (.lastore, 1) := by decide +kernel
theorem dX2_prepare_41 : decode cX2_prepare 41 = .ok (.iconst 0, 1) := by decide +kernel
theorem dX2_prepare_42 : decode cX2_prepare 42 = .ok (.istore_n 3, 1) := by decide +kernel
theorem dX2_prepare_43 : decode cX2_prepare 43 = .ok (.iload_n 3, 1) := by decide +kernel
theorem dX2_prepare_44 : decode cX2_prepare 44 = .ok (.aload_n 0, 1) := by decide +kernel
theorem dX2_prepare_45 : decode cX2_prepare 45 = .ok (.getfield 42, 3) := by decide +kernel
theorem dX2_prepare_48 : decode cX2_prepare 48 = .ok (.if_icmp .gt 41, 3) := by decide +kernel
theorem dX2_prepare_51 : decode cX2_prepare 51 = .ok (.aload_n 0, 1) := by decide +kernel
theorem dX2_prepare_52 : decode cX2_prepare 52 = .ok (.getfield 20, 3) := by decide +kernel
theorem dX2_prepare_55 : decode cX2_prepare 55 = .ok (.iload_n 2, 1) := by decide +kernel
theorem dX2_prepare_56 : decode cX2_prepare 56 = .ok (.dup2, 1) := by decide +kernel
theorem dX2_prepare_57 : decode cX2_prepare 57 = .ok (.laload, 1) := by decide +kernel
theorem dX2_prepare_58 : decode cX2_prepare 58 = .ok (.aload_n 0, 1) := by decide +kernel
theorem dX2_prepare_59 : decode cX2_prepare 59 = .ok (.getfield 48, 3) := by decide +kernel
theorem dX2_prepare_62 : decode cX2_prepare 62 = .ok (.aload_n 0, 1) := by decide +kernel
theorem dX2_prepare_63 : decode cX2_prepare 63 = .ok (.getfield 38, 3) := by decide +kernel
theorem dX2_prepare_66 : decode cX2_prepare 66 = .ok (.iload_n 2, 1) := by decide +kernel
theorem dX2_prepare_67 : decode cX2_prepare 67 = .ok (.iadd, 1) := by decide +kernel
theorem dX2_prepare_68 : decode cX2_prepare 68 = .ok (.iload_n 3, 1) := by decide +kernel
theorem dX2_prepare_69 : decode cX2_prepare 69 = .ok (.aload_n 0, 1) := by decide +kernel
theorem dX2_prepare_70 : decode cX2_prepare 70 = .ok (.getfield 48, 3) := by decide +kernel
theorem dX2_prepare_73 : decode cX2_prepare 73 = .ok (.getfield 88, 3) := by decide +kernel
theorem dX2_prepare_76 : decode cX2_prepare 76 = .ok (.imul, 1) := by decide +kernel
theorem dX2_prepare_77 : decode cX2_prepare 77 = .ok (.iadd, 1) := by decide +kernel
theorem dX2_prepare_78 : decode cX2_prepare 78 = .ok (.invokevirtual 91, 3) := by decide +kernel
theorem dX2_prepare_81 : decode cX2_prepare 81 = .ok (.lmul, 1) := by decide +kernel
theorem dX2_prepare_82 : decode cX2_prepare 82 = .ok (.lastore, 1) := by decide +kernel
theorem dX2_prepare_83 : decode cX2_prepare 83 = .ok (.iinc 3 1, 3) := by decide +kernel
theorem dX2_prepare_86 : decode cX2_prepare 86 = .ok (.goto (-43), 3) := by decide +kernel
theorem dX2_prepare_89 : decode cX2_prepare 89 = .ok (.iinc 2 1, 3) := by decide +kernel
theorem dX2_prepare_92 : decode cX2_prepare 92 = .ok (.goto (-64), 3) := by decide +kernel
theorem dX2_prepare_95 : decode cX2_prepare 95 = .ok (.iconst 0, 1) := by decide +kernel
theorem dX2_prepare_96 : decode cX2_prepare 96 = .ok (.istore_n 2, 1) := by decide +kernel
theorem dX2_prepare_97 : decode cX2_prepare 97 = .ok (.iload_n 2, 1) := by decide +kernel
theorem dX2_prepare_98 : decode cX2_prepare 98 = .ok (.bipush 7, 2) := by decide +kernel
theorem dX2_prepare_100 : decode cX2_prepare 100 = .ok (.if_icmp .ge 15, 3) := by decide +kernel
theorem dX2_prepare_103 : decode cX2_prepare 103 = .ok (.aload_n 0, 1) := by decide +kernel
theorem dX2_prepare_104 : decode cX2_prepare 104 = .ok (.iload_n 2, 1) := by decide +kernel
theorem dX2_prepare_105 : decode cX2_prepare 105 = .ok (.iload_n 1, 1) := by decide +kernel
theorem dX2_prepare_106 : decode cX2_prepare 106 = .ok (.invokevirtual 94, 3) := by decide +kernel
theorem dX2_prepare_109 : decode cX2_prepare 109 = .ok (.iinc 2 1, 3) := by decide +kernel
theorem dX2_prepare_112 : decode cX2_prepare 112 = .ok (.goto (-15), 3) := by decide +kernel
theorem dX2_prepare_115 : decode cX2_prepare 115 = .ok (.aload_n 0, 1) := by decide +kernel
theorem dX2_prepare_116 : decode cX2_prepare 116 = .ok (.iload_n 1, 1) := by decide +kernel
theorem dX2_prepare_117 : decode cX2_prepare 117 = .ok (.putfield 45, 3) := by decide +kernel
theorem dX2_prepare_120 : decode cX2_prepare 120 = .ok (.return_, 1) := by decide +kernel
theorem dX2_prepareEnd_0 : decode cX2_prepareEnd 0 = .ok (.lconst 0, 1) := by decide +kernel
theorem dX2_prepareEnd_1 : decode cX2_prepareEnd 1 = .ok (.lstore_n 3, 1) := by decide +kernel
theorem dX2_prepareEnd_2 : decode cX2_prepareEnd 2 = .ok (.aload_n 0, 1) := by decide +kernel
theorem dX2_prepareEnd_3 : decode cX2_prepareEnd 3 = .ok (.getfield 48, 3) := by decide +kernel
theorem dX2_prepareEnd_6 : decode cX2_prepareEnd 6 = .ok (.iconst 2, 1) := by decide +kernel
theorem dX2_prepareEnd_7 : decode cX2_prepareEnd 7 = .ok (.invokevirtual 62, 3) := by decide +kernel
theorem dX2_prepareEnd_10 : decode cX2_prepareEnd 10 = .ok (.aload_n 0, 1) := by decide +kernel
theorem dX2_prepareEnd_11 : decode cX2_prepareEnd 11 = .ok (.getfield 48, 3) := by decide +kernel
theorem dX2_prepareEnd_14 : decode cX2_prepareEnd 14 = .ok (.iconst 3, 1) := by decide +kernel
theorem dX2_prepareEnd_15 : decode cX2_prepareEnd 15 = .ok (.invokevirtual 62, 3) := by decide +kernel
theorem dX2_prepareEnd_18 : decode cX2_prepareEnd 18 = .ok (.lmul, 1) := by decide +kernel
theorem dX2_prepareEnd_19 : decode cX2_prepareEnd 19 = .ok (.lstore 5, 2) := by decide +kernel
theorem dX2_prepareEnd_21 : decode cX2_prepareEnd 21 = .ok (.iconst 1, 1) := by decide +kernel
theorem dX2_prepareEnd_22 : decode cX2_prepareEnd 22 = .ok (.istore 7, 2) := by decide +kernel
theorem dX2_prepareEnd_24 : decode cX2_prepareEnd 24 = .ok (.iload 7, 2) := by decide +kernel
theorem dX2_prepareEnd_26 : decode cX2_prepareEnd 26 = .ok (.iload_n 2, 1) := by decide +kernel
theorem dX2_prepareEnd_27 : decode cX2_prepareEnd 27 = .ok (.if_icmp .ge 21, 3) := by decide +kernel
theorem dX2_prepareEnd_30 : decode cX2_prepareEnd 30 = .ok (.aload_n 0, 1) := by decide +kernel
theorem dX2_prepareEnd_31 : decode cX2_prepareEnd 31 = .ok (.getfield 23, 3) := by decide +kernel
theorem dX2_prepareEnd_34 : decode cX2_prepareEnd 34 = .ok (.iload_n 1, 1) := by decide +kernel
theorem dX2_prepareEnd_35 : decode cX2_prepareEnd 35 = .ok (.iload 7, 2) := by decide +kernel
theorem dX2_prepareEnd_37 : decode cX2_prepareEnd 37 = .ok (.invokestatic 98, 3) := by decide +kernel
theorem dX2_prepareEnd_40 : decode cX2_prepareEnd 40 = .ok (.lconst 0, 1) := by decide +kernel
theorem dX2_prepareEnd_41 : decode cX2_prepareEnd 41 = .ok (.lastore, 1) := by decide +kernel
theorem dX2_prepareEnd_42 : decode cX2_prepareEnd 42 = .ok (.iinc 7 1, 3) := by decide +kernel
theorem dX2_prepareEnd_45 : decode cX2_prepareEnd 45 = .ok (.goto (-21), 3) := by decide +kernel
theorem dX2_prepareEnd_48 : decode cX2_prepareEnd 48 = .ok (.iconst 0, 1) := by decide +kernel
theorem dX2_prepareEnd_49 : decode cX2_prepareEnd 49 = .ok (.istore 7, 2) := by decide +kernel
theorem dX2_prepareEnd_51 : decode cX2_prepareEnd 51 = .ok (.iload 7, 2) := by decide +kernel
theorem dX2_prepareEnd_53 : decode cX2_prepareEnd 53 = .ok (.bipush 15, 2) := by decide +kernel
theorem dX2_prepareEnd_55 : decode cX2_prepareEnd 55 = .ok (.if_icmp .ge 118, 3) := by decide +kernel
theorem dX2_prepareEnd_58 : decode cX2_prepareEnd 58 = .ok (.aload_n 0, 1) := by decide +kernel
theorem dX2_prepareEnd_59 : decode cX2_prepareEnd 59 = .ok (.iload_n 1, 1) := by decide +kernel
theorem dX2_prepareEnd_60 : decode cX2_prepareEnd 60 = .ok (.iload 7, 2) := by decide +kernel
theorem dX2_prepareEnd_62 : decode cX2_prepareEnd 62 = .ok (.invokevirtual 102, 3) := by decide +kernel
theorem dX2_prepareEnd_65 : decode cX2_prepareEnd 65 = .ok (.lstore 8, 2) := by decide +kernel
theorem dX2_prepareEnd_67 : decode cX2_prepareEnd 67 = .ok (.lload 5, 2) := by decide +kernel
theorem dX2_prepareEnd_69 : decode cX2_prepareEnd 69 = .ok (.aload_n 0, 1) := by decide +kernel
theorem dX2_prepareEnd_70 : decode cX2_prepareEnd 70 = .ok (.getfield 17, 3) := by decide +kernel
theorem dX2_prepareEnd_73 : decode cX2_prepareEnd 73 = .ok (.iload 7, 2) := by decide +kernel
theorem dX2_prepareEnd_75 : decode cX2_prepareEnd 75 = .ok (.laload, 1) := by decide +kernel
theorem dX2_prepareEnd_76 : decode cX2_prepareEnd 76 = .ok (.lsub, 1) := by decide +kernel
theorem dX2_prepareEnd_77 : decode cX2_prepareEnd 77 = .ok (.lstore 5, 2) := by decide +kernel
theorem dX2_prepareEnd_79 : decode cX2_prepareEnd 79 = .ok (.lload 8, 2) := by decide +kernel
theorem dX2_prepareEnd_81 : decode cX2_prepareEnd 81 = .ok (.lconst 0, 1) := by decide +kernel
theorem dX2_prepareEnd_82 : decode cX2_prepareEnd 82 = .ok (.lcmp, 1) := by decide +kernel
theorem dX2_prepareEnd_83 : decode cX2_prepareEnd 83 = .ok (.ifCond .eq 79, 3) := by decide +kernel
theorem dX2_prepareEnd_86 : decode cX2_prepareEnd 86 = .ok (.lload_n 3, 1) := by decide +kernel
theorem dX2_prepareEnd_87 : decode cX2_prepareEnd 87 = .ok (.aload_n 0, 1) := by decide +kernel
theorem dX2_prepareEnd_88 : decode cX2_prepareEnd 88 = .ok (.getfield 26, 3) := by decide +kernel
theorem dX2_prepareEnd_91 : decode cX2_prepareEnd 91 = .ok (.invokestatic 106, 3) := by decide +kernel
theorem dX2_prepareEnd_94 : decode cX2_prepareEnd 94 = .ok (.lload 8, 2) := by decide +kernel
theorem dX2_prepareEnd_96 : decode cX2_prepareEnd 96 = .ok (.aload_n 0, 1) := by decide +kernel
theorem dX2_prepareEnd_97 : decode cX2_prepareEnd 97 = .ok (.getfield 29, 3) := by decide +kernel
theorem dX2_prepareEnd_100 : decode cX2_prepareEnd 100 = .ok (.invokestatic 106, 3) := by decide +kernel
theorem dX2_prepareEnd_103 : decode cX2_prepareEnd 103 = .ok (.aload_n 0, 1) := by decide +kernel
theorem dX2_prepareEnd_104 : decode cX2_prepareEnd 104 = .ok (.getfield 17, 3) := by decide +kernel
theorem dX2_prepareEnd_107 : decode cX2_prepareEnd 107 = .ok (.iload 7, 2) := by decide +kernel
theorem dX2_prepareEnd_109 : decode cX2_prepareEnd 109 = .ok (.laload, 1) := by decide +kernel
theorem dX2_prepareEnd_110 : decode cX2_prepareEnd 110 = .ok (.aload_n 0, 1) := by decide +kernel
theorem dX2_prepareEnd_111 : decode cX2_prepareEnd 111 = .ok (.getfield 32, 3) := by decide +kernel
theorem dX2_prepareEnd_114 : decode cX2_prepareEnd 114 = .ok (.invokestatic 106, 3) := by decide +kernel
theorem dX2_prepareEnd_117 : decode cX2_prepareEnd 117 = .ok (.lload 5, 2) := by decide +kernel
theorem dX2_prepareEnd_119 : decode cX2_prepareEnd 119 = .ok (.aload_n 0, 1) := by decide +kernel
theorem dX2_prepareEnd_120 : decode cX2_prepareEnd 120 = .ok (.getfield 35, 3) := by decide +kernel
theorem dX2_prepareEnd_123 : decode cX2_prepareEnd 123 = .ok (.invokestatic 106, 3) := by decide +kernel
theorem dX2_prepareEnd_126 : decode cX2_prepareEnd 126 = .ok (.iconst 1, 1) := by decide +kernel
theorem dX2_prepareEnd_127 : decode cX2_prepareEnd 127 = .ok (.istore 10, 2) := by decide +kernel
theorem dX2_prepareEnd_129 : decode cX2_prepareEnd 129 = .ok (.iload 10, 2) := by decide +kernel
theorem dX2_prepareEnd_131 : decode cX2_prepareEnd 131 = .ok (.iload_n 2, 1) := by decide +kernel
theorem dX2_prepareEnd_132 : decode cX2_prepareEnd 132 = .ok (.if_icmp .ge 30, 3) := by decide +kernel
theorem dX2_prepareEnd_135 : decode cX2_prepareEnd 135 = .ok (.aload_n 0, 1) := by decide +kernel
theorem dX2_prepareEnd_136 : decode cX2_prepareEnd 136 = .ok (.getfield 23, 3) := by decide +kernel
theorem dX2_prepareEnd_139 : decode cX2_prepareEnd 139 = .ok (.iload_n 1, 1) := by decide +kernel
theorem dX2_prepareEnd_140 : decode cX2_prepareEnd 140 = .ok (.iload 10, 2) := by decide +kernel
theorem dX2_prepareEnd_142 : decode cX2_prepareEnd 142 = .ok (.invokestatic 98, 3) := by decide +kernel
theorem dX2_prepareEnd_145 : decode cX2_prepareEnd 145 = .ok (.dup2, 1) := by decide +kernel
theorem dX2_prepareEnd_146 : decode cX2_prepareEnd 146 = .ok (.laload, 1) := by decide +kernel
theorem dX2_prepareEnd_147 : decode cX2_prepareEnd 147 = .ok (.aload_n 0, 1) := by decide +kernel
theorem dX2_prepareEnd_148 : decode cX2_prepareEnd 148 = .ok (.iload_n 2, 1) := by decide +kernel
theorem dX2_prepareEnd_149 : decode cX2_prepareEnd 149 = .ok (.iload 10, 2) := by decide +kernel
theorem dX2_prepareEnd_151 : decode cX2_prepareEnd 151 = .ok (.invokevirtual 110, 3) := by decide +kernel
theorem dX2_prepareEnd_154 : decode cX2_prepareEnd 154 = .ok (.ladd, 1) := by decide +kernel
theorem dX2_prepareEnd_155 : decode cX2_prepareEnd 155 = .ok (.lastore, 1) := by decide +kernel
theorem dX2_prepareEnd_156 : decode cX2_prepareEnd 156 = .ok (.iinc 10 1, 3) := by decide +kernel
theorem dX2_prepareEnd_159 : decode cX2_prepareEnd 159 = .ok (.goto (-30), 3) := by decide +kernel
theorem dX2_prepareEnd_162 : decode cX2_prepareEnd 162 = .ok (.lload_n 3, 1) := by decide +kernel
theorem dX2_prepareEnd_163 : decode cX2_prepareEnd 163 = .ok (.lload 8, 2) := by decide +kernel
theorem dX2_prepareEnd_165 : decode cX2_prepareEnd 165 = .ok (.ladd, 1) := by decide +kernel
theorem dX2_prepareEnd_166 : decode cX2_prepareEnd 166 = .ok (.lstore_n 3, 1) := by decide +kernel
theorem dX2_prepareEnd_167 : decode cX2_prepareEnd 167 = .ok (.iinc 7 1, 3) := by decide +kernel
theorem dX2_prepareEnd_170 : decode cX2_prepareEnd 170 = .ok (.goto (-119), 3) := by decide +kernel
theorem dX2_prepareEnd_173 : decode cX2_prepareEnd 173 = .ok (.return_, 1) := by decide +kernel
theorem dX2_staleAnswers_0 : decode cX2_staleAnswers 0 = .ok (.lconst 0, 1) := by decide +kernel
theorem dX2_staleAnswers_1 : decode cX2_staleAnswers 1 = .ok (.lstore_n 3, 1) := by decide +kernel
theorem dX2_staleAnswers_2 : decode cX2_staleAnswers 2 = .ok (.iconst 0, 1) := by decide +kernel
theorem dX2_staleAnswers_3 : decode cX2_staleAnswers 3 = .ok (.istore 5, 2) := by decide +kernel
theorem dX2_staleAnswers_5 : decode cX2_staleAnswers 5 = .ok (.iload_n 1, 1) := by decide +kernel
theorem dX2_staleAnswers_6 : decode cX2_staleAnswers 6 = .ok (.iload 5, 2) := by decide +kernel
theorem dX2_staleAnswers_8 : decode cX2_staleAnswers 8 = .ok (.iadd, 1) := by decide +kernel
theorem dX2_staleAnswers_9 : decode cX2_staleAnswers 9 = .ok (.bipush 7, 2) := by decide +kernel
theorem dX2_staleAnswers_11 : decode cX2_staleAnswers 11 = .ok (.if_icmp .ge 45, 3) := by decide +kernel
theorem dX2_staleAnswers_14 : decode cX2_staleAnswers 14 = .ok (.lload_n 3, 1) := by decide +kernel
theorem dX2_staleAnswers_15 : decode cX2_staleAnswers 15 = .ok (.aload_n 0, 1) := by decide +kernel
theorem dX2_staleAnswers_16 : decode cX2_staleAnswers 16 = .ok (.getfield 48, 3) := by decide +kernel
theorem dX2_staleAnswers_19 : decode cX2_staleAnswers 19 = .ok (.iconst 2, 1) := by decide +kernel
theorem dX2_staleAnswers_20 : decode cX2_staleAnswers 20 = .ok (.iload 5, 2) := by decide +kernel
theorem dX2_staleAnswers_22 : decode cX2_staleAnswers 22 = .ok (.invokevirtual 113, 3) := by decide +kernel
theorem dX2_staleAnswers_25 : decode cX2_staleAnswers 25 = .ok (.aload_n 0, 1) := by decide +kernel
theorem dX2_staleAnswers_26 : decode cX2_staleAnswers 26 = .ok (.getfield 48, 3) := by decide +kernel
theorem dX2_staleAnswers_29 : decode cX2_staleAnswers 29 = .ok (.iconst 3, 1) := by decide +kernel
theorem dX2_staleAnswers_30 : decode cX2_staleAnswers 30 = .ok (.iload_n 2, 1) := by decide +kernel
theorem dX2_staleAnswers_31 : decode cX2_staleAnswers 31 = .ok (.iload 5, 2) := by decide +kernel
theorem dX2_staleAnswers_33 : decode cX2_staleAnswers 33 = .ok (.isub, 1) := by decide +kernel
theorem dX2_staleAnswers_34 : decode cX2_staleAnswers 34 = .ok (.invokevirtual 113, 3) := by decide +kernel
theorem dX2_staleAnswers_37 : decode cX2_staleAnswers 37 = .ok (.lmul, 1) := by decide +kernel
theorem dX2_staleAnswers_38 : decode cX2_staleAnswers 38 = .ok (.aload_n 0, 1) := by decide +kernel
theorem dX2_staleAnswers_39 : decode cX2_staleAnswers 39 = .ok (.getfield 20, 3) := by decide +kernel
theorem dX2_staleAnswers_42 : decode cX2_staleAnswers 42 = .ok (.iload_n 1, 1) := by decide +kernel
theorem dX2_staleAnswers_43 : decode cX2_staleAnswers 43 = .ok (.iload 5, 2) := by decide +kernel
theorem dX2_staleAnswers_45 : decode cX2_staleAnswers 45 = .ok (.iadd, 1) := by decide +kernel
theorem dX2_staleAnswers_46 : decode cX2_staleAnswers 46 = .ok (.laload, 1) := by decide +kernel
theorem dX2_staleAnswers_47 : decode cX2_staleAnswers 47 = .ok (.lmul, 1) := by decide +kernel
theorem dX2_staleAnswers_48 : decode cX2_staleAnswers 48 = .ok (.ladd, 1) := by decide +kernel
theorem dX2_staleAnswers_49 : decode cX2_staleAnswers 49 = .ok (.lstore_n 3, 1) := by decide +kernel
theorem dX2_staleAnswers_50 : decode cX2_staleAnswers 50 = .ok (.iinc 5 1, 3) := by decide +kernel
theorem dX2_staleAnswers_53 : decode cX2_staleAnswers 53 = .ok (.goto (-48), 3) := by decide +kernel
theorem dX2_staleAnswers_56 : decode cX2_staleAnswers 56 = .ok (.lload_n 3, 1) := by decide +kernel
theorem dX2_staleAnswers_57 : decode cX2_staleAnswers 57 = .ok (.aload_n 0, 1) := by decide +kernel
theorem dX2_staleAnswers_58 : decode cX2_staleAnswers 58 = .ok (.getfield 48, 3) := by decide +kernel
theorem dX2_staleAnswers_61 : decode cX2_staleAnswers 61 = .ok (.iconst 1, 1) := by decide +kernel
theorem dX2_staleAnswers_62 : decode cX2_staleAnswers 62 = .ok (.invokevirtual 62, 3) := by decide +kernel
theorem dX2_staleAnswers_65 : decode cX2_staleAnswers 65 = .ok (.lmul, 1) := by decide +kernel
theorem dX2_staleAnswers_66 : decode cX2_staleAnswers 66 = .ok (.lreturn, 1) := by decide +kernel
theorem dX2_staleReads_0 : decode cX2_staleReads 0 = .ok (.lconst 0, 1) := by decide +kernel
theorem dX2_staleReads_1 : decode cX2_staleReads 1 = .ok (.lstore_n 3, 1) := by decide +kernel
theorem dX2_staleReads_2 : decode cX2_staleReads 2 = .ok (.iconst 0, 1) := by decide +kernel
theorem dX2_staleReads_3 : decode cX2_staleReads 3 = .ok (.istore 5, 2) := by decide +kernel
theorem dX2_staleReads_5 : decode cX2_staleReads 5 = .ok (.iload 5, 2) := by decide +kernel
theorem dX2_staleReads_7 : decode cX2_staleReads 7 = .ok (.iload_n 2, 1) := by decide +kernel
theorem dX2_staleReads_8 : decode cX2_staleReads 8 = .ok (.if_icmp .ge 98, 3) := by decide +kernel
theorem dX2_staleReads_11 : decode cX2_staleReads 11 = .ok (.lconst 0, 1) := by decide +kernel
theorem dX2_staleReads_12 : decode cX2_staleReads 12 = .ok (.lstore 6, 2) := by decide +kernel
theorem dX2_staleReads_14 : decode cX2_staleReads 14 = .ok (.iconst 0, 1) := by decide +kernel
theorem dX2_staleReads_15 : decode cX2_staleReads 15 = .ok (.istore 8, 2) := by decide +kernel
theorem dX2_staleReads_17 : decode cX2_staleReads 17 = .ok (.iload 8, 2) := by decide +kernel
theorem dX2_staleReads_19 : decode cX2_staleReads 19 = .ok (.iload_n 1, 1) := by decide +kernel
theorem dX2_staleReads_20 : decode cX2_staleReads 20 = .ok (.iload_n 2, 1) := by decide +kernel
theorem dX2_staleReads_21 : decode cX2_staleReads 21 = .ok (.isub, 1) := by decide +kernel
theorem dX2_staleReads_22 : decode cX2_staleReads 22 = .ok (.if_icmp .gt 48, 3) := by decide +kernel
theorem dX2_staleReads_25 : decode cX2_staleReads 25 = .ok (.lload 6, 2) := by decide +kernel
theorem dX2_staleReads_27 : decode cX2_staleReads 27 = .ok (.iload_n 1, 1) := by decide +kernel
theorem dX2_staleReads_28 : decode cX2_staleReads 28 = .ok (.iload 5, 2) := by decide +kernel
theorem dX2_staleReads_30 : decode cX2_staleReads 30 = .ok (.isub, 1) := by decide +kernel
theorem dX2_staleReads_31 : decode cX2_staleReads 31 = .ok (.iload_n 2, 1) := by decide +kernel
theorem dX2_staleReads_32 : decode cX2_staleReads 32 = .ok (.iload 5, 2) := by decide +kernel
theorem dX2_staleReads_34 : decode cX2_staleReads 34 = .ok (.isub, 1) := by decide +kernel
theorem dX2_staleReads_35 : decode cX2_staleReads 35 = .ok (.iload 8, 2) := by decide +kernel
theorem dX2_staleReads_37 : decode cX2_staleReads 37 = .ok (.iadd, 1) := by decide +kernel
theorem dX2_staleReads_38 : decode cX2_staleReads 38 = .ok (.invokestatic 116, 3) := by decide +kernel
theorem dX2_staleReads_41 : decode cX2_staleReads 41 = .ok (.aload_n 0, 1) := by decide +kernel
theorem dX2_staleReads_42 : decode cX2_staleReads 42 = .ok (.getfield 32, 3) := by decide +kernel
theorem dX2_staleReads_45 : decode cX2_staleReads 45 = .ok (.iload 8, 2) := by decide +kernel
theorem dX2_staleReads_47 : decode cX2_staleReads 47 = .ok (.laload, 1) := by decide +kernel
theorem dX2_staleReads_48 : decode cX2_staleReads 48 = .ok (.lmul, 1) := by decide +kernel
theorem dX2_staleReads_49 : decode cX2_staleReads 49 = .ok (.aload_n 0, 1) := by decide +kernel
theorem dX2_staleReads_50 : decode cX2_staleReads 50 = .ok (.getfield 35, 3) := by decide +kernel
theorem dX2_staleReads_53 : decode cX2_staleReads 53 = .ok (.iload_n 1, 1) := by decide +kernel
theorem dX2_staleReads_54 : decode cX2_staleReads 54 = .ok (.iload_n 2, 1) := by decide +kernel
theorem dX2_staleReads_55 : decode cX2_staleReads 55 = .ok (.isub, 1) := by decide +kernel
theorem dX2_staleReads_56 : decode cX2_staleReads 56 = .ok (.iload 8, 2) := by decide +kernel
theorem dX2_staleReads_58 : decode cX2_staleReads 58 = .ok (.isub, 1) := by decide +kernel
theorem dX2_staleReads_59 : decode cX2_staleReads 59 = .ok (.laload, 1) := by decide +kernel
theorem dX2_staleReads_60 : decode cX2_staleReads 60 = .ok (.lmul, 1) := by decide +kernel
theorem dX2_staleReads_61 : decode cX2_staleReads 61 = .ok (.ladd, 1) := by decide +kernel
theorem dX2_staleReads_62 : decode cX2_staleReads 62 = .ok (.lstore 6, 2) := by decide +kernel
theorem dX2_staleReads_64 : decode cX2_staleReads 64 = .ok (.iinc 8 1, 3) := by decide +kernel
theorem dX2_staleReads_67 : decode cX2_staleReads 67 = .ok (.goto (-50), 3) := by decide +kernel
theorem dX2_staleReads_70 : decode cX2_staleReads 70 = .ok (.lload_n 3, 1) := by decide +kernel
theorem dX2_staleReads_71 : decode cX2_staleReads 71 = .ok (.iload_n 1, 1) := by decide +kernel
theorem dX2_staleReads_72 : decode cX2_staleReads 72 = .ok (.iload 5, 2) := by decide +kernel
theorem dX2_staleReads_74 : decode cX2_staleReads 74 = .ok (.invokestatic 116, 3) := by decide +kernel
theorem dX2_staleReads_77 : decode cX2_staleReads 77 = .ok (.aload_n 0, 1) := by decide +kernel
theorem dX2_staleReads_78 : decode cX2_staleReads 78 = .ok (.getfield 26, 3) := by decide +kernel
theorem dX2_staleReads_81 : decode cX2_staleReads 81 = .ok (.iload 5, 2) := by decide +kernel
theorem dX2_staleReads_83 : decode cX2_staleReads 83 = .ok (.laload, 1) := by decide +kernel
theorem dX2_staleReads_84 : decode cX2_staleReads 84 = .ok (.lmul, 1) := by decide +kernel
theorem dX2_staleReads_85 : decode cX2_staleReads 85 = .ok (.aload_n 0, 1) := by decide +kernel
theorem dX2_staleReads_86 : decode cX2_staleReads 86 = .ok (.getfield 29, 3) := by decide +kernel
theorem dX2_staleReads_89 : decode cX2_staleReads 89 = .ok (.iload_n 2, 1) := by decide +kernel
theorem dX2_staleReads_90 : decode cX2_staleReads 90 = .ok (.iload 5, 2) := by decide +kernel
theorem dX2_staleReads_92 : decode cX2_staleReads 92 = .ok (.isub, 1) := by decide +kernel
theorem dX2_staleReads_93 : decode cX2_staleReads 93 = .ok (.laload, 1) := by decide +kernel
theorem dX2_staleReads_94 : decode cX2_staleReads 94 = .ok (.lmul, 1) := by decide +kernel
theorem dX2_staleReads_95 : decode cX2_staleReads 95 = .ok (.lload 6, 2) := by decide +kernel
theorem dX2_staleReads_97 : decode cX2_staleReads 97 = .ok (.lmul, 1) := by decide +kernel
theorem dX2_staleReads_98 : decode cX2_staleReads 98 = .ok (.ladd, 1) := by decide +kernel
theorem dX2_staleReads_99 : decode cX2_staleReads 99 = .ok (.lstore_n 3, 1) := by decide +kernel
theorem dX2_staleReads_100 : decode cX2_staleReads 100 = .ok (.iinc 5 1, 3) := by decide +kernel
theorem dX2_staleReads_103 : decode cX2_staleReads 103 = .ok (.goto (-98), 3) := by decide +kernel
theorem dX2_staleReads_106 : decode cX2_staleReads 106 = .ok (.lload_n 3, 1) := by decide +kernel
theorem dX2_staleReads_107 : decode cX2_staleReads 107 = .ok (.lreturn, 1) := by decide +kernel
theorem dX2_waysAbove_0 : decode cX2_waysAbove 0 = .ok (.iload_n 2, 1) := by decide +kernel
theorem dX2_waysAbove_1 : decode cX2_waysAbove 1 = .ok (.iload_n 1, 1) := by decide +kernel
theorem dX2_waysAbove_2 : decode cX2_waysAbove 2 = .ok (.iload_n 3, 1) := by decide +kernel
theorem dX2_waysAbove_3 : decode cX2_waysAbove 3 = .ok (.isub, 1) := by decide +kernel
theorem dX2_waysAbove_4 : decode cX2_waysAbove 4 = .ok (.if_icmp .le 5, 3) := by decide +kernel
theorem dX2_waysAbove_7 : decode cX2_waysAbove 7 = .ok (.lconst 0, 1) := by decide +kernel
theorem dX2_waysAbove_8 : decode cX2_waysAbove 8 = .ok (.lreturn, 1) := by decide +kernel
theorem dX2_waysAbove_9 : decode cX2_waysAbove 9 = .ok (.aload_n 0, 1) := by decide +kernel
theorem dX2_waysAbove_10 : decode cX2_waysAbove 10 = .ok (.getfield 45, 3) := by decide +kernel
theorem dX2_waysAbove_13 : decode cX2_waysAbove 13 = .ok (.iload_n 1, 1) := by decide +kernel
theorem dX2_waysAbove_14 : decode cX2_waysAbove 14 = .ok (.if_icmp .eq 8, 3) := by decide +kernel
theorem dX2_waysAbove_17 : decode cX2_waysAbove 17 = .ok (.aload_n 0, 1) := by decide +kernel
theorem dX2_waysAbove_18 : decode cX2_waysAbove 18 = .ok (.iload_n 1, 1) := by decide +kernel
theorem dX2_waysAbove_19 : decode cX2_waysAbove 19 = .ok (.invokevirtual 119, 3) := by decide +kernel
theorem dX2_waysAbove_22 : decode cX2_waysAbove 22 = .ok (.aload_n 0, 1) := by decide +kernel
theorem dX2_waysAbove_23 : decode cX2_waysAbove 23 = .ok (.getfield 48, 3) := by decide +kernel
theorem dX2_waysAbove_26 : decode cX2_waysAbove 26 = .ok (.iconst 0, 1) := by decide +kernel
theorem dX2_waysAbove_27 : decode cX2_waysAbove 27 = .ok (.invokevirtual 62, 3) := by decide +kernel
theorem dX2_waysAbove_30 : decode cX2_waysAbove 30 = .ok (.aload_n 0, 1) := by decide +kernel
theorem dX2_waysAbove_31 : decode cX2_waysAbove 31 = .ok (.getfield 48, 3) := by decide +kernel
theorem dX2_waysAbove_34 : decode cX2_waysAbove 34 = .ok (.iconst 1, 1) := by decide +kernel
theorem dX2_waysAbove_35 : decode cX2_waysAbove 35 = .ok (.invokevirtual 62, 3) := by decide +kernel
theorem dX2_waysAbove_38 : decode cX2_waysAbove 38 = .ok (.lmul, 1) := by decide +kernel
theorem dX2_waysAbove_39 : decode cX2_waysAbove 39 = .ok (.lstore 4, 2) := by decide +kernel
theorem dX2_waysAbove_41 : decode cX2_waysAbove 41 = .ok (.lconst 0, 1) := by decide +kernel
theorem dX2_waysAbove_42 : decode cX2_waysAbove 42 = .ok (.lstore 6, 2) := by decide +kernel
theorem dX2_waysAbove_44 : decode cX2_waysAbove 44 = .ok (.iconst 0, 1) := by decide +kernel
theorem dX2_waysAbove_45 : decode cX2_waysAbove 45 = .ok (.istore 8, 2) := by decide +kernel
theorem dX2_waysAbove_47 : decode cX2_waysAbove 47 = .ok (.iload 8, 2) := by decide +kernel
theorem dX2_waysAbove_49 : decode cX2_waysAbove 49 = .ok (.bipush 7, 2) := by decide +kernel
theorem dX2_waysAbove_51 : decode cX2_waysAbove 51 = .ok (.if_icmp .ge 49, 3) := by decide +kernel
theorem dX2_waysAbove_54 : decode cX2_waysAbove 54 = .ok (.aload_n 0, 1) := by decide +kernel
theorem dX2_waysAbove_55 : decode cX2_waysAbove 55 = .ok (.getfield 23, 3) := by decide +kernel
theorem dX2_waysAbove_58 : decode cX2_waysAbove 58 = .ok (.iload 8, 2) := by decide +kernel
theorem dX2_waysAbove_60 : decode cX2_waysAbove 60 = .ok (.iload_n 3, 1) := by decide +kernel
theorem dX2_waysAbove_61 : decode cX2_waysAbove 61 = .ok (.invokestatic 98, 3) := by decide +kernel
theorem dX2_waysAbove_64 : decode cX2_waysAbove 64 = .ok (.laload, 1) := by decide +kernel
theorem dX2_waysAbove_65 : decode cX2_waysAbove 65 = .ok (.lstore 9, 2) := by decide +kernel
theorem dX2_waysAbove_67 : decode cX2_waysAbove 67 = .ok (.lload 9, 2) := by decide +kernel
theorem dX2_waysAbove_69 : decode cX2_waysAbove 69 = .ok (.lconst 0, 1) := by decide +kernel
theorem dX2_waysAbove_70 : decode cX2_waysAbove 70 = .ok (.lcmp, 1) := by decide +kernel
theorem dX2_waysAbove_71 : decode cX2_waysAbove 71 = .ok (.ifCond .eq 23, 3) := by decide +kernel
theorem dX2_waysAbove_74 : decode cX2_waysAbove 74 = .ok (.lload 6, 2) := by decide +kernel
theorem dX2_waysAbove_76 : decode cX2_waysAbove 76 = .ok (.lload 9, 2) := by decide +kernel
theorem dX2_waysAbove_78 : decode cX2_waysAbove 78 = .ok (.aload_n 0, 1) := by decide +kernel
theorem dX2_waysAbove_79 : decode cX2_waysAbove 79 = .ok (.iload_n 1, 1) := by decide +kernel
theorem dX2_waysAbove_80 : decode cX2_waysAbove 80 = .ok (.iload_n 3, 1) := by decide +kernel
theorem dX2_waysAbove_81 : decode cX2_waysAbove 81 = .ok (.isub, 1) := by decide +kernel
theorem dX2_waysAbove_82 : decode cX2_waysAbove 82 = .ok (.iload_n 2, 1) := by decide +kernel
theorem dX2_waysAbove_83 : decode cX2_waysAbove 83 = .ok (.iload 8, 2) := by decide +kernel
theorem dX2_waysAbove_85 : decode cX2_waysAbove 85 = .ok (.lload 4, 2) := by decide +kernel
theorem dX2_waysAbove_87 : decode cX2_waysAbove 87 = .ok (.invokevirtual 69, 3) := by decide +kernel
theorem dX2_waysAbove_90 : decode cX2_waysAbove 90 = .ok (.lmul, 1) := by decide +kernel
theorem dX2_waysAbove_91 : decode cX2_waysAbove 91 = .ok (.ladd, 1) := by decide +kernel
theorem dX2_waysAbove_92 : decode cX2_waysAbove 92 = .ok (.lstore 6, 2) := by decide +kernel
theorem dX2_waysAbove_94 : decode cX2_waysAbove 94 = .ok (.iinc 8 1, 3) := by decide +kernel
theorem dX2_waysAbove_97 : decode cX2_waysAbove 97 = .ok (.goto (-50), 3) := by decide +kernel
theorem dX2_waysAbove_100 : decode cX2_waysAbove 100 = .ok (.lload 6, 2) := by decide +kernel
theorem dX2_waysAbove_102 : decode cX2_waysAbove 102 = .ok (.aload_n 0, 1) := by decide +kernel
theorem dX2_waysAbove_103 : decode cX2_waysAbove 103 = .ok (.getfield 48, 3) := by decide +kernel
theorem dX2_waysAbove_106 : decode cX2_waysAbove 106 = .ok (.iconst 0, 1) := by decide +kernel
theorem dX2_waysAbove_107 : decode cX2_waysAbove 107 = .ok (.invokevirtual 62, 3) := by decide +kernel
theorem dX2_waysAbove_110 : decode cX2_waysAbove 110 = .ok (.aload_n 0, 1) := by decide +kernel
theorem dX2_waysAbove_111 : decode cX2_waysAbove 111 = .ok (.getfield 42, 3) := by decide +kernel
theorem dX2_waysAbove_114 : decode cX2_waysAbove 114 = .ok (.iload_n 1, 1) := by decide +kernel
theorem dX2_waysAbove_115 : decode cX2_waysAbove 115 = .ok (.iload_n 3, 1) := by decide +kernel
theorem dX2_waysAbove_116 : decode cX2_waysAbove 116 = .ok (.isub, 1) := by decide +kernel
theorem dX2_waysAbove_117 : decode cX2_waysAbove 117 = .ok (.imul, 1) := by decide +kernel
theorem dX2_waysAbove_118 : decode cX2_waysAbove 118 = .ok (.invokestatic 73, 3) := by decide +kernel
theorem dX2_waysAbove_121 : decode cX2_waysAbove 121 = .ok (.lmul, 1) := by decide +kernel
theorem dX2_waysAbove_122 : decode cX2_waysAbove 122 = .ok (.lreturn, 1) := by decide +kernel
theorem dX2_cheapest_0 : decode cX2_cheapest 0 = .ok (.iconst (-1), 1) := by decide +kernel
theorem dX2_cheapest_1 : decode cX2_cheapest 1 = .ok (.istore 7, 2) := by decide +kernel
theorem dX2_cheapest_3 : decode cX2_cheapest 3 = .ok (.iconst 0, 1) := by decide +kernel
theorem dX2_cheapest_4 : decode cX2_cheapest 4 = .ok (.istore 8, 2) := by decide +kernel
theorem dX2_cheapest_6 : decode cX2_cheapest 6 = .ok (.iconst 1, 1) := by decide +kernel
theorem dX2_cheapest_7 : decode cX2_cheapest 7 = .ok (.istore 9, 2) := by decide +kernel
theorem dX2_cheapest_9 : decode cX2_cheapest 9 = .ok (.iload 9, 2) := by decide +kernel
theorem dX2_cheapest_11 : decode cX2_cheapest 11 = .ok (.iload_n 1, 1) := by decide +kernel
theorem dX2_cheapest_12 : decode cX2_cheapest 12 = .ok (.if_icmp .gt 133, 3) := by decide +kernel
theorem dX2_cheapest_15 : decode cX2_cheapest 15 = .ok (.aload_n 0, 1) := by decide +kernel
theorem dX2_cheapest_16 : decode cX2_cheapest 16 = .ok (.getfield 48, 3) := by decide +kernel
theorem dX2_cheapest_19 : decode cX2_cheapest 19 = .ok (.aload_n 0, 1) := by decide +kernel
theorem dX2_cheapest_20 : decode cX2_cheapest 20 = .ok (.getfield 42, 3) := by decide +kernel
theorem dX2_cheapest_23 : decode cX2_cheapest 23 = .ok (.invokevirtual 85, 3) := by decide +kernel
theorem dX2_cheapest_26 : decode cX2_cheapest 26 = .ok (.iload 9, 2) := by decide +kernel
theorem dX2_cheapest_28 : decode cX2_cheapest 28 = .ok (.invokestatic 73, 3) := by decide +kernel
theorem dX2_cheapest_31 : decode cX2_cheapest 31 = .ok (.lstore 10, 2) := by decide +kernel
theorem dX2_cheapest_33 : decode cX2_cheapest 33 = .ok (.iconst 1, 1) := by decide +kernel
theorem dX2_cheapest_34 : decode cX2_cheapest 34 = .ok (.istore 12, 2) := by decide +kernel
theorem dX2_cheapest_36 : decode cX2_cheapest 36 = .ok (.iload 12, 2) := by decide +kernel
theorem dX2_cheapest_38 : decode cX2_cheapest 38 = .ok (.iload 9, 2) := by decide +kernel
theorem dX2_cheapest_40 : decode cX2_cheapest 40 = .ok (.if_icmp .gt 99, 3) := by decide +kernel
theorem dX2_cheapest_43 : decode cX2_cheapest 43 = .ok (.iconst 1, 1) := by decide +kernel
theorem dX2_cheapest_44 : decode cX2_cheapest 44 = .ok (.istore 13, 2) := by decide +kernel
theorem dX2_cheapest_46 : decode cX2_cheapest 46 = .ok (.iload 13, 2) := by decide +kernel
theorem dX2_cheapest_48 : decode cX2_cheapest 48 = .ok (.iload 9, 2) := by decide +kernel
theorem dX2_cheapest_50 : decode cX2_cheapest 50 = .ok (.if_icmp .gt 83, 3) := by decide +kernel
theorem dX2_cheapest_53 : decode cX2_cheapest 53 = .ok (.iload 9, 2) := by decide +kernel
theorem dX2_cheapest_55 : decode cX2_cheapest 55 = .ok (.iload 4, 2) := by decide +kernel
theorem dX2_cheapest_57 : decode cX2_cheapest 57 = .ok (.imul, 1) := by decide +kernel
theorem dX2_cheapest_58 : decode cX2_cheapest 58 = .ok (.iload 12, 2) := by decide +kernel
theorem dX2_cheapest_60 : decode cX2_cheapest 60 = .ok (.iload 5, 2) := by decide +kernel
theorem dX2_cheapest_62 : decode cX2_cheapest 62 = .ok (.imul, 1) := by decide +kernel
theorem dX2_cheapest_63 : decode cX2_cheapest 63 = .ok (.iadd, 1) := by decide +kernel
theorem dX2_cheapest_64 : decode cX2_cheapest 64 = .ok (.iload 13, 2) := by decide +kernel
theorem dX2_cheapest_66 : decode cX2_cheapest 66 = .ok (.iload 6, 2) := by decide +kernel
theorem dX2_cheapest_68 : decode cX2_cheapest 68 = .ok (.imul, 1) := by decide +kernel
theorem dX2_cheapest_69 : decode cX2_cheapest 69 = .ok (.iadd, 1) := by decide +kernel
theorem dX2_cheapest_70 : decode cX2_cheapest 70 = .ok (.istore 14, 2) := by decide +kernel
theorem dX2_cheapest_72 : decode cX2_cheapest 72 = .ok (.iload 7, 2) := by decide +kernel
theorem dX2_cheapest_74 : decode cX2_cheapest 74 = .ok (.iconst (-1), 1) := by decide +kernel
theorem dX2_cheapest_75 : decode cX2_cheapest 75 = .ok (.if_icmp .eq 10, 3) := by decide +kernel
theorem dX2_cheapest_78 : decode cX2_cheapest 78 = .ok (.iload 14, 2) := by decide +kernel
theorem dX2_cheapest_80 : decode cX2_cheapest 80 = .ok (.iload 8, 2) := by decide +kernel
theorem dX2_cheapest_82 : decode cX2_cheapest 82 = .ok (.if_icmp .ge 45, 3) := by decide +kernel
theorem dX2_cheapest_85 : decode cX2_cheapest 85 = .ok (.aload_n 0, 1) := by decide +kernel
theorem dX2_cheapest_86 : decode cX2_cheapest 86 = .ok (.iload 9, 2) := by decide +kernel
theorem dX2_cheapest_88 : decode cX2_cheapest 88 = .ok (.iload 12, 2) := by decide +kernel
theorem dX2_cheapest_90 : decode cX2_cheapest 90 = .ok (.iload 13, 2) := by decide +kernel
theorem dX2_cheapest_92 : decode cX2_cheapest 92 = .ok (.invokevirtual 81, 3) := by decide +kernel
theorem dX2_cheapest_95 : decode cX2_cheapest 95 = .ok (.lload 10, 2) := by decide +kernel
theorem dX2_cheapest_97 : decode cX2_cheapest 97 = .ok (.iload_n 2, 1) := by decide +kernel
theorem dX2_cheapest_98 : decode cX2_cheapest 98 = .ok (.i2l, 1) := by decide +kernel
theorem dX2_cheapest_99 : decode cX2_cheapest 99 = .ok (.iload_n 3, 1) := by decide +kernel
theorem dX2_cheapest_100 : decode cX2_cheapest 100 = .ok (.i2l, 1) := by decide +kernel
theorem dX2_cheapest_101 : decode cX2_cheapest 101 = .ok (.invokestatic 123, 3) := by decide +kernel
theorem dX2_cheapest_104 : decode cX2_cheapest 104 = .ok (.ifCond .eq 23, 3) := by decide +kernel
theorem dX2_cheapest_107 : decode cX2_cheapest 107 = .ok (.bipush 100, 2) := by decide +kernel
theorem dX2_cheapest_109 : decode cX2_cheapest 109 = .ok (.iload 9, 2) := by decide +kernel
theorem dX2_cheapest_111 : decode cX2_cheapest 111 = .ok (.imul, 1) := by decide +kernel
theorem dX2_cheapest_112 : decode cX2_cheapest 112 = .ok (.bipush 10, 2) := by decide +kernel
theorem dX2_cheapest_114 : decode cX2_cheapest 114 = .ok (.iload 12, 2) := by decide +kernel
theorem dX2_cheapest_116 : decode cX2_cheapest 116 = .ok (.imul, 1) := by decide +kernel
theorem dX2_cheapest_117 : decode cX2_cheapest 117 = .ok (.iadd, 1) := by decide +kernel
theorem dX2_cheapest_118 : decode cX2_cheapest 118 = .ok (.iload 13, 2) := by decide +kernel
theorem dX2_cheapest_120 : decode cX2_cheapest 120 = .ok (.iadd, 1) := by decide +kernel
theorem dX2_cheapest_121 : decode cX2_cheapest 121 = .ok (.istore 7, 2) := by decide +kernel
theorem dX2_cheapest_123 : decode cX2_cheapest 123 = .ok (.iload 14, 2) := by decide +kernel
theorem dX2_cheapest_125 : decode cX2_cheapest 125 = .ok (.istore 8, 2) := by decide +kernel
theorem dX2_cheapest_127 : decode cX2_cheapest 127 = .ok (.iinc 13 1, 3) := by decide +kernel
theorem dX2_cheapest_130 : decode cX2_cheapest 130 = .ok (.goto (-84), 3) := by decide +kernel
theorem dX2_cheapest_133 : decode cX2_cheapest 133 = .ok (.iinc 12 1, 3) := by decide +kernel
theorem dX2_cheapest_136 : decode cX2_cheapest 136 = .ok (.goto (-100), 3) := by decide +kernel
theorem dX2_cheapest_139 : decode cX2_cheapest 139 = .ok (.iinc 9 1, 3) := by decide +kernel
theorem dX2_cheapest_142 : decode cX2_cheapest 142 = .ok (.goto (-133), 3) := by decide +kernel
theorem dX2_cheapest_145 : decode cX2_cheapest 145 = .ok (.iload 7, 2) := by decide +kernel
theorem dX2_cheapest_147 : decode cX2_cheapest 147 = .ok (.ireturn, 1) := by decide +kernel
theorem dX2_isAtMost_0 : decode cX2_isAtMost 0 = .ok (.ldc2_w 127, 3) := by decide +kernel
theorem dX2_isAtMost_3 : decode cX2_isAtMost 3 = .ok (.lstore 8, 2) := by decide +kernel
theorem dX2_isAtMost_5 : decode cX2_isAtMost 5 = .ok (.lload_n 0, 1) := by decide +kernel
theorem dX2_isAtMost_6 : decode cX2_isAtMost 6 = .ok (.lload 8, 2) := by decide +kernel
theorem dX2_isAtMost_8 : decode cX2_isAtMost 8 = .ok (.land, 1) := by decide +kernel
theorem dX2_isAtMost_9 : decode cX2_isAtMost 9 = .ok (.lload 6, 2) := by decide +kernel
theorem dX2_isAtMost_11 : decode cX2_isAtMost 11 = .ok (.lmul, 1) := by decide +kernel
theorem dX2_isAtMost_12 : decode cX2_isAtMost 12 = .ok (.lstore 10, 2) := by decide +kernel
theorem dX2_isAtMost_14 : decode cX2_isAtMost 14 = .ok (.lload_n 2, 1) := by decide +kernel
theorem dX2_isAtMost_15 : decode cX2_isAtMost 15 = .ok (.lload 8, 2) := by decide +kernel
theorem dX2_isAtMost_17 : decode cX2_isAtMost 17 = .ok (.land, 1) := by decide +kernel
theorem dX2_isAtMost_18 : decode cX2_isAtMost 18 = .ok (.lload 4, 2) := by decide +kernel
theorem dX2_isAtMost_20 : decode cX2_isAtMost 20 = .ok (.lmul, 1) := by decide +kernel
theorem dX2_isAtMost_21 : decode cX2_isAtMost 21 = .ok (.lstore 12, 2) := by decide +kernel
theorem dX2_isAtMost_23 : decode cX2_isAtMost 23 = .ok (.lload_n 0, 1) := by decide +kernel
theorem dX2_isAtMost_24 : decode cX2_isAtMost 24 = .ok (.bipush 31, 2) := by decide +kernel
theorem dX2_isAtMost_26 : decode cX2_isAtMost 26 = .ok (.lushr, 1) := by decide +kernel
theorem dX2_isAtMost_27 : decode cX2_isAtMost 27 = .ok (.lload 6, 2) := by decide +kernel
theorem dX2_isAtMost_29 : decode cX2_isAtMost 29 = .ok (.lmul, 1) := by decide +kernel
theorem dX2_isAtMost_30 : decode cX2_isAtMost 30 = .ok (.lload 10, 2) := by decide +kernel
theorem dX2_isAtMost_32 : decode cX2_isAtMost 32 = .ok (.bipush 31, 2) := by decide +kernel
theorem dX2_isAtMost_34 : decode cX2_isAtMost 34 = .ok (.lushr, 1) := by decide +kernel
theorem dX2_isAtMost_35 : decode cX2_isAtMost 35 = .ok (.ladd, 1) := by decide +kernel
theorem dX2_isAtMost_36 : decode cX2_isAtMost 36 = .ok (.lstore 14, 2) := by decide +kernel
theorem dX2_isAtMost_38 : decode cX2_isAtMost 38 = .ok (.lload_n 2, 1) := by decide +kernel
theorem dX2_isAtMost_39 : decode cX2_isAtMost 39 = .ok (.bipush 31, 2) := by decide +kernel
theorem dX2_isAtMost_41 : decode cX2_isAtMost 41 = .ok (.lushr, 1) := by decide +kernel
theorem dX2_isAtMost_42 : decode cX2_isAtMost 42 = .ok (.lload 4, 2) := by decide +kernel
theorem dX2_isAtMost_44 : decode cX2_isAtMost 44 = .ok (.lmul, 1) := by decide +kernel
theorem dX2_isAtMost_45 : decode cX2_isAtMost 45 = .ok (.lload 12, 2) := by decide +kernel
theorem dX2_isAtMost_47 : decode cX2_isAtMost 47 = .ok (.bipush 31, 2) := by decide +kernel
theorem dX2_isAtMost_49 : decode cX2_isAtMost 49 = .ok (.lushr, 1) := by decide +kernel
theorem dX2_isAtMost_50 : decode cX2_isAtMost 50 = .ok (.ladd, 1) := by decide +kernel
theorem dX2_isAtMost_51 : decode cX2_isAtMost 51 = .ok (.lstore 16, 2) := by decide +kernel
theorem dX2_isAtMost_53 : decode cX2_isAtMost 53 = .ok (.lload 14, 2) := by decide +kernel
theorem dX2_isAtMost_55 : decode cX2_isAtMost 55 = .ok (.lload 16, 2) := by decide +kernel
theorem dX2_isAtMost_57 : decode cX2_isAtMost 57 = .ok (.lcmp, 1) := by decide +kernel
theorem dX2_isAtMost_58 : decode cX2_isAtMost 58 = .ok (.ifCond .lt 25, 3) := by decide +kernel
theorem dX2_isAtMost_61 : decode cX2_isAtMost 61 = .ok (.lload 14, 2) := by decide +kernel
theorem dX2_isAtMost_63 : decode cX2_isAtMost 63 = .ok (.lload 16, 2) := by decide +kernel
theorem dX2_isAtMost_65 : decode cX2_isAtMost 65 = .ok (.lcmp, 1) := by decide +kernel
theorem dX2_isAtMost_66 : decode cX2_isAtMost 66 = .ok (.ifCond .ne 21, 3) := by decide +kernel
theorem dX2_isAtMost_69 : decode cX2_isAtMost 69 = .ok (.lload 10, 2) := by decide +kernel
theorem dX2_isAtMost_71 : decode cX2_isAtMost 71 = .ok (.lload 8, 2) := by decide +kernel
theorem dX2_isAtMost_73 : decode cX2_isAtMost 73 = .ok (.land, 1) := by decide +kernel
theorem dX2_isAtMost_74 : decode cX2_isAtMost 74 = .ok (.lload 12, 2) := by decide +kernel
theorem dX2_isAtMost_76 : decode cX2_isAtMost 76 = .ok (.lload 8, 2) := by decide +kernel
theorem dX2_isAtMost_78 : decode cX2_isAtMost 78 = .ok (.land, 1) := by decide +kernel
theorem dX2_isAtMost_79 : decode cX2_isAtMost 79 = .ok (.lcmp, 1) := by decide +kernel
theorem dX2_isAtMost_80 : decode cX2_isAtMost 80 = .ok (.ifCond .gt 7, 3) := by decide +kernel
theorem dX2_isAtMost_83 : decode cX2_isAtMost 83 = .ok (.iconst 1, 1) := by decide +kernel
theorem dX2_isAtMost_84 : decode cX2_isAtMost 84 = .ok (.goto 4, 3) := by decide +kernel
theorem dX2_isAtMost_87 : decode cX2_isAtMost 87 = .ok (.iconst 0, 1) := by decide +kernel
theorem dX2_isAtMost_88 : decode cX2_isAtMost 88 = .ok (.ireturn, 1) := by decide +kernel
theorem dX2_endsAt_0 : decode cX2_endsAt 0 = .ok (.lconst 0, 1) := by decide +kernel
theorem dX2_endsAt_1 : decode cX2_endsAt 1 = .ok (.lstore 6, 2) := by decide +kernel
theorem dX2_endsAt_3 : decode cX2_endsAt 3 = .ok (.iconst 0, 1) := by decide +kernel
theorem dX2_endsAt_4 : decode cX2_endsAt 4 = .ok (.istore 8, 2) := by decide +kernel
theorem dX2_endsAt_6 : decode cX2_endsAt 6 = .ok (.iload 8, 2) := by decide +kernel
theorem dX2_endsAt_8 : decode cX2_endsAt 8 = .ok (.iload_n 3, 1) := by decide +kernel
theorem dX2_endsAt_9 : decode cX2_endsAt 9 = .ok (.if_icmp .ge 31, 3) := by decide +kernel
theorem dX2_endsAt_12 : decode cX2_endsAt 12 = .ok (.iload 8, 2) := by decide +kernel
theorem dX2_endsAt_14 : decode cX2_endsAt 14 = .ok (.aload_n 0, 1) := by decide +kernel
theorem dX2_endsAt_15 : decode cX2_endsAt 15 = .ok (.getfield 11, 3) := by decide +kernel
theorem dX2_endsAt_18 : decode cX2_endsAt 18 = .ok (.arraylength, 1) := by decide +kernel
theorem dX2_endsAt_19 : decode cX2_endsAt 19 = .ok (.if_icmp .ge 21, 3) := by decide +kernel
theorem dX2_endsAt_22 : decode cX2_endsAt 22 = .ok (.lload 6, 2) := by decide +kernel
theorem dX2_endsAt_24 : decode cX2_endsAt 24 = .ok (.aload_n 0, 1) := by decide +kernel
theorem dX2_endsAt_25 : decode cX2_endsAt 25 = .ok (.getfield 11, 3) := by decide +kernel
theorem dX2_endsAt_28 : decode cX2_endsAt 28 = .ok (.iload 8, 2) := by decide +kernel
theorem dX2_endsAt_30 : decode cX2_endsAt 30 = .ok (.laload, 1) := by decide +kernel
theorem dX2_endsAt_31 : decode cX2_endsAt 31 = .ok (.ladd, 1) := by decide +kernel
theorem dX2_endsAt_32 : decode cX2_endsAt 32 = .ok (.lstore 6, 2) := by decide +kernel
theorem dX2_endsAt_34 : decode cX2_endsAt 34 = .ok (.iinc 8 1, 3) := by decide +kernel
theorem dX2_endsAt_37 : decode cX2_endsAt 37 = .ok (.goto (-31), 3) := by decide +kernel
theorem dX2_endsAt_40 : decode cX2_endsAt 40 = .ok (.lload 6, 2) := by decide +kernel
theorem dX2_endsAt_42 : decode cX2_endsAt 42 = .ok (.iload_n 3, 1) := by decide +kernel
theorem dX2_endsAt_43 : decode cX2_endsAt 43 = .ok (.ifCond .lt 21, 3) := by decide +kernel
theorem dX2_endsAt_46 : decode cX2_endsAt 46 = .ok (.iload_n 3, 1) := by decide +kernel
theorem dX2_endsAt_47 : decode cX2_endsAt 47 = .ok (.aload_n 0, 1) := by decide +kernel
theorem dX2_endsAt_48 : decode cX2_endsAt 48 = .ok (.getfield 11, 3) := by decide +kernel
theorem dX2_endsAt_51 : decode cX2_endsAt 51 = .ok (.arraylength, 1) := by decide +kernel
theorem dX2_endsAt_52 : decode cX2_endsAt 52 = .ok (.if_icmp .ge 12, 3) := by decide +kernel
theorem dX2_endsAt_55 : decode cX2_endsAt 55 = .ok (.aload_n 0, 1) := by decide +kernel
theorem dX2_endsAt_56 : decode cX2_endsAt 56 = .ok (.getfield 11, 3) := by decide +kernel
theorem dX2_endsAt_59 : decode cX2_endsAt 59 = .ok (.iload_n 3, 1) := by decide +kernel
theorem dX2_endsAt_60 : decode cX2_endsAt 60 = .ok (.laload, 1) := by decide +kernel
theorem dX2_endsAt_61 : decode cX2_endsAt 61 = .ok (.goto 4, 3) := by decide +kernel
theorem dX2_endsAt_64 : decode cX2_endsAt 64 = .ok (.lconst 0, 1) := by decide +kernel
theorem dX2_endsAt_65 : decode cX2_endsAt 65 = .ok (.ladd, 1) := by decide +kernel
theorem dX2_endsAt_66 : decode cX2_endsAt 66 = .ok (.lstore 8, 2) := by decide +kernel
theorem dX2_endsAt_68 : decode cX2_endsAt 68 = .ok (.iload_n 1, 1) := by decide +kernel
theorem dX2_endsAt_69 : decode cX2_endsAt 69 = .ok (.iload_n 2, 1) := by decide +kernel
theorem dX2_endsAt_70 : decode cX2_endsAt 70 = .ok (.lload 8, 2) := by decide +kernel
theorem dX2_endsAt_72 : decode cX2_endsAt 72 = .ok (.lload 4, 2) := by decide +kernel
theorem dX2_endsAt_74 : decode cX2_endsAt 74 = .ok (.lload 8, 2) := by decide +kernel
theorem dX2_endsAt_76 : decode cX2_endsAt 76 = .ok (.lsub, 1) := by decide +kernel
theorem dX2_endsAt_77 : decode cX2_endsAt 77 = .ok (.invokestatic 129, 3) := by decide +kernel
theorem dX2_endsAt_80 : decode cX2_endsAt 80 = .ok (.iload_n 1, 1) := by decide +kernel
theorem dX2_endsAt_81 : decode cX2_endsAt 81 = .ok (.iload_n 2, 1) := by decide +kernel
theorem dX2_endsAt_82 : decode cX2_endsAt 82 = .ok (.lload 6, 2) := by decide +kernel
theorem dX2_endsAt_84 : decode cX2_endsAt 84 = .ok (.lload 4, 2) := by decide +kernel
theorem dX2_endsAt_86 : decode cX2_endsAt 86 = .ok (.lload 6, 2) := by decide +kernel
theorem dX2_endsAt_88 : decode cX2_endsAt 88 = .ok (.lsub, 1) := by decide +kernel
theorem dX2_endsAt_89 : decode cX2_endsAt 89 = .ok (.invokestatic 129, 3) := by decide +kernel
theorem dX2_endsAt_92 : decode cX2_endsAt 92 = .ok (.lsub, 1) := by decide +kernel
theorem dX2_endsAt_93 : decode cX2_endsAt 93 = .ok (.lreturn, 1) := by decide +kernel
theorem dX2_atLeast_0 : decode cX2_atLeast 0 = .ok (.lconst 0, 1) := by decide +kernel
theorem dX2_atLeast_1 : decode cX2_atLeast 1 = .ok (.lstore 6, 2) := by decide +kernel
theorem dX2_atLeast_3 : decode cX2_atLeast 3 = .ok (.iload_n 1, 1) := by decide +kernel
theorem dX2_atLeast_4 : decode cX2_atLeast 4 = .ok (.istore 8, 2) := by decide +kernel
theorem dX2_atLeast_6 : decode cX2_atLeast 6 = .ok (.iload 8, 2) := by decide +kernel
theorem dX2_atLeast_8 : decode cX2_atLeast 8 = .ok (.iload_n 0, 1) := by decide +kernel
theorem dX2_atLeast_9 : decode cX2_atLeast 9 = .ok (.if_icmp .gt 37, 3) := by decide +kernel
theorem dX2_atLeast_12 : decode cX2_atLeast 12 = .ok (.lload 6, 2) := by decide +kernel
theorem dX2_atLeast_14 : decode cX2_atLeast 14 = .ok (.iload_n 0, 1) := by decide +kernel
theorem dX2_atLeast_15 : decode cX2_atLeast 15 = .ok (.iload 8, 2) := by decide +kernel
theorem dX2_atLeast_17 : decode cX2_atLeast 17 = .ok (.invokestatic 116, 3) := by decide +kernel
theorem dX2_atLeast_20 : decode cX2_atLeast 20 = .ok (.lload_n 2, 1) := by decide +kernel
theorem dX2_atLeast_21 : decode cX2_atLeast 21 = .ok (.iload 8, 2) := by decide +kernel
theorem dX2_atLeast_23 : decode cX2_atLeast 23 = .ok (.invokestatic 73, 3) := by decide +kernel
theorem dX2_atLeast_26 : decode cX2_atLeast 26 = .ok (.lmul, 1) := by decide +kernel
theorem dX2_atLeast_27 : decode cX2_atLeast 27 = .ok (.lload 4, 2) := by decide +kernel
theorem dX2_atLeast_29 : decode cX2_atLeast 29 = .ok (.iload_n 0, 1) := by decide +kernel
theorem dX2_atLeast_30 : decode cX2_atLeast 30 = .ok (.iload 8, 2) := by decide +kernel
theorem dX2_atLeast_32 : decode cX2_atLeast 32 = .ok (.isub, 1) := by decide +kernel
theorem dX2_atLeast_33 : decode cX2_atLeast 33 = .ok (.invokestatic 73, 3) := by decide +kernel
theorem dX2_atLeast_36 : decode cX2_atLeast 36 = .ok (.lmul, 1) := by decide +kernel
theorem dX2_atLeast_37 : decode cX2_atLeast 37 = .ok (.ladd, 1) := by decide +kernel
theorem dX2_atLeast_38 : decode cX2_atLeast 38 = .ok (.lstore 6, 2) := by decide +kernel
theorem dX2_atLeast_40 : decode cX2_atLeast 40 = .ok (.iinc 8 1, 3) := by decide +kernel
theorem dX2_atLeast_43 : decode cX2_atLeast 43 = .ok (.goto (-37), 3) := by decide +kernel
theorem dX2_atLeast_46 : decode cX2_atLeast 46 = .ok (.lload 6, 2) := by decide +kernel
theorem dX2_atLeast_48 : decode cX2_atLeast 48 = .ok (.lreturn, 1) := by decide +kernel
theorem dX2_picks_0 : decode cX2_picks 0 = .ok (.iload_n 0, 1) := by decide +kernel
theorem dX2_picks_1 : decode cX2_picks 1 = .ok (.ifCond .lt 32, 3) := by decide +kernel
theorem dX2_picks_4 : decode cX2_picks 4 = .ok (.iload_n 0, 1) := by decide +kernel
theorem dX2_picks_5 : decode cX2_picks 5 = .ok (.bipush 6, 2) := by decide +kernel
theorem dX2_picks_7 : decode cX2_picks 7 = .ok (.if_icmp .ge 26, 3) := by decide +kernel
theorem dX2_picks_10 : decode cX2_picks 10 = .ok (.iload_n 1, 1) := by decide +kernel
theorem dX2_picks_11 : decode cX2_picks 11 = .ok (.ifCond .lt 22, 3) := by decide +kernel
theorem dX2_picks_14 : decode cX2_picks 14 = .ok (.iload_n 1, 1) := by decide +kernel
theorem dX2_picks_15 : decode cX2_picks 15 = .ok (.bipush 6, 2) := by decide +kernel
theorem dX2_picks_17 : decode cX2_picks 17 = .ok (.if_icmp .ge 16, 3) := by decide +kernel
theorem dX2_picks_20 : decode cX2_picks 20 = .ok (.getstatic 133, 3) := by decide +kernel
theorem dX2_picks_23 : decode cX2_picks 23 = .ok (.iload_n 0, 1) := by decide +kernel
theorem dX2_picks_24 : decode cX2_picks 24 = .ok (.bipush 6, 2) := by decide +kernel
theorem dX2_picks_26 : decode cX2_picks 26 = .ok (.imul, 1) := by decide +kernel
theorem dX2_picks_27 : decode cX2_picks 27 = .ok (.iload_n 1, 1) := by decide +kernel
theorem dX2_picks_28 : decode cX2_picks 28 = .ok (.iadd, 1) := by decide +kernel
theorem dX2_picks_29 : decode cX2_picks 29 = .ok (.laload, 1) := by decide +kernel
theorem dX2_picks_30 : decode cX2_picks 30 = .ok (.goto 4, 3) := by decide +kernel
theorem dX2_picks_33 : decode cX2_picks 33 = .ok (.lconst 0, 1) := by decide +kernel
theorem dX2_picks_34 : decode cX2_picks 34 = .ok (.lreturn, 1) := by decide +kernel
theorem dX2_place_0 : decode cX2_place 0 = .ok (.iload_n 0, 1) := by decide +kernel
theorem dX2_place_1 : decode cX2_place 1 = .ok (.bipush 6, 2) := by decide +kernel
theorem dX2_place_3 : decode cX2_place 3 = .ok (.imul, 1) := by decide +kernel
theorem dX2_place_4 : decode cX2_place 4 = .ok (.iload_n 1, 1) := by decide +kernel
theorem dX2_place_5 : decode cX2_place 5 = .ok (.iadd, 1) := by decide +kernel
theorem dX2_place_6 : decode cX2_place 6 = .ok (.ireturn, 1) := by decide +kernel
theorem dX2_fillPowers_0 : decode cX2_fillPowers 0 = .ok (.lconst 1, 1) := by decide +kernel
theorem dX2_fillPowers_1 : decode cX2_fillPowers 1 = .ok (.lstore_n 3, 1) := by decide +kernel
theorem dX2_fillPowers_2 : decode cX2_fillPowers 2 = .ok (.iconst 0, 1) := by decide +kernel
theorem dX2_fillPowers_3 : decode cX2_fillPowers 3 = .ok (.istore 5, 2) := by decide +kernel
theorem dX2_fillPowers_5 : decode cX2_fillPowers 5 = .ok (.iload 5, 2) := by decide +kernel
theorem dX2_fillPowers_7 : decode cX2_fillPowers 7 = .ok (.aload_n 2, 1) := by decide +kernel
theorem dX2_fillPowers_8 : decode cX2_fillPowers 8 = .ok (.arraylength, 1) := by decide +kernel
theorem dX2_fillPowers_9 : decode cX2_fillPowers 9 = .ok (.if_icmp .ge 18, 3) := by decide +kernel
theorem dX2_fillPowers_12 : decode cX2_fillPowers 12 = .ok (.aload_n 2, 1) := by decide +kernel
theorem dX2_fillPowers_13 : decode cX2_fillPowers 13 = .ok (.iload 5, 2) := by decide +kernel
theorem dX2_fillPowers_15 : decode cX2_fillPowers 15 = .ok (.lload_n 3, 1) := by decide +kernel
theorem dX2_fillPowers_16 : decode cX2_fillPowers 16 = .ok (.lastore, 1) := by decide +kernel
theorem dX2_fillPowers_17 : decode cX2_fillPowers 17 = .ok (.lload_n 3, 1) := by decide +kernel
theorem dX2_fillPowers_18 : decode cX2_fillPowers 18 = .ok (.lload_n 0, 1) := by decide +kernel
theorem dX2_fillPowers_19 : decode cX2_fillPowers 19 = .ok (.lmul, 1) := by decide +kernel
theorem dX2_fillPowers_20 : decode cX2_fillPowers 20 = .ok (.lstore_n 3, 1) := by decide +kernel
theorem dX2_fillPowers_21 : decode cX2_fillPowers 21 = .ok (.iinc 5 1, 3) := by decide +kernel
theorem dX2_fillPowers_24 : decode cX2_fillPowers 24 = .ok (.goto (-19), 3) := by decide +kernel
theorem dX2_fillPowers_27 : decode cX2_fillPowers 27 = .ok (.return_, 1) := by decide +kernel
theorem dX3_init_0 : decode cX3_init 0 = .ok (.aload_n 0, 1) := by decide +kernel
theorem dX3_init_1 : decode cX3_init 1 = .ok (.invokespecial 3, 3) := by decide +kernel
theorem dX3_init_4 : decode cX3_init 4 = .ok (.aload_n 0, 1) := by decide +kernel
theorem dX3_init_5 : decode cX3_init 5 = .ok (.sipush 1000, 3) := by decide +kernel
theorem dX3_init_8 : decode cX3_init 8 = .ok (.newarray .int, 2) := by decide +kernel
theorem dX3_init_10 : decode cX3_init 10 = .ok (.putfield 11, 3) := by decide +kernel
theorem dX3_init_13 : decode cX3_init 13 = .ok (.aload_n 0, 1) := by decide +kernel
theorem dX3_init_14 : decode cX3_init 14 = .ok (.sipush 1000, 3) := by decide +kernel
theorem dX3_init_17 : decode cX3_init 17 = .ok (.newarray .int, 2) := by decide +kernel
theorem dX3_init_19 : decode cX3_init 19 = .ok (.putfield 15, 3) := by decide +kernel
theorem dX3_init_22 : decode cX3_init 22 = .ok (.aload_n 0, 1) := by decide +kernel
theorem dX3_init_23 : decode cX3_init 23 = .ok (.sipush 1000, 3) := by decide +kernel
theorem dX3_init_26 : decode cX3_init 26 = .ok (.newarray .int, 2) := by decide +kernel
theorem dX3_init_28 : decode cX3_init 28 = .ok (.putfield 18, 3) := by decide +kernel
theorem dX3_init_31 : decode cX3_init 31 = .ok (.aload_n 0, 1) := by decide +kernel
theorem dX3_init_32 : decode cX3_init 32 = .ok (.sipush 1000, 3) := by decide +kernel
theorem dX3_init_35 : decode cX3_init 35 = .ok (.newarray .int, 2) := by decide +kernel
theorem dX3_init_37 : decode cX3_init 37 = .ok (.putfield 21, 3) := by decide +kernel
theorem dX3_init_40 : decode cX3_init 40 = .ok (.aload_n 0, 1) := by decide +kernel
theorem dX3_init_41 : decode cX3_init 41 = .ok (.sipush 1000, 3) := by decide +kernel
theorem dX3_init_44 : decode cX3_init 44 = .ok (.newarray .int, 2) := by decide +kernel
theorem dX3_init_46 : decode cX3_init 46 = .ok (.putfield 24, 3) := by decide +kernel
theorem dX3_init_49 : decode cX3_init 49 = .ok (.aload_n 0, 1) := by decide +kernel
theorem dX3_init_50 : decode cX3_init 50 = .ok (.sipush 1000, 3) := by decide +kernel
theorem dX3_init_53 : decode cX3_init 53 = .ok (.newarray .int, 2) := by decide +kernel
theorem dX3_init_55 : decode cX3_init 55 = .ok (.putfield 27, 3) := by decide +kernel
theorem dX3_init_58 : decode cX3_init 58 = .ok (.aload_n 0, 1) := by decide +kernel
theorem dX3_init_59 : decode cX3_init 59 = .ok (.iconst 0, 1) := by decide +kernel
theorem dX3_init_60 : decode cX3_init 60 = .ok (.putfield 30, 3) := by decide +kernel
theorem dX3_init_63 : decode cX3_init 63 = .ok (.aload_n 0, 1) := by decide +kernel
theorem dX3_init_64 : decode cX3_init 64 = .ok (.iconst (-1), 1) := by decide +kernel
theorem dX3_init_65 : decode cX3_init 65 = .ok (.putfield 34, 3) := by decide +kernel
theorem dX3_init_68 : decode cX3_init 68 = .ok (.aload_n 0, 1) := by decide +kernel
theorem dX3_init_69 : decode cX3_init 69 = .ok (.iconst 0, 1) := by decide +kernel
theorem dX3_init_70 : decode cX3_init 70 = .ok (.putfield 37, 3) := by decide +kernel
theorem dX3_init_73 : decode cX3_init 73 = .ok (.return_, 1) := by decide +kernel
theorem dX3_renew_0 : decode cX3_renew 0 = .ok (.aload_n 0, 1) := by decide +kernel
theorem dX3_renew_1 : decode cX3_renew 1 = .ok (.iconst 0, 1) := by decide +kernel
theorem dX3_renew_2 : decode cX3_renew 2 = .ok (.putfield 30, 3) := by decide +kernel
theorem dX3_renew_5 : decode cX3_renew 5 = .ok (.aload_n 0, 1) := by decide +kernel
theorem dX3_renew_6 : decode cX3_renew 6 = .ok (.iconst (-1), 1) := by decide +kernel
theorem dX3_renew_7 : decode cX3_renew 7 = .ok (.putfield 34, 3) := by decide +kernel
theorem dX3_renew_10 : decode cX3_renew 10 = .ok (.aload_n 0, 1) := by decide +kernel
theorem dX3_renew_11 : decode cX3_renew 11 = .ok (.iconst 0, 1) := by decide +kernel
theorem dX3_renew_12 : decode cX3_renew 12 = .ok (.putfield 37, 3) := by decide +kernel
theorem dX3_renew_15 : decode cX3_renew 15 = .ok (.return_, 1) := by decide +kernel
theorem dX3_send_0 : decode cX3_send 0 = .ok (.aload_n 0, 1) := by decide +kernel
theorem dX3_send_1 : decode cX3_send 1 = .ok (.getfield 30, 3) := by decide +kernel
theorem dX3_send_4 : decode cX3_send 4 = .ok (.sipush 1000, 3) := by decide +kernel
theorem dX3_send_7 : decode cX3_send 7 = .ok (.if_icmp .lt 4, 3) := by decide +kernel
theorem dX3_send_10 : decode cX3_send 10 = .ok (.return_, 1) := by decide +kernel
theorem dX3_send_11 : decode cX3_send 11 = .ok (.aload_n 0, 1) := by decide +kernel
theorem dX3_send_12 : decode cX3_send 12 = .ok (.dup, 1) := by decide +kernel
theorem dX3_send_13 : decode cX3_send 13 = .ok (.getfield 30, 3) := by decide +kernel
theorem dX3_send_16 : decode cX3_send 16 = .ok (.dup_x1, 1) := by decide +kernel
theorem dX3_send_17 : decode cX3_send 17 = .ok (.iconst 1, 1) := by decide +kernel
theorem dX3_send_18 : decode cX3_send 18 = .ok (.iadd, 1) := by decide +kernel
theorem dX3_send_19 : decode cX3_send 19 = .ok (.putfield 30, 3) := by decide +kernel
theorem dX3_send_22 : decode cX3_send 22 = .ok (.istore 6, 2) := by decide +kernel
theorem dX3_send_24 : decode cX3_send 24 = .ok (.aload_n 0, 1) := by decide +kernel
theorem dX3_send_25 : decode cX3_send 25 = .ok (.dup, 1) := by decide +kernel
theorem dX3_send_26 : decode cX3_send 26 = .ok (.getfield 37, 3) := by decide +kernel
theorem dX3_send_29 : decode cX3_send 29 = .ok (.iconst 1, 1) := by decide +kernel
theorem dX3_send_30 : decode cX3_send 30 = .ok (.iadd, 1) := by decide +kernel
theorem dX3_send_31 : decode cX3_send 31 = .ok (.putfield 37, 3) := by decide +kernel
theorem dX3_send_34 : decode cX3_send 34 = .ok (.aload_n 0, 1) := by decide +kernel
theorem dX3_send_35 : decode cX3_send 35 = .ok (.getfield 11, 3) := by decide +kernel
theorem dX3_send_38 : decode cX3_send 38 = .ok (.iload 6, 2) := by decide +kernel
theorem dX3_send_40 : decode cX3_send 40 = .ok (.iload_n 1, 1) := by decide +kernel
theorem dX3_send_41 : decode cX3_send 41 = .ok (.iastore, 1) := by decide +kernel
theorem dX3_send_42 : decode cX3_send 42 = .ok (.aload_n 0, 1) := by decide +kernel
theorem dX3_send_43 : decode cX3_send 43 = .ok (.getfield 21, 3) := by decide +kernel
theorem dX3_send_46 : decode cX3_send 46 = .ok (.iload 6, 2) := by decide +kernel
theorem dX3_send_48 : decode cX3_send 48 = .ok (.iload_n 2, 1) := by decide +kernel
theorem dX3_send_49 : decode cX3_send 49 = .ok (.iastore, 1) := by decide +kernel
theorem dX3_send_50 : decode cX3_send 50 = .ok (.aload_n 0, 1) := by decide +kernel
theorem dX3_send_51 : decode cX3_send 51 = .ok (.getfield 18, 3) := by decide +kernel
theorem dX3_send_54 : decode cX3_send 54 = .ok (.iload 6, 2) := by decide +kernel
theorem dX3_send_56 : decode cX3_send 56 = .ok (.iload_n 3, 1) := by decide +kernel
theorem dX3_send_57 : decode cX3_send 57 = .ok (.iastore, 1) := by decide +kernel
theorem dX3_send_58 : decode cX3_send 58 = .ok (.aload_n 0, 1) := by decide +kernel
theorem dX3_send_59 : decode cX3_send 59 = .ok (.getfield 24, 3) := by decide +kernel
theorem dX3_send_62 : decode cX3_send 62 = .ok (.iload 6, 2) := by decide +kernel
theorem dX3_send_64 : decode cX3_send 64 = .ok (.iload 4, 2) := by decide +kernel
theorem dX3_send_66 : decode cX3_send 66 = .ok (.iastore, 1) := by decide +kernel
theorem dX3_send_67 : decode cX3_send 67 = .ok (.aload_n 0, 1) := by decide +kernel
theorem dX3_send_68 : decode cX3_send 68 = .ok (.getfield 27, 3) := by decide +kernel
theorem dX3_send_71 : decode cX3_send 71 = .ok (.iload 6, 2) := by decide +kernel
theorem dX3_send_73 : decode cX3_send 73 = .ok (.iload 5, 2) := by decide +kernel
theorem dX3_send_75 : decode cX3_send 75 = .ok (.iastore, 1) := by decide +kernel
theorem dX3_send_76 : decode cX3_send 76 = .ok (.aload_n 0, 1) := by decide +kernel
theorem dX3_send_77 : decode cX3_send 77 = .ok (.iload 6, 2) := by decide +kernel
theorem dX3_send_79 : decode cX3_send 79 = .ok (.invokevirtual 40, 3) := by decide +kernel
theorem dX3_send_82 : decode cX3_send 82 = .ok (.return_, 1) := by decide +kernel
theorem dX3_link_0 : decode cX3_link 0 = .ok (.iconst (-1), 1) := by decide +kernel
theorem dX3_link_1 : decode cX3_link 1 = .ok (.istore_n 2, 1) := by decide +kernel
theorem dX3_link_2 : decode cX3_link 2 = .ok (.aload_n 0, 1) := by decide +kernel
theorem dX3_link_3 : decode cX3_link 3 = .ok (.getfield 34, 3) := by decide +kernel
theorem dX3_link_6 : decode cX3_link 6 = .ok (.istore_n 3, 1) := by decide +kernel
theorem dX3_link_7 : decode cX3_link 7 = .ok (.iconst 0, 1) := by decide +kernel
theorem dX3_link_8 : decode cX3_link 8 = .ok (.istore 4, 2) := by decide +kernel
theorem dX3_link_10 : decode cX3_link 10 = .ok (.iload 4, 2) := by decide +kernel
theorem dX3_link_12 : decode cX3_link 12 = .ok (.sipush 1000, 3) := by decide +kernel
theorem dX3_link_15 : decode cX3_link 15 = .ok (.if_icmp .ge 40, 3) := by decide +kernel
theorem dX3_link_18 : decode cX3_link 18 = .ok (.iload_n 3, 1) := by decide +kernel
theorem dX3_link_19 : decode cX3_link 19 = .ok (.invokestatic 44, 3) := by decide +kernel
theorem dX3_link_22 : decode cX3_link 22 = .ok (.ifCond .eq 33, 3) := by decide +kernel
theorem dX3_link_25 : decode cX3_link 25 = .ok (.aload_n 0, 1) := by decide +kernel
theorem dX3_link_26 : decode cX3_link 26 = .ok (.getfield 11, 3) := by decide +kernel
theorem dX3_link_29 : decode cX3_link 29 = .ok (.iload_n 3, 1) := by decide +kernel
theorem dX3_link_30 : decode cX3_link 30 = .ok (.iaload, 1) := by decide +kernel
theorem dX3_link_31 : decode cX3_link 31 = .ok (.aload_n 0, 1) := by decide +kernel
theorem dX3_link_32 : decode cX3_link 32 = .ok (.getfield 11, 3) := by decide +kernel
theorem dX3_link_35 : decode cX3_link 35 = .ok (.iload_n 1, 1) := by decide +kernel
theorem dX3_link_36 : decode cX3_link 36 = .ok (.iaload, 1) := by decide +kernel
theorem dX3_link_37 : decode cX3_link 37 = .ok (.if_icmp .gt 18, 3) := by decide +kernel
theorem dX3_link_40 : decode cX3_link 40 = .ok (.iload_n 3, 1) := by decide +kernel
theorem dX3_link_41 : decode cX3_link 41 = .ok (.istore_n 2, 1) := by decide +kernel
theorem dX3_link_42 : decode cX3_link 42 = .ok (.aload_n 0, 1) := by decide +kernel
theorem dX3_link_43 : decode cX3_link 43 = .ok (.getfield 15, 3) := by decide +kernel
theorem dX3_link_46 : decode cX3_link 46 = .ok (.iload_n 3, 1) := by decide +kernel
theorem dX3_link_47 : decode cX3_link 47 = .ok (.iaload, 1) := by decide +kernel
theorem dX3_link_48 : decode cX3_link 48 = .ok (.istore_n 3, 1) := by decide +kernel
theorem dX3_link_49 : decode cX3_link 49 = .ok (.iinc 4 1, 3) := by decide +kernel
theorem dX3_link_52 : decode cX3_link 52 = .ok (.goto (-42), 3) := by decide +kernel
theorem dX3_link_55 : decode cX3_link 55 = .ok (.aload_n 0, 1) := by decide +kernel
theorem dX3_link_56 : decode cX3_link 56 = .ok (.getfield 15, 3) := by decide +kernel
theorem dX3_link_59 : decode cX3_link 59 = .ok (.iload_n 1, 1) := by decide +kernel
theorem dX3_link_60 : decode cX3_link 60 = .ok (.iload_n 3, 1) := by decide +kernel
theorem dX3_link_61 : decode cX3_link 61 = .ok (.iastore, 1) := by decide +kernel
theorem dX3_link_62 : decode cX3_link 62 = .ok (.iload_n 2, 1) := by decide +kernel
theorem dX3_link_63 : decode cX3_link 63 = .ok (.invokestatic 44, 3) := by decide +kernel
theorem dX3_link_66 : decode cX3_link 66 = .ok (.ifCond .eq 13, 3) := by decide +kernel
theorem dX3_link_69 : decode cX3_link 69 = .ok (.aload_n 0, 1) := by decide +kernel
theorem dX3_link_70 : decode cX3_link 70 = .ok (.getfield 15, 3) := by decide +kernel
theorem dX3_link_73 : decode cX3_link 73 = .ok (.iload_n 2, 1) := by decide +kernel
theorem dX3_link_74 : decode cX3_link 74 = .ok (.iload_n 1, 1) := by decide +kernel
theorem dX3_link_75 : decode cX3_link 75 = .ok (.iastore, 1) := by decide +kernel
theorem dX3_link_76 : decode cX3_link 76 = .ok (.goto 8, 3) := by decide +kernel
theorem dX3_link_79 : decode cX3_link 79 = .ok (.aload_n 0, 1) := by decide +kernel
theorem dX3_link_80 : decode cX3_link 80 = .ok (.iload_n 1, 1) := by decide +kernel
theorem dX3_link_81 : decode cX3_link 81 = .ok (.putfield 34, 3) := by decide +kernel
theorem dX3_link_84 : decode cX3_link 84 = .ok (.return_, 1) := by decide +kernel
theorem dX3_isLetter_0 : decode cX3_isLetter 0 = .ok (.iload_n 0, 1) := by decide +kernel
theorem dX3_isLetter_1 : decode cX3_isLetter 1 = .ok (.ifCond .lt 14, 3) := by decide +kernel
theorem dX3_isLetter_4 : decode cX3_isLetter 4 = .ok (.iload_n 0, 1) := by decide +kernel
theorem dX3_isLetter_5 : decode cX3_isLetter 5 = .ok (.sipush 1000, 3) := by decide +kernel
theorem dX3_isLetter_8 : decode cX3_isLetter 8 = .ok (.if_icmp .ge 7, 3) := by decide +kernel
theorem dX3_isLetter_11 : decode cX3_isLetter 11 = .ok (.iconst 1, 1) := by decide +kernel
theorem dX3_isLetter_12 : decode cX3_isLetter 12 = .ok (.goto 4, 3) := by decide +kernel
theorem dX3_isLetter_15 : decode cX3_isLetter 15 = .ok (.iconst 0, 1) := by decide +kernel
theorem dX3_isLetter_16 : decode cX3_isLetter 16 = .ok (.ireturn, 1) := by decide +kernel
theorem dX3_takeDue_0 : decode cX3_takeDue 0 = .ok (.aload_n 0, 1) := by decide +kernel
theorem dX3_takeDue_1 : decode cX3_takeDue 1 = .ok (.getfield 34, 3) := by decide +kernel
theorem dX3_takeDue_4 : decode cX3_takeDue 4 = .ok (.invokestatic 44, 3) := by decide +kernel
theorem dX3_takeDue_7 : decode cX3_takeDue 7 = .ok (.ifCond .eq 16, 3) := by decide +kernel
theorem dX3_takeDue_10 : decode cX3_takeDue 10 = .ok (.aload_n 0, 1) := by decide +kernel
theorem dX3_takeDue_11 : decode cX3_takeDue 11 = .ok (.getfield 11, 3) := by decide +kernel
theorem dX3_takeDue_14 : decode cX3_takeDue 14 = .ok (.aload_n 0, 1) := by decide +kernel
theorem dX3_takeDue_15 : decode cX3_takeDue 15 = .ok (.getfield 34, 3) := by decide +kernel
theorem dX3_takeDue_18 : decode cX3_takeDue 18 = .ok (.iaload, 1) := by decide +kernel
theorem dX3_takeDue_19 : decode cX3_takeDue 19 = .ok (.iload_n 1, 1) := by decide +kernel
theorem dX3_takeDue_20 : decode cX3_takeDue 20 = .ok (.if_icmp .le 5, 3) := by decide +kernel
theorem dX3_takeDue_23 : decode cX3_takeDue 23 = .ok (.iconst (-1), 1) := by decide +kernel
theorem dX3_takeDue_24 : decode cX3_takeDue 24 = .ok (.ireturn, 1) := by decide +kernel
theorem dX3_takeDue_25 : decode cX3_takeDue 25 = .ok (.aload_n 0, 1) := by decide +kernel
theorem dX3_takeDue_26 : decode cX3_takeDue 26 = .ok (.getfield 34, 3) := by decide +kernel
theorem dX3_takeDue_29 : decode cX3_takeDue 29 = .ok (.istore_n 2, 1) := by decide +kernel
theorem dX3_takeDue_30 : decode cX3_takeDue 30 = .ok (.aload_n 0, 1) := by decide +kernel
theorem dX3_takeDue_31 : decode cX3_takeDue 31 = .ok (.aload_n 0, 1) := by decide +kernel
theorem dX3_takeDue_32 : decode cX3_takeDue 32 = .ok (.getfield 15, 3) := by decide +kernel
theorem dX3_takeDue_35 : decode cX3_takeDue 35 = .ok (.iload_n 2, 1) := by decide +kernel
theorem dX3_takeDue_36 : decode cX3_takeDue 36 = .ok (.iaload, 1) := by decide +kernel
theorem dX3_takeDue_37 : decode cX3_takeDue 37 = .ok (.putfield 34, 3) := by decide +kernel
theorem dX3_takeDue_40 : decode cX3_takeDue 40 = .ok (.aload_n 0, 1) := by decide +kernel
theorem dX3_takeDue_41 : decode cX3_takeDue 41 = .ok (.dup, 1) := by decide +kernel
theorem dX3_takeDue_42 : decode cX3_takeDue 42 = .ok (.getfield 37, 3) := by decide +kernel
theorem dX3_takeDue_45 : decode cX3_takeDue 45 = .ok (.iconst 1, 1) := by decide +kernel
theorem dX3_takeDue_46 : decode cX3_takeDue 46 = .ok (.isub, 1) := by decide +kernel
theorem dX3_takeDue_47 : decode cX3_takeDue 47 = .ok (.putfield 37, 3) := by decide +kernel
theorem dX3_takeDue_50 : decode cX3_takeDue 50 = .ok (.iload_n 2, 1) := by decide +kernel
theorem dX3_takeDue_51 : decode cX3_takeDue 51 = .ok (.ireturn, 1) := by decide +kernel
theorem dX3_tickOf_0 : decode cX3_tickOf 0 = .ok (.aload_n 0, 1) := by decide +kernel
theorem dX3_tickOf_1 : decode cX3_tickOf 1 = .ok (.getfield 11, 3) := by decide +kernel
theorem dX3_tickOf_4 : decode cX3_tickOf 4 = .ok (.iload_n 1, 1) := by decide +kernel
theorem dX3_tickOf_5 : decode cX3_tickOf 5 = .ok (.iaload, 1) := by decide +kernel
theorem dX3_tickOf_6 : decode cX3_tickOf 6 = .ok (.ireturn, 1) := by decide +kernel
theorem dX4_init_0 : decode cX4_init 0 = .ok (.aload_n 0, 1) := by decide +kernel
theorem dX4_init_1 : decode cX4_init 1 = .ok (.invokespecial 3, 3) := by decide +kernel
theorem dX4_init_4 : decode cX4_init 4 = .ok (.aload_n 0, 1) := by decide +kernel
theorem dX4_init_5 : decode cX4_init 5 = .ok (.bipush 40, 2) := by decide +kernel
theorem dX4_init_7 : decode cX4_init 7 = .ok (.newarray .int, 2) := by decide +kernel
theorem dX4_init_9 : decode cX4_init 9 = .ok (.putfield 9, 3) := by decide +kernel
theorem dX4_init_12 : decode cX4_init 12 = .ok (.aload_n 0, 1) := by decide +kernel
theorem dX4_init_13 : decode cX4_init 13 = .ok (.bipush 40, 2) := by decide +kernel
theorem dX4_init_15 : decode cX4_init 15 = .ok (.newarray .int, 2) := by decide +kernel
theorem dX4_init_17 : decode cX4_init 17 = .ok (.putfield 15, 3) := by decide +kernel
theorem dX4_init_20 : decode cX4_init 20 = .ok (.aload_n 0, 1) := by decide +kernel
theorem dX4_init_21 : decode cX4_init 21 = .ok (.bipush 40, 2) := by decide +kernel
theorem dX4_init_23 : decode cX4_init 23 = .ok (.newarray .int, 2) := by decide +kernel
theorem dX4_init_25 : decode cX4_init 25 = .ok (.putfield 18, 3) := by decide +kernel
theorem dX4_init_28 : decode cX4_init 28 = .ok (.aload_n 0, 1) := by decide +kernel
theorem dX4_init_29 : decode cX4_init 29 = .ok (.bipush 40, 2) := by decide +kernel
theorem dX4_init_31 : decode cX4_init 31 = .ok (.newarray .int, 2) := by decide +kernel
theorem dX4_init_33 : decode cX4_init 33 = .ok (.putfield 21, 3) := by decide +kernel
theorem dX4_init_36 : decode cX4_init 36 = .ok (.aload_n 0, 1) := by decide +kernel
theorem dX4_init_37 : decode cX4_init 37 = .ok (.bipush 40, 2) := by decide +kernel
theorem dX4_init_39 : decode cX4_init 39 = .ok (.newarray .int, 2) := by decide +kernel
theorem dX4_init_41 : decode cX4_init 41 = .ok (.putfield 24, 3) := by decide +kernel
theorem dX4_init_44 : decode cX4_init 44 = .ok (.aload_n 0, 1) := by decide +kernel
theorem dX4_init_45 : decode cX4_init 45 = .ok (.bipush 40, 2) := by decide +kernel
theorem dX4_init_47 : decode cX4_init 47 = .ok (.newarray .int, 2) := by decide +kernel
theorem dX4_init_49 : decode cX4_init 49 = .ok (.putfield 27, 3) := by decide +kernel
theorem dX4_init_52 : decode cX4_init 52 = .ok (.aload_n 0, 1) := by decide +kernel
theorem dX4_init_53 : decode cX4_init 53 = .ok (.bipush 40, 2) := by decide +kernel
theorem dX4_init_55 : decode cX4_init 55 = .ok (.newarray .int, 2) := by decide +kernel
theorem dX4_init_57 : decode cX4_init 57 = .ok (.putfield 30, 3) := by decide +kernel
theorem dX4_init_60 : decode cX4_init 60 = .ok (.aload_n 0, 1) := by decide +kernel
theorem dX4_init_61 : decode cX4_init 61 = .ok (.sipush 200, 3) := by decide +kernel
theorem dX4_init_64 : decode cX4_init 64 = .ok (.newarray .int, 2) := by decide +kernel
theorem dX4_init_66 : decode cX4_init 66 = .ok (.putfield 33, 3) := by decide +kernel
theorem dX4_init_69 : decode cX4_init 69 = .ok (.aload_n 0, 1) := by decide +kernel
theorem dX4_init_70 : decode cX4_init 70 = .ok (.iconst 0, 1) := by decide +kernel
theorem dX4_init_71 : decode cX4_init 71 = .ok (.putfield 36, 3) := by decide +kernel
theorem dX4_init_74 : decode cX4_init 74 = .ok (.return_, 1) := by decide +kernel
theorem dX4_add_0 : decode cX4_add 0 = .ok (.aload_n 0, 1) := by decide +kernel
theorem dX4_add_1 : decode cX4_add 1 = .ok (.dup, 1) := by decide +kernel
theorem dX4_add_2 : decode cX4_add 2 = .ok (.getfield 36, 3) := by decide +kernel
theorem dX4_add_5 : decode cX4_add 5 = .ok (.dup_x1, 1) := by decide +kernel
theorem dX4_add_6 : decode cX4_add 6 = .ok (.iconst 1, 1) := by decide +kernel
theorem dX4_add_7 : decode cX4_add 7 = .ok (.iadd, 1) := by decide +kernel
theorem dX4_add_8 : decode cX4_add 8 = .ok (.putfield 36, 3) := by decide +kernel
theorem dX4_add_11 : decode cX4_add 11 = .ok (.istore_n 3, 1) := by decide +kernel
theorem dX4_add_12 : decode cX4_add 12 = .ok (.aload_n 0, 1) := by decide +kernel
theorem dX4_add_13 : decode cX4_add 13 = .ok (.getfield 9, 3) := by decide +kernel
theorem dX4_add_16 : decode cX4_add 16 = .ok (.iload_n 3, 1) := by decide +kernel
theorem dX4_add_17 : decode cX4_add 17 = .ok (.iload_n 1, 1) := by decide +kernel
theorem dX4_add_18 : decode cX4_add 18 = .ok (.iastore, 1) := by decide +kernel
theorem dX4_add_19 : decode cX4_add 19 = .ok (.aload_n 0, 1) := by decide +kernel
theorem dX4_add_20 : decode cX4_add 20 = .ok (.getfield 15, 3) := by decide +kernel
theorem dX4_add_23 : decode cX4_add 23 = .ok (.iload_n 3, 1) := by decide +kernel
theorem dX4_add_24 : decode cX4_add 24 = .ok (.iload_n 2, 1) := by decide +kernel
theorem dX4_add_25 : decode cX4_add 25 = .ok (.iastore, 1) := by decide +kernel
theorem dX4_add_26 : decode cX4_add 26 = .ok (.aload_n 0, 1) := by decide +kernel
theorem dX4_add_27 : decode cX4_add 27 = .ok (.getfield 18, 3) := by decide +kernel
theorem dX4_add_30 : decode cX4_add 30 = .ok (.iload_n 3, 1) := by decide +kernel
theorem dX4_add_31 : decode cX4_add 31 = .ok (.iconst 0, 1) := by decide +kernel
theorem dX4_add_32 : decode cX4_add 32 = .ok (.iastore, 1) := by decide +kernel
theorem dX4_add_33 : decode cX4_add 33 = .ok (.aload_n 0, 1) := by decide +kernel
theorem dX4_add_34 : decode cX4_add 34 = .ok (.getfield 21, 3) := by decide +kernel
theorem dX4_add_37 : decode cX4_add 37 = .ok (.iload_n 3, 1) := by decide +kernel
theorem dX4_add_38 : decode cX4_add 38 = .ok (.iconst (-1), 1) := by decide +kernel
theorem dX4_add_39 : decode cX4_add 39 = .ok (.iastore, 1) := by decide +kernel
theorem dX4_add_40 : decode cX4_add 40 = .ok (.aload_n 0, 1) := by decide +kernel
theorem dX4_add_41 : decode cX4_add 41 = .ok (.getfield 30, 3) := by decide +kernel
theorem dX4_add_44 : decode cX4_add 44 = .ok (.iload_n 3, 1) := by decide +kernel
theorem dX4_add_45 : decode cX4_add 45 = .ok (.iconst 0, 1) := by decide +kernel
theorem dX4_add_46 : decode cX4_add 46 = .ok (.iastore, 1) := by decide +kernel
theorem dX4_add_47 : decode cX4_add 47 = .ok (.iconst 0, 1) := by decide +kernel
theorem dX4_add_48 : decode cX4_add 48 = .ok (.istore 4, 2) := by decide +kernel
theorem dX4_add_50 : decode cX4_add 50 = .ok (.iload 4, 2) := by decide +kernel
theorem dX4_add_52 : decode cX4_add 52 = .ok (.iconst 5, 1) := by decide +kernel
theorem dX4_add_53 : decode cX4_add 53 = .ok (.if_icmp .ge 21, 3) := by decide +kernel
theorem dX4_add_56 : decode cX4_add 56 = .ok (.aload_n 0, 1) := by decide +kernel
theorem dX4_add_57 : decode cX4_add 57 = .ok (.getfield 33, 3) := by decide +kernel
theorem dX4_add_60 : decode cX4_add 60 = .ok (.iload_n 3, 1) := by decide +kernel
theorem dX4_add_61 : decode cX4_add 61 = .ok (.iconst 5, 1) := by decide +kernel
theorem dX4_add_62 : decode cX4_add 62 = .ok (.imul, 1) := by decide +kernel
theorem dX4_add_63 : decode cX4_add 63 = .ok (.iload 4, 2) := by decide +kernel
theorem dX4_add_65 : decode cX4_add 65 = .ok (.iadd, 1) := by decide +kernel
theorem dX4_add_66 : decode cX4_add 66 = .ok (.iconst (-1), 1) := by decide +kernel
theorem dX4_add_67 : decode cX4_add 67 = .ok (.iastore, 1) := by decide +kernel
theorem dX4_add_68 : decode cX4_add 68 = .ok (.iinc 4 1, 3) := by decide +kernel
theorem dX4_add_71 : decode cX4_add 71 = .ok (.goto (-21), 3) := by decide +kernel
theorem dX4_add_74 : decode cX4_add 74 = .ok (.iload_n 3, 1) := by decide +kernel
theorem dX4_add_75 : decode cX4_add 75 = .ok (.ireturn, 1) := by decide +kernel
theorem dX4_isDone_0 : decode cX4_isDone 0 = .ok (.aload_n 0, 1) := by decide +kernel
theorem dX4_isDone_1 : decode cX4_isDone 1 = .ok (.iload_n 1, 1) := by decide +kernel
theorem dX4_isDone_2 : decode cX4_isDone 2 = .ok (.invokevirtual 40, 3) := by decide +kernel
theorem dX4_isDone_5 : decode cX4_isDone 5 = .ok (.ifCond .eq 17, 3) := by decide +kernel
theorem dX4_isDone_8 : decode cX4_isDone 8 = .ok (.aload_n 0, 1) := by decide +kernel
theorem dX4_isDone_9 : decode cX4_isDone 9 = .ok (.getfield 21, 3) := by decide +kernel
theorem dX4_isDone_12 : decode cX4_isDone 12 = .ok (.iload_n 1, 1) := by decide +kernel
theorem dX4_isDone_13 : decode cX4_isDone 13 = .ok (.iaload, 1) := by decide +kernel
theorem dX4_isDone_14 : decode cX4_isDone 14 = .ok (.iconst (-1), 1) := by decide +kernel
theorem dX4_isDone_15 : decode cX4_isDone 15 = .ok (.if_icmp .eq 7, 3) := by decide +kernel
theorem dX4_isDone_18 : decode cX4_isDone 18 = .ok (.iconst 1, 1) := by decide +kernel
theorem dX4_isDone_19 : decode cX4_isDone 19 = .ok (.goto 4, 3) := by decide +kernel
theorem dX4_isDone_22 : decode cX4_isDone 22 = .ok (.iconst 0, 1) := by decide +kernel
theorem dX4_isDone_23 : decode cX4_isDone 23 = .ok (.ireturn, 1) := by decide +kernel
theorem dX4_has_0 : decode cX4_has 0 = .ok (.iload_n 1, 1) := by decide +kernel
theorem dX4_has_1 : decode cX4_has 1 = .ok (.ifCond .lt 15, 3) := by decide +kernel
theorem dX4_has_4 : decode cX4_has 4 = .ok (.iload_n 1, 1) := by decide +kernel
theorem dX4_has_5 : decode cX4_has 5 = .ok (.aload_n 0, 1) := by decide +kernel
theorem dX4_has_6 : decode cX4_has 6 = .ok (.getfield 36, 3) := by decide +kernel
theorem dX4_has_9 : decode cX4_has 9 = .ok (.if_icmp .ge 7, 3) := by decide +kernel
theorem dX4_has_12 : decode cX4_has 12 = .ok (.iconst 1, 1) := by decide +kernel
theorem dX4_has_13 : decode cX4_has 13 = .ok (.goto 4, 3) := by decide +kernel
theorem dX4_has_16 : decode cX4_has 16 = .ok (.iconst 0, 1) := by decide +kernel
theorem dX4_has_17 : decode cX4_has 17 = .ok (.ireturn, 1) := by decide +kernel
theorem dX4_hear_0 : decode cX4_hear 0 = .ok (.aload_n 0, 1) := by decide +kernel
theorem dX4_hear_1 : decode cX4_hear 1 = .ok (.iload_n 1, 1) := by decide +kernel
theorem dX4_hear_2 : decode cX4_hear 2 = .ok (.invokevirtual 40, 3) := by decide +kernel
theorem dX4_hear_5 : decode cX4_hear 5 = .ok (.ifCond .eq 13, 3) := by decide +kernel
theorem dX4_hear_8 : decode cX4_hear 8 = .ok (.aload_n 0, 1) := by decide +kernel
theorem dX4_hear_9 : decode cX4_hear 9 = .ok (.getfield 21, 3) := by decide +kernel
theorem dX4_hear_12 : decode cX4_hear 12 = .ok (.iload_n 1, 1) := by decide +kernel
theorem dX4_hear_13 : decode cX4_hear 13 = .ok (.iaload, 1) := by decide +kernel
theorem dX4_hear_14 : decode cX4_hear 14 = .ok (.iconst (-1), 1) := by decide +kernel
theorem dX4_hear_15 : decode cX4_hear 15 = .ok (.if_icmp .eq 5, 3) := by decide +kernel
theorem dX4_hear_18 : decode cX4_hear 18 = .ok (.iconst 0, 1) := by decide +kernel
theorem dX4_hear_19 : decode cX4_hear 19 = .ok (.ireturn, 1) := by decide +kernel
theorem dX4_hear_20 : decode cX4_hear 20 = .ok (.aload_n 0, 1) := by decide +kernel
theorem dX4_hear_21 : decode cX4_hear 21 = .ok (.getfield 33, 3) := by decide +kernel
theorem dX4_hear_24 : decode cX4_hear 24 = .ok (.iload_n 1, 1) := by decide +kernel
theorem dX4_hear_25 : decode cX4_hear 25 = .ok (.iconst 5, 1) := by decide +kernel
theorem dX4_hear_26 : decode cX4_hear 26 = .ok (.imul, 1) := by decide +kernel
theorem dX4_hear_27 : decode cX4_hear 27 = .ok (.iload_n 2, 1) := by decide +kernel
theorem dX4_hear_28 : decode cX4_hear 28 = .ok (.iadd, 1) := by decide +kernel
theorem dX4_hear_29 : decode cX4_hear 29 = .ok (.iload_n 3, 1) := by decide +kernel
theorem dX4_hear_30 : decode cX4_hear 30 = .ok (.iastore, 1) := by decide +kernel
theorem dX4_hear_31 : decode cX4_hear 31 = .ok (.aload_n 0, 1) := by decide +kernel
theorem dX4_hear_32 : decode cX4_hear 32 = .ok (.getfield 18, 3) := by decide +kernel
theorem dX4_hear_35 : decode cX4_hear 35 = .ok (.iload_n 1, 1) := by decide +kernel
theorem dX4_hear_36 : decode cX4_hear 36 = .ok (.aload_n 0, 1) := by decide +kernel
theorem dX4_hear_37 : decode cX4_hear 37 = .ok (.getfield 18, 3) := by decide +kernel
theorem dX4_hear_40 : decode cX4_hear 40 = .ok (.iload_n 1, 1) := by decide +kernel
theorem dX4_hear_41 : decode cX4_hear 41 = .ok (.iaload, 1) := by decide +kernel
theorem dX4_hear_42 : decode cX4_hear 42 = .ok (.iload_n 3, 1) := by decide +kernel
theorem dX4_hear_43 : decode cX4_hear 43 = .ok (.invokestatic 44, 3) := by decide +kernel
theorem dX4_hear_46 : decode cX4_hear 46 = .ok (.iastore, 1) := by decide +kernel
theorem dX4_hear_47 : decode cX4_hear 47 = .ok (.aload_n 0, 1) := by decide +kernel
theorem dX4_hear_48 : decode cX4_hear 48 = .ok (.getfield 30, 3) := by decide +kernel
theorem dX4_hear_51 : decode cX4_hear 51 = .ok (.iload_n 1, 1) := by decide +kernel
theorem dX4_hear_52 : decode cX4_hear 52 = .ok (.dup2, 1) := by decide +kernel
theorem dX4_hear_53 : decode cX4_hear 53 = .ok (.iaload, 1) := by decide +kernel
theorem dX4_hear_54 : decode cX4_hear 54 = .ok (.iconst 1, 1) := by decide +kernel
theorem dX4_hear_55 : decode cX4_hear 55 = .ok (.iadd, 1) := by decide +kernel
theorem dX4_hear_56 : decode cX4_hear 56 = .ok (.iastore, 1) := by decide +kernel
theorem dX4_hear_57 : decode cX4_hear 57 = .ok (.aload_n 0, 1) := by decide +kernel
theorem dX4_hear_58 : decode cX4_hear 58 = .ok (.getfield 30, 3) := by decide +kernel
theorem dX4_hear_61 : decode cX4_hear 61 = .ok (.iload_n 1, 1) := by decide +kernel
theorem dX4_hear_62 : decode cX4_hear 62 = .ok (.iaload, 1) := by decide +kernel
theorem dX4_hear_63 : decode cX4_hear 63 = .ok (.iload 4, 2) := by decide +kernel
theorem dX4_hear_65 : decode cX4_hear 65 = .ok (.if_icmp .ne 7, 3) := by decide +kernel
theorem dX4_hear_68 : decode cX4_hear 68 = .ok (.iconst 1, 1) := by decide +kernel
theorem dX4_hear_69 : decode cX4_hear 69 = .ok (.goto 4, 3) := by decide +kernel
theorem dX4_hear_72 : decode cX4_hear 72 = .ok (.iconst 0, 1) := by decide +kernel
theorem dX4_hear_73 : decode cX4_hear 73 = .ok (.ireturn, 1) := by decide +kernel
theorem dX4_answeredLesser_0 : decode cX4_answeredLesser 0 = .ok (.aload_n 0, 1) := by decide +kernel
theorem dX4_answeredLesser_1 : decode cX4_answeredLesser 1 = .ok (.getfield 33, 3) := by decide +kernel
theorem dX4_answeredLesser_4 : decode cX4_answeredLesser 4 = .ok (.iload_n 1, 1) := by decide +kernel
theorem dX4_answeredLesser_5 : decode cX4_answeredLesser 5 = .ok (.iconst 5, 1) := by decide +kernel
theorem dX4_answeredLesser_6 : decode cX4_answeredLesser 6 = .ok (.imul, 1) := by decide +kernel
theorem dX4_answeredLesser_7 : decode cX4_answeredLesser 7 = .ok (.iload_n 2, 1) := by decide +kernel
theorem dX4_answeredLesser_8 : decode cX4_answeredLesser 8 = .ok (.iadd, 1) := by decide +kernel
theorem dX4_answeredLesser_9 : decode cX4_answeredLesser 9 = .ok (.iaload, 1) := by decide +kernel
theorem dX4_answeredLesser_10 : decode cX4_answeredLesser 10 = .ok (.istore_n 3, 1) := by decide +kernel
theorem dX4_answeredLesser_11 : decode cX4_answeredLesser 11 = .ok (.iload_n 3, 1) := by decide +kernel
theorem dX4_answeredLesser_12 : decode cX4_answeredLesser 12 = .ok (.iconst (-1), 1) := by decide +kernel
theorem dX4_answeredLesser_13 : decode cX4_answeredLesser 13 = .ok (.if_icmp .eq 17, 3) := by decide +kernel
theorem dX4_answeredLesser_16 : decode cX4_answeredLesser 16 = .ok (.iload_n 3, 1) := by decide +kernel
theorem dX4_answeredLesser_17 : decode cX4_answeredLesser 17 = .ok (.aload_n 0, 1) := by decide +kernel
theorem dX4_answeredLesser_18 : decode cX4_answeredLesser 18 = .ok (.getfield 18, 3) := by decide +kernel
theorem dX4_answeredLesser_21 : decode cX4_answeredLesser 21 = .ok (.iload_n 1, 1) := by decide +kernel
theorem dX4_answeredLesser_22 : decode cX4_answeredLesser 22 = .ok (.iaload, 1) := by decide +kernel
theorem dX4_answeredLesser_23 : decode cX4_answeredLesser 23 = .ok (.if_icmp .ge 7, 3) := by decide +kernel
theorem dX4_answeredLesser_26 : decode cX4_answeredLesser 26 = .ok (.iconst 1, 1) := by decide +kernel
theorem dX4_answeredLesser_27 : decode cX4_answeredLesser 27 = .ok (.goto 4, 3) := by decide +kernel
theorem dX4_answeredLesser_30 : decode cX4_answeredLesser 30 = .ok (.iconst 0, 1) := by decide +kernel
theorem dX4_answeredLesser_31 : decode cX4_answeredLesser 31 = .ok (.ireturn, 1) := by decide +kernel
theorem dX5_init_0 : decode cX5_init 0 = .ok (.aload_n 0, 1) := by decide +kernel
theorem dX5_init_1 : decode cX5_init 1 = .ok (.invokespecial 3, 3) := by decide +kernel
theorem dX5_init_4 : decode cX5_init 4 = .ok (.aload_n 0, 1) := by decide +kernel
theorem dX5_init_5 : decode cX5_init 5 = .ok (.new 9, 3) := by decide +kernel
theorem dX5_init_8 : decode cX5_init 8 = .ok (.dup, 1) := by decide +kernel
theorem dX5_init_9 : decode cX5_init 9 = .ok (.invokespecial 11, 3) := by decide +kernel
theorem dX5_init_12 : decode cX5_init 12 = .ok (.putfield 12, 3) := by decide +kernel
theorem dX5_init_15 : decode cX5_init 15 = .ok (.aload_n 0, 1) := by decide +kernel
theorem dX5_init_16 : decode cX5_init 16 = .ok (.new 18, 3) := by decide +kernel
theorem dX5_init_19 : decode cX5_init 19 = .ok (.dup, 1) := by decide +kernel
theorem dX5_init_20 : decode cX5_init 20 = .ok (.invokespecial 20, 3) := by decide +kernel
theorem dX5_init_23 : decode cX5_init 23 = .ok (.putfield 21, 3) := by decide +kernel
theorem dX5_init_26 : decode cX5_init 26 = .ok (.aload_n 0, 1) := by decide +kernel
theorem dX5_init_27 : decode cX5_init 27 = .ok (.new 25, 3) := by decide +kernel
theorem dX5_init_30 : decode cX5_init 30 = .ok (.dup, 1) := by decide +kernel
theorem dX5_init_31 : decode cX5_init 31 = .ok (.invokespecial 27, 3) := by decide +kernel
theorem dX5_init_34 : decode cX5_init 34 = .ok (.putfield 28, 3) := by decide +kernel
theorem dX5_init_37 : decode cX5_init 37 = .ok (.aload_n 0, 1) := by decide +kernel
theorem dX5_init_38 : decode cX5_init 38 = .ok (.new 32, 3) := by decide +kernel
theorem dX5_init_41 : decode cX5_init 41 = .ok (.dup, 1) := by decide +kernel
theorem dX5_init_42 : decode cX5_init 42 = .ok (.invokespecial 34, 3) := by decide +kernel
theorem dX5_init_45 : decode cX5_init 45 = .ok (.putfield 35, 3) := by decide +kernel
theorem dX5_init_48 : decode cX5_init 48 = .ok (.aload_n 0, 1) := by decide +kernel
theorem dX5_init_49 : decode cX5_init 49 = .ok (.iconst 4, 1) := by decide +kernel
theorem dX5_init_50 : decode cX5_init 50 = .ok (.newarray .boolean, 2) := by decide +kernel
theorem dX5_init_52 : decode cX5_init 52 = .ok (.putfield 39, 3) := by decide +kernel
theorem dX5_init_55 : decode cX5_init 55 = .ok (.aload_n 0, 1) := by decide +kernel
theorem dX5_init_56 : decode cX5_init 56 = .ok (.iconst 4, 1) := by decide +kernel
theorem dX5_init_57 : decode cX5_init 57 = .ok (.newarray .int, 2) := by decide +kernel
theorem dX5_init_59 : decode cX5_init 59 = .ok (.putfield 43, 3) := by decide +kernel
theorem dX5_init_62 : decode cX5_init 62 = .ok (.aload_n 0, 1) := by decide +kernel
theorem dX5_init_63 : decode cX5_init 63 = .ok (.iconst 0, 1) := by decide +kernel
theorem dX5_init_64 : decode cX5_init 64 = .ok (.putfield 47, 3) := by decide +kernel
theorem dX5_init_67 : decode cX5_init 67 = .ok (.aload_n 0, 1) := by decide +kernel
theorem dX5_init_68 : decode cX5_init 68 = .ok (.iconst 0, 1) := by decide +kernel
theorem dX5_init_69 : decode cX5_init 69 = .ok (.putfield 51, 3) := by decide +kernel
theorem dX5_init_72 : decode cX5_init 72 = .ok (.aload_n 0, 1) := by decide +kernel
theorem dX5_init_73 : decode cX5_init 73 = .ok (.iconst 0, 1) := by decide +kernel
theorem dX5_init_74 : decode cX5_init 74 = .ok (.putfield 54, 3) := by decide +kernel
theorem dX5_init_77 : decode cX5_init 77 = .ok (.aload_n 0, 1) := by decide +kernel
theorem dX5_init_78 : decode cX5_init 78 = .ok (.iconst 0, 1) := by decide +kernel
theorem dX5_init_79 : decode cX5_init 79 = .ok (.putfield 57, 3) := by decide +kernel
theorem dX5_init_82 : decode cX5_init 82 = .ok (.aload_n 0, 1) := by decide +kernel
theorem dX5_init_83 : decode cX5_init 83 = .ok (.iconst 0, 1) := by decide +kernel
theorem dX5_init_84 : decode cX5_init 84 = .ok (.putfield 61, 3) := by decide +kernel
theorem dX5_init_87 : decode cX5_init 87 = .ok (.aload_n 0, 1) := by decide +kernel
theorem dX5_init_88 : decode cX5_init 88 = .ok (.iconst 0, 1) := by decide +kernel
theorem dX5_init_89 : decode cX5_init 89 = .ok (.putfield 64, 3) := by decide +kernel
theorem dX5_init_92 : decode cX5_init 92 = .ok (.return_, 1) := by decide +kernel
theorem dX5_renew_0 : decode cX5_renew 0 = .ok (.aload_n 0, 1) := by decide +kernel
theorem dX5_renew_1 : decode cX5_renew 1 = .ok (.getfield 12, 3) := by decide +kernel
theorem dX5_renew_4 : decode cX5_renew 4 = .ok (.iload_n 1, 1) := by decide +kernel
theorem dX5_renew_5 : decode cX5_renew 5 = .ok (.invokevirtual 67, 3) := by decide +kernel
theorem dX5_renew_8 : decode cX5_renew 8 = .ok (.aload_n 0, 1) := by decide +kernel
theorem dX5_renew_9 : decode cX5_renew 9 = .ok (.getfield 21, 3) := by decide +kernel
theorem dX5_renew_12 : decode cX5_renew 12 = .ok (.invokevirtual 71, 3) := by decide +kernel
theorem dX5_renew_15 : decode cX5_renew 15 = .ok (.aload_n 0, 1) := by decide +kernel
theorem dX5_renew_16 : decode cX5_renew 16 = .ok (.getfield 28, 3) := by decide +kernel
theorem dX5_renew_19 : decode cX5_renew 19 = .ok (.iconst 0, 1) := by decide +kernel
theorem dX5_renew_20 : decode cX5_renew 20 = .ok (.putfield 73, 3) := by decide +kernel
theorem dX5_renew_23 : decode cX5_renew 23 = .ok (.aload_n 0, 1) := by decide +kernel
theorem dX5_renew_24 : decode cX5_renew 24 = .ok (.getfield 35, 3) := by decide +kernel
theorem dX5_renew_27 : decode cX5_renew 27 = .ok (.iconst 0, 1) := by decide +kernel
theorem dX5_renew_28 : decode cX5_renew 28 = .ok (.putfield 76, 3) := by decide +kernel
theorem dX5_renew_31 : decode cX5_renew 31 = .ok (.iconst 0, 1) := by decide +kernel
theorem dX5_renew_32 : decode cX5_renew 32 = .ok (.istore 4, 2) := by decide +kernel
theorem dX5_renew_34 : decode cX5_renew 34 = .ok (.iload 4, 2) := by decide +kernel
theorem dX5_renew_36 : decode cX5_renew 36 = .ok (.iconst 4, 1) := by decide +kernel
theorem dX5_renew_37 : decode cX5_renew 37 = .ok (.if_icmp .ge 25, 3) := by decide +kernel
theorem dX5_renew_40 : decode cX5_renew 40 = .ok (.aload_n 0, 1) := by decide +kernel
theorem dX5_renew_41 : decode cX5_renew 41 = .ok (.getfield 39, 3) := by decide +kernel
theorem dX5_renew_44 : decode cX5_renew 44 = .ok (.iload 4, 2) := by decide +kernel
theorem dX5_renew_46 : decode cX5_renew 46 = .ok (.iconst 0, 1) := by decide +kernel
theorem dX5_renew_47 : decode cX5_renew 47 = .ok (.bastore, 1) := by decide +kernel
theorem dX5_renew_48 : decode cX5_renew 48 = .ok (.aload_n 0, 1) := by decide +kernel
theorem dX5_renew_49 : decode cX5_renew 49 = .ok (.getfield 43, 3) := by decide +kernel
theorem dX5_renew_52 : decode cX5_renew 52 = .ok (.iload 4, 2) := by decide +kernel
theorem dX5_renew_54 : decode cX5_renew 54 = .ok (.iconst 0, 1) := by decide +kernel
theorem dX5_renew_55 : decode cX5_renew 55 = .ok (.iastore, 1) := by decide +kernel
theorem dX5_renew_56 : decode cX5_renew 56 = .ok (.iinc 4 1, 3) := by decide +kernel
theorem dX5_renew_59 : decode cX5_renew 59 = .ok (.goto (-25), 3) := by decide +kernel
theorem dX5_renew_62 : decode cX5_renew 62 = .ok (.aload_n 0, 1) := by decide +kernel
theorem dX5_renew_63 : decode cX5_renew 63 = .ok (.iload_n 2, 1) := by decide +kernel
theorem dX5_renew_64 : decode cX5_renew 64 = .ok (.putfield 47, 3) := by decide +kernel
theorem dX5_renew_67 : decode cX5_renew 67 = .ok (.aload_n 0, 1) := by decide +kernel
theorem dX5_renew_68 : decode cX5_renew 68 = .ok (.iload_n 3, 1) := by decide +kernel
theorem dX5_renew_69 : decode cX5_renew 69 = .ok (.putfield 51, 3) := by decide +kernel
theorem dX5_renew_72 : decode cX5_renew 72 = .ok (.aload_n 0, 1) := by decide +kernel
theorem dX5_renew_73 : decode cX5_renew 73 = .ok (.iconst 0, 1) := by decide +kernel
theorem dX5_renew_74 : decode cX5_renew 74 = .ok (.putfield 54, 3) := by decide +kernel
theorem dX5_renew_77 : decode cX5_renew 77 = .ok (.aload_n 0, 1) := by decide +kernel
theorem dX5_renew_78 : decode cX5_renew 78 = .ok (.iconst 0, 1) := by decide +kernel
theorem dX5_renew_79 : decode cX5_renew 79 = .ok (.putfield 57, 3) := by decide +kernel
theorem dX5_renew_82 : decode cX5_renew 82 = .ok (.aload_n 0, 1) := by decide +kernel
theorem dX5_renew_83 : decode cX5_renew 83 = .ok (.iconst 0, 1) := by decide +kernel
theorem dX5_renew_84 : decode cX5_renew 84 = .ok (.putfield 61, 3) := by decide +kernel
theorem dX5_renew_87 : decode cX5_renew 87 = .ok (.aload_n 0, 1) := by decide +kernel
theorem dX5_renew_88 : decode cX5_renew 88 = .ok (.iconst 0, 1) := by decide +kernel
theorem dX5_renew_89 : decode cX5_renew 89 = .ok (.putfield 64, 3) := by decide +kernel
theorem dX5_renew_92 : decode cX5_renew 92 = .ok (.return_, 1) := by decide +kernel
theorem dX5_sendAll_0 : decode cX5_sendAll 0 = .ok (.iconst 0, 1) := by decide +kernel
theorem dX5_sendAll_1 : decode cX5_sendAll 1 = .ok (.istore 5, 2) := by decide +kernel
theorem dX5_sendAll_3 : decode cX5_sendAll 3 = .ok (.iload 5, 2) := by decide +kernel
theorem dX5_sendAll_5 : decode cX5_sendAll 5 = .ok (.aload_n 0, 1) := by decide +kernel
theorem dX5_sendAll_6 : decode cX5_sendAll 6 = .ok (.getfield 12, 3) := by decide +kernel
theorem dX5_sendAll_9 : decode cX5_sendAll 9 = .ok (.getfield 77, 3) := by decide +kernel
theorem dX5_sendAll_12 : decode cX5_sendAll 12 = .ok (.if_icmp .ge 59, 3) := by decide +kernel
theorem dX5_sendAll_15 : decode cX5_sendAll 15 = .ok (.aload_n 3, 1) := by decide +kernel
theorem dX5_sendAll_16 : decode cX5_sendAll 16 = .ok (.iload 4, 2) := by decide +kernel
theorem dX5_sendAll_18 : decode cX5_sendAll 18 = .ok (.iload 5, 2) := by decide +kernel
theorem dX5_sendAll_20 : decode cX5_sendAll 20 = .ok (.invokevirtual 78, 3) := by decide +kernel
theorem dX5_sendAll_23 : decode cX5_sendAll 23 = .ok (.l2i, 1) := by decide +kernel
theorem dX5_sendAll_24 : decode cX5_sendAll 24 = .ok (.istore 6, 2) := by decide +kernel
theorem dX5_sendAll_26 : decode cX5_sendAll 26 = .ok (.aload_n 3, 1) := by decide +kernel
theorem dX5_sendAll_27 : decode cX5_sendAll 27 = .ok (.iload 4, 2) := by decide +kernel
theorem dX5_sendAll_29 : decode cX5_sendAll 29 = .ok (.aload_n 0, 1) := by decide +kernel
theorem dX5_sendAll_30 : decode cX5_sendAll 30 = .ok (.getfield 12, 3) := by decide +kernel
theorem dX5_sendAll_33 : decode cX5_sendAll 33 = .ok (.getfield 77, 3) := by decide +kernel
theorem dX5_sendAll_36 : decode cX5_sendAll 36 = .ok (.iload 5, 2) := by decide +kernel
theorem dX5_sendAll_38 : decode cX5_sendAll 38 = .ok (.iadd, 1) := by decide +kernel
theorem dX5_sendAll_39 : decode cX5_sendAll 39 = .ok (.invokevirtual 78, 3) := by decide +kernel
theorem dX5_sendAll_42 : decode cX5_sendAll 42 = .ok (.l2i, 1) := by decide +kernel
theorem dX5_sendAll_43 : decode cX5_sendAll 43 = .ok (.istore 7, 2) := by decide +kernel
theorem dX5_sendAll_45 : decode cX5_sendAll 45 = .ok (.aload_n 0, 1) := by decide +kernel
theorem dX5_sendAll_46 : decode cX5_sendAll 46 = .ok (.getfield 21, 3) := by decide +kernel
theorem dX5_sendAll_49 : decode cX5_sendAll 49 = .ok (.aload_n 0, 1) := by decide +kernel
theorem dX5_sendAll_50 : decode cX5_sendAll 50 = .ok (.getfield 54, 3) := by decide +kernel
theorem dX5_sendAll_53 : decode cX5_sendAll 53 = .ok (.iload 6, 2) := by decide +kernel
theorem dX5_sendAll_55 : decode cX5_sendAll 55 = .ok (.iadd, 1) := by decide +kernel
theorem dX5_sendAll_56 : decode cX5_sendAll 56 = .ok (.iload_n 1, 1) := by decide +kernel
theorem dX5_sendAll_57 : decode cX5_sendAll 57 = .ok (.iload_n 2, 1) := by decide +kernel
theorem dX5_sendAll_58 : decode cX5_sendAll 58 = .ok (.iload 5, 2) := by decide +kernel
theorem dX5_sendAll_60 : decode cX5_sendAll 60 = .ok (.iload 7, 2) := by decide +kernel
theorem dX5_sendAll_62 : decode cX5_sendAll 62 = .ok (.invokevirtual 84, 3) := by decide +kernel
theorem dX5_sendAll_65 : decode cX5_sendAll 65 = .ok (.iinc 5 1, 3) := by decide +kernel
theorem dX5_sendAll_68 : decode cX5_sendAll 68 = .ok (.goto (-65), 3) := by decide +kernel
theorem dX5_sendAll_71 : decode cX5_sendAll 71 = .ok (.return_, 1) := by decide +kernel
theorem dX5_workOff_0 : decode cX5_workOff 0 = .ok (.aload_n 0, 1) := by decide +kernel
theorem dX5_workOff_1 : decode cX5_workOff 1 = .ok (.getfield 21, 3) := by decide +kernel
theorem dX5_workOff_4 : decode cX5_workOff 4 = .ok (.iload_n 1, 1) := by decide +kernel
theorem dX5_workOff_5 : decode cX5_workOff 5 = .ok (.invokevirtual 88, 3) := by decide +kernel
theorem dX5_workOff_8 : decode cX5_workOff 8 = .ok (.istore_n 2, 1) := by decide +kernel
theorem dX5_workOff_9 : decode cX5_workOff 9 = .ok (.iconst 0, 1) := by decide +kernel
theorem dX5_workOff_10 : decode cX5_workOff 10 = .ok (.istore_n 3, 1) := by decide +kernel
theorem dX5_workOff_11 : decode cX5_workOff 11 = .ok (.iload_n 3, 1) := by decide +kernel
theorem dX5_workOff_12 : decode cX5_workOff 12 = .ok (.sipush 1000, 3) := by decide +kernel
theorem dX5_workOff_15 : decode cX5_workOff 15 = .ok (.if_icmp .ge 40, 3) := by decide +kernel
theorem dX5_workOff_18 : decode cX5_workOff 18 = .ok (.iload_n 2, 1) := by decide +kernel
theorem dX5_workOff_19 : decode cX5_workOff 19 = .ok (.iconst (-1), 1) := by decide +kernel
theorem dX5_workOff_20 : decode cX5_workOff 20 = .ok (.if_icmp .eq 35, 3) := by decide +kernel
theorem dX5_workOff_23 : decode cX5_workOff 23 = .ok (.aload_n 0, 1) := by decide +kernel
theorem dX5_workOff_24 : decode cX5_workOff 24 = .ok (.aload_n 0, 1) := by decide +kernel
theorem dX5_workOff_25 : decode cX5_workOff 25 = .ok (.getfield 21, 3) := by decide +kernel
theorem dX5_workOff_28 : decode cX5_workOff 28 = .ok (.iload_n 2, 1) := by decide +kernel
theorem dX5_workOff_29 : decode cX5_workOff 29 = .ok (.invokevirtual 92, 3) := by decide +kernel
theorem dX5_workOff_32 : decode cX5_workOff 32 = .ok (.putfield 54, 3) := by decide +kernel
theorem dX5_workOff_35 : decode cX5_workOff 35 = .ok (.aload_n 0, 1) := by decide +kernel
theorem dX5_workOff_36 : decode cX5_workOff 36 = .ok (.iload_n 2, 1) := by decide +kernel
theorem dX5_workOff_37 : decode cX5_workOff 37 = .ok (.invokevirtual 95, 3) := by decide +kernel
theorem dX5_workOff_40 : decode cX5_workOff 40 = .ok (.aload_n 0, 1) := by decide +kernel
theorem dX5_workOff_41 : decode cX5_workOff 41 = .ok (.getfield 21, 3) := by decide +kernel
theorem dX5_workOff_44 : decode cX5_workOff 44 = .ok (.iload_n 1, 1) := by decide +kernel
theorem dX5_workOff_45 : decode cX5_workOff 45 = .ok (.invokevirtual 88, 3) := by decide +kernel
theorem dX5_workOff_48 : decode cX5_workOff 48 = .ok (.istore_n 2, 1) := by decide +kernel
theorem dX5_workOff_49 : decode cX5_workOff 49 = .ok (.iinc 3 1, 3) := by decide +kernel
theorem dX5_workOff_52 : decode cX5_workOff 52 = .ok (.goto (-41), 3) := by decide +kernel
theorem dX5_workOff_55 : decode cX5_workOff 55 = .ok (.aload_n 0, 1) := by decide +kernel
theorem dX5_workOff_56 : decode cX5_workOff 56 = .ok (.iload_n 1, 1) := by decide +kernel
theorem dX5_workOff_57 : decode cX5_workOff 57 = .ok (.putfield 54, 3) := by decide +kernel
theorem dX5_workOff_60 : decode cX5_workOff 60 = .ok (.return_, 1) := by decide +kernel
theorem dX5_come_0 : decode cX5_come 0 = .ok (.aload_n 0, 1) := by decide +kernel
theorem dX5_come_1 : decode cX5_come 1 = .ok (.getfield 21, 3) := by decide +kernel
theorem dX5_come_4 : decode cX5_come 4 = .ok (.getfield 98, 3) := by decide +kernel
theorem dX5_come_7 : decode cX5_come 7 = .ok (.iload_n 1, 1) := by decide +kernel
theorem dX5_come_8 : decode cX5_come 8 = .ok (.iaload, 1) := by decide +kernel
theorem dX5_come_9 : decode cX5_come 9 = .ok (.istore_n 2, 1) := by decide +kernel
theorem dX5_come_10 : decode cX5_come 10 = .ok (.aload_n 0, 1) := by decide +kernel
theorem dX5_come_11 : decode cX5_come 11 = .ok (.getfield 21, 3) := by decide +kernel
theorem dX5_come_14 : decode cX5_come 14 = .ok (.getfield 101, 3) := by decide +kernel
theorem dX5_come_17 : decode cX5_come 17 = .ok (.iload_n 1, 1) := by decide +kernel
theorem dX5_come_18 : decode cX5_come 18 = .ok (.iaload, 1) := by decide +kernel
theorem dX5_come_19 : decode cX5_come 19 = .ok (.istore_n 3, 1) := by decide +kernel
theorem dX5_come_20 : decode cX5_come 20 = .ok (.aload_n 0, 1) := by decide +kernel
theorem dX5_come_21 : decode cX5_come 21 = .ok (.getfield 21, 3) := by decide +kernel
theorem dX5_come_24 : decode cX5_come 24 = .ok (.getfield 103, 3) := by decide +kernel
theorem dX5_come_27 : decode cX5_come 27 = .ok (.iload_n 1, 1) := by decide +kernel
theorem dX5_come_28 : decode cX5_come 28 = .ok (.iaload, 1) := by decide +kernel
theorem dX5_come_29 : decode cX5_come 29 = .ok (.istore 4, 2) := by decide +kernel
theorem dX5_come_31 : decode cX5_come 31 = .ok (.aload_n 0, 1) := by decide +kernel
theorem dX5_come_32 : decode cX5_come 32 = .ok (.getfield 12, 3) := by decide +kernel
theorem dX5_come_35 : decode cX5_come 35 = .ok (.iload_n 3, 1) := by decide +kernel
theorem dX5_come_36 : decode cX5_come 36 = .ok (.invokevirtual 106, 3) := by decide +kernel
theorem dX5_come_39 : decode cX5_come 39 = .ok (.ifCond .ne 4, 3) := by decide +kernel
theorem dX5_come_42 : decode cX5_come 42 = .ok (.return_, 1) := by decide +kernel
theorem dX5_come_43 : decode cX5_come 43 = .ok (.aload_n 0, 1) := by decide +kernel
theorem dX5_come_44 : decode cX5_come 44 = .ok (.getfield 21, 3) := by decide +kernel
theorem dX5_come_47 : decode cX5_come 47 = .ok (.getfield 110, 3) := by decide +kernel
theorem dX5_come_50 : decode cX5_come 50 = .ok (.iload_n 1, 1) := by decide +kernel
theorem dX5_come_51 : decode cX5_come 51 = .ok (.iaload, 1) := by decide +kernel
theorem dX5_come_52 : decode cX5_come 52 = .ok (.tableswitch 163 0 3 #[32, 65, 84, 125], 32) := by decide +kernel
theorem dX5_come_84 : decode cX5_come 84 = .ok (.aload_n 0, 1) := by decide +kernel
theorem dX5_come_85 : decode cX5_come 85 = .ok (.getfield 12, 3) := by decide +kernel
theorem dX5_come_88 : decode cX5_come 88 = .ok (.iload_n 3, 1) := by decide +kernel
theorem dX5_come_89 : decode cX5_come 89 = .ok (.iload_n 2, 1) := by decide +kernel
theorem dX5_come_90 : decode cX5_come 90 = .ok (.invokevirtual 113, 3) := by decide +kernel
theorem dX5_come_93 : decode cX5_come 93 = .ok (.ifCond .eq 132, 3) := by decide +kernel
theorem dX5_come_96 : decode cX5_come 96 = .ok (.aload_n 0, 1) := by decide +kernel
theorem dX5_come_97 : decode cX5_come 97 = .ok (.getfield 21, 3) := by decide +kernel
theorem dX5_come_100 : decode cX5_come 100 = .ok (.aload_n 0, 1) := by decide +kernel
theorem dX5_come_101 : decode cX5_come 101 = .ok (.getfield 54, 3) := by decide +kernel
theorem dX5_come_104 : decode cX5_come 104 = .ok (.iload 4, 2) := by decide +kernel
theorem dX5_come_106 : decode cX5_come 106 = .ok (.iadd, 1) := by decide +kernel
theorem dX5_come_107 : decode cX5_come 107 = .ok (.iconst 1, 1) := by decide +kernel
theorem dX5_come_108 : decode cX5_come 108 = .ok (.iload_n 2, 1) := by decide +kernel
theorem dX5_come_109 : decode cX5_come 109 = .ok (.iload_n 3, 1) := by decide +kernel
theorem dX5_come_110 : decode cX5_come 110 = .ok (.iconst 0, 1) := by decide +kernel
theorem dX5_come_111 : decode cX5_come 111 = .ok (.invokevirtual 84, 3) := by decide +kernel
theorem dX5_come_114 : decode cX5_come 114 = .ok (.goto 111, 3) := by decide +kernel
theorem dX5_come_117 : decode cX5_come 117 = .ok (.aload_n 0, 1) := by decide +kernel
theorem dX5_come_118 : decode cX5_come 118 = .ok (.getfield 28, 3) := by decide +kernel
theorem dX5_come_121 : decode cX5_come 121 = .ok (.iload_n 2, 1) := by decide +kernel
theorem dX5_come_122 : decode cX5_come 122 = .ok (.aload_n 0, 1) := by decide +kernel
theorem dX5_come_123 : decode cX5_come 123 = .ok (.getfield 47, 3) := by decide +kernel
theorem dX5_come_126 : decode cX5_come 126 = .ok (.aload_n 0, 1) := by decide +kernel
theorem dX5_come_127 : decode cX5_come 127 = .ok (.getfield 54, 3) := by decide +kernel
theorem dX5_come_130 : decode cX5_come 130 = .ok (.invokevirtual 117, 3) := by decide +kernel
theorem dX5_come_133 : decode cX5_come 133 = .ok (.goto 92, 3) := by decide +kernel
theorem dX5_come_136 : decode cX5_come 136 = .ok (.aload_n 0, 1) := by decide +kernel
theorem dX5_come_137 : decode cX5_come 137 = .ok (.getfield 12, 3) := by decide +kernel
theorem dX5_come_140 : decode cX5_come 140 = .ok (.getfield 121, 3) := by decide +kernel
theorem dX5_come_143 : decode cX5_come 143 = .ok (.iload_n 3, 1) := by decide +kernel
theorem dX5_come_144 : decode cX5_come 144 = .ok (.baload, 1) := by decide +kernel
theorem dX5_come_145 : decode cX5_come 145 = .ok (.ifCond .eq 80, 3) := by decide +kernel
theorem dX5_come_148 : decode cX5_come 148 = .ok (.aload_n 0, 1) := by decide +kernel
theorem dX5_come_149 : decode cX5_come 149 = .ok (.getfield 21, 3) := by decide +kernel
theorem dX5_come_152 : decode cX5_come 152 = .ok (.aload_n 0, 1) := by decide +kernel
theorem dX5_come_153 : decode cX5_come 153 = .ok (.getfield 54, 3) := by decide +kernel
theorem dX5_come_156 : decode cX5_come 156 = .ok (.iload 4, 2) := by decide +kernel
theorem dX5_come_158 : decode cX5_come 158 = .ok (.iadd, 1) := by decide +kernel
theorem dX5_come_159 : decode cX5_come 159 = .ok (.iconst 3, 1) := by decide +kernel
theorem dX5_come_160 : decode cX5_come 160 = .ok (.iload_n 2, 1) := by decide +kernel
theorem dX5_come_161 : decode cX5_come 161 = .ok (.iload_n 3, 1) := by decide +kernel
theorem dX5_come_162 : decode cX5_come 162 = .ok (.aload_n 0, 1) := by decide +kernel
theorem dX5_come_163 : decode cX5_come 163 = .ok (.getfield 12, 3) := by decide +kernel
theorem dX5_come_166 : decode cX5_come 166 = .ok (.getfield 124, 3) := by decide +kernel
theorem dX5_come_169 : decode cX5_come 169 = .ok (.iload_n 3, 1) := by decide +kernel
theorem dX5_come_170 : decode cX5_come 170 = .ok (.iaload, 1) := by decide +kernel
theorem dX5_come_171 : decode cX5_come 171 = .ok (.invokevirtual 84, 3) := by decide +kernel
theorem dX5_come_174 : decode cX5_come 174 = .ok (.goto 51, 3) := by decide +kernel
theorem dX5_come_177 : decode cX5_come 177 = .ok (.aload_n 0, 1) := by decide +kernel
theorem dX5_come_178 : decode cX5_come 178 = .ok (.getfield 35, 3) := by decide +kernel
theorem dX5_come_181 : decode cX5_come 181 = .ok (.iload_n 2, 1) := by decide +kernel
theorem dX5_come_182 : decode cX5_come 182 = .ok (.iload_n 3, 1) := by decide +kernel
theorem dX5_come_183 : decode cX5_come 183 = .ok (.iload 4, 2) := by decide +kernel
theorem dX5_come_185 : decode cX5_come 185 = .ok (.aload_n 0, 1) := by decide +kernel
theorem dX5_come_186 : decode cX5_come 186 = .ok (.getfield 51, 3) := by decide +kernel
theorem dX5_come_189 : decode cX5_come 189 = .ok (.invokevirtual 127, 3) := by decide +kernel
theorem dX5_come_192 : decode cX5_come 192 = .ok (.ifCond .eq 33, 3) := by decide +kernel
theorem dX5_come_195 : decode cX5_come 195 = .ok (.aload_n 0, 1) := by decide +kernel
theorem dX5_come_196 : decode cX5_come 196 = .ok (.iload_n 2, 1) := by decide +kernel
theorem dX5_come_197 : decode cX5_come 197 = .ok (.invokevirtual 130, 3) := by decide +kernel
theorem dX5_come_200 : decode cX5_come 200 = .ok (.aload_n 0, 1) := by decide +kernel
theorem dX5_come_201 : decode cX5_come 201 = .ok (.getfield 57, 3) := by decide +kernel
theorem dX5_come_204 : decode cX5_come 204 = .ok (.ifCond .eq 21, 3) := by decide +kernel
theorem dX5_come_207 : decode cX5_come 207 = .ok (.aload_n 0, 1) := by decide +kernel
theorem dX5_come_208 : decode cX5_come 208 = .ok (.iload_n 2, 1) := by decide +kernel
theorem dX5_come_209 : decode cX5_come 209 = .ok (.invokevirtual 133, 3) := by decide +kernel
theorem dX5_come_212 : decode cX5_come 212 = .ok (.goto 13, 3) := by decide +kernel
theorem dX5_come_215 : decode cX5_come 215 = .ok (.aload_n 0, 1) := by decide +kernel
theorem dX5_come_216 : decode cX5_come 216 = .ok (.getfield 12, 3) := by decide +kernel
theorem dX5_come_219 : decode cX5_come 219 = .ok (.iload_n 3, 1) := by decide +kernel
theorem dX5_come_220 : decode cX5_come 220 = .ok (.iload_n 2, 1) := by decide +kernel
theorem dX5_come_221 : decode cX5_come 221 = .ok (.invokevirtual 113, 3) := by decide +kernel
theorem dX5_come_224 : decode cX5_come 224 = .ok (.pop, 1) := by decide +kernel
theorem dX5_come_225 : decode cX5_come 225 = .ok (.return_, 1) := by decide +kernel
theorem dX5_finish_0 : decode cX5_finish 0 = .ok (.aload_n 0, 1) := by decide +kernel
theorem dX5_finish_1 : decode cX5_finish 1 = .ok (.getfield 35, 3) := by decide +kernel
theorem dX5_finish_4 : decode cX5_finish 4 = .ok (.getfield 136, 3) := by decide +kernel
theorem dX5_finish_7 : decode cX5_finish 7 = .ok (.iload_n 1, 1) := by decide +kernel
theorem dX5_finish_8 : decode cX5_finish 8 = .ok (.iaload, 1) := by decide +kernel
theorem dX5_finish_9 : decode cX5_finish 9 = .ok (.istore_n 2, 1) := by decide +kernel
theorem dX5_finish_10 : decode cX5_finish 10 = .ok (.aload_n 0, 1) := by decide +kernel
theorem dX5_finish_11 : decode cX5_finish 11 = .ok (.getfield 35, 3) := by decide +kernel
theorem dX5_finish_14 : decode cX5_finish 14 = .ok (.getfield 139, 3) := by decide +kernel
theorem dX5_finish_17 : decode cX5_finish 17 = .ok (.iload_n 1, 1) := by decide +kernel
theorem dX5_finish_18 : decode cX5_finish 18 = .ok (.iaload, 1) := by decide +kernel
theorem dX5_finish_19 : decode cX5_finish 19 = .ok (.istore_n 3, 1) := by decide +kernel
theorem dX5_finish_20 : decode cX5_finish 20 = .ok (.aload_n 0, 1) := by decide +kernel
theorem dX5_finish_21 : decode cX5_finish 21 = .ok (.getfield 35, 3) := by decide +kernel
theorem dX5_finish_24 : decode cX5_finish 24 = .ok (.getfield 142, 3) := by decide +kernel
theorem dX5_finish_27 : decode cX5_finish 27 = .ok (.iload_n 1, 1) := by decide +kernel
theorem dX5_finish_28 : decode cX5_finish 28 = .ok (.aload_n 0, 1) := by decide +kernel
theorem dX5_finish_29 : decode cX5_finish 29 = .ok (.getfield 54, 3) := by decide +kernel
theorem dX5_finish_32 : decode cX5_finish 32 = .ok (.iastore, 1) := by decide +kernel
theorem dX5_finish_33 : decode cX5_finish 33 = .ok (.aload_n 0, 1) := by decide +kernel
theorem dX5_finish_34 : decode cX5_finish 34 = .ok (.getfield 35, 3) := by decide +kernel
theorem dX5_finish_37 : decode cX5_finish 37 = .ok (.getfield 145, 3) := by decide +kernel
theorem dX5_finish_40 : decode cX5_finish 40 = .ok (.iload_n 1, 1) := by decide +kernel
theorem dX5_finish_41 : decode cX5_finish 41 = .ok (.aload_n 0, 1) := by decide +kernel
theorem dX5_finish_42 : decode cX5_finish 42 = .ok (.getfield 28, 3) := by decide +kernel
theorem dX5_finish_45 : decode cX5_finish 45 = .ok (.aload_n 0, 1) := by decide +kernel
theorem dX5_finish_46 : decode cX5_finish 46 = .ok (.getfield 35, 3) := by decide +kernel
theorem dX5_finish_49 : decode cX5_finish 49 = .ok (.getfield 148, 3) := by decide +kernel
theorem dX5_finish_52 : decode cX5_finish 52 = .ok (.iload_n 1, 1) := by decide +kernel
theorem dX5_finish_53 : decode cX5_finish 53 = .ok (.iaload, 1) := by decide +kernel
theorem dX5_finish_54 : decode cX5_finish 54 = .ok (.iload_n 2, 1) := by decide +kernel
theorem dX5_finish_55 : decode cX5_finish 55 = .ok (.invokevirtual 151, 3) := by decide +kernel
theorem dX5_finish_58 : decode cX5_finish 58 = .ok (.iastore, 1) := by decide +kernel
theorem dX5_finish_59 : decode cX5_finish 59 = .ok (.aload_n 0, 1) := by decide +kernel
theorem dX5_finish_60 : decode cX5_finish 60 = .ok (.getfield 35, 3) := by decide +kernel
theorem dX5_finish_63 : decode cX5_finish 63 = .ok (.getfield 145, 3) := by decide +kernel
theorem dX5_finish_66 : decode cX5_finish 66 = .ok (.iload_n 1, 1) := by decide +kernel
theorem dX5_finish_67 : decode cX5_finish 67 = .ok (.iaload, 1) := by decide +kernel
theorem dX5_finish_68 : decode cX5_finish 68 = .ok (.ifCond .le 13, 3) := by decide +kernel
theorem dX5_finish_71 : decode cX5_finish 71 = .ok (.aload_n 0, 1) := by decide +kernel
theorem dX5_finish_72 : decode cX5_finish 72 = .ok (.dup, 1) := by decide +kernel
theorem dX5_finish_73 : decode cX5_finish 73 = .ok (.getfield 64, 3) := by decide +kernel
theorem dX5_finish_76 : decode cX5_finish 76 = .ok (.iconst 1, 1) := by decide +kernel
theorem dX5_finish_77 : decode cX5_finish 77 = .ok (.iadd, 1) := by decide +kernel
theorem dX5_finish_78 : decode cX5_finish 78 = .ok (.putfield 64, 3) := by decide +kernel
theorem dX5_finish_81 : decode cX5_finish 81 = .ok (.aload_n 0, 1) := by decide +kernel
theorem dX5_finish_82 : decode cX5_finish 82 = .ok (.getfield 39, 3) := by decide +kernel
theorem dX5_finish_85 : decode cX5_finish 85 = .ok (.iload_n 3, 1) := by decide +kernel
theorem dX5_finish_86 : decode cX5_finish 86 = .ok (.baload, 1) := by decide +kernel
theorem dX5_finish_87 : decode cX5_finish 87 = .ok (.ifCond .eq 30, 3) := by decide +kernel
theorem dX5_finish_90 : decode cX5_finish 90 = .ok (.iload_n 2, 1) := by decide +kernel
theorem dX5_finish_91 : decode cX5_finish 91 = .ok (.aload_n 0, 1) := by decide +kernel
theorem dX5_finish_92 : decode cX5_finish 92 = .ok (.getfield 43, 3) := by decide +kernel
theorem dX5_finish_95 : decode cX5_finish 95 = .ok (.iload_n 3, 1) := by decide +kernel
theorem dX5_finish_96 : decode cX5_finish 96 = .ok (.iaload, 1) := by decide +kernel
theorem dX5_finish_97 : decode cX5_finish 97 = .ok (.if_icmp .ge 20, 3) := by decide +kernel
theorem dX5_finish_100 : decode cX5_finish 100 = .ok (.aload_n 0, 1) := by decide +kernel
theorem dX5_finish_101 : decode cX5_finish 101 = .ok (.dup, 1) := by decide +kernel
theorem dX5_finish_102 : decode cX5_finish 102 = .ok (.getfield 61, 3) := by decide +kernel
theorem dX5_finish_105 : decode cX5_finish 105 = .ok (.iconst 1, 1) := by decide +kernel
theorem dX5_finish_106 : decode cX5_finish 106 = .ok (.iadd, 1) := by decide +kernel
theorem dX5_finish_107 : decode cX5_finish 107 = .ok (.putfield 61, 3) := by decide +kernel
theorem dX5_finish_110 : decode cX5_finish 110 = .ok (.aload_n 0, 1) := by decide +kernel
theorem dX5_finish_111 : decode cX5_finish 111 = .ok (.getfield 43, 3) := by decide +kernel
theorem dX5_finish_114 : decode cX5_finish 114 = .ok (.iload_n 3, 1) := by decide +kernel
theorem dX5_finish_115 : decode cX5_finish 115 = .ok (.iaload, 1) := by decide +kernel
theorem dX5_finish_116 : decode cX5_finish 116 = .ok (.istore_n 2, 1) := by decide +kernel
theorem dX5_finish_117 : decode cX5_finish 117 = .ok (.aload_n 0, 1) := by decide +kernel
theorem dX5_finish_118 : decode cX5_finish 118 = .ok (.getfield 43, 3) := by decide +kernel
theorem dX5_finish_121 : decode cX5_finish 121 = .ok (.iload_n 3, 1) := by decide +kernel
theorem dX5_finish_122 : decode cX5_finish 122 = .ok (.aload_n 0, 1) := by decide +kernel
theorem dX5_finish_123 : decode cX5_finish 123 = .ok (.getfield 43, 3) := by decide +kernel
theorem dX5_finish_126 : decode cX5_finish 126 = .ok (.iload_n 3, 1) := by decide +kernel
theorem dX5_finish_127 : decode cX5_finish 127 = .ok (.iaload, 1) := by decide +kernel
theorem dX5_finish_128 : decode cX5_finish 128 = .ok (.iload_n 2, 1) := by decide +kernel
theorem dX5_finish_129 : decode cX5_finish 129 = .ok (.invokestatic 155, 3) := by decide +kernel
theorem dX5_finish_132 : decode cX5_finish 132 = .ok (.iastore, 1) := by decide +kernel
theorem dX5_finish_133 : decode cX5_finish 133 = .ok (.aload_n 0, 1) := by decide +kernel
theorem dX5_finish_134 : decode cX5_finish 134 = .ok (.getfield 35, 3) := by decide +kernel
theorem dX5_finish_137 : decode cX5_finish 137 = .ok (.getfield 160, 3) := by decide +kernel
theorem dX5_finish_140 : decode cX5_finish 140 = .ok (.iload_n 1, 1) := by decide +kernel
theorem dX5_finish_141 : decode cX5_finish 141 = .ok (.iload_n 2, 1) := by decide +kernel
theorem dX5_finish_142 : decode cX5_finish 142 = .ok (.iastore, 1) := by decide +kernel
theorem dX5_finish_143 : decode cX5_finish 143 = .ok (.return_, 1) := by decide +kernel
theorem dX5_mend_0 : decode cX5_mend 0 = .ok (.iconst 0, 1) := by decide +kernel
theorem dX5_mend_1 : decode cX5_mend 1 = .ok (.istore_n 2, 1) := by decide +kernel
theorem dX5_mend_2 : decode cX5_mend 2 = .ok (.iload_n 2, 1) := by decide +kernel
theorem dX5_mend_3 : decode cX5_mend 3 = .ok (.aload_n 0, 1) := by decide +kernel
theorem dX5_mend_4 : decode cX5_mend 4 = .ok (.getfield 12, 3) := by decide +kernel
theorem dX5_mend_7 : decode cX5_mend 7 = .ok (.getfield 77, 3) := by decide +kernel
theorem dX5_mend_10 : decode cX5_mend 10 = .ok (.if_icmp .ge 46, 3) := by decide +kernel
theorem dX5_mend_13 : decode cX5_mend 13 = .ok (.aload_n 0, 1) := by decide +kernel
theorem dX5_mend_14 : decode cX5_mend 14 = .ok (.getfield 35, 3) := by decide +kernel
theorem dX5_mend_17 : decode cX5_mend 17 = .ok (.iload_n 1, 1) := by decide +kernel
theorem dX5_mend_18 : decode cX5_mend 18 = .ok (.iload_n 2, 1) := by decide +kernel
theorem dX5_mend_19 : decode cX5_mend 19 = .ok (.invokevirtual 163, 3) := by decide +kernel
theorem dX5_mend_22 : decode cX5_mend 22 = .ok (.ifCond .eq 28, 3) := by decide +kernel
theorem dX5_mend_25 : decode cX5_mend 25 = .ok (.aload_n 0, 1) := by decide +kernel
theorem dX5_mend_26 : decode cX5_mend 26 = .ok (.getfield 21, 3) := by decide +kernel
theorem dX5_mend_29 : decode cX5_mend 29 = .ok (.aload_n 0, 1) := by decide +kernel
theorem dX5_mend_30 : decode cX5_mend 30 = .ok (.getfield 54, 3) := by decide +kernel
theorem dX5_mend_33 : decode cX5_mend 33 = .ok (.iconst 1, 1) := by decide +kernel
theorem dX5_mend_34 : decode cX5_mend 34 = .ok (.iadd, 1) := by decide +kernel
theorem dX5_mend_35 : decode cX5_mend 35 = .ok (.iconst 4, 1) := by decide +kernel
theorem dX5_mend_36 : decode cX5_mend 36 = .ok (.aload_n 0, 1) := by decide +kernel
theorem dX5_mend_37 : decode cX5_mend 37 = .ok (.getfield 35, 3) := by decide +kernel
theorem dX5_mend_40 : decode cX5_mend 40 = .ok (.getfield 136, 3) := by decide +kernel
theorem dX5_mend_43 : decode cX5_mend 43 = .ok (.iload_n 1, 1) := by decide +kernel
theorem dX5_mend_44 : decode cX5_mend 44 = .ok (.iaload, 1) := by decide +kernel
theorem dX5_mend_45 : decode cX5_mend 45 = .ok (.iload_n 2, 1) := by decide +kernel
theorem dX5_mend_46 : decode cX5_mend 46 = .ok (.iconst 0, 1) := by decide +kernel
theorem dX5_mend_47 : decode cX5_mend 47 = .ok (.invokevirtual 84, 3) := by decide +kernel
theorem dX5_mend_50 : decode cX5_mend 50 = .ok (.iinc 2 1, 3) := by decide +kernel
theorem dX5_mend_53 : decode cX5_mend 53 = .ok (.goto (-51), 3) := by decide +kernel
theorem dX5_mend_56 : decode cX5_mend 56 = .ok (.return_, 1) := by decide +kernel
theorem dX6_init_0 : decode cX6_init 0 = .ok (.aload_n 0, 1) := by decide +kernel
theorem dX6_init_1 : decode cX6_init 1 = .ok (.invokespecial 3, 3) := by decide +kernel
theorem dX6_init_4 : decode cX6_init 4 = .ok (.aload_n 0, 1) := by decide +kernel
theorem dX6_init_5 : decode cX6_init 5 = .ok (.bipush 64, 2) := by decide +kernel
theorem dX6_init_7 : decode cX6_init 7 = .ok (.newarray .long, 2) := by decide +kernel
theorem dX6_init_9 : decode cX6_init 9 = .ok (.putfield 9, 3) := by decide +kernel
theorem dX6_init_12 : decode cX6_init 12 = .ok (.aload_n 0, 1) := by decide +kernel
theorem dX6_init_13 : decode cX6_init 13 = .ok (.iconst 4, 1) := by decide +kernel
theorem dX6_init_14 : decode cX6_init 14 = .ok (.newarray .int, 2) := by decide +kernel
theorem dX6_init_16 : decode cX6_init 16 = .ok (.putfield 15, 3) := by decide +kernel
theorem dX6_init_19 : decode cX6_init 19 = .ok (.aload_n 0, 1) := by decide +kernel
theorem dX6_init_20 : decode cX6_init 20 = .ok (.iconst 4, 1) := by decide +kernel
theorem dX6_init_21 : decode cX6_init 21 = .ok (.newarray .int, 2) := by decide +kernel
theorem dX6_init_23 : decode cX6_init 23 = .ok (.putfield 19, 3) := by decide +kernel
theorem dX6_init_26 : decode cX6_init 26 = .ok (.iconst 0, 1) := by decide +kernel
theorem dX6_init_27 : decode cX6_init 27 = .ok (.istore_n 1, 1) := by decide +kernel
theorem dX6_init_28 : decode cX6_init 28 = .ok (.iload_n 1, 1) := by decide +kernel
theorem dX6_init_29 : decode cX6_init 29 = .ok (.iconst 4, 1) := by decide +kernel
theorem dX6_init_30 : decode cX6_init 30 = .ok (.if_icmp .ge 16, 3) := by decide +kernel
theorem dX6_init_33 : decode cX6_init 33 = .ok (.aload_n 0, 1) := by decide +kernel
theorem dX6_init_34 : decode cX6_init 34 = .ok (.getfield 19, 3) := by decide +kernel
theorem dX6_init_37 : decode cX6_init 37 = .ok (.iload_n 1, 1) := by decide +kernel
theorem dX6_init_38 : decode cX6_init 38 = .ok (.iconst (-1), 1) := by decide +kernel
theorem dX6_init_39 : decode cX6_init 39 = .ok (.iastore, 1) := by decide +kernel
theorem dX6_init_40 : decode cX6_init 40 = .ok (.iinc 1 1, 3) := by decide +kernel
theorem dX6_init_43 : decode cX6_init 43 = .ok (.goto (-15), 3) := by decide +kernel
theorem dX6_init_46 : decode cX6_init 46 = .ok (.return_, 1) := by decide +kernel
theorem dX6_lack_0 : decode cX6_lack 0 = .ok (.iload_n 1, 1) := by decide +kernel
theorem dX6_lack_1 : decode cX6_lack 1 = .ok (.i2l, 1) := by decide +kernel
theorem dX6_lack_2 : decode cX6_lack 2 = .ok (.lconst 0, 1) := by decide +kernel
theorem dX6_lack_3 : decode cX6_lack 3 = .ok (.ldc2_w 22, 3) := by decide +kernel
theorem dX6_lack_6 : decode cX6_lack 6 = .ok (.invokestatic 24, 3) := by decide +kernel
theorem dX6_lack_9 : decode cX6_lack 9 = .ok (.ifCond .eq 7, 3) := by decide +kernel
theorem dX6_lack_12 : decode cX6_lack 12 = .ok (.iload_n 3, 1) := by decide +kernel
theorem dX6_lack_13 : decode cX6_lack 13 = .ok (.ifCond .ge 5, 3) := by decide +kernel
theorem dX6_lack_16 : decode cX6_lack 16 = .ok (.iconst 1, 1) := by decide +kernel
theorem dX6_lack_17 : decode cX6_lack 17 = .ok (.ireturn, 1) := by decide +kernel
theorem dX6_lack_18 : decode cX6_lack 18 = .ok (.aload_n 0, 1) := by decide +kernel
theorem dX6_lack_19 : decode cX6_lack 19 = .ok (.getfield 19, 3) := by decide +kernel
theorem dX6_lack_22 : decode cX6_lack 22 = .ok (.iload_n 1, 1) := by decide +kernel
theorem dX6_lack_23 : decode cX6_lack 23 = .ok (.iaload, 1) := by decide +kernel
theorem dX6_lack_24 : decode cX6_lack 24 = .ok (.iconst (-1), 1) := by decide +kernel
theorem dX6_lack_25 : decode cX6_lack 25 = .ok (.if_icmp .ne 5, 3) := by decide +kernel
theorem dX6_lack_28 : decode cX6_lack 28 = .ok (.iconst 2, 1) := by decide +kernel
theorem dX6_lack_29 : decode cX6_lack 29 = .ok (.ireturn, 1) := by decide +kernel
theorem dX6_lack_30 : decode cX6_lack 30 = .ok (.iload_n 2, 1) := by decide +kernel
theorem dX6_lack_31 : decode cX6_lack 31 = .ok (.ifCond .lt 15, 3) := by decide +kernel
theorem dX6_lack_34 : decode cX6_lack 34 = .ok (.iload_n 2, 1) := by decide +kernel
theorem dX6_lack_35 : decode cX6_lack 35 = .ok (.aload_n 0, 1) := by decide +kernel
theorem dX6_lack_36 : decode cX6_lack 36 = .ok (.getfield 19, 3) := by decide +kernel
theorem dX6_lack_39 : decode cX6_lack 39 = .ok (.iload_n 1, 1) := by decide +kernel
theorem dX6_lack_40 : decode cX6_lack 40 = .ok (.iaload, 1) := by decide +kernel
theorem dX6_lack_41 : decode cX6_lack 41 = .ok (.iload_n 3, 1) := by decide +kernel
theorem dX6_lack_42 : decode cX6_lack 42 = .ok (.isub, 1) := by decide +kernel
theorem dX6_lack_43 : decode cX6_lack 43 = .ok (.if_icmp .le 7, 3) := by decide +kernel
theorem dX6_lack_46 : decode cX6_lack 46 = .ok (.iconst 3, 1) := by decide +kernel
theorem dX6_lack_47 : decode cX6_lack 47 = .ok (.goto 4, 3) := by decide +kernel
theorem dX6_lack_50 : decode cX6_lack 50 = .ok (.iconst 0, 1) := by decide +kernel
theorem dX6_lack_51 : decode cX6_lack 51 = .ok (.ireturn, 1) := by decide +kernel
theorem dX6_lay_0 : decode cX6_lay 0 = .ok (.aload_n 0, 1) := by decide +kernel
theorem dX6_lay_1 : decode cX6_lay 1 = .ok (.getfield 15, 3) := by decide +kernel
theorem dX6_lay_4 : decode cX6_lay 4 = .ok (.iload_n 1, 1) := by decide +kernel
theorem dX6_lay_5 : decode cX6_lay 5 = .ok (.iload_n 2, 1) := by decide +kernel
theorem dX6_lay_6 : decode cX6_lay 6 = .ok (.iastore, 1) := by decide +kernel
theorem dX6_lay_7 : decode cX6_lay 7 = .ok (.aload_n 0, 1) := by decide +kernel
theorem dX6_lay_8 : decode cX6_lay 8 = .ok (.getfield 19, 3) := by decide +kernel
theorem dX6_lay_11 : decode cX6_lay 11 = .ok (.iload_n 1, 1) := by decide +kernel
theorem dX6_lay_12 : decode cX6_lay 12 = .ok (.iload_n 3, 1) := by decide +kernel
theorem dX6_lay_13 : decode cX6_lay 13 = .ok (.iastore, 1) := by decide +kernel
theorem dX6_lay_14 : decode cX6_lay 14 = .ok (.iconst 0, 1) := by decide +kernel
theorem dX6_lay_15 : decode cX6_lay 15 = .ok (.istore 4, 2) := by decide +kernel
theorem dX6_lay_17 : decode cX6_lay 17 = .ok (.iload 4, 2) := by decide +kernel
theorem dX6_lay_19 : decode cX6_lay 19 = .ok (.bipush 16, 2) := by decide +kernel
theorem dX6_lay_21 : decode cX6_lay 21 = .ok (.if_icmp .ge 22, 3) := by decide +kernel
theorem dX6_lay_24 : decode cX6_lay 24 = .ok (.aload_n 0, 1) := by decide +kernel
theorem dX6_lay_25 : decode cX6_lay 25 = .ok (.getfield 9, 3) := by decide +kernel
theorem dX6_lay_28 : decode cX6_lay 28 = .ok (.iload_n 1, 1) := by decide +kernel
theorem dX6_lay_29 : decode cX6_lay 29 = .ok (.bipush 16, 2) := by decide +kernel
theorem dX6_lay_31 : decode cX6_lay 31 = .ok (.imul, 1) := by decide +kernel
theorem dX6_lay_32 : decode cX6_lay 32 = .ok (.iload 4, 2) := by decide +kernel
theorem dX6_lay_34 : decode cX6_lay 34 = .ok (.iadd, 1) := by decide +kernel
theorem dX6_lay_35 : decode cX6_lay 35 = .ok (.lconst 0, 1) := by decide +kernel
theorem dX6_lay_36 : decode cX6_lay 36 = .ok (.lastore, 1) := by decide +kernel
theorem dX6_lay_37 : decode cX6_lay 37 = .ok (.iinc 4 1, 3) := by decide +kernel
theorem dX6_lay_40 : decode cX6_lay 40 = .ok (.goto (-23), 3) := by decide +kernel
theorem dX6_lay_43 : decode cX6_lay 43 = .ok (.return_, 1) := by decide +kernel
theorem dX6_takeAway_0 : decode cX6_takeAway 0 = .ok (.aload_n 0, 1) := by decide +kernel
theorem dX6_takeAway_1 : decode cX6_takeAway 1 = .ok (.getfield 19, 3) := by decide +kernel
theorem dX6_takeAway_4 : decode cX6_takeAway 4 = .ok (.iload_n 1, 1) := by decide +kernel
theorem dX6_takeAway_5 : decode cX6_takeAway 5 = .ok (.iconst (-1), 1) := by decide +kernel
theorem dX6_takeAway_6 : decode cX6_takeAway 6 = .ok (.iastore, 1) := by decide +kernel
theorem dX6_takeAway_7 : decode cX6_takeAway 7 = .ok (.return_, 1) := by decide +kernel
theorem dX6_at_0 : decode cX6_at 0 = .ok (.aload_n 0, 1) := by decide +kernel
theorem dX6_at_1 : decode cX6_at 1 = .ok (.iload_n 1, 1) := by decide +kernel
theorem dX6_at_2 : decode cX6_at 2 = .ok (.iload_n 2, 1) := by decide +kernel
theorem dX6_at_3 : decode cX6_at 3 = .ok (.iconst 1, 1) := by decide +kernel
theorem dX6_at_4 : decode cX6_at 4 = .ok (.invokevirtual 28, 3) := by decide +kernel
theorem dX6_at_7 : decode cX6_at 7 = .ok (.ifCond .ne 17, 3) := by decide +kernel
theorem dX6_at_10 : decode cX6_at 10 = .ok (.aload_n 0, 1) := by decide +kernel
theorem dX6_at_11 : decode cX6_at 11 = .ok (.getfield 9, 3) := by decide +kernel
theorem dX6_at_14 : decode cX6_at 14 = .ok (.iload_n 1, 1) := by decide +kernel
theorem dX6_at_15 : decode cX6_at 15 = .ok (.bipush 16, 2) := by decide +kernel
theorem dX6_at_17 : decode cX6_at 17 = .ok (.imul, 1) := by decide +kernel
theorem dX6_at_18 : decode cX6_at 18 = .ok (.iload_n 2, 1) := by decide +kernel
theorem dX6_at_19 : decode cX6_at 19 = .ok (.iadd, 1) := by decide +kernel
theorem dX6_at_20 : decode cX6_at 20 = .ok (.laload, 1) := by decide +kernel
theorem dX6_at_21 : decode cX6_at 21 = .ok (.goto 4, 3) := by decide +kernel
theorem dX6_at_24 : decode cX6_at 24 = .ok (.lconst 0, 1) := by decide +kernel
theorem dX6_at_25 : decode cX6_at 25 = .ok (.lreturn, 1) := by decide +kernel
theorem dX6_put_0 : decode cX6_put 0 = .ok (.aload_n 0, 1) := by decide +kernel
theorem dX6_put_1 : decode cX6_put 1 = .ok (.getfield 9, 3) := by decide +kernel
theorem dX6_put_4 : decode cX6_put 4 = .ok (.iload_n 1, 1) := by decide +kernel
theorem dX6_put_5 : decode cX6_put 5 = .ok (.bipush 16, 2) := by decide +kernel
theorem dX6_put_7 : decode cX6_put 7 = .ok (.imul, 1) := by decide +kernel
theorem dX6_put_8 : decode cX6_put 8 = .ok (.iload_n 2, 1) := by decide +kernel
theorem dX6_put_9 : decode cX6_put 9 = .ok (.iadd, 1) := by decide +kernel
theorem dX6_put_10 : decode cX6_put 10 = .ok (.aload_n 0, 1) := by decide +kernel
theorem dX6_put_11 : decode cX6_put 11 = .ok (.getfield 15, 3) := by decide +kernel
theorem dX6_put_14 : decode cX6_put 14 = .ok (.iload_n 1, 1) := by decide +kernel
theorem dX6_put_15 : decode cX6_put 15 = .ok (.iaload, 1) := by decide +kernel
theorem dX6_put_16 : decode cX6_put 16 = .ok (.lload_n 3, 1) := by decide +kernel
theorem dX6_put_17 : decode cX6_put 17 = .ok (.invokestatic 32, 3) := by decide +kernel
theorem dX6_put_20 : decode cX6_put 20 = .ok (.lastore, 1) := by decide +kernel
theorem dX6_put_21 : decode cX6_put 21 = .ok (.return_, 1) := by decide +kernel
theorem dX6_move_0 : decode cX6_move 0 = .ok (.iload_n 3, 1) := by decide +kernel
theorem dX6_move_1 : decode cX6_move 1 = .ok (.bipush 16, 2) := by decide +kernel
theorem dX6_move_3 : decode cX6_move 3 = .ok (.imul, 1) := by decide +kernel
theorem dX6_move_4 : decode cX6_move 4 = .ok (.iload 4, 2) := by decide +kernel
theorem dX6_move_6 : decode cX6_move 6 = .ok (.iadd, 1) := by decide +kernel
theorem dX6_move_7 : decode cX6_move 7 = .ok (.istore 6, 2) := by decide +kernel
theorem dX6_move_9 : decode cX6_move 9 = .ok (.aload_n 0, 1) := by decide +kernel
theorem dX6_move_10 : decode cX6_move 10 = .ok (.getfield 9, 3) := by decide +kernel
theorem dX6_move_13 : decode cX6_move 13 = .ok (.iload_n 1, 1) := by decide +kernel
theorem dX6_move_14 : decode cX6_move 14 = .ok (.bipush 16, 2) := by decide +kernel
theorem dX6_move_16 : decode cX6_move 16 = .ok (.imul, 1) := by decide +kernel
theorem dX6_move_17 : decode cX6_move 17 = .ok (.iload_n 2, 1) := by decide +kernel
theorem dX6_move_18 : decode cX6_move 18 = .ok (.iadd, 1) := by decide +kernel
theorem dX6_move_19 : decode cX6_move 19 = .ok (.aload_n 0, 1) := by decide +kernel
theorem dX6_move_20 : decode cX6_move 20 = .ok (.getfield 9, 3) := by decide +kernel
theorem dX6_move_23 : decode cX6_move 23 = .ok (.iload 6, 2) := by decide +kernel
theorem dX6_move_25 : decode cX6_move 25 = .ok (.iload 5, 2) := by decide +kernel
theorem dX6_move_27 : decode cX6_move 27 = .ok (.invokestatic 36, 3) := by decide +kernel
theorem dX6_move_30 : decode cX6_move 30 = .ok (.iload 6, 2) := by decide +kernel
theorem dX6_move_32 : decode cX6_move 32 = .ok (.istore 7, 2) := by decide +kernel
theorem dX6_move_34 : decode cX6_move 34 = .ok (.iload 7, 2) := by decide +kernel
theorem dX6_move_36 : decode cX6_move 36 = .ok (.iload 6, 2) := by decide +kernel
theorem dX6_move_38 : decode cX6_move 38 = .ok (.iload 5, 2) := by decide +kernel
theorem dX6_move_40 : decode cX6_move 40 = .ok (.iadd, 1) := by decide +kernel
theorem dX6_move_41 : decode cX6_move 41 = .ok (.if_icmp .ge 32, 3) := by decide +kernel
theorem dX6_move_44 : decode cX6_move 44 = .ok (.aload_n 0, 1) := by decide +kernel
theorem dX6_move_45 : decode cX6_move 45 = .ok (.getfield 9, 3) := by decide +kernel
theorem dX6_move_48 : decode cX6_move 48 = .ok (.iload 7, 2) := by decide +kernel
theorem dX6_move_50 : decode cX6_move 50 = .ok (.aload_n 0, 1) := by decide +kernel
theorem dX6_move_51 : decode cX6_move 51 = .ok (.getfield 15, 3) := by decide +kernel
theorem dX6_move_54 : decode cX6_move 54 = .ok (.iload_n 3, 1) := by decide +kernel
theorem dX6_move_55 : decode cX6_move 55 = .ok (.iaload, 1) := by decide +kernel
theorem dX6_move_56 : decode cX6_move 56 = .ok (.aload_n 0, 1) := by decide +kernel
theorem dX6_move_57 : decode cX6_move 57 = .ok (.getfield 9, 3) := by decide +kernel
theorem dX6_move_60 : decode cX6_move 60 = .ok (.iload 7, 2) := by decide +kernel
theorem dX6_move_62 : decode cX6_move 62 = .ok (.laload, 1) := by decide +kernel
theorem dX6_move_63 : decode cX6_move 63 = .ok (.invokestatic 32, 3) := by decide +kernel
theorem dX6_move_66 : decode cX6_move 66 = .ok (.lastore, 1) := by decide +kernel
theorem dX6_move_67 : decode cX6_move 67 = .ok (.iinc 7 1, 3) := by decide +kernel
theorem dX6_move_70 : decode cX6_move 70 = .ok (.goto (-36), 3) := by decide +kernel
theorem dX6_move_73 : decode cX6_move 73 = .ok (.return_, 1) := by decide +kernel
theorem dX6_cut_0 : decode cX6_cut 0 = .ok (.iload_n 0, 1) := by decide +kernel
theorem dX6_cut_1 : decode cX6_cut 1 = .ok (.tableswitch 41 0 2 #[27, 32, 37], 27) := by decide +kernel
theorem dX6_cut_28 : decode cX6_cut 28 = .ok (.lload_n 1, 1) := by decide +kernel
theorem dX6_cut_29 : decode cX6_cut 29 = .ok (.l2i, 1) := by decide +kernel
theorem dX6_cut_30 : decode cX6_cut 30 = .ok (.i2b, 1) := by decide +kernel
theorem dX6_cut_31 : decode cX6_cut 31 = .ok (.i2l, 1) := by decide +kernel
theorem dX6_cut_32 : decode cX6_cut 32 = .ok (.lreturn, 1) := by decide +kernel
theorem dX6_cut_33 : decode cX6_cut 33 = .ok (.lload_n 1, 1) := by decide +kernel
theorem dX6_cut_34 : decode cX6_cut 34 = .ok (.l2i, 1) := by decide +kernel
theorem dX6_cut_35 : decode cX6_cut 35 = .ok (.i2s, 1) := by decide +kernel
theorem dX6_cut_36 : decode cX6_cut 36 = .ok (.i2l, 1) := by decide +kernel
theorem dX6_cut_37 : decode cX6_cut 37 = .ok (.lreturn, 1) := by decide +kernel
theorem dX6_cut_38 : decode cX6_cut 38 = .ok (.lload_n 1, 1) := by decide +kernel
theorem dX6_cut_39 : decode cX6_cut 39 = .ok (.l2i, 1) := by decide +kernel
theorem dX6_cut_40 : decode cX6_cut 40 = .ok (.i2l, 1) := by decide +kernel
theorem dX6_cut_41 : decode cX6_cut 41 = .ok (.lreturn, 1) := by decide +kernel
theorem dX6_cut_42 : decode cX6_cut 42 = .ok (.lload_n 1, 1) := by decide +kernel
theorem dX6_cut_43 : decode cX6_cut 43 = .ok (.lreturn, 1) := by decide +kernel
theorem dX7_init_0 : decode cX7_init 0 = .ok (.aload_n 0, 1) := by decide +kernel
theorem dX7_init_1 : decode cX7_init 1 = .ok (.invokespecial 3, 3) := by decide +kernel
theorem dX7_init_4 : decode cX7_init 4 = .ok (.aload_n 0, 1) := by decide +kernel
theorem dX7_init_5 : decode cX7_init 5 = .ok (.bipush 40, 2) := by decide +kernel
theorem dX7_init_7 : decode cX7_init 7 = .ok (.newarray .int, 2) := by decide +kernel
theorem dX7_init_9 : decode cX7_init 9 = .ok (.putfield 9, 3) := by decide +kernel
theorem dX7_init_12 : decode cX7_init 12 = .ok (.aload_n 0, 1) := by decide +kernel
theorem dX7_init_13 : decode cX7_init 13 = .ok (.bipush 40, 2) := by decide +kernel
theorem dX7_init_15 : decode cX7_init 15 = .ok (.newarray .int, 2) := by decide +kernel
theorem dX7_init_17 : decode cX7_init 17 = .ok (.putfield 15, 3) := by decide +kernel
theorem dX7_init_20 : decode cX7_init 20 = .ok (.aload_n 0, 1) := by decide +kernel
theorem dX7_init_21 : decode cX7_init 21 = .ok (.iconst 0, 1) := by decide +kernel
theorem dX7_init_22 : decode cX7_init 22 = .ok (.putfield 18, 3) := by decide +kernel
theorem dX7_init_25 : decode cX7_init 25 = .ok (.return_, 1) := by decide +kernel
theorem dX7_add_0 : decode cX7_add 0 = .ok (.aload_n 0, 1) := by decide +kernel
theorem dX7_add_1 : decode cX7_add 1 = .ok (.getfield 15, 3) := by decide +kernel
theorem dX7_add_4 : decode cX7_add 4 = .ok (.aload_n 0, 1) := by decide +kernel
theorem dX7_add_5 : decode cX7_add 5 = .ok (.getfield 18, 3) := by decide +kernel
theorem dX7_add_8 : decode cX7_add 8 = .ok (.iconst 0, 1) := by decide +kernel
theorem dX7_add_9 : decode cX7_add 9 = .ok (.iastore, 1) := by decide +kernel
theorem dX7_add_10 : decode cX7_add 10 = .ok (.aload_n 0, 1) := by decide +kernel
theorem dX7_add_11 : decode cX7_add 11 = .ok (.getfield 9, 3) := by decide +kernel
theorem dX7_add_14 : decode cX7_add 14 = .ok (.aload_n 0, 1) := by decide +kernel
theorem dX7_add_15 : decode cX7_add 15 = .ok (.getfield 18, 3) := by decide +kernel
theorem dX7_add_18 : decode cX7_add 18 = .ok (.iconst (-1), 1) := by decide +kernel
theorem dX7_add_19 : decode cX7_add 19 = .ok (.iastore, 1) := by decide +kernel
theorem dX7_add_20 : decode cX7_add 20 = .ok (.aload_n 0, 1) := by decide +kernel
theorem dX7_add_21 : decode cX7_add 21 = .ok (.dup, 1) := by decide +kernel
theorem dX7_add_22 : decode cX7_add 22 = .ok (.getfield 18, 3) := by decide +kernel
theorem dX7_add_25 : decode cX7_add 25 = .ok (.iconst 1, 1) := by decide +kernel
theorem dX7_add_26 : decode cX7_add 26 = .ok (.iadd, 1) := by decide +kernel
theorem dX7_add_27 : decode cX7_add 27 = .ok (.putfield 18, 3) := by decide +kernel
theorem dX7_add_30 : decode cX7_add 30 = .ok (.aload_n 0, 1) := by decide +kernel
theorem dX7_add_31 : decode cX7_add 31 = .ok (.getfield 18, 3) := by decide +kernel
theorem dX7_add_34 : decode cX7_add 34 = .ok (.ireturn, 1) := by decide +kernel
theorem dX7_isDone_0 : decode cX7_isDone 0 = .ok (.aload_n 0, 1) := by decide +kernel
theorem dX7_isDone_1 : decode cX7_isDone 1 = .ok (.iload_n 1, 1) := by decide +kernel
theorem dX7_isDone_2 : decode cX7_isDone 2 = .ok (.invokevirtual 22, 3) := by decide +kernel
theorem dX7_isDone_5 : decode cX7_isDone 5 = .ok (.ifCond .eq 19, 3) := by decide +kernel
theorem dX7_isDone_8 : decode cX7_isDone 8 = .ok (.aload_n 0, 1) := by decide +kernel
theorem dX7_isDone_9 : decode cX7_isDone 9 = .ok (.getfield 9, 3) := by decide +kernel
theorem dX7_isDone_12 : decode cX7_isDone 12 = .ok (.iload_n 1, 1) := by decide +kernel
theorem dX7_isDone_13 : decode cX7_isDone 13 = .ok (.iconst 1, 1) := by decide +kernel
theorem dX7_isDone_14 : decode cX7_isDone 14 = .ok (.isub, 1) := by decide +kernel
theorem dX7_isDone_15 : decode cX7_isDone 15 = .ok (.iaload, 1) := by decide +kernel
theorem dX7_isDone_16 : decode cX7_isDone 16 = .ok (.iconst (-1), 1) := by decide +kernel
theorem dX7_isDone_17 : decode cX7_isDone 17 = .ok (.if_icmp .eq 7, 3) := by decide +kernel
theorem dX7_isDone_20 : decode cX7_isDone 20 = .ok (.iconst 1, 1) := by decide +kernel
theorem dX7_isDone_21 : decode cX7_isDone 21 = .ok (.goto 4, 3) := by decide +kernel
theorem dX7_isDone_24 : decode cX7_isDone 24 = .ok (.iconst 0, 1) := by decide +kernel
theorem dX7_isDone_25 : decode cX7_isDone 25 = .ok (.ireturn, 1) := by decide +kernel
theorem dX7_has_0 : decode cX7_has 0 = .ok (.iload_n 1, 1) := by decide +kernel
theorem dX7_has_1 : decode cX7_has 1 = .ok (.iconst 1, 1) := by decide +kernel
theorem dX7_has_2 : decode cX7_has 2 = .ok (.if_icmp .lt 15, 3) := by decide +kernel
theorem dX7_has_5 : decode cX7_has 5 = .ok (.iload_n 1, 1) := by decide +kernel
theorem dX7_has_6 : decode cX7_has 6 = .ok (.aload_n 0, 1) := by decide +kernel
theorem dX7_has_7 : decode cX7_has 7 = .ok (.getfield 18, 3) := by decide +kernel
theorem dX7_has_10 : decode cX7_has 10 = .ok (.if_icmp .gt 7, 3) := by decide +kernel
theorem dX7_has_13 : decode cX7_has 13 = .ok (.iconst 1, 1) := by decide +kernel
theorem dX7_has_14 : decode cX7_has 14 = .ok (.goto 4, 3) := by decide +kernel
theorem dX7_has_17 : decode cX7_has 17 = .ok (.iconst 0, 1) := by decide +kernel
theorem dX7_has_18 : decode cX7_has 18 = .ok (.ireturn, 1) := by decide +kernel
theorem dX7_hear_0 : decode cX7_hear 0 = .ok (.aload_n 0, 1) := by decide +kernel
theorem dX7_hear_1 : decode cX7_hear 1 = .ok (.iload_n 1, 1) := by decide +kernel
theorem dX7_hear_2 : decode cX7_hear 2 = .ok (.invokevirtual 22, 3) := by decide +kernel
theorem dX7_hear_5 : decode cX7_hear 5 = .ok (.ifCond .ne 4, 3) := by decide +kernel
theorem dX7_hear_8 : decode cX7_hear 8 = .ok (.return_, 1) := by decide +kernel
theorem dX7_hear_9 : decode cX7_hear 9 = .ok (.iload_n 1, 1) := by decide +kernel
theorem dX7_hear_10 : decode cX7_hear 10 = .ok (.iconst 1, 1) := by decide +kernel
theorem dX7_hear_11 : decode cX7_hear 11 = .ok (.isub, 1) := by decide +kernel
theorem dX7_hear_12 : decode cX7_hear 12 = .ok (.istore 4, 2) := by decide +kernel
theorem dX7_hear_14 : decode cX7_hear 14 = .ok (.aload_n 0, 1) := by decide +kernel
theorem dX7_hear_15 : decode cX7_hear 15 = .ok (.getfield 15, 3) := by decide +kernel
theorem dX7_hear_18 : decode cX7_hear 18 = .ok (.iload 4, 2) := by decide +kernel
theorem dX7_hear_20 : decode cX7_hear 20 = .ok (.dup2, 1) := by decide +kernel
theorem dX7_hear_21 : decode cX7_hear 21 = .ok (.iaload, 1) := by decide +kernel
theorem dX7_hear_22 : decode cX7_hear 22 = .ok (.iconst 1, 1) := by decide +kernel
theorem dX7_hear_23 : decode cX7_hear 23 = .ok (.iadd, 1) := by decide +kernel
theorem dX7_hear_24 : decode cX7_hear 24 = .ok (.iastore, 1) := by decide +kernel
theorem dX7_hear_25 : decode cX7_hear 25 = .ok (.aload_n 0, 1) := by decide +kernel
theorem dX7_hear_26 : decode cX7_hear 26 = .ok (.getfield 15, 3) := by decide +kernel
theorem dX7_hear_29 : decode cX7_hear 29 = .ok (.iload 4, 2) := by decide +kernel
theorem dX7_hear_31 : decode cX7_hear 31 = .ok (.iaload, 1) := by decide +kernel
theorem dX7_hear_32 : decode cX7_hear 32 = .ok (.iload_n 2, 1) := by decide +kernel
theorem dX7_hear_33 : decode cX7_hear 33 = .ok (.if_icmp .ne 11, 3) := by decide +kernel
theorem dX7_hear_36 : decode cX7_hear 36 = .ok (.aload_n 0, 1) := by decide +kernel
theorem dX7_hear_37 : decode cX7_hear 37 = .ok (.getfield 9, 3) := by decide +kernel
theorem dX7_hear_40 : decode cX7_hear 40 = .ok (.iload 4, 2) := by decide +kernel
theorem dX7_hear_42 : decode cX7_hear 42 = .ok (.iload_n 3, 1) := by decide +kernel
theorem dX7_hear_43 : decode cX7_hear 43 = .ok (.iastore, 1) := by decide +kernel
theorem dX7_hear_44 : decode cX7_hear 44 = .ok (.return_, 1) := by decide +kernel
theorem dX7_doneBefore_0 : decode cX7_doneBefore 0 = .ok (.iconst 0, 1) := by decide +kernel
theorem dX7_doneBefore_1 : decode cX7_doneBefore 1 = .ok (.istore_n 3, 1) := by decide +kernel
theorem dX7_doneBefore_2 : decode cX7_doneBefore 2 = .ok (.iload_n 2, 1) := by decide +kernel
theorem dX7_doneBefore_3 : decode cX7_doneBefore 3 = .ok (.iconst 1, 1) := by decide +kernel
theorem dX7_doneBefore_4 : decode cX7_doneBefore 4 = .ok (.iadd, 1) := by decide +kernel
theorem dX7_doneBefore_5 : decode cX7_doneBefore 5 = .ok (.istore 4, 2) := by decide +kernel
theorem dX7_doneBefore_7 : decode cX7_doneBefore 7 = .ok (.iload 4, 2) := by decide +kernel
theorem dX7_doneBefore_9 : decode cX7_doneBefore 9 = .ok (.aload_n 0, 1) := by decide +kernel
theorem dX7_doneBefore_10 : decode cX7_doneBefore 10 = .ok (.getfield 18, 3) := by decide +kernel
theorem dX7_doneBefore_13 : decode cX7_doneBefore 13 = .ok (.if_icmp .gt 34, 3) := by decide +kernel
theorem dX7_doneBefore_16 : decode cX7_doneBefore 16 = .ok (.aload_n 0, 1) := by decide +kernel
theorem dX7_doneBefore_17 : decode cX7_doneBefore 17 = .ok (.iload 4, 2) := by decide +kernel
theorem dX7_doneBefore_19 : decode cX7_doneBefore 19 = .ok (.invokevirtual 26, 3) := by decide +kernel
theorem dX7_doneBefore_22 : decode cX7_doneBefore 22 = .ok (.ifCond .eq 19, 3) := by decide +kernel
theorem dX7_doneBefore_25 : decode cX7_doneBefore 25 = .ok (.aload_n 0, 1) := by decide +kernel
theorem dX7_doneBefore_26 : decode cX7_doneBefore 26 = .ok (.getfield 9, 3) := by decide +kernel
theorem dX7_doneBefore_29 : decode cX7_doneBefore 29 = .ok (.iload 4, 2) := by decide +kernel
theorem dX7_doneBefore_31 : decode cX7_doneBefore 31 = .ok (.iconst 1, 1) := by decide +kernel
theorem dX7_doneBefore_32 : decode cX7_doneBefore 32 = .ok (.isub, 1) := by decide +kernel
theorem dX7_doneBefore_33 : decode cX7_doneBefore 33 = .ok (.iaload, 1) := by decide +kernel
theorem dX7_doneBefore_34 : decode cX7_doneBefore 34 = .ok (.iload_n 1, 1) := by decide +kernel
theorem dX7_doneBefore_35 : decode cX7_doneBefore 35 = .ok (.if_icmp .ge 6, 3) := by decide +kernel
theorem dX7_doneBefore_38 : decode cX7_doneBefore 38 = .ok (.iinc 3 1, 3) := by decide +kernel
theorem dX7_doneBefore_41 : decode cX7_doneBefore 41 = .ok (.iinc 4 1, 3) := by decide +kernel
theorem dX7_doneBefore_44 : decode cX7_doneBefore 44 = .ok (.goto (-37), 3) := by decide +kernel
theorem dX7_doneBefore_47 : decode cX7_doneBefore 47 = .ok (.iload_n 3, 1) := by decide +kernel
theorem dX7_doneBefore_48 : decode cX7_doneBefore 48 = .ok (.ireturn, 1) := by decide +kernel
theorem dX8_init_0 : decode cX8_init 0 = .ok (.aload_n 0, 1) := by decide +kernel
theorem dX8_init_1 : decode cX8_init 1 = .ok (.invokespecial 1, 3) := by decide +kernel
theorem dX8_init_4 : decode cX8_init 4 = .ok (.aload_n 0, 1) := by decide +kernel
theorem dX8_init_5 : decode cX8_init 5 = .ok (.new 7, 3) := by decide +kernel
theorem dX8_init_8 : decode cX8_init 8 = .ok (.dup, 1) := by decide +kernel
theorem dX8_init_9 : decode cX8_init 9 = .ok (.invokespecial 9, 3) := by decide +kernel
theorem dX8_init_12 : decode cX8_init 12 = .ok (.putfield 10, 3) := by decide +kernel
theorem dX8_init_15 : decode cX8_init 15 = .ok (.aload_n 0, 1) := by decide +kernel
theorem dX8_init_16 : decode cX8_init 16 = .ok (.new 16, 3) := by decide +kernel
theorem dX8_init_19 : decode cX8_init 19 = .ok (.dup, 1) := by decide +kernel
theorem dX8_init_20 : decode cX8_init 20 = .ok (.invokespecial 18, 3) := by decide +kernel
theorem dX8_init_23 : decode cX8_init 23 = .ok (.putfield 19, 3) := by decide +kernel
theorem dX8_init_26 : decode cX8_init 26 = .ok (.aload_n 0, 1) := by decide +kernel
theorem dX8_init_27 : decode cX8_init 27 = .ok (.new 23, 3) := by decide +kernel
theorem dX8_init_30 : decode cX8_init 30 = .ok (.dup, 1) := by decide +kernel
theorem dX8_init_31 : decode cX8_init 31 = .ok (.aload_n 0, 1) := by decide +kernel
theorem dX8_init_32 : decode cX8_init 32 = .ok (.getfield 19, 3) := by decide +kernel
theorem dX8_init_35 : decode cX8_init 35 = .ok (.invokespecial 25, 3) := by decide +kernel
theorem dX8_init_38 : decode cX8_init 38 = .ok (.putfield 28, 3) := by decide +kernel
theorem dX8_init_41 : decode cX8_init 41 = .ok (.aload_n 0, 1) := by decide +kernel
theorem dX8_init_42 : decode cX8_init 42 = .ok (.new 32, 3) := by decide +kernel
theorem dX8_init_45 : decode cX8_init 45 = .ok (.dup, 1) := by decide +kernel
theorem dX8_init_46 : decode cX8_init 46 = .ok (.invokespecial 34, 3) := by decide +kernel
theorem dX8_init_49 : decode cX8_init 49 = .ok (.putfield 35, 3) := by decide +kernel
theorem dX8_init_52 : decode cX8_init 52 = .ok (.aload_n 0, 1) := by decide +kernel
theorem dX8_init_53 : decode cX8_init 53 = .ok (.iconst 0, 1) := by decide +kernel
theorem dX8_init_54 : decode cX8_init 54 = .ok (.putfield 39, 3) := by decide +kernel
theorem dX8_init_57 : decode cX8_init 57 = .ok (.aload_n 0, 1) := by decide +kernel
theorem dX8_init_58 : decode cX8_init 58 = .ok (.iconst 0, 1) := by decide +kernel
theorem dX8_init_59 : decode cX8_init 59 = .ok (.putfield 43, 3) := by decide +kernel
theorem dX8_init_62 : decode cX8_init 62 = .ok (.return_, 1) := by decide +kernel
theorem dX8_status_0 : decode cX8_status 0 = .ok (.aload_n 0, 1) := by decide +kernel
theorem dX8_status_1 : decode cX8_status 1 = .ok (.getfield 43, 3) := by decide +kernel
theorem dX8_status_4 : decode cX8_status 4 = .ok (.ireturn, 1) := by decide +kernel
theorem dX8_top_0 : decode cX8_top 0 = .ok (.aload_n 0, 1) := by decide +kernel
theorem dX8_top_1 : decode cX8_top 1 = .ok (.getfield 19, 3) := by decide +kernel
theorem dX8_top_4 : decode cX8_top 4 = .ok (.getfield 47, 3) := by decide +kernel
theorem dX8_top_7 : decode cX8_top 7 = .ok (.lreturn, 1) := by decide +kernel
theorem dX8_bottom_0 : decode cX8_bottom 0 = .ok (.aload_n 0, 1) := by decide +kernel
theorem dX8_bottom_1 : decode cX8_bottom 1 = .ok (.getfield 19, 3) := by decide +kernel
theorem dX8_bottom_4 : decode cX8_bottom 4 = .ok (.getfield 51, 3) := by decide +kernel
theorem dX8_bottom_7 : decode cX8_bottom 7 = .ok (.lreturn, 1) := by decide +kernel
theorem dX8_sheet_0 : decode cX8_sheet 0 = .ok (.iload_n 1, 1) := by decide +kernel
theorem dX8_sheet_1 : decode cX8_sheet 1 = .ok (.i2l, 1) := by decide +kernel
theorem dX8_sheet_2 : decode cX8_sheet 2 = .ok (.lconst 0, 1) := by decide +kernel
theorem dX8_sheet_3 : decode cX8_sheet 3 = .ok (.ldc2_w 54, 3) := by decide +kernel
theorem dX8_sheet_6 : decode cX8_sheet 6 = .ok (.invokestatic 56, 3) := by decide +kernel
theorem dX8_sheet_9 : decode cX8_sheet 9 = .ok (.ifCond .eq 31, 3) := by decide +kernel
theorem dX8_sheet_12 : decode cX8_sheet 12 = .ok (.iload_n 2, 1) := by decide +kernel
theorem dX8_sheet_13 : decode cX8_sheet 13 = .ok (.i2l, 1) := by decide +kernel
theorem dX8_sheet_14 : decode cX8_sheet 14 = .ok (.lconst 0, 1) := by decide +kernel
theorem dX8_sheet_15 : decode cX8_sheet 15 = .ok (.ldc2_w 54, 3) := by decide +kernel
theorem dX8_sheet_18 : decode cX8_sheet 18 = .ok (.invokestatic 56, 3) := by decide +kernel
theorem dX8_sheet_21 : decode cX8_sheet 21 = .ok (.ifCond .eq 19, 3) := by decide +kernel
theorem dX8_sheet_24 : decode cX8_sheet 24 = .ok (.iload_n 3, 1) := by decide +kernel
theorem dX8_sheet_25 : decode cX8_sheet 25 = .ok (.i2l, 1) := by decide +kernel
theorem dX8_sheet_26 : decode cX8_sheet 26 = .ok (.lconst 0, 1) := by decide +kernel
theorem dX8_sheet_27 : decode cX8_sheet 27 = .ok (.ldc2_w 60, 3) := by decide +kernel
theorem dX8_sheet_30 : decode cX8_sheet 30 = .ok (.invokestatic 56, 3) := by decide +kernel
theorem dX8_sheet_33 : decode cX8_sheet 33 = .ok (.ifCond .eq 7, 3) := by decide +kernel
theorem dX8_sheet_36 : decode cX8_sheet 36 = .ok (.iconst 1, 1) := by decide +kernel
theorem dX8_sheet_37 : decode cX8_sheet 37 = .ok (.goto 4, 3) := by decide +kernel
theorem dX8_sheet_40 : decode cX8_sheet 40 = .ok (.iconst 0, 1) := by decide +kernel
theorem dX8_sheet_41 : decode cX8_sheet 41 = .ok (.istore 4, 2) := by decide +kernel
theorem dX8_sheet_43 : decode cX8_sheet 43 = .ok (.aload_n 0, 1) := by decide +kernel
theorem dX8_sheet_44 : decode cX8_sheet 44 = .ok (.iload 4, 2) := by decide +kernel
theorem dX8_sheet_46 : decode cX8_sheet 46 = .ok (.ifCond .eq 7, 3) := by decide +kernel
theorem dX8_sheet_49 : decode cX8_sheet 49 = .ok (.iconst 0, 1) := by decide +kernel
theorem dX8_sheet_50 : decode cX8_sheet 50 = .ok (.goto 4, 3) := by decide +kernel
theorem dX8_sheet_53 : decode cX8_sheet 53 = .ok (.iconst 1, 1) := by decide +kernel
theorem dX8_sheet_54 : decode cX8_sheet 54 = .ok (.invokevirtual 62, 3) := by decide +kernel
theorem dX8_sheet_57 : decode cX8_sheet 57 = .ok (.ifCond .ne 5, 3) := by decide +kernel
theorem dX8_sheet_60 : decode cX8_sheet 60 = .ok (.iconst 0, 1) := by decide +kernel
theorem dX8_sheet_61 : decode cX8_sheet 61 = .ok (.ireturn, 1) := by decide +kernel
theorem dX8_sheet_62 : decode cX8_sheet 62 = .ok (.aload_n 0, 1) := by decide +kernel
theorem dX8_sheet_63 : decode cX8_sheet 63 = .ok (.getfield 10, 3) := by decide +kernel
theorem dX8_sheet_66 : decode cX8_sheet 66 = .ok (.iload_n 1, 1) := by decide +kernel
theorem dX8_sheet_67 : decode cX8_sheet 67 = .ok (.iload_n 2, 1) := by decide +kernel
theorem dX8_sheet_68 : decode cX8_sheet 68 = .ok (.iload_n 3, 1) := by decide +kernel
theorem dX8_sheet_69 : decode cX8_sheet 69 = .ok (.invokevirtual 66, 3) := by decide +kernel
theorem dX8_sheet_72 : decode cX8_sheet 72 = .ok (.iconst 1, 1) := by decide +kernel
theorem dX8_sheet_73 : decode cX8_sheet 73 = .ok (.ireturn, 1) := by decide +kernel
theorem dX8_write_0 : decode cX8_write 0 = .ok (.aload_n 0, 1) := by decide +kernel
theorem dX8_write_1 : decode cX8_write 1 = .ok (.aload_n 0, 1) := by decide +kernel
theorem dX8_write_2 : decode cX8_write 2 = .ok (.getfield 10, 3) := by decide +kernel
theorem dX8_write_5 : decode cX8_write 5 = .ok (.iload_n 1, 1) := by decide +kernel
theorem dX8_write_6 : decode cX8_write 6 = .ok (.iload_n 2, 1) := by decide +kernel
theorem dX8_write_7 : decode cX8_write 7 = .ok (.iconst 1, 1) := by decide +kernel
theorem dX8_write_8 : decode cX8_write 8 = .ok (.invokevirtual 70, 3) := by decide +kernel
theorem dX8_write_11 : decode cX8_write 11 = .ok (.invokevirtual 62, 3) := by decide +kernel
theorem dX8_write_14 : decode cX8_write 14 = .ok (.ifCond .ne 5, 3) := by decide +kernel
theorem dX8_write_17 : decode cX8_write 17 = .ok (.iconst 0, 1) := by decide +kernel
theorem dX8_write_18 : decode cX8_write 18 = .ok (.ireturn, 1) := by decide +kernel
theorem dX8_write_19 : decode cX8_write 19 = .ok (.aload_n 0, 1) := by decide +kernel
theorem dX8_write_20 : decode cX8_write 20 = .ok (.getfield 10, 3) := by decide +kernel
theorem dX8_write_23 : decode cX8_write 23 = .ok (.iload_n 1, 1) := by decide +kernel
theorem dX8_write_24 : decode cX8_write 24 = .ok (.iload_n 2, 1) := by decide +kernel
theorem dX8_write_25 : decode cX8_write 25 = .ok (.lload_n 3, 1) := by decide +kernel
theorem dX8_write_26 : decode cX8_write 26 = .ok (.invokevirtual 74, 3) := by decide +kernel
theorem dX8_write_29 : decode cX8_write 29 = .ok (.iconst 1, 1) := by decide +kernel
theorem dX8_write_30 : decode cX8_write 30 = .ok (.ireturn, 1) := by decide +kernel
theorem dX8_read_0 : decode cX8_read 0 = .ok (.aload_n 0, 1) := by decide +kernel
theorem dX8_read_1 : decode cX8_read 1 = .ok (.aload_n 0, 1) := by decide +kernel
theorem dX8_read_2 : decode cX8_read 2 = .ok (.getfield 10, 3) := by decide +kernel
theorem dX8_read_5 : decode cX8_read 5 = .ok (.iload_n 1, 1) := by decide +kernel
theorem dX8_read_6 : decode cX8_read 6 = .ok (.iload_n 2, 1) := by decide +kernel
theorem dX8_read_7 : decode cX8_read 7 = .ok (.iconst 1, 1) := by decide +kernel
theorem dX8_read_8 : decode cX8_read 8 = .ok (.invokevirtual 70, 3) := by decide +kernel
theorem dX8_read_11 : decode cX8_read 11 = .ok (.invokevirtual 62, 3) := by decide +kernel
theorem dX8_read_14 : decode cX8_read 14 = .ok (.ifCond .ne 7, 3) := by decide +kernel
theorem dX8_read_17 : decode cX8_read 17 = .ok (.ldc2_w 78, 3) := by decide +kernel
theorem dX8_read_20 : decode cX8_read 20 = .ok (.lreturn, 1) := by decide +kernel
theorem dX8_read_21 : decode cX8_read 21 = .ok (.aload_n 0, 1) := by decide +kernel
theorem dX8_read_22 : decode cX8_read 22 = .ok (.getfield 10, 3) := by decide +kernel
theorem dX8_read_25 : decode cX8_read 25 = .ok (.iload_n 1, 1) := by decide +kernel
theorem dX8_read_26 : decode cX8_read 26 = .ok (.iload_n 2, 1) := by decide +kernel
theorem dX8_read_27 : decode cX8_read 27 = .ok (.invokevirtual 80, 3) := by decide +kernel
theorem dX8_read_30 : decode cX8_read 30 = .ok (.lreturn, 1) := by decide +kernel
theorem dX8_copy_0 : decode cX8_copy 0 = .ok (.iload_n 2, 1) := by decide +kernel
theorem dX8_copy_1 : decode cX8_copy 1 = .ok (.ifCond .lt 8, 3) := by decide +kernel
theorem dX8_copy_4 : decode cX8_copy 4 = .ok (.iload 4, 2) := by decide +kernel
theorem dX8_copy_6 : decode cX8_copy 6 = .ok (.ifCond .ge 7, 3) := by decide +kernel
theorem dX8_copy_9 : decode cX8_copy 9 = .ok (.iconst 1, 1) := by decide +kernel
theorem dX8_copy_10 : decode cX8_copy 10 = .ok (.goto 4, 3) := by decide +kernel
theorem dX8_copy_13 : decode cX8_copy 13 = .ok (.iconst 0, 1) := by decide +kernel
theorem dX8_copy_14 : decode cX8_copy 14 = .ok (.istore 6, 2) := by decide +kernel
theorem dX8_copy_16 : decode cX8_copy 16 = .ok (.aload_n 0, 1) := by decide +kernel
theorem dX8_copy_17 : decode cX8_copy 17 = .ok (.iload 6, 2) := by decide +kernel
theorem dX8_copy_19 : decode cX8_copy 19 = .ok (.aload_n 0, 1) := by decide +kernel
theorem dX8_copy_20 : decode cX8_copy 20 = .ok (.getfield 10, 3) := by decide +kernel
theorem dX8_copy_23 : decode cX8_copy 23 = .ok (.iload_n 1, 1) := by decide +kernel
theorem dX8_copy_24 : decode cX8_copy 24 = .ok (.iload_n 2, 1) := by decide +kernel
theorem dX8_copy_25 : decode cX8_copy 25 = .ok (.iload 5, 2) := by decide +kernel
theorem dX8_copy_27 : decode cX8_copy 27 = .ok (.invokevirtual 70, 3) := by decide +kernel
theorem dX8_copy_30 : decode cX8_copy 30 = .ok (.aload_n 0, 1) := by decide +kernel
theorem dX8_copy_31 : decode cX8_copy 31 = .ok (.getfield 10, 3) := by decide +kernel
theorem dX8_copy_34 : decode cX8_copy 34 = .ok (.iload_n 3, 1) := by decide +kernel
theorem dX8_copy_35 : decode cX8_copy 35 = .ok (.iload 4, 2) := by decide +kernel
theorem dX8_copy_37 : decode cX8_copy 37 = .ok (.iload 5, 2) := by decide +kernel
theorem dX8_copy_39 : decode cX8_copy 39 = .ok (.invokevirtual 70, 3) := by decide +kernel
theorem dX8_copy_42 : decode cX8_copy 42 = .ok (.invokestatic 84, 3) := by decide +kernel
theorem dX8_copy_45 : decode cX8_copy 45 = .ok (.invokestatic 84, 3) := by decide +kernel
theorem dX8_copy_48 : decode cX8_copy 48 = .ok (.invokevirtual 62, 3) := by decide +kernel
theorem dX8_copy_51 : decode cX8_copy 51 = .ok (.ifCond .ne 5, 3) := by decide +kernel
theorem dX8_copy_54 : decode cX8_copy 54 = .ok (.iconst 0, 1) := by decide +kernel
theorem dX8_copy_55 : decode cX8_copy 55 = .ok (.ireturn, 1) := by decide +kernel
theorem dX8_copy_56 : decode cX8_copy 56 = .ok (.aload_n 0, 1) := by decide +kernel
theorem dX8_copy_57 : decode cX8_copy 57 = .ok (.getfield 10, 3) := by decide +kernel
theorem dX8_copy_60 : decode cX8_copy 60 = .ok (.iload_n 1, 1) := by decide +kernel
theorem dX8_copy_61 : decode cX8_copy 61 = .ok (.iload_n 2, 1) := by decide +kernel
theorem dX8_copy_62 : decode cX8_copy 62 = .ok (.iload_n 3, 1) := by decide +kernel
theorem dX8_copy_63 : decode cX8_copy 63 = .ok (.iload 4, 2) := by decide +kernel
theorem dX8_copy_65 : decode cX8_copy 65 = .ok (.iload 5, 2) := by decide +kernel
theorem dX8_copy_67 : decode cX8_copy 67 = .ok (.invokevirtual 88, 3) := by decide +kernel
theorem dX8_copy_70 : decode cX8_copy 70 = .ok (.iconst 1, 1) := by decide +kernel
theorem dX8_copy_71 : decode cX8_copy 71 = .ok (.ireturn, 1) := by decide +kernel
theorem dX8_drop_0 : decode cX8_drop 0 = .ok (.aload_n 0, 1) := by decide +kernel
theorem dX8_drop_1 : decode cX8_drop 1 = .ok (.aload_n 0, 1) := by decide +kernel
theorem dX8_drop_2 : decode cX8_drop 2 = .ok (.getfield 10, 3) := by decide +kernel
theorem dX8_drop_5 : decode cX8_drop 5 = .ok (.iload_n 1, 1) := by decide +kernel
theorem dX8_drop_6 : decode cX8_drop 6 = .ok (.iconst 0, 1) := by decide +kernel
theorem dX8_drop_7 : decode cX8_drop 7 = .ok (.iconst 0, 1) := by decide +kernel
theorem dX8_drop_8 : decode cX8_drop 8 = .ok (.invokevirtual 70, 3) := by decide +kernel
theorem dX8_drop_11 : decode cX8_drop 11 = .ok (.invokevirtual 62, 3) := by decide +kernel
theorem dX8_drop_14 : decode cX8_drop 14 = .ok (.ifCond .ne 5, 3) := by decide +kernel
theorem dX8_drop_17 : decode cX8_drop 17 = .ok (.iconst 0, 1) := by decide +kernel
theorem dX8_drop_18 : decode cX8_drop 18 = .ok (.ireturn, 1) := by decide +kernel
theorem dX8_drop_19 : decode cX8_drop 19 = .ok (.aload_n 0, 1) := by decide +kernel
theorem dX8_drop_20 : decode cX8_drop 20 = .ok (.getfield 10, 3) := by decide +kernel
theorem dX8_drop_23 : decode cX8_drop 23 = .ok (.iload_n 1, 1) := by decide +kernel
theorem dX8_drop_24 : decode cX8_drop 24 = .ok (.invokevirtual 92, 3) := by decide +kernel
theorem dX8_drop_27 : decode cX8_drop 27 = .ok (.iconst 1, 1) := by decide +kernel
theorem dX8_drop_28 : decode cX8_drop 28 = .ok (.ireturn, 1) := by decide +kernel
theorem dX8_none_0 : decode cX8_none 0 = .ok (.aload_n 0, 1) := by decide +kernel
theorem dX8_none_1 : decode cX8_none 1 = .ok (.bipush 10, 2) := by decide +kernel
theorem dX8_none_3 : decode cX8_none 3 = .ok (.invokevirtual 62, 3) := by decide +kernel
theorem dX8_none_6 : decode cX8_none 6 = .ok (.ireturn, 1) := by decide +kernel
theorem dX8_numbers_0 : decode cX8_numbers 0 = .ok (.iload_n 1, 1) := by decide +kernel
theorem dX8_numbers_1 : decode cX8_numbers 1 = .ok (.i2l, 1) := by decide +kernel
theorem dX8_numbers_2 : decode cX8_numbers 2 = .ok (.lconst 1, 1) := by decide +kernel
theorem dX8_numbers_3 : decode cX8_numbers 3 = .ok (.ldc2_w 96, 3) := by decide +kernel
theorem dX8_numbers_6 : decode cX8_numbers 6 = .ok (.invokestatic 56, 3) := by decide +kernel
theorem dX8_numbers_9 : decode cX8_numbers 9 = .ok (.ifCond .eq 29, 3) := by decide +kernel
theorem dX8_numbers_12 : decode cX8_numbers 12 = .ok (.iload_n 2, 1) := by decide +kernel
theorem dX8_numbers_13 : decode cX8_numbers 13 = .ok (.i2l, 1) := by decide +kernel
theorem dX8_numbers_14 : decode cX8_numbers 14 = .ok (.lconst 1, 1) := by decide +kernel
theorem dX8_numbers_15 : decode cX8_numbers 15 = .ok (.iload_n 1, 1) := by decide +kernel
theorem dX8_numbers_16 : decode cX8_numbers 16 = .ok (.i2l, 1) := by decide +kernel
theorem dX8_numbers_17 : decode cX8_numbers 17 = .ok (.invokestatic 56, 3) := by decide +kernel
theorem dX8_numbers_20 : decode cX8_numbers 20 = .ok (.ifCond .eq 18, 3) := by decide +kernel
theorem dX8_numbers_23 : decode cX8_numbers 23 = .ok (.iload_n 3, 1) := by decide +kernel
theorem dX8_numbers_24 : decode cX8_numbers 24 = .ok (.i2l, 1) := by decide +kernel
theorem dX8_numbers_25 : decode cX8_numbers 25 = .ok (.lconst 1, 1) := by decide +kernel
theorem dX8_numbers_26 : decode cX8_numbers 26 = .ok (.iload_n 1, 1) := by decide +kernel
theorem dX8_numbers_27 : decode cX8_numbers 27 = .ok (.i2l, 1) := by decide +kernel
theorem dX8_numbers_28 : decode cX8_numbers 28 = .ok (.invokestatic 56, 3) := by decide +kernel
theorem dX8_numbers_31 : decode cX8_numbers 31 = .ok (.ifCond .eq 7, 3) := by decide +kernel
theorem dX8_numbers_34 : decode cX8_numbers 34 = .ok (.iconst 1, 1) := by decide +kernel
theorem dX8_numbers_35 : decode cX8_numbers 35 = .ok (.goto 4, 3) := by decide +kernel
theorem dX8_numbers_38 : decode cX8_numbers 38 = .ok (.iconst 0, 1) := by decide +kernel
theorem dX8_numbers_39 : decode cX8_numbers 39 = .ok (.istore 4, 2) := by decide +kernel
theorem dX8_numbers_41 : decode cX8_numbers 41 = .ok (.aload_n 0, 1) := by decide +kernel
theorem dX8_numbers_42 : decode cX8_numbers 42 = .ok (.iload 4, 2) := by decide +kernel
theorem dX8_numbers_44 : decode cX8_numbers 44 = .ok (.ifCond .eq 7, 3) := by decide +kernel
theorem dX8_numbers_47 : decode cX8_numbers 47 = .ok (.iconst 0, 1) := by decide +kernel
theorem dX8_numbers_48 : decode cX8_numbers 48 = .ok (.goto 4, 3) := by decide +kernel
theorem dX8_numbers_51 : decode cX8_numbers 51 = .ok (.iconst 1, 1) := by decide +kernel
theorem dX8_numbers_52 : decode cX8_numbers 52 = .ok (.invokevirtual 62, 3) := by decide +kernel
theorem dX8_numbers_55 : decode cX8_numbers 55 = .ok (.ifCond .ne 5, 3) := by decide +kernel
theorem dX8_numbers_58 : decode cX8_numbers 58 = .ok (.iconst 0, 1) := by decide +kernel
theorem dX8_numbers_59 : decode cX8_numbers 59 = .ok (.ireturn, 1) := by decide +kernel
theorem dX8_numbers_60 : decode cX8_numbers 60 = .ok (.aload_n 0, 1) := by decide +kernel
theorem dX8_numbers_61 : decode cX8_numbers 61 = .ok (.getfield 19, 3) := by decide +kernel
theorem dX8_numbers_64 : decode cX8_numbers 64 = .ok (.iload_n 1, 1) := by decide +kernel
theorem dX8_numbers_65 : decode cX8_numbers 65 = .ok (.putfield 98, 3) := by decide +kernel
theorem dX8_numbers_68 : decode cX8_numbers 68 = .ok (.aload_n 0, 1) := by decide +kernel
theorem dX8_numbers_69 : decode cX8_numbers 69 = .ok (.getfield 19, 3) := by decide +kernel
theorem dX8_numbers_72 : decode cX8_numbers 72 = .ok (.iload_n 2, 1) := by decide +kernel
theorem dX8_numbers_73 : decode cX8_numbers 73 = .ok (.putfield 101, 3) := by decide +kernel
theorem dX8_numbers_76 : decode cX8_numbers 76 = .ok (.aload_n 0, 1) := by decide +kernel
theorem dX8_numbers_77 : decode cX8_numbers 77 = .ok (.getfield 19, 3) := by decide +kernel
theorem dX8_numbers_80 : decode cX8_numbers 80 = .ok (.iload_n 3, 1) := by decide +kernel
theorem dX8_numbers_81 : decode cX8_numbers 81 = .ok (.putfield 104, 3) := by decide +kernel
theorem dX8_numbers_84 : decode cX8_numbers 84 = .ok (.iconst 1, 1) := by decide +kernel
theorem dX8_numbers_85 : decode cX8_numbers 85 = .ok (.ireturn, 1) := by decide +kernel
theorem dX8_gap_0 : decode cX8_gap 0 = .ok (.aload_n 0, 1) := by decide +kernel
theorem dX8_gap_1 : decode cX8_gap 1 = .ok (.iload_n 1, 1) := by decide +kernel
theorem dX8_gap_2 : decode cX8_gap 2 = .ok (.i2l, 1) := by decide +kernel
theorem dX8_gap_3 : decode cX8_gap 3 = .ok (.lconst 0, 1) := by decide +kernel
theorem dX8_gap_4 : decode cX8_gap 4 = .ok (.ldc2_w 107, 3) := by decide +kernel
theorem dX8_gap_7 : decode cX8_gap 7 = .ok (.invokestatic 56, 3) := by decide +kernel
theorem dX8_gap_10 : decode cX8_gap 10 = .ok (.ifCond .eq 7, 3) := by decide +kernel
theorem dX8_gap_13 : decode cX8_gap 13 = .ok (.iconst 0, 1) := by decide +kernel
theorem dX8_gap_14 : decode cX8_gap 14 = .ok (.goto 4, 3) := by decide +kernel
theorem dX8_gap_17 : decode cX8_gap 17 = .ok (.iconst 1, 1) := by decide +kernel
theorem dX8_gap_18 : decode cX8_gap 18 = .ok (.invokevirtual 62, 3) := by decide +kernel
theorem dX8_gap_21 : decode cX8_gap 21 = .ok (.ifCond .ne 5, 3) := by decide +kernel
theorem dX8_gap_24 : decode cX8_gap 24 = .ok (.iconst 0, 1) := by decide +kernel
theorem dX8_gap_25 : decode cX8_gap 25 = .ok (.ireturn, 1) := by decide +kernel
theorem dX8_gap_26 : decode cX8_gap 26 = .ok (.aload_n 0, 1) := by decide +kernel
theorem dX8_gap_27 : decode cX8_gap 27 = .ok (.getfield 19, 3) := by decide +kernel
theorem dX8_gap_30 : decode cX8_gap 30 = .ok (.iload_n 1, 1) := by decide +kernel
theorem dX8_gap_31 : decode cX8_gap 31 = .ok (.putfield 109, 3) := by decide +kernel
theorem dX8_gap_34 : decode cX8_gap 34 = .ok (.iconst 1, 1) := by decide +kernel
theorem dX8_gap_35 : decode cX8_gap 35 = .ok (.ireturn, 1) := by decide +kernel
theorem dX8_table_0 : decode cX8_table 0 = .ok (.iload_n 1, 1) := by decide +kernel
theorem dX8_table_1 : decode cX8_table 1 = .ok (.i2l, 1) := by decide +kernel
theorem dX8_table_2 : decode cX8_table 2 = .ok (.lconst 0, 1) := by decide +kernel
theorem dX8_table_3 : decode cX8_table 3 = .ok (.ldc2_w 54, 3) := by decide +kernel
theorem dX8_table_6 : decode cX8_table 6 = .ok (.invokestatic 56, 3) := by decide +kernel
theorem dX8_table_9 : decode cX8_table 9 = .ok (.ifCond .eq 19, 3) := by decide +kernel
theorem dX8_table_12 : decode cX8_table 12 = .ok (.iload_n 3, 1) := by decide +kernel
theorem dX8_table_13 : decode cX8_table 13 = .ok (.i2l, 1) := by decide +kernel
theorem dX8_table_14 : decode cX8_table 14 = .ok (.lconst 1, 1) := by decide +kernel
theorem dX8_table_15 : decode cX8_table 15 = .ok (.ldc2_w 112, 3) := by decide +kernel
theorem dX8_table_18 : decode cX8_table 18 = .ok (.invokestatic 56, 3) := by decide +kernel
theorem dX8_table_21 : decode cX8_table 21 = .ok (.ifCond .eq 7, 3) := by decide +kernel
theorem dX8_table_24 : decode cX8_table 24 = .ok (.iconst 1, 1) := by decide +kernel
theorem dX8_table_25 : decode cX8_table 25 = .ok (.goto 4, 3) := by decide +kernel
theorem dX8_table_28 : decode cX8_table 28 = .ok (.iconst 0, 1) := by decide +kernel
theorem dX8_table_29 : decode cX8_table 29 = .ok (.istore 4, 2) := by decide +kernel
theorem dX8_table_31 : decode cX8_table 31 = .ok (.iload 4, 2) := by decide +kernel
theorem dX8_table_33 : decode cX8_table 33 = .ok (.ifCond .eq 7, 3) := by decide +kernel
theorem dX8_table_36 : decode cX8_table 36 = .ok (.iconst 0, 1) := by decide +kernel
theorem dX8_table_37 : decode cX8_table 37 = .ok (.goto 4, 3) := by decide +kernel
theorem dX8_table_40 : decode cX8_table 40 = .ok (.iconst 1, 1) := by decide +kernel
theorem dX8_table_41 : decode cX8_table 41 = .ok (.aload_n 0, 1) := by decide +kernel
theorem dX8_table_42 : decode cX8_table 42 = .ok (.getfield 10, 3) := by decide +kernel
theorem dX8_table_45 : decode cX8_table 45 = .ok (.iload_n 2, 1) := by decide +kernel
theorem dX8_table_46 : decode cX8_table 46 = .ok (.iconst 0, 1) := by decide +kernel
theorem dX8_table_47 : decode cX8_table 47 = .ok (.iload_n 3, 1) := by decide +kernel
theorem dX8_table_48 : decode cX8_table 48 = .ok (.invokevirtual 70, 3) := by decide +kernel
theorem dX8_table_51 : decode cX8_table 51 = .ok (.invokestatic 84, 3) := by decide +kernel
theorem dX8_table_54 : decode cX8_table 54 = .ok (.istore 5, 2) := by decide +kernel
theorem dX8_table_56 : decode cX8_table 56 = .ok (.aload_n 0, 1) := by decide +kernel
theorem dX8_table_57 : decode cX8_table 57 = .ok (.iload 5, 2) := by decide +kernel
theorem dX8_table_59 : decode cX8_table 59 = .ok (.ifCond .ne 12, 3) := by decide +kernel
theorem dX8_table_62 : decode cX8_table 62 = .ok (.aload_n 0, 1) := by decide +kernel
theorem dX8_table_63 : decode cX8_table 63 = .ok (.iload_n 2, 1) := by decide +kernel
theorem dX8_table_64 : decode cX8_table 64 = .ok (.iload_n 3, 1) := by decide +kernel
theorem dX8_table_65 : decode cX8_table 65 = .ok (.invokevirtual 114, 3) := by decide +kernel
theorem dX8_table_68 : decode cX8_table 68 = .ok (.goto 5, 3) := by decide +kernel
theorem dX8_table_71 : decode cX8_table 71 = .ok (.iload 5, 2) := by decide +kernel
theorem dX8_table_73 : decode cX8_table 73 = .ok (.invokevirtual 62, 3) := by decide +kernel
theorem dX8_table_76 : decode cX8_table 76 = .ok (.ifCond .ne 5, 3) := by decide +kernel
theorem dX8_table_79 : decode cX8_table 79 = .ok (.iconst 0, 1) := by decide +kernel
theorem dX8_table_80 : decode cX8_table 80 = .ok (.ireturn, 1) := by decide +kernel
theorem dX8_table_81 : decode cX8_table 81 = .ok (.iconst 0, 1) := by decide +kernel
theorem dX8_table_82 : decode cX8_table 82 = .ok (.istore 6, 2) := by decide +kernel
theorem dX8_table_84 : decode cX8_table 84 = .ok (.iload 6, 2) := by decide +kernel
theorem dX8_table_86 : decode cX8_table 86 = .ok (.bipush 8, 2) := by decide +kernel
theorem dX8_table_88 : decode cX8_table 88 = .ok (.if_icmp .ge 39, 3) := by decide +kernel
theorem dX8_table_91 : decode cX8_table 91 = .ok (.aload_n 0, 1) := by decide +kernel
theorem dX8_table_92 : decode cX8_table 92 = .ok (.getfield 19, 3) := by decide +kernel
theorem dX8_table_95 : decode cX8_table 95 = .ok (.iload_n 1, 1) := by decide +kernel
theorem dX8_table_96 : decode cX8_table 96 = .ok (.iload 6, 2) := by decide +kernel
theorem dX8_table_98 : decode cX8_table 98 = .ok (.iload 6, 2) := by decide +kernel
theorem dX8_table_100 : decode cX8_table 100 = .ok (.iload_n 3, 1) := by decide +kernel
theorem dX8_table_101 : decode cX8_table 101 = .ok (.if_icmp .ge 16, 3) := by decide +kernel
theorem dX8_table_104 : decode cX8_table 104 = .ok (.aload_n 0, 1) := by decide +kernel
theorem dX8_table_105 : decode cX8_table 105 = .ok (.getfield 10, 3) := by decide +kernel
theorem dX8_table_108 : decode cX8_table 108 = .ok (.iload_n 2, 1) := by decide +kernel
theorem dX8_table_109 : decode cX8_table 109 = .ok (.iload 6, 2) := by decide +kernel
theorem dX8_table_111 : decode cX8_table 111 = .ok (.invokevirtual 80, 3) := by decide +kernel
theorem dX8_table_114 : decode cX8_table 114 = .ok (.goto 4, 3) := by decide +kernel
theorem dX8_table_117 : decode cX8_table 117 = .ok (.lconst 0, 1) := by decide +kernel
theorem dX8_table_118 : decode cX8_table 118 = .ok (.invokevirtual 117, 3) := by decide +kernel
theorem dX8_table_121 : decode cX8_table 121 = .ok (.iinc 6 1, 3) := by decide +kernel
theorem dX8_table_124 : decode cX8_table 124 = .ok (.goto (-40), 3) := by decide +kernel
theorem dX8_table_127 : decode cX8_table 127 = .ok (.iconst 1, 1) := by decide +kernel
theorem dX8_table_128 : decode cX8_table 128 = .ok (.ireturn, 1) := by decide +kernel
theorem dX8_takes_0 : decode cX8_takes 0 = .ok (.aload_n 0, 1) := by decide +kernel
theorem dX8_takes_1 : decode cX8_takes 1 = .ok (.iload_n 2, 1) := by decide +kernel
theorem dX8_takes_2 : decode cX8_takes 2 = .ok (.i2l, 1) := by decide +kernel
theorem dX8_takes_3 : decode cX8_takes 3 = .ok (.lconst 0, 1) := by decide +kernel
theorem dX8_takes_4 : decode cX8_takes 4 = .ok (.ldc2_w 120, 3) := by decide +kernel
theorem dX8_takes_7 : decode cX8_takes 7 = .ok (.invokestatic 56, 3) := by decide +kernel
theorem dX8_takes_10 : decode cX8_takes 10 = .ok (.ifCond .eq 7, 3) := by decide +kernel
theorem dX8_takes_13 : decode cX8_takes 13 = .ok (.iconst 0, 1) := by decide +kernel
theorem dX8_takes_14 : decode cX8_takes 14 = .ok (.goto 4, 3) := by decide +kernel
theorem dX8_takes_17 : decode cX8_takes 17 = .ok (.iconst 1, 1) := by decide +kernel
theorem dX8_takes_18 : decode cX8_takes 18 = .ok (.invokevirtual 62, 3) := by decide +kernel
theorem dX8_takes_21 : decode cX8_takes 21 = .ok (.ifCond .ne 5, 3) := by decide +kernel
theorem dX8_takes_24 : decode cX8_takes 24 = .ok (.iconst (-1), 1) := by decide +kernel
theorem dX8_takes_25 : decode cX8_takes 25 = .ok (.ireturn, 1) := by decide +kernel
theorem dX8_takes_26 : decode cX8_takes 26 = .ok (.aload_n 0, 1) := by decide +kernel
theorem dX8_takes_27 : decode cX8_takes 27 = .ok (.getfield 28, 3) := by decide +kernel
theorem dX8_takes_30 : decode cX8_takes 30 = .ok (.iload_n 1, 1) := by decide +kernel
theorem dX8_takes_31 : decode cX8_takes 31 = .ok (.iload_n 2, 1) := by decide +kernel
theorem dX8_takes_32 : decode cX8_takes 32 = .ok (.invokevirtual 122, 3) := by decide +kernel
theorem dX8_takes_35 : decode cX8_takes 35 = .ok (.ireturn, 1) := by decide +kernel
theorem dX8_odds_0 : decode cX8_odds 0 = .ok (.iload_n 1, 1) := by decide +kernel
theorem dX8_odds_1 : decode cX8_odds 1 = .ok (.iload_n 2, 1) := by decide +kernel
theorem dX8_odds_2 : decode cX8_odds 2 = .ok (.iload_n 3, 1) := by decide +kernel
theorem dX8_odds_3 : decode cX8_odds 3 = .ok (.invokestatic 126, 3) := by decide +kernel
theorem dX8_odds_6 : decode cX8_odds 6 = .ok (.ifCond .eq 7, 3) := by decide +kernel
theorem dX8_odds_9 : decode cX8_odds 9 = .ok (.iconst 0, 1) := by decide +kernel
theorem dX8_odds_10 : decode cX8_odds 10 = .ok (.goto 4, 3) := by decide +kernel
theorem dX8_odds_13 : decode cX8_odds 13 = .ok (.iconst 1, 1) := by decide +kernel
theorem dX8_odds_14 : decode cX8_odds 14 = .ok (.istore 4, 2) := by decide +kernel
theorem dX8_odds_16 : decode cX8_odds 16 = .ok (.aload_n 0, 1) := by decide +kernel
theorem dX8_odds_17 : decode cX8_odds 17 = .ok (.iload 4, 2) := by decide +kernel
theorem dX8_odds_19 : decode cX8_odds 19 = .ok (.ifCond .ne 21, 3) := by decide +kernel
theorem dX8_odds_22 : decode cX8_odds 22 = .ok (.aload_n 0, 1) := by decide +kernel
theorem dX8_odds_23 : decode cX8_odds 23 = .ok (.getfield 19, 3) := by decide +kernel
theorem dX8_odds_26 : decode cX8_odds 26 = .ok (.aload_n 0, 1) := by decide +kernel
theorem dX8_odds_27 : decode cX8_odds 27 = .ok (.getfield 19, 3) := by decide +kernel
theorem dX8_odds_30 : decode cX8_odds 30 = .ok (.getfield 98, 3) := by decide +kernel
theorem dX8_odds_33 : decode cX8_odds 33 = .ok (.iload_n 2, 1) := by decide +kernel
theorem dX8_odds_34 : decode cX8_odds 34 = .ok (.invokevirtual 130, 3) := by decide +kernel
theorem dX8_odds_37 : decode cX8_odds 37 = .ok (.goto 5, 3) := by decide +kernel
theorem dX8_odds_40 : decode cX8_odds 40 = .ok (.iload 4, 2) := by decide +kernel
theorem dX8_odds_42 : decode cX8_odds 42 = .ok (.invokevirtual 62, 3) := by decide +kernel
theorem dX8_odds_45 : decode cX8_odds 45 = .ok (.ifCond .ne 5, 3) := by decide +kernel
theorem dX8_odds_48 : decode cX8_odds 48 = .ok (.iconst (-1), 1) := by decide +kernel
theorem dX8_odds_49 : decode cX8_odds 49 = .ok (.ireturn, 1) := by decide +kernel
theorem dX8_odds_50 : decode cX8_odds 50 = .ok (.aload_n 0, 1) := by decide +kernel
theorem dX8_odds_51 : decode cX8_odds 51 = .ok (.getfield 28, 3) := by decide +kernel
theorem dX8_odds_54 : decode cX8_odds 54 = .ok (.iload_n 1, 1) := by decide +kernel
theorem dX8_odds_55 : decode cX8_odds 55 = .ok (.iload_n 3, 1) := by decide +kernel
theorem dX8_odds_56 : decode cX8_odds 56 = .ok (.invokevirtual 133, 3) := by decide +kernel
theorem dX8_odds_59 : decode cX8_odds 59 = .ok (.aload_n 0, 1) := by decide +kernel
theorem dX8_odds_60 : decode cX8_odds 60 = .ok (.getfield 28, 3) := by decide +kernel
theorem dX8_odds_63 : decode cX8_odds 63 = .ok (.invokevirtual 137, 3) := by decide +kernel
theorem dX8_odds_66 : decode cX8_odds 66 = .ok (.ireturn, 1) := by decide +kernel
theorem dX8_choose_0 : decode cX8_choose 0 = .ok (.iload_n 1, 1) := by decide +kernel
theorem dX8_choose_1 : decode cX8_choose 1 = .ok (.i2l, 1) := by decide +kernel
theorem dX8_choose_2 : decode cX8_choose 2 = .ok (.lconst 1, 1) := by decide +kernel
theorem dX8_choose_3 : decode cX8_choose 3 = .ok (.ldc2_w 96, 3) := by decide +kernel
theorem dX8_choose_6 : decode cX8_choose 6 = .ok (.invokestatic 56, 3) := by decide +kernel
theorem dX8_choose_9 : decode cX8_choose 9 = .ok (.ifCond .eq 82, 3) := by decide +kernel
theorem dX8_choose_12 : decode cX8_choose 12 = .ok (.iload_n 2, 1) := by decide +kernel
theorem dX8_choose_13 : decode cX8_choose 13 = .ok (.iload_n 3, 1) := by decide +kernel
theorem dX8_choose_14 : decode cX8_choose 14 = .ok (.iload 4, 2) := by decide +kernel
theorem dX8_choose_16 : decode cX8_choose 16 = .ok (.invokestatic 126, 3) := by decide +kernel
theorem dX8_choose_19 : decode cX8_choose 19 = .ok (.ifCond .eq 72, 3) := by decide +kernel
theorem dX8_choose_22 : decode cX8_choose 22 = .ok (.iload 6, 2) := by decide +kernel
theorem dX8_choose_24 : decode cX8_choose 24 = .ok (.i2l, 1) := by decide +kernel
theorem dX8_choose_25 : decode cX8_choose 25 = .ok (.lconst 1, 1) := by decide +kernel
theorem dX8_choose_26 : decode cX8_choose 26 = .ok (.ldc2_w 141, 3) := by decide +kernel
theorem dX8_choose_29 : decode cX8_choose 29 = .ok (.invokestatic 56, 3) := by decide +kernel
theorem dX8_choose_32 : decode cX8_choose 32 = .ok (.ifCond .eq 59, 3) := by decide +kernel
theorem dX8_choose_35 : decode cX8_choose 35 = .ok (.iload 5, 2) := by decide +kernel
theorem dX8_choose_37 : decode cX8_choose 37 = .ok (.i2l, 1) := by decide +kernel
theorem dX8_choose_38 : decode cX8_choose 38 = .ok (.lconst 0, 1) := by decide +kernel
theorem dX8_choose_39 : decode cX8_choose 39 = .ok (.iload 6, 2) := by decide +kernel
theorem dX8_choose_41 : decode cX8_choose 41 = .ok (.i2l, 1) := by decide +kernel
theorem dX8_choose_42 : decode cX8_choose 42 = .ok (.invokestatic 56, 3) := by decide +kernel
theorem dX8_choose_45 : decode cX8_choose 45 = .ok (.ifCond .eq 46, 3) := by decide +kernel
theorem dX8_choose_48 : decode cX8_choose 48 = .ok (.iload 7, 2) := by decide +kernel
theorem dX8_choose_50 : decode cX8_choose 50 = .ok (.i2l, 1) := by decide +kernel
theorem dX8_choose_51 : decode cX8_choose 51 = .ok (.lconst 0, 1) := by decide +kernel
theorem dX8_choose_52 : decode cX8_choose 52 = .ok (.ldc2_w 143, 3) := by decide +kernel
theorem dX8_choose_55 : decode cX8_choose 55 = .ok (.invokestatic 56, 3) := by decide +kernel
theorem dX8_choose_58 : decode cX8_choose 58 = .ok (.ifCond .eq 33, 3) := by decide +kernel
theorem dX8_choose_61 : decode cX8_choose 61 = .ok (.iload 8, 2) := by decide +kernel
theorem dX8_choose_63 : decode cX8_choose 63 = .ok (.i2l, 1) := by decide +kernel
theorem dX8_choose_64 : decode cX8_choose 64 = .ok (.lconst 0, 1) := by decide +kernel
theorem dX8_choose_65 : decode cX8_choose 65 = .ok (.ldc2_w 143, 3) := by decide +kernel
theorem dX8_choose_68 : decode cX8_choose 68 = .ok (.invokestatic 56, 3) := by decide +kernel
theorem dX8_choose_71 : decode cX8_choose 71 = .ok (.ifCond .eq 20, 3) := by decide +kernel
theorem dX8_choose_74 : decode cX8_choose 74 = .ok (.iload 9, 2) := by decide +kernel
theorem dX8_choose_76 : decode cX8_choose 76 = .ok (.i2l, 1) := by decide +kernel
theorem dX8_choose_77 : decode cX8_choose 77 = .ok (.lconst 0, 1) := by decide +kernel
theorem dX8_choose_78 : decode cX8_choose 78 = .ok (.ldc2_w 143, 3) := by decide +kernel
theorem dX8_choose_81 : decode cX8_choose 81 = .ok (.invokestatic 56, 3) := by decide +kernel
theorem dX8_choose_84 : decode cX8_choose 84 = .ok (.ifCond .eq 7, 3) := by decide +kernel
theorem dX8_choose_87 : decode cX8_choose 87 = .ok (.iconst 1, 1) := by decide +kernel
theorem dX8_choose_88 : decode cX8_choose 88 = .ok (.goto 4, 3) := by decide +kernel
theorem dX8_choose_91 : decode cX8_choose 91 = .ok (.iconst 0, 1) := by decide +kernel
theorem dX8_choose_92 : decode cX8_choose 92 = .ok (.istore 10, 2) := by decide +kernel
theorem dX8_choose_94 : decode cX8_choose 94 = .ok (.aload_n 0, 1) := by decide +kernel
theorem dX8_choose_95 : decode cX8_choose 95 = .ok (.iload 10, 2) := by decide +kernel
theorem dX8_choose_97 : decode cX8_choose 97 = .ok (.ifCond .eq 15, 3) := by decide +kernel
theorem dX8_choose_100 : decode cX8_choose 100 = .ok (.aload_n 0, 1) := by decide +kernel
theorem dX8_choose_101 : decode cX8_choose 101 = .ok (.getfield 19, 3) := by decide +kernel
theorem dX8_choose_104 : decode cX8_choose 104 = .ok (.iload_n 1, 1) := by decide +kernel
theorem dX8_choose_105 : decode cX8_choose 105 = .ok (.iload_n 3, 1) := by decide +kernel
theorem dX8_choose_106 : decode cX8_choose 106 = .ok (.invokevirtual 130, 3) := by decide +kernel
theorem dX8_choose_109 : decode cX8_choose 109 = .ok (.goto 4, 3) := by decide +kernel
theorem dX8_choose_112 : decode cX8_choose 112 = .ok (.iconst 1, 1) := by decide +kernel
theorem dX8_choose_113 : decode cX8_choose 113 = .ok (.invokevirtual 62, 3) := by decide +kernel
theorem dX8_choose_116 : decode cX8_choose 116 = .ok (.ifCond .ne 5, 3) := by decide +kernel
theorem dX8_choose_119 : decode cX8_choose 119 = .ok (.iconst (-1), 1) := by decide +kernel
theorem dX8_choose_120 : decode cX8_choose 120 = .ok (.ireturn, 1) := by decide +kernel
theorem dX8_choose_121 : decode cX8_choose 121 = .ok (.aload_n 0, 1) := by decide +kernel
theorem dX8_choose_122 : decode cX8_choose 122 = .ok (.getfield 28, 3) := by decide +kernel
theorem dX8_choose_125 : decode cX8_choose 125 = .ok (.iload_n 2, 1) := by decide +kernel
theorem dX8_choose_126 : decode cX8_choose 126 = .ok (.iload 4, 2) := by decide +kernel
theorem dX8_choose_128 : decode cX8_choose 128 = .ok (.invokevirtual 133, 3) := by decide +kernel
theorem dX8_choose_131 : decode cX8_choose 131 = .ok (.aload_n 0, 1) := by decide +kernel
theorem dX8_choose_132 : decode cX8_choose 132 = .ok (.getfield 28, 3) := by decide +kernel
theorem dX8_choose_135 : decode cX8_choose 135 = .ok (.iload_n 1, 1) := by decide +kernel
theorem dX8_choose_136 : decode cX8_choose 136 = .ok (.iload 5, 2) := by decide +kernel
theorem dX8_choose_138 : decode cX8_choose 138 = .ok (.iload 6, 2) := by decide +kernel
theorem dX8_choose_140 : decode cX8_choose 140 = .ok (.iload 7, 2) := by decide +kernel
theorem dX8_choose_142 : decode cX8_choose 142 = .ok (.iload 8, 2) := by decide +kernel
theorem dX8_choose_144 : decode cX8_choose 144 = .ok (.iload 9, 2) := by decide +kernel
theorem dX8_choose_146 : decode cX8_choose 146 = .ok (.invokevirtual 145, 3) := by decide +kernel
theorem dX8_choose_149 : decode cX8_choose 149 = .ok (.istore 11, 2) := by decide +kernel
theorem dX8_choose_151 : decode cX8_choose 151 = .ok (.aload_n 0, 1) := by decide +kernel
theorem dX8_choose_152 : decode cX8_choose 152 = .ok (.iload 11, 2) := by decide +kernel
theorem dX8_choose_154 : decode cX8_choose 154 = .ok (.iconst (-1), 1) := by decide +kernel
theorem dX8_choose_155 : decode cX8_choose 155 = .ok (.if_icmp .ne 8, 3) := by decide +kernel
theorem dX8_choose_158 : decode cX8_choose 158 = .ok (.bipush 8, 2) := by decide +kernel
theorem dX8_choose_160 : decode cX8_choose 160 = .ok (.goto 4, 3) := by decide +kernel
theorem dX8_choose_163 : decode cX8_choose 163 = .ok (.iconst 0, 1) := by decide +kernel
theorem dX8_choose_164 : decode cX8_choose 164 = .ok (.invokevirtual 62, 3) := by decide +kernel
theorem dX8_choose_167 : decode cX8_choose 167 = .ok (.pop, 1) := by decide +kernel
theorem dX8_choose_168 : decode cX8_choose 168 = .ok (.iload 11, 2) := by decide +kernel
theorem dX8_choose_170 : decode cX8_choose 170 = .ok (.ireturn, 1) := by decide +kernel
theorem dX8_begin_0 : decode cX8_begin 0 = .ok (.aload_n 0, 1) := by decide +kernel
theorem dX8_begin_1 : decode cX8_begin 1 = .ok (.iconst 1, 1) := by decide +kernel
theorem dX8_begin_2 : decode cX8_begin 2 = .ok (.putfield 39, 3) := by decide +kernel
theorem dX8_begin_5 : decode cX8_begin 5 = .ok (.aload_n 0, 1) := by decide +kernel
theorem dX8_begin_6 : decode cX8_begin 6 = .ok (.getfield 35, 3) := by decide +kernel
theorem dX8_begin_9 : decode cX8_begin 9 = .ok (.aload_n 0, 1) := by decide +kernel
theorem dX8_begin_10 : decode cX8_begin 10 = .ok (.getfield 19, 3) := by decide +kernel
theorem dX8_begin_13 : decode cX8_begin 13 = .ok (.getfield 98, 3) := by decide +kernel
theorem dX8_begin_16 : decode cX8_begin 16 = .ok (.aload_n 0, 1) := by decide +kernel
theorem dX8_begin_17 : decode cX8_begin 17 = .ok (.getfield 19, 3) := by decide +kernel
theorem dX8_begin_20 : decode cX8_begin 20 = .ok (.getfield 101, 3) := by decide +kernel
theorem dX8_begin_23 : decode cX8_begin 23 = .ok (.aload_n 0, 1) := by decide +kernel
theorem dX8_begin_24 : decode cX8_begin 24 = .ok (.getfield 19, 3) := by decide +kernel
theorem dX8_begin_27 : decode cX8_begin 27 = .ok (.getfield 104, 3) := by decide +kernel
theorem dX8_begin_30 : decode cX8_begin 30 = .ok (.invokevirtual 149, 3) := by decide +kernel
theorem dX8_begin_33 : decode cX8_begin 33 = .ok (.aload_n 0, 1) := by decide +kernel
theorem dX8_begin_34 : decode cX8_begin 34 = .ok (.iconst 0, 1) := by decide +kernel
theorem dX8_begin_35 : decode cX8_begin 35 = .ok (.invokevirtual 62, 3) := by decide +kernel
theorem dX8_begin_38 : decode cX8_begin 38 = .ok (.ireturn, 1) := by decide +kernel
theorem dX8_mending_0 : decode cX8_mending 0 = .ok (.aload_n 0, 1) := by decide +kernel
theorem dX8_mending_1 : decode cX8_mending 1 = .ok (.aload_n 0, 1) := by decide +kernel
theorem dX8_mending_2 : decode cX8_mending 2 = .ok (.iconst 1, 1) := by decide +kernel
theorem dX8_mending_3 : decode cX8_mending 3 = .ok (.invokevirtual 152, 3) := by decide +kernel
theorem dX8_mending_6 : decode cX8_mending 6 = .ok (.invokevirtual 62, 3) := by decide +kernel
theorem dX8_mending_9 : decode cX8_mending 9 = .ok (.ifCond .ne 5, 3) := by decide +kernel
theorem dX8_mending_12 : decode cX8_mending 12 = .ok (.iconst 0, 1) := by decide +kernel
theorem dX8_mending_13 : decode cX8_mending 13 = .ok (.ireturn, 1) := by decide +kernel
theorem dX8_mending_14 : decode cX8_mending 14 = .ok (.aload_n 0, 1) := by decide +kernel
theorem dX8_mending_15 : decode cX8_mending 15 = .ok (.getfield 35, 3) := by decide +kernel
theorem dX8_mending_18 : decode cX8_mending 18 = .ok (.iload_n 1, 1) := by decide +kernel
theorem dX8_mending_19 : decode cX8_mending 19 = .ok (.putfield 156, 3) := by decide +kernel
theorem dX8_mending_22 : decode cX8_mending 22 = .ok (.iconst 1, 1) := by decide +kernel
theorem dX8_mending_23 : decode cX8_mending 23 = .ok (.ireturn, 1) := by decide +kernel
theorem dX8_keep_0 : decode cX8_keep 0 = .ok (.aload_n 0, 1) := by decide +kernel
theorem dX8_keep_1 : decode cX8_keep 1 = .ok (.aload_n 0, 1) := by decide +kernel
theorem dX8_keep_2 : decode cX8_keep 2 = .ok (.iload_n 1, 1) := by decide +kernel
theorem dX8_keep_3 : decode cX8_keep 3 = .ok (.i2l, 1) := by decide +kernel
theorem dX8_keep_4 : decode cX8_keep 4 = .ok (.lconst 0, 1) := by decide +kernel
theorem dX8_keep_5 : decode cX8_keep 5 = .ok (.ldc2_w 54, 3) := by decide +kernel
theorem dX8_keep_8 : decode cX8_keep 8 = .ok (.invokestatic 56, 3) := by decide +kernel
theorem dX8_keep_11 : decode cX8_keep 11 = .ok (.invokevirtual 152, 3) := by decide +kernel
theorem dX8_keep_14 : decode cX8_keep 14 = .ok (.invokevirtual 62, 3) := by decide +kernel
theorem dX8_keep_17 : decode cX8_keep 17 = .ok (.ifCond .ne 5, 3) := by decide +kernel
theorem dX8_keep_20 : decode cX8_keep 20 = .ok (.iconst 0, 1) := by decide +kernel
theorem dX8_keep_21 : decode cX8_keep 21 = .ok (.ireturn, 1) := by decide +kernel
theorem dX8_keep_22 : decode cX8_keep 22 = .ok (.aload_n 0, 1) := by decide +kernel
theorem dX8_keep_23 : decode cX8_keep 23 = .ok (.getfield 35, 3) := by decide +kernel
theorem dX8_keep_26 : decode cX8_keep 26 = .ok (.getfield 159, 3) := by decide +kernel
theorem dX8_keep_29 : decode cX8_keep 29 = .ok (.iload_n 1, 1) := by decide +kernel
theorem dX8_keep_30 : decode cX8_keep 30 = .ok (.iload_n 2, 1) := by decide +kernel
theorem dX8_keep_31 : decode cX8_keep 31 = .ok (.bastore, 1) := by decide +kernel
theorem dX8_keep_32 : decode cX8_keep 32 = .ok (.iconst 1, 1) := by decide +kernel
theorem dX8_keep_33 : decode cX8_keep 33 = .ok (.ireturn, 1) := by decide +kernel
theorem dX8_writes_0 : decode cX8_writes 0 = .ok (.aload_n 0, 1) := by decide +kernel
theorem dX8_writes_1 : decode cX8_writes 1 = .ok (.aload_n 0, 1) := by decide +kernel
theorem dX8_writes_2 : decode cX8_writes 2 = .ok (.iload_n 1, 1) := by decide +kernel
theorem dX8_writes_3 : decode cX8_writes 3 = .ok (.iconst 1, 1) := by decide +kernel
theorem dX8_writes_4 : decode cX8_writes 4 = .ok (.aload_n 0, 1) := by decide +kernel
theorem dX8_writes_5 : decode cX8_writes 5 = .ok (.getfield 35, 3) := by decide +kernel
theorem dX8_writes_8 : decode cX8_writes 8 = .ok (.getfield 163, 3) := by decide +kernel
theorem dX8_writes_11 : decode cX8_writes 11 = .ok (.getfield 167, 3) := by decide +kernel
theorem dX8_writes_14 : decode cX8_writes 14 = .ok (.invokevirtual 172, 3) := by decide +kernel
theorem dX8_writes_17 : decode cX8_writes 17 = .ok (.invokevirtual 62, 3) := by decide +kernel
theorem dX8_writes_20 : decode cX8_writes 20 = .ok (.ifCond .ne 5, 3) := by decide +kernel
theorem dX8_writes_23 : decode cX8_writes 23 = .ok (.iconst (-1), 1) := by decide +kernel
theorem dX8_writes_24 : decode cX8_writes 24 = .ok (.ireturn, 1) := by decide +kernel
theorem dX8_writes_25 : decode cX8_writes 25 = .ok (.aload_n 0, 1) := by decide +kernel
theorem dX8_writes_26 : decode cX8_writes 26 = .ok (.getfield 35, 3) := by decide +kernel
theorem dX8_writes_29 : decode cX8_writes 29 = .ok (.getfield 163, 3) := by decide +kernel
theorem dX8_writes_32 : decode cX8_writes 32 = .ok (.invokevirtual 176, 3) := by decide +kernel
theorem dX8_writes_35 : decode cX8_writes 35 = .ok (.istore_n 2, 1) := by decide +kernel
theorem dX8_writes_36 : decode cX8_writes 36 = .ok (.aload_n 0, 1) := by decide +kernel
theorem dX8_writes_37 : decode cX8_writes 37 = .ok (.getfield 35, 3) := by decide +kernel
theorem dX8_writes_40 : decode cX8_writes 40 = .ok (.iconst 0, 1) := by decide +kernel
theorem dX8_writes_41 : decode cX8_writes 41 = .ok (.iload_n 2, 1) := by decide +kernel
theorem dX8_writes_42 : decode cX8_writes 42 = .ok (.aload_n 0, 1) := by decide +kernel
theorem dX8_writes_43 : decode cX8_writes 43 = .ok (.getfield 10, 3) := by decide +kernel
theorem dX8_writes_46 : decode cX8_writes 46 = .ok (.iload_n 1, 1) := by decide +kernel
theorem dX8_writes_47 : decode cX8_writes 47 = .ok (.invokevirtual 181, 3) := by decide +kernel
theorem dX8_writes_50 : decode cX8_writes 50 = .ok (.aload_n 0, 1) := by decide +kernel
theorem dX8_writes_51 : decode cX8_writes 51 = .ok (.getfield 35, 3) := by decide +kernel
theorem dX8_writes_54 : decode cX8_writes 54 = .ok (.aload_n 0, 1) := by decide +kernel
theorem dX8_writes_55 : decode cX8_writes 55 = .ok (.getfield 35, 3) := by decide +kernel
theorem dX8_writes_58 : decode cX8_writes 58 = .ok (.getfield 185, 3) := by decide +kernel
theorem dX8_writes_61 : decode cX8_writes 61 = .ok (.invokevirtual 188, 3) := by decide +kernel
theorem dX8_writes_64 : decode cX8_writes 64 = .ok (.iload_n 2, 1) := by decide +kernel
theorem dX8_writes_65 : decode cX8_writes 65 = .ok (.ireturn, 1) := by decide +kernel
theorem dX8_reads_0 : decode cX8_reads 0 = .ok (.aload_n 0, 1) := by decide +kernel
theorem dX8_reads_1 : decode cX8_reads 1 = .ok (.aload_n 0, 1) := by decide +kernel
theorem dX8_reads_2 : decode cX8_reads 2 = .ok (.iload_n 1, 1) := by decide +kernel
theorem dX8_reads_3 : decode cX8_reads 3 = .ok (.iload_n 2, 1) := by decide +kernel
theorem dX8_reads_4 : decode cX8_reads 4 = .ok (.i2l, 1) := by decide +kernel
theorem dX8_reads_5 : decode cX8_reads 5 = .ok (.lconst 0, 1) := by decide +kernel
theorem dX8_reads_6 : decode cX8_reads 6 = .ok (.ldc2_w 54, 3) := by decide +kernel
theorem dX8_reads_9 : decode cX8_reads 9 = .ok (.invokestatic 56, 3) := by decide +kernel
theorem dX8_reads_12 : decode cX8_reads 12 = .ok (.aload_n 0, 1) := by decide +kernel
theorem dX8_reads_13 : decode cX8_reads 13 = .ok (.getfield 35, 3) := by decide +kernel
theorem dX8_reads_16 : decode cX8_reads 16 = .ok (.getfield 191, 3) := by decide +kernel
theorem dX8_reads_19 : decode cX8_reads 19 = .ok (.getfield 195, 3) := by decide +kernel
theorem dX8_reads_22 : decode cX8_reads 22 = .ok (.invokevirtual 172, 3) := by decide +kernel
theorem dX8_reads_25 : decode cX8_reads 25 = .ok (.invokevirtual 62, 3) := by decide +kernel
theorem dX8_reads_28 : decode cX8_reads 28 = .ok (.ifCond .ne 5, 3) := by decide +kernel
theorem dX8_reads_31 : decode cX8_reads 31 = .ok (.iconst (-1), 1) := by decide +kernel
theorem dX8_reads_32 : decode cX8_reads 32 = .ok (.ireturn, 1) := by decide +kernel
theorem dX8_reads_33 : decode cX8_reads 33 = .ok (.aload_n 0, 1) := by decide +kernel
theorem dX8_reads_34 : decode cX8_reads 34 = .ok (.getfield 35, 3) := by decide +kernel
theorem dX8_reads_37 : decode cX8_reads 37 = .ok (.getfield 191, 3) := by decide +kernel
theorem dX8_reads_40 : decode cX8_reads 40 = .ok (.iload_n 2, 1) := by decide +kernel
theorem dX8_reads_41 : decode cX8_reads 41 = .ok (.aload_n 0, 1) := by decide +kernel
theorem dX8_reads_42 : decode cX8_reads 42 = .ok (.getfield 35, 3) := by decide +kernel
theorem dX8_reads_45 : decode cX8_reads 45 = .ok (.getfield 185, 3) := by decide +kernel
theorem dX8_reads_48 : decode cX8_reads 48 = .ok (.invokevirtual 198, 3) := by decide +kernel
theorem dX8_reads_51 : decode cX8_reads 51 = .ok (.istore_n 3, 1) := by decide +kernel
theorem dX8_reads_52 : decode cX8_reads 52 = .ok (.aload_n 0, 1) := by decide +kernel
theorem dX8_reads_53 : decode cX8_reads 53 = .ok (.getfield 35, 3) := by decide +kernel
theorem dX8_reads_56 : decode cX8_reads 56 = .ok (.iconst 2, 1) := by decide +kernel
theorem dX8_reads_57 : decode cX8_reads 57 = .ok (.iload_n 3, 1) := by decide +kernel
theorem dX8_reads_58 : decode cX8_reads 58 = .ok (.aload_n 0, 1) := by decide +kernel
theorem dX8_reads_59 : decode cX8_reads 59 = .ok (.getfield 10, 3) := by decide +kernel
theorem dX8_reads_62 : decode cX8_reads 62 = .ok (.iload_n 1, 1) := by decide +kernel
theorem dX8_reads_63 : decode cX8_reads 63 = .ok (.invokevirtual 181, 3) := by decide +kernel
theorem dX8_reads_66 : decode cX8_reads 66 = .ok (.aload_n 0, 1) := by decide +kernel
theorem dX8_reads_67 : decode cX8_reads 67 = .ok (.getfield 35, 3) := by decide +kernel
theorem dX8_reads_70 : decode cX8_reads 70 = .ok (.aload_n 0, 1) := by decide +kernel
theorem dX8_reads_71 : decode cX8_reads 71 = .ok (.getfield 35, 3) := by decide +kernel
theorem dX8_reads_74 : decode cX8_reads 74 = .ok (.getfield 185, 3) := by decide +kernel
theorem dX8_reads_77 : decode cX8_reads 77 = .ok (.invokevirtual 188, 3) := by decide +kernel
theorem dX8_reads_80 : decode cX8_reads 80 = .ok (.iload_n 3, 1) := by decide +kernel
theorem dX8_reads_81 : decode cX8_reads 81 = .ok (.ireturn, 1) := by decide +kernel
theorem dX8_go_0 : decode cX8_go 0 = .ok (.aload_n 0, 1) := by decide +kernel
theorem dX8_go_1 : decode cX8_go 1 = .ok (.aload_n 0, 1) := by decide +kernel
theorem dX8_go_2 : decode cX8_go 2 = .ok (.iload_n 1, 1) := by decide +kernel
theorem dX8_go_3 : decode cX8_go 3 = .ok (.i2l, 1) := by decide +kernel
theorem dX8_go_4 : decode cX8_go 4 = .ok (.lconst 0, 1) := by decide +kernel
theorem dX8_go_5 : decode cX8_go 5 = .ok (.ldc2_w 200, 3) := by decide +kernel
theorem dX8_go_8 : decode cX8_go 8 = .ok (.invokestatic 56, 3) := by decide +kernel
theorem dX8_go_11 : decode cX8_go 11 = .ok (.invokevirtual 152, 3) := by decide +kernel
theorem dX8_go_14 : decode cX8_go 14 = .ok (.invokevirtual 62, 3) := by decide +kernel
theorem dX8_go_17 : decode cX8_go 17 = .ok (.ifCond .ne 5, 3) := by decide +kernel
theorem dX8_go_20 : decode cX8_go 20 = .ok (.iconst (-1), 1) := by decide +kernel
theorem dX8_go_21 : decode cX8_go 21 = .ok (.ireturn, 1) := by decide +kernel
theorem dX8_go_22 : decode cX8_go 22 = .ok (.aload_n 0, 1) := by decide +kernel
theorem dX8_go_23 : decode cX8_go 23 = .ok (.getfield 35, 3) := by decide +kernel
theorem dX8_go_26 : decode cX8_go 26 = .ok (.aload_n 0, 1) := by decide +kernel
theorem dX8_go_27 : decode cX8_go 27 = .ok (.getfield 35, 3) := by decide +kernel
theorem dX8_go_30 : decode cX8_go 30 = .ok (.getfield 185, 3) := by decide +kernel
theorem dX8_go_33 : decode cX8_go 33 = .ok (.iload_n 1, 1) := by decide +kernel
theorem dX8_go_34 : decode cX8_go 34 = .ok (.iadd, 1) := by decide +kernel
theorem dX8_go_35 : decode cX8_go 35 = .ok (.invokevirtual 188, 3) := by decide +kernel
theorem dX8_go_38 : decode cX8_go 38 = .ok (.aload_n 0, 1) := by decide +kernel
theorem dX8_go_39 : decode cX8_go 39 = .ok (.getfield 35, 3) := by decide +kernel
theorem dX8_go_42 : decode cX8_go 42 = .ok (.getfield 185, 3) := by decide +kernel
theorem dX8_go_45 : decode cX8_go 45 = .ok (.ireturn, 1) := by decide +kernel
theorem dX8_down_0 : decode cX8_down 0 = .ok (.aload_n 0, 1) := by decide +kernel
theorem dX8_down_1 : decode cX8_down 1 = .ok (.aload_n 0, 1) := by decide +kernel
theorem dX8_down_2 : decode cX8_down 2 = .ok (.iload_n 1, 1) := by decide +kernel
theorem dX8_down_3 : decode cX8_down 3 = .ok (.iconst 1, 1) := by decide +kernel
theorem dX8_down_4 : decode cX8_down 4 = .ok (.invokevirtual 202, 3) := by decide +kernel
theorem dX8_down_7 : decode cX8_down 7 = .ok (.invokevirtual 62, 3) := by decide +kernel
theorem dX8_down_10 : decode cX8_down 10 = .ok (.ifCond .ne 5, 3) := by decide +kernel
theorem dX8_down_13 : decode cX8_down 13 = .ok (.iconst 0, 1) := by decide +kernel
theorem dX8_down_14 : decode cX8_down 14 = .ok (.ireturn, 1) := by decide +kernel
theorem dX8_down_15 : decode cX8_down 15 = .ok (.aload_n 0, 1) := by decide +kernel
theorem dX8_down_16 : decode cX8_down 16 = .ok (.getfield 35, 3) := by decide +kernel
theorem dX8_down_19 : decode cX8_down 19 = .ok (.getfield 206, 3) := by decide +kernel
theorem dX8_down_22 : decode cX8_down 22 = .ok (.iload_n 1, 1) := by decide +kernel
theorem dX8_down_23 : decode cX8_down 23 = .ok (.iload_n 2, 1) := by decide +kernel
theorem dX8_down_24 : decode cX8_down 24 = .ok (.invokevirtual 210, 3) := by decide +kernel
theorem dX8_down_27 : decode cX8_down 27 = .ok (.iconst 1, 1) := by decide +kernel
theorem dX8_down_28 : decode cX8_down 28 = .ok (.ireturn, 1) := by decide +kernel
theorem dX8_up_0 : decode cX8_up 0 = .ok (.aload_n 0, 1) := by decide +kernel
theorem dX8_up_1 : decode cX8_up 1 = .ok (.aload_n 0, 1) := by decide +kernel
theorem dX8_up_2 : decode cX8_up 2 = .ok (.iload_n 1, 1) := by decide +kernel
theorem dX8_up_3 : decode cX8_up 3 = .ok (.iconst 0, 1) := by decide +kernel
theorem dX8_up_4 : decode cX8_up 4 = .ok (.invokevirtual 202, 3) := by decide +kernel
theorem dX8_up_7 : decode cX8_up 7 = .ok (.invokevirtual 62, 3) := by decide +kernel
theorem dX8_up_10 : decode cX8_up 10 = .ok (.ifCond .ne 5, 3) := by decide +kernel
theorem dX8_up_13 : decode cX8_up 13 = .ok (.iconst (-1), 1) := by decide +kernel
theorem dX8_up_14 : decode cX8_up 14 = .ok (.ireturn, 1) := by decide +kernel
theorem dX8_up_15 : decode cX8_up 15 = .ok (.aload_n 0, 1) := by decide +kernel
theorem dX8_up_16 : decode cX8_up 16 = .ok (.getfield 35, 3) := by decide +kernel
theorem dX8_up_19 : decode cX8_up 19 = .ok (.getfield 206, 3) := by decide +kernel
theorem dX8_up_22 : decode cX8_up 22 = .ok (.iload_n 1, 1) := by decide +kernel
theorem dX8_up_23 : decode cX8_up 23 = .ok (.invokevirtual 216, 3) := by decide +kernel
theorem dX8_up_26 : decode cX8_up 26 = .ok (.ireturn, 1) := by decide +kernel
theorem dX8_sweep_0 : decode cX8_sweep 0 = .ok (.iload_n 1, 1) := by decide +kernel
theorem dX8_sweep_1 : decode cX8_sweep 1 = .ok (.iload_n 2, 1) := by decide +kernel
theorem dX8_sweep_2 : decode cX8_sweep 2 = .ok (.if_icmp .ne 7, 3) := by decide +kernel
theorem dX8_sweep_5 : decode cX8_sweep 5 = .ok (.iconst 1, 1) := by decide +kernel
theorem dX8_sweep_6 : decode cX8_sweep 6 = .ok (.goto 4, 3) := by decide +kernel
theorem dX8_sweep_9 : decode cX8_sweep 9 = .ok (.iconst 0, 1) := by decide +kernel
theorem dX8_sweep_10 : decode cX8_sweep 10 = .ok (.istore_n 3, 1) := by decide +kernel
theorem dX8_sweep_11 : decode cX8_sweep 11 = .ok (.aload_n 0, 1) := by decide +kernel
theorem dX8_sweep_12 : decode cX8_sweep 12 = .ok (.iload_n 3, 1) := by decide +kernel
theorem dX8_sweep_13 : decode cX8_sweep 13 = .ok (.aload_n 0, 1) := by decide +kernel
theorem dX8_sweep_14 : decode cX8_sweep 14 = .ok (.iload_n 1, 1) := by decide +kernel
theorem dX8_sweep_15 : decode cX8_sweep 15 = .ok (.iconst 1, 1) := by decide +kernel
theorem dX8_sweep_16 : decode cX8_sweep 16 = .ok (.invokevirtual 202, 3) := by decide +kernel
theorem dX8_sweep_19 : decode cX8_sweep 19 = .ok (.aload_n 0, 1) := by decide +kernel
theorem dX8_sweep_20 : decode cX8_sweep 20 = .ok (.iload_n 2, 1) := by decide +kernel
theorem dX8_sweep_21 : decode cX8_sweep 21 = .ok (.iconst 1, 1) := by decide +kernel
theorem dX8_sweep_22 : decode cX8_sweep 22 = .ok (.invokevirtual 202, 3) := by decide +kernel
theorem dX8_sweep_25 : decode cX8_sweep 25 = .ok (.invokestatic 84, 3) := by decide +kernel
theorem dX8_sweep_28 : decode cX8_sweep 28 = .ok (.invokestatic 84, 3) := by decide +kernel
theorem dX8_sweep_31 : decode cX8_sweep 31 = .ok (.invokevirtual 62, 3) := by decide +kernel
theorem dX8_sweep_34 : decode cX8_sweep 34 = .ok (.ifCond .ne 5, 3) := by decide +kernel
theorem dX8_sweep_37 : decode cX8_sweep 37 = .ok (.iconst (-1), 1) := by decide +kernel
theorem dX8_sweep_38 : decode cX8_sweep 38 = .ok (.ireturn, 1) := by decide +kernel
theorem dX8_sweep_39 : decode cX8_sweep 39 = .ok (.aload_n 0, 1) := by decide +kernel
theorem dX8_sweep_40 : decode cX8_sweep 40 = .ok (.getfield 35, 3) := by decide +kernel
theorem dX8_sweep_43 : decode cX8_sweep 43 = .ok (.getfield 206, 3) := by decide +kernel
theorem dX8_sweep_46 : decode cX8_sweep 46 = .ok (.iload_n 1, 1) := by decide +kernel
theorem dX8_sweep_47 : decode cX8_sweep 47 = .ok (.iload_n 2, 1) := by decide +kernel
theorem dX8_sweep_48 : decode cX8_sweep 48 = .ok (.invokevirtual 220, 3) := by decide +kernel
theorem dX8_sweep_51 : decode cX8_sweep 51 = .ok (.ireturn, 1) := by decide +kernel
theorem dX8_of_0 : decode cX8_of 0 = .ok (.aload_n 0, 1) := by decide +kernel
theorem dX8_of_1 : decode cX8_of 1 = .ok (.aload_n 0, 1) := by decide +kernel
theorem dX8_of_2 : decode cX8_of 2 = .ok (.aload_n 0, 1) := by decide +kernel
theorem dX8_of_3 : decode cX8_of 3 = .ok (.iload_n 1, 1) := by decide +kernel
theorem dX8_of_4 : decode cX8_of 4 = .ok (.invokevirtual 223, 3) := by decide +kernel
theorem dX8_of_7 : decode cX8_of 7 = .ok (.ifCond .eq 19, 3) := by decide +kernel
theorem dX8_of_10 : decode cX8_of 10 = .ok (.iload_n 2, 1) := by decide +kernel
theorem dX8_of_11 : decode cX8_of 11 = .ok (.i2l, 1) := by decide +kernel
theorem dX8_of_12 : decode cX8_of 12 = .ok (.lconst 0, 1) := by decide +kernel
theorem dX8_of_13 : decode cX8_of 13 = .ok (.ldc2_w 226, 3) := by decide +kernel
theorem dX8_of_16 : decode cX8_of 16 = .ok (.invokestatic 56, 3) := by decide +kernel
theorem dX8_of_19 : decode cX8_of 19 = .ok (.ifCond .eq 7, 3) := by decide +kernel
theorem dX8_of_22 : decode cX8_of 22 = .ok (.iconst 1, 1) := by decide +kernel
theorem dX8_of_23 : decode cX8_of 23 = .ok (.goto 4, 3) := by decide +kernel
theorem dX8_of_26 : decode cX8_of 26 = .ok (.iconst 0, 1) := by decide +kernel
theorem dX8_of_27 : decode cX8_of 27 = .ok (.invokevirtual 152, 3) := by decide +kernel
theorem dX8_of_30 : decode cX8_of 30 = .ok (.invokevirtual 62, 3) := by decide +kernel
theorem dX8_of_33 : decode cX8_of 33 = .ok (.ifCond .ne 5, 3) := by decide +kernel
theorem dX8_of_36 : decode cX8_of 36 = .ok (.iconst (-1), 1) := by decide +kernel
theorem dX8_of_37 : decode cX8_of 37 = .ok (.ireturn, 1) := by decide +kernel
theorem dX8_of_38 : decode cX8_of 38 = .ok (.iload_n 2, 1) := by decide +kernel
theorem dX8_of_39 : decode cX8_of 39 = .ok (.lookupswitch 59 #[(0, 25), (1, 38)], 25) := by decide +kernel
theorem dX8_of_64 : decode cX8_of 64 = .ok (.aload_n 0, 1) := by decide +kernel
theorem dX8_of_65 : decode cX8_of 65 = .ok (.getfield 35, 3) := by decide +kernel
theorem dX8_of_68 : decode cX8_of 68 = .ok (.getfield 206, 3) := by decide +kernel
theorem dX8_of_71 : decode cX8_of 71 = .ok (.getfield 228, 3) := by decide +kernel
theorem dX8_of_74 : decode cX8_of 74 = .ok (.iload_n 1, 1) := by decide +kernel
theorem dX8_of_75 : decode cX8_of 75 = .ok (.iaload, 1) := by decide +kernel
theorem dX8_of_76 : decode cX8_of 76 = .ok (.ireturn, 1) := by decide +kernel
theorem dX8_of_77 : decode cX8_of 77 = .ok (.aload_n 0, 1) := by decide +kernel
theorem dX8_of_78 : decode cX8_of 78 = .ok (.getfield 35, 3) := by decide +kernel
theorem dX8_of_81 : decode cX8_of 81 = .ok (.getfield 206, 3) := by decide +kernel
theorem dX8_of_84 : decode cX8_of 84 = .ok (.getfield 232, 3) := by decide +kernel
theorem dX8_of_87 : decode cX8_of 87 = .ok (.iload_n 1, 1) := by decide +kernel
theorem dX8_of_88 : decode cX8_of 88 = .ok (.baload, 1) := by decide +kernel
theorem dX8_of_89 : decode cX8_of 89 = .ok (.ifCond .eq 7, 3) := by decide +kernel
theorem dX8_of_92 : decode cX8_of 92 = .ok (.iconst 1, 1) := by decide +kernel
theorem dX8_of_93 : decode cX8_of 93 = .ok (.goto 4, 3) := by decide +kernel
theorem dX8_of_96 : decode cX8_of 96 = .ok (.iconst 0, 1) := by decide +kernel
theorem dX8_of_97 : decode cX8_of 97 = .ok (.ireturn, 1) := by decide +kernel
theorem dX8_of_98 : decode cX8_of 98 = .ok (.aload_n 0, 1) := by decide +kernel
theorem dX8_of_99 : decode cX8_of 99 = .ok (.getfield 35, 3) := by decide +kernel
theorem dX8_of_102 : decode cX8_of 102 = .ok (.getfield 206, 3) := by decide +kernel
theorem dX8_of_105 : decode cX8_of 105 = .ok (.iload_n 1, 1) := by decide +kernel
theorem dX8_of_106 : decode cX8_of 106 = .ok (.invokevirtual 235, 3) := by decide +kernel
theorem dX8_of_109 : decode cX8_of 109 = .ok (.ireturn, 1) := by decide +kernel
theorem dX8_done_0 : decode cX8_done 0 = .ok (.aload_n 0, 1) := by decide +kernel
theorem dX8_done_1 : decode cX8_done 1 = .ok (.iload_n 1, 1) := by decide +kernel
theorem dX8_done_2 : decode cX8_done 2 = .ok (.i2l, 1) := by decide +kernel
theorem dX8_done_3 : decode cX8_done 3 = .ok (.lconst 1, 1) := by decide +kernel
theorem dX8_done_4 : decode cX8_done 4 = .ok (.aload_n 0, 1) := by decide +kernel
theorem dX8_done_5 : decode cX8_done 5 = .ok (.getfield 39, 3) := by decide +kernel
theorem dX8_done_8 : decode cX8_done 8 = .ok (.ifCond .eq 17, 3) := by decide +kernel
theorem dX8_done_11 : decode cX8_done 11 = .ok (.aload_n 0, 1) := by decide +kernel
theorem dX8_done_12 : decode cX8_done 12 = .ok (.getfield 35, 3) := by decide +kernel
theorem dX8_done_15 : decode cX8_done 15 = .ok (.getfield 163, 3) := by decide +kernel
theorem dX8_done_18 : decode cX8_done 18 = .ok (.getfield 167, 3) := by decide +kernel
theorem dX8_done_21 : decode cX8_done 21 = .ok (.i2l, 1) := by decide +kernel
theorem dX8_done_22 : decode cX8_done 22 = .ok (.goto 6, 3) := by decide +kernel
theorem dX8_done_25 : decode cX8_done 25 = .ok (.ldc2_w 238, 3) := by decide +kernel
theorem dX8_done_28 : decode cX8_done 28 = .ok (.invokestatic 56, 3) := by decide +kernel
theorem dX8_done_31 : decode cX8_done 31 = .ok (.invokevirtual 152, 3) := by decide +kernel
theorem dX8_done_34 : decode cX8_done 34 = .ok (.istore_n 2, 1) := by decide +kernel
theorem dX8_done_35 : decode cX8_done 35 = .ok (.aload_n 0, 1) := by decide +kernel
theorem dX8_done_36 : decode cX8_done 36 = .ok (.iload_n 2, 1) := by decide +kernel
theorem dX8_done_37 : decode cX8_done 37 = .ok (.ifCond .ne 22, 3) := by decide +kernel
theorem dX8_done_40 : decode cX8_done 40 = .ok (.aload_n 0, 1) := by decide +kernel
theorem dX8_done_41 : decode cX8_done 41 = .ok (.getfield 35, 3) := by decide +kernel
theorem dX8_done_44 : decode cX8_done 44 = .ok (.getfield 163, 3) := by decide +kernel
theorem dX8_done_47 : decode cX8_done 47 = .ok (.iload_n 1, 1) := by decide +kernel
theorem dX8_done_48 : decode cX8_done 48 = .ok (.invokevirtual 240, 3) := by decide +kernel
theorem dX8_done_51 : decode cX8_done 51 = .ok (.ifCond .ne 8, 3) := by decide +kernel
theorem dX8_done_54 : decode cX8_done 54 = .ok (.bipush 7, 2) := by decide +kernel
theorem dX8_done_56 : decode cX8_done 56 = .ok (.goto 4, 3) := by decide +kernel
theorem dX8_done_59 : decode cX8_done 59 = .ok (.iload_n 2, 1) := by decide +kernel
theorem dX8_done_60 : decode cX8_done 60 = .ok (.invokevirtual 62, 3) := by decide +kernel
theorem dX8_done_63 : decode cX8_done 63 = .ok (.ifCond .ne 5, 3) := by decide +kernel
theorem dX8_done_66 : decode cX8_done 66 = .ok (.iconst (-1), 1) := by decide +kernel
theorem dX8_done_67 : decode cX8_done 67 = .ok (.ireturn, 1) := by decide +kernel
theorem dX8_done_68 : decode cX8_done 68 = .ok (.aload_n 0, 1) := by decide +kernel
theorem dX8_done_69 : decode cX8_done 69 = .ok (.getfield 35, 3) := by decide +kernel
theorem dX8_done_72 : decode cX8_done 72 = .ok (.getfield 163, 3) := by decide +kernel
theorem dX8_done_75 : decode cX8_done 75 = .ok (.getfield 243, 3) := by decide +kernel
theorem dX8_done_78 : decode cX8_done 78 = .ok (.iload_n 1, 1) := by decide +kernel
theorem dX8_done_79 : decode cX8_done 79 = .ok (.iconst 1, 1) := by decide +kernel
theorem dX8_done_80 : decode cX8_done 80 = .ok (.isub, 1) := by decide +kernel
theorem dX8_done_81 : decode cX8_done 81 = .ok (.iaload, 1) := by decide +kernel
theorem dX8_done_82 : decode cX8_done 82 = .ok (.ireturn, 1) := by decide +kernel
theorem dX8_got_0 : decode cX8_got 0 = .ok (.aload_n 0, 1) := by decide +kernel
theorem dX8_got_1 : decode cX8_got 1 = .ok (.iload_n 1, 1) := by decide +kernel
theorem dX8_got_2 : decode cX8_got 2 = .ok (.i2l, 1) := by decide +kernel
theorem dX8_got_3 : decode cX8_got 3 = .ok (.lconst 0, 1) := by decide +kernel
theorem dX8_got_4 : decode cX8_got 4 = .ok (.aload_n 0, 1) := by decide +kernel
theorem dX8_got_5 : decode cX8_got 5 = .ok (.getfield 39, 3) := by decide +kernel
theorem dX8_got_8 : decode cX8_got 8 = .ok (.ifCond .eq 19, 3) := by decide +kernel
theorem dX8_got_11 : decode cX8_got 11 = .ok (.aload_n 0, 1) := by decide +kernel
theorem dX8_got_12 : decode cX8_got 12 = .ok (.getfield 35, 3) := by decide +kernel
theorem dX8_got_15 : decode cX8_got 15 = .ok (.getfield 191, 3) := by decide +kernel
theorem dX8_got_18 : decode cX8_got 18 = .ok (.getfield 195, 3) := by decide +kernel
theorem dX8_got_21 : decode cX8_got 21 = .ok (.iconst 1, 1) := by decide +kernel
theorem dX8_got_22 : decode cX8_got 22 = .ok (.isub, 1) := by decide +kernel
theorem dX8_got_23 : decode cX8_got 23 = .ok (.i2l, 1) := by decide +kernel
theorem dX8_got_24 : decode cX8_got 24 = .ok (.goto 6, 3) := by decide +kernel
theorem dX8_got_27 : decode cX8_got 27 = .ok (.ldc2_w 246, 3) := by decide +kernel
theorem dX8_got_30 : decode cX8_got 30 = .ok (.invokestatic 56, 3) := by decide +kernel
theorem dX8_got_33 : decode cX8_got 33 = .ok (.ifCond .eq 19, 3) := by decide +kernel
theorem dX8_got_36 : decode cX8_got 36 = .ok (.iload_n 2, 1) := by decide +kernel
theorem dX8_got_37 : decode cX8_got 37 = .ok (.i2l, 1) := by decide +kernel
theorem dX8_got_38 : decode cX8_got 38 = .ok (.lconst 0, 1) := by decide +kernel
theorem dX8_got_39 : decode cX8_got 39 = .ok (.ldc2_w 226, 3) := by decide +kernel
theorem dX8_got_42 : decode cX8_got 42 = .ok (.invokestatic 56, 3) := by decide +kernel
theorem dX8_got_45 : decode cX8_got 45 = .ok (.ifCond .eq 7, 3) := by decide +kernel
theorem dX8_got_48 : decode cX8_got 48 = .ok (.iconst 1, 1) := by decide +kernel
theorem dX8_got_49 : decode cX8_got 49 = .ok (.goto 4, 3) := by decide +kernel
theorem dX8_got_52 : decode cX8_got 52 = .ok (.iconst 0, 1) := by decide +kernel
theorem dX8_got_53 : decode cX8_got 53 = .ok (.invokevirtual 152, 3) := by decide +kernel
theorem dX8_got_56 : decode cX8_got 56 = .ok (.istore_n 3, 1) := by decide +kernel
theorem dX8_got_57 : decode cX8_got 57 = .ok (.aload_n 0, 1) := by decide +kernel
theorem dX8_got_58 : decode cX8_got 58 = .ok (.iload_n 3, 1) := by decide +kernel
theorem dX8_got_59 : decode cX8_got 59 = .ok (.ifCond .ne 22, 3) := by decide +kernel
theorem dX8_got_62 : decode cX8_got 62 = .ok (.aload_n 0, 1) := by decide +kernel
theorem dX8_got_63 : decode cX8_got 63 = .ok (.getfield 35, 3) := by decide +kernel
theorem dX8_got_66 : decode cX8_got 66 = .ok (.getfield 191, 3) := by decide +kernel
theorem dX8_got_69 : decode cX8_got 69 = .ok (.iload_n 1, 1) := by decide +kernel
theorem dX8_got_70 : decode cX8_got 70 = .ok (.invokevirtual 248, 3) := by decide +kernel
theorem dX8_got_73 : decode cX8_got 73 = .ok (.ifCond .ne 8, 3) := by decide +kernel
theorem dX8_got_76 : decode cX8_got 76 = .ok (.bipush 7, 2) := by decide +kernel
theorem dX8_got_78 : decode cX8_got 78 = .ok (.goto 4, 3) := by decide +kernel
theorem dX8_got_81 : decode cX8_got 81 = .ok (.iload_n 3, 1) := by decide +kernel
theorem dX8_got_82 : decode cX8_got 82 = .ok (.invokevirtual 62, 3) := by decide +kernel
theorem dX8_got_85 : decode cX8_got 85 = .ok (.ifCond .ne 5, 3) := by decide +kernel
theorem dX8_got_88 : decode cX8_got 88 = .ok (.iconst (-1), 1) := by decide +kernel
theorem dX8_got_89 : decode cX8_got 89 = .ok (.ireturn, 1) := by decide +kernel
theorem dX8_got_90 : decode cX8_got 90 = .ok (.iload_n 2, 1) := by decide +kernel
theorem dX8_got_91 : decode cX8_got 91 = .ok (.lookupswitch 51 #[(0, 25), (1, 38)], 25) := by decide +kernel
theorem dX8_got_116 : decode cX8_got 116 = .ok (.aload_n 0, 1) := by decide +kernel
theorem dX8_got_117 : decode cX8_got 117 = .ok (.getfield 35, 3) := by decide +kernel
theorem dX8_got_120 : decode cX8_got 120 = .ok (.getfield 191, 3) := by decide +kernel
theorem dX8_got_123 : decode cX8_got 123 = .ok (.getfield 249, 3) := by decide +kernel
theorem dX8_got_126 : decode cX8_got 126 = .ok (.iload_n 1, 1) := by decide +kernel
theorem dX8_got_127 : decode cX8_got 127 = .ok (.iaload, 1) := by decide +kernel
theorem dX8_got_128 : decode cX8_got 128 = .ok (.ireturn, 1) := by decide +kernel
theorem dX8_got_129 : decode cX8_got 129 = .ok (.aload_n 0, 1) := by decide +kernel
theorem dX8_got_130 : decode cX8_got 130 = .ok (.getfield 35, 3) := by decide +kernel
theorem dX8_got_133 : decode cX8_got 133 = .ok (.getfield 191, 3) := by decide +kernel
theorem dX8_got_136 : decode cX8_got 136 = .ok (.getfield 250, 3) := by decide +kernel
theorem dX8_got_139 : decode cX8_got 139 = .ok (.iload_n 1, 1) := by decide +kernel
theorem dX8_got_140 : decode cX8_got 140 = .ok (.iaload, 1) := by decide +kernel
theorem dX8_got_141 : decode cX8_got 141 = .ok (.ireturn, 1) := by decide +kernel
theorem dX8_got_142 : decode cX8_got 142 = .ok (.aload_n 0, 1) := by decide +kernel
theorem dX8_got_143 : decode cX8_got 143 = .ok (.getfield 35, 3) := by decide +kernel
theorem dX8_got_146 : decode cX8_got 146 = .ok (.getfield 191, 3) := by decide +kernel
theorem dX8_got_149 : decode cX8_got 149 = .ok (.getfield 253, 3) := by decide +kernel
theorem dX8_got_152 : decode cX8_got 152 = .ok (.iload_n 1, 1) := by decide +kernel
theorem dX8_got_153 : decode cX8_got 153 = .ok (.iaload, 1) := by decide +kernel
theorem dX8_got_154 : decode cX8_got 154 = .ok (.ireturn, 1) := by decide +kernel
theorem dX8_tell_0 : decode cX8_tell 0 = .ok (.aload_n 0, 1) := by decide +kernel
theorem dX8_tell_1 : decode cX8_tell 1 = .ok (.aload_n 0, 1) := by decide +kernel
theorem dX8_tell_2 : decode cX8_tell 2 = .ok (.iload_n 1, 1) := by decide +kernel
theorem dX8_tell_3 : decode cX8_tell 3 = .ok (.i2l, 1) := by decide +kernel
theorem dX8_tell_4 : decode cX8_tell 4 = .ok (.lconst 0, 1) := by decide +kernel
theorem dX8_tell_5 : decode cX8_tell 5 = .ok (.ldc2_w 256, 3) := by decide +kernel
theorem dX8_tell_8 : decode cX8_tell 8 = .ok (.invokestatic 56, 3) := by decide +kernel
theorem dX8_tell_11 : decode cX8_tell 11 = .ok (.invokevirtual 152, 3) := by decide +kernel
theorem dX8_tell_14 : decode cX8_tell 14 = .ok (.invokevirtual 62, 3) := by decide +kernel
theorem dX8_tell_17 : decode cX8_tell 17 = .ok (.ifCond .ne 5, 3) := by decide +kernel
theorem dX8_tell_20 : decode cX8_tell 20 = .ok (.iconst (-1), 1) := by decide +kernel
theorem dX8_tell_21 : decode cX8_tell 21 = .ok (.ireturn, 1) := by decide +kernel
theorem dX8_tell_22 : decode cX8_tell 22 = .ok (.iload_n 1, 1) := by decide +kernel
theorem dX8_tell_23 : decode cX8_tell 23 = .ok (.tableswitch 97 0 5 #[37, 45, 56, 67, 78, 89], 37) := by decide +kernel
theorem dX8_tell_60 : decode cX8_tell 60 = .ok (.aload_n 0, 1) := by decide +kernel
theorem dX8_tell_61 : decode cX8_tell 61 = .ok (.getfield 35, 3) := by decide +kernel
theorem dX8_tell_64 : decode cX8_tell 64 = .ok (.getfield 185, 3) := by decide +kernel
theorem dX8_tell_67 : decode cX8_tell 67 = .ok (.ireturn, 1) := by decide +kernel
theorem dX8_tell_68 : decode cX8_tell 68 = .ok (.aload_n 0, 1) := by decide +kernel
theorem dX8_tell_69 : decode cX8_tell 69 = .ok (.getfield 35, 3) := by decide +kernel
theorem dX8_tell_72 : decode cX8_tell 72 = .ok (.getfield 163, 3) := by decide +kernel
theorem dX8_tell_75 : decode cX8_tell 75 = .ok (.getfield 167, 3) := by decide +kernel
theorem dX8_tell_78 : decode cX8_tell 78 = .ok (.ireturn, 1) := by decide +kernel
theorem dX8_tell_79 : decode cX8_tell 79 = .ok (.aload_n 0, 1) := by decide +kernel
theorem dX8_tell_80 : decode cX8_tell 80 = .ok (.getfield 35, 3) := by decide +kernel
theorem dX8_tell_83 : decode cX8_tell 83 = .ok (.getfield 191, 3) := by decide +kernel
theorem dX8_tell_86 : decode cX8_tell 86 = .ok (.getfield 195, 3) := by decide +kernel
theorem dX8_tell_89 : decode cX8_tell 89 = .ok (.ireturn, 1) := by decide +kernel
theorem dX8_tell_90 : decode cX8_tell 90 = .ok (.aload_n 0, 1) := by decide +kernel
theorem dX8_tell_91 : decode cX8_tell 91 = .ok (.getfield 35, 3) := by decide +kernel
theorem dX8_tell_94 : decode cX8_tell 94 = .ok (.getfield 258, 3) := by decide +kernel
theorem dX8_tell_97 : decode cX8_tell 97 = .ok (.getfield 262, 3) := by decide +kernel
theorem dX8_tell_100 : decode cX8_tell 100 = .ok (.ireturn, 1) := by decide +kernel
theorem dX8_tell_101 : decode cX8_tell 101 = .ok (.aload_n 0, 1) := by decide +kernel
theorem dX8_tell_102 : decode cX8_tell 102 = .ok (.getfield 35, 3) := by decide +kernel
theorem dX8_tell_105 : decode cX8_tell 105 = .ok (.getfield 206, 3) := by decide +kernel
theorem dX8_tell_108 : decode cX8_tell 108 = .ok (.getfield 265, 3) := by decide +kernel
theorem dX8_tell_111 : decode cX8_tell 111 = .ok (.ireturn, 1) := by decide +kernel
theorem dX8_tell_112 : decode cX8_tell 112 = .ok (.aload_n 0, 1) := by decide +kernel
theorem dX8_tell_113 : decode cX8_tell 113 = .ok (.getfield 35, 3) := by decide +kernel
theorem dX8_tell_116 : decode cX8_tell 116 = .ok (.getfield 268, 3) := by decide +kernel
theorem dX8_tell_119 : decode cX8_tell 119 = .ok (.ireturn, 1) := by decide +kernel
theorem dX8_tell_120 : decode cX8_tell 120 = .ok (.aload_n 0, 1) := by decide +kernel
theorem dX8_tell_121 : decode cX8_tell 121 = .ok (.getfield 35, 3) := by decide +kernel
theorem dX8_tell_124 : decode cX8_tell 124 = .ok (.getfield 271, 3) := by decide +kernel
theorem dX8_tell_127 : decode cX8_tell 127 = .ok (.ireturn, 1) := by decide +kernel
theorem dX8_passes_0 : decode cX8_passes 0 = .ok (.aload_n 0, 1) := by decide +kernel
theorem dX8_passes_1 : decode cX8_passes 1 = .ok (.iload_n 1, 1) := by decide +kernel
theorem dX8_passes_2 : decode cX8_passes 2 = .ok (.putfield 43, 3) := by decide +kernel
theorem dX8_passes_5 : decode cX8_passes 5 = .ok (.iload_n 1, 1) := by decide +kernel
theorem dX8_passes_6 : decode cX8_passes 6 = .ok (.ifCond .ne 7, 3) := by decide +kernel
theorem dX8_passes_9 : decode cX8_passes 9 = .ok (.iconst 1, 1) := by decide +kernel
theorem dX8_passes_10 : decode cX8_passes 10 = .ok (.goto 4, 3) := by decide +kernel
theorem dX8_passes_13 : decode cX8_passes 13 = .ok (.iconst 0, 1) := by decide +kernel
theorem dX8_passes_14 : decode cX8_passes 14 = .ok (.ireturn, 1) := by decide +kernel
theorem dX8_fits_0 : decode cX8_fits 0 = .ok (.lload_n 0, 1) := by decide +kernel
theorem dX8_fits_1 : decode cX8_fits 1 = .ok (.lload_n 2, 1) := by decide +kernel
theorem dX8_fits_2 : decode cX8_fits 2 = .ok (.lcmp, 1) := by decide +kernel
theorem dX8_fits_3 : decode cX8_fits 3 = .ok (.ifCond .lt 14, 3) := by decide +kernel
theorem dX8_fits_6 : decode cX8_fits 6 = .ok (.lload_n 0, 1) := by decide +kernel
theorem dX8_fits_7 : decode cX8_fits 7 = .ok (.lload 4, 2) := by decide +kernel
theorem dX8_fits_9 : decode cX8_fits 9 = .ok (.lcmp, 1) := by decide +kernel
theorem dX8_fits_10 : decode cX8_fits 10 = .ok (.ifCond .gt 7, 3) := by decide +kernel
theorem dX8_fits_13 : decode cX8_fits 13 = .ok (.iconst 1, 1) := by decide +kernel
theorem dX8_fits_14 : decode cX8_fits 14 = .ok (.goto 4, 3) := by decide +kernel
theorem dX8_fits_17 : decode cX8_fits 17 = .ok (.iconst 0, 1) := by decide +kernel
theorem dX8_fits_18 : decode cX8_fits 18 = .ok (.ireturn, 1) := by decide +kernel
theorem dX8_first_0 : decode cX8_first 0 = .ok (.iload_n 0, 1) := by decide +kernel
theorem dX8_first_1 : decode cX8_first 1 = .ok (.ifCond .ne 5, 3) := by decide +kernel
theorem dX8_first_4 : decode cX8_first 4 = .ok (.iload_n 1, 1) := by decide +kernel
theorem dX8_first_5 : decode cX8_first 5 = .ok (.ireturn, 1) := by decide +kernel
theorem dX8_first_6 : decode cX8_first 6 = .ok (.iload_n 1, 1) := by decide +kernel
theorem dX8_first_7 : decode cX8_first 7 = .ok (.ifCond .ne 7, 3) := by decide +kernel
theorem dX8_first_10 : decode cX8_first 10 = .ok (.iload_n 0, 1) := by decide +kernel
theorem dX8_first_11 : decode cX8_first 11 = .ok (.goto 8, 3) := by decide +kernel
theorem dX8_first_14 : decode cX8_first 14 = .ok (.iload_n 0, 1) := by decide +kernel
theorem dX8_first_15 : decode cX8_first 15 = .ok (.iload_n 1, 1) := by decide +kernel
theorem dX8_first_16 : decode cX8_first 16 = .ok (.invokestatic 274, 3) := by decide +kernel
theorem dX8_first_19 : decode cX8_first 19 = .ok (.ireturn, 1) := by decide +kernel
theorem dX8_fitsRead_0 : decode cX8_fitsRead 0 = .ok (.iload_n 0, 1) := by decide +kernel
theorem dX8_fitsRead_1 : decode cX8_fitsRead 1 = .ok (.i2l, 1) := by decide +kernel
theorem dX8_fitsRead_2 : decode cX8_fitsRead 2 = .ok (.lconst 0, 1) := by decide +kernel
theorem dX8_fitsRead_3 : decode cX8_fitsRead 3 = .ok (.ldc2_w 107, 3) := by decide +kernel
theorem dX8_fitsRead_6 : decode cX8_fitsRead 6 = .ok (.invokestatic 56, 3) := by decide +kernel
theorem dX8_fitsRead_9 : decode cX8_fitsRead 9 = .ok (.ifCond .eq 30, 3) := by decide +kernel
theorem dX8_fitsRead_12 : decode cX8_fitsRead 12 = .ok (.iload_n 1, 1) := by decide +kernel
theorem dX8_fitsRead_13 : decode cX8_fitsRead 13 = .ok (.i2l, 1) := by decide +kernel
theorem dX8_fitsRead_14 : decode cX8_fitsRead 14 = .ok (.lconst 0, 1) := by decide +kernel
theorem dX8_fitsRead_15 : decode cX8_fitsRead 15 = .ok (.ldc2_w 54, 3) := by decide +kernel
theorem dX8_fitsRead_18 : decode cX8_fitsRead 18 = .ok (.invokestatic 56, 3) := by decide +kernel
theorem dX8_fitsRead_21 : decode cX8_fitsRead 21 = .ok (.ifCond .eq 18, 3) := by decide +kernel
theorem dX8_fitsRead_24 : decode cX8_fitsRead 24 = .ok (.iload_n 2, 1) := by decide +kernel
theorem dX8_fitsRead_25 : decode cX8_fitsRead 25 = .ok (.i2l, 1) := by decide +kernel
theorem dX8_fitsRead_26 : decode cX8_fitsRead 26 = .ok (.lconst 0, 1) := by decide +kernel
theorem dX8_fitsRead_27 : decode cX8_fitsRead 27 = .ok (.iload_n 1, 1) := by decide +kernel
theorem dX8_fitsRead_28 : decode cX8_fitsRead 28 = .ok (.i2l, 1) := by decide +kernel
theorem dX8_fitsRead_29 : decode cX8_fitsRead 29 = .ok (.invokestatic 56, 3) := by decide +kernel
theorem dX8_fitsRead_32 : decode cX8_fitsRead 32 = .ok (.ifCond .eq 7, 3) := by decide +kernel
theorem dX8_fitsRead_35 : decode cX8_fitsRead 35 = .ok (.iconst 1, 1) := by decide +kernel
theorem dX8_fitsRead_36 : decode cX8_fitsRead 36 = .ok (.goto 4, 3) := by decide +kernel
theorem dX8_fitsRead_39 : decode cX8_fitsRead 39 = .ok (.iconst 0, 1) := by decide +kernel
theorem dX8_fitsRead_40 : decode cX8_fitsRead 40 = .ok (.ireturn, 1) := by decide +kernel
theorem dX8_weightsOf_0 : decode cX8_weightsOf 0 = .ok (.lconst 0, 1) := by decide +kernel
theorem dX8_weightsOf_1 : decode cX8_weightsOf 1 = .ok (.lstore_n 3, 1) := by decide +kernel
theorem dX8_weightsOf_2 : decode cX8_weightsOf 2 = .ok (.iconst 0, 1) := by decide +kernel
theorem dX8_weightsOf_3 : decode cX8_weightsOf 3 = .ok (.istore 5, 2) := by decide +kernel
theorem dX8_weightsOf_5 : decode cX8_weightsOf 5 = .ok (.iload 5, 2) := by decide +kernel
theorem dX8_weightsOf_7 : decode cX8_weightsOf 7 = .ok (.iload_n 2, 1) := by decide +kernel
theorem dX8_weightsOf_8 : decode cX8_weightsOf 8 = .ok (.if_icmp .ge 40, 3) := by decide +kernel
theorem dX8_weightsOf_11 : decode cX8_weightsOf 11 = .ok (.aload_n 0, 1) := by decide +kernel
theorem dX8_weightsOf_12 : decode cX8_weightsOf 12 = .ok (.getfield 10, 3) := by decide +kernel
theorem dX8_weightsOf_15 : decode cX8_weightsOf 15 = .ok (.iload_n 1, 1) := by decide +kernel
theorem dX8_weightsOf_16 : decode cX8_weightsOf 16 = .ok (.iload 5, 2) := by decide +kernel
theorem dX8_weightsOf_18 : decode cX8_weightsOf 18 = .ok (.invokevirtual 80, 3) := by decide +kernel
theorem dX8_weightsOf_21 : decode cX8_weightsOf 21 = .ok (.lstore 6, 2) := by decide +kernel
theorem dX8_weightsOf_23 : decode cX8_weightsOf 23 = .ok (.lload 6, 2) := by decide +kernel
theorem dX8_weightsOf_25 : decode cX8_weightsOf 25 = .ok (.lconst 0, 1) := by decide +kernel
theorem dX8_weightsOf_26 : decode cX8_weightsOf 26 = .ok (.ldc2_w 112, 3) := by decide +kernel
theorem dX8_weightsOf_29 : decode cX8_weightsOf 29 = .ok (.invokestatic 56, 3) := by decide +kernel
theorem dX8_weightsOf_32 : decode cX8_weightsOf 32 = .ok (.ifCond .ne 5, 3) := by decide +kernel
theorem dX8_weightsOf_35 : decode cX8_weightsOf 35 = .ok (.iconst 1, 1) := by decide +kernel
theorem dX8_weightsOf_36 : decode cX8_weightsOf 36 = .ok (.ireturn, 1) := by decide +kernel
theorem dX8_weightsOf_37 : decode cX8_weightsOf 37 = .ok (.lload_n 3, 1) := by decide +kernel
theorem dX8_weightsOf_38 : decode cX8_weightsOf 38 = .ok (.lload 6, 2) := by decide +kernel
theorem dX8_weightsOf_40 : decode cX8_weightsOf 40 = .ok (.ladd, 1) := by decide +kernel
theorem dX8_weightsOf_41 : decode cX8_weightsOf 41 = .ok (.lstore_n 3, 1) := by decide +kernel
theorem dX8_weightsOf_42 : decode cX8_weightsOf 42 = .ok (.iinc 5 1, 3) := by decide +kernel
theorem dX8_weightsOf_45 : decode cX8_weightsOf 45 = .ok (.goto (-40), 3) := by decide +kernel
theorem dX8_weightsOf_48 : decode cX8_weightsOf 48 = .ok (.lload_n 3, 1) := by decide +kernel
theorem dX8_weightsOf_49 : decode cX8_weightsOf 49 = .ok (.lconst 1, 1) := by decide +kernel
theorem dX8_weightsOf_50 : decode cX8_weightsOf 50 = .ok (.ldc2_w 112, 3) := by decide +kernel
theorem dX8_weightsOf_53 : decode cX8_weightsOf 53 = .ok (.invokestatic 56, 3) := by decide +kernel
theorem dX8_weightsOf_56 : decode cX8_weightsOf 56 = .ok (.ifCond .eq 7, 3) := by decide +kernel
theorem dX8_weightsOf_59 : decode cX8_weightsOf 59 = .ok (.iconst 0, 1) := by decide +kernel
theorem dX8_weightsOf_60 : decode cX8_weightsOf 60 = .ok (.goto 4, 3) := by decide +kernel
theorem dX8_weightsOf_63 : decode cX8_weightsOf 63 = .ok (.iconst 1, 1) := by decide +kernel
theorem dX8_weightsOf_64 : decode cX8_weightsOf 64 = .ok (.ireturn, 1) := by decide +kernel
theorem dX8_runLack_0 : decode cX8_runLack 0 = .ok (.iload_n 1, 1) := by decide +kernel
theorem dX8_runLack_1 : decode cX8_runLack 1 = .ok (.ifCond .ne 5, 3) := by decide +kernel
theorem dX8_runLack_4 : decode cX8_runLack 4 = .ok (.iconst 1, 1) := by decide +kernel
theorem dX8_runLack_5 : decode cX8_runLack 5 = .ok (.ireturn, 1) := by decide +kernel
theorem dX8_runLack_6 : decode cX8_runLack 6 = .ok (.aload_n 0, 1) := by decide +kernel
theorem dX8_runLack_7 : decode cX8_runLack 7 = .ok (.getfield 39, 3) := by decide +kernel
theorem dX8_runLack_10 : decode cX8_runLack 10 = .ok (.ifCond .eq 7, 3) := by decide +kernel
theorem dX8_runLack_13 : decode cX8_runLack 13 = .ok (.iconst 0, 1) := by decide +kernel
theorem dX8_runLack_14 : decode cX8_runLack 14 = .ok (.goto 4, 3) := by decide +kernel
theorem dX8_runLack_17 : decode cX8_runLack 17 = .ok (.iconst 4, 1) := by decide +kernel
theorem dX8_runLack_18 : decode cX8_runLack 18 = .ok (.ireturn, 1) := by decide +kernel
theorem dX8_isCopy_0 : decode cX8_isCopy 0 = .ok (.aload_n 0, 1) := by decide +kernel
theorem dX8_isCopy_1 : decode cX8_isCopy 1 = .ok (.getfield 39, 3) := by decide +kernel
theorem dX8_isCopy_4 : decode cX8_isCopy 4 = .ok (.ifCond .eq 17, 3) := by decide +kernel
theorem dX8_isCopy_7 : decode cX8_isCopy 7 = .ok (.aload_n 0, 1) := by decide +kernel
theorem dX8_isCopy_8 : decode cX8_isCopy 8 = .ok (.getfield 35, 3) := by decide +kernel
theorem dX8_isCopy_11 : decode cX8_isCopy 11 = .ok (.getfield 206, 3) := by decide +kernel
theorem dX8_isCopy_14 : decode cX8_isCopy 14 = .ok (.iload_n 1, 1) := by decide +kernel
theorem dX8_isCopy_15 : decode cX8_isCopy 15 = .ok (.invokevirtual 279, 3) := by decide +kernel
theorem dX8_isCopy_18 : decode cX8_isCopy 18 = .ok (.goto 12, 3) := by decide +kernel
theorem dX8_isCopy_21 : decode cX8_isCopy 21 = .ok (.iload_n 1, 1) := by decide +kernel
theorem dX8_isCopy_22 : decode cX8_isCopy 22 = .ok (.i2l, 1) := by decide +kernel
theorem dX8_isCopy_23 : decode cX8_isCopy 23 = .ok (.lconst 0, 1) := by decide +kernel
theorem dX8_isCopy_24 : decode cX8_isCopy 24 = .ok (.ldc2_w 282, 3) := by decide +kernel
theorem dX8_isCopy_27 : decode cX8_isCopy 27 = .ok (.invokestatic 56, 3) := by decide +kernel
theorem dX8_isCopy_30 : decode cX8_isCopy 30 = .ok (.ireturn, 1) := by decide +kernel
theorem dX8_copyLack_0 : decode cX8_copyLack 0 = .ok (.aload_n 0, 1) := by decide +kernel
theorem dX8_copyLack_1 : decode cX8_copyLack 1 = .ok (.aload_n 0, 1) := by decide +kernel
theorem dX8_copyLack_2 : decode cX8_copyLack 2 = .ok (.iload_n 1, 1) := by decide +kernel
theorem dX8_copyLack_3 : decode cX8_copyLack 3 = .ok (.invokevirtual 223, 3) := by decide +kernel
theorem dX8_copyLack_6 : decode cX8_copyLack 6 = .ok (.invokevirtual 152, 3) := by decide +kernel
theorem dX8_copyLack_9 : decode cX8_copyLack 9 = .ok (.istore_n 3, 1) := by decide +kernel
theorem dX8_copyLack_10 : decode cX8_copyLack 10 = .ok (.iload_n 3, 1) := by decide +kernel
theorem dX8_copyLack_11 : decode cX8_copyLack 11 = .ok (.ifCond .eq 5, 3) := by decide +kernel
theorem dX8_copyLack_14 : decode cX8_copyLack 14 = .ok (.iload_n 3, 1) := by decide +kernel
theorem dX8_copyLack_15 : decode cX8_copyLack 15 = .ok (.ireturn, 1) := by decide +kernel
theorem dX8_copyLack_16 : decode cX8_copyLack 16 = .ok (.aload_n 0, 1) := by decide +kernel
theorem dX8_copyLack_17 : decode cX8_copyLack 17 = .ok (.getfield 35, 3) := by decide +kernel
theorem dX8_copyLack_20 : decode cX8_copyLack 20 = .ok (.getfield 206, 3) := by decide +kernel
theorem dX8_copyLack_23 : decode cX8_copyLack 23 = .ok (.getfield 232, 3) := by decide +kernel
theorem dX8_copyLack_26 : decode cX8_copyLack 26 = .ok (.iload_n 1, 1) := by decide +kernel
theorem dX8_copyLack_27 : decode cX8_copyLack 27 = .ok (.baload, 1) := by decide +kernel
theorem dX8_copyLack_28 : decode cX8_copyLack 28 = .ok (.iload_n 2, 1) := by decide +kernel
theorem dX8_copyLack_29 : decode cX8_copyLack 29 = .ok (.if_icmp .ne 7, 3) := by decide +kernel
theorem dX8_copyLack_32 : decode cX8_copyLack 32 = .ok (.iconst 0, 1) := by decide +kernel
theorem dX8_copyLack_33 : decode cX8_copyLack 33 = .ok (.goto 4, 3) := by decide +kernel
theorem dX8_copyLack_36 : decode cX8_copyLack 36 = .ok (.iconst 5, 1) := by decide +kernel
theorem dX8_copyLack_37 : decode cX8_copyLack 37 = .ok (.ireturn, 1) := by decide +kernel
theorem dX8_actLack_0 : decode cX8_actLack 0 = .ok (.aload_n 0, 1) := by decide +kernel
theorem dX8_actLack_1 : decode cX8_actLack 1 = .ok (.iload_n 2, 1) := by decide +kernel
theorem dX8_actLack_2 : decode cX8_actLack 2 = .ok (.ifCond .eq 19, 3) := by decide +kernel
theorem dX8_actLack_5 : decode cX8_actLack 5 = .ok (.iload_n 1, 1) := by decide +kernel
theorem dX8_actLack_6 : decode cX8_actLack 6 = .ok (.i2l, 1) := by decide +kernel
theorem dX8_actLack_7 : decode cX8_actLack 7 = .ok (.lconst 0, 1) := by decide +kernel
theorem dX8_actLack_8 : decode cX8_actLack 8 = .ok (.ldc2_w 54, 3) := by decide +kernel
theorem dX8_actLack_11 : decode cX8_actLack 11 = .ok (.invokestatic 56, 3) := by decide +kernel
theorem dX8_actLack_14 : decode cX8_actLack 14 = .ok (.ifCond .eq 7, 3) := by decide +kernel
theorem dX8_actLack_17 : decode cX8_actLack 17 = .ok (.iconst 1, 1) := by decide +kernel
theorem dX8_actLack_18 : decode cX8_actLack 18 = .ok (.goto 4, 3) := by decide +kernel
theorem dX8_actLack_21 : decode cX8_actLack 21 = .ok (.iconst 0, 1) := by decide +kernel
theorem dX8_actLack_22 : decode cX8_actLack 22 = .ok (.invokevirtual 152, 3) := by decide +kernel
theorem dX8_actLack_25 : decode cX8_actLack 25 = .ok (.istore 4, 2) := by decide +kernel
theorem dX8_actLack_27 : decode cX8_actLack 27 = .ok (.iload 4, 2) := by decide +kernel
theorem dX8_actLack_29 : decode cX8_actLack 29 = .ok (.ifCond .eq 6, 3) := by decide +kernel
theorem dX8_actLack_32 : decode cX8_actLack 32 = .ok (.iload 4, 2) := by decide +kernel
theorem dX8_actLack_34 : decode cX8_actLack 34 = .ok (.ireturn, 1) := by decide +kernel
theorem dX8_actLack_35 : decode cX8_actLack 35 = .ok (.iconst 2, 1) := by decide +kernel
theorem dX8_actLack_36 : decode cX8_actLack 36 = .ok (.aload_n 0, 1) := by decide +kernel
theorem dX8_actLack_37 : decode cX8_actLack 37 = .ok (.getfield 35, 3) := by decide +kernel
theorem dX8_actLack_40 : decode cX8_actLack 40 = .ok (.getfield 206, 3) := by decide +kernel
theorem dX8_actLack_43 : decode cX8_actLack 43 = .ok (.getfield 284, 3) := by decide +kernel
theorem dX8_actLack_46 : decode cX8_actLack 46 = .ok (.imul, 1) := by decide +kernel
theorem dX8_actLack_47 : decode cX8_actLack 47 = .ok (.istore 5, 2) := by decide +kernel
theorem dX8_actLack_49 : decode cX8_actLack 49 = .ok (.aload_n 0, 1) := by decide +kernel
theorem dX8_actLack_50 : decode cX8_actLack 50 = .ok (.getfield 10, 3) := by decide +kernel
theorem dX8_actLack_53 : decode cX8_actLack 53 = .ok (.iload_n 1, 1) := by decide +kernel
theorem dX8_actLack_54 : decode cX8_actLack 54 = .ok (.iconst 0, 1) := by decide +kernel
theorem dX8_actLack_55 : decode cX8_actLack 55 = .ok (.iload 5, 2) := by decide +kernel
theorem dX8_actLack_57 : decode cX8_actLack 57 = .ok (.invokevirtual 70, 3) := by decide +kernel
theorem dX8_actLack_60 : decode cX8_actLack 60 = .ok (.istore 4, 2) := by decide +kernel
theorem dX8_actLack_62 : decode cX8_actLack 62 = .ok (.iload 4, 2) := by decide +kernel
theorem dX8_actLack_64 : decode cX8_actLack 64 = .ok (.ifCond .eq 6, 3) := by decide +kernel
theorem dX8_actLack_67 : decode cX8_actLack 67 = .ok (.iload 4, 2) := by decide +kernel
theorem dX8_actLack_69 : decode cX8_actLack 69 = .ok (.ireturn, 1) := by decide +kernel
theorem dX8_actLack_70 : decode cX8_actLack 70 = .ok (.iconst 0, 1) := by decide +kernel
theorem dX8_actLack_71 : decode cX8_actLack 71 = .ok (.istore 6, 2) := by decide +kernel
theorem dX8_actLack_73 : decode cX8_actLack 73 = .ok (.iload 6, 2) := by decide +kernel
theorem dX8_actLack_75 : decode cX8_actLack 75 = .ok (.iload 5, 2) := by decide +kernel
theorem dX8_actLack_77 : decode cX8_actLack 77 = .ok (.if_icmp .ge 31, 3) := by decide +kernel
theorem dX8_actLack_80 : decode cX8_actLack 80 = .ok (.aload_n 0, 1) := by decide +kernel
theorem dX8_actLack_81 : decode cX8_actLack 81 = .ok (.getfield 10, 3) := by decide +kernel
theorem dX8_actLack_84 : decode cX8_actLack 84 = .ok (.iload_n 1, 1) := by decide +kernel
theorem dX8_actLack_85 : decode cX8_actLack 85 = .ok (.iload 6, 2) := by decide +kernel
theorem dX8_actLack_87 : decode cX8_actLack 87 = .ok (.invokevirtual 80, 3) := by decide +kernel
theorem dX8_actLack_90 : decode cX8_actLack 90 = .ok (.lconst 0, 1) := by decide +kernel
theorem dX8_actLack_91 : decode cX8_actLack 91 = .ok (.ldc2_w 143, 3) := by decide +kernel
theorem dX8_actLack_94 : decode cX8_actLack 94 = .ok (.invokestatic 56, 3) := by decide +kernel
theorem dX8_actLack_97 : decode cX8_actLack 97 = .ok (.ifCond .ne 5, 3) := by decide +kernel
theorem dX8_actLack_100 : decode cX8_actLack 100 = .ok (.iconst 1, 1) := by decide +kernel
theorem dX8_actLack_101 : decode cX8_actLack 101 = .ok (.ireturn, 1) := by decide +kernel
theorem dX8_actLack_102 : decode cX8_actLack 102 = .ok (.iinc 6 1, 3) := by decide +kernel
theorem dX8_actLack_105 : decode cX8_actLack 105 = .ok (.goto (-32), 3) := by decide +kernel
theorem dX8_actLack_108 : decode cX8_actLack 108 = .ok (.iload_n 3, 1) := by decide +kernel
theorem dX8_actLack_109 : decode cX8_actLack 109 = .ok (.bipush 40, 2) := by decide +kernel
theorem dX8_actLack_111 : decode cX8_actLack 111 = .ok (.if_icmp .ge 7, 3) := by decide +kernel
theorem dX8_actLack_114 : decode cX8_actLack 114 = .ok (.iconst 0, 1) := by decide +kernel
theorem dX8_actLack_115 : decode cX8_actLack 115 = .ok (.goto 5, 3) := by decide +kernel
theorem dX8_actLack_118 : decode cX8_actLack 118 = .ok (.bipush 6, 2) := by decide +kernel
theorem dX8_actLack_120 : decode cX8_actLack 120 = .ok (.ireturn, 1) := by decide +kernel
theorem dX9_status_0 : decode cX9_status 0 = .ok (.aload_n 0, 1) := by decide +kernel
theorem dX9_status_1 : decode cX9_status 1 = .ok (.getfield 1, 3) := by decide +kernel
theorem dX9_status_4 : decode cX9_status 4 = .ok (.ireturn, 1) := by decide +kernel
theorem dX9_top_0 : decode cX9_top 0 = .ok (.aload_n 0, 1) := by decide +kernel
theorem dX9_top_1 : decode cX9_top 1 = .ok (.getfield 7, 3) := by decide +kernel
theorem dX9_top_4 : decode cX9_top 4 = .ok (.lreturn, 1) := by decide +kernel
theorem dX9_bottom_0 : decode cX9_bottom 0 = .ok (.aload_n 0, 1) := by decide +kernel
theorem dX9_bottom_1 : decode cX9_bottom 1 = .ok (.getfield 11, 3) := by decide +kernel
theorem dX9_bottom_4 : decode cX9_bottom 4 = .ok (.lreturn, 1) := by decide +kernel
theorem dX9_is_0 : decode cX9_is 0 = .ok (.aload_n 0, 1) := by decide +kernel
theorem dX9_is_1 : decode cX9_is 1 = .ok (.iload_n 1, 1) := by decide +kernel
theorem dX9_is_2 : decode cX9_is 2 = .ok (.putfield 1, 3) := by decide +kernel
theorem dX9_is_5 : decode cX9_is 5 = .ok (.iload_n 1, 1) := by decide +kernel
theorem dX9_is_6 : decode cX9_is 6 = .ok (.ifCond .ne 7, 3) := by decide +kernel
theorem dX9_is_9 : decode cX9_is 9 = .ok (.iconst 1, 1) := by decide +kernel
theorem dX9_is_10 : decode cX9_is 10 = .ok (.goto 4, 3) := by decide +kernel
theorem dX9_is_13 : decode cX9_is 13 = .ok (.iconst 0, 1) := by decide +kernel
theorem dX9_is_14 : decode cX9_is 14 = .ok (.ireturn, 1) := by decide +kernel
theorem dX9_refuse_0 : decode cX9_refuse 0 = .ok (.aload_n 0, 1) := by decide +kernel
theorem dX9_refuse_1 : decode cX9_refuse 1 = .ok (.iload_n 1, 1) := by decide +kernel
theorem dX9_refuse_2 : decode cX9_refuse 2 = .ok (.putfield 1, 3) := by decide +kernel
theorem dX9_refuse_5 : decode cX9_refuse 5 = .ok (.iconst (-1), 1) := by decide +kernel
theorem dX9_refuse_6 : decode cX9_refuse 6 = .ok (.ireturn, 1) := by decide +kernel
theorem dX9_isSheet_0 : decode cX9_isSheet 0 = .ok (.iload_n 0, 1) := by decide +kernel
theorem dX9_isSheet_1 : decode cX9_isSheet 1 = .ok (.ifCond .lt 12, 3) := by decide +kernel
theorem dX9_isSheet_4 : decode cX9_isSheet 4 = .ok (.iload_n 0, 1) := by decide +kernel
theorem dX9_isSheet_5 : decode cX9_isSheet 5 = .ok (.iconst 4, 1) := by decide +kernel
theorem dX9_isSheet_6 : decode cX9_isSheet 6 = .ok (.if_icmp .ge 7, 3) := by decide +kernel
theorem dX9_isSheet_9 : decode cX9_isSheet 9 = .ok (.iconst 1, 1) := by decide +kernel
theorem dX9_isSheet_10 : decode cX9_isSheet 10 = .ok (.goto 4, 3) := by decide +kernel
theorem dX9_isSheet_13 : decode cX9_isSheet 13 = .ok (.iconst 0, 1) := by decide +kernel
theorem dX9_isSheet_14 : decode cX9_isSheet 14 = .ok (.ireturn, 1) := by decide +kernel
theorem dX9_cut_0 : decode cX9_cut 0 = .ok (.iload_n 2, 1) := by decide +kernel
theorem dX9_cut_1 : decode cX9_cut 1 = .ok (.ifCond .ne 10, 3) := by decide +kernel
theorem dX9_cut_4 : decode cX9_cut 4 = .ok (.lload_n 0, 1) := by decide +kernel
theorem dX9_cut_5 : decode cX9_cut 5 = .ok (.l2i, 1) := by decide +kernel
theorem dX9_cut_6 : decode cX9_cut 6 = .ok (.i2b, 1) := by decide +kernel
theorem dX9_cut_7 : decode cX9_cut 7 = .ok (.i2l, 1) := by decide +kernel
theorem dX9_cut_8 : decode cX9_cut 8 = .ok (.goto 27, 3) := by decide +kernel
theorem dX9_cut_11 : decode cX9_cut 11 = .ok (.iload_n 2, 1) := by decide +kernel
theorem dX9_cut_12 : decode cX9_cut 12 = .ok (.iconst 1, 1) := by decide +kernel
theorem dX9_cut_13 : decode cX9_cut 13 = .ok (.if_icmp .ne 10, 3) := by decide +kernel
theorem dX9_cut_16 : decode cX9_cut 16 = .ok (.lload_n 0, 1) := by decide +kernel
theorem dX9_cut_17 : decode cX9_cut 17 = .ok (.l2i, 1) := by decide +kernel
theorem dX9_cut_18 : decode cX9_cut 18 = .ok (.i2s, 1) := by decide +kernel
theorem dX9_cut_19 : decode cX9_cut 19 = .ok (.i2l, 1) := by decide +kernel
theorem dX9_cut_20 : decode cX9_cut 20 = .ok (.goto 15, 3) := by decide +kernel
theorem dX9_cut_23 : decode cX9_cut 23 = .ok (.iload_n 2, 1) := by decide +kernel
theorem dX9_cut_24 : decode cX9_cut 24 = .ok (.iconst 2, 1) := by decide +kernel
theorem dX9_cut_25 : decode cX9_cut 25 = .ok (.if_icmp .ne 9, 3) := by decide +kernel
theorem dX9_cut_28 : decode cX9_cut 28 = .ok (.lload_n 0, 1) := by decide +kernel
theorem dX9_cut_29 : decode cX9_cut 29 = .ok (.l2i, 1) := by decide +kernel
theorem dX9_cut_30 : decode cX9_cut 30 = .ok (.i2l, 1) := by decide +kernel
theorem dX9_cut_31 : decode cX9_cut 31 = .ok (.goto 4, 3) := by decide +kernel
theorem dX9_cut_34 : decode cX9_cut 34 = .ok (.lload_n 0, 1) := by decide +kernel
theorem dX9_cut_35 : decode cX9_cut 35 = .ok (.lreturn, 1) := by decide +kernel
theorem dX9_sheet_0 : decode cX9_sheet 0 = .ok (.iload_n 1, 1) := by decide +kernel
theorem dX9_sheet_1 : decode cX9_sheet 1 = .ok (.invokestatic 14, 3) := by decide +kernel
theorem dX9_sheet_4 : decode cX9_sheet 4 = .ok (.ifCond .eq 22, 3) := by decide +kernel
theorem dX9_sheet_7 : decode cX9_sheet 7 = .ok (.iload_n 2, 1) := by decide +kernel
theorem dX9_sheet_8 : decode cX9_sheet 8 = .ok (.ifCond .lt 18, 3) := by decide +kernel
theorem dX9_sheet_11 : decode cX9_sheet 11 = .ok (.iload_n 2, 1) := by decide +kernel
theorem dX9_sheet_12 : decode cX9_sheet 12 = .ok (.iconst 3, 1) := by decide +kernel
theorem dX9_sheet_13 : decode cX9_sheet 13 = .ok (.if_icmp .gt 13, 3) := by decide +kernel
theorem dX9_sheet_16 : decode cX9_sheet 16 = .ok (.iload_n 3, 1) := by decide +kernel
theorem dX9_sheet_17 : decode cX9_sheet 17 = .ok (.ifCond .lt 9, 3) := by decide +kernel
theorem dX9_sheet_20 : decode cX9_sheet 20 = .ok (.iload_n 3, 1) := by decide +kernel
theorem dX9_sheet_21 : decode cX9_sheet 21 = .ok (.bipush 16, 2) := by decide +kernel
theorem dX9_sheet_23 : decode cX9_sheet 23 = .ok (.if_icmp .le 9, 3) := by decide +kernel
theorem dX9_sheet_26 : decode cX9_sheet 26 = .ok (.aload_n 0, 1) := by decide +kernel
theorem dX9_sheet_27 : decode cX9_sheet 27 = .ok (.iconst 1, 1) := by decide +kernel
theorem dX9_sheet_28 : decode cX9_sheet 28 = .ok (.invokevirtual 18, 3) := by decide +kernel
theorem dX9_sheet_31 : decode cX9_sheet 31 = .ok (.ireturn, 1) := by decide +kernel
theorem dX9_sheet_32 : decode cX9_sheet 32 = .ok (.aload_n 0, 1) := by decide +kernel
theorem dX9_sheet_33 : decode cX9_sheet 33 = .ok (.getfield 21, 3) := by decide +kernel
theorem dX9_sheet_36 : decode cX9_sheet 36 = .ok (.iload_n 1, 1) := by decide +kernel
theorem dX9_sheet_37 : decode cX9_sheet 37 = .ok (.iload_n 2, 1) := by decide +kernel
theorem dX9_sheet_38 : decode cX9_sheet 38 = .ok (.iastore, 1) := by decide +kernel
theorem dX9_sheet_39 : decode cX9_sheet 39 = .ok (.aload_n 0, 1) := by decide +kernel
theorem dX9_sheet_40 : decode cX9_sheet 40 = .ok (.getfield 25, 3) := by decide +kernel
theorem dX9_sheet_43 : decode cX9_sheet 43 = .ok (.iload_n 1, 1) := by decide +kernel
theorem dX9_sheet_44 : decode cX9_sheet 44 = .ok (.iload_n 3, 1) := by decide +kernel
theorem dX9_sheet_45 : decode cX9_sheet 45 = .ok (.iastore, 1) := by decide +kernel
theorem dX9_sheet_46 : decode cX9_sheet 46 = .ok (.iconst 0, 1) := by decide +kernel
theorem dX9_sheet_47 : decode cX9_sheet 47 = .ok (.istore 4, 2) := by decide +kernel
theorem dX9_sheet_49 : decode cX9_sheet 49 = .ok (.iload 4, 2) := by decide +kernel
theorem dX9_sheet_51 : decode cX9_sheet 51 = .ok (.iload_n 3, 1) := by decide +kernel
theorem dX9_sheet_52 : decode cX9_sheet 52 = .ok (.if_icmp .ge 22, 3) := by decide +kernel
theorem dX9_sheet_55 : decode cX9_sheet 55 = .ok (.aload_n 0, 1) := by decide +kernel
theorem dX9_sheet_56 : decode cX9_sheet 56 = .ok (.getfield 28, 3) := by decide +kernel
theorem dX9_sheet_59 : decode cX9_sheet 59 = .ok (.bipush 16, 2) := by decide +kernel
theorem dX9_sheet_61 : decode cX9_sheet 61 = .ok (.iload_n 1, 1) := by decide +kernel
theorem dX9_sheet_62 : decode cX9_sheet 62 = .ok (.imul, 1) := by decide +kernel
theorem dX9_sheet_63 : decode cX9_sheet 63 = .ok (.iload 4, 2) := by decide +kernel
theorem dX9_sheet_65 : decode cX9_sheet 65 = .ok (.iadd, 1) := by decide +kernel
theorem dX9_sheet_66 : decode cX9_sheet 66 = .ok (.lconst 0, 1) := by decide +kernel
theorem dX9_sheet_67 : decode cX9_sheet 67 = .ok (.lastore, 1) := by decide +kernel
theorem dX9_sheet_68 : decode cX9_sheet 68 = .ok (.iinc 4 1, 3) := by decide +kernel
theorem dX9_sheet_71 : decode cX9_sheet 71 = .ok (.goto (-22), 3) := by decide +kernel
theorem dX9_sheet_74 : decode cX9_sheet 74 = .ok (.aload_n 0, 1) := by decide +kernel
theorem dX9_sheet_75 : decode cX9_sheet 75 = .ok (.iconst 0, 1) := by decide +kernel
theorem dX9_sheet_76 : decode cX9_sheet 76 = .ok (.invokevirtual 18, 3) := by decide +kernel
theorem dX9_sheet_79 : decode cX9_sheet 79 = .ok (.ireturn, 1) := by decide +kernel
theorem dX9_wrong_0 : decode cX9_wrong 0 = .ok (.iload_n 1, 1) := by decide +kernel
theorem dX9_wrong_1 : decode cX9_wrong 1 = .ok (.invokestatic 14, 3) := by decide +kernel
theorem dX9_wrong_4 : decode cX9_wrong 4 = .ok (.ifCond .ne 7, 3) := by decide +kernel
theorem dX9_wrong_7 : decode cX9_wrong 7 = .ok (.iconst 1, 1) := by decide +kernel
theorem dX9_wrong_8 : decode cX9_wrong 8 = .ok (.goto 36, 3) := by decide +kernel
theorem dX9_wrong_11 : decode cX9_wrong 11 = .ok (.aload_n 0, 1) := by decide +kernel
theorem dX9_wrong_12 : decode cX9_wrong 12 = .ok (.getfield 25, 3) := by decide +kernel
theorem dX9_wrong_15 : decode cX9_wrong 15 = .ok (.iload_n 1, 1) := by decide +kernel
theorem dX9_wrong_16 : decode cX9_wrong 16 = .ok (.iaload, 1) := by decide +kernel
theorem dX9_wrong_17 : decode cX9_wrong 17 = .ok (.iconst (-1), 1) := by decide +kernel
theorem dX9_wrong_18 : decode cX9_wrong 18 = .ok (.if_icmp .ne 7, 3) := by decide +kernel
theorem dX9_wrong_21 : decode cX9_wrong 21 = .ok (.iconst 2, 1) := by decide +kernel
theorem dX9_wrong_22 : decode cX9_wrong 22 = .ok (.goto 22, 3) := by decide +kernel
theorem dX9_wrong_25 : decode cX9_wrong 25 = .ok (.iload_n 2, 1) := by decide +kernel
theorem dX9_wrong_26 : decode cX9_wrong 26 = .ok (.ifCond .lt 13, 3) := by decide +kernel
theorem dX9_wrong_29 : decode cX9_wrong 29 = .ok (.iload_n 2, 1) := by decide +kernel
theorem dX9_wrong_30 : decode cX9_wrong 30 = .ok (.aload_n 0, 1) := by decide +kernel
theorem dX9_wrong_31 : decode cX9_wrong 31 = .ok (.getfield 25, 3) := by decide +kernel
theorem dX9_wrong_34 : decode cX9_wrong 34 = .ok (.iload_n 1, 1) := by decide +kernel
theorem dX9_wrong_35 : decode cX9_wrong 35 = .ok (.iaload, 1) := by decide +kernel
theorem dX9_wrong_36 : decode cX9_wrong 36 = .ok (.if_icmp .lt 7, 3) := by decide +kernel
theorem dX9_wrong_39 : decode cX9_wrong 39 = .ok (.iconst 3, 1) := by decide +kernel
theorem dX9_wrong_40 : decode cX9_wrong 40 = .ok (.goto 4, 3) := by decide +kernel
theorem dX9_wrong_43 : decode cX9_wrong 43 = .ok (.iconst 0, 1) := by decide +kernel
theorem dX9_wrong_44 : decode cX9_wrong 44 = .ok (.ireturn, 1) := by decide +kernel
theorem dX9_write_0 : decode cX9_write 0 = .ok (.aload_n 0, 1) := by decide +kernel
theorem dX9_write_1 : decode cX9_write 1 = .ok (.iload_n 1, 1) := by decide +kernel
theorem dX9_write_2 : decode cX9_write 2 = .ok (.iload_n 2, 1) := by decide +kernel
theorem dX9_write_3 : decode cX9_write 3 = .ok (.invokevirtual 32, 3) := by decide +kernel
theorem dX9_write_6 : decode cX9_write 6 = .ok (.istore 5, 2) := by decide +kernel
theorem dX9_write_8 : decode cX9_write 8 = .ok (.iload 5, 2) := by decide +kernel
theorem dX9_write_10 : decode cX9_write 10 = .ok (.ifCond .ne 24, 3) := by decide +kernel
theorem dX9_write_13 : decode cX9_write 13 = .ok (.aload_n 0, 1) := by decide +kernel
theorem dX9_write_14 : decode cX9_write 14 = .ok (.getfield 28, 3) := by decide +kernel
theorem dX9_write_17 : decode cX9_write 17 = .ok (.bipush 16, 2) := by decide +kernel
theorem dX9_write_19 : decode cX9_write 19 = .ok (.iload_n 1, 1) := by decide +kernel
theorem dX9_write_20 : decode cX9_write 20 = .ok (.imul, 1) := by decide +kernel
theorem dX9_write_21 : decode cX9_write 21 = .ok (.iload_n 2, 1) := by decide +kernel
theorem dX9_write_22 : decode cX9_write 22 = .ok (.iadd, 1) := by decide +kernel
theorem dX9_write_23 : decode cX9_write 23 = .ok (.lload_n 3, 1) := by decide +kernel
theorem dX9_write_24 : decode cX9_write 24 = .ok (.aload_n 0, 1) := by decide +kernel
theorem dX9_write_25 : decode cX9_write 25 = .ok (.getfield 21, 3) := by decide +kernel
theorem dX9_write_28 : decode cX9_write 28 = .ok (.iload_n 1, 1) := by decide +kernel
theorem dX9_write_29 : decode cX9_write 29 = .ok (.iaload, 1) := by decide +kernel
theorem dX9_write_30 : decode cX9_write 30 = .ok (.invokestatic 36, 3) := by decide +kernel
theorem dX9_write_33 : decode cX9_write 33 = .ok (.lastore, 1) := by decide +kernel
theorem dX9_write_34 : decode cX9_write 34 = .ok (.aload_n 0, 1) := by decide +kernel
theorem dX9_write_35 : decode cX9_write 35 = .ok (.iload 5, 2) := by decide +kernel
theorem dX9_write_37 : decode cX9_write 37 = .ok (.invokevirtual 18, 3) := by decide +kernel
theorem dX9_write_40 : decode cX9_write 40 = .ok (.ireturn, 1) := by decide +kernel
theorem dX9_read_0 : decode cX9_read 0 = .ok (.aload_n 0, 1) := by decide +kernel
theorem dX9_read_1 : decode cX9_read 1 = .ok (.aload_n 0, 1) := by decide +kernel
theorem dX9_read_2 : decode cX9_read 2 = .ok (.iload_n 1, 1) := by decide +kernel
theorem dX9_read_3 : decode cX9_read 3 = .ok (.iload_n 2, 1) := by decide +kernel
theorem dX9_read_4 : decode cX9_read 4 = .ok (.invokevirtual 32, 3) := by decide +kernel
theorem dX9_read_7 : decode cX9_read 7 = .ok (.putfield 1, 3) := by decide +kernel
theorem dX9_read_10 : decode cX9_read 10 = .ok (.aload_n 0, 1) := by decide +kernel
theorem dX9_read_11 : decode cX9_read 11 = .ok (.getfield 1, 3) := by decide +kernel
theorem dX9_read_14 : decode cX9_read 14 = .ok (.ifCond .le 9, 3) := by decide +kernel
theorem dX9_read_17 : decode cX9_read 17 = .ok (.ldc2_w 40, 3) := by decide +kernel
theorem dX9_read_20 : decode cX9_read 20 = .ok (.goto 14, 3) := by decide +kernel
theorem dX9_read_23 : decode cX9_read 23 = .ok (.aload_n 0, 1) := by decide +kernel
theorem dX9_read_24 : decode cX9_read 24 = .ok (.getfield 28, 3) := by decide +kernel
theorem dX9_read_27 : decode cX9_read 27 = .ok (.bipush 16, 2) := by decide +kernel
theorem dX9_read_29 : decode cX9_read 29 = .ok (.iload_n 1, 1) := by decide +kernel
theorem dX9_read_30 : decode cX9_read 30 = .ok (.imul, 1) := by decide +kernel
theorem dX9_read_31 : decode cX9_read 31 = .ok (.iload_n 2, 1) := by decide +kernel
theorem dX9_read_32 : decode cX9_read 32 = .ok (.iadd, 1) := by decide +kernel
theorem dX9_read_33 : decode cX9_read 33 = .ok (.laload, 1) := by decide +kernel
theorem dX9_read_34 : decode cX9_read 34 = .ok (.lreturn, 1) := by decide +kernel
theorem dX9_copy_0 : decode cX9_copy 0 = .ok (.iload_n 1, 1) := by decide +kernel
theorem dX9_copy_1 : decode cX9_copy 1 = .ok (.invokestatic 14, 3) := by decide +kernel
theorem dX9_copy_4 : decode cX9_copy 4 = .ok (.ifCond .eq 24, 3) := by decide +kernel
theorem dX9_copy_7 : decode cX9_copy 7 = .ok (.iload_n 3, 1) := by decide +kernel
theorem dX9_copy_8 : decode cX9_copy 8 = .ok (.invokestatic 14, 3) := by decide +kernel
theorem dX9_copy_11 : decode cX9_copy 11 = .ok (.ifCond .eq 17, 3) := by decide +kernel
theorem dX9_copy_14 : decode cX9_copy 14 = .ok (.iload_n 2, 1) := by decide +kernel
theorem dX9_copy_15 : decode cX9_copy 15 = .ok (.ifCond .lt 13, 3) := by decide +kernel
theorem dX9_copy_18 : decode cX9_copy 18 = .ok (.iload 4, 2) := by decide +kernel
theorem dX9_copy_20 : decode cX9_copy 20 = .ok (.ifCond .lt 8, 3) := by decide +kernel
theorem dX9_copy_23 : decode cX9_copy 23 = .ok (.iload 5, 2) := by decide +kernel
theorem dX9_copy_25 : decode cX9_copy 25 = .ok (.ifCond .ge 9, 3) := by decide +kernel
theorem dX9_copy_28 : decode cX9_copy 28 = .ok (.aload_n 0, 1) := by decide +kernel
theorem dX9_copy_29 : decode cX9_copy 29 = .ok (.iconst 1, 1) := by decide +kernel
theorem dX9_copy_30 : decode cX9_copy 30 = .ok (.invokevirtual 18, 3) := by decide +kernel
theorem dX9_copy_33 : decode cX9_copy 33 = .ok (.ireturn, 1) := by decide +kernel
theorem dX9_copy_34 : decode cX9_copy 34 = .ok (.aload_n 0, 1) := by decide +kernel
theorem dX9_copy_35 : decode cX9_copy 35 = .ok (.getfield 25, 3) := by decide +kernel
theorem dX9_copy_38 : decode cX9_copy 38 = .ok (.iload_n 1, 1) := by decide +kernel
theorem dX9_copy_39 : decode cX9_copy 39 = .ok (.iaload, 1) := by decide +kernel
theorem dX9_copy_40 : decode cX9_copy 40 = .ok (.iconst (-1), 1) := by decide +kernel
theorem dX9_copy_41 : decode cX9_copy 41 = .ok (.if_icmp .eq 13, 3) := by decide +kernel
theorem dX9_copy_44 : decode cX9_copy 44 = .ok (.aload_n 0, 1) := by decide +kernel
theorem dX9_copy_45 : decode cX9_copy 45 = .ok (.getfield 25, 3) := by decide +kernel
theorem dX9_copy_48 : decode cX9_copy 48 = .ok (.iload_n 3, 1) := by decide +kernel
theorem dX9_copy_49 : decode cX9_copy 49 = .ok (.iaload, 1) := by decide +kernel
theorem dX9_copy_50 : decode cX9_copy 50 = .ok (.iconst (-1), 1) := by decide +kernel
theorem dX9_copy_51 : decode cX9_copy 51 = .ok (.if_icmp .ne 9, 3) := by decide +kernel
theorem dX9_copy_54 : decode cX9_copy 54 = .ok (.aload_n 0, 1) := by decide +kernel
theorem dX9_copy_55 : decode cX9_copy 55 = .ok (.iconst 2, 1) := by decide +kernel
theorem dX9_copy_56 : decode cX9_copy 56 = .ok (.invokevirtual 18, 3) := by decide +kernel
theorem dX9_copy_59 : decode cX9_copy 59 = .ok (.ireturn, 1) := by decide +kernel
theorem dX9_copy_60 : decode cX9_copy 60 = .ok (.iload 5, 2) := by decide +kernel
theorem dX9_copy_62 : decode cX9_copy 62 = .ok (.aload_n 0, 1) := by decide +kernel
theorem dX9_copy_63 : decode cX9_copy 63 = .ok (.getfield 25, 3) := by decide +kernel
theorem dX9_copy_66 : decode cX9_copy 66 = .ok (.iload_n 1, 1) := by decide +kernel
theorem dX9_copy_67 : decode cX9_copy 67 = .ok (.iaload, 1) := by decide +kernel
theorem dX9_copy_68 : decode cX9_copy 68 = .ok (.iload_n 2, 1) := by decide +kernel
theorem dX9_copy_69 : decode cX9_copy 69 = .ok (.isub, 1) := by decide +kernel
theorem dX9_copy_70 : decode cX9_copy 70 = .ok (.if_icmp .gt 17, 3) := by decide +kernel
theorem dX9_copy_73 : decode cX9_copy 73 = .ok (.iload 5, 2) := by decide +kernel
theorem dX9_copy_75 : decode cX9_copy 75 = .ok (.aload_n 0, 1) := by decide +kernel
theorem dX9_copy_76 : decode cX9_copy 76 = .ok (.getfield 25, 3) := by decide +kernel
theorem dX9_copy_79 : decode cX9_copy 79 = .ok (.iload_n 3, 1) := by decide +kernel
theorem dX9_copy_80 : decode cX9_copy 80 = .ok (.iaload, 1) := by decide +kernel
theorem dX9_copy_81 : decode cX9_copy 81 = .ok (.iload 4, 2) := by decide +kernel
theorem dX9_copy_83 : decode cX9_copy 83 = .ok (.isub, 1) := by decide +kernel
theorem dX9_copy_84 : decode cX9_copy 84 = .ok (.if_icmp .le 9, 3) := by decide +kernel
theorem dX9_copy_87 : decode cX9_copy 87 = .ok (.aload_n 0, 1) := by decide +kernel
theorem dX9_copy_88 : decode cX9_copy 88 = .ok (.iconst 3, 1) := by decide +kernel
theorem dX9_copy_89 : decode cX9_copy 89 = .ok (.invokevirtual 18, 3) := by decide +kernel
theorem dX9_copy_92 : decode cX9_copy 92 = .ok (.ireturn, 1) := by decide +kernel
theorem dX9_copy_93 : decode cX9_copy 93 = .ok (.iconst 0, 1) := by decide +kernel
theorem dX9_copy_94 : decode cX9_copy 94 = .ok (.istore 6, 2) := by decide +kernel
theorem dX9_copy_96 : decode cX9_copy 96 = .ok (.iload 6, 2) := by decide +kernel
theorem dX9_copy_98 : decode cX9_copy 98 = .ok (.iload 5, 2) := by decide +kernel
theorem dX9_copy_100 : decode cX9_copy 100 = .ok (.if_icmp .ge 67, 3) := by decide +kernel
theorem dX9_copy_103 : decode cX9_copy 103 = .ok (.iload_n 2, 1) := by decide +kernel
theorem dX9_copy_104 : decode cX9_copy 104 = .ok (.iload 4, 2) := by decide +kernel
theorem dX9_copy_106 : decode cX9_copy 106 = .ok (.if_icmp .ge 13, 3) := by decide +kernel
theorem dX9_copy_109 : decode cX9_copy 109 = .ok (.iload 5, 2) := by decide +kernel
theorem dX9_copy_111 : decode cX9_copy 111 = .ok (.iconst 1, 1) := by decide +kernel
theorem dX9_copy_112 : decode cX9_copy 112 = .ok (.isub, 1) := by decide +kernel
theorem dX9_copy_113 : decode cX9_copy 113 = .ok (.iload 6, 2) := by decide +kernel
theorem dX9_copy_115 : decode cX9_copy 115 = .ok (.isub, 1) := by decide +kernel
theorem dX9_copy_116 : decode cX9_copy 116 = .ok (.goto 5, 3) := by decide +kernel
theorem dX9_copy_119 : decode cX9_copy 119 = .ok (.iload 6, 2) := by decide +kernel
theorem dX9_copy_121 : decode cX9_copy 121 = .ok (.istore 7, 2) := by decide +kernel
theorem dX9_copy_123 : decode cX9_copy 123 = .ok (.aload_n 0, 1) := by decide +kernel
theorem dX9_copy_124 : decode cX9_copy 124 = .ok (.getfield 28, 3) := by decide +kernel
theorem dX9_copy_127 : decode cX9_copy 127 = .ok (.bipush 16, 2) := by decide +kernel
theorem dX9_copy_129 : decode cX9_copy 129 = .ok (.iload_n 3, 1) := by decide +kernel
theorem dX9_copy_130 : decode cX9_copy 130 = .ok (.imul, 1) := by decide +kernel
theorem dX9_copy_131 : decode cX9_copy 131 = .ok (.iload 4, 2) := by decide +kernel
theorem dX9_copy_133 : decode cX9_copy 133 = .ok (.iadd, 1) := by decide +kernel
theorem dX9_copy_134 : decode cX9_copy 134 = .ok (.iload 7, 2) := by decide +kernel
theorem dX9_copy_136 : decode cX9_copy 136 = .ok (.iadd, 1) := by decide +kernel
theorem dX9_copy_137 : decode cX9_copy 137 = .ok (.aload_n 0, 1) := by decide +kernel
theorem dX9_copy_138 : decode cX9_copy 138 = .ok (.getfield 28, 3) := by decide +kernel
theorem dX9_copy_141 : decode cX9_copy 141 = .ok (.bipush 16, 2) := by decide +kernel
theorem dX9_copy_143 : decode cX9_copy 143 = .ok (.iload_n 1, 1) := by decide +kernel
theorem dX9_copy_144 : decode cX9_copy 144 = .ok (.imul, 1) := by decide +kernel
theorem dX9_copy_145 : decode cX9_copy 145 = .ok (.iload_n 2, 1) := by decide +kernel
theorem dX9_copy_146 : decode cX9_copy 146 = .ok (.iadd, 1) := by decide +kernel
theorem dX9_copy_147 : decode cX9_copy 147 = .ok (.iload 7, 2) := by decide +kernel
theorem dX9_copy_149 : decode cX9_copy 149 = .ok (.iadd, 1) := by decide +kernel
theorem dX9_copy_150 : decode cX9_copy 150 = .ok (.laload, 1) := by decide +kernel
theorem dX9_copy_151 : decode cX9_copy 151 = .ok (.aload_n 0, 1) := by decide +kernel
theorem dX9_copy_152 : decode cX9_copy 152 = .ok (.getfield 21, 3) := by decide +kernel
theorem dX9_copy_155 : decode cX9_copy 155 = .ok (.iload_n 3, 1) := by decide +kernel
theorem dX9_copy_156 : decode cX9_copy 156 = .ok (.iaload, 1) := by decide +kernel
theorem dX9_copy_157 : decode cX9_copy 157 = .ok (.invokestatic 36, 3) := by decide +kernel
theorem dX9_copy_160 : decode cX9_copy 160 = .ok (.lastore, 1) := by decide +kernel
theorem dX9_copy_161 : decode cX9_copy 161 = .ok (.iinc 6 1, 3) := by decide +kernel
theorem dX9_copy_164 : decode cX9_copy 164 = .ok (.goto (-68), 3) := by decide +kernel
theorem dX9_copy_167 : decode cX9_copy 167 = .ok (.aload_n 0, 1) := by decide +kernel
theorem dX9_copy_168 : decode cX9_copy 168 = .ok (.iconst 0, 1) := by decide +kernel
theorem dX9_copy_169 : decode cX9_copy 169 = .ok (.invokevirtual 18, 3) := by decide +kernel
theorem dX9_copy_172 : decode cX9_copy 172 = .ok (.ireturn, 1) := by decide +kernel
theorem dX9_drop_0 : decode cX9_drop 0 = .ok (.iload_n 1, 1) := by decide +kernel
theorem dX9_drop_1 : decode cX9_drop 1 = .ok (.invokestatic 14, 3) := by decide +kernel
theorem dX9_drop_4 : decode cX9_drop 4 = .ok (.ifCond .ne 9, 3) := by decide +kernel
theorem dX9_drop_7 : decode cX9_drop 7 = .ok (.aload_n 0, 1) := by decide +kernel
theorem dX9_drop_8 : decode cX9_drop 8 = .ok (.iconst 1, 1) := by decide +kernel
theorem dX9_drop_9 : decode cX9_drop 9 = .ok (.invokevirtual 18, 3) := by decide +kernel
theorem dX9_drop_12 : decode cX9_drop 12 = .ok (.ireturn, 1) := by decide +kernel
theorem dX9_drop_13 : decode cX9_drop 13 = .ok (.aload_n 0, 1) := by decide +kernel
theorem dX9_drop_14 : decode cX9_drop 14 = .ok (.getfield 25, 3) := by decide +kernel
theorem dX9_drop_17 : decode cX9_drop 17 = .ok (.iload_n 1, 1) := by decide +kernel
theorem dX9_drop_18 : decode cX9_drop 18 = .ok (.iaload, 1) := by decide +kernel
theorem dX9_drop_19 : decode cX9_drop 19 = .ok (.iconst (-1), 1) := by decide +kernel
theorem dX9_drop_20 : decode cX9_drop 20 = .ok (.if_icmp .ne 9, 3) := by decide +kernel
theorem dX9_drop_23 : decode cX9_drop 23 = .ok (.aload_n 0, 1) := by decide +kernel
theorem dX9_drop_24 : decode cX9_drop 24 = .ok (.iconst 2, 1) := by decide +kernel
theorem dX9_drop_25 : decode cX9_drop 25 = .ok (.invokevirtual 18, 3) := by decide +kernel
theorem dX9_drop_28 : decode cX9_drop 28 = .ok (.ireturn, 1) := by decide +kernel
theorem dX9_drop_29 : decode cX9_drop 29 = .ok (.aload_n 0, 1) := by decide +kernel
theorem dX9_drop_30 : decode cX9_drop 30 = .ok (.getfield 25, 3) := by decide +kernel
theorem dX9_drop_33 : decode cX9_drop 33 = .ok (.iload_n 1, 1) := by decide +kernel
theorem dX9_drop_34 : decode cX9_drop 34 = .ok (.iconst (-1), 1) := by decide +kernel
theorem dX9_drop_35 : decode cX9_drop 35 = .ok (.iastore, 1) := by decide +kernel
theorem dX9_drop_36 : decode cX9_drop 36 = .ok (.aload_n 0, 1) := by decide +kernel
theorem dX9_drop_37 : decode cX9_drop 37 = .ok (.iconst 0, 1) := by decide +kernel
theorem dX9_drop_38 : decode cX9_drop 38 = .ok (.invokevirtual 18, 3) := by decide +kernel
theorem dX9_drop_41 : decode cX9_drop 41 = .ok (.ireturn, 1) := by decide +kernel
theorem dX9_none_0 : decode cX9_none 0 = .ok (.aload_n 0, 1) := by decide +kernel
theorem dX9_none_1 : decode cX9_none 1 = .ok (.bipush 10, 2) := by decide +kernel
theorem dX9_none_3 : decode cX9_none 3 = .ok (.invokevirtual 18, 3) := by decide +kernel
theorem dX9_none_6 : decode cX9_none 6 = .ok (.ireturn, 1) := by decide +kernel
theorem dX9_init_0 : decode cX9_init 0 = .ok (.aload_n 0, 1) := by decide +kernel
theorem dX9_init_1 : decode cX9_init 1 = .ok (.invokespecial 42, 3) := by decide +kernel
theorem dX9_init_4 : decode cX9_init 4 = .ok (.aload_n 0, 1) := by decide +kernel
theorem dX9_init_5 : decode cX9_init 5 = .ok (.lconst 1, 1) := by decide +kernel
theorem dX9_init_6 : decode cX9_init 6 = .ok (.putfield 11, 3) := by decide +kernel
theorem dX9_init_9 : decode cX9_init 9 = .ok (.aload_n 0, 1) := by decide +kernel
theorem dX9_init_10 : decode cX9_init 10 = .ok (.iconst 4, 1) := by decide +kernel
theorem dX9_init_11 : decode cX9_init 11 = .ok (.newarray .int, 2) := by decide +kernel
theorem dX9_init_13 : decode cX9_init 13 = .ok (.putfield 21, 3) := by decide +kernel
theorem dX9_init_16 : decode cX9_init 16 = .ok (.aload_n 0, 1) := by decide +kernel
theorem dX9_init_17 : decode cX9_init 17 = .ok (.iconst 4, 1) := by decide +kernel
theorem dX9_init_18 : decode cX9_init 18 = .ok (.newarray .int, 2) := by decide +kernel
theorem dX9_init_20 : decode cX9_init 20 = .ok (.dup, 1) := by decide +kernel
theorem dX9_init_21 : decode cX9_init 21 = .ok (.iconst 0, 1) := by decide +kernel
theorem dX9_init_22 : decode cX9_init 22 = .ok (.iconst (-1), 1) := by decide +kernel
theorem dX9_init_23 : decode cX9_init 23 = .ok (.iastore, 1) := by decide +kernel
theorem dX9_init_24 : decode cX9_init 24 = .ok (.dup, 1) := by decide +kernel
theorem dX9_init_25 : decode cX9_init 25 = .ok (.iconst 1, 1) := by decide +kernel
theorem dX9_init_26 : decode cX9_init 26 = .ok (.iconst (-1), 1) := by decide +kernel
theorem dX9_init_27 : decode cX9_init 27 = .ok (.iastore, 1) := by decide +kernel
theorem dX9_init_28 : decode cX9_init 28 = .ok (.dup, 1) := by decide +kernel
theorem dX9_init_29 : decode cX9_init 29 = .ok (.iconst 2, 1) := by decide +kernel
theorem dX9_init_30 : decode cX9_init 30 = .ok (.iconst (-1), 1) := by decide +kernel
theorem dX9_init_31 : decode cX9_init 31 = .ok (.iastore, 1) := by decide +kernel
theorem dX9_init_32 : decode cX9_init 32 = .ok (.dup, 1) := by decide +kernel
theorem dX9_init_33 : decode cX9_init 33 = .ok (.iconst 3, 1) := by decide +kernel
theorem dX9_init_34 : decode cX9_init 34 = .ok (.iconst (-1), 1) := by decide +kernel
theorem dX9_init_35 : decode cX9_init 35 = .ok (.iastore, 1) := by decide +kernel
theorem dX9_init_36 : decode cX9_init 36 = .ok (.putfield 25, 3) := by decide +kernel
theorem dX9_init_39 : decode cX9_init 39 = .ok (.aload_n 0, 1) := by decide +kernel
theorem dX9_init_40 : decode cX9_init 40 = .ok (.bipush 64, 2) := by decide +kernel
theorem dX9_init_42 : decode cX9_init 42 = .ok (.newarray .long, 2) := by decide +kernel
theorem dX9_init_44 : decode cX9_init 44 = .ok (.putfield 28, 3) := by decide +kernel
theorem dX9_init_47 : decode cX9_init 47 = .ok (.aload_n 0, 1) := by decide +kernel
theorem dX9_init_48 : decode cX9_init 48 = .ok (.iconst 3, 1) := by decide +kernel
theorem dX9_init_49 : decode cX9_init 49 = .ok (.putfield 48, 3) := by decide +kernel
theorem dX9_init_52 : decode cX9_init 52 = .ok (.aload_n 0, 1) := by decide +kernel
theorem dX9_init_53 : decode cX9_init 53 = .ok (.iconst 2, 1) := by decide +kernel
theorem dX9_init_54 : decode cX9_init 54 = .ok (.putfield 51, 3) := by decide +kernel
theorem dX9_init_57 : decode cX9_init 57 = .ok (.aload_n 0, 1) := by decide +kernel
theorem dX9_init_58 : decode cX9_init 58 = .ok (.iconst 2, 1) := by decide +kernel
theorem dX9_init_59 : decode cX9_init 59 = .ok (.putfield 54, 3) := by decide +kernel
theorem dX9_init_62 : decode cX9_init 62 = .ok (.aload_n 0, 1) := by decide +kernel
theorem dX9_init_63 : decode cX9_init 63 = .ok (.iconst 1, 1) := by decide +kernel
theorem dX9_init_64 : decode cX9_init 64 = .ok (.putfield 57, 3) := by decide +kernel
theorem dX9_init_67 : decode cX9_init 67 = .ok (.aload_n 0, 1) := by decide +kernel
theorem dX9_init_68 : decode cX9_init 68 = .ok (.bipush 32, 2) := by decide +kernel
theorem dX9_init_70 : decode cX9_init 70 = .ok (.newarray .int, 2) := by decide +kernel
theorem dX9_init_72 : decode cX9_init 72 = .ok (.putfield 60, 3) := by decide +kernel
theorem dX9_init_75 : decode cX9_init 75 = .ok (.aload_n 0, 1) := by decide +kernel
theorem dX9_init_76 : decode cX9_init 76 = .ok (.iconst 4, 1) := by decide +kernel
theorem dX9_init_77 : decode cX9_init 77 = .ok (.newarray .int, 2) := by decide +kernel
theorem dX9_init_79 : decode cX9_init 79 = .ok (.dup, 1) := by decide +kernel
theorem dX9_init_80 : decode cX9_init 80 = .ok (.iconst 0, 1) := by decide +kernel
theorem dX9_init_81 : decode cX9_init 81 = .ok (.iconst 1, 1) := by decide +kernel
theorem dX9_init_82 : decode cX9_init 82 = .ok (.iastore, 1) := by decide +kernel
theorem dX9_init_83 : decode cX9_init 83 = .ok (.dup, 1) := by decide +kernel
theorem dX9_init_84 : decode cX9_init 84 = .ok (.iconst 1, 1) := by decide +kernel
theorem dX9_init_85 : decode cX9_init 85 = .ok (.iconst 1, 1) := by decide +kernel
theorem dX9_init_86 : decode cX9_init 86 = .ok (.iastore, 1) := by decide +kernel
theorem dX9_init_87 : decode cX9_init 87 = .ok (.dup, 1) := by decide +kernel
theorem dX9_init_88 : decode cX9_init 88 = .ok (.iconst 2, 1) := by decide +kernel
theorem dX9_init_89 : decode cX9_init 89 = .ok (.iconst 1, 1) := by decide +kernel
theorem dX9_init_90 : decode cX9_init 90 = .ok (.iastore, 1) := by decide +kernel
theorem dX9_init_91 : decode cX9_init 91 = .ok (.dup, 1) := by decide +kernel
theorem dX9_init_92 : decode cX9_init 92 = .ok (.iconst 3, 1) := by decide +kernel
theorem dX9_init_93 : decode cX9_init 93 = .ok (.iconst 1, 1) := by decide +kernel
theorem dX9_init_94 : decode cX9_init 94 = .ok (.iastore, 1) := by decide +kernel
theorem dX9_init_95 : decode cX9_init 95 = .ok (.putfield 63, 3) := by decide +kernel
theorem dX9_init_98 : decode cX9_init 98 = .ok (.aload_n 0, 1) := by decide +kernel
theorem dX9_init_99 : decode cX9_init 99 = .ok (.bipush 90, 2) := by decide +kernel
theorem dX9_init_101 : decode cX9_init 101 = .ok (.newarray .long, 2) := by decide +kernel
theorem dX9_init_103 : decode cX9_init 103 = .ok (.putfield 66, 3) := by decide +kernel
theorem dX9_init_106 : decode cX9_init 106 = .ok (.aload_n 0, 1) := by decide +kernel
theorem dX9_init_107 : decode cX9_init 107 = .ok (.sipush 1296, 3) := by decide +kernel
theorem dX9_init_110 : decode cX9_init 110 = .ok (.newarray .long, 2) := by decide +kernel
theorem dX9_init_112 : decode cX9_init 112 = .ok (.putfield 69, 3) := by decide +kernel
theorem dX9_init_115 : decode cX9_init 115 = .ok (.aload_n 0, 1) := by decide +kernel
theorem dX9_init_116 : decode cX9_init 116 = .ok (.sipush 1296, 3) := by decide +kernel
theorem dX9_init_119 : decode cX9_init 119 = .ok (.newarray .long, 2) := by decide +kernel
theorem dX9_init_121 : decode cX9_init 121 = .ok (.putfield 72, 3) := by decide +kernel
theorem dX9_init_124 : decode cX9_init 124 = .ok (.aload_n 0, 1) := by decide +kernel
theorem dX9_init_125 : decode cX9_init 125 = .ok (.bipush 18, 2) := by decide +kernel
theorem dX9_init_127 : decode cX9_init 127 = .ok (.newarray .long, 2) := by decide +kernel
theorem dX9_init_129 : decode cX9_init 129 = .ok (.putfield 75, 3) := by decide +kernel
theorem dX9_init_132 : decode cX9_init 132 = .ok (.aload_n 0, 1) := by decide +kernel
theorem dX9_init_133 : decode cX9_init 133 = .ok (.iconst 5, 1) := by decide +kernel
theorem dX9_init_134 : decode cX9_init 134 = .ok (.newarray .int, 2) := by decide +kernel
theorem dX9_init_136 : decode cX9_init 136 = .ok (.putfield 78, 3) := by decide +kernel
theorem dX9_init_139 : decode cX9_init 139 = .ok (.aload_n 0, 1) := by decide +kernel
theorem dX9_init_140 : decode cX9_init 140 = .ok (.bipush 25, 2) := by decide +kernel
theorem dX9_init_142 : decode cX9_init 142 = .ok (.newarray .int, 2) := by decide +kernel
theorem dX9_init_144 : decode cX9_init 144 = .ok (.putfield 81, 3) := by decide +kernel
theorem dX9_init_147 : decode cX9_init 147 = .ok (.aload_n 0, 1) := by decide +kernel
theorem dX9_init_148 : decode cX9_init 148 = .ok (.iconst 5, 1) := by decide +kernel
theorem dX9_init_149 : decode cX9_init 149 = .ok (.newarray .boolean, 2) := by decide +kernel
theorem dX9_init_151 : decode cX9_init 151 = .ok (.putfield 84, 3) := by decide +kernel
theorem dX9_init_154 : decode cX9_init 154 = .ok (.aload_n 0, 1) := by decide +kernel
theorem dX9_init_155 : decode cX9_init 155 = .ok (.iconst 4, 1) := by decide +kernel
theorem dX9_init_156 : decode cX9_init 156 = .ok (.newarray .boolean, 2) := by decide +kernel
theorem dX9_init_158 : decode cX9_init 158 = .ok (.putfield 88, 3) := by decide +kernel
theorem dX9_init_161 : decode cX9_init 161 = .ok (.aload_n 0, 1) := by decide +kernel
theorem dX9_init_162 : decode cX9_init 162 = .ok (.iconst 4, 1) := by decide +kernel
theorem dX9_init_163 : decode cX9_init 163 = .ok (.newarray .int, 2) := by decide +kernel
theorem dX9_init_165 : decode cX9_init 165 = .ok (.putfield 91, 3) := by decide +kernel
theorem dX9_init_168 : decode cX9_init 168 = .ok (.aload_n 0, 1) := by decide +kernel
theorem dX9_init_169 : decode cX9_init 169 = .ok (.sipush 1200, 3) := by decide +kernel
theorem dX9_init_172 : decode cX9_init 172 = .ok (.newarray .int, 2) := by decide +kernel
theorem dX9_init_174 : decode cX9_init 174 = .ok (.putfield 94, 3) := by decide +kernel
theorem dX9_init_177 : decode cX9_init 177 = .ok (.aload_n 0, 1) := by decide +kernel
theorem dX9_init_178 : decode cX9_init 178 = .ok (.sipush 1200, 3) := by decide +kernel
theorem dX9_init_181 : decode cX9_init 181 = .ok (.newarray .int, 2) := by decide +kernel
theorem dX9_init_183 : decode cX9_init 183 = .ok (.putfield 97, 3) := by decide +kernel
theorem dX9_init_186 : decode cX9_init 186 = .ok (.aload_n 0, 1) := by decide +kernel
theorem dX9_init_187 : decode cX9_init 187 = .ok (.sipush 1200, 3) := by decide +kernel
theorem dX9_init_190 : decode cX9_init 190 = .ok (.newarray .int, 2) := by decide +kernel
theorem dX9_init_192 : decode cX9_init 192 = .ok (.putfield 100, 3) := by decide +kernel
theorem dX9_init_195 : decode cX9_init 195 = .ok (.aload_n 0, 1) := by decide +kernel
theorem dX9_init_196 : decode cX9_init 196 = .ok (.sipush 1200, 3) := by decide +kernel
theorem dX9_init_199 : decode cX9_init 199 = .ok (.newarray .int, 2) := by decide +kernel
theorem dX9_init_201 : decode cX9_init 201 = .ok (.putfield 103, 3) := by decide +kernel
theorem dX9_init_204 : decode cX9_init 204 = .ok (.aload_n 0, 1) := by decide +kernel
theorem dX9_init_205 : decode cX9_init 205 = .ok (.sipush 1200, 3) := by decide +kernel
theorem dX9_init_208 : decode cX9_init 208 = .ok (.newarray .int, 2) := by decide +kernel
theorem dX9_init_210 : decode cX9_init 210 = .ok (.putfield 106, 3) := by decide +kernel
theorem dX9_init_213 : decode cX9_init 213 = .ok (.aload_n 0, 1) := by decide +kernel
theorem dX9_init_214 : decode cX9_init 214 = .ok (.sipush 1200, 3) := by decide +kernel
theorem dX9_init_217 : decode cX9_init 217 = .ok (.newarray .int, 2) := by decide +kernel
theorem dX9_init_219 : decode cX9_init 219 = .ok (.putfield 109, 3) := by decide +kernel
theorem dX9_init_222 : decode cX9_init 222 = .ok (.aload_n 0, 1) := by decide +kernel
theorem dX9_init_223 : decode cX9_init 223 = .ok (.sipush 1200, 3) := by decide +kernel
theorem dX9_init_226 : decode cX9_init 226 = .ok (.newarray .int, 2) := by decide +kernel
theorem dX9_init_228 : decode cX9_init 228 = .ok (.putfield 112, 3) := by decide +kernel
theorem dX9_init_231 : decode cX9_init 231 = .ok (.aload_n 0, 1) := by decide +kernel
theorem dX9_init_232 : decode cX9_init 232 = .ok (.bipush 41, 2) := by decide +kernel
theorem dX9_init_234 : decode cX9_init 234 = .ok (.newarray .int, 2) := by decide +kernel
theorem dX9_init_236 : decode cX9_init 236 = .ok (.putfield 115, 3) := by decide +kernel
theorem dX9_init_239 : decode cX9_init 239 = .ok (.aload_n 0, 1) := by decide +kernel
theorem dX9_init_240 : decode cX9_init 240 = .ok (.bipush 41, 2) := by decide +kernel
theorem dX9_init_242 : decode cX9_init 242 = .ok (.newarray .int, 2) := by decide +kernel
theorem dX9_init_244 : decode cX9_init 244 = .ok (.putfield 118, 3) := by decide +kernel
theorem dX9_init_247 : decode cX9_init 247 = .ok (.aload_n 0, 1) := by decide +kernel
theorem dX9_init_248 : decode cX9_init 248 = .ok (.bipush 40, 2) := by decide +kernel
theorem dX9_init_250 : decode cX9_init 250 = .ok (.newarray .int, 2) := by decide +kernel
theorem dX9_init_252 : decode cX9_init 252 = .ok (.putfield 121, 3) := by decide +kernel
theorem dX9_init_255 : decode cX9_init 255 = .ok (.aload_n 0, 1) := by decide +kernel
theorem dX9_init_256 : decode cX9_init 256 = .ok (.bipush 40, 2) := by decide +kernel
theorem dX9_init_258 : decode cX9_init 258 = .ok (.newarray .int, 2) := by decide +kernel
theorem dX9_init_260 : decode cX9_init 260 = .ok (.putfield 124, 3) := by decide +kernel
theorem dX9_init_263 : decode cX9_init 263 = .ok (.aload_n 0, 1) := by decide +kernel
theorem dX9_init_264 : decode cX9_init 264 = .ok (.bipush 40, 2) := by decide +kernel
theorem dX9_init_266 : decode cX9_init 266 = .ok (.newarray .int, 2) := by decide +kernel
theorem dX9_init_268 : decode cX9_init 268 = .ok (.putfield 127, 3) := by decide +kernel
theorem dX9_init_271 : decode cX9_init 271 = .ok (.aload_n 0, 1) := by decide +kernel
theorem dX9_init_272 : decode cX9_init 272 = .ok (.bipush 40, 2) := by decide +kernel
theorem dX9_init_274 : decode cX9_init 274 = .ok (.newarray .int, 2) := by decide +kernel
theorem dX9_init_276 : decode cX9_init 276 = .ok (.putfield 130, 3) := by decide +kernel
theorem dX9_init_279 : decode cX9_init 279 = .ok (.aload_n 0, 1) := by decide +kernel
theorem dX9_init_280 : decode cX9_init 280 = .ok (.bipush 40, 2) := by decide +kernel
theorem dX9_init_282 : decode cX9_init 282 = .ok (.newarray .int, 2) := by decide +kernel
theorem dX9_init_284 : decode cX9_init 284 = .ok (.putfield 133, 3) := by decide +kernel
theorem dX9_init_287 : decode cX9_init 287 = .ok (.aload_n 0, 1) := by decide +kernel
theorem dX9_init_288 : decode cX9_init 288 = .ok (.bipush 40, 2) := by decide +kernel
theorem dX9_init_290 : decode cX9_init 290 = .ok (.newarray .int, 2) := by decide +kernel
theorem dX9_init_292 : decode cX9_init 292 = .ok (.putfield 136, 3) := by decide +kernel
theorem dX9_init_295 : decode cX9_init 295 = .ok (.aload_n 0, 1) := by decide +kernel
theorem dX9_init_296 : decode cX9_init 296 = .ok (.sipush 200, 3) := by decide +kernel
theorem dX9_init_299 : decode cX9_init 299 = .ok (.newarray .int, 2) := by decide +kernel
theorem dX9_init_301 : decode cX9_init 301 = .ok (.putfield 139, 3) := by decide +kernel
theorem dX9_init_304 : decode cX9_init 304 = .ok (.aload_n 0, 1) := by decide +kernel
theorem dX9_init_305 : decode cX9_init 305 = .ok (.sipush 200, 3) := by decide +kernel
theorem dX9_init_308 : decode cX9_init 308 = .ok (.newarray .int, 2) := by decide +kernel
theorem dX9_init_310 : decode cX9_init 310 = .ok (.putfield 142, 3) := by decide +kernel
theorem dX9_init_313 : decode cX9_init 313 = .ok (.iconst 0, 1) := by decide +kernel
theorem dX9_init_314 : decode cX9_init 314 = .ok (.istore_n 1, 1) := by decide +kernel
theorem dX9_init_315 : decode cX9_init 315 = .ok (.iload_n 1, 1) := by decide +kernel
theorem dX9_init_316 : decode cX9_init 316 = .ok (.iconst 4, 1) := by decide +kernel
theorem dX9_init_317 : decode cX9_init 317 = .ok (.if_icmp .ge 19, 3) := by decide +kernel
theorem dX9_init_320 : decode cX9_init 320 = .ok (.aload_n 0, 1) := by decide +kernel
theorem dX9_init_321 : decode cX9_init 321 = .ok (.getfield 60, 3) := by decide +kernel
theorem dX9_init_324 : decode cX9_init 324 = .ok (.bipush 8, 2) := by decide +kernel
theorem dX9_init_326 : decode cX9_init 326 = .ok (.iload_n 1, 1) := by decide +kernel
theorem dX9_init_327 : decode cX9_init 327 = .ok (.imul, 1) := by decide +kernel
theorem dX9_init_328 : decode cX9_init 328 = .ok (.iconst 1, 1) := by decide +kernel
theorem dX9_init_329 : decode cX9_init 329 = .ok (.iastore, 1) := by decide +kernel
theorem dX9_init_330 : decode cX9_init 330 = .ok (.iinc 1 1, 3) := by decide +kernel
theorem dX9_init_333 : decode cX9_init 333 = .ok (.goto (-18), 3) := by decide +kernel
theorem dX9_init_336 : decode cX9_init 336 = .ok (.return_, 1) := by decide +kernel
theorem dX9_numbers_0 : decode cX9_numbers 0 = .ok (.iload_n 1, 1) := by decide +kernel
theorem dX9_numbers_1 : decode cX9_numbers 1 = .ok (.iconst 1, 1) := by decide +kernel
theorem dX9_numbers_2 : decode cX9_numbers 2 = .ok (.if_icmp .lt 28, 3) := by decide +kernel
theorem dX9_numbers_5 : decode cX9_numbers 5 = .ok (.iload_n 1, 1) := by decide +kernel
theorem dX9_numbers_6 : decode cX9_numbers 6 = .ok (.iconst 5, 1) := by decide +kernel
theorem dX9_numbers_7 : decode cX9_numbers 7 = .ok (.if_icmp .gt 23, 3) := by decide +kernel
theorem dX9_numbers_10 : decode cX9_numbers 10 = .ok (.iload_n 2, 1) := by decide +kernel
theorem dX9_numbers_11 : decode cX9_numbers 11 = .ok (.iconst 1, 1) := by decide +kernel
theorem dX9_numbers_12 : decode cX9_numbers 12 = .ok (.if_icmp .lt 18, 3) := by decide +kernel
theorem dX9_numbers_15 : decode cX9_numbers 15 = .ok (.iload_n 2, 1) := by decide +kernel
theorem dX9_numbers_16 : decode cX9_numbers 16 = .ok (.iload_n 1, 1) := by decide +kernel
theorem dX9_numbers_17 : decode cX9_numbers 17 = .ok (.if_icmp .gt 13, 3) := by decide +kernel
theorem dX9_numbers_20 : decode cX9_numbers 20 = .ok (.iload_n 3, 1) := by decide +kernel
theorem dX9_numbers_21 : decode cX9_numbers 21 = .ok (.iconst 1, 1) := by decide +kernel
theorem dX9_numbers_22 : decode cX9_numbers 22 = .ok (.if_icmp .lt 8, 3) := by decide +kernel
theorem dX9_numbers_25 : decode cX9_numbers 25 = .ok (.iload_n 3, 1) := by decide +kernel
theorem dX9_numbers_26 : decode cX9_numbers 26 = .ok (.iload_n 1, 1) := by decide +kernel
theorem dX9_numbers_27 : decode cX9_numbers 27 = .ok (.if_icmp .le 9, 3) := by decide +kernel
theorem dX9_numbers_30 : decode cX9_numbers 30 = .ok (.aload_n 0, 1) := by decide +kernel
theorem dX9_numbers_31 : decode cX9_numbers 31 = .ok (.iconst 1, 1) := by decide +kernel
theorem dX9_numbers_32 : decode cX9_numbers 32 = .ok (.invokevirtual 18, 3) := by decide +kernel
theorem dX9_numbers_35 : decode cX9_numbers 35 = .ok (.ireturn, 1) := by decide +kernel
theorem dX9_numbers_36 : decode cX9_numbers 36 = .ok (.aload_n 0, 1) := by decide +kernel
theorem dX9_numbers_37 : decode cX9_numbers 37 = .ok (.iload_n 1, 1) := by decide +kernel
theorem dX9_numbers_38 : decode cX9_numbers 38 = .ok (.putfield 48, 3) := by decide +kernel
theorem dX9_numbers_41 : decode cX9_numbers 41 = .ok (.aload_n 0, 1) := by decide +kernel
theorem dX9_numbers_42 : decode cX9_numbers 42 = .ok (.iload_n 2, 1) := by decide +kernel
theorem dX9_numbers_43 : decode cX9_numbers 43 = .ok (.putfield 51, 3) := by decide +kernel
theorem dX9_numbers_46 : decode cX9_numbers 46 = .ok (.aload_n 0, 1) := by decide +kernel
theorem dX9_numbers_47 : decode cX9_numbers 47 = .ok (.iload_n 3, 1) := by decide +kernel
theorem dX9_numbers_48 : decode cX9_numbers 48 = .ok (.putfield 54, 3) := by decide +kernel
theorem dX9_numbers_51 : decode cX9_numbers 51 = .ok (.aload_n 0, 1) := by decide +kernel
theorem dX9_numbers_52 : decode cX9_numbers 52 = .ok (.iconst 0, 1) := by decide +kernel
theorem dX9_numbers_53 : decode cX9_numbers 53 = .ok (.invokevirtual 18, 3) := by decide +kernel
theorem dX9_numbers_56 : decode cX9_numbers 56 = .ok (.ireturn, 1) := by decide +kernel
theorem dX9_gap_0 : decode cX9_gap 0 = .ok (.iload_n 1, 1) := by decide +kernel
theorem dX9_gap_1 : decode cX9_gap 1 = .ok (.ifCond .lt 9, 3) := by decide +kernel
theorem dX9_gap_4 : decode cX9_gap 4 = .ok (.iload_n 1, 1) := by decide +kernel
theorem dX9_gap_5 : decode cX9_gap 5 = .ok (.bipush 100, 2) := by decide +kernel
theorem dX9_gap_7 : decode cX9_gap 7 = .ok (.if_icmp .le 9, 3) := by decide +kernel
theorem dX9_gap_10 : decode cX9_gap 10 = .ok (.aload_n 0, 1) := by decide +kernel
theorem dX9_gap_11 : decode cX9_gap 11 = .ok (.iconst 1, 1) := by decide +kernel
theorem dX9_gap_12 : decode cX9_gap 12 = .ok (.invokevirtual 18, 3) := by decide +kernel
theorem dX9_gap_15 : decode cX9_gap 15 = .ok (.ireturn, 1) := by decide +kernel
theorem dX9_gap_16 : decode cX9_gap 16 = .ok (.aload_n 0, 1) := by decide +kernel
theorem dX9_gap_17 : decode cX9_gap 17 = .ok (.iload_n 1, 1) := by decide +kernel
theorem dX9_gap_18 : decode cX9_gap 18 = .ok (.putfield 57, 3) := by decide +kernel
theorem dX9_gap_21 : decode cX9_gap 21 = .ok (.aload_n 0, 1) := by decide +kernel
theorem dX9_gap_22 : decode cX9_gap 22 = .ok (.iconst 0, 1) := by decide +kernel
theorem dX9_gap_23 : decode cX9_gap 23 = .ok (.invokevirtual 18, 3) := by decide +kernel
theorem dX9_gap_26 : decode cX9_gap 26 = .ok (.ireturn, 1) := by decide +kernel
theorem dX9_table_0 : decode cX9_table 0 = .ok (.iload_n 1, 1) := by decide +kernel
theorem dX9_table_1 : decode cX9_table 1 = .ok (.ifCond .lt 26, 3) := by decide +kernel
theorem dX9_table_4 : decode cX9_table 4 = .ok (.iload_n 1, 1) := by decide +kernel
theorem dX9_table_5 : decode cX9_table 5 = .ok (.iconst 3, 1) := by decide +kernel
theorem dX9_table_6 : decode cX9_table 6 = .ok (.if_icmp .gt 21, 3) := by decide +kernel
theorem dX9_table_9 : decode cX9_table 9 = .ok (.iload_n 2, 1) := by decide +kernel
theorem dX9_table_10 : decode cX9_table 10 = .ok (.invokestatic 14, 3) := by decide +kernel
theorem dX9_table_13 : decode cX9_table 13 = .ok (.ifCond .eq 14, 3) := by decide +kernel
theorem dX9_table_16 : decode cX9_table 16 = .ok (.iload_n 3, 1) := by decide +kernel
theorem dX9_table_17 : decode cX9_table 17 = .ok (.iconst 1, 1) := by decide +kernel
theorem dX9_table_18 : decode cX9_table 18 = .ok (.if_icmp .lt 9, 3) := by decide +kernel
theorem dX9_table_21 : decode cX9_table 21 = .ok (.iload_n 3, 1) := by decide +kernel
theorem dX9_table_22 : decode cX9_table 22 = .ok (.bipush 8, 2) := by decide +kernel
theorem dX9_table_24 : decode cX9_table 24 = .ok (.if_icmp .le 9, 3) := by decide +kernel
theorem dX9_table_27 : decode cX9_table 27 = .ok (.aload_n 0, 1) := by decide +kernel
theorem dX9_table_28 : decode cX9_table 28 = .ok (.iconst 1, 1) := by decide +kernel
theorem dX9_table_29 : decode cX9_table 29 = .ok (.invokevirtual 18, 3) := by decide +kernel
theorem dX9_table_32 : decode cX9_table 32 = .ok (.ireturn, 1) := by decide +kernel
theorem dX9_table_33 : decode cX9_table 33 = .ok (.aload_n 0, 1) := by decide +kernel
theorem dX9_table_34 : decode cX9_table 34 = .ok (.getfield 25, 3) := by decide +kernel
theorem dX9_table_37 : decode cX9_table 37 = .ok (.iload_n 2, 1) := by decide +kernel
theorem dX9_table_38 : decode cX9_table 38 = .ok (.iaload, 1) := by decide +kernel
theorem dX9_table_39 : decode cX9_table 39 = .ok (.iconst (-1), 1) := by decide +kernel
theorem dX9_table_40 : decode cX9_table 40 = .ok (.if_icmp .ne 9, 3) := by decide +kernel
theorem dX9_table_43 : decode cX9_table 43 = .ok (.aload_n 0, 1) := by decide +kernel
theorem dX9_table_44 : decode cX9_table 44 = .ok (.iconst 2, 1) := by decide +kernel
theorem dX9_table_45 : decode cX9_table 45 = .ok (.invokevirtual 18, 3) := by decide +kernel
theorem dX9_table_48 : decode cX9_table 48 = .ok (.ireturn, 1) := by decide +kernel
theorem dX9_table_49 : decode cX9_table 49 = .ok (.iload_n 3, 1) := by decide +kernel
theorem dX9_table_50 : decode cX9_table 50 = .ok (.aload_n 0, 1) := by decide +kernel
theorem dX9_table_51 : decode cX9_table 51 = .ok (.getfield 25, 3) := by decide +kernel
theorem dX9_table_54 : decode cX9_table 54 = .ok (.iload_n 2, 1) := by decide +kernel
theorem dX9_table_55 : decode cX9_table 55 = .ok (.iaload, 1) := by decide +kernel
theorem dX9_table_56 : decode cX9_table 56 = .ok (.if_icmp .le 9, 3) := by decide +kernel
theorem dX9_table_59 : decode cX9_table 59 = .ok (.aload_n 0, 1) := by decide +kernel
theorem dX9_table_60 : decode cX9_table 60 = .ok (.iconst 3, 1) := by decide +kernel
theorem dX9_table_61 : decode cX9_table 61 = .ok (.invokevirtual 18, 3) := by decide +kernel
theorem dX9_table_64 : decode cX9_table 64 = .ok (.ireturn, 1) := by decide +kernel
theorem dX9_table_65 : decode cX9_table 65 = .ok (.lconst 0, 1) := by decide +kernel
theorem dX9_table_66 : decode cX9_table 66 = .ok (.lstore 4, 2) := by decide +kernel
theorem dX9_table_68 : decode cX9_table 68 = .ok (.iconst 0, 1) := by decide +kernel
theorem dX9_table_69 : decode cX9_table 69 = .ok (.istore 6, 2) := by decide +kernel
theorem dX9_table_71 : decode cX9_table 71 = .ok (.iload 6, 2) := by decide +kernel
theorem dX9_table_73 : decode cX9_table 73 = .ok (.iload_n 3, 1) := by decide +kernel
theorem dX9_table_74 : decode cX9_table 74 = .ok (.if_icmp .ge 52, 3) := by decide +kernel
theorem dX9_table_77 : decode cX9_table 77 = .ok (.aload_n 0, 1) := by decide +kernel
theorem dX9_table_78 : decode cX9_table 78 = .ok (.getfield 28, 3) := by decide +kernel
theorem dX9_table_81 : decode cX9_table 81 = .ok (.bipush 16, 2) := by decide +kernel
theorem dX9_table_83 : decode cX9_table 83 = .ok (.iload_n 2, 1) := by decide +kernel
theorem dX9_table_84 : decode cX9_table 84 = .ok (.imul, 1) := by decide +kernel
theorem dX9_table_85 : decode cX9_table 85 = .ok (.iload 6, 2) := by decide +kernel
theorem dX9_table_87 : decode cX9_table 87 = .ok (.iadd, 1) := by decide +kernel
theorem dX9_table_88 : decode cX9_table 88 = .ok (.laload, 1) := by decide +kernel
theorem dX9_table_89 : decode cX9_table 89 = .ok (.lstore 7, 2) := by decide +kernel
theorem dX9_table_91 : decode cX9_table 91 = .ok (.lload 7, 2) := by decide +kernel
theorem dX9_table_93 : decode cX9_table 93 = .ok (.lconst 0, 1) := by decide +kernel
theorem dX9_table_94 : decode cX9_table 94 = .ok (.lcmp, 1) := by decide +kernel
theorem dX9_table_95 : decode cX9_table 95 = .ok (.ifCond .lt 12, 3) := by decide +kernel
theorem dX9_table_98 : decode cX9_table 98 = .ok (.lload 7, 2) := by decide +kernel
theorem dX9_table_100 : decode cX9_table 100 = .ok (.ldc2_w 145, 3) := by decide +kernel
theorem dX9_table_103 : decode cX9_table 103 = .ok (.lcmp, 1) := by decide +kernel
theorem dX9_table_104 : decode cX9_table 104 = .ok (.ifCond .le 9, 3) := by decide +kernel
theorem dX9_table_107 : decode cX9_table 107 = .ok (.aload_n 0, 1) := by decide +kernel
theorem dX9_table_108 : decode cX9_table 108 = .ok (.iconst 1, 1) := by decide +kernel
theorem dX9_table_109 : decode cX9_table 109 = .ok (.invokevirtual 18, 3) := by decide +kernel
theorem dX9_table_112 : decode cX9_table 112 = .ok (.ireturn, 1) := by decide +kernel
theorem dX9_table_113 : decode cX9_table 113 = .ok (.lload 4, 2) := by decide +kernel
theorem dX9_table_115 : decode cX9_table 115 = .ok (.lload 7, 2) := by decide +kernel
theorem dX9_table_117 : decode cX9_table 117 = .ok (.ladd, 1) := by decide +kernel
theorem dX9_table_118 : decode cX9_table 118 = .ok (.lstore 4, 2) := by decide +kernel
theorem dX9_table_120 : decode cX9_table 120 = .ok (.iinc 6 1, 3) := by decide +kernel
theorem dX9_table_123 : decode cX9_table 123 = .ok (.goto (-52), 3) := by decide +kernel
theorem dX9_table_126 : decode cX9_table 126 = .ok (.lload 4, 2) := by decide +kernel
theorem dX9_table_128 : decode cX9_table 128 = .ok (.lconst 1, 1) := by decide +kernel
theorem dX9_table_129 : decode cX9_table 129 = .ok (.lcmp, 1) := by decide +kernel
theorem dX9_table_130 : decode cX9_table 130 = .ok (.ifCond .lt 12, 3) := by decide +kernel
theorem dX9_table_133 : decode cX9_table 133 = .ok (.lload 4, 2) := by decide +kernel
theorem dX9_table_135 : decode cX9_table 135 = .ok (.ldc2_w 145, 3) := by decide +kernel
theorem dX9_table_138 : decode cX9_table 138 = .ok (.lcmp, 1) := by decide +kernel
theorem dX9_table_139 : decode cX9_table 139 = .ok (.ifCond .le 9, 3) := by decide +kernel
theorem dX9_table_142 : decode cX9_table 142 = .ok (.aload_n 0, 1) := by decide +kernel
theorem dX9_table_143 : decode cX9_table 143 = .ok (.iconst 1, 1) := by decide +kernel
theorem dX9_table_144 : decode cX9_table 144 = .ok (.invokevirtual 18, 3) := by decide +kernel
theorem dX9_table_147 : decode cX9_table 147 = .ok (.ireturn, 1) := by decide +kernel
theorem dX9_table_148 : decode cX9_table 148 = .ok (.iconst 0, 1) := by decide +kernel
theorem dX9_table_149 : decode cX9_table 149 = .ok (.istore 6, 2) := by decide +kernel
theorem dX9_table_151 : decode cX9_table 151 = .ok (.iload 6, 2) := by decide +kernel
theorem dX9_table_153 : decode cX9_table 153 = .ok (.bipush 8, 2) := by decide +kernel
theorem dX9_table_155 : decode cX9_table 155 = .ok (.if_icmp .ge 44, 3) := by decide +kernel
theorem dX9_table_158 : decode cX9_table 158 = .ok (.aload_n 0, 1) := by decide +kernel
theorem dX9_table_159 : decode cX9_table 159 = .ok (.getfield 60, 3) := by decide +kernel
theorem dX9_table_162 : decode cX9_table 162 = .ok (.bipush 8, 2) := by decide +kernel
theorem dX9_table_164 : decode cX9_table 164 = .ok (.iload_n 1, 1) := by decide +kernel
theorem dX9_table_165 : decode cX9_table 165 = .ok (.imul, 1) := by decide +kernel
theorem dX9_table_166 : decode cX9_table 166 = .ok (.iload 6, 2) := by decide +kernel
theorem dX9_table_168 : decode cX9_table 168 = .ok (.iadd, 1) := by decide +kernel
theorem dX9_table_169 : decode cX9_table 169 = .ok (.iload 6, 2) := by decide +kernel
theorem dX9_table_171 : decode cX9_table 171 = .ok (.iload_n 3, 1) := by decide +kernel
theorem dX9_table_172 : decode cX9_table 172 = .ok (.if_icmp .ge 19, 3) := by decide +kernel
theorem dX9_table_175 : decode cX9_table 175 = .ok (.aload_n 0, 1) := by decide +kernel
theorem dX9_table_176 : decode cX9_table 176 = .ok (.getfield 28, 3) := by decide +kernel
theorem dX9_table_179 : decode cX9_table 179 = .ok (.bipush 16, 2) := by decide +kernel
theorem dX9_table_181 : decode cX9_table 181 = .ok (.iload_n 2, 1) := by decide +kernel
theorem dX9_table_182 : decode cX9_table 182 = .ok (.imul, 1) := by decide +kernel
theorem dX9_table_183 : decode cX9_table 183 = .ok (.iload 6, 2) := by decide +kernel
theorem dX9_table_185 : decode cX9_table 185 = .ok (.iadd, 1) := by decide +kernel
theorem dX9_table_186 : decode cX9_table 186 = .ok (.laload, 1) := by decide +kernel
theorem dX9_table_187 : decode cX9_table 187 = .ok (.l2i, 1) := by decide +kernel
theorem dX9_table_188 : decode cX9_table 188 = .ok (.goto 4, 3) := by decide +kernel
theorem dX9_table_191 : decode cX9_table 191 = .ok (.iconst 0, 1) := by decide +kernel
theorem dX9_table_192 : decode cX9_table 192 = .ok (.iastore, 1) := by decide +kernel
theorem dX9_table_193 : decode cX9_table 193 = .ok (.iinc 6 1, 3) := by decide +kernel
theorem dX9_table_196 : decode cX9_table 196 = .ok (.goto (-45), 3) := by decide +kernel
theorem dX9_table_199 : decode cX9_table 199 = .ok (.aload_n 0, 1) := by decide +kernel
theorem dX9_table_200 : decode cX9_table 200 = .ok (.getfield 63, 3) := by decide +kernel
theorem dX9_table_203 : decode cX9_table 203 = .ok (.iload_n 1, 1) := by decide +kernel
theorem dX9_table_204 : decode cX9_table 204 = .ok (.lload 4, 2) := by decide +kernel
theorem dX9_table_206 : decode cX9_table 206 = .ok (.l2i, 1) := by decide +kernel
theorem dX9_table_207 : decode cX9_table 207 = .ok (.iastore, 1) := by decide +kernel
theorem dX9_table_208 : decode cX9_table 208 = .ok (.aload_n 0, 1) := by decide +kernel
theorem dX9_table_209 : decode cX9_table 209 = .ok (.iconst 0, 1) := by decide +kernel
theorem dX9_table_210 : decode cX9_table 210 = .ok (.invokevirtual 18, 3) := by decide +kernel
theorem dX9_table_213 : decode cX9_table 213 = .ok (.ireturn, 1) := by decide +kernel
theorem dX9_tells_0 : decode cX9_tells 0 = .ok (.lload_n 1, 1) := by decide +kernel
theorem dX9_tells_1 : decode cX9_tells 1 = .ok (.lstore 5, 2) := by decide +kernel
theorem dX9_tells_3 : decode cX9_tells 3 = .ok (.lload_n 3, 1) := by decide +kernel
theorem dX9_tells_4 : decode cX9_tells 4 = .ok (.lstore 7, 2) := by decide +kernel
theorem dX9_tells_6 : decode cX9_tells 6 = .ok (.lload 7, 2) := by decide +kernel
theorem dX9_tells_8 : decode cX9_tells 8 = .ok (.lconst 0, 1) := by decide +kernel
theorem dX9_tells_9 : decode cX9_tells 9 = .ok (.lcmp, 1) := by decide +kernel
theorem dX9_tells_10 : decode cX9_tells 10 = .ok (.ifCond .eq 21, 3) := by decide +kernel
theorem dX9_tells_13 : decode cX9_tells 13 = .ok (.lload 5, 2) := by decide +kernel
theorem dX9_tells_15 : decode cX9_tells 15 = .ok (.lload 7, 2) := by decide +kernel
theorem dX9_tells_17 : decode cX9_tells 17 = .ok (.lrem, 1) := by decide +kernel
theorem dX9_tells_18 : decode cX9_tells 18 = .ok (.lstore 9, 2) := by decide +kernel
theorem dX9_tells_20 : decode cX9_tells 20 = .ok (.lload 7, 2) := by decide +kernel
theorem dX9_tells_22 : decode cX9_tells 22 = .ok (.lstore 5, 2) := by decide +kernel
theorem dX9_tells_24 : decode cX9_tells 24 = .ok (.lload 9, 2) := by decide +kernel
theorem dX9_tells_26 : decode cX9_tells 26 = .ok (.lstore 7, 2) := by decide +kernel
theorem dX9_tells_28 : decode cX9_tells 28 = .ok (.goto (-22), 3) := by decide +kernel
theorem dX9_tells_31 : decode cX9_tells 31 = .ok (.aload_n 0, 1) := by decide +kernel
theorem dX9_tells_32 : decode cX9_tells 32 = .ok (.lload_n 1, 1) := by decide +kernel
theorem dX9_tells_33 : decode cX9_tells 33 = .ok (.lload 5, 2) := by decide +kernel
theorem dX9_tells_35 : decode cX9_tells 35 = .ok (.ldiv, 1) := by decide +kernel
theorem dX9_tells_36 : decode cX9_tells 36 = .ok (.putfield 7, 3) := by decide +kernel
theorem dX9_tells_39 : decode cX9_tells 39 = .ok (.aload_n 0, 1) := by decide +kernel
theorem dX9_tells_40 : decode cX9_tells 40 = .ok (.lload_n 3, 1) := by decide +kernel
theorem dX9_tells_41 : decode cX9_tells 41 = .ok (.lload 5, 2) := by decide +kernel
theorem dX9_tells_43 : decode cX9_tells 43 = .ok (.ldiv, 1) := by decide +kernel
theorem dX9_tells_44 : decode cX9_tells 44 = .ok (.putfield 11, 3) := by decide +kernel
theorem dX9_tells_47 : decode cX9_tells 47 = .ok (.aload_n 0, 1) := by decide +kernel
theorem dX9_tells_48 : decode cX9_tells 48 = .ok (.iconst 0, 1) := by decide +kernel
theorem dX9_tells_49 : decode cX9_tells 49 = .ok (.putfield 1, 3) := by decide +kernel
theorem dX9_tells_52 : decode cX9_tells 52 = .ok (.lload_n 1, 1) := by decide +kernel
theorem dX9_tells_53 : decode cX9_tells 53 = .ok (.lconst 0, 1) := by decide +kernel
theorem dX9_tells_54 : decode cX9_tells 54 = .ok (.lcmp, 1) := by decide +kernel
theorem dX9_tells_55 : decode cX9_tells 55 = .ok (.ifCond .le 7, 3) := by decide +kernel
theorem dX9_tells_58 : decode cX9_tells 58 = .ok (.iconst 1, 1) := by decide +kernel
theorem dX9_tells_59 : decode cX9_tells 59 = .ok (.goto 4, 3) := by decide +kernel
theorem dX9_tells_62 : decode cX9_tells 62 = .ok (.iconst 0, 1) := by decide +kernel
theorem dX9_tells_63 : decode cX9_tells 63 = .ok (.ireturn, 1) := by decide +kernel
theorem dX9_both_0 : decode cX9_both 0 = .ok (.iconst 0, 1) := by decide +kernel
theorem dX9_both_1 : decode cX9_both 1 = .ok (.istore 4, 2) := by decide +kernel
theorem dX9_both_3 : decode cX9_both 3 = .ok (.iconst 0, 1) := by decide +kernel
theorem dX9_both_4 : decode cX9_both 4 = .ok (.istore 5, 2) := by decide +kernel
theorem dX9_both_6 : decode cX9_both 6 = .ok (.iload 5, 2) := by decide +kernel
theorem dX9_both_8 : decode cX9_both 8 = .ok (.bipush 8, 2) := by decide +kernel
theorem dX9_both_10 : decode cX9_both 10 = .ok (.if_icmp .ge 57, 3) := by decide +kernel
theorem dX9_both_13 : decode cX9_both 13 = .ok (.iload_n 3, 1) := by decide +kernel
theorem dX9_both_14 : decode cX9_both 14 = .ok (.iload 5, 2) := by decide +kernel
theorem dX9_both_16 : decode cX9_both 16 = .ok (.isub, 1) := by decide +kernel
theorem dX9_both_17 : decode cX9_both 17 = .ok (.ifCond .lt 44, 3) := by decide +kernel
theorem dX9_both_20 : decode cX9_both 20 = .ok (.iload_n 3, 1) := by decide +kernel
theorem dX9_both_21 : decode cX9_both 21 = .ok (.iload 5, 2) := by decide +kernel
theorem dX9_both_23 : decode cX9_both 23 = .ok (.isub, 1) := by decide +kernel
theorem dX9_both_24 : decode cX9_both 24 = .ok (.bipush 8, 2) := by decide +kernel
theorem dX9_both_26 : decode cX9_both 26 = .ok (.if_icmp .ge 35, 3) := by decide +kernel
theorem dX9_both_29 : decode cX9_both 29 = .ok (.iload 4, 2) := by decide +kernel
theorem dX9_both_31 : decode cX9_both 31 = .ok (.aload_n 0, 1) := by decide +kernel
theorem dX9_both_32 : decode cX9_both 32 = .ok (.getfield 60, 3) := by decide +kernel
theorem dX9_both_35 : decode cX9_both 35 = .ok (.bipush 8, 2) := by decide +kernel
theorem dX9_both_37 : decode cX9_both 37 = .ok (.iload_n 1, 1) := by decide +kernel
theorem dX9_both_38 : decode cX9_both 38 = .ok (.imul, 1) := by decide +kernel
theorem dX9_both_39 : decode cX9_both 39 = .ok (.iload 5, 2) := by decide +kernel
theorem dX9_both_41 : decode cX9_both 41 = .ok (.iadd, 1) := by decide +kernel
theorem dX9_both_42 : decode cX9_both 42 = .ok (.iaload, 1) := by decide +kernel
theorem dX9_both_43 : decode cX9_both 43 = .ok (.aload_n 0, 1) := by decide +kernel
theorem dX9_both_44 : decode cX9_both 44 = .ok (.getfield 60, 3) := by decide +kernel
theorem dX9_both_47 : decode cX9_both 47 = .ok (.bipush 8, 2) := by decide +kernel
theorem dX9_both_49 : decode cX9_both 49 = .ok (.iload_n 2, 1) := by decide +kernel
theorem dX9_both_50 : decode cX9_both 50 = .ok (.imul, 1) := by decide +kernel
theorem dX9_both_51 : decode cX9_both 51 = .ok (.iload_n 3, 1) := by decide +kernel
theorem dX9_both_52 : decode cX9_both 52 = .ok (.iadd, 1) := by decide +kernel
theorem dX9_both_53 : decode cX9_both 53 = .ok (.iload 5, 2) := by decide +kernel
theorem dX9_both_55 : decode cX9_both 55 = .ok (.isub, 1) := by decide +kernel
theorem dX9_both_56 : decode cX9_both 56 = .ok (.iaload, 1) := by decide +kernel
theorem dX9_both_57 : decode cX9_both 57 = .ok (.imul, 1) := by decide +kernel
theorem dX9_both_58 : decode cX9_both 58 = .ok (.iadd, 1) := by decide +kernel
theorem dX9_both_59 : decode cX9_both 59 = .ok (.istore 4, 2) := by decide +kernel
theorem dX9_both_61 : decode cX9_both 61 = .ok (.iinc 5 1, 3) := by decide +kernel
theorem dX9_both_64 : decode cX9_both 64 = .ok (.goto (-58), 3) := by decide +kernel
theorem dX9_both_67 : decode cX9_both 67 = .ok (.iload 4, 2) := by decide +kernel
theorem dX9_both_69 : decode cX9_both 69 = .ok (.ireturn, 1) := by decide +kernel
theorem dX9_power_0 : decode cX9_power 0 = .ok (.lconst 1, 1) := by decide +kernel
theorem dX9_power_1 : decode cX9_power 1 = .ok (.lstore_n 3, 1) := by decide +kernel
theorem dX9_power_2 : decode cX9_power 2 = .ok (.iconst 0, 1) := by decide +kernel
theorem dX9_power_3 : decode cX9_power 3 = .ok (.istore 5, 2) := by decide +kernel
theorem dX9_power_5 : decode cX9_power 5 = .ok (.iload 5, 2) := by decide +kernel
theorem dX9_power_7 : decode cX9_power 7 = .ok (.iload_n 2, 1) := by decide +kernel
theorem dX9_power_8 : decode cX9_power 8 = .ok (.if_icmp .ge 13, 3) := by decide +kernel
theorem dX9_power_11 : decode cX9_power 11 = .ok (.lload_n 3, 1) := by decide +kernel
theorem dX9_power_12 : decode cX9_power 12 = .ok (.lload_n 0, 1) := by decide +kernel
theorem dX9_power_13 : decode cX9_power 13 = .ok (.lmul, 1) := by decide +kernel
theorem dX9_power_14 : decode cX9_power 14 = .ok (.lstore_n 3, 1) := by decide +kernel
theorem dX9_power_15 : decode cX9_power 15 = .ok (.iinc 5 1, 3) := by decide +kernel
theorem dX9_power_18 : decode cX9_power 18 = .ok (.goto (-13), 3) := by decide +kernel
theorem dX9_power_21 : decode cX9_power 21 = .ok (.lload_n 3, 1) := by decide +kernel
theorem dX9_power_22 : decode cX9_power 22 = .ok (.lreturn, 1) := by decide +kernel
theorem dX9_nth_0 : decode cX9_nth 0 = .ok (.lconst 0, 1) := by decide +kernel
theorem dX9_nth_1 : decode cX9_nth 1 = .ok (.lstore 8, 2) := by decide +kernel
theorem dX9_nth_3 : decode cX9_nth 3 = .ok (.iconst 0, 1) := by decide +kernel
theorem dX9_nth_4 : decode cX9_nth 4 = .ok (.istore 10, 2) := by decide +kernel
theorem dX9_nth_6 : decode cX9_nth 6 = .ok (.iload 10, 2) := by decide +kernel
theorem dX9_nth_8 : decode cX9_nth 8 = .ok (.iload_n 1, 1) := by decide +kernel
theorem dX9_nth_9 : decode cX9_nth 9 = .ok (.if_icmp .ge 85, 3) := by decide +kernel
theorem dX9_nth_12 : decode cX9_nth 12 = .ok (.iload 10, 2) := by decide +kernel
theorem dX9_nth_14 : decode cX9_nth 14 = .ok (.iload_n 0, 1) := by decide +kernel
theorem dX9_nth_15 : decode cX9_nth 15 = .ok (.if_icmp .gt 79, 3) := by decide +kernel
theorem dX9_nth_18 : decode cX9_nth 18 = .ok (.iload_n 1, 1) := by decide +kernel
theorem dX9_nth_19 : decode cX9_nth 19 = .ok (.iload 10, 2) := by decide +kernel
theorem dX9_nth_21 : decode cX9_nth 21 = .ok (.isub, 1) := by decide +kernel
theorem dX9_nth_22 : decode cX9_nth 22 = .ok (.istore 11, 2) := by decide +kernel
theorem dX9_nth_24 : decode cX9_nth 24 = .ok (.iload 10, 2) := by decide +kernel
theorem dX9_nth_26 : decode cX9_nth 26 = .ok (.iload 11, 2) := by decide +kernel
theorem dX9_nth_28 : decode cX9_nth 28 = .ok (.iadd, 1) := by decide +kernel
theorem dX9_nth_29 : decode cX9_nth 29 = .ok (.iload_n 0, 1) := by decide +kernel
theorem dX9_nth_30 : decode cX9_nth 30 = .ok (.if_icmp .gt 58, 3) := by decide +kernel
theorem dX9_nth_33 : decode cX9_nth 33 = .ok (.lload 8, 2) := by decide +kernel
theorem dX9_nth_35 : decode cX9_nth 35 = .ok (.iload_n 0, 1) := by decide +kernel
theorem dX9_nth_36 : decode cX9_nth 36 = .ok (.iload 10, 2) := by decide +kernel
theorem dX9_nth_38 : decode cX9_nth 38 = .ok (.invokestatic 147, 3) := by decide +kernel
theorem dX9_nth_41 : decode cX9_nth 41 = .ok (.iload_n 0, 1) := by decide +kernel
theorem dX9_nth_42 : decode cX9_nth 42 = .ok (.iload 10, 2) := by decide +kernel
theorem dX9_nth_44 : decode cX9_nth 44 = .ok (.isub, 1) := by decide +kernel
theorem dX9_nth_45 : decode cX9_nth 45 = .ok (.iload 11, 2) := by decide +kernel
theorem dX9_nth_47 : decode cX9_nth 47 = .ok (.invokestatic 147, 3) := by decide +kernel
theorem dX9_nth_50 : decode cX9_nth 50 = .ok (.lmul, 1) := by decide +kernel
theorem dX9_nth_51 : decode cX9_nth 51 = .ok (.lload_n 2, 1) := by decide +kernel
theorem dX9_nth_52 : decode cX9_nth 52 = .ok (.iload 10, 2) := by decide +kernel
theorem dX9_nth_54 : decode cX9_nth 54 = .ok (.invokestatic 151, 3) := by decide +kernel
theorem dX9_nth_57 : decode cX9_nth 57 = .ok (.lmul, 1) := by decide +kernel
theorem dX9_nth_58 : decode cX9_nth 58 = .ok (.lload 4, 2) := by decide +kernel
theorem dX9_nth_60 : decode cX9_nth 60 = .ok (.iload 11, 2) := by decide +kernel
theorem dX9_nth_62 : decode cX9_nth 62 = .ok (.invokestatic 151, 3) := by decide +kernel
theorem dX9_nth_65 : decode cX9_nth 65 = .ok (.lmul, 1) := by decide +kernel
theorem dX9_nth_66 : decode cX9_nth 66 = .ok (.lload 6, 2) := by decide +kernel
theorem dX9_nth_68 : decode cX9_nth 68 = .ok (.iload_n 0, 1) := by decide +kernel
theorem dX9_nth_69 : decode cX9_nth 69 = .ok (.iload 10, 2) := by decide +kernel
theorem dX9_nth_71 : decode cX9_nth 71 = .ok (.isub, 1) := by decide +kernel
theorem dX9_nth_72 : decode cX9_nth 72 = .ok (.iload 11, 2) := by decide +kernel
theorem dX9_nth_74 : decode cX9_nth 74 = .ok (.isub, 1) := by decide +kernel
theorem dX9_nth_75 : decode cX9_nth 75 = .ok (.invokestatic 151, 3) := by decide +kernel
theorem dX9_nth_78 : decode cX9_nth 78 = .ok (.lmul, 1) := by decide +kernel
theorem dX9_nth_79 : decode cX9_nth 79 = .ok (.ladd, 1) := by decide +kernel
theorem dX9_nth_80 : decode cX9_nth 80 = .ok (.lstore 8, 2) := by decide +kernel
theorem dX9_nth_82 : decode cX9_nth 82 = .ok (.iinc 11 1, 3) := by decide +kernel
theorem dX9_nth_85 : decode cX9_nth 85 = .ok (.goto (-61), 3) := by decide +kernel
theorem dX9_nth_88 : decode cX9_nth 88 = .ok (.iinc 10 1, 3) := by decide +kernel
theorem dX9_nth_91 : decode cX9_nth 91 = .ok (.goto (-85), 3) := by decide +kernel
theorem dX9_nth_94 : decode cX9_nth 94 = .ok (.lload 8, 2) := by decide +kernel
theorem dX9_nth_96 : decode cX9_nth 96 = .ok (.lreturn, 1) := by decide +kernel
theorem dX9_pick_0 : decode cX9_pick 0 = .ok (.lconst 1, 1) := by decide +kernel
theorem dX9_pick_1 : decode cX9_pick 1 = .ok (.lstore_n 2, 1) := by decide +kernel
theorem dX9_pick_2 : decode cX9_pick 2 = .ok (.iconst 0, 1) := by decide +kernel
theorem dX9_pick_3 : decode cX9_pick 3 = .ok (.istore 4, 2) := by decide +kernel
theorem dX9_pick_5 : decode cX9_pick 5 = .ok (.iload 4, 2) := by decide +kernel
theorem dX9_pick_7 : decode cX9_pick 7 = .ok (.iload_n 1, 1) := by decide +kernel
theorem dX9_pick_8 : decode cX9_pick 8 = .ok (.if_icmp .ge 23, 3) := by decide +kernel
theorem dX9_pick_11 : decode cX9_pick 11 = .ok (.lload_n 2, 1) := by decide +kernel
theorem dX9_pick_12 : decode cX9_pick 12 = .ok (.iload_n 0, 1) := by decide +kernel
theorem dX9_pick_13 : decode cX9_pick 13 = .ok (.iload 4, 2) := by decide +kernel
theorem dX9_pick_15 : decode cX9_pick 15 = .ok (.isub, 1) := by decide +kernel
theorem dX9_pick_16 : decode cX9_pick 16 = .ok (.i2l, 1) := by decide +kernel
theorem dX9_pick_17 : decode cX9_pick 17 = .ok (.lmul, 1) := by decide +kernel
theorem dX9_pick_18 : decode cX9_pick 18 = .ok (.iload 4, 2) := by decide +kernel
theorem dX9_pick_20 : decode cX9_pick 20 = .ok (.iconst 1, 1) := by decide +kernel
theorem dX9_pick_21 : decode cX9_pick 21 = .ok (.iadd, 1) := by decide +kernel
theorem dX9_pick_22 : decode cX9_pick 22 = .ok (.i2l, 1) := by decide +kernel
theorem dX9_pick_23 : decode cX9_pick 23 = .ok (.ldiv, 1) := by decide +kernel
theorem dX9_pick_24 : decode cX9_pick 24 = .ok (.lstore_n 2, 1) := by decide +kernel
theorem dX9_pick_25 : decode cX9_pick 25 = .ok (.iinc 4 1, 3) := by decide +kernel
theorem dX9_pick_28 : decode cX9_pick 28 = .ok (.goto (-23), 3) := by decide +kernel
theorem dX9_pick_31 : decode cX9_pick 31 = .ok (.lload_n 2, 1) := by decide +kernel
theorem dX9_pick_32 : decode cX9_pick 32 = .ok (.lreturn, 1) := by decide +kernel
theorem dX9_takes_0 : decode cX9_takes 0 = .ok (.iload_n 2, 1) := by decide +kernel
theorem dX9_takes_1 : decode cX9_takes 1 = .ok (.ifCond .lt 9, 3) := by decide +kernel
theorem dX9_takes_4 : decode cX9_takes 4 = .ok (.iload_n 2, 1) := by decide +kernel
theorem dX9_takes_5 : decode cX9_takes 5 = .ok (.bipush 15, 2) := by decide +kernel
theorem dX9_takes_7 : decode cX9_takes 7 = .ok (.if_icmp .lt 9, 3) := by decide +kernel
theorem dX9_takes_10 : decode cX9_takes 10 = .ok (.aload_n 0, 1) := by decide +kernel
theorem dX9_takes_11 : decode cX9_takes 11 = .ok (.iconst 1, 1) := by decide +kernel
theorem dX9_takes_12 : decode cX9_takes 12 = .ok (.invokevirtual 154, 3) := by decide +kernel
theorem dX9_takes_15 : decode cX9_takes 15 = .ok (.ireturn, 1) := by decide +kernel
theorem dX9_takes_16 : decode cX9_takes 16 = .ok (.iload_n 1, 1) := by decide +kernel
theorem dX9_takes_17 : decode cX9_takes 17 = .ok (.ifCond .eq 7, 3) := by decide +kernel
theorem dX9_takes_20 : decode cX9_takes 20 = .ok (.iconst 0, 1) := by decide +kernel
theorem dX9_takes_21 : decode cX9_takes 21 = .ok (.goto 4, 3) := by decide +kernel
theorem dX9_takes_24 : decode cX9_takes 24 = .ok (.iconst 2, 1) := by decide +kernel
theorem dX9_takes_25 : decode cX9_takes 25 = .ok (.istore_n 3, 1) := by decide +kernel
theorem dX9_takes_26 : decode cX9_takes 26 = .ok (.lconst 0, 1) := by decide +kernel
theorem dX9_takes_27 : decode cX9_takes 27 = .ok (.lstore 4, 2) := by decide +kernel
theorem dX9_takes_29 : decode cX9_takes 29 = .ok (.iconst 0, 1) := by decide +kernel
theorem dX9_takes_30 : decode cX9_takes 30 = .ok (.istore 6, 2) := by decide +kernel
theorem dX9_takes_32 : decode cX9_takes 32 = .ok (.iload 6, 2) := by decide +kernel
theorem dX9_takes_34 : decode cX9_takes 34 = .ok (.iload_n 2, 1) := by decide +kernel
theorem dX9_takes_35 : decode cX9_takes 35 = .ok (.if_icmp .ge 25, 3) := by decide +kernel
theorem dX9_takes_38 : decode cX9_takes 38 = .ok (.lload 4, 2) := by decide +kernel
theorem dX9_takes_40 : decode cX9_takes 40 = .ok (.aload_n 0, 1) := by decide +kernel
theorem dX9_takes_41 : decode cX9_takes 41 = .ok (.iload_n 3, 1) := by decide +kernel
theorem dX9_takes_42 : decode cX9_takes 42 = .ok (.iload_n 3, 1) := by decide +kernel
theorem dX9_takes_43 : decode cX9_takes 43 = .ok (.iconst 1, 1) := by decide +kernel
theorem dX9_takes_44 : decode cX9_takes 44 = .ok (.iadd, 1) := by decide +kernel
theorem dX9_takes_45 : decode cX9_takes 45 = .ok (.iload 6, 2) := by decide +kernel
theorem dX9_takes_47 : decode cX9_takes 47 = .ok (.invokevirtual 158, 3) := by decide +kernel
theorem dX9_takes_50 : decode cX9_takes 50 = .ok (.i2l, 1) := by decide +kernel
theorem dX9_takes_51 : decode cX9_takes 51 = .ok (.ladd, 1) := by decide +kernel
theorem dX9_takes_52 : decode cX9_takes 52 = .ok (.lstore 4, 2) := by decide +kernel
theorem dX9_takes_54 : decode cX9_takes 54 = .ok (.iinc 6 1, 3) := by decide +kernel
theorem dX9_takes_57 : decode cX9_takes 57 = .ok (.goto (-25), 3) := by decide +kernel
theorem dX9_takes_60 : decode cX9_takes 60 = .ok (.aload_n 0, 1) := by decide +kernel
theorem dX9_takes_61 : decode cX9_takes 61 = .ok (.iload_n 3, 1) := by decide +kernel
theorem dX9_takes_62 : decode cX9_takes 62 = .ok (.iload_n 3, 1) := by decide +kernel
theorem dX9_takes_63 : decode cX9_takes 63 = .ok (.iconst 1, 1) := by decide +kernel
theorem dX9_takes_64 : decode cX9_takes 64 = .ok (.iadd, 1) := by decide +kernel
theorem dX9_takes_65 : decode cX9_takes 65 = .ok (.iload_n 2, 1) := by decide +kernel
theorem dX9_takes_66 : decode cX9_takes 66 = .ok (.invokevirtual 158, 3) := by decide +kernel
theorem dX9_takes_69 : decode cX9_takes 69 = .ok (.i2l, 1) := by decide +kernel
theorem dX9_takes_70 : decode cX9_takes 70 = .ok (.lstore 6, 2) := by decide +kernel
theorem dX9_takes_72 : decode cX9_takes 72 = .ok (.aload_n 0, 1) := by decide +kernel
theorem dX9_takes_73 : decode cX9_takes 73 = .ok (.getfield 63, 3) := by decide +kernel
theorem dX9_takes_76 : decode cX9_takes 76 = .ok (.iload_n 3, 1) := by decide +kernel
theorem dX9_takes_77 : decode cX9_takes 77 = .ok (.iaload, 1) := by decide +kernel
theorem dX9_takes_78 : decode cX9_takes 78 = .ok (.i2l, 1) := by decide +kernel
theorem dX9_takes_79 : decode cX9_takes 79 = .ok (.aload_n 0, 1) := by decide +kernel
theorem dX9_takes_80 : decode cX9_takes 80 = .ok (.getfield 63, 3) := by decide +kernel
theorem dX9_takes_83 : decode cX9_takes 83 = .ok (.iload_n 3, 1) := by decide +kernel
theorem dX9_takes_84 : decode cX9_takes 84 = .ok (.iconst 1, 1) := by decide +kernel
theorem dX9_takes_85 : decode cX9_takes 85 = .ok (.iadd, 1) := by decide +kernel
theorem dX9_takes_86 : decode cX9_takes 86 = .ok (.iaload, 1) := by decide +kernel
theorem dX9_takes_87 : decode cX9_takes 87 = .ok (.i2l, 1) := by decide +kernel
theorem dX9_takes_88 : decode cX9_takes 88 = .ok (.lmul, 1) := by decide +kernel
theorem dX9_takes_89 : decode cX9_takes 89 = .ok (.lstore 8, 2) := by decide +kernel
theorem dX9_takes_91 : decode cX9_takes 91 = .ok (.aload_n 0, 1) := by decide +kernel
theorem dX9_takes_92 : decode cX9_takes 92 = .ok (.aload_n 0, 1) := by decide +kernel
theorem dX9_takes_93 : decode cX9_takes 93 = .ok (.getfield 48, 3) := by decide +kernel
theorem dX9_takes_96 : decode cX9_takes 96 = .ok (.iload_n 1, 1) := by decide +kernel
theorem dX9_takes_97 : decode cX9_takes 97 = .ok (.ifCond .eq 10, 3) := by decide +kernel
theorem dX9_takes_100 : decode cX9_takes 100 = .ok (.aload_n 0, 1) := by decide +kernel
theorem dX9_takes_101 : decode cX9_takes 101 = .ok (.getfield 51, 3) := by decide +kernel
theorem dX9_takes_104 : decode cX9_takes 104 = .ok (.goto 7, 3) := by decide +kernel
theorem dX9_takes_107 : decode cX9_takes 107 = .ok (.aload_n 0, 1) := by decide +kernel
theorem dX9_takes_108 : decode cX9_takes 108 = .ok (.getfield 54, 3) := by decide +kernel
theorem dX9_takes_111 : decode cX9_takes 111 = .ok (.lload 4, 2) := by decide +kernel
theorem dX9_takes_113 : decode cX9_takes 113 = .ok (.lload 6, 2) := by decide +kernel
theorem dX9_takes_115 : decode cX9_takes 115 = .ok (.lload 8, 2) := by decide +kernel
theorem dX9_takes_117 : decode cX9_takes 117 = .ok (.lload 4, 2) := by decide +kernel
theorem dX9_takes_119 : decode cX9_takes 119 = .ok (.lsub, 1) := by decide +kernel
theorem dX9_takes_120 : decode cX9_takes 120 = .ok (.lload 6, 2) := by decide +kernel
theorem dX9_takes_122 : decode cX9_takes 122 = .ok (.lsub, 1) := by decide +kernel
theorem dX9_takes_123 : decode cX9_takes 123 = .ok (.invokestatic 162, 3) := by decide +kernel
theorem dX9_takes_126 : decode cX9_takes 126 = .ok (.lload 8, 2) := by decide +kernel
theorem dX9_takes_128 : decode cX9_takes 128 = .ok (.aload_n 0, 1) := by decide +kernel
theorem dX9_takes_129 : decode cX9_takes 129 = .ok (.getfield 48, 3) := by decide +kernel
theorem dX9_takes_132 : decode cX9_takes 132 = .ok (.invokestatic 151, 3) := by decide +kernel
theorem dX9_takes_135 : decode cX9_takes 135 = .ok (.invokevirtual 166, 3) := by decide +kernel
theorem dX9_takes_138 : decode cX9_takes 138 = .ok (.ireturn, 1) := by decide +kernel
theorem dX9_allWays_0 : decode cX9_allWays 0 = .ok (.lconst 1, 1) := by decide +kernel
theorem dX9_allWays_1 : decode cX9_allWays 1 = .ok (.lstore_n 3, 1) := by decide +kernel
theorem dX9_allWays_2 : decode cX9_allWays 2 = .ok (.iconst 0, 1) := by decide +kernel
theorem dX9_allWays_3 : decode cX9_allWays 3 = .ok (.istore 5, 2) := by decide +kernel
theorem dX9_allWays_5 : decode cX9_allWays 5 = .ok (.iload 5, 2) := by decide +kernel
theorem dX9_allWays_7 : decode cX9_allWays 7 = .ok (.iload_n 1, 1) := by decide +kernel
theorem dX9_allWays_8 : decode cX9_allWays 8 = .ok (.if_icmp .ge 67, 3) := by decide +kernel
theorem dX9_allWays_11 : decode cX9_allWays 11 = .ok (.iconst 0, 1) := by decide +kernel
theorem dX9_allWays_12 : decode cX9_allWays 12 = .ok (.istore 6, 2) := by decide +kernel
theorem dX9_allWays_14 : decode cX9_allWays 14 = .ok (.iload 6, 2) := by decide +kernel
theorem dX9_allWays_16 : decode cX9_allWays 16 = .ok (.iconst 4, 1) := by decide +kernel
theorem dX9_allWays_17 : decode cX9_allWays 17 = .ok (.iload_n 2, 1) := by decide +kernel
theorem dX9_allWays_18 : decode cX9_allWays 18 = .ok (.iadd, 1) := by decide +kernel
theorem dX9_allWays_19 : decode cX9_allWays 19 = .ok (.if_icmp .ge 50, 3) := by decide +kernel
theorem dX9_allWays_22 : decode cX9_allWays 22 = .ok (.aload_n 0, 1) := by decide +kernel
theorem dX9_allWays_23 : decode cX9_allWays 23 = .ok (.getfield 63, 3) := by decide +kernel
theorem dX9_allWays_26 : decode cX9_allWays 26 = .ok (.iload 6, 2) := by decide +kernel
theorem dX9_allWays_28 : decode cX9_allWays 28 = .ok (.iconst 4, 1) := by decide +kernel
theorem dX9_allWays_29 : decode cX9_allWays 29 = .ok (.if_icmp .ge 8, 3) := by decide +kernel
theorem dX9_allWays_32 : decode cX9_allWays 32 = .ok (.iload 6, 2) := by decide +kernel
theorem dX9_allWays_34 : decode cX9_allWays 34 = .ok (.goto 4, 3) := by decide +kernel
theorem dX9_allWays_37 : decode cX9_allWays 37 = .ok (.iconst 0, 1) := by decide +kernel
theorem dX9_allWays_38 : decode cX9_allWays 38 = .ok (.iaload, 1) := by decide +kernel
theorem dX9_allWays_39 : decode cX9_allWays 39 = .ok (.istore 7, 2) := by decide +kernel
theorem dX9_allWays_41 : decode cX9_allWays 41 = .ok (.lload_n 3, 1) := by decide +kernel
theorem dX9_allWays_42 : decode cX9_allWays 42 = .ok (.ldc2_w 170, 3) := by decide +kernel
theorem dX9_allWays_45 : decode cX9_allWays 45 = .ok (.iload 7, 2) := by decide +kernel
theorem dX9_allWays_47 : decode cX9_allWays 47 = .ok (.i2l, 1) := by decide +kernel
theorem dX9_allWays_48 : decode cX9_allWays 48 = .ok (.ldiv, 1) := by decide +kernel
theorem dX9_allWays_49 : decode cX9_allWays 49 = .ok (.lcmp, 1) := by decide +kernel
theorem dX9_allWays_50 : decode cX9_allWays 50 = .ok (.ifCond .le 7, 3) := by decide +kernel
theorem dX9_allWays_53 : decode cX9_allWays 53 = .ok (.ldc2_w 40, 3) := by decide +kernel
theorem dX9_allWays_56 : decode cX9_allWays 56 = .ok (.lreturn, 1) := by decide +kernel
theorem dX9_allWays_57 : decode cX9_allWays 57 = .ok (.lload_n 3, 1) := by decide +kernel
theorem dX9_allWays_58 : decode cX9_allWays 58 = .ok (.iload 7, 2) := by decide +kernel
theorem dX9_allWays_60 : decode cX9_allWays 60 = .ok (.i2l, 1) := by decide +kernel
theorem dX9_allWays_61 : decode cX9_allWays 61 = .ok (.lmul, 1) := by decide +kernel
theorem dX9_allWays_62 : decode cX9_allWays 62 = .ok (.lstore_n 3, 1) := by decide +kernel
theorem dX9_allWays_63 : decode cX9_allWays 63 = .ok (.iinc 6 1, 3) := by decide +kernel
theorem dX9_allWays_66 : decode cX9_allWays 66 = .ok (.goto (-52), 3) := by decide +kernel
theorem dX9_allWays_69 : decode cX9_allWays 69 = .ok (.iinc 5 1, 3) := by decide +kernel
theorem dX9_allWays_72 : decode cX9_allWays 72 = .ok (.goto (-67), 3) := by decide +kernel
theorem dX9_allWays_75 : decode cX9_allWays 75 = .ok (.lload_n 3, 1) := by decide +kernel
theorem dX9_allWays_76 : decode cX9_allWays 76 = .ok (.lreturn, 1) := by decide +kernel
theorem dX9_above_0 : decode cX9_above 0 = .ok (.lconst 0, 1) := by decide +kernel
theorem dX9_above_1 : decode cX9_above 1 = .ok (.lstore_n 2, 1) := by decide +kernel
theorem dX9_above_2 : decode cX9_above 2 = .ok (.iconst 0, 1) := by decide +kernel
theorem dX9_above_3 : decode cX9_above 3 = .ok (.istore 4, 2) := by decide +kernel
theorem dX9_above_5 : decode cX9_above 5 = .ok (.iload 4, 2) := by decide +kernel
theorem dX9_above_7 : decode cX9_above 7 = .ok (.bipush 8, 2) := by decide +kernel
theorem dX9_above_9 : decode cX9_above 9 = .ok (.if_icmp .ge 30, 3) := by decide +kernel
theorem dX9_above_12 : decode cX9_above 12 = .ok (.lload_n 2, 1) := by decide +kernel
theorem dX9_above_13 : decode cX9_above 13 = .ok (.iload 4, 2) := by decide +kernel
theorem dX9_above_15 : decode cX9_above 15 = .ok (.iload_n 1, 1) := by decide +kernel
theorem dX9_above_16 : decode cX9_above 16 = .ok (.if_icmp .le 14, 3) := by decide +kernel
theorem dX9_above_19 : decode cX9_above 19 = .ok (.aload_n 0, 1) := by decide +kernel
theorem dX9_above_20 : decode cX9_above 20 = .ok (.getfield 60, 3) := by decide +kernel
theorem dX9_above_23 : decode cX9_above 23 = .ok (.iload 4, 2) := by decide +kernel
theorem dX9_above_25 : decode cX9_above 25 = .ok (.iaload, 1) := by decide +kernel
theorem dX9_above_26 : decode cX9_above 26 = .ok (.i2l, 1) := by decide +kernel
theorem dX9_above_27 : decode cX9_above 27 = .ok (.goto 4, 3) := by decide +kernel
theorem dX9_above_30 : decode cX9_above 30 = .ok (.lconst 0, 1) := by decide +kernel
theorem dX9_above_31 : decode cX9_above 31 = .ok (.ladd, 1) := by decide +kernel
theorem dX9_above_32 : decode cX9_above 32 = .ok (.lstore_n 2, 1) := by decide +kernel
theorem dX9_above_33 : decode cX9_above 33 = .ok (.iinc 4 1, 3) := by decide +kernel
theorem dX9_above_36 : decode cX9_above 36 = .ok (.goto (-31), 3) := by decide +kernel
theorem dX9_above_39 : decode cX9_above 39 = .ok (.lload_n 2, 1) := by decide +kernel
theorem dX9_above_40 : decode cX9_above 40 = .ok (.lreturn, 1) := by decide +kernel
theorem dX9_look_0 : decode cX9_look 0 = .ok (.iconst 0, 1) := by decide +kernel
theorem dX9_look_1 : decode cX9_look 1 = .ok (.istore 5, 2) := by decide +kernel
theorem dX9_look_3 : decode cX9_look 3 = .ok (.iload 5, 2) := by decide +kernel
theorem dX9_look_5 : decode cX9_look 5 = .ok (.aload_n 0, 1) := by decide +kernel
theorem dX9_look_6 : decode cX9_look 6 = .ok (.getfield 66, 3) := by decide +kernel
theorem dX9_look_9 : decode cX9_look 9 = .ok (.arraylength, 1) := by decide +kernel
theorem dX9_look_10 : decode cX9_look 10 = .ok (.if_icmp .ge 17, 3) := by decide +kernel
theorem dX9_look_13 : decode cX9_look 13 = .ok (.aload_n 0, 1) := by decide +kernel
theorem dX9_look_14 : decode cX9_look 14 = .ok (.getfield 66, 3) := by decide +kernel
theorem dX9_look_17 : decode cX9_look 17 = .ok (.iload 5, 2) := by decide +kernel
theorem dX9_look_19 : decode cX9_look 19 = .ok (.lconst 0, 1) := by decide +kernel
theorem dX9_look_20 : decode cX9_look 20 = .ok (.lastore, 1) := by decide +kernel
theorem dX9_look_21 : decode cX9_look 21 = .ok (.iinc 5 1, 3) := by decide +kernel
theorem dX9_look_24 : decode cX9_look 24 = .ok (.goto (-21), 3) := by decide +kernel
theorem dX9_look_27 : decode cX9_look 27 = .ok (.iconst 0, 1) := by decide +kernel
theorem dX9_look_28 : decode cX9_look 28 = .ok (.istore 5, 2) := by decide +kernel
theorem dX9_look_30 : decode cX9_look 30 = .ok (.iload 5, 2) := by decide +kernel
theorem dX9_look_32 : decode cX9_look 32 = .ok (.bipush 8, 2) := by decide +kernel
theorem dX9_look_34 : decode cX9_look 34 = .ok (.if_icmp .ge 285, 3) := by decide +kernel
theorem dX9_look_37 : decode cX9_look 37 = .ok (.iconst 0, 1) := by decide +kernel
theorem dX9_look_38 : decode cX9_look 38 = .ok (.istore 6, 2) := by decide +kernel
theorem dX9_look_40 : decode cX9_look 40 = .ok (.iload 6, 2) := by decide +kernel
theorem dX9_look_42 : decode cX9_look 42 = .ok (.bipush 8, 2) := by decide +kernel
theorem dX9_look_44 : decode cX9_look 44 = .ok (.if_icmp .ge 269, 3) := by decide +kernel
theorem dX9_look_47 : decode cX9_look 47 = .ok (.iload 5, 2) := by decide +kernel
theorem dX9_look_49 : decode cX9_look 49 = .ok (.iload 6, 2) := by decide +kernel
theorem dX9_look_51 : decode cX9_look 51 = .ok (.iadd, 1) := by decide +kernel
theorem dX9_look_52 : decode cX9_look 52 = .ok (.iload_n 1, 1) := by decide +kernel
theorem dX9_look_53 : decode cX9_look 53 = .ok (.if_icmp .ge 7, 3) := by decide +kernel
theorem dX9_look_56 : decode cX9_look 56 = .ok (.iconst 0, 1) := by decide +kernel
theorem dX9_look_57 : decode cX9_look 57 = .ok (.goto 17, 3) := by decide +kernel
theorem dX9_look_60 : decode cX9_look 60 = .ok (.iload 5, 2) := by decide +kernel
theorem dX9_look_62 : decode cX9_look 62 = .ok (.iload 6, 2) := by decide +kernel
theorem dX9_look_64 : decode cX9_look 64 = .ok (.iadd, 1) := by decide +kernel
theorem dX9_look_65 : decode cX9_look 65 = .ok (.iload_n 1, 1) := by decide +kernel
theorem dX9_look_66 : decode cX9_look 66 = .ok (.if_icmp .ne 7, 3) := by decide +kernel
theorem dX9_look_69 : decode cX9_look 69 = .ok (.iconst 1, 1) := by decide +kernel
theorem dX9_look_70 : decode cX9_look 70 = .ok (.goto 4, 3) := by decide +kernel
theorem dX9_look_73 : decode cX9_look 73 = .ok (.iconst 2, 1) := by decide +kernel
theorem dX9_look_74 : decode cX9_look 74 = .ok (.istore 7, 2) := by decide +kernel
theorem dX9_look_76 : decode cX9_look 76 = .ok (.aload_n 0, 1) := by decide +kernel
theorem dX9_look_77 : decode cX9_look 77 = .ok (.getfield 60, 3) := by decide +kernel
theorem dX9_look_80 : decode cX9_look 80 = .ok (.iload 5, 2) := by decide +kernel
theorem dX9_look_82 : decode cX9_look 82 = .ok (.iaload, 1) := by decide +kernel
theorem dX9_look_83 : decode cX9_look 83 = .ok (.i2l, 1) := by decide +kernel
theorem dX9_look_84 : decode cX9_look 84 = .ok (.aload_n 0, 1) := by decide +kernel
theorem dX9_look_85 : decode cX9_look 85 = .ok (.getfield 60, 3) := by decide +kernel
theorem dX9_look_88 : decode cX9_look 88 = .ok (.bipush 8, 2) := by decide +kernel
theorem dX9_look_90 : decode cX9_look 90 = .ok (.iload 6, 2) := by decide +kernel
theorem dX9_look_92 : decode cX9_look 92 = .ok (.iadd, 1) := by decide +kernel
theorem dX9_look_93 : decode cX9_look 93 = .ok (.iaload, 1) := by decide +kernel
theorem dX9_look_94 : decode cX9_look 94 = .ok (.i2l, 1) := by decide +kernel
theorem dX9_look_95 : decode cX9_look 95 = .ok (.lmul, 1) := by decide +kernel
theorem dX9_look_96 : decode cX9_look 96 = .ok (.lstore 8, 2) := by decide +kernel
theorem dX9_look_98 : decode cX9_look 98 = .ok (.iconst 0, 1) := by decide +kernel
theorem dX9_look_99 : decode cX9_look 99 = .ok (.istore 10, 2) := by decide +kernel
theorem dX9_look_101 : decode cX9_look 101 = .ok (.iload 10, 2) := by decide +kernel
theorem dX9_look_103 : decode cX9_look 103 = .ok (.bipush 8, 2) := by decide +kernel
theorem dX9_look_105 : decode cX9_look 105 = .ok (.if_icmp .ge 202, 3) := by decide +kernel
theorem dX9_look_108 : decode cX9_look 108 = .ok (.lload 8, 2) := by decide +kernel
theorem dX9_look_110 : decode cX9_look 110 = .ok (.lconst 0, 1) := by decide +kernel
theorem dX9_look_111 : decode cX9_look 111 = .ok (.lcmp, 1) := by decide +kernel
theorem dX9_look_112 : decode cX9_look 112 = .ok (.ifCond .le 195, 3) := by decide +kernel
theorem dX9_look_115 : decode cX9_look 115 = .ok (.iload_n 1, 1) := by decide +kernel
theorem dX9_look_116 : decode cX9_look 116 = .ok (.iload_n 2, 1) := by decide +kernel
theorem dX9_look_117 : decode cX9_look 117 = .ok (.iadd, 1) := by decide +kernel
theorem dX9_look_118 : decode cX9_look 118 = .ok (.iload 10, 2) := by decide +kernel
theorem dX9_look_120 : decode cX9_look 120 = .ok (.iadd, 1) := by decide +kernel
theorem dX9_look_121 : decode cX9_look 121 = .ok (.istore 11, 2) := by decide +kernel
theorem dX9_look_123 : decode cX9_look 123 = .ok (.iload 5, 2) := by decide +kernel
theorem dX9_look_125 : decode cX9_look 125 = .ok (.iload 11, 2) := by decide +kernel
theorem dX9_look_127 : decode cX9_look 127 = .ok (.if_icmp .le 7, 3) := by decide +kernel
theorem dX9_look_130 : decode cX9_look 130 = .ok (.lconst 1, 1) := by decide +kernel
theorem dX9_look_131 : decode cX9_look 131 = .ok (.goto 4, 3) := by decide +kernel
theorem dX9_look_134 : decode cX9_look 134 = .ok (.lconst 0, 1) := by decide +kernel
theorem dX9_look_135 : decode cX9_look 135 = .ok (.lstore 12, 2) := by decide +kernel
theorem dX9_look_137 : decode cX9_look 137 = .ok (.lconst 1, 1) := by decide +kernel
theorem dX9_look_138 : decode cX9_look 138 = .ok (.lstore 14, 2) := by decide +kernel
theorem dX9_look_140 : decode cX9_look 140 = .ok (.iconst 1, 1) := by decide +kernel
theorem dX9_look_141 : decode cX9_look 141 = .ok (.istore 16, 2) := by decide +kernel
theorem dX9_look_143 : decode cX9_look 143 = .ok (.iload 16, 2) := by decide +kernel
theorem dX9_look_145 : decode cX9_look 145 = .ok (.iload_n 3, 1) := by decide +kernel
theorem dX9_look_146 : decode cX9_look 146 = .ok (.if_icmp .gt 57, 3) := by decide +kernel
theorem dX9_look_149 : decode cX9_look 149 = .ok (.lload 12, 2) := by decide +kernel
theorem dX9_look_151 : decode cX9_look 151 = .ok (.iload 16, 2) := by decide +kernel
theorem dX9_look_153 : decode cX9_look 153 = .ok (.iload 4, 2) := by decide +kernel
theorem dX9_look_155 : decode cX9_look 155 = .ok (.if_icmp .gt 20, 3) := by decide +kernel
theorem dX9_look_158 : decode cX9_look 158 = .ok (.aload_n 0, 1) := by decide +kernel
theorem dX9_look_159 : decode cX9_look 159 = .ok (.iload 11, 2) := by decide +kernel
theorem dX9_look_161 : decode cX9_look 161 = .ok (.aload_n 0, 1) := by decide +kernel
theorem dX9_look_162 : decode cX9_look 162 = .ok (.getfield 57, 3) := by decide +kernel
theorem dX9_look_165 : decode cX9_look 165 = .ok (.iload 16, 2) := by decide +kernel
theorem dX9_look_167 : decode cX9_look 167 = .ok (.imul, 1) := by decide +kernel
theorem dX9_look_168 : decode cX9_look 168 = .ok (.iadd, 1) := by decide +kernel
theorem dX9_look_169 : decode cX9_look 169 = .ok (.invokevirtual 172, 3) := by decide +kernel
theorem dX9_look_172 : decode cX9_look 172 = .ok (.goto 10, 3) := by decide +kernel
theorem dX9_look_175 : decode cX9_look 175 = .ok (.aload_n 0, 1) := by decide +kernel
theorem dX9_look_176 : decode cX9_look 176 = .ok (.getfield 63, 3) := by decide +kernel
theorem dX9_look_179 : decode cX9_look 179 = .ok (.iconst 0, 1) := by decide +kernel
theorem dX9_look_180 : decode cX9_look 180 = .ok (.iaload, 1) := by decide +kernel
theorem dX9_look_181 : decode cX9_look 181 = .ok (.i2l, 1) := by decide +kernel
theorem dX9_look_182 : decode cX9_look 182 = .ok (.lmul, 1) := by decide +kernel
theorem dX9_look_183 : decode cX9_look 183 = .ok (.lstore 12, 2) := by decide +kernel
theorem dX9_look_185 : decode cX9_look 185 = .ok (.lload 14, 2) := by decide +kernel
theorem dX9_look_187 : decode cX9_look 187 = .ok (.aload_n 0, 1) := by decide +kernel
theorem dX9_look_188 : decode cX9_look 188 = .ok (.getfield 63, 3) := by decide +kernel
theorem dX9_look_191 : decode cX9_look 191 = .ok (.iconst 0, 1) := by decide +kernel
theorem dX9_look_192 : decode cX9_look 192 = .ok (.iaload, 1) := by decide +kernel
theorem dX9_look_193 : decode cX9_look 193 = .ok (.i2l, 1) := by decide +kernel
theorem dX9_look_194 : decode cX9_look 194 = .ok (.lmul, 1) := by decide +kernel
theorem dX9_look_195 : decode cX9_look 195 = .ok (.lstore 14, 2) := by decide +kernel
theorem dX9_look_197 : decode cX9_look 197 = .ok (.iinc 16 1, 3) := by decide +kernel
theorem dX9_look_200 : decode cX9_look 200 = .ok (.goto (-57), 3) := by decide +kernel
theorem dX9_look_203 : decode cX9_look 203 = .ok (.iconst 0, 1) := by decide +kernel
theorem dX9_look_204 : decode cX9_look 204 = .ok (.istore 16, 2) := by decide +kernel
theorem dX9_look_206 : decode cX9_look 206 = .ok (.iload 16, 2) := by decide +kernel
theorem dX9_look_208 : decode cX9_look 208 = .ok (.bipush 8, 2) := by decide +kernel
theorem dX9_look_210 : decode cX9_look 210 = .ok (.if_icmp .ge 91, 3) := by decide +kernel
theorem dX9_look_213 : decode cX9_look 213 = .ok (.lload 8, 2) := by decide +kernel
theorem dX9_look_215 : decode cX9_look 215 = .ok (.aload_n 0, 1) := by decide +kernel
theorem dX9_look_216 : decode cX9_look 216 = .ok (.getfield 60, 3) := by decide +kernel
theorem dX9_look_219 : decode cX9_look 219 = .ok (.bipush 16, 2) := by decide +kernel
theorem dX9_look_221 : decode cX9_look 221 = .ok (.iload 10, 2) := by decide +kernel
theorem dX9_look_223 : decode cX9_look 223 = .ok (.iadd, 1) := by decide +kernel
theorem dX9_look_224 : decode cX9_look 224 = .ok (.iaload, 1) := by decide +kernel
theorem dX9_look_225 : decode cX9_look 225 = .ok (.i2l, 1) := by decide +kernel
theorem dX9_look_226 : decode cX9_look 226 = .ok (.lmul, 1) := by decide +kernel
theorem dX9_look_227 : decode cX9_look 227 = .ok (.aload_n 0, 1) := by decide +kernel
theorem dX9_look_228 : decode cX9_look 228 = .ok (.getfield 60, 3) := by decide +kernel
theorem dX9_look_231 : decode cX9_look 231 = .ok (.bipush 24, 2) := by decide +kernel
theorem dX9_look_233 : decode cX9_look 233 = .ok (.iload 16, 2) := by decide +kernel
theorem dX9_look_235 : decode cX9_look 235 = .ok (.iadd, 1) := by decide +kernel
theorem dX9_look_236 : decode cX9_look 236 = .ok (.iaload, 1) := by decide +kernel
theorem dX9_look_237 : decode cX9_look 237 = .ok (.i2l, 1) := by decide +kernel
theorem dX9_look_238 : decode cX9_look 238 = .ok (.lmul, 1) := by decide +kernel
theorem dX9_look_239 : decode cX9_look 239 = .ok (.lstore 17, 2) := by decide +kernel
theorem dX9_look_241 : decode cX9_look 241 = .ok (.aload_n 0, 1) := by decide +kernel
theorem dX9_look_242 : decode cX9_look 242 = .ok (.getfield 66, 3) := by decide +kernel
theorem dX9_look_245 : decode cX9_look 245 = .ok (.bipush 30, 2) := by decide +kernel
theorem dX9_look_247 : decode cX9_look 247 = .ok (.iload 7, 2) := by decide +kernel
theorem dX9_look_249 : decode cX9_look 249 = .ok (.imul, 1) := by decide +kernel
theorem dX9_look_250 : decode cX9_look 250 = .ok (.iconst 2, 1) := by decide +kernel
theorem dX9_look_251 : decode cX9_look 251 = .ok (.iload 10, 2) := by decide +kernel
theorem dX9_look_253 : decode cX9_look 253 = .ok (.iload 16, 2) := by decide +kernel
theorem dX9_look_255 : decode cX9_look 255 = .ok (.iadd, 1) := by decide +kernel
theorem dX9_look_256 : decode cX9_look 256 = .ok (.imul, 1) := by decide +kernel
theorem dX9_look_257 : decode cX9_look 257 = .ok (.iadd, 1) := by decide +kernel
theorem dX9_look_258 : decode cX9_look 258 = .ok (.dup2, 1) := by decide +kernel
theorem dX9_look_259 : decode cX9_look 259 = .ok (.laload, 1) := by decide +kernel
theorem dX9_look_260 : decode cX9_look 260 = .ok (.lload 17, 2) := by decide +kernel
theorem dX9_look_262 : decode cX9_look 262 = .ok (.lload 12, 2) := by decide +kernel
theorem dX9_look_264 : decode cX9_look 264 = .ok (.lmul, 1) := by decide +kernel
theorem dX9_look_265 : decode cX9_look 265 = .ok (.ladd, 1) := by decide +kernel
theorem dX9_look_266 : decode cX9_look 266 = .ok (.lastore, 1) := by decide +kernel
theorem dX9_look_267 : decode cX9_look 267 = .ok (.aload_n 0, 1) := by decide +kernel
theorem dX9_look_268 : decode cX9_look 268 = .ok (.getfield 66, 3) := by decide +kernel
theorem dX9_look_271 : decode cX9_look 271 = .ok (.bipush 30, 2) := by decide +kernel
theorem dX9_look_273 : decode cX9_look 273 = .ok (.iload 7, 2) := by decide +kernel
theorem dX9_look_275 : decode cX9_look 275 = .ok (.imul, 1) := by decide +kernel
theorem dX9_look_276 : decode cX9_look 276 = .ok (.iconst 2, 1) := by decide +kernel
theorem dX9_look_277 : decode cX9_look 277 = .ok (.iload 10, 2) := by decide +kernel
theorem dX9_look_279 : decode cX9_look 279 = .ok (.iload 16, 2) := by decide +kernel
theorem dX9_look_281 : decode cX9_look 281 = .ok (.iadd, 1) := by decide +kernel
theorem dX9_look_282 : decode cX9_look 282 = .ok (.imul, 1) := by decide +kernel
theorem dX9_look_283 : decode cX9_look 283 = .ok (.iadd, 1) := by decide +kernel
theorem dX9_look_284 : decode cX9_look 284 = .ok (.iconst 1, 1) := by decide +kernel
theorem dX9_look_285 : decode cX9_look 285 = .ok (.iadd, 1) := by decide +kernel
theorem dX9_look_286 : decode cX9_look 286 = .ok (.dup2, 1) := by decide +kernel
theorem dX9_look_287 : decode cX9_look 287 = .ok (.laload, 1) := by decide +kernel
theorem dX9_look_288 : decode cX9_look 288 = .ok (.lload 17, 2) := by decide +kernel
theorem dX9_look_290 : decode cX9_look 290 = .ok (.lload 14, 2) := by decide +kernel
theorem dX9_look_292 : decode cX9_look 292 = .ok (.lmul, 1) := by decide +kernel
theorem dX9_look_293 : decode cX9_look 293 = .ok (.ladd, 1) := by decide +kernel
theorem dX9_look_294 : decode cX9_look 294 = .ok (.lastore, 1) := by decide +kernel
theorem dX9_look_295 : decode cX9_look 295 = .ok (.iinc 16 1, 3) := by decide +kernel
theorem dX9_look_298 : decode cX9_look 298 = .ok (.goto (-92), 3) := by decide +kernel
theorem dX9_look_301 : decode cX9_look 301 = .ok (.iinc 10 1, 3) := by decide +kernel
theorem dX9_look_304 : decode cX9_look 304 = .ok (.goto (-203), 3) := by decide +kernel
theorem dX9_look_307 : decode cX9_look 307 = .ok (.iinc 6 1, 3) := by decide +kernel
theorem dX9_look_310 : decode cX9_look 310 = .ok (.goto (-270), 3) := by decide +kernel
theorem dX9_look_313 : decode cX9_look 313 = .ok (.iinc 5 1, 3) := by decide +kernel
theorem dX9_look_316 : decode cX9_look 316 = .ok (.goto (-286), 3) := by decide +kernel
theorem dX9_look_319 : decode cX9_look 319 = .ok (.return_, 1) := by decide +kernel
theorem dX9_mark_0 : decode cX9_mark 0 = .ok (.bipush 6, 2) := by decide +kernel
theorem dX9_mark_2 : decode cX9_mark 2 = .ok (.iload_n 0, 1) := by decide +kernel
theorem dX9_mark_3 : decode cX9_mark 3 = .ok (.imul, 1) := by decide +kernel
theorem dX9_mark_4 : decode cX9_mark 4 = .ok (.iload_n 1, 1) := by decide +kernel
theorem dX9_mark_5 : decode cX9_mark 5 = .ok (.iadd, 1) := by decide +kernel
theorem dX9_mark_6 : decode cX9_mark 6 = .ok (.bipush 6, 2) := by decide +kernel
theorem dX9_mark_8 : decode cX9_mark 8 = .ok (.imul, 1) := by decide +kernel
theorem dX9_mark_9 : decode cX9_mark 9 = .ok (.iload_n 2, 1) := by decide +kernel
theorem dX9_mark_10 : decode cX9_mark 10 = .ok (.iadd, 1) := by decide +kernel
theorem dX9_mark_11 : decode cX9_mark 11 = .ok (.bipush 6, 2) := by decide +kernel
theorem dX9_mark_13 : decode cX9_mark 13 = .ok (.imul, 1) := by decide +kernel
theorem dX9_mark_14 : decode cX9_mark 14 = .ok (.iload_n 3, 1) := by decide +kernel
theorem dX9_mark_15 : decode cX9_mark 15 = .ok (.iadd, 1) := by decide +kernel
theorem dX9_mark_16 : decode cX9_mark 16 = .ok (.ireturn, 1) := by decide +kernel
theorem dX9_ways_0 : decode cX9_ways 0 = .ok (.iconst 0, 1) := by decide +kernel
theorem dX9_ways_1 : decode cX9_ways 1 = .ok (.istore 5, 2) := by decide +kernel
theorem dX9_ways_3 : decode cX9_ways 3 = .ok (.iload 5, 2) := by decide +kernel
theorem dX9_ways_5 : decode cX9_ways 5 = .ok (.aload_n 0, 1) := by decide +kernel
theorem dX9_ways_6 : decode cX9_ways 6 = .ok (.getfield 69, 3) := by decide +kernel
theorem dX9_ways_9 : decode cX9_ways 9 = .ok (.arraylength, 1) := by decide +kernel
theorem dX9_ways_10 : decode cX9_ways 10 = .ok (.if_icmp .ge 17, 3) := by decide +kernel
theorem dX9_ways_13 : decode cX9_ways 13 = .ok (.aload_n 0, 1) := by decide +kernel
theorem dX9_ways_14 : decode cX9_ways 14 = .ok (.getfield 69, 3) := by decide +kernel
theorem dX9_ways_17 : decode cX9_ways 17 = .ok (.iload 5, 2) := by decide +kernel
theorem dX9_ways_19 : decode cX9_ways 19 = .ok (.lconst 0, 1) := by decide +kernel
theorem dX9_ways_20 : decode cX9_ways 20 = .ok (.lastore, 1) := by decide +kernel
theorem dX9_ways_21 : decode cX9_ways 21 = .ok (.iinc 5 1, 3) := by decide +kernel
theorem dX9_ways_24 : decode cX9_ways 24 = .ok (.goto (-21), 3) := by decide +kernel
theorem dX9_ways_27 : decode cX9_ways 27 = .ok (.aload_n 0, 1) := by decide +kernel
theorem dX9_ways_28 : decode cX9_ways 28 = .ok (.getfield 69, 3) := by decide +kernel
theorem dX9_ways_31 : decode cX9_ways 31 = .ok (.iconst 0, 1) := by decide +kernel
theorem dX9_ways_32 : decode cX9_ways 32 = .ok (.lconst 1, 1) := by decide +kernel
theorem dX9_ways_33 : decode cX9_ways 33 = .ok (.lastore, 1) := by decide +kernel
theorem dX9_ways_34 : decode cX9_ways 34 = .ok (.iconst 0, 1) := by decide +kernel
theorem dX9_ways_35 : decode cX9_ways 35 = .ok (.istore 5, 2) := by decide +kernel
theorem dX9_ways_37 : decode cX9_ways 37 = .ok (.iload 5, 2) := by decide +kernel
theorem dX9_ways_39 : decode cX9_ways 39 = .ok (.iload_n 1, 1) := by decide +kernel
theorem dX9_ways_40 : decode cX9_ways 40 = .ok (.if_icmp .ge 149, 3) := by decide +kernel
theorem dX9_ways_43 : decode cX9_ways 43 = .ok (.iconst 0, 1) := by decide +kernel
theorem dX9_ways_44 : decode cX9_ways 44 = .ok (.istore 6, 2) := by decide +kernel
theorem dX9_ways_46 : decode cX9_ways 46 = .ok (.iload 6, 2) := by decide +kernel
theorem dX9_ways_48 : decode cX9_ways 48 = .ok (.aload_n 0, 1) := by decide +kernel
theorem dX9_ways_49 : decode cX9_ways 49 = .ok (.getfield 72, 3) := by decide +kernel
theorem dX9_ways_52 : decode cX9_ways 52 = .ok (.arraylength, 1) := by decide +kernel
theorem dX9_ways_53 : decode cX9_ways 53 = .ok (.if_icmp .ge 17, 3) := by decide +kernel
theorem dX9_ways_56 : decode cX9_ways 56 = .ok (.aload_n 0, 1) := by decide +kernel
theorem dX9_ways_57 : decode cX9_ways 57 = .ok (.getfield 72, 3) := by decide +kernel
theorem dX9_ways_60 : decode cX9_ways 60 = .ok (.iload 6, 2) := by decide +kernel
theorem dX9_ways_62 : decode cX9_ways 62 = .ok (.lconst 0, 1) := by decide +kernel
theorem dX9_ways_63 : decode cX9_ways 63 = .ok (.lastore, 1) := by decide +kernel
theorem dX9_ways_64 : decode cX9_ways 64 = .ok (.iinc 6 1, 3) := by decide +kernel
theorem dX9_ways_67 : decode cX9_ways 67 = .ok (.goto (-21), 3) := by decide +kernel
theorem dX9_ways_70 : decode cX9_ways 70 = .ok (.iconst 0, 1) := by decide +kernel
theorem dX9_ways_71 : decode cX9_ways 71 = .ok (.istore 6, 2) := by decide +kernel
theorem dX9_ways_73 : decode cX9_ways 73 = .ok (.iload 6, 2) := by decide +kernel
theorem dX9_ways_75 : decode cX9_ways 75 = .ok (.iload 5, 2) := by decide +kernel
theorem dX9_ways_77 : decode cX9_ways 77 = .ok (.if_icmp .gt 86, 3) := by decide +kernel
theorem dX9_ways_80 : decode cX9_ways 80 = .ok (.iconst 0, 1) := by decide +kernel
theorem dX9_ways_81 : decode cX9_ways 81 = .ok (.istore 7, 2) := by decide +kernel
theorem dX9_ways_83 : decode cX9_ways 83 = .ok (.iload 6, 2) := by decide +kernel
theorem dX9_ways_85 : decode cX9_ways 85 = .ok (.iload 7, 2) := by decide +kernel
theorem dX9_ways_87 : decode cX9_ways 87 = .ok (.iadd, 1) := by decide +kernel
theorem dX9_ways_88 : decode cX9_ways 88 = .ok (.iload 5, 2) := by decide +kernel
theorem dX9_ways_90 : decode cX9_ways 90 = .ok (.if_icmp .gt 67, 3) := by decide +kernel
theorem dX9_ways_93 : decode cX9_ways 93 = .ok (.iconst 0, 1) := by decide +kernel
theorem dX9_ways_94 : decode cX9_ways 94 = .ok (.istore 8, 2) := by decide +kernel
theorem dX9_ways_96 : decode cX9_ways 96 = .ok (.iload 8, 2) := by decide +kernel
theorem dX9_ways_98 : decode cX9_ways 98 = .ok (.iload 5, 2) := by decide +kernel
theorem dX9_ways_100 : decode cX9_ways 100 = .ok (.if_icmp .gt 51, 3) := by decide +kernel
theorem dX9_ways_103 : decode cX9_ways 103 = .ok (.iload 8, 2) := by decide +kernel
theorem dX9_ways_105 : decode cX9_ways 105 = .ok (.iload 4, 2) := by decide +kernel
theorem dX9_ways_107 : decode cX9_ways 107 = .ok (.if_icmp .gt 44, 3) := by decide +kernel
theorem dX9_ways_110 : decode cX9_ways 110 = .ok (.iconst 0, 1) := by decide +kernel
theorem dX9_ways_111 : decode cX9_ways 111 = .ok (.istore 9, 2) := by decide +kernel
theorem dX9_ways_113 : decode cX9_ways 113 = .ok (.iload 8, 2) := by decide +kernel
theorem dX9_ways_115 : decode cX9_ways 115 = .ok (.iload 9, 2) := by decide +kernel
theorem dX9_ways_117 : decode cX9_ways 117 = .ok (.iadd, 1) := by decide +kernel
theorem dX9_ways_118 : decode cX9_ways 118 = .ok (.iload 5, 2) := by decide +kernel
theorem dX9_ways_120 : decode cX9_ways 120 = .ok (.if_icmp .gt 25, 3) := by decide +kernel
theorem dX9_ways_123 : decode cX9_ways 123 = .ok (.aload_n 0, 1) := by decide +kernel
theorem dX9_ways_124 : decode cX9_ways 124 = .ok (.iload 6, 2) := by decide +kernel
theorem dX9_ways_126 : decode cX9_ways 126 = .ok (.iload 7, 2) := by decide +kernel
theorem dX9_ways_128 : decode cX9_ways 128 = .ok (.iload 8, 2) := by decide +kernel
theorem dX9_ways_130 : decode cX9_ways 130 = .ok (.iload 9, 2) := by decide +kernel
theorem dX9_ways_132 : decode cX9_ways 132 = .ok (.iload_n 3, 1) := by decide +kernel
theorem dX9_ways_133 : decode cX9_ways 133 = .ok (.iload 4, 2) := by decide +kernel
theorem dX9_ways_135 : decode cX9_ways 135 = .ok (.isub, 1) := by decide +kernel
theorem dX9_ways_136 : decode cX9_ways 136 = .ok (.invokevirtual 176, 3) := by decide +kernel
theorem dX9_ways_139 : decode cX9_ways 139 = .ok (.iinc 9 1, 3) := by decide +kernel
theorem dX9_ways_142 : decode cX9_ways 142 = .ok (.goto (-29), 3) := by decide +kernel
theorem dX9_ways_145 : decode cX9_ways 145 = .ok (.iinc 8 1, 3) := by decide +kernel
theorem dX9_ways_148 : decode cX9_ways 148 = .ok (.goto (-52), 3) := by decide +kernel
theorem dX9_ways_151 : decode cX9_ways 151 = .ok (.iinc 7 1, 3) := by decide +kernel
theorem dX9_ways_154 : decode cX9_ways 154 = .ok (.goto (-71), 3) := by decide +kernel
theorem dX9_ways_157 : decode cX9_ways 157 = .ok (.iinc 6 1, 3) := by decide +kernel
theorem dX9_ways_160 : decode cX9_ways 160 = .ok (.goto (-87), 3) := by decide +kernel
theorem dX9_ways_163 : decode cX9_ways 163 = .ok (.aload_n 0, 1) := by decide +kernel
theorem dX9_ways_164 : decode cX9_ways 164 = .ok (.getfield 69, 3) := by decide +kernel
theorem dX9_ways_167 : decode cX9_ways 167 = .ok (.astore 6, 2) := by decide +kernel
theorem dX9_ways_169 : decode cX9_ways 169 = .ok (.aload_n 0, 1) := by decide +kernel
theorem dX9_ways_170 : decode cX9_ways 170 = .ok (.aload_n 0, 1) := by decide +kernel
theorem dX9_ways_171 : decode cX9_ways 171 = .ok (.getfield 72, 3) := by decide +kernel
theorem dX9_ways_174 : decode cX9_ways 174 = .ok (.putfield 69, 3) := by decide +kernel
theorem dX9_ways_177 : decode cX9_ways 177 = .ok (.aload_n 0, 1) := by decide +kernel
theorem dX9_ways_178 : decode cX9_ways 178 = .ok (.aload 6, 2) := by decide +kernel
theorem dX9_ways_180 : decode cX9_ways 180 = .ok (.putfield 72, 3) := by decide +kernel
theorem dX9_ways_183 : decode cX9_ways 183 = .ok (.iinc 5 1, 3) := by decide +kernel
theorem dX9_ways_186 : decode cX9_ways 186 = .ok (.goto (-149), 3) := by decide +kernel
theorem dX9_ways_189 : decode cX9_ways 189 = .ok (.lconst 0, 1) := by decide +kernel
theorem dX9_ways_190 : decode cX9_ways 190 = .ok (.lstore 5, 2) := by decide +kernel
theorem dX9_ways_192 : decode cX9_ways 192 = .ok (.iconst 0, 1) := by decide +kernel
theorem dX9_ways_193 : decode cX9_ways 193 = .ok (.istore 7, 2) := by decide +kernel
theorem dX9_ways_195 : decode cX9_ways 195 = .ok (.iload 7, 2) := by decide +kernel
theorem dX9_ways_197 : decode cX9_ways 197 = .ok (.iload_n 2, 1) := by decide +kernel
theorem dX9_ways_198 : decode cX9_ways 198 = .ok (.if_icmp .ge 72, 3) := by decide +kernel
theorem dX9_ways_201 : decode cX9_ways 201 = .ok (.iload_n 2, 1) := by decide +kernel
theorem dX9_ways_202 : decode cX9_ways 202 = .ok (.iload 7, 2) := by decide +kernel
theorem dX9_ways_204 : decode cX9_ways 204 = .ok (.isub, 1) := by decide +kernel
theorem dX9_ways_205 : decode cX9_ways 205 = .ok (.istore 8, 2) := by decide +kernel
theorem dX9_ways_207 : decode cX9_ways 207 = .ok (.iload 7, 2) := by decide +kernel
theorem dX9_ways_209 : decode cX9_ways 209 = .ok (.iload 8, 2) := by decide +kernel
theorem dX9_ways_211 : decode cX9_ways 211 = .ok (.iadd, 1) := by decide +kernel
theorem dX9_ways_212 : decode cX9_ways 212 = .ok (.iload_n 1, 1) := by decide +kernel
theorem dX9_ways_213 : decode cX9_ways 213 = .ok (.if_icmp .gt 51, 3) := by decide +kernel
theorem dX9_ways_216 : decode cX9_ways 216 = .ok (.iload_n 3, 1) := by decide +kernel
theorem dX9_ways_217 : decode cX9_ways 217 = .ok (.iload 4, 2) := by decide +kernel
theorem dX9_ways_219 : decode cX9_ways 219 = .ok (.isub, 1) := by decide +kernel
theorem dX9_ways_220 : decode cX9_ways 220 = .ok (.istore 9, 2) := by decide +kernel
theorem dX9_ways_222 : decode cX9_ways 222 = .ok (.iload 4, 2) := by decide +kernel
theorem dX9_ways_224 : decode cX9_ways 224 = .ok (.iload 9, 2) := by decide +kernel
theorem dX9_ways_226 : decode cX9_ways 226 = .ok (.iadd, 1) := by decide +kernel
theorem dX9_ways_227 : decode cX9_ways 227 = .ok (.iload_n 1, 1) := by decide +kernel
theorem dX9_ways_228 : decode cX9_ways 228 = .ok (.if_icmp .gt 30, 3) := by decide +kernel
theorem dX9_ways_231 : decode cX9_ways 231 = .ok (.lload 5, 2) := by decide +kernel
theorem dX9_ways_233 : decode cX9_ways 233 = .ok (.aload_n 0, 1) := by decide +kernel
theorem dX9_ways_234 : decode cX9_ways 234 = .ok (.getfield 69, 3) := by decide +kernel
theorem dX9_ways_237 : decode cX9_ways 237 = .ok (.iload 7, 2) := by decide +kernel
theorem dX9_ways_239 : decode cX9_ways 239 = .ok (.iload 8, 2) := by decide +kernel
theorem dX9_ways_241 : decode cX9_ways 241 = .ok (.iload 4, 2) := by decide +kernel
theorem dX9_ways_243 : decode cX9_ways 243 = .ok (.iload 9, 2) := by decide +kernel
theorem dX9_ways_245 : decode cX9_ways 245 = .ok (.invokestatic 180, 3) := by decide +kernel
theorem dX9_ways_248 : decode cX9_ways 248 = .ok (.laload, 1) := by decide +kernel
theorem dX9_ways_249 : decode cX9_ways 249 = .ok (.ladd, 1) := by decide +kernel
theorem dX9_ways_250 : decode cX9_ways 250 = .ok (.lstore 5, 2) := by decide +kernel
theorem dX9_ways_252 : decode cX9_ways 252 = .ok (.iinc 9 1, 3) := by decide +kernel
theorem dX9_ways_255 : decode cX9_ways 255 = .ok (.goto (-33), 3) := by decide +kernel
theorem dX9_ways_258 : decode cX9_ways 258 = .ok (.iinc 8 1, 3) := by decide +kernel
theorem dX9_ways_261 : decode cX9_ways 261 = .ok (.goto (-54), 3) := by decide +kernel
theorem dX9_ways_264 : decode cX9_ways 264 = .ok (.iinc 7 1, 3) := by decide +kernel
theorem dX9_ways_267 : decode cX9_ways 267 = .ok (.goto (-72), 3) := by decide +kernel
theorem dX9_ways_270 : decode cX9_ways 270 = .ok (.lload 5, 2) := by decide +kernel
theorem dX9_ways_272 : decode cX9_ways 272 = .ok (.lreturn, 1) := by decide +kernel
theorem dX9_spread_0 : decode cX9_spread 0 = .ok (.aload_n 0, 1) := by decide +kernel
theorem dX9_spread_1 : decode cX9_spread 1 = .ok (.getfield 69, 3) := by decide +kernel
theorem dX9_spread_4 : decode cX9_spread 4 = .ok (.iload_n 1, 1) := by decide +kernel
theorem dX9_spread_5 : decode cX9_spread 5 = .ok (.iload_n 2, 1) := by decide +kernel
theorem dX9_spread_6 : decode cX9_spread 6 = .ok (.iload_n 3, 1) := by decide +kernel
theorem dX9_spread_7 : decode cX9_spread 7 = .ok (.iload 4, 2) := by decide +kernel
theorem dX9_spread_9 : decode cX9_spread 9 = .ok (.invokestatic 180, 3) := by decide +kernel
theorem dX9_spread_12 : decode cX9_spread 12 = .ok (.laload, 1) := by decide +kernel
theorem dX9_spread_13 : decode cX9_spread 13 = .ok (.lstore 6, 2) := by decide +kernel
theorem dX9_spread_15 : decode cX9_spread 15 = .ok (.lload 6, 2) := by decide +kernel
theorem dX9_spread_17 : decode cX9_spread 17 = .ok (.lconst 0, 1) := by decide +kernel
theorem dX9_spread_18 : decode cX9_spread 18 = .ok (.lcmp, 1) := by decide +kernel
theorem dX9_spread_19 : decode cX9_spread 19 = .ok (.ifCond .ne 4, 3) := by decide +kernel
theorem dX9_spread_22 : decode cX9_spread 22 = .ok (.return_, 1) := by decide +kernel
theorem dX9_spread_23 : decode cX9_spread 23 = .ok (.iconst 0, 1) := by decide +kernel
theorem dX9_spread_24 : decode cX9_spread 24 = .ok (.istore 8, 2) := by decide +kernel
theorem dX9_spread_26 : decode cX9_spread 26 = .ok (.iload 8, 2) := by decide +kernel
theorem dX9_spread_28 : decode cX9_spread 28 = .ok (.iconst 3, 1) := by decide +kernel
theorem dX9_spread_29 : decode cX9_spread 29 = .ok (.if_icmp .ge 150, 3) := by decide +kernel
theorem dX9_spread_32 : decode cX9_spread 32 = .ok (.iload 8, 2) := by decide +kernel
theorem dX9_spread_34 : decode cX9_spread 34 = .ok (.ifCond .ne 9, 3) := by decide +kernel
theorem dX9_spread_37 : decode cX9_spread 37 = .ok (.iload_n 1, 1) := by decide +kernel
theorem dX9_spread_38 : decode cX9_spread 38 = .ok (.iconst 1, 1) := by decide +kernel
theorem dX9_spread_39 : decode cX9_spread 39 = .ok (.iadd, 1) := by decide +kernel
theorem dX9_spread_40 : decode cX9_spread 40 = .ok (.goto 4, 3) := by decide +kernel
theorem dX9_spread_43 : decode cX9_spread 43 = .ok (.iload_n 1, 1) := by decide +kernel
theorem dX9_spread_44 : decode cX9_spread 44 = .ok (.istore 9, 2) := by decide +kernel
theorem dX9_spread_46 : decode cX9_spread 46 = .ok (.iload 8, 2) := by decide +kernel
theorem dX9_spread_48 : decode cX9_spread 48 = .ok (.iconst 1, 1) := by decide +kernel
theorem dX9_spread_49 : decode cX9_spread 49 = .ok (.if_icmp .ne 9, 3) := by decide +kernel
theorem dX9_spread_52 : decode cX9_spread 52 = .ok (.iload_n 2, 1) := by decide +kernel
theorem dX9_spread_53 : decode cX9_spread 53 = .ok (.iconst 1, 1) := by decide +kernel
theorem dX9_spread_54 : decode cX9_spread 54 = .ok (.iadd, 1) := by decide +kernel
theorem dX9_spread_55 : decode cX9_spread 55 = .ok (.goto 4, 3) := by decide +kernel
theorem dX9_spread_58 : decode cX9_spread 58 = .ok (.iload_n 2, 1) := by decide +kernel
theorem dX9_spread_59 : decode cX9_spread 59 = .ok (.istore 10, 2) := by decide +kernel
theorem dX9_spread_61 : decode cX9_spread 61 = .ok (.aload_n 0, 1) := by decide +kernel
theorem dX9_spread_62 : decode cX9_spread 62 = .ok (.getfield 72, 3) := by decide +kernel
theorem dX9_spread_65 : decode cX9_spread 65 = .ok (.iload 9, 2) := by decide +kernel
theorem dX9_spread_67 : decode cX9_spread 67 = .ok (.iload 10, 2) := by decide +kernel
theorem dX9_spread_69 : decode cX9_spread 69 = .ok (.iload_n 3, 1) := by decide +kernel
theorem dX9_spread_70 : decode cX9_spread 70 = .ok (.iconst 1, 1) := by decide +kernel
theorem dX9_spread_71 : decode cX9_spread 71 = .ok (.iadd, 1) := by decide +kernel
theorem dX9_spread_72 : decode cX9_spread 72 = .ok (.iload 4, 2) := by decide +kernel
theorem dX9_spread_74 : decode cX9_spread 74 = .ok (.invokestatic 180, 3) := by decide +kernel
theorem dX9_spread_77 : decode cX9_spread 77 = .ok (.dup2, 1) := by decide +kernel
theorem dX9_spread_78 : decode cX9_spread 78 = .ok (.laload, 1) := by decide +kernel
theorem dX9_spread_79 : decode cX9_spread 79 = .ok (.lload 6, 2) := by decide +kernel
theorem dX9_spread_81 : decode cX9_spread 81 = .ok (.aload_n 0, 1) := by decide +kernel
theorem dX9_spread_82 : decode cX9_spread 82 = .ok (.getfield 75, 3) := by decide +kernel
theorem dX9_spread_85 : decode cX9_spread 85 = .ok (.bipush 6, 2) := by decide +kernel
theorem dX9_spread_87 : decode cX9_spread 87 = .ok (.iload 8, 2) := by decide +kernel
theorem dX9_spread_89 : decode cX9_spread 89 = .ok (.imul, 1) := by decide +kernel
theorem dX9_spread_90 : decode cX9_spread 90 = .ok (.laload, 1) := by decide +kernel
theorem dX9_spread_91 : decode cX9_spread 91 = .ok (.lmul, 1) := by decide +kernel
theorem dX9_spread_92 : decode cX9_spread 92 = .ok (.ladd, 1) := by decide +kernel
theorem dX9_spread_93 : decode cX9_spread 93 = .ok (.lastore, 1) := by decide +kernel
theorem dX9_spread_94 : decode cX9_spread 94 = .ok (.aload_n 0, 1) := by decide +kernel
theorem dX9_spread_95 : decode cX9_spread 95 = .ok (.getfield 72, 3) := by decide +kernel
theorem dX9_spread_98 : decode cX9_spread 98 = .ok (.iload 9, 2) := by decide +kernel
theorem dX9_spread_100 : decode cX9_spread 100 = .ok (.iload 10, 2) := by decide +kernel
theorem dX9_spread_102 : decode cX9_spread 102 = .ok (.iload_n 3, 1) := by decide +kernel
theorem dX9_spread_103 : decode cX9_spread 103 = .ok (.iload 4, 2) := by decide +kernel
theorem dX9_spread_105 : decode cX9_spread 105 = .ok (.iconst 1, 1) := by decide +kernel
theorem dX9_spread_106 : decode cX9_spread 106 = .ok (.iadd, 1) := by decide +kernel
theorem dX9_spread_107 : decode cX9_spread 107 = .ok (.invokestatic 180, 3) := by decide +kernel
theorem dX9_spread_110 : decode cX9_spread 110 = .ok (.dup2, 1) := by decide +kernel
theorem dX9_spread_111 : decode cX9_spread 111 = .ok (.laload, 1) := by decide +kernel
theorem dX9_spread_112 : decode cX9_spread 112 = .ok (.lload 6, 2) := by decide +kernel
theorem dX9_spread_114 : decode cX9_spread 114 = .ok (.aload_n 0, 1) := by decide +kernel
theorem dX9_spread_115 : decode cX9_spread 115 = .ok (.getfield 75, 3) := by decide +kernel
theorem dX9_spread_118 : decode cX9_spread 118 = .ok (.bipush 6, 2) := by decide +kernel
theorem dX9_spread_120 : decode cX9_spread 120 = .ok (.iload 8, 2) := by decide +kernel
theorem dX9_spread_122 : decode cX9_spread 122 = .ok (.imul, 1) := by decide +kernel
theorem dX9_spread_123 : decode cX9_spread 123 = .ok (.iload 4, 2) := by decide +kernel
theorem dX9_spread_125 : decode cX9_spread 125 = .ok (.iload 5, 2) := by decide +kernel
theorem dX9_spread_127 : decode cX9_spread 127 = .ok (.if_icmp .ge 7, 3) := by decide +kernel
theorem dX9_spread_130 : decode cX9_spread 130 = .ok (.iconst 2, 1) := by decide +kernel
theorem dX9_spread_131 : decode cX9_spread 131 = .ok (.goto 4, 3) := by decide +kernel
theorem dX9_spread_134 : decode cX9_spread 134 = .ok (.iconst 3, 1) := by decide +kernel
theorem dX9_spread_135 : decode cX9_spread 135 = .ok (.iadd, 1) := by decide +kernel
theorem dX9_spread_136 : decode cX9_spread 136 = .ok (.laload, 1) := by decide +kernel
theorem dX9_spread_137 : decode cX9_spread 137 = .ok (.lmul, 1) := by decide +kernel
theorem dX9_spread_138 : decode cX9_spread 138 = .ok (.ladd, 1) := by decide +kernel
theorem dX9_spread_139 : decode cX9_spread 139 = .ok (.lastore, 1) := by decide +kernel
theorem dX9_spread_140 : decode cX9_spread 140 = .ok (.aload_n 0, 1) := by decide +kernel
theorem dX9_spread_141 : decode cX9_spread 141 = .ok (.getfield 72, 3) := by decide +kernel
theorem dX9_spread_144 : decode cX9_spread 144 = .ok (.iload 9, 2) := by decide +kernel
theorem dX9_spread_146 : decode cX9_spread 146 = .ok (.iload 10, 2) := by decide +kernel
theorem dX9_spread_148 : decode cX9_spread 148 = .ok (.iload_n 3, 1) := by decide +kernel
theorem dX9_spread_149 : decode cX9_spread 149 = .ok (.iload 4, 2) := by decide +kernel
theorem dX9_spread_151 : decode cX9_spread 151 = .ok (.invokestatic 180, 3) := by decide +kernel
theorem dX9_spread_154 : decode cX9_spread 154 = .ok (.dup2, 1) := by decide +kernel
theorem dX9_spread_155 : decode cX9_spread 155 = .ok (.laload, 1) := by decide +kernel
theorem dX9_spread_156 : decode cX9_spread 156 = .ok (.lload 6, 2) := by decide +kernel
theorem dX9_spread_158 : decode cX9_spread 158 = .ok (.aload_n 0, 1) := by decide +kernel
theorem dX9_spread_159 : decode cX9_spread 159 = .ok (.getfield 75, 3) := by decide +kernel
theorem dX9_spread_162 : decode cX9_spread 162 = .ok (.bipush 6, 2) := by decide +kernel
theorem dX9_spread_164 : decode cX9_spread 164 = .ok (.iload 8, 2) := by decide +kernel
theorem dX9_spread_166 : decode cX9_spread 166 = .ok (.imul, 1) := by decide +kernel
theorem dX9_spread_167 : decode cX9_spread 167 = .ok (.iconst 5, 1) := by decide +kernel
theorem dX9_spread_168 : decode cX9_spread 168 = .ok (.iadd, 1) := by decide +kernel
theorem dX9_spread_169 : decode cX9_spread 169 = .ok (.laload, 1) := by decide +kernel
theorem dX9_spread_170 : decode cX9_spread 170 = .ok (.lmul, 1) := by decide +kernel
theorem dX9_spread_171 : decode cX9_spread 171 = .ok (.ladd, 1) := by decide +kernel
theorem dX9_spread_172 : decode cX9_spread 172 = .ok (.lastore, 1) := by decide +kernel
theorem dX9_spread_173 : decode cX9_spread 173 = .ok (.iinc 8 1, 3) := by decide +kernel
theorem dX9_spread_176 : decode cX9_spread 176 = .ok (.goto (-150), 3) := by decide +kernel
theorem dX9_spread_179 : decode cX9_spread 179 = .ok (.return_, 1) := by decide +kernel
theorem dX9_oldWays_0 : decode cX9_oldWays 0 = .ok (.lconst 0, 1) := by decide +kernel
theorem dX9_oldWays_1 : decode cX9_oldWays 1 = .ok (.lstore 7, 2) := by decide +kernel
theorem dX9_oldWays_3 : decode cX9_oldWays 3 = .ok (.iconst 0, 1) := by decide +kernel
theorem dX9_oldWays_4 : decode cX9_oldWays 4 = .ok (.istore 9, 2) := by decide +kernel
theorem dX9_oldWays_6 : decode cX9_oldWays 6 = .ok (.iload 9, 2) := by decide +kernel
theorem dX9_oldWays_8 : decode cX9_oldWays 8 = .ok (.bipush 15, 2) := by decide +kernel
theorem dX9_oldWays_10 : decode cX9_oldWays 10 = .ok (.if_icmp .ge 218, 3) := by decide +kernel
theorem dX9_oldWays_13 : decode cX9_oldWays 13 = .ok (.aload_n 0, 1) := by decide +kernel
theorem dX9_oldWays_14 : decode cX9_oldWays 14 = .ok (.iload 9, 2) := by decide +kernel
theorem dX9_oldWays_16 : decode cX9_oldWays 16 = .ok (.iload 4, 2) := by decide +kernel
theorem dX9_oldWays_18 : decode cX9_oldWays 18 = .ok (.iload 5, 2) := by decide +kernel
theorem dX9_oldWays_20 : decode cX9_oldWays 20 = .ok (.iload 6, 2) := by decide +kernel
theorem dX9_oldWays_22 : decode cX9_oldWays 22 = .ok (.invokevirtual 184, 3) := by decide +kernel
theorem dX9_oldWays_25 : decode cX9_oldWays 25 = .ok (.iconst 0, 1) := by decide +kernel
theorem dX9_oldWays_26 : decode cX9_oldWays 26 = .ok (.istore 10, 2) := by decide +kernel
theorem dX9_oldWays_28 : decode cX9_oldWays 28 = .ok (.iload 10, 2) := by decide +kernel
theorem dX9_oldWays_30 : decode cX9_oldWays 30 = .ok (.bipush 15, 2) := by decide +kernel
theorem dX9_oldWays_32 : decode cX9_oldWays 32 = .ok (.if_icmp .ge 190, 3) := by decide +kernel
theorem dX9_oldWays_35 : decode cX9_oldWays 35 = .ok (.iconst 0, 1) := by decide +kernel
theorem dX9_oldWays_36 : decode cX9_oldWays 36 = .ok (.istore 11, 2) := by decide +kernel
theorem dX9_oldWays_38 : decode cX9_oldWays 38 = .ok (.iload 11, 2) := by decide +kernel
theorem dX9_oldWays_40 : decode cX9_oldWays 40 = .ok (.iconst 3, 1) := by decide +kernel
theorem dX9_oldWays_41 : decode cX9_oldWays 41 = .ok (.if_icmp .ge 146, 3) := by decide +kernel
theorem dX9_oldWays_44 : decode cX9_oldWays 44 = .ok (.iconst 0, 1) := by decide +kernel
theorem dX9_oldWays_45 : decode cX9_oldWays 45 = .ok (.istore 12, 2) := by decide +kernel
theorem dX9_oldWays_47 : decode cX9_oldWays 47 = .ok (.iload 12, 2) := by decide +kernel
theorem dX9_oldWays_49 : decode cX9_oldWays 49 = .ok (.bipush 6, 2) := by decide +kernel
theorem dX9_oldWays_51 : decode cX9_oldWays 51 = .ok (.if_icmp .ge 23, 3) := by decide +kernel
theorem dX9_oldWays_54 : decode cX9_oldWays 54 = .ok (.aload_n 0, 1) := by decide +kernel
theorem dX9_oldWays_55 : decode cX9_oldWays 55 = .ok (.getfield 75, 3) := by decide +kernel
theorem dX9_oldWays_58 : decode cX9_oldWays 58 = .ok (.bipush 6, 2) := by decide +kernel
theorem dX9_oldWays_60 : decode cX9_oldWays 60 = .ok (.iload 11, 2) := by decide +kernel
theorem dX9_oldWays_62 : decode cX9_oldWays 62 = .ok (.imul, 1) := by decide +kernel
theorem dX9_oldWays_63 : decode cX9_oldWays 63 = .ok (.iload 12, 2) := by decide +kernel
theorem dX9_oldWays_65 : decode cX9_oldWays 65 = .ok (.iadd, 1) := by decide +kernel
theorem dX9_oldWays_66 : decode cX9_oldWays 66 = .ok (.lconst 0, 1) := by decide +kernel
theorem dX9_oldWays_67 : decode cX9_oldWays 67 = .ok (.lastore, 1) := by decide +kernel
theorem dX9_oldWays_68 : decode cX9_oldWays 68 = .ok (.iinc 12 1, 3) := by decide +kernel
theorem dX9_oldWays_71 : decode cX9_oldWays 71 = .ok (.goto (-24), 3) := by decide +kernel
theorem dX9_oldWays_74 : decode cX9_oldWays 74 = .ok (.iconst 0, 1) := by decide +kernel
theorem dX9_oldWays_75 : decode cX9_oldWays 75 = .ok (.istore 12, 2) := by decide +kernel
theorem dX9_oldWays_77 : decode cX9_oldWays 77 = .ok (.iload 12, 2) := by decide +kernel
theorem dX9_oldWays_79 : decode cX9_oldWays 79 = .ok (.bipush 15, 2) := by decide +kernel
theorem dX9_oldWays_81 : decode cX9_oldWays 81 = .ok (.if_icmp .ge 100, 3) := by decide +kernel
theorem dX9_oldWays_84 : decode cX9_oldWays 84 = .ok (.iload 12, 2) := by decide +kernel
theorem dX9_oldWays_86 : decode cX9_oldWays 86 = .ok (.iload 10, 2) := by decide +kernel
theorem dX9_oldWays_88 : decode cX9_oldWays 88 = .ok (.if_icmp .ge 7, 3) := by decide +kernel
theorem dX9_oldWays_91 : decode cX9_oldWays 91 = .ok (.iconst 0, 1) := by decide +kernel
theorem dX9_oldWays_92 : decode cX9_oldWays 92 = .ok (.goto 15, 3) := by decide +kernel
theorem dX9_oldWays_95 : decode cX9_oldWays 95 = .ok (.iload 12, 2) := by decide +kernel
theorem dX9_oldWays_97 : decode cX9_oldWays 97 = .ok (.iload 10, 2) := by decide +kernel
theorem dX9_oldWays_99 : decode cX9_oldWays 99 = .ok (.if_icmp .ne 7, 3) := by decide +kernel
theorem dX9_oldWays_102 : decode cX9_oldWays 102 = .ok (.iconst 2, 1) := by decide +kernel
theorem dX9_oldWays_103 : decode cX9_oldWays 103 = .ok (.goto 4, 3) := by decide +kernel
theorem dX9_oldWays_106 : decode cX9_oldWays 106 = .ok (.iconst 4, 1) := by decide +kernel
theorem dX9_oldWays_107 : decode cX9_oldWays 107 = .ok (.istore 13, 2) := by decide +kernel
theorem dX9_oldWays_109 : decode cX9_oldWays 109 = .ok (.aload_n 0, 1) := by decide +kernel
theorem dX9_oldWays_110 : decode cX9_oldWays 110 = .ok (.getfield 75, 3) := by decide +kernel
theorem dX9_oldWays_113 : decode cX9_oldWays 113 = .ok (.bipush 6, 2) := by decide +kernel
theorem dX9_oldWays_115 : decode cX9_oldWays 115 = .ok (.iload 11, 2) := by decide +kernel
theorem dX9_oldWays_117 : decode cX9_oldWays 117 = .ok (.imul, 1) := by decide +kernel
theorem dX9_oldWays_118 : decode cX9_oldWays 118 = .ok (.iload 13, 2) := by decide +kernel
theorem dX9_oldWays_120 : decode cX9_oldWays 120 = .ok (.iadd, 1) := by decide +kernel
theorem dX9_oldWays_121 : decode cX9_oldWays 121 = .ok (.dup2, 1) := by decide +kernel
theorem dX9_oldWays_122 : decode cX9_oldWays 122 = .ok (.laload, 1) := by decide +kernel
theorem dX9_oldWays_123 : decode cX9_oldWays 123 = .ok (.aload_n 0, 1) := by decide +kernel
theorem dX9_oldWays_124 : decode cX9_oldWays 124 = .ok (.getfield 66, 3) := by decide +kernel
theorem dX9_oldWays_127 : decode cX9_oldWays 127 = .ok (.bipush 30, 2) := by decide +kernel
theorem dX9_oldWays_129 : decode cX9_oldWays 129 = .ok (.iload 11, 2) := by decide +kernel
theorem dX9_oldWays_131 : decode cX9_oldWays 131 = .ok (.imul, 1) := by decide +kernel
theorem dX9_oldWays_132 : decode cX9_oldWays 132 = .ok (.iconst 2, 1) := by decide +kernel
theorem dX9_oldWays_133 : decode cX9_oldWays 133 = .ok (.iload 12, 2) := by decide +kernel
theorem dX9_oldWays_135 : decode cX9_oldWays 135 = .ok (.imul, 1) := by decide +kernel
theorem dX9_oldWays_136 : decode cX9_oldWays 136 = .ok (.iadd, 1) := by decide +kernel
theorem dX9_oldWays_137 : decode cX9_oldWays 137 = .ok (.laload, 1) := by decide +kernel
theorem dX9_oldWays_138 : decode cX9_oldWays 138 = .ok (.ladd, 1) := by decide +kernel
theorem dX9_oldWays_139 : decode cX9_oldWays 139 = .ok (.lastore, 1) := by decide +kernel
theorem dX9_oldWays_140 : decode cX9_oldWays 140 = .ok (.aload_n 0, 1) := by decide +kernel
theorem dX9_oldWays_141 : decode cX9_oldWays 141 = .ok (.getfield 75, 3) := by decide +kernel
theorem dX9_oldWays_144 : decode cX9_oldWays 144 = .ok (.bipush 6, 2) := by decide +kernel
theorem dX9_oldWays_146 : decode cX9_oldWays 146 = .ok (.iload 11, 2) := by decide +kernel
theorem dX9_oldWays_148 : decode cX9_oldWays 148 = .ok (.imul, 1) := by decide +kernel
theorem dX9_oldWays_149 : decode cX9_oldWays 149 = .ok (.iload 13, 2) := by decide +kernel
theorem dX9_oldWays_151 : decode cX9_oldWays 151 = .ok (.iadd, 1) := by decide +kernel
theorem dX9_oldWays_152 : decode cX9_oldWays 152 = .ok (.iconst 1, 1) := by decide +kernel
theorem dX9_oldWays_153 : decode cX9_oldWays 153 = .ok (.iadd, 1) := by decide +kernel
theorem dX9_oldWays_154 : decode cX9_oldWays 154 = .ok (.dup2, 1) := by decide +kernel
theorem dX9_oldWays_155 : decode cX9_oldWays 155 = .ok (.laload, 1) := by decide +kernel
theorem dX9_oldWays_156 : decode cX9_oldWays 156 = .ok (.aload_n 0, 1) := by decide +kernel
theorem dX9_oldWays_157 : decode cX9_oldWays 157 = .ok (.getfield 66, 3) := by decide +kernel
theorem dX9_oldWays_160 : decode cX9_oldWays 160 = .ok (.bipush 30, 2) := by decide +kernel
theorem dX9_oldWays_162 : decode cX9_oldWays 162 = .ok (.iload 11, 2) := by decide +kernel
theorem dX9_oldWays_164 : decode cX9_oldWays 164 = .ok (.imul, 1) := by decide +kernel
theorem dX9_oldWays_165 : decode cX9_oldWays 165 = .ok (.iconst 2, 1) := by decide +kernel
theorem dX9_oldWays_166 : decode cX9_oldWays 166 = .ok (.iload 12, 2) := by decide +kernel
theorem dX9_oldWays_168 : decode cX9_oldWays 168 = .ok (.imul, 1) := by decide +kernel
theorem dX9_oldWays_169 : decode cX9_oldWays 169 = .ok (.iadd, 1) := by decide +kernel
theorem dX9_oldWays_170 : decode cX9_oldWays 170 = .ok (.iconst 1, 1) := by decide +kernel
theorem dX9_oldWays_171 : decode cX9_oldWays 171 = .ok (.iadd, 1) := by decide +kernel
theorem dX9_oldWays_172 : decode cX9_oldWays 172 = .ok (.laload, 1) := by decide +kernel
theorem dX9_oldWays_173 : decode cX9_oldWays 173 = .ok (.ladd, 1) := by decide +kernel
theorem dX9_oldWays_174 : decode cX9_oldWays 174 = .ok (.lastore, 1) := by decide +kernel
theorem dX9_oldWays_175 : decode cX9_oldWays 175 = .ok (.iinc 12 1, 3) := by decide +kernel
theorem dX9_oldWays_178 : decode cX9_oldWays 178 = .ok (.goto (-101), 3) := by decide +kernel
theorem dX9_oldWays_181 : decode cX9_oldWays 181 = .ok (.iinc 11 1, 3) := by decide +kernel
theorem dX9_oldWays_184 : decode cX9_oldWays 184 = .ok (.goto (-146), 3) := by decide +kernel
theorem dX9_oldWays_187 : decode cX9_oldWays 187 = .ok (.iconst 0, 1) := by decide +kernel
theorem dX9_oldWays_188 : decode cX9_oldWays 188 = .ok (.istore 11, 2) := by decide +kernel
theorem dX9_oldWays_190 : decode cX9_oldWays 190 = .ok (.iload 11, 2) := by decide +kernel
theorem dX9_oldWays_192 : decode cX9_oldWays 192 = .ok (.iload_n 3, 1) := by decide +kernel
theorem dX9_oldWays_193 : decode cX9_oldWays 193 = .ok (.if_icmp .ge 23, 3) := by decide +kernel
theorem dX9_oldWays_196 : decode cX9_oldWays 196 = .ok (.lload 7, 2) := by decide +kernel
theorem dX9_oldWays_198 : decode cX9_oldWays 198 = .ok (.aload_n 0, 1) := by decide +kernel
theorem dX9_oldWays_199 : decode cX9_oldWays 199 = .ok (.iload_n 1, 1) := by decide +kernel
theorem dX9_oldWays_200 : decode cX9_oldWays 200 = .ok (.iload_n 2, 1) := by decide +kernel
theorem dX9_oldWays_201 : decode cX9_oldWays 201 = .ok (.iload_n 3, 1) := by decide +kernel
theorem dX9_oldWays_202 : decode cX9_oldWays 202 = .ok (.iload 11, 2) := by decide +kernel
theorem dX9_oldWays_204 : decode cX9_oldWays 204 = .ok (.invokevirtual 188, 3) := by decide +kernel
theorem dX9_oldWays_207 : decode cX9_oldWays 207 = .ok (.ladd, 1) := by decide +kernel
theorem dX9_oldWays_208 : decode cX9_oldWays 208 = .ok (.lstore 7, 2) := by decide +kernel
theorem dX9_oldWays_210 : decode cX9_oldWays 210 = .ok (.iinc 11 1, 3) := by decide +kernel
theorem dX9_oldWays_213 : decode cX9_oldWays 213 = .ok (.goto (-23), 3) := by decide +kernel
theorem dX9_oldWays_216 : decode cX9_oldWays 216 = .ok (.iinc 10 1, 3) := by decide +kernel
theorem dX9_oldWays_219 : decode cX9_oldWays 219 = .ok (.goto (-191), 3) := by decide +kernel
theorem dX9_oldWays_222 : decode cX9_oldWays 222 = .ok (.iinc 9 1, 3) := by decide +kernel
theorem dX9_oldWays_225 : decode cX9_oldWays 225 = .ok (.goto (-219), 3) := by decide +kernel
theorem dX9_oldWays_228 : decode cX9_oldWays 228 = .ok (.lload 7, 2) := by decide +kernel
theorem dX9_oldWays_230 : decode cX9_oldWays 230 = .ok (.lreturn, 1) := by decide +kernel
theorem dX9_isAsked_0 : decode cX9_isAsked 0 = .ok (.iload_n 0, 1) := by decide +kernel
theorem dX9_isAsked_1 : decode cX9_isAsked 1 = .ok (.ifCond .lt 31, 3) := by decide +kernel
theorem dX9_isAsked_4 : decode cX9_isAsked 4 = .ok (.iload_n 0, 1) := by decide +kernel
theorem dX9_isAsked_5 : decode cX9_isAsked 5 = .ok (.bipush 100, 2) := by decide +kernel
theorem dX9_isAsked_7 : decode cX9_isAsked 7 = .ok (.if_icmp .gt 25, 3) := by decide +kernel
theorem dX9_isAsked_10 : decode cX9_isAsked 10 = .ok (.iload_n 1, 1) := by decide +kernel
theorem dX9_isAsked_11 : decode cX9_isAsked 11 = .ok (.ifCond .lt 21, 3) := by decide +kernel
theorem dX9_isAsked_14 : decode cX9_isAsked 14 = .ok (.iload_n 1, 1) := by decide +kernel
theorem dX9_isAsked_15 : decode cX9_isAsked 15 = .ok (.iconst 3, 1) := by decide +kernel
theorem dX9_isAsked_16 : decode cX9_isAsked 16 = .ok (.if_icmp .gt 16, 3) := by decide +kernel
theorem dX9_isAsked_19 : decode cX9_isAsked 19 = .ok (.iload_n 2, 1) := by decide +kernel
theorem dX9_isAsked_20 : decode cX9_isAsked 20 = .ok (.ifCond .lt 12, 3) := by decide +kernel
theorem dX9_isAsked_23 : decode cX9_isAsked 23 = .ok (.iload_n 2, 1) := by decide +kernel
theorem dX9_isAsked_24 : decode cX9_isAsked 24 = .ok (.iload_n 1, 1) := by decide +kernel
theorem dX9_isAsked_25 : decode cX9_isAsked 25 = .ok (.if_icmp .gt 7, 3) := by decide +kernel
theorem dX9_isAsked_28 : decode cX9_isAsked 28 = .ok (.iconst 1, 1) := by decide +kernel
theorem dX9_isAsked_29 : decode cX9_isAsked 29 = .ok (.goto 4, 3) := by decide +kernel
theorem dX9_isAsked_32 : decode cX9_isAsked 32 = .ok (.iconst 0, 1) := by decide +kernel
theorem dX9_isAsked_33 : decode cX9_isAsked 33 = .ok (.ireturn, 1) := by decide +kernel
theorem dX9_odds_0 : decode cX9_odds 0 = .ok (.iload_n 1, 1) := by decide +kernel
theorem dX9_odds_1 : decode cX9_odds 1 = .ok (.iload_n 2, 1) := by decide +kernel
theorem dX9_odds_2 : decode cX9_odds 2 = .ok (.iload_n 3, 1) := by decide +kernel
theorem dX9_odds_3 : decode cX9_odds 3 = .ok (.invokestatic 192, 3) := by decide +kernel
theorem dX9_odds_6 : decode cX9_odds 6 = .ok (.ifCond .ne 9, 3) := by decide +kernel
theorem dX9_odds_9 : decode cX9_odds 9 = .ok (.aload_n 0, 1) := by decide +kernel
theorem dX9_odds_10 : decode cX9_odds 10 = .ok (.iconst 1, 1) := by decide +kernel
theorem dX9_odds_11 : decode cX9_odds 11 = .ok (.invokevirtual 154, 3) := by decide +kernel
theorem dX9_odds_14 : decode cX9_odds 14 = .ok (.ireturn, 1) := by decide +kernel
theorem dX9_odds_15 : decode cX9_odds 15 = .ok (.aload_n 0, 1) := by decide +kernel
theorem dX9_odds_16 : decode cX9_odds 16 = .ok (.aload_n 0, 1) := by decide +kernel
theorem dX9_odds_17 : decode cX9_odds 17 = .ok (.getfield 48, 3) := by decide +kernel
theorem dX9_odds_20 : decode cX9_odds 20 = .ok (.iload_n 2, 1) := by decide +kernel
theorem dX9_odds_21 : decode cX9_odds 21 = .ok (.invokevirtual 196, 3) := by decide +kernel
theorem dX9_odds_24 : decode cX9_odds 24 = .ok (.lstore 4, 2) := by decide +kernel
theorem dX9_odds_26 : decode cX9_odds 26 = .ok (.lload 4, 2) := by decide +kernel
theorem dX9_odds_28 : decode cX9_odds 28 = .ok (.ldc2_w 40, 3) := by decide +kernel
theorem dX9_odds_31 : decode cX9_odds 31 = .ok (.lcmp, 1) := by decide +kernel
theorem dX9_odds_32 : decode cX9_odds 32 = .ok (.ifCond .ne 10, 3) := by decide +kernel
theorem dX9_odds_35 : decode cX9_odds 35 = .ok (.aload_n 0, 1) := by decide +kernel
theorem dX9_odds_36 : decode cX9_odds 36 = .ok (.bipush 9, 2) := by decide +kernel
theorem dX9_odds_38 : decode cX9_odds 38 = .ok (.invokevirtual 154, 3) := by decide +kernel
theorem dX9_odds_41 : decode cX9_odds 41 = .ok (.ireturn, 1) := by decide +kernel
theorem dX9_odds_42 : decode cX9_odds 42 = .ok (.aload_n 0, 1) := by decide +kernel
theorem dX9_odds_43 : decode cX9_odds 43 = .ok (.aload_n 0, 1) := by decide +kernel
theorem dX9_odds_44 : decode cX9_odds 44 = .ok (.aload_n 0, 1) := by decide +kernel
theorem dX9_odds_45 : decode cX9_odds 45 = .ok (.getfield 48, 3) := by decide +kernel
theorem dX9_odds_48 : decode cX9_odds 48 = .ok (.aload_n 0, 1) := by decide +kernel
theorem dX9_odds_49 : decode cX9_odds 49 = .ok (.getfield 51, 3) := by decide +kernel
theorem dX9_odds_52 : decode cX9_odds 52 = .ok (.aload_n 0, 1) := by decide +kernel
theorem dX9_odds_53 : decode cX9_odds 53 = .ok (.getfield 54, 3) := by decide +kernel
theorem dX9_odds_56 : decode cX9_odds 56 = .ok (.iload_n 1, 1) := by decide +kernel
theorem dX9_odds_57 : decode cX9_odds 57 = .ok (.iload_n 2, 1) := by decide +kernel
theorem dX9_odds_58 : decode cX9_odds 58 = .ok (.iload_n 3, 1) := by decide +kernel
theorem dX9_odds_59 : decode cX9_odds 59 = .ok (.invokevirtual 199, 3) := by decide +kernel
theorem dX9_odds_62 : decode cX9_odds 62 = .ok (.lload 4, 2) := by decide +kernel
theorem dX9_odds_64 : decode cX9_odds 64 = .ok (.invokevirtual 166, 3) := by decide +kernel
theorem dX9_odds_67 : decode cX9_odds 67 = .ok (.ireturn, 1) := by decide +kernel
theorem dX9_isAbove_0 : decode cX9_isAbove 0 = .ok (.lload_n 0, 1) := by decide +kernel
theorem dX9_isAbove_1 : decode cX9_isAbove 1 = .ok (.lstore 8, 2) := by decide +kernel
theorem dX9_isAbove_3 : decode cX9_isAbove 3 = .ok (.lload_n 2, 1) := by decide +kernel
theorem dX9_isAbove_4 : decode cX9_isAbove 4 = .ok (.lstore 10, 2) := by decide +kernel
theorem dX9_isAbove_6 : decode cX9_isAbove 6 = .ok (.lload 4, 2) := by decide +kernel
theorem dX9_isAbove_8 : decode cX9_isAbove 8 = .ok (.lstore 12, 2) := by decide +kernel
theorem dX9_isAbove_10 : decode cX9_isAbove 10 = .ok (.lload 6, 2) := by decide +kernel
theorem dX9_isAbove_12 : decode cX9_isAbove 12 = .ok (.lstore 14, 2) := by decide +kernel
theorem dX9_isAbove_14 : decode cX9_isAbove 14 = .ok (.iconst 0, 1) := by decide +kernel
theorem dX9_isAbove_15 : decode cX9_isAbove 15 = .ok (.istore 16, 2) := by decide +kernel
theorem dX9_isAbove_17 : decode cX9_isAbove 17 = .ok (.iconst 0, 1) := by decide +kernel
theorem dX9_isAbove_18 : decode cX9_isAbove 18 = .ok (.istore 17, 2) := by decide +kernel
theorem dX9_isAbove_20 : decode cX9_isAbove 20 = .ok (.iload 17, 2) := by decide +kernel
theorem dX9_isAbove_22 : decode cX9_isAbove 22 = .ok (.sipush 200, 3) := by decide +kernel
theorem dX9_isAbove_25 : decode cX9_isAbove 25 = .ok (.if_icmp .ge 150, 3) := by decide +kernel
theorem dX9_isAbove_28 : decode cX9_isAbove 28 = .ok (.lload 8, 2) := by decide +kernel
theorem dX9_isAbove_30 : decode cX9_isAbove 30 = .ok (.lload 10, 2) := by decide +kernel
theorem dX9_isAbove_32 : decode cX9_isAbove 32 = .ok (.ldiv, 1) := by decide +kernel
theorem dX9_isAbove_33 : decode cX9_isAbove 33 = .ok (.lstore 18, 2) := by decide +kernel
theorem dX9_isAbove_35 : decode cX9_isAbove 35 = .ok (.lload 12, 2) := by decide +kernel
theorem dX9_isAbove_37 : decode cX9_isAbove 37 = .ok (.lload 14, 2) := by decide +kernel
theorem dX9_isAbove_39 : decode cX9_isAbove 39 = .ok (.ldiv, 1) := by decide +kernel
theorem dX9_isAbove_40 : decode cX9_isAbove 40 = .ok (.lstore 20, 2) := by decide +kernel
theorem dX9_isAbove_42 : decode cX9_isAbove 42 = .ok (.lload 18, 2) := by decide +kernel
theorem dX9_isAbove_44 : decode cX9_isAbove 44 = .ok (.lload 20, 2) := by decide +kernel
theorem dX9_isAbove_46 : decode cX9_isAbove 46 = .ok (.lcmp, 1) := by decide +kernel
theorem dX9_isAbove_47 : decode cX9_isAbove 47 = .ok (.ifCond .eq 27, 3) := by decide +kernel
theorem dX9_isAbove_50 : decode cX9_isAbove 50 = .ok (.lload 18, 2) := by decide +kernel
theorem dX9_isAbove_52 : decode cX9_isAbove 52 = .ok (.lload 20, 2) := by decide +kernel
theorem dX9_isAbove_54 : decode cX9_isAbove 54 = .ok (.lcmp, 1) := by decide +kernel
theorem dX9_isAbove_55 : decode cX9_isAbove 55 = .ok (.ifCond .le 7, 3) := by decide +kernel
theorem dX9_isAbove_58 : decode cX9_isAbove 58 = .ok (.iconst 1, 1) := by decide +kernel
theorem dX9_isAbove_59 : decode cX9_isAbove 59 = .ok (.goto 4, 3) := by decide +kernel
theorem dX9_isAbove_62 : decode cX9_isAbove 62 = .ok (.iconst 0, 1) := by decide +kernel
theorem dX9_isAbove_63 : decode cX9_isAbove 63 = .ok (.iload 16, 2) := by decide +kernel
theorem dX9_isAbove_65 : decode cX9_isAbove 65 = .ok (.if_icmp .eq 7, 3) := by decide +kernel
theorem dX9_isAbove_68 : decode cX9_isAbove 68 = .ok (.iconst 1, 1) := by decide +kernel
theorem dX9_isAbove_69 : decode cX9_isAbove 69 = .ok (.goto 4, 3) := by decide +kernel
theorem dX9_isAbove_72 : decode cX9_isAbove 72 = .ok (.iconst 0, 1) := by decide +kernel
theorem dX9_isAbove_73 : decode cX9_isAbove 73 = .ok (.ireturn, 1) := by decide +kernel
theorem dX9_isAbove_74 : decode cX9_isAbove 74 = .ok (.lload 8, 2) := by decide +kernel
theorem dX9_isAbove_76 : decode cX9_isAbove 76 = .ok (.lload 10, 2) := by decide +kernel
theorem dX9_isAbove_78 : decode cX9_isAbove 78 = .ok (.lrem, 1) := by decide +kernel
theorem dX9_isAbove_79 : decode cX9_isAbove 79 = .ok (.lstore 8, 2) := by decide +kernel
theorem dX9_isAbove_81 : decode cX9_isAbove 81 = .ok (.lload 12, 2) := by decide +kernel
theorem dX9_isAbove_83 : decode cX9_isAbove 83 = .ok (.lload 14, 2) := by decide +kernel
theorem dX9_isAbove_85 : decode cX9_isAbove 85 = .ok (.lrem, 1) := by decide +kernel
theorem dX9_isAbove_86 : decode cX9_isAbove 86 = .ok (.lstore 12, 2) := by decide +kernel
theorem dX9_isAbove_88 : decode cX9_isAbove 88 = .ok (.lload 8, 2) := by decide +kernel
theorem dX9_isAbove_90 : decode cX9_isAbove 90 = .ok (.lconst 0, 1) := by decide +kernel
theorem dX9_isAbove_91 : decode cX9_isAbove 91 = .ok (.lcmp, 1) := by decide +kernel
theorem dX9_isAbove_92 : decode cX9_isAbove 92 = .ok (.ifCond .eq 10, 3) := by decide +kernel
theorem dX9_isAbove_95 : decode cX9_isAbove 95 = .ok (.lload 12, 2) := by decide +kernel
theorem dX9_isAbove_97 : decode cX9_isAbove 97 = .ok (.lconst 0, 1) := by decide +kernel
theorem dX9_isAbove_98 : decode cX9_isAbove 98 = .ok (.lcmp, 1) := by decide +kernel
theorem dX9_isAbove_99 : decode cX9_isAbove 99 = .ok (.ifCond .ne 34, 3) := by decide +kernel
theorem dX9_isAbove_102 : decode cX9_isAbove 102 = .ok (.lload 8, 2) := by decide +kernel
theorem dX9_isAbove_104 : decode cX9_isAbove 104 = .ok (.lload 12, 2) := by decide +kernel
theorem dX9_isAbove_106 : decode cX9_isAbove 106 = .ok (.lcmp, 1) := by decide +kernel
theorem dX9_isAbove_107 : decode cX9_isAbove 107 = .ok (.ifCond .eq 24, 3) := by decide +kernel
theorem dX9_isAbove_110 : decode cX9_isAbove 110 = .ok (.lload 8, 2) := by decide +kernel
theorem dX9_isAbove_112 : decode cX9_isAbove 112 = .ok (.lconst 0, 1) := by decide +kernel
theorem dX9_isAbove_113 : decode cX9_isAbove 113 = .ok (.lcmp, 1) := by decide +kernel
theorem dX9_isAbove_114 : decode cX9_isAbove 114 = .ok (.ifCond .le 7, 3) := by decide +kernel
theorem dX9_isAbove_117 : decode cX9_isAbove 117 = .ok (.iconst 1, 1) := by decide +kernel
theorem dX9_isAbove_118 : decode cX9_isAbove 118 = .ok (.goto 4, 3) := by decide +kernel
theorem dX9_isAbove_121 : decode cX9_isAbove 121 = .ok (.iconst 0, 1) := by decide +kernel
theorem dX9_isAbove_122 : decode cX9_isAbove 122 = .ok (.iload 16, 2) := by decide +kernel
theorem dX9_isAbove_124 : decode cX9_isAbove 124 = .ok (.if_icmp .eq 7, 3) := by decide +kernel
theorem dX9_isAbove_127 : decode cX9_isAbove 127 = .ok (.iconst 1, 1) := by decide +kernel
theorem dX9_isAbove_128 : decode cX9_isAbove 128 = .ok (.goto 4, 3) := by decide +kernel
theorem dX9_isAbove_131 : decode cX9_isAbove 131 = .ok (.iconst 0, 1) := by decide +kernel
theorem dX9_isAbove_132 : decode cX9_isAbove 132 = .ok (.ireturn, 1) := by decide +kernel
theorem dX9_isAbove_133 : decode cX9_isAbove 133 = .ok (.lload 8, 2) := by decide +kernel
theorem dX9_isAbove_135 : decode cX9_isAbove 135 = .ok (.lstore 22, 2) := by decide +kernel
theorem dX9_isAbove_137 : decode cX9_isAbove 137 = .ok (.lload 10, 2) := by decide +kernel
theorem dX9_isAbove_139 : decode cX9_isAbove 139 = .ok (.lstore 8, 2) := by decide +kernel
theorem dX9_isAbove_141 : decode cX9_isAbove 141 = .ok (.lload 22, 2) := by decide +kernel
theorem dX9_isAbove_143 : decode cX9_isAbove 143 = .ok (.lstore 10, 2) := by decide +kernel
theorem dX9_isAbove_145 : decode cX9_isAbove 145 = .ok (.lload 12, 2) := by decide +kernel
theorem dX9_isAbove_147 : decode cX9_isAbove 147 = .ok (.lstore 22, 2) := by decide +kernel
theorem dX9_isAbove_149 : decode cX9_isAbove 149 = .ok (.lload 14, 2) := by decide +kernel
theorem dX9_isAbove_151 : decode cX9_isAbove 151 = .ok (.lstore 12, 2) := by decide +kernel
theorem dX9_isAbove_153 : decode cX9_isAbove 153 = .ok (.lload 22, 2) := by decide +kernel
theorem dX9_isAbove_155 : decode cX9_isAbove 155 = .ok (.lstore 14, 2) := by decide +kernel
theorem dX9_isAbove_157 : decode cX9_isAbove 157 = .ok (.iload 16, 2) := by decide +kernel
theorem dX9_isAbove_159 : decode cX9_isAbove 159 = .ok (.ifCond .ne 7, 3) := by decide +kernel
theorem dX9_isAbove_162 : decode cX9_isAbove 162 = .ok (.iconst 1, 1) := by decide +kernel
theorem dX9_isAbove_163 : decode cX9_isAbove 163 = .ok (.goto 4, 3) := by decide +kernel
theorem dX9_isAbove_166 : decode cX9_isAbove 166 = .ok (.iconst 0, 1) := by decide +kernel
theorem dX9_isAbove_167 : decode cX9_isAbove 167 = .ok (.istore 16, 2) := by decide +kernel
theorem dX9_isAbove_169 : decode cX9_isAbove 169 = .ok (.iinc 17 1, 3) := by decide +kernel
theorem dX9_isAbove_172 : decode cX9_isAbove 172 = .ok (.goto (-152), 3) := by decide +kernel
theorem dX9_isAbove_175 : decode cX9_isAbove 175 = .ok (.iconst 0, 1) := by decide +kernel
theorem dX9_isAbove_176 : decode cX9_isAbove 176 = .ok (.ireturn, 1) := by decide +kernel
theorem dX9_choose_0 : decode cX9_choose 0 = .ok (.iload_n 1, 1) := by decide +kernel
theorem dX9_choose_1 : decode cX9_choose 1 = .ok (.iconst 1, 1) := by decide +kernel
theorem dX9_choose_2 : decode cX9_choose 2 = .ok (.if_icmp .lt 47, 3) := by decide +kernel
theorem dX9_choose_5 : decode cX9_choose 5 = .ok (.iload_n 1, 1) := by decide +kernel
theorem dX9_choose_6 : decode cX9_choose 6 = .ok (.iconst 5, 1) := by decide +kernel
theorem dX9_choose_7 : decode cX9_choose 7 = .ok (.if_icmp .gt 42, 3) := by decide +kernel
theorem dX9_choose_10 : decode cX9_choose 10 = .ok (.iload_n 2, 1) := by decide +kernel
theorem dX9_choose_11 : decode cX9_choose 11 = .ok (.iload_n 3, 1) := by decide +kernel
theorem dX9_choose_12 : decode cX9_choose 12 = .ok (.iload 4, 2) := by decide +kernel
theorem dX9_choose_14 : decode cX9_choose 14 = .ok (.invokestatic 192, 3) := by decide +kernel
theorem dX9_choose_17 : decode cX9_choose 17 = .ok (.ifCond .eq 32, 3) := by decide +kernel
theorem dX9_choose_20 : decode cX9_choose 20 = .ok (.iload 5, 2) := by decide +kernel
theorem dX9_choose_22 : decode cX9_choose 22 = .ok (.ifCond .lt 27, 3) := by decide +kernel
theorem dX9_choose_25 : decode cX9_choose 25 = .ok (.iload 6, 2) := by decide +kernel
theorem dX9_choose_27 : decode cX9_choose 27 = .ok (.iconst 1, 1) := by decide +kernel
theorem dX9_choose_28 : decode cX9_choose 28 = .ok (.if_icmp .lt 21, 3) := by decide +kernel
theorem dX9_choose_31 : decode cX9_choose 31 = .ok (.iload 6, 2) := by decide +kernel
theorem dX9_choose_33 : decode cX9_choose 33 = .ok (.ldc 203, 2) := by decide +kernel
theorem dX9_choose_35 : decode cX9_choose 35 = .ok (.if_icmp .gt 14, 3) := by decide +kernel
theorem dX9_choose_38 : decode cX9_choose 38 = .ok (.iload 5, 2) := by decide +kernel
theorem dX9_choose_40 : decode cX9_choose 40 = .ok (.iload 6, 2) := by decide +kernel
theorem dX9_choose_42 : decode cX9_choose 42 = .ok (.if_icmp .gt 7, 3) := by decide +kernel
theorem dX9_choose_45 : decode cX9_choose 45 = .ok (.iconst 1, 1) := by decide +kernel
theorem dX9_choose_46 : decode cX9_choose 46 = .ok (.goto 4, 3) := by decide +kernel
theorem dX9_choose_49 : decode cX9_choose 49 = .ok (.iconst 0, 1) := by decide +kernel
theorem dX9_choose_50 : decode cX9_choose 50 = .ok (.istore 10, 2) := by decide +kernel
theorem dX9_choose_52 : decode cX9_choose 52 = .ok (.iload 10, 2) := by decide +kernel
theorem dX9_choose_54 : decode cX9_choose 54 = .ok (.ifCond .eq 46, 3) := by decide +kernel
theorem dX9_choose_57 : decode cX9_choose 57 = .ok (.iload 7, 2) := by decide +kernel
theorem dX9_choose_59 : decode cX9_choose 59 = .ok (.ifCond .lt 41, 3) := by decide +kernel
theorem dX9_choose_62 : decode cX9_choose 62 = .ok (.iload 7, 2) := by decide +kernel
theorem dX9_choose_64 : decode cX9_choose 64 = .ok (.sipush 1000, 3) := by decide +kernel
theorem dX9_choose_67 : decode cX9_choose 67 = .ok (.if_icmp .gt 33, 3) := by decide +kernel
theorem dX9_choose_70 : decode cX9_choose 70 = .ok (.iload 8, 2) := by decide +kernel
theorem dX9_choose_72 : decode cX9_choose 72 = .ok (.ifCond .lt 28, 3) := by decide +kernel
theorem dX9_choose_75 : decode cX9_choose 75 = .ok (.iload 8, 2) := by decide +kernel
theorem dX9_choose_77 : decode cX9_choose 77 = .ok (.sipush 1000, 3) := by decide +kernel
theorem dX9_choose_80 : decode cX9_choose 80 = .ok (.if_icmp .gt 20, 3) := by decide +kernel
theorem dX9_choose_83 : decode cX9_choose 83 = .ok (.iload 9, 2) := by decide +kernel
theorem dX9_choose_85 : decode cX9_choose 85 = .ok (.ifCond .lt 15, 3) := by decide +kernel
theorem dX9_choose_88 : decode cX9_choose 88 = .ok (.iload 9, 2) := by decide +kernel
theorem dX9_choose_90 : decode cX9_choose 90 = .ok (.sipush 1000, 3) := by decide +kernel
theorem dX9_choose_93 : decode cX9_choose 93 = .ok (.if_icmp .gt 7, 3) := by decide +kernel
theorem dX9_choose_96 : decode cX9_choose 96 = .ok (.iconst 1, 1) := by decide +kernel
theorem dX9_choose_97 : decode cX9_choose 97 = .ok (.goto 4, 3) := by decide +kernel
theorem dX9_choose_100 : decode cX9_choose 100 = .ok (.iconst 0, 1) := by decide +kernel
theorem dX9_choose_101 : decode cX9_choose 101 = .ok (.istore 10, 2) := by decide +kernel
theorem dX9_choose_103 : decode cX9_choose 103 = .ok (.iload 10, 2) := by decide +kernel
theorem dX9_choose_105 : decode cX9_choose 105 = .ok (.ifCond .ne 9, 3) := by decide +kernel
theorem dX9_choose_108 : decode cX9_choose 108 = .ok (.aload_n 0, 1) := by decide +kernel
theorem dX9_choose_109 : decode cX9_choose 109 = .ok (.iconst 1, 1) := by decide +kernel
theorem dX9_choose_110 : decode cX9_choose 110 = .ok (.invokevirtual 154, 3) := by decide +kernel
theorem dX9_choose_113 : decode cX9_choose 113 = .ok (.ireturn, 1) := by decide +kernel
theorem dX9_choose_114 : decode cX9_choose 114 = .ok (.aload_n 0, 1) := by decide +kernel
theorem dX9_choose_115 : decode cX9_choose 115 = .ok (.iload_n 1, 1) := by decide +kernel
theorem dX9_choose_116 : decode cX9_choose 116 = .ok (.iload_n 3, 1) := by decide +kernel
theorem dX9_choose_117 : decode cX9_choose 117 = .ok (.invokevirtual 196, 3) := by decide +kernel
theorem dX9_choose_120 : decode cX9_choose 120 = .ok (.ldc2_w 40, 3) := by decide +kernel
theorem dX9_choose_123 : decode cX9_choose 123 = .ok (.lcmp, 1) := by decide +kernel
theorem dX9_choose_124 : decode cX9_choose 124 = .ok (.ifCond .ne 10, 3) := by decide +kernel
theorem dX9_choose_127 : decode cX9_choose 127 = .ok (.aload_n 0, 1) := by decide +kernel
theorem dX9_choose_128 : decode cX9_choose 128 = .ok (.bipush 9, 2) := by decide +kernel
theorem dX9_choose_130 : decode cX9_choose 130 = .ok (.invokevirtual 154, 3) := by decide +kernel
theorem dX9_choose_133 : decode cX9_choose 133 = .ok (.ireturn, 1) := by decide +kernel
theorem dX9_choose_134 : decode cX9_choose 134 = .ok (.iconst (-1), 1) := by decide +kernel
theorem dX9_choose_135 : decode cX9_choose 135 = .ok (.istore 11, 2) := by decide +kernel
theorem dX9_choose_137 : decode cX9_choose 137 = .ok (.iconst 0, 1) := by decide +kernel
theorem dX9_choose_138 : decode cX9_choose 138 = .ok (.istore 12, 2) := by decide +kernel
theorem dX9_choose_140 : decode cX9_choose 140 = .ok (.iconst 1, 1) := by decide +kernel
theorem dX9_choose_141 : decode cX9_choose 141 = .ok (.istore 13, 2) := by decide +kernel
theorem dX9_choose_143 : decode cX9_choose 143 = .ok (.iload 13, 2) := by decide +kernel
theorem dX9_choose_145 : decode cX9_choose 145 = .ok (.iload_n 1, 1) := by decide +kernel
theorem dX9_choose_146 : decode cX9_choose 146 = .ok (.if_icmp .gt 133, 3) := by decide +kernel
theorem dX9_choose_149 : decode cX9_choose 149 = .ok (.aload_n 0, 1) := by decide +kernel
theorem dX9_choose_150 : decode cX9_choose 150 = .ok (.iload 13, 2) := by decide +kernel
theorem dX9_choose_152 : decode cX9_choose 152 = .ok (.iload_n 3, 1) := by decide +kernel
theorem dX9_choose_153 : decode cX9_choose 153 = .ok (.invokevirtual 196, 3) := by decide +kernel
theorem dX9_choose_156 : decode cX9_choose 156 = .ok (.lstore 14, 2) := by decide +kernel
theorem dX9_choose_158 : decode cX9_choose 158 = .ok (.iconst 1, 1) := by decide +kernel
theorem dX9_choose_159 : decode cX9_choose 159 = .ok (.istore 16, 2) := by decide +kernel
theorem dX9_choose_161 : decode cX9_choose 161 = .ok (.iload 16, 2) := by decide +kernel
theorem dX9_choose_163 : decode cX9_choose 163 = .ok (.iload 13, 2) := by decide +kernel
theorem dX9_choose_165 : decode cX9_choose 165 = .ok (.if_icmp .gt 108, 3) := by decide +kernel
theorem dX9_choose_168 : decode cX9_choose 168 = .ok (.iconst 1, 1) := by decide +kernel
theorem dX9_choose_169 : decode cX9_choose 169 = .ok (.istore 17, 2) := by decide +kernel
theorem dX9_choose_171 : decode cX9_choose 171 = .ok (.iload 17, 2) := by decide +kernel
theorem dX9_choose_173 : decode cX9_choose 173 = .ok (.iload 13, 2) := by decide +kernel
theorem dX9_choose_175 : decode cX9_choose 175 = .ok (.if_icmp .gt 92, 3) := by decide +kernel
theorem dX9_choose_178 : decode cX9_choose 178 = .ok (.iload 13, 2) := by decide +kernel
theorem dX9_choose_180 : decode cX9_choose 180 = .ok (.iload 7, 2) := by decide +kernel
theorem dX9_choose_182 : decode cX9_choose 182 = .ok (.imul, 1) := by decide +kernel
theorem dX9_choose_183 : decode cX9_choose 183 = .ok (.iload 16, 2) := by decide +kernel
theorem dX9_choose_185 : decode cX9_choose 185 = .ok (.iload 8, 2) := by decide +kernel
theorem dX9_choose_187 : decode cX9_choose 187 = .ok (.imul, 1) := by decide +kernel
theorem dX9_choose_188 : decode cX9_choose 188 = .ok (.iadd, 1) := by decide +kernel
theorem dX9_choose_189 : decode cX9_choose 189 = .ok (.iload 17, 2) := by decide +kernel
theorem dX9_choose_191 : decode cX9_choose 191 = .ok (.iload 9, 2) := by decide +kernel
theorem dX9_choose_193 : decode cX9_choose 193 = .ok (.imul, 1) := by decide +kernel
theorem dX9_choose_194 : decode cX9_choose 194 = .ok (.iadd, 1) := by decide +kernel
theorem dX9_choose_195 : decode cX9_choose 195 = .ok (.istore 18, 2) := by decide +kernel
theorem dX9_choose_197 : decode cX9_choose 197 = .ok (.iload 11, 2) := by decide +kernel
theorem dX9_choose_199 : decode cX9_choose 199 = .ok (.iconst (-1), 1) := by decide +kernel
theorem dX9_choose_200 : decode cX9_choose 200 = .ok (.if_icmp .eq 10, 3) := by decide +kernel
theorem dX9_choose_203 : decode cX9_choose 203 = .ok (.iload 18, 2) := by decide +kernel
theorem dX9_choose_205 : decode cX9_choose 205 = .ok (.iload 12, 2) := by decide +kernel
theorem dX9_choose_207 : decode cX9_choose 207 = .ok (.if_icmp .ge 54, 3) := by decide +kernel
theorem dX9_choose_210 : decode cX9_choose 210 = .ok (.aload_n 0, 1) := by decide +kernel
theorem dX9_choose_211 : decode cX9_choose 211 = .ok (.iload 13, 2) := by decide +kernel
theorem dX9_choose_213 : decode cX9_choose 213 = .ok (.iload 16, 2) := by decide +kernel
theorem dX9_choose_215 : decode cX9_choose 215 = .ok (.iload 17, 2) := by decide +kernel
theorem dX9_choose_217 : decode cX9_choose 217 = .ok (.iload_n 2, 1) := by decide +kernel
theorem dX9_choose_218 : decode cX9_choose 218 = .ok (.iload_n 3, 1) := by decide +kernel
theorem dX9_choose_219 : decode cX9_choose 219 = .ok (.iload 4, 2) := by decide +kernel
theorem dX9_choose_221 : decode cX9_choose 221 = .ok (.invokevirtual 199, 3) := by decide +kernel
theorem dX9_choose_224 : decode cX9_choose 224 = .ok (.lload 14, 2) := by decide +kernel
theorem dX9_choose_226 : decode cX9_choose 226 = .ok (.iload 5, 2) := by decide +kernel
theorem dX9_choose_228 : decode cX9_choose 228 = .ok (.i2l, 1) := by decide +kernel
theorem dX9_choose_229 : decode cX9_choose 229 = .ok (.iload 6, 2) := by decide +kernel
theorem dX9_choose_231 : decode cX9_choose 231 = .ok (.i2l, 1) := by decide +kernel
theorem dX9_choose_232 : decode cX9_choose 232 = .ok (.invokestatic 204, 3) := by decide +kernel
theorem dX9_choose_235 : decode cX9_choose 235 = .ok (.ifCond .eq 6, 3) := by decide +kernel
theorem dX9_choose_238 : decode cX9_choose 238 = .ok (.goto 23, 3) := by decide +kernel
theorem dX9_choose_241 : decode cX9_choose 241 = .ok (.bipush 100, 2) := by decide +kernel
theorem dX9_choose_243 : decode cX9_choose 243 = .ok (.iload 13, 2) := by decide +kernel
theorem dX9_choose_245 : decode cX9_choose 245 = .ok (.imul, 1) := by decide +kernel
theorem dX9_choose_246 : decode cX9_choose 246 = .ok (.bipush 10, 2) := by decide +kernel
theorem dX9_choose_248 : decode cX9_choose 248 = .ok (.iload 16, 2) := by decide +kernel
theorem dX9_choose_250 : decode cX9_choose 250 = .ok (.imul, 1) := by decide +kernel
theorem dX9_choose_251 : decode cX9_choose 251 = .ok (.iadd, 1) := by decide +kernel
theorem dX9_choose_252 : decode cX9_choose 252 = .ok (.iload 17, 2) := by decide +kernel
theorem dX9_choose_254 : decode cX9_choose 254 = .ok (.iadd, 1) := by decide +kernel
theorem dX9_choose_255 : decode cX9_choose 255 = .ok (.istore 11, 2) := by decide +kernel
theorem dX9_choose_257 : decode cX9_choose 257 = .ok (.iload 18, 2) := by decide +kernel
theorem dX9_choose_259 : decode cX9_choose 259 = .ok (.istore 12, 2) := by decide +kernel
theorem dX9_choose_261 : decode cX9_choose 261 = .ok (.iinc 17 1, 3) := by decide +kernel
theorem dX9_choose_264 : decode cX9_choose 264 = .ok (.goto (-93), 3) := by decide +kernel
theorem dX9_choose_267 : decode cX9_choose 267 = .ok (.iinc 16 1, 3) := by decide +kernel
theorem dX9_choose_270 : decode cX9_choose 270 = .ok (.goto (-109), 3) := by decide +kernel
theorem dX9_choose_273 : decode cX9_choose 273 = .ok (.iinc 13 1, 3) := by decide +kernel
theorem dX9_choose_276 : decode cX9_choose 276 = .ok (.goto (-133), 3) := by decide +kernel
theorem dX9_choose_279 : decode cX9_choose 279 = .ok (.iload 11, 2) := by decide +kernel
theorem dX9_choose_281 : decode cX9_choose 281 = .ok (.iconst (-1), 1) := by decide +kernel
theorem dX9_choose_282 : decode cX9_choose 282 = .ok (.if_icmp .ne 10, 3) := by decide +kernel
theorem dX9_choose_285 : decode cX9_choose 285 = .ok (.aload_n 0, 1) := by decide +kernel
theorem dX9_choose_286 : decode cX9_choose 286 = .ok (.bipush 8, 2) := by decide +kernel
theorem dX9_choose_288 : decode cX9_choose 288 = .ok (.invokevirtual 154, 3) := by decide +kernel
theorem dX9_choose_291 : decode cX9_choose 291 = .ok (.ireturn, 1) := by decide +kernel
theorem dX9_choose_292 : decode cX9_choose 292 = .ok (.aload_n 0, 1) := by decide +kernel
theorem dX9_choose_293 : decode cX9_choose 293 = .ok (.iconst 0, 1) := by decide +kernel
theorem dX9_choose_294 : decode cX9_choose 294 = .ok (.putfield 1, 3) := by decide +kernel
theorem dX9_choose_297 : decode cX9_choose 297 = .ok (.iload 11, 2) := by decide +kernel
theorem dX9_choose_299 : decode cX9_choose 299 = .ok (.ireturn, 1) := by decide +kernel
theorem dX9_begin_0 : decode cX9_begin 0 = .ok (.aload_n 0, 1) := by decide +kernel
theorem dX9_begin_1 : decode cX9_begin 1 = .ok (.iconst 1, 1) := by decide +kernel
theorem dX9_begin_2 : decode cX9_begin 2 = .ok (.putfield 208, 3) := by decide +kernel
theorem dX9_begin_5 : decode cX9_begin 5 = .ok (.aload_n 0, 1) := by decide +kernel
theorem dX9_begin_6 : decode cX9_begin 6 = .ok (.iconst 0, 1) := by decide +kernel
theorem dX9_begin_7 : decode cX9_begin 7 = .ok (.putfield 212, 3) := by decide +kernel
theorem dX9_begin_10 : decode cX9_begin 10 = .ok (.aload_n 0, 1) := by decide +kernel
theorem dX9_begin_11 : decode cX9_begin 11 = .ok (.aload_n 0, 1) := by decide +kernel
theorem dX9_begin_12 : decode cX9_begin 12 = .ok (.getfield 48, 3) := by decide +kernel
theorem dX9_begin_15 : decode cX9_begin 15 = .ok (.putfield 215, 3) := by decide +kernel
theorem dX9_begin_18 : decode cX9_begin 18 = .ok (.aload_n 0, 1) := by decide +kernel
theorem dX9_begin_19 : decode cX9_begin 19 = .ok (.aload_n 0, 1) := by decide +kernel
theorem dX9_begin_20 : decode cX9_begin 20 = .ok (.getfield 51, 3) := by decide +kernel
theorem dX9_begin_23 : decode cX9_begin 23 = .ok (.putfield 218, 3) := by decide +kernel
theorem dX9_begin_26 : decode cX9_begin 26 = .ok (.aload_n 0, 1) := by decide +kernel
theorem dX9_begin_27 : decode cX9_begin 27 = .ok (.aload_n 0, 1) := by decide +kernel
theorem dX9_begin_28 : decode cX9_begin 28 = .ok (.getfield 54, 3) := by decide +kernel
theorem dX9_begin_31 : decode cX9_begin 31 = .ok (.putfield 221, 3) := by decide +kernel
theorem dX9_begin_34 : decode cX9_begin 34 = .ok (.aload_n 0, 1) := by decide +kernel
theorem dX9_begin_35 : decode cX9_begin 35 = .ok (.iconst 0, 1) := by decide +kernel
theorem dX9_begin_36 : decode cX9_begin 36 = .ok (.putfield 224, 3) := by decide +kernel
theorem dX9_begin_39 : decode cX9_begin 39 = .ok (.aload_n 0, 1) := by decide +kernel
theorem dX9_begin_40 : decode cX9_begin 40 = .ok (.iconst 0, 1) := by decide +kernel
theorem dX9_begin_41 : decode cX9_begin 41 = .ok (.putfield 227, 3) := by decide +kernel
theorem dX9_begin_44 : decode cX9_begin 44 = .ok (.aload_n 0, 1) := by decide +kernel
theorem dX9_begin_45 : decode cX9_begin 45 = .ok (.iconst 0, 1) := by decide +kernel
theorem dX9_begin_46 : decode cX9_begin 46 = .ok (.putfield 230, 3) := by decide +kernel
theorem dX9_begin_49 : decode cX9_begin 49 = .ok (.aload_n 0, 1) := by decide +kernel
theorem dX9_begin_50 : decode cX9_begin 50 = .ok (.iconst 0, 1) := by decide +kernel
theorem dX9_begin_51 : decode cX9_begin 51 = .ok (.putfield 233, 3) := by decide +kernel
theorem dX9_begin_54 : decode cX9_begin 54 = .ok (.aload_n 0, 1) := by decide +kernel
theorem dX9_begin_55 : decode cX9_begin 55 = .ok (.iconst 0, 1) := by decide +kernel
theorem dX9_begin_56 : decode cX9_begin 56 = .ok (.putfield 236, 3) := by decide +kernel
theorem dX9_begin_59 : decode cX9_begin 59 = .ok (.aload_n 0, 1) := by decide +kernel
theorem dX9_begin_60 : decode cX9_begin 60 = .ok (.iconst 0, 1) := by decide +kernel
theorem dX9_begin_61 : decode cX9_begin 61 = .ok (.putfield 239, 3) := by decide +kernel
theorem dX9_begin_64 : decode cX9_begin 64 = .ok (.aload_n 0, 1) := by decide +kernel
theorem dX9_begin_65 : decode cX9_begin 65 = .ok (.iconst 0, 1) := by decide +kernel
theorem dX9_begin_66 : decode cX9_begin 66 = .ok (.putfield 242, 3) := by decide +kernel
theorem dX9_begin_69 : decode cX9_begin 69 = .ok (.iconst 0, 1) := by decide +kernel
theorem dX9_begin_70 : decode cX9_begin 70 = .ok (.istore_n 1, 1) := by decide +kernel
theorem dX9_begin_71 : decode cX9_begin 71 = .ok (.iload_n 1, 1) := by decide +kernel
theorem dX9_begin_72 : decode cX9_begin 72 = .ok (.iconst 5, 1) := by decide +kernel
theorem dX9_begin_73 : decode cX9_begin 73 = .ok (.if_icmp .ge 23, 3) := by decide +kernel
theorem dX9_begin_76 : decode cX9_begin 76 = .ok (.aload_n 0, 1) := by decide +kernel
theorem dX9_begin_77 : decode cX9_begin 77 = .ok (.getfield 78, 3) := by decide +kernel
theorem dX9_begin_80 : decode cX9_begin 80 = .ok (.iload_n 1, 1) := by decide +kernel
theorem dX9_begin_81 : decode cX9_begin 81 = .ok (.iconst 0, 1) := by decide +kernel
theorem dX9_begin_82 : decode cX9_begin 82 = .ok (.iastore, 1) := by decide +kernel
theorem dX9_begin_83 : decode cX9_begin 83 = .ok (.aload_n 0, 1) := by decide +kernel
theorem dX9_begin_84 : decode cX9_begin 84 = .ok (.getfield 84, 3) := by decide +kernel
theorem dX9_begin_87 : decode cX9_begin 87 = .ok (.iload_n 1, 1) := by decide +kernel
theorem dX9_begin_88 : decode cX9_begin 88 = .ok (.iconst 1, 1) := by decide +kernel
theorem dX9_begin_89 : decode cX9_begin 89 = .ok (.bastore, 1) := by decide +kernel
theorem dX9_begin_90 : decode cX9_begin 90 = .ok (.iinc 1 1, 3) := by decide +kernel
theorem dX9_begin_93 : decode cX9_begin 93 = .ok (.goto (-22), 3) := by decide +kernel
theorem dX9_begin_96 : decode cX9_begin 96 = .ok (.iconst 0, 1) := by decide +kernel
theorem dX9_begin_97 : decode cX9_begin 97 = .ok (.istore_n 1, 1) := by decide +kernel
theorem dX9_begin_98 : decode cX9_begin 98 = .ok (.iload_n 1, 1) := by decide +kernel
theorem dX9_begin_99 : decode cX9_begin 99 = .ok (.aload_n 0, 1) := by decide +kernel
theorem dX9_begin_100 : decode cX9_begin 100 = .ok (.getfield 81, 3) := by decide +kernel
theorem dX9_begin_103 : decode cX9_begin 103 = .ok (.arraylength, 1) := by decide +kernel
theorem dX9_begin_104 : decode cX9_begin 104 = .ok (.if_icmp .ge 16, 3) := by decide +kernel
theorem dX9_begin_107 : decode cX9_begin 107 = .ok (.aload_n 0, 1) := by decide +kernel
theorem dX9_begin_108 : decode cX9_begin 108 = .ok (.getfield 81, 3) := by decide +kernel
theorem dX9_begin_111 : decode cX9_begin 111 = .ok (.iload_n 1, 1) := by decide +kernel
theorem dX9_begin_112 : decode cX9_begin 112 = .ok (.iconst 0, 1) := by decide +kernel
theorem dX9_begin_113 : decode cX9_begin 113 = .ok (.iastore, 1) := by decide +kernel
theorem dX9_begin_114 : decode cX9_begin 114 = .ok (.iinc 1 1, 3) := by decide +kernel
theorem dX9_begin_117 : decode cX9_begin 117 = .ok (.goto (-19), 3) := by decide +kernel
theorem dX9_begin_120 : decode cX9_begin 120 = .ok (.iconst 0, 1) := by decide +kernel
theorem dX9_begin_121 : decode cX9_begin 121 = .ok (.istore_n 1, 1) := by decide +kernel
theorem dX9_begin_122 : decode cX9_begin 122 = .ok (.iload_n 1, 1) := by decide +kernel
theorem dX9_begin_123 : decode cX9_begin 123 = .ok (.iconst 4, 1) := by decide +kernel
theorem dX9_begin_124 : decode cX9_begin 124 = .ok (.if_icmp .ge 23, 3) := by decide +kernel
theorem dX9_begin_127 : decode cX9_begin 127 = .ok (.aload_n 0, 1) := by decide +kernel
theorem dX9_begin_128 : decode cX9_begin 128 = .ok (.getfield 88, 3) := by decide +kernel
theorem dX9_begin_131 : decode cX9_begin 131 = .ok (.iload_n 1, 1) := by decide +kernel
theorem dX9_begin_132 : decode cX9_begin 132 = .ok (.iconst 0, 1) := by decide +kernel
theorem dX9_begin_133 : decode cX9_begin 133 = .ok (.bastore, 1) := by decide +kernel
theorem dX9_begin_134 : decode cX9_begin 134 = .ok (.aload_n 0, 1) := by decide +kernel
theorem dX9_begin_135 : decode cX9_begin 135 = .ok (.getfield 91, 3) := by decide +kernel
theorem dX9_begin_138 : decode cX9_begin 138 = .ok (.iload_n 1, 1) := by decide +kernel
theorem dX9_begin_139 : decode cX9_begin 139 = .ok (.iconst 0, 1) := by decide +kernel
theorem dX9_begin_140 : decode cX9_begin 140 = .ok (.iastore, 1) := by decide +kernel
theorem dX9_begin_141 : decode cX9_begin 141 = .ok (.iinc 1 1, 3) := by decide +kernel
theorem dX9_begin_144 : decode cX9_begin 144 = .ok (.goto (-22), 3) := by decide +kernel
theorem dX9_begin_147 : decode cX9_begin 147 = .ok (.aload_n 0, 1) := by decide +kernel
theorem dX9_begin_148 : decode cX9_begin 148 = .ok (.iconst 0, 1) := by decide +kernel
theorem dX9_begin_149 : decode cX9_begin 149 = .ok (.invokevirtual 18, 3) := by decide +kernel
theorem dX9_begin_152 : decode cX9_begin 152 = .ok (.ireturn, 1) := by decide +kernel
theorem dX9_mending_0 : decode cX9_mending 0 = .ok (.aload_n 0, 1) := by decide +kernel
theorem dX9_mending_1 : decode cX9_mending 1 = .ok (.getfield 208, 3) := by decide +kernel
theorem dX9_mending_4 : decode cX9_mending 4 = .ok (.ifCond .ne 9, 3) := by decide +kernel
theorem dX9_mending_7 : decode cX9_mending 7 = .ok (.aload_n 0, 1) := by decide +kernel
theorem dX9_mending_8 : decode cX9_mending 8 = .ok (.iconst 4, 1) := by decide +kernel
theorem dX9_mending_9 : decode cX9_mending 9 = .ok (.invokevirtual 18, 3) := by decide +kernel
theorem dX9_mending_12 : decode cX9_mending 12 = .ok (.ireturn, 1) := by decide +kernel
theorem dX9_mending_13 : decode cX9_mending 13 = .ok (.aload_n 0, 1) := by decide +kernel
theorem dX9_mending_14 : decode cX9_mending 14 = .ok (.iload_n 1, 1) := by decide +kernel
theorem dX9_mending_15 : decode cX9_mending 15 = .ok (.putfield 212, 3) := by decide +kernel
theorem dX9_mending_18 : decode cX9_mending 18 = .ok (.aload_n 0, 1) := by decide +kernel
theorem dX9_mending_19 : decode cX9_mending 19 = .ok (.iconst 0, 1) := by decide +kernel
theorem dX9_mending_20 : decode cX9_mending 20 = .ok (.invokevirtual 18, 3) := by decide +kernel
theorem dX9_mending_23 : decode cX9_mending 23 = .ok (.ireturn, 1) := by decide +kernel
theorem dX9_isReader_0 : decode cX9_isReader 0 = .ok (.iload_n 0, 1) := by decide +kernel
theorem dX9_isReader_1 : decode cX9_isReader 1 = .ok (.ifCond .lt 12, 3) := by decide +kernel
theorem dX9_isReader_4 : decode cX9_isReader 4 = .ok (.iload_n 0, 1) := by decide +kernel
theorem dX9_isReader_5 : decode cX9_isReader 5 = .ok (.iconst 4, 1) := by decide +kernel
theorem dX9_isReader_6 : decode cX9_isReader 6 = .ok (.if_icmp .ge 7, 3) := by decide +kernel
theorem dX9_isReader_9 : decode cX9_isReader 9 = .ok (.iconst 1, 1) := by decide +kernel
theorem dX9_isReader_10 : decode cX9_isReader 10 = .ok (.goto 4, 3) := by decide +kernel
theorem dX9_isReader_13 : decode cX9_isReader 13 = .ok (.iconst 0, 1) := by decide +kernel
theorem dX9_isReader_14 : decode cX9_isReader 14 = .ok (.ireturn, 1) := by decide +kernel
theorem dX9_keep_0 : decode cX9_keep 0 = .ok (.iload_n 1, 1) := by decide +kernel
theorem dX9_keep_1 : decode cX9_keep 1 = .ok (.invokestatic 245, 3) := by decide +kernel
theorem dX9_keep_4 : decode cX9_keep 4 = .ok (.ifCond .ne 9, 3) := by decide +kernel
theorem dX9_keep_7 : decode cX9_keep 7 = .ok (.aload_n 0, 1) := by decide +kernel
theorem dX9_keep_8 : decode cX9_keep 8 = .ok (.iconst 1, 1) := by decide +kernel
theorem dX9_keep_9 : decode cX9_keep 9 = .ok (.invokevirtual 18, 3) := by decide +kernel
theorem dX9_keep_12 : decode cX9_keep 12 = .ok (.ireturn, 1) := by decide +kernel
theorem dX9_keep_13 : decode cX9_keep 13 = .ok (.aload_n 0, 1) := by decide +kernel
theorem dX9_keep_14 : decode cX9_keep 14 = .ok (.getfield 208, 3) := by decide +kernel
theorem dX9_keep_17 : decode cX9_keep 17 = .ok (.ifCond .ne 9, 3) := by decide +kernel
theorem dX9_keep_20 : decode cX9_keep 20 = .ok (.aload_n 0, 1) := by decide +kernel
theorem dX9_keep_21 : decode cX9_keep 21 = .ok (.iconst 4, 1) := by decide +kernel
theorem dX9_keep_22 : decode cX9_keep 22 = .ok (.invokevirtual 18, 3) := by decide +kernel
theorem dX9_keep_25 : decode cX9_keep 25 = .ok (.ireturn, 1) := by decide +kernel
theorem dX9_keep_26 : decode cX9_keep 26 = .ok (.aload_n 0, 1) := by decide +kernel
theorem dX9_keep_27 : decode cX9_keep 27 = .ok (.getfield 88, 3) := by decide +kernel
theorem dX9_keep_30 : decode cX9_keep 30 = .ok (.iload_n 1, 1) := by decide +kernel
theorem dX9_keep_31 : decode cX9_keep 31 = .ok (.iload_n 2, 1) := by decide +kernel
theorem dX9_keep_32 : decode cX9_keep 32 = .ok (.bastore, 1) := by decide +kernel
theorem dX9_keep_33 : decode cX9_keep 33 = .ok (.aload_n 0, 1) := by decide +kernel
theorem dX9_keep_34 : decode cX9_keep 34 = .ok (.iconst 0, 1) := by decide +kernel
theorem dX9_keep_35 : decode cX9_keep 35 = .ok (.invokevirtual 18, 3) := by decide +kernel
theorem dX9_keep_38 : decode cX9_keep 38 = .ok (.ireturn, 1) := by decide +kernel
theorem dX9_send_0 : decode cX9_send 0 = .ok (.aload_n 0, 1) := by decide +kernel
theorem dX9_send_1 : decode cX9_send 1 = .ok (.getfield 94, 3) := by decide +kernel
theorem dX9_send_4 : decode cX9_send 4 = .ok (.aload_n 0, 1) := by decide +kernel
theorem dX9_send_5 : decode cX9_send 5 = .ok (.getfield 242, 3) := by decide +kernel
theorem dX9_send_8 : decode cX9_send 8 = .ok (.aload_n 0, 1) := by decide +kernel
theorem dX9_send_9 : decode cX9_send 9 = .ok (.getfield 224, 3) := by decide +kernel
theorem dX9_send_12 : decode cX9_send 12 = .ok (.iload_n 1, 1) := by decide +kernel
theorem dX9_send_13 : decode cX9_send 13 = .ok (.iadd, 1) := by decide +kernel
theorem dX9_send_14 : decode cX9_send 14 = .ok (.iastore, 1) := by decide +kernel
theorem dX9_send_15 : decode cX9_send 15 = .ok (.aload_n 0, 1) := by decide +kernel
theorem dX9_send_16 : decode cX9_send 16 = .ok (.getfield 97, 3) := by decide +kernel
theorem dX9_send_19 : decode cX9_send 19 = .ok (.aload_n 0, 1) := by decide +kernel
theorem dX9_send_20 : decode cX9_send 20 = .ok (.getfield 242, 3) := by decide +kernel
theorem dX9_send_23 : decode cX9_send 23 = .ok (.aload_n 0, 1) := by decide +kernel
theorem dX9_send_24 : decode cX9_send 24 = .ok (.getfield 227, 3) := by decide +kernel
theorem dX9_send_27 : decode cX9_send 27 = .ok (.iastore, 1) := by decide +kernel
theorem dX9_send_28 : decode cX9_send 28 = .ok (.aload_n 0, 1) := by decide +kernel
theorem dX9_send_29 : decode cX9_send 29 = .ok (.getfield 100, 3) := by decide +kernel
theorem dX9_send_32 : decode cX9_send 32 = .ok (.aload_n 0, 1) := by decide +kernel
theorem dX9_send_33 : decode cX9_send 33 = .ok (.getfield 242, 3) := by decide +kernel
theorem dX9_send_36 : decode cX9_send 36 = .ok (.iload_n 2, 1) := by decide +kernel
theorem dX9_send_37 : decode cX9_send 37 = .ok (.iastore, 1) := by decide +kernel
theorem dX9_send_38 : decode cX9_send 38 = .ok (.aload_n 0, 1) := by decide +kernel
theorem dX9_send_39 : decode cX9_send 39 = .ok (.getfield 103, 3) := by decide +kernel
theorem dX9_send_42 : decode cX9_send 42 = .ok (.aload_n 0, 1) := by decide +kernel
theorem dX9_send_43 : decode cX9_send 43 = .ok (.getfield 242, 3) := by decide +kernel
theorem dX9_send_46 : decode cX9_send 46 = .ok (.iload_n 3, 1) := by decide +kernel
theorem dX9_send_47 : decode cX9_send 47 = .ok (.iastore, 1) := by decide +kernel
theorem dX9_send_48 : decode cX9_send 48 = .ok (.aload_n 0, 1) := by decide +kernel
theorem dX9_send_49 : decode cX9_send 49 = .ok (.getfield 106, 3) := by decide +kernel
theorem dX9_send_52 : decode cX9_send 52 = .ok (.aload_n 0, 1) := by decide +kernel
theorem dX9_send_53 : decode cX9_send 53 = .ok (.getfield 242, 3) := by decide +kernel
theorem dX9_send_56 : decode cX9_send 56 = .ok (.iload 4, 2) := by decide +kernel
theorem dX9_send_58 : decode cX9_send 58 = .ok (.iastore, 1) := by decide +kernel
theorem dX9_send_59 : decode cX9_send 59 = .ok (.aload_n 0, 1) := by decide +kernel
theorem dX9_send_60 : decode cX9_send 60 = .ok (.getfield 109, 3) := by decide +kernel
theorem dX9_send_63 : decode cX9_send 63 = .ok (.aload_n 0, 1) := by decide +kernel
theorem dX9_send_64 : decode cX9_send 64 = .ok (.getfield 242, 3) := by decide +kernel
theorem dX9_send_67 : decode cX9_send 67 = .ok (.iload 5, 2) := by decide +kernel
theorem dX9_send_69 : decode cX9_send 69 = .ok (.iastore, 1) := by decide +kernel
theorem dX9_send_70 : decode cX9_send 70 = .ok (.aload_n 0, 1) := by decide +kernel
theorem dX9_send_71 : decode cX9_send 71 = .ok (.getfield 112, 3) := by decide +kernel
theorem dX9_send_74 : decode cX9_send 74 = .ok (.aload_n 0, 1) := by decide +kernel
theorem dX9_send_75 : decode cX9_send 75 = .ok (.getfield 242, 3) := by decide +kernel
theorem dX9_send_78 : decode cX9_send 78 = .ok (.iload 6, 2) := by decide +kernel
theorem dX9_send_80 : decode cX9_send 80 = .ok (.iastore, 1) := by decide +kernel
theorem dX9_send_81 : decode cX9_send 81 = .ok (.aload_n 0, 1) := by decide +kernel
theorem dX9_send_82 : decode cX9_send 82 = .ok (.dup, 1) := by decide +kernel
theorem dX9_send_83 : decode cX9_send 83 = .ok (.getfield 227, 3) := by decide +kernel
theorem dX9_send_86 : decode cX9_send 86 = .ok (.iconst 1, 1) := by decide +kernel
theorem dX9_send_87 : decode cX9_send 87 = .ok (.iadd, 1) := by decide +kernel
theorem dX9_send_88 : decode cX9_send 88 = .ok (.putfield 227, 3) := by decide +kernel
theorem dX9_send_91 : decode cX9_send 91 = .ok (.aload_n 0, 1) := by decide +kernel
theorem dX9_send_92 : decode cX9_send 92 = .ok (.dup, 1) := by decide +kernel
theorem dX9_send_93 : decode cX9_send 93 = .ok (.getfield 242, 3) := by decide +kernel
theorem dX9_send_96 : decode cX9_send 96 = .ok (.iconst 1, 1) := by decide +kernel
theorem dX9_send_97 : decode cX9_send 97 = .ok (.iadd, 1) := by decide +kernel
theorem dX9_send_98 : decode cX9_send 98 = .ok (.putfield 242, 3) := by decide +kernel
theorem dX9_send_101 : decode cX9_send 101 = .ok (.return_, 1) := by decide +kernel
theorem dX9_wrongDelays_0 : decode cX9_wrongDelays 0 = .ok (.iload_n 1, 1) := by decide +kernel
theorem dX9_wrongDelays_1 : decode cX9_wrongDelays 1 = .ok (.invokestatic 14, 3) := by decide +kernel
theorem dX9_wrongDelays_4 : decode cX9_wrongDelays 4 = .ok (.ifCond .ne 5, 3) := by decide +kernel
theorem dX9_wrongDelays_7 : decode cX9_wrongDelays 7 = .ok (.iconst 1, 1) := by decide +kernel
theorem dX9_wrongDelays_8 : decode cX9_wrongDelays 8 = .ok (.ireturn, 1) := by decide +kernel
theorem dX9_wrongDelays_9 : decode cX9_wrongDelays 9 = .ok (.aload_n 0, 1) := by decide +kernel
theorem dX9_wrongDelays_10 : decode cX9_wrongDelays 10 = .ok (.getfield 208, 3) := by decide +kernel
theorem dX9_wrongDelays_13 : decode cX9_wrongDelays 13 = .ok (.ifCond .ne 5, 3) := by decide +kernel
theorem dX9_wrongDelays_16 : decode cX9_wrongDelays 16 = .ok (.iconst 4, 1) := by decide +kernel
theorem dX9_wrongDelays_17 : decode cX9_wrongDelays 17 = .ok (.ireturn, 1) := by decide +kernel
theorem dX9_wrongDelays_18 : decode cX9_wrongDelays 18 = .ok (.aload_n 0, 1) := by decide +kernel
theorem dX9_wrongDelays_19 : decode cX9_wrongDelays 19 = .ok (.getfield 25, 3) := by decide +kernel
theorem dX9_wrongDelays_22 : decode cX9_wrongDelays 22 = .ok (.iload_n 1, 1) := by decide +kernel
theorem dX9_wrongDelays_23 : decode cX9_wrongDelays 23 = .ok (.iaload, 1) := by decide +kernel
theorem dX9_wrongDelays_24 : decode cX9_wrongDelays 24 = .ok (.iconst (-1), 1) := by decide +kernel
theorem dX9_wrongDelays_25 : decode cX9_wrongDelays 25 = .ok (.if_icmp .ne 5, 3) := by decide +kernel
theorem dX9_wrongDelays_28 : decode cX9_wrongDelays 28 = .ok (.iconst 2, 1) := by decide +kernel
theorem dX9_wrongDelays_29 : decode cX9_wrongDelays 29 = .ok (.ireturn, 1) := by decide +kernel
theorem dX9_wrongDelays_30 : decode cX9_wrongDelays 30 = .ok (.aload_n 0, 1) := by decide +kernel
theorem dX9_wrongDelays_31 : decode cX9_wrongDelays 31 = .ok (.getfield 25, 3) := by decide +kernel
theorem dX9_wrongDelays_34 : decode cX9_wrongDelays 34 = .ok (.iload_n 1, 1) := by decide +kernel
theorem dX9_wrongDelays_35 : decode cX9_wrongDelays 35 = .ok (.iaload, 1) := by decide +kernel
theorem dX9_wrongDelays_36 : decode cX9_wrongDelays 36 = .ok (.iconst 2, 1) := by decide +kernel
theorem dX9_wrongDelays_37 : decode cX9_wrongDelays 37 = .ok (.aload_n 0, 1) := by decide +kernel
theorem dX9_wrongDelays_38 : decode cX9_wrongDelays 38 = .ok (.getfield 215, 3) := by decide +kernel
theorem dX9_wrongDelays_41 : decode cX9_wrongDelays 41 = .ok (.imul, 1) := by decide +kernel
theorem dX9_wrongDelays_42 : decode cX9_wrongDelays 42 = .ok (.if_icmp .ge 5, 3) := by decide +kernel
theorem dX9_wrongDelays_45 : decode cX9_wrongDelays 45 = .ok (.iconst 3, 1) := by decide +kernel
theorem dX9_wrongDelays_46 : decode cX9_wrongDelays 46 = .ok (.ireturn, 1) := by decide +kernel
theorem dX9_wrongDelays_47 : decode cX9_wrongDelays 47 = .ok (.iconst 0, 1) := by decide +kernel
theorem dX9_wrongDelays_48 : decode cX9_wrongDelays 48 = .ok (.istore_n 2, 1) := by decide +kernel
theorem dX9_wrongDelays_49 : decode cX9_wrongDelays 49 = .ok (.iload_n 2, 1) := by decide +kernel
theorem dX9_wrongDelays_50 : decode cX9_wrongDelays 50 = .ok (.iconst 2, 1) := by decide +kernel
theorem dX9_wrongDelays_51 : decode cX9_wrongDelays 51 = .ok (.aload_n 0, 1) := by decide +kernel
theorem dX9_wrongDelays_52 : decode cX9_wrongDelays 52 = .ok (.getfield 215, 3) := by decide +kernel
theorem dX9_wrongDelays_55 : decode cX9_wrongDelays 55 = .ok (.imul, 1) := by decide +kernel
theorem dX9_wrongDelays_56 : decode cX9_wrongDelays 56 = .ok (.if_icmp .ge 45, 3) := by decide +kernel
theorem dX9_wrongDelays_59 : decode cX9_wrongDelays 59 = .ok (.aload_n 0, 1) := by decide +kernel
theorem dX9_wrongDelays_60 : decode cX9_wrongDelays 60 = .ok (.getfield 28, 3) := by decide +kernel
theorem dX9_wrongDelays_63 : decode cX9_wrongDelays 63 = .ok (.bipush 16, 2) := by decide +kernel
theorem dX9_wrongDelays_65 : decode cX9_wrongDelays 65 = .ok (.iload_n 1, 1) := by decide +kernel
theorem dX9_wrongDelays_66 : decode cX9_wrongDelays 66 = .ok (.imul, 1) := by decide +kernel
theorem dX9_wrongDelays_67 : decode cX9_wrongDelays 67 = .ok (.iload_n 2, 1) := by decide +kernel
theorem dX9_wrongDelays_68 : decode cX9_wrongDelays 68 = .ok (.iadd, 1) := by decide +kernel
theorem dX9_wrongDelays_69 : decode cX9_wrongDelays 69 = .ok (.laload, 1) := by decide +kernel
theorem dX9_wrongDelays_70 : decode cX9_wrongDelays 70 = .ok (.lconst 0, 1) := by decide +kernel
theorem dX9_wrongDelays_71 : decode cX9_wrongDelays 71 = .ok (.lcmp, 1) := by decide +kernel
theorem dX9_wrongDelays_72 : decode cX9_wrongDelays 72 = .ok (.ifCond .lt 21, 3) := by decide +kernel
theorem dX9_wrongDelays_75 : decode cX9_wrongDelays 75 = .ok (.aload_n 0, 1) := by decide +kernel
theorem dX9_wrongDelays_76 : decode cX9_wrongDelays 76 = .ok (.getfield 28, 3) := by decide +kernel
theorem dX9_wrongDelays_79 : decode cX9_wrongDelays 79 = .ok (.bipush 16, 2) := by decide +kernel
theorem dX9_wrongDelays_81 : decode cX9_wrongDelays 81 = .ok (.iload_n 1, 1) := by decide +kernel
theorem dX9_wrongDelays_82 : decode cX9_wrongDelays 82 = .ok (.imul, 1) := by decide +kernel
theorem dX9_wrongDelays_83 : decode cX9_wrongDelays 83 = .ok (.iload_n 2, 1) := by decide +kernel
theorem dX9_wrongDelays_84 : decode cX9_wrongDelays 84 = .ok (.iadd, 1) := by decide +kernel
theorem dX9_wrongDelays_85 : decode cX9_wrongDelays 85 = .ok (.laload, 1) := by decide +kernel
theorem dX9_wrongDelays_86 : decode cX9_wrongDelays 86 = .ok (.ldc2_w 248, 3) := by decide +kernel
theorem dX9_wrongDelays_89 : decode cX9_wrongDelays 89 = .ok (.lcmp, 1) := by decide +kernel
theorem dX9_wrongDelays_90 : decode cX9_wrongDelays 90 = .ok (.ifCond .le 5, 3) := by decide +kernel
theorem dX9_wrongDelays_93 : decode cX9_wrongDelays 93 = .ok (.iconst 1, 1) := by decide +kernel
theorem dX9_wrongDelays_94 : decode cX9_wrongDelays 94 = .ok (.ireturn, 1) := by decide +kernel
theorem dX9_wrongDelays_95 : decode cX9_wrongDelays 95 = .ok (.iinc 2 1, 3) := by decide +kernel
theorem dX9_wrongDelays_98 : decode cX9_wrongDelays 98 = .ok (.goto (-49), 3) := by decide +kernel
theorem dX9_wrongDelays_101 : decode cX9_wrongDelays 101 = .ok (.iconst 0, 1) := by decide +kernel
theorem dX9_wrongDelays_102 : decode cX9_wrongDelays 102 = .ok (.ireturn, 1) := by decide +kernel
theorem dX9_delay_0 : decode cX9_delay 0 = .ok (.aload_n 0, 1) := by decide +kernel
theorem dX9_delay_1 : decode cX9_delay 1 = .ok (.getfield 28, 3) := by decide +kernel
theorem dX9_delay_4 : decode cX9_delay 4 = .ok (.bipush 16, 2) := by decide +kernel
theorem dX9_delay_6 : decode cX9_delay 6 = .ok (.iload_n 1, 1) := by decide +kernel
theorem dX9_delay_7 : decode cX9_delay 7 = .ok (.imul, 1) := by decide +kernel
theorem dX9_delay_8 : decode cX9_delay 8 = .ok (.iload_n 2, 1) := by decide +kernel
theorem dX9_delay_9 : decode cX9_delay 9 = .ok (.iadd, 1) := by decide +kernel
theorem dX9_delay_10 : decode cX9_delay 10 = .ok (.laload, 1) := by decide +kernel
theorem dX9_delay_11 : decode cX9_delay 11 = .ok (.l2i, 1) := by decide +kernel
theorem dX9_delay_12 : decode cX9_delay 12 = .ok (.ireturn, 1) := by decide +kernel
theorem dX9_writes_0 : decode cX9_writes 0 = .ok (.aload_n 0, 1) := by decide +kernel
theorem dX9_writes_1 : decode cX9_writes 1 = .ok (.iload_n 1, 1) := by decide +kernel
theorem dX9_writes_2 : decode cX9_writes 2 = .ok (.invokevirtual 250, 3) := by decide +kernel
theorem dX9_writes_5 : decode cX9_writes 5 = .ok (.istore_n 2, 1) := by decide +kernel
theorem dX9_writes_6 : decode cX9_writes 6 = .ok (.iload_n 2, 1) := by decide +kernel
theorem dX9_writes_7 : decode cX9_writes 7 = .ok (.ifCond .ne 15, 3) := by decide +kernel
theorem dX9_writes_10 : decode cX9_writes 10 = .ok (.aload_n 0, 1) := by decide +kernel
theorem dX9_writes_11 : decode cX9_writes 11 = .ok (.getfield 236, 3) := by decide +kernel
theorem dX9_writes_14 : decode cX9_writes 14 = .ok (.bipush 40, 2) := by decide +kernel
theorem dX9_writes_16 : decode cX9_writes 16 = .ok (.if_icmp .ne 6, 3) := by decide +kernel
theorem dX9_writes_19 : decode cX9_writes 19 = .ok (.bipush 6, 2) := by decide +kernel
theorem dX9_writes_21 : decode cX9_writes 21 = .ok (.istore_n 2, 1) := by decide +kernel
theorem dX9_writes_22 : decode cX9_writes 22 = .ok (.iload_n 2, 1) := by decide +kernel
theorem dX9_writes_23 : decode cX9_writes 23 = .ok (.ifCond .le 9, 3) := by decide +kernel
theorem dX9_writes_26 : decode cX9_writes 26 = .ok (.aload_n 0, 1) := by decide +kernel
theorem dX9_writes_27 : decode cX9_writes 27 = .ok (.iload_n 2, 1) := by decide +kernel
theorem dX9_writes_28 : decode cX9_writes 28 = .ok (.invokevirtual 154, 3) := by decide +kernel
theorem dX9_writes_31 : decode cX9_writes 31 = .ok (.ireturn, 1) := by decide +kernel
theorem dX9_writes_32 : decode cX9_writes 32 = .ok (.aload_n 0, 1) := by decide +kernel
theorem dX9_writes_33 : decode cX9_writes 33 = .ok (.dup, 1) := by decide +kernel
theorem dX9_writes_34 : decode cX9_writes 34 = .ok (.getfield 236, 3) := by decide +kernel
theorem dX9_writes_37 : decode cX9_writes 37 = .ok (.iconst 1, 1) := by decide +kernel
theorem dX9_writes_38 : decode cX9_writes 38 = .ok (.iadd, 1) := by decide +kernel
theorem dX9_writes_39 : decode cX9_writes 39 = .ok (.putfield 236, 3) := by decide +kernel
theorem dX9_writes_42 : decode cX9_writes 42 = .ok (.aload_n 0, 1) := by decide +kernel
theorem dX9_writes_43 : decode cX9_writes 43 = .ok (.getfield 115, 3) := by decide +kernel
theorem dX9_writes_46 : decode cX9_writes 46 = .ok (.aload_n 0, 1) := by decide +kernel
theorem dX9_writes_47 : decode cX9_writes 47 = .ok (.getfield 236, 3) := by decide +kernel
theorem dX9_writes_50 : decode cX9_writes 50 = .ok (.iconst 0, 1) := by decide +kernel
theorem dX9_writes_51 : decode cX9_writes 51 = .ok (.iastore, 1) := by decide +kernel
theorem dX9_writes_52 : decode cX9_writes 52 = .ok (.aload_n 0, 1) := by decide +kernel
theorem dX9_writes_53 : decode cX9_writes 53 = .ok (.getfield 118, 3) := by decide +kernel
theorem dX9_writes_56 : decode cX9_writes 56 = .ok (.aload_n 0, 1) := by decide +kernel
theorem dX9_writes_57 : decode cX9_writes 57 = .ok (.getfield 236, 3) := by decide +kernel
theorem dX9_writes_60 : decode cX9_writes 60 = .ok (.iconst (-1), 1) := by decide +kernel
theorem dX9_writes_61 : decode cX9_writes 61 = .ok (.iastore, 1) := by decide +kernel
theorem dX9_writes_62 : decode cX9_writes 62 = .ok (.iconst 0, 1) := by decide +kernel
theorem dX9_writes_63 : decode cX9_writes 63 = .ok (.istore_n 3, 1) := by decide +kernel
theorem dX9_writes_64 : decode cX9_writes 64 = .ok (.iload_n 3, 1) := by decide +kernel
theorem dX9_writes_65 : decode cX9_writes 65 = .ok (.aload_n 0, 1) := by decide +kernel
theorem dX9_writes_66 : decode cX9_writes 66 = .ok (.getfield 215, 3) := by decide +kernel
theorem dX9_writes_69 : decode cX9_writes 69 = .ok (.if_icmp .ge 40, 3) := by decide +kernel
theorem dX9_writes_72 : decode cX9_writes 72 = .ok (.aload_n 0, 1) := by decide +kernel
theorem dX9_writes_73 : decode cX9_writes 73 = .ok (.aload_n 0, 1) := by decide +kernel
theorem dX9_writes_74 : decode cX9_writes 74 = .ok (.iload_n 1, 1) := by decide +kernel
theorem dX9_writes_75 : decode cX9_writes 75 = .ok (.iload_n 3, 1) := by decide +kernel
theorem dX9_writes_76 : decode cX9_writes 76 = .ok (.invokevirtual 253, 3) := by decide +kernel
theorem dX9_writes_79 : decode cX9_writes 79 = .ok (.iconst 0, 1) := by decide +kernel
theorem dX9_writes_80 : decode cX9_writes 80 = .ok (.aload_n 0, 1) := by decide +kernel
theorem dX9_writes_81 : decode cX9_writes 81 = .ok (.getfield 236, 3) := by decide +kernel
theorem dX9_writes_84 : decode cX9_writes 84 = .ok (.iload_n 3, 1) := by decide +kernel
theorem dX9_writes_85 : decode cX9_writes 85 = .ok (.aload_n 0, 1) := by decide +kernel
theorem dX9_writes_86 : decode cX9_writes 86 = .ok (.getfield 236, 3) := by decide +kernel
theorem dX9_writes_89 : decode cX9_writes 89 = .ok (.aload_n 0, 1) := by decide +kernel
theorem dX9_writes_90 : decode cX9_writes 90 = .ok (.iload_n 1, 1) := by decide +kernel
theorem dX9_writes_91 : decode cX9_writes 91 = .ok (.aload_n 0, 1) := by decide +kernel
theorem dX9_writes_92 : decode cX9_writes 92 = .ok (.getfield 215, 3) := by decide +kernel
theorem dX9_writes_95 : decode cX9_writes 95 = .ok (.iload_n 3, 1) := by decide +kernel
theorem dX9_writes_96 : decode cX9_writes 96 = .ok (.iadd, 1) := by decide +kernel
theorem dX9_writes_97 : decode cX9_writes 97 = .ok (.invokevirtual 253, 3) := by decide +kernel
theorem dX9_writes_100 : decode cX9_writes 100 = .ok (.invokevirtual 256, 3) := by decide +kernel
theorem dX9_writes_103 : decode cX9_writes 103 = .ok (.iinc 3 1, 3) := by decide +kernel
theorem dX9_writes_106 : decode cX9_writes 106 = .ok (.goto (-42), 3) := by decide +kernel
theorem dX9_writes_109 : decode cX9_writes 109 = .ok (.aload_n 0, 1) := by decide +kernel
theorem dX9_writes_110 : decode cX9_writes 110 = .ok (.invokevirtual 260, 3) := by decide +kernel
theorem dX9_writes_113 : decode cX9_writes 113 = .ok (.aload_n 0, 1) := by decide +kernel
theorem dX9_writes_114 : decode cX9_writes 114 = .ok (.iconst 0, 1) := by decide +kernel
theorem dX9_writes_115 : decode cX9_writes 115 = .ok (.putfield 1, 3) := by decide +kernel
theorem dX9_writes_118 : decode cX9_writes 118 = .ok (.aload_n 0, 1) := by decide +kernel
theorem dX9_writes_119 : decode cX9_writes 119 = .ok (.getfield 236, 3) := by decide +kernel
theorem dX9_writes_122 : decode cX9_writes 122 = .ok (.ireturn, 1) := by decide +kernel
theorem dX9_reads_0 : decode cX9_reads 0 = .ok (.iload_n 2, 1) := by decide +kernel
theorem dX9_reads_1 : decode cX9_reads 1 = .ok (.invokestatic 245, 3) := by decide +kernel
theorem dX9_reads_4 : decode cX9_reads 4 = .ok (.ifCond .ne 7, 3) := by decide +kernel
theorem dX9_reads_7 : decode cX9_reads 7 = .ok (.iconst 1, 1) := by decide +kernel
theorem dX9_reads_8 : decode cX9_reads 8 = .ok (.goto 8, 3) := by decide +kernel
theorem dX9_reads_11 : decode cX9_reads 11 = .ok (.aload_n 0, 1) := by decide +kernel
theorem dX9_reads_12 : decode cX9_reads 12 = .ok (.iload_n 1, 1) := by decide +kernel
theorem dX9_reads_13 : decode cX9_reads 13 = .ok (.invokevirtual 250, 3) := by decide +kernel
theorem dX9_reads_16 : decode cX9_reads 16 = .ok (.istore_n 3, 1) := by decide +kernel
theorem dX9_reads_17 : decode cX9_reads 17 = .ok (.iload_n 3, 1) := by decide +kernel
theorem dX9_reads_18 : decode cX9_reads 18 = .ok (.ifCond .ne 15, 3) := by decide +kernel
theorem dX9_reads_21 : decode cX9_reads 21 = .ok (.aload_n 0, 1) := by decide +kernel
theorem dX9_reads_22 : decode cX9_reads 22 = .ok (.getfield 239, 3) := by decide +kernel
theorem dX9_reads_25 : decode cX9_reads 25 = .ok (.bipush 40, 2) := by decide +kernel
theorem dX9_reads_27 : decode cX9_reads 27 = .ok (.if_icmp .ne 6, 3) := by decide +kernel
theorem dX9_reads_30 : decode cX9_reads 30 = .ok (.bipush 6, 2) := by decide +kernel
theorem dX9_reads_32 : decode cX9_reads 32 = .ok (.istore_n 3, 1) := by decide +kernel
theorem dX9_reads_33 : decode cX9_reads 33 = .ok (.iload_n 3, 1) := by decide +kernel
theorem dX9_reads_34 : decode cX9_reads 34 = .ok (.ifCond .le 9, 3) := by decide +kernel
theorem dX9_reads_37 : decode cX9_reads 37 = .ok (.aload_n 0, 1) := by decide +kernel
theorem dX9_reads_38 : decode cX9_reads 38 = .ok (.iload_n 3, 1) := by decide +kernel
theorem dX9_reads_39 : decode cX9_reads 39 = .ok (.invokevirtual 154, 3) := by decide +kernel
theorem dX9_reads_42 : decode cX9_reads 42 = .ok (.ireturn, 1) := by decide +kernel
theorem dX9_reads_43 : decode cX9_reads 43 = .ok (.aload_n 0, 1) := by decide +kernel
theorem dX9_reads_44 : decode cX9_reads 44 = .ok (.getfield 239, 3) := by decide +kernel
theorem dX9_reads_47 : decode cX9_reads 47 = .ok (.istore 4, 2) := by decide +kernel
theorem dX9_reads_49 : decode cX9_reads 49 = .ok (.aload_n 0, 1) := by decide +kernel
theorem dX9_reads_50 : decode cX9_reads 50 = .ok (.dup, 1) := by decide +kernel
theorem dX9_reads_51 : decode cX9_reads 51 = .ok (.getfield 239, 3) := by decide +kernel
theorem dX9_reads_54 : decode cX9_reads 54 = .ok (.iconst 1, 1) := by decide +kernel
theorem dX9_reads_55 : decode cX9_reads 55 = .ok (.iadd, 1) := by decide +kernel
theorem dX9_reads_56 : decode cX9_reads 56 = .ok (.putfield 239, 3) := by decide +kernel
theorem dX9_reads_59 : decode cX9_reads 59 = .ok (.aload_n 0, 1) := by decide +kernel
theorem dX9_reads_60 : decode cX9_reads 60 = .ok (.getfield 121, 3) := by decide +kernel
theorem dX9_reads_63 : decode cX9_reads 63 = .ok (.iload 4, 2) := by decide +kernel
theorem dX9_reads_65 : decode cX9_reads 65 = .ok (.aload_n 0, 1) := by decide +kernel
theorem dX9_reads_66 : decode cX9_reads 66 = .ok (.getfield 224, 3) := by decide +kernel
theorem dX9_reads_69 : decode cX9_reads 69 = .ok (.iastore, 1) := by decide +kernel
theorem dX9_reads_70 : decode cX9_reads 70 = .ok (.aload_n 0, 1) := by decide +kernel
theorem dX9_reads_71 : decode cX9_reads 71 = .ok (.getfield 124, 3) := by decide +kernel
theorem dX9_reads_74 : decode cX9_reads 74 = .ok (.iload 4, 2) := by decide +kernel
theorem dX9_reads_76 : decode cX9_reads 76 = .ok (.iload_n 2, 1) := by decide +kernel
theorem dX9_reads_77 : decode cX9_reads 77 = .ok (.iastore, 1) := by decide +kernel
theorem dX9_reads_78 : decode cX9_reads 78 = .ok (.aload_n 0, 1) := by decide +kernel
theorem dX9_reads_79 : decode cX9_reads 79 = .ok (.getfield 127, 3) := by decide +kernel
theorem dX9_reads_82 : decode cX9_reads 82 = .ok (.iload 4, 2) := by decide +kernel
theorem dX9_reads_84 : decode cX9_reads 84 = .ok (.iconst 0, 1) := by decide +kernel
theorem dX9_reads_85 : decode cX9_reads 85 = .ok (.iastore, 1) := by decide +kernel
theorem dX9_reads_86 : decode cX9_reads 86 = .ok (.aload_n 0, 1) := by decide +kernel
theorem dX9_reads_87 : decode cX9_reads 87 = .ok (.getfield 130, 3) := by decide +kernel
theorem dX9_reads_90 : decode cX9_reads 90 = .ok (.iload 4, 2) := by decide +kernel
theorem dX9_reads_92 : decode cX9_reads 92 = .ok (.iconst (-1), 1) := by decide +kernel
theorem dX9_reads_93 : decode cX9_reads 93 = .ok (.iastore, 1) := by decide +kernel
theorem dX9_reads_94 : decode cX9_reads 94 = .ok (.iconst 0, 1) := by decide +kernel
theorem dX9_reads_95 : decode cX9_reads 95 = .ok (.istore 5, 2) := by decide +kernel
theorem dX9_reads_97 : decode cX9_reads 97 = .ok (.iload 5, 2) := by decide +kernel
theorem dX9_reads_99 : decode cX9_reads 99 = .ok (.aload_n 0, 1) := by decide +kernel
theorem dX9_reads_100 : decode cX9_reads 100 = .ok (.getfield 215, 3) := by decide +kernel
theorem dX9_reads_103 : decode cX9_reads 103 = .ok (.if_icmp .ge 38, 3) := by decide +kernel
theorem dX9_reads_106 : decode cX9_reads 106 = .ok (.aload_n 0, 1) := by decide +kernel
theorem dX9_reads_107 : decode cX9_reads 107 = .ok (.aload_n 0, 1) := by decide +kernel
theorem dX9_reads_108 : decode cX9_reads 108 = .ok (.iload_n 1, 1) := by decide +kernel
theorem dX9_reads_109 : decode cX9_reads 109 = .ok (.iload 5, 2) := by decide +kernel
theorem dX9_reads_111 : decode cX9_reads 111 = .ok (.invokevirtual 253, 3) := by decide +kernel
theorem dX9_reads_114 : decode cX9_reads 114 = .ok (.iconst 2, 1) := by decide +kernel
theorem dX9_reads_115 : decode cX9_reads 115 = .ok (.iload 4, 2) := by decide +kernel
theorem dX9_reads_117 : decode cX9_reads 117 = .ok (.iload 5, 2) := by decide +kernel
theorem dX9_reads_119 : decode cX9_reads 119 = .ok (.iconst 0, 1) := by decide +kernel
theorem dX9_reads_120 : decode cX9_reads 120 = .ok (.aload_n 0, 1) := by decide +kernel
theorem dX9_reads_121 : decode cX9_reads 121 = .ok (.iload_n 1, 1) := by decide +kernel
theorem dX9_reads_122 : decode cX9_reads 122 = .ok (.aload_n 0, 1) := by decide +kernel
theorem dX9_reads_123 : decode cX9_reads 123 = .ok (.getfield 215, 3) := by decide +kernel
theorem dX9_reads_126 : decode cX9_reads 126 = .ok (.iload 5, 2) := by decide +kernel
theorem dX9_reads_128 : decode cX9_reads 128 = .ok (.iadd, 1) := by decide +kernel
theorem dX9_reads_129 : decode cX9_reads 129 = .ok (.invokevirtual 253, 3) := by decide +kernel
theorem dX9_reads_132 : decode cX9_reads 132 = .ok (.invokevirtual 256, 3) := by decide +kernel
theorem dX9_reads_135 : decode cX9_reads 135 = .ok (.iinc 5 1, 3) := by decide +kernel
theorem dX9_reads_138 : decode cX9_reads 138 = .ok (.goto (-41), 3) := by decide +kernel
theorem dX9_reads_141 : decode cX9_reads 141 = .ok (.aload_n 0, 1) := by decide +kernel
theorem dX9_reads_142 : decode cX9_reads 142 = .ok (.invokevirtual 260, 3) := by decide +kernel
theorem dX9_reads_145 : decode cX9_reads 145 = .ok (.aload_n 0, 1) := by decide +kernel
theorem dX9_reads_146 : decode cX9_reads 146 = .ok (.iconst 0, 1) := by decide +kernel
theorem dX9_reads_147 : decode cX9_reads 147 = .ok (.putfield 1, 3) := by decide +kernel
theorem dX9_reads_150 : decode cX9_reads 150 = .ok (.iload 4, 2) := by decide +kernel
theorem dX9_reads_152 : decode cX9_reads 152 = .ok (.ireturn, 1) := by decide +kernel
theorem dX9_due_0 : decode cX9_due 0 = .ok (.iconst (-1), 1) := by decide +kernel
theorem dX9_due_1 : decode cX9_due 1 = .ok (.istore_n 1, 1) := by decide +kernel
theorem dX9_due_2 : decode cX9_due 2 = .ok (.iconst 0, 1) := by decide +kernel
theorem dX9_due_3 : decode cX9_due 3 = .ok (.istore_n 2, 1) := by decide +kernel
theorem dX9_due_4 : decode cX9_due 4 = .ok (.iload_n 2, 1) := by decide +kernel
theorem dX9_due_5 : decode cX9_due 5 = .ok (.aload_n 0, 1) := by decide +kernel
theorem dX9_due_6 : decode cX9_due 6 = .ok (.getfield 242, 3) := by decide +kernel
theorem dX9_due_9 : decode cX9_due 9 = .ok (.if_icmp .ge 77, 3) := by decide +kernel
theorem dX9_due_12 : decode cX9_due 12 = .ok (.aload_n 0, 1) := by decide +kernel
theorem dX9_due_13 : decode cX9_due 13 = .ok (.getfield 94, 3) := by decide +kernel
theorem dX9_due_16 : decode cX9_due 16 = .ok (.iload_n 2, 1) := by decide +kernel
theorem dX9_due_17 : decode cX9_due 17 = .ok (.iaload, 1) := by decide +kernel
theorem dX9_due_18 : decode cX9_due 18 = .ok (.aload_n 0, 1) := by decide +kernel
theorem dX9_due_19 : decode cX9_due 19 = .ok (.getfield 224, 3) := by decide +kernel
theorem dX9_due_22 : decode cX9_due 22 = .ok (.if_icmp .le 6, 3) := by decide +kernel
theorem dX9_due_25 : decode cX9_due 25 = .ok (.goto 55, 3) := by decide +kernel
theorem dX9_due_28 : decode cX9_due 28 = .ok (.iload_n 1, 1) := by decide +kernel
theorem dX9_due_29 : decode cX9_due 29 = .ok (.iconst (-1), 1) := by decide +kernel
theorem dX9_due_30 : decode cX9_due 30 = .ok (.if_icmp .eq 48, 3) := by decide +kernel
theorem dX9_due_33 : decode cX9_due 33 = .ok (.aload_n 0, 1) := by decide +kernel
theorem dX9_due_34 : decode cX9_due 34 = .ok (.getfield 94, 3) := by decide +kernel
theorem dX9_due_37 : decode cX9_due 37 = .ok (.iload_n 2, 1) := by decide +kernel
theorem dX9_due_38 : decode cX9_due 38 = .ok (.iaload, 1) := by decide +kernel
theorem dX9_due_39 : decode cX9_due 39 = .ok (.aload_n 0, 1) := by decide +kernel
theorem dX9_due_40 : decode cX9_due 40 = .ok (.getfield 94, 3) := by decide +kernel
theorem dX9_due_43 : decode cX9_due 43 = .ok (.iload_n 1, 1) := by decide +kernel
theorem dX9_due_44 : decode cX9_due 44 = .ok (.iaload, 1) := by decide +kernel
theorem dX9_due_45 : decode cX9_due 45 = .ok (.if_icmp .lt 33, 3) := by decide +kernel
theorem dX9_due_48 : decode cX9_due 48 = .ok (.aload_n 0, 1) := by decide +kernel
theorem dX9_due_49 : decode cX9_due 49 = .ok (.getfield 94, 3) := by decide +kernel
theorem dX9_due_52 : decode cX9_due 52 = .ok (.iload_n 2, 1) := by decide +kernel
theorem dX9_due_53 : decode cX9_due 53 = .ok (.iaload, 1) := by decide +kernel
theorem dX9_due_54 : decode cX9_due 54 = .ok (.aload_n 0, 1) := by decide +kernel
theorem dX9_due_55 : decode cX9_due 55 = .ok (.getfield 94, 3) := by decide +kernel
theorem dX9_due_58 : decode cX9_due 58 = .ok (.iload_n 1, 1) := by decide +kernel
theorem dX9_due_59 : decode cX9_due 59 = .ok (.iaload, 1) := by decide +kernel
theorem dX9_due_60 : decode cX9_due 60 = .ok (.if_icmp .ne 20, 3) := by decide +kernel
theorem dX9_due_63 : decode cX9_due 63 = .ok (.aload_n 0, 1) := by decide +kernel
theorem dX9_due_64 : decode cX9_due 64 = .ok (.getfield 97, 3) := by decide +kernel
theorem dX9_due_67 : decode cX9_due 67 = .ok (.iload_n 2, 1) := by decide +kernel
theorem dX9_due_68 : decode cX9_due 68 = .ok (.iaload, 1) := by decide +kernel
theorem dX9_due_69 : decode cX9_due 69 = .ok (.aload_n 0, 1) := by decide +kernel
theorem dX9_due_70 : decode cX9_due 70 = .ok (.getfield 97, 3) := by decide +kernel
theorem dX9_due_73 : decode cX9_due 73 = .ok (.iload_n 1, 1) := by decide +kernel
theorem dX9_due_74 : decode cX9_due 74 = .ok (.iaload, 1) := by decide +kernel
theorem dX9_due_75 : decode cX9_due 75 = .ok (.if_icmp .ge 5, 3) := by decide +kernel
theorem dX9_due_78 : decode cX9_due 78 = .ok (.iload_n 2, 1) := by decide +kernel
theorem dX9_due_79 : decode cX9_due 79 = .ok (.istore_n 1, 1) := by decide +kernel
theorem dX9_due_80 : decode cX9_due 80 = .ok (.iinc 2 1, 3) := by decide +kernel
theorem dX9_due_83 : decode cX9_due 83 = .ok (.goto (-79), 3) := by decide +kernel
theorem dX9_due_86 : decode cX9_due 86 = .ok (.iload_n 1, 1) := by decide +kernel
theorem dX9_due_87 : decode cX9_due 87 = .ok (.ireturn, 1) := by decide +kernel
theorem dX9_workOff_0 : decode cX9_workOff 0 = .ok (.aload_n 0, 1) := by decide +kernel
theorem dX9_workOff_1 : decode cX9_workOff 1 = .ok (.invokevirtual 263, 3) := by decide +kernel
theorem dX9_workOff_4 : decode cX9_workOff 4 = .ok (.istore_n 1, 1) := by decide +kernel
theorem dX9_workOff_5 : decode cX9_workOff 5 = .ok (.iload_n 1, 1) := by decide +kernel
theorem dX9_workOff_6 : decode cX9_workOff 6 = .ok (.iconst (-1), 1) := by decide +kernel
theorem dX9_workOff_7 : decode cX9_workOff 7 = .ok (.if_icmp .eq 176, 3) := by decide +kernel
theorem dX9_workOff_10 : decode cX9_workOff 10 = .ok (.aload_n 0, 1) := by decide +kernel
theorem dX9_workOff_11 : decode cX9_workOff 11 = .ok (.getfield 100, 3) := by decide +kernel
theorem dX9_workOff_14 : decode cX9_workOff 14 = .ok (.iload_n 1, 1) := by decide +kernel
theorem dX9_workOff_15 : decode cX9_workOff 15 = .ok (.iaload, 1) := by decide +kernel
theorem dX9_workOff_16 : decode cX9_workOff 16 = .ok (.istore_n 2, 1) := by decide +kernel
theorem dX9_workOff_17 : decode cX9_workOff 17 = .ok (.aload_n 0, 1) := by decide +kernel
theorem dX9_workOff_18 : decode cX9_workOff 18 = .ok (.getfield 103, 3) := by decide +kernel
theorem dX9_workOff_21 : decode cX9_workOff 21 = .ok (.iload_n 1, 1) := by decide +kernel
theorem dX9_workOff_22 : decode cX9_workOff 22 = .ok (.iaload, 1) := by decide +kernel
theorem dX9_workOff_23 : decode cX9_workOff 23 = .ok (.istore_n 3, 1) := by decide +kernel
theorem dX9_workOff_24 : decode cX9_workOff 24 = .ok (.aload_n 0, 1) := by decide +kernel
theorem dX9_workOff_25 : decode cX9_workOff 25 = .ok (.getfield 106, 3) := by decide +kernel
theorem dX9_workOff_28 : decode cX9_workOff 28 = .ok (.iload_n 1, 1) := by decide +kernel
theorem dX9_workOff_29 : decode cX9_workOff 29 = .ok (.iaload, 1) := by decide +kernel
theorem dX9_workOff_30 : decode cX9_workOff 30 = .ok (.istore 4, 2) := by decide +kernel
theorem dX9_workOff_32 : decode cX9_workOff 32 = .ok (.aload_n 0, 1) := by decide +kernel
theorem dX9_workOff_33 : decode cX9_workOff 33 = .ok (.getfield 109, 3) := by decide +kernel
theorem dX9_workOff_36 : decode cX9_workOff 36 = .ok (.iload_n 1, 1) := by decide +kernel
theorem dX9_workOff_37 : decode cX9_workOff 37 = .ok (.iaload, 1) := by decide +kernel
theorem dX9_workOff_38 : decode cX9_workOff 38 = .ok (.istore 5, 2) := by decide +kernel
theorem dX9_workOff_40 : decode cX9_workOff 40 = .ok (.aload_n 0, 1) := by decide +kernel
theorem dX9_workOff_41 : decode cX9_workOff 41 = .ok (.getfield 112, 3) := by decide +kernel
theorem dX9_workOff_44 : decode cX9_workOff 44 = .ok (.iload_n 1, 1) := by decide +kernel
theorem dX9_workOff_45 : decode cX9_workOff 45 = .ok (.iaload, 1) := by decide +kernel
theorem dX9_workOff_46 : decode cX9_workOff 46 = .ok (.istore 6, 2) := by decide +kernel
theorem dX9_workOff_48 : decode cX9_workOff 48 = .ok (.aload_n 0, 1) := by decide +kernel
theorem dX9_workOff_49 : decode cX9_workOff 49 = .ok (.dup, 1) := by decide +kernel
theorem dX9_workOff_50 : decode cX9_workOff 50 = .ok (.getfield 242, 3) := by decide +kernel
theorem dX9_workOff_53 : decode cX9_workOff 53 = .ok (.iconst 1, 1) := by decide +kernel
theorem dX9_workOff_54 : decode cX9_workOff 54 = .ok (.isub, 1) := by decide +kernel
theorem dX9_workOff_55 : decode cX9_workOff 55 = .ok (.putfield 242, 3) := by decide +kernel
theorem dX9_workOff_58 : decode cX9_workOff 58 = .ok (.aload_n 0, 1) := by decide +kernel
theorem dX9_workOff_59 : decode cX9_workOff 59 = .ok (.getfield 94, 3) := by decide +kernel
theorem dX9_workOff_62 : decode cX9_workOff 62 = .ok (.iload_n 1, 1) := by decide +kernel
theorem dX9_workOff_63 : decode cX9_workOff 63 = .ok (.aload_n 0, 1) := by decide +kernel
theorem dX9_workOff_64 : decode cX9_workOff 64 = .ok (.getfield 94, 3) := by decide +kernel
theorem dX9_workOff_67 : decode cX9_workOff 67 = .ok (.aload_n 0, 1) := by decide +kernel
theorem dX9_workOff_68 : decode cX9_workOff 68 = .ok (.getfield 242, 3) := by decide +kernel
theorem dX9_workOff_71 : decode cX9_workOff 71 = .ok (.iaload, 1) := by decide +kernel
theorem dX9_workOff_72 : decode cX9_workOff 72 = .ok (.iastore, 1) := by decide +kernel
theorem dX9_workOff_73 : decode cX9_workOff 73 = .ok (.aload_n 0, 1) := by decide +kernel
theorem dX9_workOff_74 : decode cX9_workOff 74 = .ok (.getfield 97, 3) := by decide +kernel
theorem dX9_workOff_77 : decode cX9_workOff 77 = .ok (.iload_n 1, 1) := by decide +kernel
theorem dX9_workOff_78 : decode cX9_workOff 78 = .ok (.aload_n 0, 1) := by decide +kernel
theorem dX9_workOff_79 : decode cX9_workOff 79 = .ok (.getfield 97, 3) := by decide +kernel
theorem dX9_workOff_82 : decode cX9_workOff 82 = .ok (.aload_n 0, 1) := by decide +kernel
theorem dX9_workOff_83 : decode cX9_workOff 83 = .ok (.getfield 242, 3) := by decide +kernel
theorem dX9_workOff_86 : decode cX9_workOff 86 = .ok (.iaload, 1) := by decide +kernel
theorem dX9_workOff_87 : decode cX9_workOff 87 = .ok (.iastore, 1) := by decide +kernel
theorem dX9_workOff_88 : decode cX9_workOff 88 = .ok (.aload_n 0, 1) := by decide +kernel
theorem dX9_workOff_89 : decode cX9_workOff 89 = .ok (.getfield 100, 3) := by decide +kernel
theorem dX9_workOff_92 : decode cX9_workOff 92 = .ok (.iload_n 1, 1) := by decide +kernel
theorem dX9_workOff_93 : decode cX9_workOff 93 = .ok (.aload_n 0, 1) := by decide +kernel
theorem dX9_workOff_94 : decode cX9_workOff 94 = .ok (.getfield 100, 3) := by decide +kernel
theorem dX9_workOff_97 : decode cX9_workOff 97 = .ok (.aload_n 0, 1) := by decide +kernel
theorem dX9_workOff_98 : decode cX9_workOff 98 = .ok (.getfield 242, 3) := by decide +kernel
theorem dX9_workOff_101 : decode cX9_workOff 101 = .ok (.iaload, 1) := by decide +kernel
theorem dX9_workOff_102 : decode cX9_workOff 102 = .ok (.iastore, 1) := by decide +kernel
theorem dX9_workOff_103 : decode cX9_workOff 103 = .ok (.aload_n 0, 1) := by decide +kernel
theorem dX9_workOff_104 : decode cX9_workOff 104 = .ok (.getfield 103, 3) := by decide +kernel
theorem dX9_workOff_107 : decode cX9_workOff 107 = .ok (.iload_n 1, 1) := by decide +kernel
theorem dX9_workOff_108 : decode cX9_workOff 108 = .ok (.aload_n 0, 1) := by decide +kernel
theorem dX9_workOff_109 : decode cX9_workOff 109 = .ok (.getfield 103, 3) := by decide +kernel
theorem dX9_workOff_112 : decode cX9_workOff 112 = .ok (.aload_n 0, 1) := by decide +kernel
theorem dX9_workOff_113 : decode cX9_workOff 113 = .ok (.getfield 242, 3) := by decide +kernel
theorem dX9_workOff_116 : decode cX9_workOff 116 = .ok (.iaload, 1) := by decide +kernel
theorem dX9_workOff_117 : decode cX9_workOff 117 = .ok (.iastore, 1) := by decide +kernel
theorem dX9_workOff_118 : decode cX9_workOff 118 = .ok (.aload_n 0, 1) := by decide +kernel
theorem dX9_workOff_119 : decode cX9_workOff 119 = .ok (.getfield 106, 3) := by decide +kernel
theorem dX9_workOff_122 : decode cX9_workOff 122 = .ok (.iload_n 1, 1) := by decide +kernel
theorem dX9_workOff_123 : decode cX9_workOff 123 = .ok (.aload_n 0, 1) := by decide +kernel
theorem dX9_workOff_124 : decode cX9_workOff 124 = .ok (.getfield 106, 3) := by decide +kernel
theorem dX9_workOff_127 : decode cX9_workOff 127 = .ok (.aload_n 0, 1) := by decide +kernel
theorem dX9_workOff_128 : decode cX9_workOff 128 = .ok (.getfield 242, 3) := by decide +kernel
theorem dX9_workOff_131 : decode cX9_workOff 131 = .ok (.iaload, 1) := by decide +kernel
theorem dX9_workOff_132 : decode cX9_workOff 132 = .ok (.iastore, 1) := by decide +kernel
theorem dX9_workOff_133 : decode cX9_workOff 133 = .ok (.aload_n 0, 1) := by decide +kernel
theorem dX9_workOff_134 : decode cX9_workOff 134 = .ok (.getfield 109, 3) := by decide +kernel
theorem dX9_workOff_137 : decode cX9_workOff 137 = .ok (.iload_n 1, 1) := by decide +kernel
theorem dX9_workOff_138 : decode cX9_workOff 138 = .ok (.aload_n 0, 1) := by decide +kernel
theorem dX9_workOff_139 : decode cX9_workOff 139 = .ok (.getfield 109, 3) := by decide +kernel
theorem dX9_workOff_142 : decode cX9_workOff 142 = .ok (.aload_n 0, 1) := by decide +kernel
theorem dX9_workOff_143 : decode cX9_workOff 143 = .ok (.getfield 242, 3) := by decide +kernel
theorem dX9_workOff_146 : decode cX9_workOff 146 = .ok (.iaload, 1) := by decide +kernel
theorem dX9_workOff_147 : decode cX9_workOff 147 = .ok (.iastore, 1) := by decide +kernel
theorem dX9_workOff_148 : decode cX9_workOff 148 = .ok (.aload_n 0, 1) := by decide +kernel
theorem dX9_workOff_149 : decode cX9_workOff 149 = .ok (.getfield 112, 3) := by decide +kernel
theorem dX9_workOff_152 : decode cX9_workOff 152 = .ok (.iload_n 1, 1) := by decide +kernel
theorem dX9_workOff_153 : decode cX9_workOff 153 = .ok (.aload_n 0, 1) := by decide +kernel
theorem dX9_workOff_154 : decode cX9_workOff 154 = .ok (.getfield 112, 3) := by decide +kernel
theorem dX9_workOff_157 : decode cX9_workOff 157 = .ok (.aload_n 0, 1) := by decide +kernel
theorem dX9_workOff_158 : decode cX9_workOff 158 = .ok (.getfield 242, 3) := by decide +kernel
theorem dX9_workOff_161 : decode cX9_workOff 161 = .ok (.iaload, 1) := by decide +kernel
theorem dX9_workOff_162 : decode cX9_workOff 162 = .ok (.iastore, 1) := by decide +kernel
theorem dX9_workOff_163 : decode cX9_workOff 163 = .ok (.aload_n 0, 1) := by decide +kernel
theorem dX9_workOff_164 : decode cX9_workOff 164 = .ok (.iload_n 2, 1) := by decide +kernel
theorem dX9_workOff_165 : decode cX9_workOff 165 = .ok (.iload_n 3, 1) := by decide +kernel
theorem dX9_workOff_166 : decode cX9_workOff 166 = .ok (.iload 4, 2) := by decide +kernel
theorem dX9_workOff_168 : decode cX9_workOff 168 = .ok (.iload 5, 2) := by decide +kernel
theorem dX9_workOff_170 : decode cX9_workOff 170 = .ok (.iload 6, 2) := by decide +kernel
theorem dX9_workOff_172 : decode cX9_workOff 172 = .ok (.invokevirtual 267, 3) := by decide +kernel
theorem dX9_workOff_175 : decode cX9_workOff 175 = .ok (.aload_n 0, 1) := by decide +kernel
theorem dX9_workOff_176 : decode cX9_workOff 176 = .ok (.invokevirtual 263, 3) := by decide +kernel
theorem dX9_workOff_179 : decode cX9_workOff 179 = .ok (.istore_n 1, 1) := by decide +kernel
theorem dX9_workOff_180 : decode cX9_workOff 180 = .ok (.goto (-175), 3) := by decide +kernel
theorem dX9_workOff_183 : decode cX9_workOff 183 = .ok (.return_, 1) := by decide +kernel
theorem dX9_comes_0 : decode cX9_comes 0 = .ok (.iload_n 1, 1) := by decide +kernel
theorem dX9_comes_1 : decode cX9_comes 1 = .ok (.tableswitch 153 0 4 #[35, 89, 125, 153, 35], 35) := by decide +kernel
theorem dX9_comes_36 : decode cX9_comes 36 = .ok (.aload_n 0, 1) := by decide +kernel
theorem dX9_comes_37 : decode cX9_comes 37 = .ok (.getfield 84, 3) := by decide +kernel
theorem dX9_comes_40 : decode cX9_comes 40 = .ok (.iload_n 3, 1) := by decide +kernel
theorem dX9_comes_41 : decode cX9_comes 41 = .ok (.baload, 1) := by decide +kernel
theorem dX9_comes_42 : decode cX9_comes 42 = .ok (.ifCond .eq 38, 3) := by decide +kernel
theorem dX9_comes_45 : decode cX9_comes 45 = .ok (.aload_n 0, 1) := by decide +kernel
theorem dX9_comes_46 : decode cX9_comes 46 = .ok (.getfield 78, 3) := by decide +kernel
theorem dX9_comes_49 : decode cX9_comes 49 = .ok (.iload_n 3, 1) := by decide +kernel
theorem dX9_comes_50 : decode cX9_comes 50 = .ok (.aload_n 0, 1) := by decide +kernel
theorem dX9_comes_51 : decode cX9_comes 51 = .ok (.getfield 78, 3) := by decide +kernel
theorem dX9_comes_54 : decode cX9_comes 54 = .ok (.iload_n 3, 1) := by decide +kernel
theorem dX9_comes_55 : decode cX9_comes 55 = .ok (.iaload, 1) := by decide +kernel
theorem dX9_comes_56 : decode cX9_comes 56 = .ok (.iload 4, 2) := by decide +kernel
theorem dX9_comes_58 : decode cX9_comes 58 = .ok (.invokestatic 270, 3) := by decide +kernel
theorem dX9_comes_61 : decode cX9_comes 61 = .ok (.iastore, 1) := by decide +kernel
theorem dX9_comes_62 : decode cX9_comes 62 = .ok (.iload_n 1, 1) := by decide +kernel
theorem dX9_comes_63 : decode cX9_comes 63 = .ok (.ifCond .ne 112, 3) := by decide +kernel
theorem dX9_comes_66 : decode cX9_comes 66 = .ok (.aload_n 0, 1) := by decide +kernel
theorem dX9_comes_67 : decode cX9_comes 67 = .ok (.iload 5, 2) := by decide +kernel
theorem dX9_comes_69 : decode cX9_comes 69 = .ok (.iconst 1, 1) := by decide +kernel
theorem dX9_comes_70 : decode cX9_comes 70 = .ok (.iload_n 2, 1) := by decide +kernel
theorem dX9_comes_71 : decode cX9_comes 71 = .ok (.iload_n 3, 1) := by decide +kernel
theorem dX9_comes_72 : decode cX9_comes 72 = .ok (.iconst 0, 1) := by decide +kernel
theorem dX9_comes_73 : decode cX9_comes 73 = .ok (.iconst 0, 1) := by decide +kernel
theorem dX9_comes_74 : decode cX9_comes 74 = .ok (.invokevirtual 256, 3) := by decide +kernel
theorem dX9_comes_77 : decode cX9_comes 77 = .ok (.goto 98, 3) := by decide +kernel
theorem dX9_comes_80 : decode cX9_comes 80 = .ok (.aload_n 0, 1) := by decide +kernel
theorem dX9_comes_81 : decode cX9_comes 81 = .ok (.iload_n 3, 1) := by decide +kernel
theorem dX9_comes_82 : decode cX9_comes 82 = .ok (.iload 4, 2) := by decide +kernel
theorem dX9_comes_84 : decode cX9_comes 84 = .ok (.invokevirtual 275, 3) := by decide +kernel
theorem dX9_comes_87 : decode cX9_comes 87 = .ok (.goto 88, 3) := by decide +kernel
theorem dX9_comes_90 : decode cX9_comes 90 = .ok (.aload_n 0, 1) := by decide +kernel
theorem dX9_comes_91 : decode cX9_comes 91 = .ok (.getfield 115, 3) := by decide +kernel
theorem dX9_comes_94 : decode cX9_comes 94 = .ok (.iload_n 2, 1) := by decide +kernel
theorem dX9_comes_95 : decode cX9_comes 95 = .ok (.dup2, 1) := by decide +kernel
theorem dX9_comes_96 : decode cX9_comes 96 = .ok (.iaload, 1) := by decide +kernel
theorem dX9_comes_97 : decode cX9_comes 97 = .ok (.iconst 1, 1) := by decide +kernel
theorem dX9_comes_98 : decode cX9_comes 98 = .ok (.iadd, 1) := by decide +kernel
theorem dX9_comes_99 : decode cX9_comes 99 = .ok (.iastore, 1) := by decide +kernel
theorem dX9_comes_100 : decode cX9_comes 100 = .ok (.aload_n 0, 1) := by decide +kernel
theorem dX9_comes_101 : decode cX9_comes 101 = .ok (.getfield 115, 3) := by decide +kernel
theorem dX9_comes_104 : decode cX9_comes 104 = .ok (.iload_n 2, 1) := by decide +kernel
theorem dX9_comes_105 : decode cX9_comes 105 = .ok (.iaload, 1) := by decide +kernel
theorem dX9_comes_106 : decode cX9_comes 106 = .ok (.aload_n 0, 1) := by decide +kernel
theorem dX9_comes_107 : decode cX9_comes 107 = .ok (.getfield 218, 3) := by decide +kernel
theorem dX9_comes_110 : decode cX9_comes 110 = .ok (.if_icmp .ne 65, 3) := by decide +kernel
theorem dX9_comes_113 : decode cX9_comes 113 = .ok (.aload_n 0, 1) := by decide +kernel
theorem dX9_comes_114 : decode cX9_comes 114 = .ok (.getfield 118, 3) := by decide +kernel
theorem dX9_comes_117 : decode cX9_comes 117 = .ok (.iload_n 2, 1) := by decide +kernel
theorem dX9_comes_118 : decode cX9_comes 118 = .ok (.aload_n 0, 1) := by decide +kernel
theorem dX9_comes_119 : decode cX9_comes 119 = .ok (.getfield 224, 3) := by decide +kernel
theorem dX9_comes_122 : decode cX9_comes 122 = .ok (.iastore, 1) := by decide +kernel
theorem dX9_comes_123 : decode cX9_comes 123 = .ok (.goto 52, 3) := by decide +kernel
theorem dX9_comes_126 : decode cX9_comes 126 = .ok (.aload_n 0, 1) := by decide +kernel
theorem dX9_comes_127 : decode cX9_comes 127 = .ok (.getfield 84, 3) := by decide +kernel
theorem dX9_comes_130 : decode cX9_comes 130 = .ok (.iload_n 3, 1) := by decide +kernel
theorem dX9_comes_131 : decode cX9_comes 131 = .ok (.baload, 1) := by decide +kernel
theorem dX9_comes_132 : decode cX9_comes 132 = .ok (.ifCond .eq 43, 3) := by decide +kernel
theorem dX9_comes_135 : decode cX9_comes 135 = .ok (.aload_n 0, 1) := by decide +kernel
theorem dX9_comes_136 : decode cX9_comes 136 = .ok (.iload 5, 2) := by decide +kernel
theorem dX9_comes_138 : decode cX9_comes 138 = .ok (.iconst 3, 1) := by decide +kernel
theorem dX9_comes_139 : decode cX9_comes 139 = .ok (.iload_n 2, 1) := by decide +kernel
theorem dX9_comes_140 : decode cX9_comes 140 = .ok (.iload_n 3, 1) := by decide +kernel
theorem dX9_comes_141 : decode cX9_comes 141 = .ok (.aload_n 0, 1) := by decide +kernel
theorem dX9_comes_142 : decode cX9_comes 142 = .ok (.getfield 78, 3) := by decide +kernel
theorem dX9_comes_145 : decode cX9_comes 145 = .ok (.iload_n 3, 1) := by decide +kernel
theorem dX9_comes_146 : decode cX9_comes 146 = .ok (.iaload, 1) := by decide +kernel
theorem dX9_comes_147 : decode cX9_comes 147 = .ok (.iconst 0, 1) := by decide +kernel
theorem dX9_comes_148 : decode cX9_comes 148 = .ok (.invokevirtual 256, 3) := by decide +kernel
theorem dX9_comes_151 : decode cX9_comes 151 = .ok (.goto 24, 3) := by decide +kernel
theorem dX9_comes_154 : decode cX9_comes 154 = .ok (.aload_n 0, 1) := by decide +kernel
theorem dX9_comes_155 : decode cX9_comes 155 = .ok (.getfield 127, 3) := by decide +kernel
theorem dX9_comes_158 : decode cX9_comes 158 = .ok (.iload_n 2, 1) := by decide +kernel
theorem dX9_comes_159 : decode cX9_comes 159 = .ok (.iaload, 1) := by decide +kernel
theorem dX9_comes_160 : decode cX9_comes 160 = .ok (.aload_n 0, 1) := by decide +kernel
theorem dX9_comes_161 : decode cX9_comes 161 = .ok (.getfield 221, 3) := by decide +kernel
theorem dX9_comes_164 : decode cX9_comes 164 = .ok (.if_icmp .ge 11, 3) := by decide +kernel
theorem dX9_comes_167 : decode cX9_comes 167 = .ok (.aload_n 0, 1) := by decide +kernel
theorem dX9_comes_168 : decode cX9_comes 168 = .ok (.iload_n 2, 1) := by decide +kernel
theorem dX9_comes_169 : decode cX9_comes 169 = .ok (.iload_n 3, 1) := by decide +kernel
theorem dX9_comes_170 : decode cX9_comes 170 = .ok (.iload 4, 2) := by decide +kernel
theorem dX9_comes_172 : decode cX9_comes 172 = .ok (.invokevirtual 279, 3) := by decide +kernel
theorem dX9_comes_175 : decode cX9_comes 175 = .ok (.return_, 1) := by decide +kernel
theorem dX9_hand_0 : decode cX9_hand 0 = .ok (.iconst 0, 1) := by decide +kernel
theorem dX9_hand_1 : decode cX9_hand 1 = .ok (.istore_n 3, 1) := by decide +kernel
theorem dX9_hand_2 : decode cX9_hand 2 = .ok (.iload_n 3, 1) := by decide +kernel
theorem dX9_hand_3 : decode cX9_hand 3 = .ok (.aload_n 0, 1) := by decide +kernel
theorem dX9_hand_4 : decode cX9_hand 4 = .ok (.getfield 215, 3) := by decide +kernel
theorem dX9_hand_7 : decode cX9_hand 7 = .ok (.if_icmp .ge 46, 3) := by decide +kernel
theorem dX9_hand_10 : decode cX9_hand 10 = .ok (.aload_n 0, 1) := by decide +kernel
theorem dX9_hand_11 : decode cX9_hand 11 = .ok (.getfield 84, 3) := by decide +kernel
theorem dX9_hand_14 : decode cX9_hand 14 = .ok (.iload_n 3, 1) := by decide +kernel
theorem dX9_hand_15 : decode cX9_hand 15 = .ok (.baload, 1) := by decide +kernel
theorem dX9_hand_16 : decode cX9_hand 16 = .ok (.ifCond .ne 6, 3) := by decide +kernel
theorem dX9_hand_19 : decode cX9_hand 19 = .ok (.goto 28, 3) := by decide +kernel
theorem dX9_hand_22 : decode cX9_hand 22 = .ok (.aload_n 0, 1) := by decide +kernel
theorem dX9_hand_23 : decode cX9_hand 23 = .ok (.getfield 81, 3) := by decide +kernel
theorem dX9_hand_26 : decode cX9_hand 26 = .ok (.iconst 5, 1) := by decide +kernel
theorem dX9_hand_27 : decode cX9_hand 27 = .ok (.iload_n 3, 1) := by decide +kernel
theorem dX9_hand_28 : decode cX9_hand 28 = .ok (.imul, 1) := by decide +kernel
theorem dX9_hand_29 : decode cX9_hand 29 = .ok (.iload_n 1, 1) := by decide +kernel
theorem dX9_hand_30 : decode cX9_hand 30 = .ok (.iadd, 1) := by decide +kernel
theorem dX9_hand_31 : decode cX9_hand 31 = .ok (.aload_n 0, 1) := by decide +kernel
theorem dX9_hand_32 : decode cX9_hand 32 = .ok (.getfield 81, 3) := by decide +kernel
theorem dX9_hand_35 : decode cX9_hand 35 = .ok (.iconst 5, 1) := by decide +kernel
theorem dX9_hand_36 : decode cX9_hand 36 = .ok (.iload_n 3, 1) := by decide +kernel
theorem dX9_hand_37 : decode cX9_hand 37 = .ok (.imul, 1) := by decide +kernel
theorem dX9_hand_38 : decode cX9_hand 38 = .ok (.iload_n 1, 1) := by decide +kernel
theorem dX9_hand_39 : decode cX9_hand 39 = .ok (.iadd, 1) := by decide +kernel
theorem dX9_hand_40 : decode cX9_hand 40 = .ok (.iaload, 1) := by decide +kernel
theorem dX9_hand_41 : decode cX9_hand 41 = .ok (.iload_n 2, 1) := by decide +kernel
theorem dX9_hand_42 : decode cX9_hand 42 = .ok (.invokestatic 270, 3) := by decide +kernel
theorem dX9_hand_45 : decode cX9_hand 45 = .ok (.iastore, 1) := by decide +kernel
theorem dX9_hand_46 : decode cX9_hand 46 = .ok (.return_, 1) := by decide +kernel
theorem dX9_hand_47 : decode cX9_hand 47 = .ok (.iinc 3 1, 3) := by decide +kernel
theorem dX9_hand_50 : decode cX9_hand 50 = .ok (.goto (-48), 3) := by decide +kernel
theorem dX9_hand_53 : decode cX9_hand 53 = .ok (.aload_n 0, 1) := by decide +kernel
theorem dX9_hand_54 : decode cX9_hand 54 = .ok (.dup, 1) := by decide +kernel
theorem dX9_hand_55 : decode cX9_hand 55 = .ok (.getfield 230, 3) := by decide +kernel
theorem dX9_hand_58 : decode cX9_hand 58 = .ok (.iconst 1, 1) := by decide +kernel
theorem dX9_hand_59 : decode cX9_hand 59 = .ok (.iadd, 1) := by decide +kernel
theorem dX9_hand_60 : decode cX9_hand 60 = .ok (.putfield 230, 3) := by decide +kernel
theorem dX9_hand_63 : decode cX9_hand 63 = .ok (.return_, 1) := by decide +kernel
theorem dX9_answer_0 : decode cX9_answer 0 = .ok (.aload_n 0, 1) := by decide +kernel
theorem dX9_answer_1 : decode cX9_answer 1 = .ok (.getfield 139, 3) := by decide +kernel
theorem dX9_answer_4 : decode cX9_answer 4 = .ok (.iconst 5, 1) := by decide +kernel
theorem dX9_answer_5 : decode cX9_answer 5 = .ok (.iload_n 1, 1) := by decide +kernel
theorem dX9_answer_6 : decode cX9_answer 6 = .ok (.imul, 1) := by decide +kernel
theorem dX9_answer_7 : decode cX9_answer 7 = .ok (.aload_n 0, 1) := by decide +kernel
theorem dX9_answer_8 : decode cX9_answer 8 = .ok (.getfield 127, 3) := by decide +kernel
theorem dX9_answer_11 : decode cX9_answer 11 = .ok (.iload_n 1, 1) := by decide +kernel
theorem dX9_answer_12 : decode cX9_answer 12 = .ok (.iaload, 1) := by decide +kernel
theorem dX9_answer_13 : decode cX9_answer 13 = .ok (.iadd, 1) := by decide +kernel
theorem dX9_answer_14 : decode cX9_answer 14 = .ok (.iload_n 3, 1) := by decide +kernel
theorem dX9_answer_15 : decode cX9_answer 15 = .ok (.iastore, 1) := by decide +kernel
theorem dX9_answer_16 : decode cX9_answer 16 = .ok (.aload_n 0, 1) := by decide +kernel
theorem dX9_answer_17 : decode cX9_answer 17 = .ok (.getfield 142, 3) := by decide +kernel
theorem dX9_answer_20 : decode cX9_answer 20 = .ok (.iconst 5, 1) := by decide +kernel
theorem dX9_answer_21 : decode cX9_answer 21 = .ok (.iload_n 1, 1) := by decide +kernel
theorem dX9_answer_22 : decode cX9_answer 22 = .ok (.imul, 1) := by decide +kernel
theorem dX9_answer_23 : decode cX9_answer 23 = .ok (.aload_n 0, 1) := by decide +kernel
theorem dX9_answer_24 : decode cX9_answer 24 = .ok (.getfield 127, 3) := by decide +kernel
theorem dX9_answer_27 : decode cX9_answer 27 = .ok (.iload_n 1, 1) := by decide +kernel
theorem dX9_answer_28 : decode cX9_answer 28 = .ok (.iaload, 1) := by decide +kernel
theorem dX9_answer_29 : decode cX9_answer 29 = .ok (.iadd, 1) := by decide +kernel
theorem dX9_answer_30 : decode cX9_answer 30 = .ok (.iload_n 2, 1) := by decide +kernel
theorem dX9_answer_31 : decode cX9_answer 31 = .ok (.iastore, 1) := by decide +kernel
theorem dX9_answer_32 : decode cX9_answer 32 = .ok (.aload_n 0, 1) := by decide +kernel
theorem dX9_answer_33 : decode cX9_answer 33 = .ok (.getfield 127, 3) := by decide +kernel
theorem dX9_answer_36 : decode cX9_answer 36 = .ok (.iload_n 1, 1) := by decide +kernel
theorem dX9_answer_37 : decode cX9_answer 37 = .ok (.dup2, 1) := by decide +kernel
theorem dX9_answer_38 : decode cX9_answer 38 = .ok (.iaload, 1) := by decide +kernel
theorem dX9_answer_39 : decode cX9_answer 39 = .ok (.iconst 1, 1) := by decide +kernel
theorem dX9_answer_40 : decode cX9_answer 40 = .ok (.iadd, 1) := by decide +kernel
theorem dX9_answer_41 : decode cX9_answer 41 = .ok (.iastore, 1) := by decide +kernel
theorem dX9_answer_42 : decode cX9_answer 42 = .ok (.aload_n 0, 1) := by decide +kernel
theorem dX9_answer_43 : decode cX9_answer 43 = .ok (.getfield 127, 3) := by decide +kernel
theorem dX9_answer_46 : decode cX9_answer 46 = .ok (.iload_n 1, 1) := by decide +kernel
theorem dX9_answer_47 : decode cX9_answer 47 = .ok (.iaload, 1) := by decide +kernel
theorem dX9_answer_48 : decode cX9_answer 48 = .ok (.aload_n 0, 1) := by decide +kernel
theorem dX9_answer_49 : decode cX9_answer 49 = .ok (.getfield 221, 3) := by decide +kernel
theorem dX9_answer_52 : decode cX9_answer 52 = .ok (.if_icmp .ge 4, 3) := by decide +kernel
theorem dX9_answer_55 : decode cX9_answer 55 = .ok (.return_, 1) := by decide +kernel
theorem dX9_answer_56 : decode cX9_answer 56 = .ok (.iconst 0, 1) := by decide +kernel
theorem dX9_answer_57 : decode cX9_answer 57 = .ok (.istore 4, 2) := by decide +kernel
theorem dX9_answer_59 : decode cX9_answer 59 = .ok (.iconst 0, 1) := by decide +kernel
theorem dX9_answer_60 : decode cX9_answer 60 = .ok (.istore 5, 2) := by decide +kernel
theorem dX9_answer_62 : decode cX9_answer 62 = .ok (.iload 5, 2) := by decide +kernel
theorem dX9_answer_64 : decode cX9_answer 64 = .ok (.aload_n 0, 1) := by decide +kernel
theorem dX9_answer_65 : decode cX9_answer 65 = .ok (.getfield 221, 3) := by decide +kernel
theorem dX9_answer_68 : decode cX9_answer 68 = .ok (.if_icmp .ge 27, 3) := by decide +kernel
theorem dX9_answer_71 : decode cX9_answer 71 = .ok (.iload 4, 2) := by decide +kernel
theorem dX9_answer_73 : decode cX9_answer 73 = .ok (.aload_n 0, 1) := by decide +kernel
theorem dX9_answer_74 : decode cX9_answer 74 = .ok (.getfield 139, 3) := by decide +kernel
theorem dX9_answer_77 : decode cX9_answer 77 = .ok (.iconst 5, 1) := by decide +kernel
theorem dX9_answer_78 : decode cX9_answer 78 = .ok (.iload_n 1, 1) := by decide +kernel
theorem dX9_answer_79 : decode cX9_answer 79 = .ok (.imul, 1) := by decide +kernel
theorem dX9_answer_80 : decode cX9_answer 80 = .ok (.iload 5, 2) := by decide +kernel
theorem dX9_answer_82 : decode cX9_answer 82 = .ok (.iadd, 1) := by decide +kernel
theorem dX9_answer_83 : decode cX9_answer 83 = .ok (.iaload, 1) := by decide +kernel
theorem dX9_answer_84 : decode cX9_answer 84 = .ok (.invokestatic 270, 3) := by decide +kernel
theorem dX9_answer_87 : decode cX9_answer 87 = .ok (.istore 4, 2) := by decide +kernel
theorem dX9_answer_89 : decode cX9_answer 89 = .ok (.iinc 5 1, 3) := by decide +kernel
theorem dX9_answer_92 : decode cX9_answer 92 = .ok (.goto (-30), 3) := by decide +kernel
theorem dX9_answer_95 : decode cX9_answer 95 = .ok (.aload_n 0, 1) := by decide +kernel
theorem dX9_answer_96 : decode cX9_answer 96 = .ok (.getfield 136, 3) := by decide +kernel
theorem dX9_answer_99 : decode cX9_answer 99 = .ok (.iload_n 1, 1) := by decide +kernel
theorem dX9_answer_100 : decode cX9_answer 100 = .ok (.iload 4, 2) := by decide +kernel
theorem dX9_answer_102 : decode cX9_answer 102 = .ok (.iastore, 1) := by decide +kernel
theorem dX9_answer_103 : decode cX9_answer 103 = .ok (.aload_n 0, 1) := by decide +kernel
theorem dX9_answer_104 : decode cX9_answer 104 = .ok (.getfield 130, 3) := by decide +kernel
theorem dX9_answer_107 : decode cX9_answer 107 = .ok (.iload_n 1, 1) := by decide +kernel
theorem dX9_answer_108 : decode cX9_answer 108 = .ok (.aload_n 0, 1) := by decide +kernel
theorem dX9_answer_109 : decode cX9_answer 109 = .ok (.getfield 224, 3) := by decide +kernel
theorem dX9_answer_112 : decode cX9_answer 112 = .ok (.iastore, 1) := by decide +kernel
theorem dX9_answer_113 : decode cX9_answer 113 = .ok (.aload_n 0, 1) := by decide +kernel
theorem dX9_answer_114 : decode cX9_answer 114 = .ok (.getfield 124, 3) := by decide +kernel
theorem dX9_answer_117 : decode cX9_answer 117 = .ok (.iload_n 1, 1) := by decide +kernel
theorem dX9_answer_118 : decode cX9_answer 118 = .ok (.iaload, 1) := by decide +kernel
theorem dX9_answer_119 : decode cX9_answer 119 = .ok (.istore 5, 2) := by decide +kernel
theorem dX9_answer_121 : decode cX9_answer 121 = .ok (.aload_n 0, 1) := by decide +kernel
theorem dX9_answer_122 : decode cX9_answer 122 = .ok (.getfield 133, 3) := by decide +kernel
theorem dX9_answer_125 : decode cX9_answer 125 = .ok (.iload_n 1, 1) := by decide +kernel
theorem dX9_answer_126 : decode cX9_answer 126 = .ok (.iload 4, 2) := by decide +kernel
theorem dX9_answer_128 : decode cX9_answer 128 = .ok (.iastore, 1) := by decide +kernel
theorem dX9_answer_129 : decode cX9_answer 129 = .ok (.aload_n 0, 1) := by decide +kernel
theorem dX9_answer_130 : decode cX9_answer 130 = .ok (.getfield 88, 3) := by decide +kernel
theorem dX9_answer_133 : decode cX9_answer 133 = .ok (.iload 5, 2) := by decide +kernel
theorem dX9_answer_135 : decode cX9_answer 135 = .ok (.baload, 1) := by decide +kernel
theorem dX9_answer_136 : decode cX9_answer 136 = .ok (.ifCond .eq 38, 3) := by decide +kernel
theorem dX9_answer_139 : decode cX9_answer 139 = .ok (.iload 4, 2) := by decide +kernel
theorem dX9_answer_141 : decode cX9_answer 141 = .ok (.aload_n 0, 1) := by decide +kernel
theorem dX9_answer_142 : decode cX9_answer 142 = .ok (.getfield 91, 3) := by decide +kernel
theorem dX9_answer_145 : decode cX9_answer 145 = .ok (.iload 5, 2) := by decide +kernel
theorem dX9_answer_147 : decode cX9_answer 147 = .ok (.iaload, 1) := by decide +kernel
theorem dX9_answer_148 : decode cX9_answer 148 = .ok (.if_icmp .ge 26, 3) := by decide +kernel
theorem dX9_answer_151 : decode cX9_answer 151 = .ok (.aload_n 0, 1) := by decide +kernel
theorem dX9_answer_152 : decode cX9_answer 152 = .ok (.getfield 133, 3) := by decide +kernel
theorem dX9_answer_155 : decode cX9_answer 155 = .ok (.iload_n 1, 1) := by decide +kernel
theorem dX9_answer_156 : decode cX9_answer 156 = .ok (.aload_n 0, 1) := by decide +kernel
theorem dX9_answer_157 : decode cX9_answer 157 = .ok (.getfield 91, 3) := by decide +kernel
theorem dX9_answer_160 : decode cX9_answer 160 = .ok (.iload 5, 2) := by decide +kernel
theorem dX9_answer_162 : decode cX9_answer 162 = .ok (.iaload, 1) := by decide +kernel
theorem dX9_answer_163 : decode cX9_answer 163 = .ok (.iastore, 1) := by decide +kernel
theorem dX9_answer_164 : decode cX9_answer 164 = .ok (.aload_n 0, 1) := by decide +kernel
theorem dX9_answer_165 : decode cX9_answer 165 = .ok (.dup, 1) := by decide +kernel
theorem dX9_answer_166 : decode cX9_answer 166 = .ok (.getfield 233, 3) := by decide +kernel
theorem dX9_answer_169 : decode cX9_answer 169 = .ok (.iconst 1, 1) := by decide +kernel
theorem dX9_answer_170 : decode cX9_answer 170 = .ok (.iadd, 1) := by decide +kernel
theorem dX9_answer_171 : decode cX9_answer 171 = .ok (.putfield 233, 3) := by decide +kernel
theorem dX9_answer_174 : decode cX9_answer 174 = .ok (.aload_n 0, 1) := by decide +kernel
theorem dX9_answer_175 : decode cX9_answer 175 = .ok (.getfield 91, 3) := by decide +kernel
theorem dX9_answer_178 : decode cX9_answer 178 = .ok (.iload 5, 2) := by decide +kernel
theorem dX9_answer_180 : decode cX9_answer 180 = .ok (.aload_n 0, 1) := by decide +kernel
theorem dX9_answer_181 : decode cX9_answer 181 = .ok (.getfield 91, 3) := by decide +kernel
theorem dX9_answer_184 : decode cX9_answer 184 = .ok (.iload 5, 2) := by decide +kernel
theorem dX9_answer_186 : decode cX9_answer 186 = .ok (.iaload, 1) := by decide +kernel
theorem dX9_answer_187 : decode cX9_answer 187 = .ok (.aload_n 0, 1) := by decide +kernel
theorem dX9_answer_188 : decode cX9_answer 188 = .ok (.getfield 133, 3) := by decide +kernel
theorem dX9_answer_191 : decode cX9_answer 191 = .ok (.iload_n 1, 1) := by decide +kernel
theorem dX9_answer_192 : decode cX9_answer 192 = .ok (.iaload, 1) := by decide +kernel
theorem dX9_answer_193 : decode cX9_answer 193 = .ok (.invokestatic 270, 3) := by decide +kernel
theorem dX9_answer_196 : decode cX9_answer 196 = .ok (.iastore, 1) := by decide +kernel
theorem dX9_answer_197 : decode cX9_answer 197 = .ok (.iconst 0, 1) := by decide +kernel
theorem dX9_answer_198 : decode cX9_answer 198 = .ok (.istore 6, 2) := by decide +kernel
theorem dX9_answer_200 : decode cX9_answer 200 = .ok (.iload 6, 2) := by decide +kernel
theorem dX9_answer_202 : decode cX9_answer 202 = .ok (.aload_n 0, 1) := by decide +kernel
theorem dX9_answer_203 : decode cX9_answer 203 = .ok (.getfield 215, 3) := by decide +kernel
theorem dX9_answer_206 : decode cX9_answer 206 = .ok (.if_icmp .ge 78, 3) := by decide +kernel
theorem dX9_answer_209 : decode cX9_answer 209 = .ok (.aload_n 0, 1) := by decide +kernel
theorem dX9_answer_210 : decode cX9_answer 210 = .ok (.getfield 212, 3) := by decide +kernel
theorem dX9_answer_213 : decode cX9_answer 213 = .ok (.ifCond .eq 71, 3) := by decide +kernel
theorem dX9_answer_216 : decode cX9_answer 216 = .ok (.iconst 0, 1) := by decide +kernel
theorem dX9_answer_217 : decode cX9_answer 217 = .ok (.istore 7, 2) := by decide +kernel
theorem dX9_answer_219 : decode cX9_answer 219 = .ok (.iload 7, 2) := by decide +kernel
theorem dX9_answer_221 : decode cX9_answer 221 = .ok (.aload_n 0, 1) := by decide +kernel
theorem dX9_answer_222 : decode cX9_answer 222 = .ok (.getfield 221, 3) := by decide +kernel
theorem dX9_answer_225 : decode cX9_answer 225 = .ok (.if_icmp .ge 53, 3) := by decide +kernel
theorem dX9_answer_228 : decode cX9_answer 228 = .ok (.aload_n 0, 1) := by decide +kernel
theorem dX9_answer_229 : decode cX9_answer 229 = .ok (.getfield 142, 3) := by decide +kernel
theorem dX9_answer_232 : decode cX9_answer 232 = .ok (.iconst 5, 1) := by decide +kernel
theorem dX9_answer_233 : decode cX9_answer 233 = .ok (.iload_n 1, 1) := by decide +kernel
theorem dX9_answer_234 : decode cX9_answer 234 = .ok (.imul, 1) := by decide +kernel
theorem dX9_answer_235 : decode cX9_answer 235 = .ok (.iload 7, 2) := by decide +kernel
theorem dX9_answer_237 : decode cX9_answer 237 = .ok (.iadd, 1) := by decide +kernel
theorem dX9_answer_238 : decode cX9_answer 238 = .ok (.iaload, 1) := by decide +kernel
theorem dX9_answer_239 : decode cX9_answer 239 = .ok (.iload 6, 2) := by decide +kernel
theorem dX9_answer_241 : decode cX9_answer 241 = .ok (.if_icmp .ne 31, 3) := by decide +kernel
theorem dX9_answer_244 : decode cX9_answer 244 = .ok (.aload_n 0, 1) := by decide +kernel
theorem dX9_answer_245 : decode cX9_answer 245 = .ok (.getfield 139, 3) := by decide +kernel
theorem dX9_answer_248 : decode cX9_answer 248 = .ok (.iconst 5, 1) := by decide +kernel
theorem dX9_answer_249 : decode cX9_answer 249 = .ok (.iload_n 1, 1) := by decide +kernel
theorem dX9_answer_250 : decode cX9_answer 250 = .ok (.imul, 1) := by decide +kernel
theorem dX9_answer_251 : decode cX9_answer 251 = .ok (.iload 7, 2) := by decide +kernel
theorem dX9_answer_253 : decode cX9_answer 253 = .ok (.iadd, 1) := by decide +kernel
theorem dX9_answer_254 : decode cX9_answer 254 = .ok (.iaload, 1) := by decide +kernel
theorem dX9_answer_255 : decode cX9_answer 255 = .ok (.iload 4, 2) := by decide +kernel
theorem dX9_answer_257 : decode cX9_answer 257 = .ok (.if_icmp .ge 15, 3) := by decide +kernel
theorem dX9_answer_260 : decode cX9_answer 260 = .ok (.aload_n 0, 1) := by decide +kernel
theorem dX9_answer_261 : decode cX9_answer 261 = .ok (.iconst 1, 1) := by decide +kernel
theorem dX9_answer_262 : decode cX9_answer 262 = .ok (.iconst 4, 1) := by decide +kernel
theorem dX9_answer_263 : decode cX9_answer 263 = .ok (.iload_n 1, 1) := by decide +kernel
theorem dX9_answer_264 : decode cX9_answer 264 = .ok (.iload 6, 2) := by decide +kernel
theorem dX9_answer_266 : decode cX9_answer 266 = .ok (.iload 4, 2) := by decide +kernel
theorem dX9_answer_268 : decode cX9_answer 268 = .ok (.iconst 0, 1) := by decide +kernel
theorem dX9_answer_269 : decode cX9_answer 269 = .ok (.invokevirtual 256, 3) := by decide +kernel
theorem dX9_answer_272 : decode cX9_answer 272 = .ok (.iinc 7 1, 3) := by decide +kernel
theorem dX9_answer_275 : decode cX9_answer 275 = .ok (.goto (-56), 3) := by decide +kernel
theorem dX9_answer_278 : decode cX9_answer 278 = .ok (.iinc 6 1, 3) := by decide +kernel
theorem dX9_answer_281 : decode cX9_answer 281 = .ok (.goto (-81), 3) := by decide +kernel
theorem dX9_answer_284 : decode cX9_answer 284 = .ok (.return_, 1) := by decide +kernel
theorem dX9_go_0 : decode cX9_go 0 = .ok (.iload_n 1, 1) := by decide +kernel
theorem dX9_go_1 : decode cX9_go 1 = .ok (.ifCond .lt 10, 3) := by decide +kernel
theorem dX9_go_4 : decode cX9_go 4 = .ok (.iload_n 1, 1) := by decide +kernel
theorem dX9_go_5 : decode cX9_go 5 = .ok (.sipush 10000, 3) := by decide +kernel
theorem dX9_go_8 : decode cX9_go 8 = .ok (.if_icmp .le 9, 3) := by decide +kernel
theorem dX9_go_11 : decode cX9_go 11 = .ok (.aload_n 0, 1) := by decide +kernel
theorem dX9_go_12 : decode cX9_go 12 = .ok (.iconst 1, 1) := by decide +kernel
theorem dX9_go_13 : decode cX9_go 13 = .ok (.invokevirtual 154, 3) := by decide +kernel
theorem dX9_go_16 : decode cX9_go 16 = .ok (.ireturn, 1) := by decide +kernel
theorem dX9_go_17 : decode cX9_go 17 = .ok (.aload_n 0, 1) := by decide +kernel
theorem dX9_go_18 : decode cX9_go 18 = .ok (.getfield 208, 3) := by decide +kernel
theorem dX9_go_21 : decode cX9_go 21 = .ok (.ifCond .ne 9, 3) := by decide +kernel
theorem dX9_go_24 : decode cX9_go 24 = .ok (.aload_n 0, 1) := by decide +kernel
theorem dX9_go_25 : decode cX9_go 25 = .ok (.iconst 4, 1) := by decide +kernel
theorem dX9_go_26 : decode cX9_go 26 = .ok (.invokevirtual 154, 3) := by decide +kernel
theorem dX9_go_29 : decode cX9_go 29 = .ok (.ireturn, 1) := by decide +kernel
theorem dX9_go_30 : decode cX9_go 30 = .ok (.iconst 0, 1) := by decide +kernel
theorem dX9_go_31 : decode cX9_go 31 = .ok (.istore_n 2, 1) := by decide +kernel
theorem dX9_go_32 : decode cX9_go 32 = .ok (.iload_n 2, 1) := by decide +kernel
theorem dX9_go_33 : decode cX9_go 33 = .ok (.iload_n 1, 1) := by decide +kernel
theorem dX9_go_34 : decode cX9_go 34 = .ok (.if_icmp .ge 30, 3) := by decide +kernel
theorem dX9_go_37 : decode cX9_go 37 = .ok (.aload_n 0, 1) := by decide +kernel
theorem dX9_go_38 : decode cX9_go 38 = .ok (.dup, 1) := by decide +kernel
theorem dX9_go_39 : decode cX9_go 39 = .ok (.getfield 224, 3) := by decide +kernel
theorem dX9_go_42 : decode cX9_go 42 = .ok (.iconst 1, 1) := by decide +kernel
theorem dX9_go_43 : decode cX9_go 43 = .ok (.iadd, 1) := by decide +kernel
theorem dX9_go_44 : decode cX9_go 44 = .ok (.putfield 224, 3) := by decide +kernel
theorem dX9_go_47 : decode cX9_go 47 = .ok (.aload_n 0, 1) := by decide +kernel
theorem dX9_go_48 : decode cX9_go 48 = .ok (.getfield 242, 3) := by decide +kernel
theorem dX9_go_51 : decode cX9_go 51 = .ok (.ifCond .le 7, 3) := by decide +kernel
theorem dX9_go_54 : decode cX9_go 54 = .ok (.aload_n 0, 1) := by decide +kernel
theorem dX9_go_55 : decode cX9_go 55 = .ok (.invokevirtual 260, 3) := by decide +kernel
theorem dX9_go_58 : decode cX9_go 58 = .ok (.iinc 2 1, 3) := by decide +kernel
theorem dX9_go_61 : decode cX9_go 61 = .ok (.goto (-29), 3) := by decide +kernel
theorem dX9_go_64 : decode cX9_go 64 = .ok (.aload_n 0, 1) := by decide +kernel
theorem dX9_go_65 : decode cX9_go 65 = .ok (.iconst 0, 1) := by decide +kernel
theorem dX9_go_66 : decode cX9_go 66 = .ok (.putfield 1, 3) := by decide +kernel
theorem dX9_go_69 : decode cX9_go 69 = .ok (.aload_n 0, 1) := by decide +kernel
theorem dX9_go_70 : decode cX9_go 70 = .ok (.getfield 224, 3) := by decide +kernel
theorem dX9_go_73 : decode cX9_go 73 = .ok (.ireturn, 1) := by decide +kernel
theorem dX9_wrongCopy_0 : decode cX9_wrongCopy 0 = .ok (.iload_n 1, 1) := by decide +kernel
theorem dX9_wrongCopy_1 : decode cX9_wrongCopy 1 = .ok (.ifCond .lt 8, 3) := by decide +kernel
theorem dX9_wrongCopy_4 : decode cX9_wrongCopy 4 = .ok (.iload_n 1, 1) := by decide +kernel
theorem dX9_wrongCopy_5 : decode cX9_wrongCopy 5 = .ok (.iconst 5, 1) := by decide +kernel
theorem dX9_wrongCopy_6 : decode cX9_wrongCopy 6 = .ok (.if_icmp .lt 7, 3) := by decide +kernel
theorem dX9_wrongCopy_9 : decode cX9_wrongCopy 9 = .ok (.iconst 1, 1) := by decide +kernel
theorem dX9_wrongCopy_10 : decode cX9_wrongCopy 10 = .ok (.goto 27, 3) := by decide +kernel
theorem dX9_wrongCopy_13 : decode cX9_wrongCopy 13 = .ok (.aload_n 0, 1) := by decide +kernel
theorem dX9_wrongCopy_14 : decode cX9_wrongCopy 14 = .ok (.getfield 208, 3) := by decide +kernel
theorem dX9_wrongCopy_17 : decode cX9_wrongCopy 17 = .ok (.ifCond .ne 7, 3) := by decide +kernel
theorem dX9_wrongCopy_20 : decode cX9_wrongCopy 20 = .ok (.iconst 4, 1) := by decide +kernel
theorem dX9_wrongCopy_21 : decode cX9_wrongCopy 21 = .ok (.goto 16, 3) := by decide +kernel
theorem dX9_wrongCopy_24 : decode cX9_wrongCopy 24 = .ok (.iload_n 1, 1) := by decide +kernel
theorem dX9_wrongCopy_25 : decode cX9_wrongCopy 25 = .ok (.aload_n 0, 1) := by decide +kernel
theorem dX9_wrongCopy_26 : decode cX9_wrongCopy 26 = .ok (.getfield 215, 3) := by decide +kernel
theorem dX9_wrongCopy_29 : decode cX9_wrongCopy 29 = .ok (.if_icmp .lt 7, 3) := by decide +kernel
theorem dX9_wrongCopy_32 : decode cX9_wrongCopy 32 = .ok (.iconst 1, 1) := by decide +kernel
theorem dX9_wrongCopy_33 : decode cX9_wrongCopy 33 = .ok (.goto 4, 3) := by decide +kernel
theorem dX9_wrongCopy_36 : decode cX9_wrongCopy 36 = .ok (.iconst 0, 1) := by decide +kernel
theorem dX9_wrongCopy_37 : decode cX9_wrongCopy 37 = .ok (.ireturn, 1) := by decide +kernel
theorem dX9_down_0 : decode cX9_down 0 = .ok (.aload_n 0, 1) := by decide +kernel
theorem dX9_down_1 : decode cX9_down 1 = .ok (.iload_n 1, 1) := by decide +kernel
theorem dX9_down_2 : decode cX9_down 2 = .ok (.invokevirtual 283, 3) := by decide +kernel
theorem dX9_down_5 : decode cX9_down 5 = .ok (.istore_n 3, 1) := by decide +kernel
theorem dX9_down_6 : decode cX9_down 6 = .ok (.iload_n 3, 1) := by decide +kernel
theorem dX9_down_7 : decode cX9_down 7 = .ok (.ifCond .ne 14, 3) := by decide +kernel
theorem dX9_down_10 : decode cX9_down 10 = .ok (.aload_n 0, 1) := by decide +kernel
theorem dX9_down_11 : decode cX9_down 11 = .ok (.getfield 84, 3) := by decide +kernel
theorem dX9_down_14 : decode cX9_down 14 = .ok (.iload_n 1, 1) := by decide +kernel
theorem dX9_down_15 : decode cX9_down 15 = .ok (.baload, 1) := by decide +kernel
theorem dX9_down_16 : decode cX9_down 16 = .ok (.ifCond .ne 5, 3) := by decide +kernel
theorem dX9_down_19 : decode cX9_down 19 = .ok (.iconst 5, 1) := by decide +kernel
theorem dX9_down_20 : decode cX9_down 20 = .ok (.istore_n 3, 1) := by decide +kernel
theorem dX9_down_21 : decode cX9_down 21 = .ok (.iload_n 3, 1) := by decide +kernel
theorem dX9_down_22 : decode cX9_down 22 = .ok (.ifCond .le 9, 3) := by decide +kernel
theorem dX9_down_25 : decode cX9_down 25 = .ok (.aload_n 0, 1) := by decide +kernel
theorem dX9_down_26 : decode cX9_down 26 = .ok (.iload_n 3, 1) := by decide +kernel
theorem dX9_down_27 : decode cX9_down 27 = .ok (.invokevirtual 18, 3) := by decide +kernel
theorem dX9_down_30 : decode cX9_down 30 = .ok (.ireturn, 1) := by decide +kernel
theorem dX9_down_31 : decode cX9_down 31 = .ok (.aload_n 0, 1) := by decide +kernel
theorem dX9_down_32 : decode cX9_down 32 = .ok (.getfield 84, 3) := by decide +kernel
theorem dX9_down_35 : decode cX9_down 35 = .ok (.iload_n 1, 1) := by decide +kernel
theorem dX9_down_36 : decode cX9_down 36 = .ok (.iconst 0, 1) := by decide +kernel
theorem dX9_down_37 : decode cX9_down 37 = .ok (.bastore, 1) := by decide +kernel
theorem dX9_down_38 : decode cX9_down 38 = .ok (.iload_n 2, 1) := by decide +kernel
theorem dX9_down_39 : decode cX9_down 39 = .ok (.ifCond .eq 65, 3) := by decide +kernel
theorem dX9_down_42 : decode cX9_down 42 = .ok (.aload_n 0, 1) := by decide +kernel
theorem dX9_down_43 : decode cX9_down 43 = .ok (.getfield 78, 3) := by decide +kernel
theorem dX9_down_46 : decode cX9_down 46 = .ok (.iload_n 1, 1) := by decide +kernel
theorem dX9_down_47 : decode cX9_down 47 = .ok (.iconst 0, 1) := by decide +kernel
theorem dX9_down_48 : decode cX9_down 48 = .ok (.iastore, 1) := by decide +kernel
theorem dX9_down_49 : decode cX9_down 49 = .ok (.iconst 0, 1) := by decide +kernel
theorem dX9_down_50 : decode cX9_down 50 = .ok (.istore 4, 2) := by decide +kernel
theorem dX9_down_52 : decode cX9_down 52 = .ok (.iload 4, 2) := by decide +kernel
theorem dX9_down_54 : decode cX9_down 54 = .ok (.iconst 5, 1) := by decide +kernel
theorem dX9_down_55 : decode cX9_down 55 = .ok (.if_icmp .ge 49, 3) := by decide +kernel
theorem dX9_down_58 : decode cX9_down 58 = .ok (.aload_n 0, 1) := by decide +kernel
theorem dX9_down_59 : decode cX9_down 59 = .ok (.dup, 1) := by decide +kernel
theorem dX9_down_60 : decode cX9_down 60 = .ok (.getfield 230, 3) := by decide +kernel
theorem dX9_down_63 : decode cX9_down 63 = .ok (.aload_n 0, 1) := by decide +kernel
theorem dX9_down_64 : decode cX9_down 64 = .ok (.getfield 81, 3) := by decide +kernel
theorem dX9_down_67 : decode cX9_down 67 = .ok (.iconst 5, 1) := by decide +kernel
theorem dX9_down_68 : decode cX9_down 68 = .ok (.iload_n 1, 1) := by decide +kernel
theorem dX9_down_69 : decode cX9_down 69 = .ok (.imul, 1) := by decide +kernel
theorem dX9_down_70 : decode cX9_down 70 = .ok (.iload 4, 2) := by decide +kernel
theorem dX9_down_72 : decode cX9_down 72 = .ok (.iadd, 1) := by decide +kernel
theorem dX9_down_73 : decode cX9_down 73 = .ok (.iaload, 1) := by decide +kernel
theorem dX9_down_74 : decode cX9_down 74 = .ok (.ifCond .le 7, 3) := by decide +kernel
theorem dX9_down_77 : decode cX9_down 77 = .ok (.iconst 1, 1) := by decide +kernel
theorem dX9_down_78 : decode cX9_down 78 = .ok (.goto 4, 3) := by decide +kernel
theorem dX9_down_81 : decode cX9_down 81 = .ok (.iconst 0, 1) := by decide +kernel
theorem dX9_down_82 : decode cX9_down 82 = .ok (.iadd, 1) := by decide +kernel
theorem dX9_down_83 : decode cX9_down 83 = .ok (.putfield 230, 3) := by decide +kernel
theorem dX9_down_86 : decode cX9_down 86 = .ok (.aload_n 0, 1) := by decide +kernel
theorem dX9_down_87 : decode cX9_down 87 = .ok (.getfield 81, 3) := by decide +kernel
theorem dX9_down_90 : decode cX9_down 90 = .ok (.iconst 5, 1) := by decide +kernel
theorem dX9_down_91 : decode cX9_down 91 = .ok (.iload_n 1, 1) := by decide +kernel
theorem dX9_down_92 : decode cX9_down 92 = .ok (.imul, 1) := by decide +kernel
theorem dX9_down_93 : decode cX9_down 93 = .ok (.iload 4, 2) := by decide +kernel
theorem dX9_down_95 : decode cX9_down 95 = .ok (.iadd, 1) := by decide +kernel
theorem dX9_down_96 : decode cX9_down 96 = .ok (.iconst 0, 1) := by decide +kernel
theorem dX9_down_97 : decode cX9_down 97 = .ok (.iastore, 1) := by decide +kernel
theorem dX9_down_98 : decode cX9_down 98 = .ok (.iinc 4 1, 3) := by decide +kernel
theorem dX9_down_101 : decode cX9_down 101 = .ok (.goto (-49), 3) := by decide +kernel
theorem dX9_down_104 : decode cX9_down 104 = .ok (.aload_n 0, 1) := by decide +kernel
theorem dX9_down_105 : decode cX9_down 105 = .ok (.iconst 0, 1) := by decide +kernel
theorem dX9_down_106 : decode cX9_down 106 = .ok (.invokevirtual 18, 3) := by decide +kernel
theorem dX9_down_109 : decode cX9_down 109 = .ok (.ireturn, 1) := by decide +kernel
theorem dX9_gives_0 : decode cX9_gives 0 = .ok (.aload_n 0, 1) := by decide +kernel
theorem dX9_gives_1 : decode cX9_gives 1 = .ok (.getfield 81, 3) := by decide +kernel
theorem dX9_gives_4 : decode cX9_gives 4 = .ok (.iconst 5, 1) := by decide +kernel
theorem dX9_gives_5 : decode cX9_gives 5 = .ok (.iload_n 1, 1) := by decide +kernel
theorem dX9_gives_6 : decode cX9_gives 6 = .ok (.imul, 1) := by decide +kernel
theorem dX9_gives_7 : decode cX9_gives 7 = .ok (.iload_n 2, 1) := by decide +kernel
theorem dX9_gives_8 : decode cX9_gives 8 = .ok (.iadd, 1) := by decide +kernel
theorem dX9_gives_9 : decode cX9_gives 9 = .ok (.iaload, 1) := by decide +kernel
theorem dX9_gives_10 : decode cX9_gives 10 = .ok (.istore_n 3, 1) := by decide +kernel
theorem dX9_gives_11 : decode cX9_gives 11 = .ok (.aload_n 0, 1) := by decide +kernel
theorem dX9_gives_12 : decode cX9_gives 12 = .ok (.getfield 81, 3) := by decide +kernel
theorem dX9_gives_15 : decode cX9_gives 15 = .ok (.iconst 5, 1) := by decide +kernel
theorem dX9_gives_16 : decode cX9_gives 16 = .ok (.iload_n 1, 1) := by decide +kernel
theorem dX9_gives_17 : decode cX9_gives 17 = .ok (.imul, 1) := by decide +kernel
theorem dX9_gives_18 : decode cX9_gives 18 = .ok (.iload_n 2, 1) := by decide +kernel
theorem dX9_gives_19 : decode cX9_gives 19 = .ok (.iadd, 1) := by decide +kernel
theorem dX9_gives_20 : decode cX9_gives 20 = .ok (.iconst 0, 1) := by decide +kernel
theorem dX9_gives_21 : decode cX9_gives 21 = .ok (.iastore, 1) := by decide +kernel
theorem dX9_gives_22 : decode cX9_gives 22 = .ok (.aload_n 0, 1) := by decide +kernel
theorem dX9_gives_23 : decode cX9_gives 23 = .ok (.getfield 78, 3) := by decide +kernel
theorem dX9_gives_26 : decode cX9_gives 26 = .ok (.iload_n 2, 1) := by decide +kernel
theorem dX9_gives_27 : decode cX9_gives 27 = .ok (.aload_n 0, 1) := by decide +kernel
theorem dX9_gives_28 : decode cX9_gives 28 = .ok (.getfield 78, 3) := by decide +kernel
theorem dX9_gives_31 : decode cX9_gives 31 = .ok (.iload_n 2, 1) := by decide +kernel
theorem dX9_gives_32 : decode cX9_gives 32 = .ok (.iaload, 1) := by decide +kernel
theorem dX9_gives_33 : decode cX9_gives 33 = .ok (.iload_n 3, 1) := by decide +kernel
theorem dX9_gives_34 : decode cX9_gives 34 = .ok (.invokestatic 270, 3) := by decide +kernel
theorem dX9_gives_37 : decode cX9_gives 37 = .ok (.iastore, 1) := by decide +kernel
theorem dX9_gives_38 : decode cX9_gives 38 = .ok (.iload_n 3, 1) := by decide +kernel
theorem dX9_gives_39 : decode cX9_gives 39 = .ok (.ifCond .le 7, 3) := by decide +kernel
theorem dX9_gives_42 : decode cX9_gives 42 = .ok (.iconst 1, 1) := by decide +kernel
theorem dX9_gives_43 : decode cX9_gives 43 = .ok (.goto 4, 3) := by decide +kernel
theorem dX9_gives_46 : decode cX9_gives 46 = .ok (.iconst 0, 1) := by decide +kernel
theorem dX9_gives_47 : decode cX9_gives 47 = .ok (.ireturn, 1) := by decide +kernel
theorem dX9_up_0 : decode cX9_up 0 = .ok (.aload_n 0, 1) := by decide +kernel
theorem dX9_up_1 : decode cX9_up 1 = .ok (.iload_n 1, 1) := by decide +kernel
theorem dX9_up_2 : decode cX9_up 2 = .ok (.invokevirtual 283, 3) := by decide +kernel
theorem dX9_up_5 : decode cX9_up 5 = .ok (.istore_n 2, 1) := by decide +kernel
theorem dX9_up_6 : decode cX9_up 6 = .ok (.iload_n 2, 1) := by decide +kernel
theorem dX9_up_7 : decode cX9_up 7 = .ok (.ifCond .ne 14, 3) := by decide +kernel
theorem dX9_up_10 : decode cX9_up 10 = .ok (.aload_n 0, 1) := by decide +kernel
theorem dX9_up_11 : decode cX9_up 11 = .ok (.getfield 84, 3) := by decide +kernel
theorem dX9_up_14 : decode cX9_up 14 = .ok (.iload_n 1, 1) := by decide +kernel
theorem dX9_up_15 : decode cX9_up 15 = .ok (.baload, 1) := by decide +kernel
theorem dX9_up_16 : decode cX9_up 16 = .ok (.ifCond .eq 5, 3) := by decide +kernel
theorem dX9_up_19 : decode cX9_up 19 = .ok (.iconst 5, 1) := by decide +kernel
theorem dX9_up_20 : decode cX9_up 20 = .ok (.istore_n 2, 1) := by decide +kernel
theorem dX9_up_21 : decode cX9_up 21 = .ok (.iload_n 2, 1) := by decide +kernel
theorem dX9_up_22 : decode cX9_up 22 = .ok (.ifCond .le 9, 3) := by decide +kernel
theorem dX9_up_25 : decode cX9_up 25 = .ok (.aload_n 0, 1) := by decide +kernel
theorem dX9_up_26 : decode cX9_up 26 = .ok (.iload_n 2, 1) := by decide +kernel
theorem dX9_up_27 : decode cX9_up 27 = .ok (.invokevirtual 154, 3) := by decide +kernel
theorem dX9_up_30 : decode cX9_up 30 = .ok (.ireturn, 1) := by decide +kernel
theorem dX9_up_31 : decode cX9_up 31 = .ok (.iconst 0, 1) := by decide +kernel
theorem dX9_up_32 : decode cX9_up 32 = .ok (.istore_n 3, 1) := by decide +kernel
theorem dX9_up_33 : decode cX9_up 33 = .ok (.iconst 0, 1) := by decide +kernel
theorem dX9_up_34 : decode cX9_up 34 = .ok (.istore 4, 2) := by decide +kernel
theorem dX9_up_36 : decode cX9_up 36 = .ok (.iload 4, 2) := by decide +kernel
theorem dX9_up_38 : decode cX9_up 38 = .ok (.aload_n 0, 1) := by decide +kernel
theorem dX9_up_39 : decode cX9_up 39 = .ok (.getfield 215, 3) := by decide +kernel
theorem dX9_up_42 : decode cX9_up 42 = .ok (.if_icmp .ge 33, 3) := by decide +kernel
theorem dX9_up_45 : decode cX9_up 45 = .ok (.iload_n 3, 1) := by decide +kernel
theorem dX9_up_46 : decode cX9_up 46 = .ok (.aload_n 0, 1) := by decide +kernel
theorem dX9_up_47 : decode cX9_up 47 = .ok (.getfield 84, 3) := by decide +kernel
theorem dX9_up_50 : decode cX9_up 50 = .ok (.iload 4, 2) := by decide +kernel
theorem dX9_up_52 : decode cX9_up 52 = .ok (.baload, 1) := by decide +kernel
theorem dX9_up_53 : decode cX9_up 53 = .ok (.ifCond .eq 13, 3) := by decide +kernel
theorem dX9_up_56 : decode cX9_up 56 = .ok (.aload_n 0, 1) := by decide +kernel
theorem dX9_up_57 : decode cX9_up 57 = .ok (.iload 4, 2) := by decide +kernel
theorem dX9_up_59 : decode cX9_up 59 = .ok (.iload_n 1, 1) := by decide +kernel
theorem dX9_up_60 : decode cX9_up 60 = .ok (.invokevirtual 286, 3) := by decide +kernel
theorem dX9_up_63 : decode cX9_up 63 = .ok (.goto 4, 3) := by decide +kernel
theorem dX9_up_66 : decode cX9_up 66 = .ok (.iconst 0, 1) := by decide +kernel
theorem dX9_up_67 : decode cX9_up 67 = .ok (.iadd, 1) := by decide +kernel
theorem dX9_up_68 : decode cX9_up 68 = .ok (.istore_n 3, 1) := by decide +kernel
theorem dX9_up_69 : decode cX9_up 69 = .ok (.iinc 4 1, 3) := by decide +kernel
theorem dX9_up_72 : decode cX9_up 72 = .ok (.goto (-36), 3) := by decide +kernel
theorem dX9_up_75 : decode cX9_up 75 = .ok (.aload_n 0, 1) := by decide +kernel
theorem dX9_up_76 : decode cX9_up 76 = .ok (.getfield 84, 3) := by decide +kernel
theorem dX9_up_79 : decode cX9_up 79 = .ok (.iload_n 1, 1) := by decide +kernel
theorem dX9_up_80 : decode cX9_up 80 = .ok (.iconst 1, 1) := by decide +kernel
theorem dX9_up_81 : decode cX9_up 81 = .ok (.bastore, 1) := by decide +kernel
theorem dX9_up_82 : decode cX9_up 82 = .ok (.iconst 0, 1) := by decide +kernel
theorem dX9_up_83 : decode cX9_up 83 = .ok (.istore 4, 2) := by decide +kernel
theorem dX9_up_85 : decode cX9_up 85 = .ok (.iload 4, 2) := by decide +kernel
theorem dX9_up_87 : decode cX9_up 87 = .ok (.aload_n 0, 1) := by decide +kernel
theorem dX9_up_88 : decode cX9_up 88 = .ok (.getfield 215, 3) := by decide +kernel
theorem dX9_up_91 : decode cX9_up 91 = .ok (.if_icmp .ge 39, 3) := by decide +kernel
theorem dX9_up_94 : decode cX9_up 94 = .ok (.iload_n 3, 1) := by decide +kernel
theorem dX9_up_95 : decode cX9_up 95 = .ok (.aload_n 0, 1) := by decide +kernel
theorem dX9_up_96 : decode cX9_up 96 = .ok (.getfield 84, 3) := by decide +kernel
theorem dX9_up_99 : decode cX9_up 99 = .ok (.iload 4, 2) := by decide +kernel
theorem dX9_up_101 : decode cX9_up 101 = .ok (.baload, 1) := by decide +kernel
theorem dX9_up_102 : decode cX9_up 102 = .ok (.ifCond .eq 19, 3) := by decide +kernel
theorem dX9_up_105 : decode cX9_up 105 = .ok (.iload 4, 2) := by decide +kernel
theorem dX9_up_107 : decode cX9_up 107 = .ok (.iload_n 1, 1) := by decide +kernel
theorem dX9_up_108 : decode cX9_up 108 = .ok (.if_icmp .eq 13, 3) := by decide +kernel
theorem dX9_up_111 : decode cX9_up 111 = .ok (.aload_n 0, 1) := by decide +kernel
theorem dX9_up_112 : decode cX9_up 112 = .ok (.iload_n 1, 1) := by decide +kernel
theorem dX9_up_113 : decode cX9_up 113 = .ok (.iload 4, 2) := by decide +kernel
theorem dX9_up_115 : decode cX9_up 115 = .ok (.invokevirtual 286, 3) := by decide +kernel
theorem dX9_up_118 : decode cX9_up 118 = .ok (.goto 4, 3) := by decide +kernel
theorem dX9_up_121 : decode cX9_up 121 = .ok (.iconst 0, 1) := by decide +kernel
theorem dX9_up_122 : decode cX9_up 122 = .ok (.iadd, 1) := by decide +kernel
theorem dX9_up_123 : decode cX9_up 123 = .ok (.istore_n 3, 1) := by decide +kernel
theorem dX9_up_124 : decode cX9_up 124 = .ok (.iinc 4 1, 3) := by decide +kernel
theorem dX9_up_127 : decode cX9_up 127 = .ok (.goto (-42), 3) := by decide +kernel
theorem dX9_up_130 : decode cX9_up 130 = .ok (.aload_n 0, 1) := by decide +kernel
theorem dX9_up_131 : decode cX9_up 131 = .ok (.iconst 0, 1) := by decide +kernel
theorem dX9_up_132 : decode cX9_up 132 = .ok (.putfield 1, 3) := by decide +kernel
theorem dX9_up_135 : decode cX9_up 135 = .ok (.iload_n 3, 1) := by decide +kernel
theorem dX9_up_136 : decode cX9_up 136 = .ok (.ireturn, 1) := by decide +kernel
theorem dX9_sweep_0 : decode cX9_sweep 0 = .ok (.iload_n 1, 1) := by decide +kernel
theorem dX9_sweep_1 : decode cX9_sweep 1 = .ok (.iload_n 2, 1) := by decide +kernel
theorem dX9_sweep_2 : decode cX9_sweep 2 = .ok (.if_icmp .ne 7, 3) := by decide +kernel
theorem dX9_sweep_5 : decode cX9_sweep 5 = .ok (.iconst 1, 1) := by decide +kernel
theorem dX9_sweep_6 : decode cX9_sweep 6 = .ok (.goto 8, 3) := by decide +kernel
theorem dX9_sweep_9 : decode cX9_sweep 9 = .ok (.aload_n 0, 1) := by decide +kernel
theorem dX9_sweep_10 : decode cX9_sweep 10 = .ok (.iload_n 1, 1) := by decide +kernel
theorem dX9_sweep_11 : decode cX9_sweep 11 = .ok (.invokevirtual 283, 3) := by decide +kernel
theorem dX9_sweep_14 : decode cX9_sweep 14 = .ok (.istore_n 3, 1) := by decide +kernel
theorem dX9_sweep_15 : decode cX9_sweep 15 = .ok (.aload_n 0, 1) := by decide +kernel
theorem dX9_sweep_16 : decode cX9_sweep 16 = .ok (.iload_n 2, 1) := by decide +kernel
theorem dX9_sweep_17 : decode cX9_sweep 17 = .ok (.invokevirtual 283, 3) := by decide +kernel
theorem dX9_sweep_20 : decode cX9_sweep 20 = .ok (.istore 4, 2) := by decide +kernel
theorem dX9_sweep_22 : decode cX9_sweep 22 = .ok (.iload_n 3, 1) := by decide +kernel
theorem dX9_sweep_23 : decode cX9_sweep 23 = .ok (.ifCond .eq 9, 3) := by decide +kernel
theorem dX9_sweep_26 : decode cX9_sweep 26 = .ok (.iload 4, 2) := by decide +kernel
theorem dX9_sweep_28 : decode cX9_sweep 28 = .ok (.iconst 1, 1) := by decide +kernel
theorem dX9_sweep_29 : decode cX9_sweep 29 = .ok (.if_icmp .ne 6, 3) := by decide +kernel
theorem dX9_sweep_32 : decode cX9_sweep 32 = .ok (.iload 4, 2) := by decide +kernel
theorem dX9_sweep_34 : decode cX9_sweep 34 = .ok (.istore_n 3, 1) := by decide +kernel
theorem dX9_sweep_35 : decode cX9_sweep 35 = .ok (.iload_n 3, 1) := by decide +kernel
theorem dX9_sweep_36 : decode cX9_sweep 36 = .ok (.ifCond .ne 23, 3) := by decide +kernel
theorem dX9_sweep_39 : decode cX9_sweep 39 = .ok (.aload_n 0, 1) := by decide +kernel
theorem dX9_sweep_40 : decode cX9_sweep 40 = .ok (.getfield 84, 3) := by decide +kernel
theorem dX9_sweep_43 : decode cX9_sweep 43 = .ok (.iload_n 1, 1) := by decide +kernel
theorem dX9_sweep_44 : decode cX9_sweep 44 = .ok (.baload, 1) := by decide +kernel
theorem dX9_sweep_45 : decode cX9_sweep 45 = .ok (.ifCond .eq 12, 3) := by decide +kernel
theorem dX9_sweep_48 : decode cX9_sweep 48 = .ok (.aload_n 0, 1) := by decide +kernel
theorem dX9_sweep_49 : decode cX9_sweep 49 = .ok (.getfield 84, 3) := by decide +kernel
theorem dX9_sweep_52 : decode cX9_sweep 52 = .ok (.iload_n 2, 1) := by decide +kernel
theorem dX9_sweep_53 : decode cX9_sweep 53 = .ok (.baload, 1) := by decide +kernel
theorem dX9_sweep_54 : decode cX9_sweep 54 = .ok (.ifCond .ne 5, 3) := by decide +kernel
theorem dX9_sweep_57 : decode cX9_sweep 57 = .ok (.iconst 5, 1) := by decide +kernel
theorem dX9_sweep_58 : decode cX9_sweep 58 = .ok (.istore_n 3, 1) := by decide +kernel
theorem dX9_sweep_59 : decode cX9_sweep 59 = .ok (.iload_n 3, 1) := by decide +kernel
theorem dX9_sweep_60 : decode cX9_sweep 60 = .ok (.ifCond .le 9, 3) := by decide +kernel
theorem dX9_sweep_63 : decode cX9_sweep 63 = .ok (.aload_n 0, 1) := by decide +kernel
theorem dX9_sweep_64 : decode cX9_sweep 64 = .ok (.iload_n 3, 1) := by decide +kernel
theorem dX9_sweep_65 : decode cX9_sweep 65 = .ok (.invokevirtual 154, 3) := by decide +kernel
theorem dX9_sweep_68 : decode cX9_sweep 68 = .ok (.ireturn, 1) := by decide +kernel
theorem dX9_sweep_69 : decode cX9_sweep 69 = .ok (.aload_n 0, 1) := by decide +kernel
theorem dX9_sweep_70 : decode cX9_sweep 70 = .ok (.iconst 0, 1) := by decide +kernel
theorem dX9_sweep_71 : decode cX9_sweep 71 = .ok (.putfield 1, 3) := by decide +kernel
theorem dX9_sweep_74 : decode cX9_sweep 74 = .ok (.aload_n 0, 1) := by decide +kernel
theorem dX9_sweep_75 : decode cX9_sweep 75 = .ok (.getfield 78, 3) := by decide +kernel
theorem dX9_sweep_78 : decode cX9_sweep 78 = .ok (.iload_n 1, 1) := by decide +kernel
theorem dX9_sweep_79 : decode cX9_sweep 79 = .ok (.iaload, 1) := by decide +kernel
theorem dX9_sweep_80 : decode cX9_sweep 80 = .ok (.aload_n 0, 1) := by decide +kernel
theorem dX9_sweep_81 : decode cX9_sweep 81 = .ok (.getfield 78, 3) := by decide +kernel
theorem dX9_sweep_84 : decode cX9_sweep 84 = .ok (.iload_n 2, 1) := by decide +kernel
theorem dX9_sweep_85 : decode cX9_sweep 85 = .ok (.iaload, 1) := by decide +kernel
theorem dX9_sweep_86 : decode cX9_sweep 86 = .ok (.invokestatic 270, 3) := by decide +kernel
theorem dX9_sweep_89 : decode cX9_sweep 89 = .ok (.istore 5, 2) := by decide +kernel
theorem dX9_sweep_91 : decode cX9_sweep 91 = .ok (.aload_n 0, 1) := by decide +kernel
theorem dX9_sweep_92 : decode cX9_sweep 92 = .ok (.getfield 78, 3) := by decide +kernel
theorem dX9_sweep_95 : decode cX9_sweep 95 = .ok (.iload_n 1, 1) := by decide +kernel
theorem dX9_sweep_96 : decode cX9_sweep 96 = .ok (.iaload, 1) := by decide +kernel
theorem dX9_sweep_97 : decode cX9_sweep 97 = .ok (.aload_n 0, 1) := by decide +kernel
theorem dX9_sweep_98 : decode cX9_sweep 98 = .ok (.getfield 78, 3) := by decide +kernel
theorem dX9_sweep_101 : decode cX9_sweep 101 = .ok (.iload_n 2, 1) := by decide +kernel
theorem dX9_sweep_102 : decode cX9_sweep 102 = .ok (.iaload, 1) := by decide +kernel
theorem dX9_sweep_103 : decode cX9_sweep 103 = .ok (.if_icmp .eq 7, 3) := by decide +kernel
theorem dX9_sweep_106 : decode cX9_sweep 106 = .ok (.iconst 1, 1) := by decide +kernel
theorem dX9_sweep_107 : decode cX9_sweep 107 = .ok (.goto 4, 3) := by decide +kernel
theorem dX9_sweep_110 : decode cX9_sweep 110 = .ok (.iconst 0, 1) := by decide +kernel
theorem dX9_sweep_111 : decode cX9_sweep 111 = .ok (.istore 6, 2) := by decide +kernel
theorem dX9_sweep_113 : decode cX9_sweep 113 = .ok (.aload_n 0, 1) := by decide +kernel
theorem dX9_sweep_114 : decode cX9_sweep 114 = .ok (.getfield 78, 3) := by decide +kernel
theorem dX9_sweep_117 : decode cX9_sweep 117 = .ok (.iload_n 1, 1) := by decide +kernel
theorem dX9_sweep_118 : decode cX9_sweep 118 = .ok (.iload 5, 2) := by decide +kernel
theorem dX9_sweep_120 : decode cX9_sweep 120 = .ok (.iastore, 1) := by decide +kernel
theorem dX9_sweep_121 : decode cX9_sweep 121 = .ok (.aload_n 0, 1) := by decide +kernel
theorem dX9_sweep_122 : decode cX9_sweep 122 = .ok (.getfield 78, 3) := by decide +kernel
theorem dX9_sweep_125 : decode cX9_sweep 125 = .ok (.iload_n 2, 1) := by decide +kernel
theorem dX9_sweep_126 : decode cX9_sweep 126 = .ok (.iload 5, 2) := by decide +kernel
theorem dX9_sweep_128 : decode cX9_sweep 128 = .ok (.iastore, 1) := by decide +kernel
theorem dX9_sweep_129 : decode cX9_sweep 129 = .ok (.iload 6, 2) := by decide +kernel
theorem dX9_sweep_131 : decode cX9_sweep 131 = .ok (.ifCond .eq 7, 3) := by decide +kernel
theorem dX9_sweep_134 : decode cX9_sweep 134 = .ok (.iconst 1, 1) := by decide +kernel
theorem dX9_sweep_135 : decode cX9_sweep 135 = .ok (.goto 4, 3) := by decide +kernel
theorem dX9_sweep_138 : decode cX9_sweep 138 = .ok (.iconst 0, 1) := by decide +kernel
theorem dX9_sweep_139 : decode cX9_sweep 139 = .ok (.ireturn, 1) := by decide +kernel
theorem dX9_of_0 : decode cX9_of 0 = .ok (.iload_n 2, 1) := by decide +kernel
theorem dX9_of_1 : decode cX9_of 1 = .ok (.ifCond .lt 8, 3) := by decide +kernel
theorem dX9_of_4 : decode cX9_of 4 = .ok (.iload_n 2, 1) := by decide +kernel
theorem dX9_of_5 : decode cX9_of 5 = .ok (.iconst 2, 1) := by decide +kernel
theorem dX9_of_6 : decode cX9_of 6 = .ok (.if_icmp .le 7, 3) := by decide +kernel
theorem dX9_of_9 : decode cX9_of 9 = .ok (.iconst 1, 1) := by decide +kernel
theorem dX9_of_10 : decode cX9_of 10 = .ok (.goto 8, 3) := by decide +kernel
theorem dX9_of_13 : decode cX9_of 13 = .ok (.aload_n 0, 1) := by decide +kernel
theorem dX9_of_14 : decode cX9_of 14 = .ok (.iload_n 1, 1) := by decide +kernel
theorem dX9_of_15 : decode cX9_of 15 = .ok (.invokevirtual 283, 3) := by decide +kernel
theorem dX9_of_18 : decode cX9_of 18 = .ok (.istore_n 3, 1) := by decide +kernel
theorem dX9_of_19 : decode cX9_of 19 = .ok (.iload_n 3, 1) := by decide +kernel
theorem dX9_of_20 : decode cX9_of 20 = .ok (.ifCond .le 9, 3) := by decide +kernel
theorem dX9_of_23 : decode cX9_of 23 = .ok (.aload_n 0, 1) := by decide +kernel
theorem dX9_of_24 : decode cX9_of 24 = .ok (.iload_n 3, 1) := by decide +kernel
theorem dX9_of_25 : decode cX9_of 25 = .ok (.invokevirtual 154, 3) := by decide +kernel
theorem dX9_of_28 : decode cX9_of 28 = .ok (.ireturn, 1) := by decide +kernel
theorem dX9_of_29 : decode cX9_of 29 = .ok (.aload_n 0, 1) := by decide +kernel
theorem dX9_of_30 : decode cX9_of 30 = .ok (.iconst 0, 1) := by decide +kernel
theorem dX9_of_31 : decode cX9_of 31 = .ok (.putfield 1, 3) := by decide +kernel
theorem dX9_of_34 : decode cX9_of 34 = .ok (.iload_n 2, 1) := by decide +kernel
theorem dX9_of_35 : decode cX9_of 35 = .ok (.ifCond .ne 10, 3) := by decide +kernel
theorem dX9_of_38 : decode cX9_of 38 = .ok (.aload_n 0, 1) := by decide +kernel
theorem dX9_of_39 : decode cX9_of 39 = .ok (.getfield 78, 3) := by decide +kernel
theorem dX9_of_42 : decode cX9_of 42 = .ok (.iload_n 1, 1) := by decide +kernel
theorem dX9_of_43 : decode cX9_of 43 = .ok (.iaload, 1) := by decide +kernel
theorem dX9_of_44 : decode cX9_of 44 = .ok (.ireturn, 1) := by decide +kernel
theorem dX9_of_45 : decode cX9_of 45 = .ok (.iload_n 2, 1) := by decide +kernel
theorem dX9_of_46 : decode cX9_of 46 = .ok (.iconst 1, 1) := by decide +kernel
theorem dX9_of_47 : decode cX9_of 47 = .ok (.if_icmp .ne 18, 3) := by decide +kernel
theorem dX9_of_50 : decode cX9_of 50 = .ok (.aload_n 0, 1) := by decide +kernel
theorem dX9_of_51 : decode cX9_of 51 = .ok (.getfield 84, 3) := by decide +kernel
theorem dX9_of_54 : decode cX9_of 54 = .ok (.iload_n 1, 1) := by decide +kernel
theorem dX9_of_55 : decode cX9_of 55 = .ok (.baload, 1) := by decide +kernel
theorem dX9_of_56 : decode cX9_of 56 = .ok (.ifCond .eq 7, 3) := by decide +kernel
theorem dX9_of_59 : decode cX9_of 59 = .ok (.iconst 1, 1) := by decide +kernel
theorem dX9_of_60 : decode cX9_of 60 = .ok (.goto 4, 3) := by decide +kernel
theorem dX9_of_63 : decode cX9_of 63 = .ok (.iconst 0, 1) := by decide +kernel
theorem dX9_of_64 : decode cX9_of 64 = .ok (.ireturn, 1) := by decide +kernel
theorem dX9_of_65 : decode cX9_of 65 = .ok (.iconst 0, 1) := by decide +kernel
theorem dX9_of_66 : decode cX9_of 66 = .ok (.istore 4, 2) := by decide +kernel
theorem dX9_of_68 : decode cX9_of 68 = .ok (.iconst 0, 1) := by decide +kernel
theorem dX9_of_69 : decode cX9_of 69 = .ok (.istore 5, 2) := by decide +kernel
theorem dX9_of_71 : decode cX9_of 71 = .ok (.iload 5, 2) := by decide +kernel
theorem dX9_of_73 : decode cX9_of 73 = .ok (.iconst 5, 1) := by decide +kernel
theorem dX9_of_74 : decode cX9_of 74 = .ok (.if_icmp .ge 33, 3) := by decide +kernel
theorem dX9_of_77 : decode cX9_of 77 = .ok (.iload 4, 2) := by decide +kernel
theorem dX9_of_79 : decode cX9_of 79 = .ok (.aload_n 0, 1) := by decide +kernel
theorem dX9_of_80 : decode cX9_of 80 = .ok (.getfield 81, 3) := by decide +kernel
theorem dX9_of_83 : decode cX9_of 83 = .ok (.iconst 5, 1) := by decide +kernel
theorem dX9_of_84 : decode cX9_of 84 = .ok (.iload_n 1, 1) := by decide +kernel
theorem dX9_of_85 : decode cX9_of 85 = .ok (.imul, 1) := by decide +kernel
theorem dX9_of_86 : decode cX9_of 86 = .ok (.iload 5, 2) := by decide +kernel
theorem dX9_of_88 : decode cX9_of 88 = .ok (.iadd, 1) := by decide +kernel
theorem dX9_of_89 : decode cX9_of 89 = .ok (.iaload, 1) := by decide +kernel
theorem dX9_of_90 : decode cX9_of 90 = .ok (.ifCond .le 7, 3) := by decide +kernel
theorem dX9_of_93 : decode cX9_of 93 = .ok (.iconst 1, 1) := by decide +kernel
theorem dX9_of_94 : decode cX9_of 94 = .ok (.goto 4, 3) := by decide +kernel
theorem dX9_of_97 : decode cX9_of 97 = .ok (.iconst 0, 1) := by decide +kernel
theorem dX9_of_98 : decode cX9_of 98 = .ok (.iadd, 1) := by decide +kernel
theorem dX9_of_99 : decode cX9_of 99 = .ok (.istore 4, 2) := by decide +kernel
theorem dX9_of_101 : decode cX9_of 101 = .ok (.iinc 5 1, 3) := by decide +kernel
theorem dX9_of_104 : decode cX9_of 104 = .ok (.goto (-33), 3) := by decide +kernel
theorem dX9_of_107 : decode cX9_of 107 = .ok (.iload 4, 2) := by decide +kernel
theorem dX9_of_109 : decode cX9_of 109 = .ok (.ireturn, 1) := by decide +kernel
theorem dX9_done_0 : decode cX9_done 0 = .ok (.iload_n 1, 1) := by decide +kernel
theorem dX9_done_1 : decode cX9_done 1 = .ok (.iconst 1, 1) := by decide +kernel
theorem dX9_done_2 : decode cX9_done 2 = .ok (.if_icmp .lt 9, 3) := by decide +kernel
theorem dX9_done_5 : decode cX9_done 5 = .ok (.iload_n 1, 1) := by decide +kernel
theorem dX9_done_6 : decode cX9_done 6 = .ok (.bipush 40, 2) := by decide +kernel
theorem dX9_done_8 : decode cX9_done 8 = .ok (.if_icmp .le 7, 3) := by decide +kernel
theorem dX9_done_11 : decode cX9_done 11 = .ok (.iconst 1, 1) := by decide +kernel
theorem dX9_done_12 : decode cX9_done 12 = .ok (.goto 42, 3) := by decide +kernel
theorem dX9_done_15 : decode cX9_done 15 = .ok (.aload_n 0, 1) := by decide +kernel
theorem dX9_done_16 : decode cX9_done 16 = .ok (.getfield 208, 3) := by decide +kernel
theorem dX9_done_19 : decode cX9_done 19 = .ok (.ifCond .ne 7, 3) := by decide +kernel
theorem dX9_done_22 : decode cX9_done 22 = .ok (.iconst 4, 1) := by decide +kernel
theorem dX9_done_23 : decode cX9_done 23 = .ok (.goto 31, 3) := by decide +kernel
theorem dX9_done_26 : decode cX9_done 26 = .ok (.iload_n 1, 1) := by decide +kernel
theorem dX9_done_27 : decode cX9_done 27 = .ok (.aload_n 0, 1) := by decide +kernel
theorem dX9_done_28 : decode cX9_done 28 = .ok (.getfield 236, 3) := by decide +kernel
theorem dX9_done_31 : decode cX9_done 31 = .ok (.if_icmp .le 7, 3) := by decide +kernel
theorem dX9_done_34 : decode cX9_done 34 = .ok (.iconst 1, 1) := by decide +kernel
theorem dX9_done_35 : decode cX9_done 35 = .ok (.goto 19, 3) := by decide +kernel
theorem dX9_done_38 : decode cX9_done 38 = .ok (.aload_n 0, 1) := by decide +kernel
theorem dX9_done_39 : decode cX9_done 39 = .ok (.getfield 118, 3) := by decide +kernel
theorem dX9_done_42 : decode cX9_done 42 = .ok (.iload_n 1, 1) := by decide +kernel
theorem dX9_done_43 : decode cX9_done 43 = .ok (.iaload, 1) := by decide +kernel
theorem dX9_done_44 : decode cX9_done 44 = .ok (.iconst (-1), 1) := by decide +kernel
theorem dX9_done_45 : decode cX9_done 45 = .ok (.if_icmp .ne 8, 3) := by decide +kernel
theorem dX9_done_48 : decode cX9_done 48 = .ok (.bipush 7, 2) := by decide +kernel
theorem dX9_done_50 : decode cX9_done 50 = .ok (.goto 4, 3) := by decide +kernel
theorem dX9_done_53 : decode cX9_done 53 = .ok (.iconst 0, 1) := by decide +kernel
theorem dX9_done_54 : decode cX9_done 54 = .ok (.istore_n 2, 1) := by decide +kernel
theorem dX9_done_55 : decode cX9_done 55 = .ok (.iload_n 2, 1) := by decide +kernel
theorem dX9_done_56 : decode cX9_done 56 = .ok (.ifCond .le 9, 3) := by decide +kernel
theorem dX9_done_59 : decode cX9_done 59 = .ok (.aload_n 0, 1) := by decide +kernel
theorem dX9_done_60 : decode cX9_done 60 = .ok (.iload_n 2, 1) := by decide +kernel
theorem dX9_done_61 : decode cX9_done 61 = .ok (.invokevirtual 154, 3) := by decide +kernel
theorem dX9_done_64 : decode cX9_done 64 = .ok (.ireturn, 1) := by decide +kernel
theorem dX9_done_65 : decode cX9_done 65 = .ok (.aload_n 0, 1) := by decide +kernel
theorem dX9_done_66 : decode cX9_done 66 = .ok (.iconst 0, 1) := by decide +kernel
theorem dX9_done_67 : decode cX9_done 67 = .ok (.putfield 1, 3) := by decide +kernel
theorem dX9_done_70 : decode cX9_done 70 = .ok (.aload_n 0, 1) := by decide +kernel
theorem dX9_done_71 : decode cX9_done 71 = .ok (.getfield 118, 3) := by decide +kernel
theorem dX9_done_74 : decode cX9_done 74 = .ok (.iload_n 1, 1) := by decide +kernel
theorem dX9_done_75 : decode cX9_done 75 = .ok (.iaload, 1) := by decide +kernel
theorem dX9_done_76 : decode cX9_done 76 = .ok (.ireturn, 1) := by decide +kernel
theorem dX9_missed_0 : decode cX9_missed 0 = .ok (.iconst 0, 1) := by decide +kernel
theorem dX9_missed_1 : decode cX9_missed 1 = .ok (.istore_n 2, 1) := by decide +kernel
theorem dX9_missed_2 : decode cX9_missed 2 = .ok (.aload_n 0, 1) := by decide +kernel
theorem dX9_missed_3 : decode cX9_missed 3 = .ok (.getfield 136, 3) := by decide +kernel
theorem dX9_missed_6 : decode cX9_missed 6 = .ok (.iload_n 1, 1) := by decide +kernel
theorem dX9_missed_7 : decode cX9_missed 7 = .ok (.iaload, 1) := by decide +kernel
theorem dX9_missed_8 : decode cX9_missed 8 = .ok (.iconst 1, 1) := by decide +kernel
theorem dX9_missed_9 : decode cX9_missed 9 = .ok (.iadd, 1) := by decide +kernel
theorem dX9_missed_10 : decode cX9_missed 10 = .ok (.istore_n 3, 1) := by decide +kernel
theorem dX9_missed_11 : decode cX9_missed 11 = .ok (.iload_n 3, 1) := by decide +kernel
theorem dX9_missed_12 : decode cX9_missed 12 = .ok (.aload_n 0, 1) := by decide +kernel
theorem dX9_missed_13 : decode cX9_missed 13 = .ok (.getfield 236, 3) := by decide +kernel
theorem dX9_missed_16 : decode cX9_missed 16 = .ok (.if_icmp .gt 42, 3) := by decide +kernel
theorem dX9_missed_19 : decode cX9_missed 19 = .ok (.iload_n 2, 1) := by decide +kernel
theorem dX9_missed_20 : decode cX9_missed 20 = .ok (.aload_n 0, 1) := by decide +kernel
theorem dX9_missed_21 : decode cX9_missed 21 = .ok (.getfield 118, 3) := by decide +kernel
theorem dX9_missed_24 : decode cX9_missed 24 = .ok (.iload_n 3, 1) := by decide +kernel
theorem dX9_missed_25 : decode cX9_missed 25 = .ok (.iaload, 1) := by decide +kernel
theorem dX9_missed_26 : decode cX9_missed 26 = .ok (.iconst (-1), 1) := by decide +kernel
theorem dX9_missed_27 : decode cX9_missed 27 = .ok (.if_icmp .eq 22, 3) := by decide +kernel
theorem dX9_missed_30 : decode cX9_missed 30 = .ok (.aload_n 0, 1) := by decide +kernel
theorem dX9_missed_31 : decode cX9_missed 31 = .ok (.getfield 118, 3) := by decide +kernel
theorem dX9_missed_34 : decode cX9_missed 34 = .ok (.iload_n 3, 1) := by decide +kernel
theorem dX9_missed_35 : decode cX9_missed 35 = .ok (.iaload, 1) := by decide +kernel
theorem dX9_missed_36 : decode cX9_missed 36 = .ok (.aload_n 0, 1) := by decide +kernel
theorem dX9_missed_37 : decode cX9_missed 37 = .ok (.getfield 121, 3) := by decide +kernel
theorem dX9_missed_40 : decode cX9_missed 40 = .ok (.iload_n 1, 1) := by decide +kernel
theorem dX9_missed_41 : decode cX9_missed 41 = .ok (.iaload, 1) := by decide +kernel
theorem dX9_missed_42 : decode cX9_missed 42 = .ok (.if_icmp .ge 7, 3) := by decide +kernel
theorem dX9_missed_45 : decode cX9_missed 45 = .ok (.iconst 1, 1) := by decide +kernel
theorem dX9_missed_46 : decode cX9_missed 46 = .ok (.goto 4, 3) := by decide +kernel
theorem dX9_missed_49 : decode cX9_missed 49 = .ok (.iconst 0, 1) := by decide +kernel
theorem dX9_missed_50 : decode cX9_missed 50 = .ok (.iadd, 1) := by decide +kernel
theorem dX9_missed_51 : decode cX9_missed 51 = .ok (.istore_n 2, 1) := by decide +kernel
theorem dX9_missed_52 : decode cX9_missed 52 = .ok (.iinc 3 1, 3) := by decide +kernel
theorem dX9_missed_55 : decode cX9_missed 55 = .ok (.goto (-44), 3) := by decide +kernel
theorem dX9_missed_58 : decode cX9_missed 58 = .ok (.iload_n 2, 1) := by decide +kernel
theorem dX9_missed_59 : decode cX9_missed 59 = .ok (.ireturn, 1) := by decide +kernel
theorem dX9_got_0 : decode cX9_got 0 = .ok (.iload_n 1, 1) := by decide +kernel
theorem dX9_got_1 : decode cX9_got 1 = .ok (.ifCond .lt 18, 3) := by decide +kernel
theorem dX9_got_4 : decode cX9_got 4 = .ok (.iload_n 1, 1) := by decide +kernel
theorem dX9_got_5 : decode cX9_got 5 = .ok (.bipush 40, 2) := by decide +kernel
theorem dX9_got_7 : decode cX9_got 7 = .ok (.if_icmp .ge 12, 3) := by decide +kernel
theorem dX9_got_10 : decode cX9_got 10 = .ok (.iload_n 2, 1) := by decide +kernel
theorem dX9_got_11 : decode cX9_got 11 = .ok (.ifCond .lt 8, 3) := by decide +kernel
theorem dX9_got_14 : decode cX9_got 14 = .ok (.iload_n 2, 1) := by decide +kernel
theorem dX9_got_15 : decode cX9_got 15 = .ok (.iconst 2, 1) := by decide +kernel
theorem dX9_got_16 : decode cX9_got 16 = .ok (.if_icmp .le 7, 3) := by decide +kernel
theorem dX9_got_19 : decode cX9_got 19 = .ok (.iconst 1, 1) := by decide +kernel
theorem dX9_got_20 : decode cX9_got 20 = .ok (.goto 42, 3) := by decide +kernel
theorem dX9_got_23 : decode cX9_got 23 = .ok (.aload_n 0, 1) := by decide +kernel
theorem dX9_got_24 : decode cX9_got 24 = .ok (.getfield 208, 3) := by decide +kernel
theorem dX9_got_27 : decode cX9_got 27 = .ok (.ifCond .ne 7, 3) := by decide +kernel
theorem dX9_got_30 : decode cX9_got 30 = .ok (.iconst 4, 1) := by decide +kernel
theorem dX9_got_31 : decode cX9_got 31 = .ok (.goto 31, 3) := by decide +kernel
theorem dX9_got_34 : decode cX9_got 34 = .ok (.iload_n 1, 1) := by decide +kernel
theorem dX9_got_35 : decode cX9_got 35 = .ok (.aload_n 0, 1) := by decide +kernel
theorem dX9_got_36 : decode cX9_got 36 = .ok (.getfield 239, 3) := by decide +kernel
theorem dX9_got_39 : decode cX9_got 39 = .ok (.if_icmp .lt 7, 3) := by decide +kernel
theorem dX9_got_42 : decode cX9_got 42 = .ok (.iconst 1, 1) := by decide +kernel
theorem dX9_got_43 : decode cX9_got 43 = .ok (.goto 19, 3) := by decide +kernel
theorem dX9_got_46 : decode cX9_got 46 = .ok (.aload_n 0, 1) := by decide +kernel
theorem dX9_got_47 : decode cX9_got 47 = .ok (.getfield 130, 3) := by decide +kernel
theorem dX9_got_50 : decode cX9_got 50 = .ok (.iload_n 1, 1) := by decide +kernel
theorem dX9_got_51 : decode cX9_got 51 = .ok (.iaload, 1) := by decide +kernel
theorem dX9_got_52 : decode cX9_got 52 = .ok (.iconst (-1), 1) := by decide +kernel
theorem dX9_got_53 : decode cX9_got 53 = .ok (.if_icmp .ne 8, 3) := by decide +kernel
theorem dX9_got_56 : decode cX9_got 56 = .ok (.bipush 7, 2) := by decide +kernel
theorem dX9_got_58 : decode cX9_got 58 = .ok (.goto 4, 3) := by decide +kernel
theorem dX9_got_61 : decode cX9_got 61 = .ok (.iconst 0, 1) := by decide +kernel
theorem dX9_got_62 : decode cX9_got 62 = .ok (.istore_n 3, 1) := by decide +kernel
theorem dX9_got_63 : decode cX9_got 63 = .ok (.iload_n 3, 1) := by decide +kernel
theorem dX9_got_64 : decode cX9_got 64 = .ok (.ifCond .le 9, 3) := by decide +kernel
theorem dX9_got_67 : decode cX9_got 67 = .ok (.aload_n 0, 1) := by decide +kernel
theorem dX9_got_68 : decode cX9_got 68 = .ok (.iload_n 3, 1) := by decide +kernel
theorem dX9_got_69 : decode cX9_got 69 = .ok (.invokevirtual 154, 3) := by decide +kernel
theorem dX9_got_72 : decode cX9_got 72 = .ok (.ireturn, 1) := by decide +kernel
theorem dX9_got_73 : decode cX9_got 73 = .ok (.aload_n 0, 1) := by decide +kernel
theorem dX9_got_74 : decode cX9_got 74 = .ok (.iconst 0, 1) := by decide +kernel
theorem dX9_got_75 : decode cX9_got 75 = .ok (.putfield 1, 3) := by decide +kernel
theorem dX9_got_78 : decode cX9_got 78 = .ok (.iload_n 2, 1) := by decide +kernel
theorem dX9_got_79 : decode cX9_got 79 = .ok (.ifCond .ne 12, 3) := by decide +kernel
theorem dX9_got_82 : decode cX9_got 82 = .ok (.aload_n 0, 1) := by decide +kernel
theorem dX9_got_83 : decode cX9_got 83 = .ok (.getfield 130, 3) := by decide +kernel
theorem dX9_got_86 : decode cX9_got 86 = .ok (.iload_n 1, 1) := by decide +kernel
theorem dX9_got_87 : decode cX9_got 87 = .ok (.iaload, 1) := by decide +kernel
theorem dX9_got_88 : decode cX9_got 88 = .ok (.goto 22, 3) := by decide +kernel
theorem dX9_got_91 : decode cX9_got 91 = .ok (.iload_n 2, 1) := by decide +kernel
theorem dX9_got_92 : decode cX9_got 92 = .ok (.iconst 1, 1) := by decide +kernel
theorem dX9_got_93 : decode cX9_got 93 = .ok (.if_icmp .ne 12, 3) := by decide +kernel
theorem dX9_got_96 : decode cX9_got 96 = .ok (.aload_n 0, 1) := by decide +kernel
theorem dX9_got_97 : decode cX9_got 97 = .ok (.getfield 133, 3) := by decide +kernel
theorem dX9_got_100 : decode cX9_got 100 = .ok (.iload_n 1, 1) := by decide +kernel
theorem dX9_got_101 : decode cX9_got 101 = .ok (.iaload, 1) := by decide +kernel
theorem dX9_got_102 : decode cX9_got 102 = .ok (.goto 8, 3) := by decide +kernel
theorem dX9_got_105 : decode cX9_got 105 = .ok (.aload_n 0, 1) := by decide +kernel
theorem dX9_got_106 : decode cX9_got 106 = .ok (.iload_n 1, 1) := by decide +kernel
theorem dX9_got_107 : decode cX9_got 107 = .ok (.invokevirtual 289, 3) := by decide +kernel
theorem dX9_got_110 : decode cX9_got 110 = .ok (.ireturn, 1) := by decide +kernel
theorem dX9_tell_0 : decode cX9_tell 0 = .ok (.iload_n 1, 1) := by decide +kernel
theorem dX9_tell_1 : decode cX9_tell 1 = .ok (.ifCond .lt 9, 3) := by decide +kernel
theorem dX9_tell_4 : decode cX9_tell 4 = .ok (.iload_n 1, 1) := by decide +kernel
theorem dX9_tell_5 : decode cX9_tell 5 = .ok (.bipush 6, 2) := by decide +kernel
theorem dX9_tell_7 : decode cX9_tell 7 = .ok (.if_icmp .le 9, 3) := by decide +kernel
theorem dX9_tell_10 : decode cX9_tell 10 = .ok (.aload_n 0, 1) := by decide +kernel
theorem dX9_tell_11 : decode cX9_tell 11 = .ok (.iconst 1, 1) := by decide +kernel
theorem dX9_tell_12 : decode cX9_tell 12 = .ok (.invokevirtual 154, 3) := by decide +kernel
theorem dX9_tell_15 : decode cX9_tell 15 = .ok (.ireturn, 1) := by decide +kernel
theorem dX9_tell_16 : decode cX9_tell 16 = .ok (.aload_n 0, 1) := by decide +kernel
theorem dX9_tell_17 : decode cX9_tell 17 = .ok (.getfield 208, 3) := by decide +kernel
theorem dX9_tell_20 : decode cX9_tell 20 = .ok (.ifCond .ne 9, 3) := by decide +kernel
theorem dX9_tell_23 : decode cX9_tell 23 = .ok (.aload_n 0, 1) := by decide +kernel
theorem dX9_tell_24 : decode cX9_tell 24 = .ok (.iconst 4, 1) := by decide +kernel
theorem dX9_tell_25 : decode cX9_tell 25 = .ok (.invokevirtual 154, 3) := by decide +kernel
theorem dX9_tell_28 : decode cX9_tell 28 = .ok (.ireturn, 1) := by decide +kernel
theorem dX9_tell_29 : decode cX9_tell 29 = .ok (.aload_n 0, 1) := by decide +kernel
theorem dX9_tell_30 : decode cX9_tell 30 = .ok (.iconst 0, 1) := by decide +kernel
theorem dX9_tell_31 : decode cX9_tell 31 = .ok (.putfield 1, 3) := by decide +kernel
theorem dX9_tell_34 : decode cX9_tell 34 = .ok (.iconst 0, 1) := by decide +kernel
theorem dX9_tell_35 : decode cX9_tell 35 = .ok (.istore_n 2, 1) := by decide +kernel
theorem dX9_tell_36 : decode cX9_tell 36 = .ok (.iload_n 1, 1) := by decide +kernel
theorem dX9_tell_37 : decode cX9_tell 37 = .ok (.tableswitch 69 0 5 #[39, 44, 49, 54, 59, 64], 39) := by decide +kernel
theorem dX9_tell_76 : decode cX9_tell 76 = .ok (.aload_n 0, 1) := by decide +kernel
theorem dX9_tell_77 : decode cX9_tell 77 = .ok (.getfield 224, 3) := by decide +kernel
theorem dX9_tell_80 : decode cX9_tell 80 = .ok (.ireturn, 1) := by decide +kernel
theorem dX9_tell_81 : decode cX9_tell 81 = .ok (.aload_n 0, 1) := by decide +kernel
theorem dX9_tell_82 : decode cX9_tell 82 = .ok (.getfield 236, 3) := by decide +kernel
theorem dX9_tell_85 : decode cX9_tell 85 = .ok (.ireturn, 1) := by decide +kernel
theorem dX9_tell_86 : decode cX9_tell 86 = .ok (.aload_n 0, 1) := by decide +kernel
theorem dX9_tell_87 : decode cX9_tell 87 = .ok (.getfield 239, 3) := by decide +kernel
theorem dX9_tell_90 : decode cX9_tell 90 = .ok (.ireturn, 1) := by decide +kernel
theorem dX9_tell_91 : decode cX9_tell 91 = .ok (.aload_n 0, 1) := by decide +kernel
theorem dX9_tell_92 : decode cX9_tell 92 = .ok (.getfield 242, 3) := by decide +kernel
theorem dX9_tell_95 : decode cX9_tell 95 = .ok (.ireturn, 1) := by decide +kernel
theorem dX9_tell_96 : decode cX9_tell 96 = .ok (.aload_n 0, 1) := by decide +kernel
theorem dX9_tell_97 : decode cX9_tell 97 = .ok (.getfield 230, 3) := by decide +kernel
theorem dX9_tell_100 : decode cX9_tell 100 = .ok (.ireturn, 1) := by decide +kernel
theorem dX9_tell_101 : decode cX9_tell 101 = .ok (.aload_n 0, 1) := by decide +kernel
theorem dX9_tell_102 : decode cX9_tell 102 = .ok (.getfield 233, 3) := by decide +kernel
theorem dX9_tell_105 : decode cX9_tell 105 = .ok (.ireturn, 1) := by decide +kernel
theorem dX9_tell_106 : decode cX9_tell 106 = .ok (.iconst 0, 1) := by decide +kernel
theorem dX9_tell_107 : decode cX9_tell 107 = .ok (.istore_n 3, 1) := by decide +kernel
theorem dX9_tell_108 : decode cX9_tell 108 = .ok (.iload_n 3, 1) := by decide +kernel
theorem dX9_tell_109 : decode cX9_tell 109 = .ok (.aload_n 0, 1) := by decide +kernel
theorem dX9_tell_110 : decode cX9_tell 110 = .ok (.getfield 239, 3) := by decide +kernel
theorem dX9_tell_113 : decode cX9_tell 113 = .ok (.if_icmp .ge 35, 3) := by decide +kernel
theorem dX9_tell_116 : decode cX9_tell 116 = .ok (.iload_n 2, 1) := by decide +kernel
theorem dX9_tell_117 : decode cX9_tell 117 = .ok (.aload_n 0, 1) := by decide +kernel
theorem dX9_tell_118 : decode cX9_tell 118 = .ok (.getfield 130, 3) := by decide +kernel
theorem dX9_tell_121 : decode cX9_tell 121 = .ok (.iload_n 3, 1) := by decide +kernel
theorem dX9_tell_122 : decode cX9_tell 122 = .ok (.iaload, 1) := by decide +kernel
theorem dX9_tell_123 : decode cX9_tell 123 = .ok (.iconst (-1), 1) := by decide +kernel
theorem dX9_tell_124 : decode cX9_tell 124 = .ok (.if_icmp .eq 15, 3) := by decide +kernel
theorem dX9_tell_127 : decode cX9_tell 127 = .ok (.aload_n 0, 1) := by decide +kernel
theorem dX9_tell_128 : decode cX9_tell 128 = .ok (.iload_n 3, 1) := by decide +kernel
theorem dX9_tell_129 : decode cX9_tell 129 = .ok (.invokevirtual 289, 3) := by decide +kernel
theorem dX9_tell_132 : decode cX9_tell 132 = .ok (.ifCond .le 7, 3) := by decide +kernel
theorem dX9_tell_135 : decode cX9_tell 135 = .ok (.iconst 1, 1) := by decide +kernel
theorem dX9_tell_136 : decode cX9_tell 136 = .ok (.goto 4, 3) := by decide +kernel
theorem dX9_tell_139 : decode cX9_tell 139 = .ok (.iconst 0, 1) := by decide +kernel
theorem dX9_tell_140 : decode cX9_tell 140 = .ok (.iadd, 1) := by decide +kernel
theorem dX9_tell_141 : decode cX9_tell 141 = .ok (.istore_n 2, 1) := by decide +kernel
theorem dX9_tell_142 : decode cX9_tell 142 = .ok (.iinc 3 1, 3) := by decide +kernel
theorem dX9_tell_145 : decode cX9_tell 145 = .ok (.goto (-37), 3) := by decide +kernel
theorem dX9_tell_148 : decode cX9_tell 148 = .ok (.iload_n 2, 1) := by decide +kernel
theorem dX9_tell_149 : decode cX9_tell 149 = .ok (.ireturn, 1) := by decide +kernel
