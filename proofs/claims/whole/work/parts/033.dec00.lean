/-! DECODE ROWS, by program -/
theorem d_0_0 : decode code 0 = .ok (.new 7, 3) := by decide +kernel
theorem d_0_3 : decode code 3 = .ok (.dup, 1) := by decide +kernel
theorem d_0_4 : decode code 4 = .ok (.invokespecial 9, 3) := by decide +kernel
theorem d_0_7 : decode code 7 = .ok (.astore_n 1, 1) := by decide +kernel
theorem d_0_8 : decode code 8 = .ok (.new 10, 3) := by decide +kernel
theorem d_0_11 : decode code 11 = .ok (.dup, 1) := by decide +kernel
theorem d_0_12 : decode code 12 = .ok (.invokespecial 12, 3) := by decide +kernel
theorem d_0_15 : decode code 15 = .ok (.astore_n 2, 1) := by decide +kernel
theorem d_0_16 : decode code 16 = .ok (.iconst 0, 1) := by decide +kernel
theorem d_0_17 : decode code 17 = .ok (.istore_n 3, 1) := by decide +kernel
theorem d_0_18 : decode code 18 = .ok (.iload_n 3, 1) := by decide +kernel
theorem d_0_19 : decode code 19 = .ok (.aload_n 0, 1) := by decide +kernel
theorem d_0_20 : decode code 20 = .ok (.arraylength, 1) := by decide +kernel
theorem d_0_21 : decode code 21 = .ok (.iconst 5, 1) := by decide +kernel
theorem d_0_22 : decode code 22 = .ok (.isub, 1) := by decide +kernel
theorem d_0_23 : decode code 23 = .ok (.if_icmp .gt 433, 3) := by decide +kernel
theorem d_0_26 : decode code 26 = .ok (.aload_n 0, 1) := by decide +kernel
theorem d_0_27 : decode code 27 = .ok (.iload_n 3, 1) := by decide +kernel
theorem d_0_28 : decode code 28 = .ok (.iaload, 1) := by decide +kernel
theorem d_0_29 : decode code 29 = .ok (.bipush 15, 2) := by decide +kernel
theorem d_0_31 : decode code 31 = .ok (.iand, 1) := by decide +kernel
theorem d_0_32 : decode code 32 = .ok (.tableswitch 418 0 13 #[72, 97, 110, 123, 136, 149, 162, 196, 209, 222, 245, 268, 301, 345], 72) := by decide +kernel
theorem d_0_104 : decode code 104 = .ok (.aload_n 1, 1) := by decide +kernel
theorem d_0_105 : decode code 105 = .ok (.aload_n 0, 1) := by decide +kernel
theorem d_0_106 : decode code 106 = .ok (.iload_n 3, 1) := by decide +kernel
theorem d_0_107 : decode code 107 = .ok (.iconst 1, 1) := by decide +kernel
theorem d_0_108 : decode code 108 = .ok (.iadd, 1) := by decide +kernel
theorem d_0_109 : decode code 109 = .ok (.iaload, 1) := by decide +kernel
theorem d_0_110 : decode code 110 = .ok (.i2c, 1) := by decide +kernel
theorem d_0_111 : decode code 111 = .ok (.invokevirtual 13, 3) := by decide +kernel
theorem d_0_114 : decode code 114 = .ok (.aload_n 2, 1) := by decide +kernel
theorem d_0_115 : decode code 115 = .ok (.aload_n 0, 1) := by decide +kernel
theorem d_0_116 : decode code 116 = .ok (.iload_n 3, 1) := by decide +kernel
theorem d_0_117 : decode code 117 = .ok (.iconst 1, 1) := by decide +kernel
theorem d_0_118 : decode code 118 = .ok (.iadd, 1) := by decide +kernel
theorem d_0_119 : decode code 119 = .ok (.iaload, 1) := by decide +kernel
theorem d_0_120 : decode code 120 = .ok (.i2c, 1) := by decide +kernel
theorem d_0_121 : decode code 121 = .ok (.invokevirtual 17, 3) := by decide +kernel
theorem d_0_124 : decode code 124 = .ok (.if_icmp .eq 326, 3) := by decide +kernel
theorem d_0_127 : decode code 127 = .ok (.iconst 0, 1) := by decide +kernel
theorem d_0_128 : decode code 128 = .ok (.ireturn, 1) := by decide +kernel
theorem d_0_129 : decode code 129 = .ok (.aload_n 1, 1) := by decide +kernel
theorem d_0_130 : decode code 130 = .ok (.invokevirtual 18, 3) := by decide +kernel
theorem d_0_133 : decode code 133 = .ok (.aload_n 2, 1) := by decide +kernel
theorem d_0_134 : decode code 134 = .ok (.invokevirtual 22, 3) := by decide +kernel
theorem d_0_137 : decode code 137 = .ok (.if_icmp .eq 313, 3) := by decide +kernel
theorem d_0_140 : decode code 140 = .ok (.iconst 0, 1) := by decide +kernel
theorem d_0_141 : decode code 141 = .ok (.ireturn, 1) := by decide +kernel
theorem d_0_142 : decode code 142 = .ok (.aload_n 1, 1) := by decide +kernel
theorem d_0_143 : decode code 143 = .ok (.invokevirtual 23, 3) := by decide +kernel
theorem d_0_146 : decode code 146 = .ok (.aload_n 2, 1) := by decide +kernel
theorem d_0_147 : decode code 147 = .ok (.invokevirtual 27, 3) := by decide +kernel
theorem d_0_150 : decode code 150 = .ok (.if_icmp .eq 300, 3) := by decide +kernel
theorem d_0_153 : decode code 153 = .ok (.iconst 0, 1) := by decide +kernel
theorem d_0_154 : decode code 154 = .ok (.ireturn, 1) := by decide +kernel
theorem d_0_155 : decode code 155 = .ok (.aload_n 1, 1) := by decide +kernel
theorem d_0_156 : decode code 156 = .ok (.invokevirtual 28, 3) := by decide +kernel
theorem d_0_159 : decode code 159 = .ok (.aload_n 2, 1) := by decide +kernel
theorem d_0_160 : decode code 160 = .ok (.invokevirtual 31, 3) := by decide +kernel
theorem d_0_163 : decode code 163 = .ok (.if_icmp .eq 287, 3) := by decide +kernel
theorem d_0_166 : decode code 166 = .ok (.iconst 0, 1) := by decide +kernel
theorem d_0_167 : decode code 167 = .ok (.ireturn, 1) := by decide +kernel
theorem d_0_168 : decode code 168 = .ok (.aload_n 1, 1) := by decide +kernel
theorem d_0_169 : decode code 169 = .ok (.invokevirtual 32, 3) := by decide +kernel
theorem d_0_172 : decode code 172 = .ok (.aload_n 2, 1) := by decide +kernel
theorem d_0_173 : decode code 173 = .ok (.invokevirtual 35, 3) := by decide +kernel
theorem d_0_176 : decode code 176 = .ok (.if_icmp .eq 274, 3) := by decide +kernel
theorem d_0_179 : decode code 179 = .ok (.iconst 0, 1) := by decide +kernel
theorem d_0_180 : decode code 180 = .ok (.ireturn, 1) := by decide +kernel
theorem d_0_181 : decode code 181 = .ok (.aload_n 1, 1) := by decide +kernel
theorem d_0_182 : decode code 182 = .ok (.invokevirtual 36, 3) := by decide +kernel
theorem d_0_185 : decode code 185 = .ok (.aload_n 2, 1) := by decide +kernel
theorem d_0_186 : decode code 186 = .ok (.invokevirtual 39, 3) := by decide +kernel
theorem d_0_189 : decode code 189 = .ok (.if_icmp .eq 261, 3) := by decide +kernel
theorem d_0_192 : decode code 192 = .ok (.iconst 0, 1) := by decide +kernel
theorem d_0_193 : decode code 193 = .ok (.ireturn, 1) := by decide +kernel
theorem d_0_194 : decode code 194 = .ok (.aload_n 1, 1) := by decide +kernel
theorem d_0_195 : decode code 195 = .ok (.aload_n 0, 1) := by decide +kernel
theorem d_0_196 : decode code 196 = .ok (.iload_n 3, 1) := by decide +kernel
theorem d_0_197 : decode code 197 = .ok (.iconst 1, 1) := by decide +kernel
theorem d_0_198 : decode code 198 = .ok (.iadd, 1) := by decide +kernel
theorem d_0_199 : decode code 199 = .ok (.iaload, 1) := by decide +kernel
theorem d_0_200 : decode code 200 = .ok (.aload_n 0, 1) := by decide +kernel
theorem d_0_201 : decode code 201 = .ok (.iload_n 3, 1) := by decide +kernel
theorem d_0_202 : decode code 202 = .ok (.iconst 2, 1) := by decide +kernel
theorem d_0_203 : decode code 203 = .ok (.iadd, 1) := by decide +kernel
theorem d_0_204 : decode code 204 = .ok (.iaload, 1) := by decide +kernel
theorem d_0_205 : decode code 205 = .ok (.invokevirtual 40, 3) := by decide +kernel
theorem d_0_208 : decode code 208 = .ok (.aload_n 2, 1) := by decide +kernel
theorem d_0_209 : decode code 209 = .ok (.aload_n 0, 1) := by decide +kernel
theorem d_0_210 : decode code 210 = .ok (.iload_n 3, 1) := by decide +kernel
theorem d_0_211 : decode code 211 = .ok (.iconst 1, 1) := by decide +kernel
theorem d_0_212 : decode code 212 = .ok (.iadd, 1) := by decide +kernel
theorem d_0_213 : decode code 213 = .ok (.iaload, 1) := by decide +kernel
theorem d_0_214 : decode code 214 = .ok (.aload_n 0, 1) := by decide +kernel
theorem d_0_215 : decode code 215 = .ok (.iload_n 3, 1) := by decide +kernel
theorem d_0_216 : decode code 216 = .ok (.iconst 2, 1) := by decide +kernel
theorem d_0_217 : decode code 217 = .ok (.iadd, 1) := by decide +kernel
theorem d_0_218 : decode code 218 = .ok (.iaload, 1) := by decide +kernel
theorem d_0_219 : decode code 219 = .ok (.invokevirtual 44, 3) := by decide +kernel
theorem d_0_222 : decode code 222 = .ok (.lcmp, 1) := by decide +kernel
theorem d_0_223 : decode code 223 = .ok (.ifCond .eq 227, 3) := by decide +kernel
theorem d_0_226 : decode code 226 = .ok (.iconst 0, 1) := by decide +kernel
theorem d_0_227 : decode code 227 = .ok (.ireturn, 1) := by decide +kernel
theorem d_0_228 : decode code 228 = .ok (.aload_n 1, 1) := by decide +kernel
theorem d_0_229 : decode code 229 = .ok (.invokevirtual 45, 3) := by decide +kernel
theorem d_0_232 : decode code 232 = .ok (.aload_n 2, 1) := by decide +kernel
theorem d_0_233 : decode code 233 = .ok (.invokevirtual 48, 3) := by decide +kernel
theorem d_0_236 : decode code 236 = .ok (.if_icmp .eq 214, 3) := by decide +kernel
theorem d_0_239 : decode code 239 = .ok (.iconst 0, 1) := by decide +kernel
theorem d_0_240 : decode code 240 = .ok (.ireturn, 1) := by decide +kernel
theorem d_0_241 : decode code 241 = .ok (.aload_n 1, 1) := by decide +kernel
theorem d_0_242 : decode code 242 = .ok (.invokevirtual 49, 3) := by decide +kernel
theorem d_0_245 : decode code 245 = .ok (.aload_n 2, 1) := by decide +kernel
theorem d_0_246 : decode code 246 = .ok (.invokevirtual 52, 3) := by decide +kernel
theorem d_0_249 : decode code 249 = .ok (.if_icmp .eq 201, 3) := by decide +kernel
theorem d_0_252 : decode code 252 = .ok (.iconst 0, 1) := by decide +kernel
theorem d_0_253 : decode code 253 = .ok (.ireturn, 1) := by decide +kernel
theorem d_0_254 : decode code 254 = .ok (.aload_n 1, 1) := by decide +kernel
theorem d_0_255 : decode code 255 = .ok (.aload_n 0, 1) := by decide +kernel
theorem d_0_256 : decode code 256 = .ok (.iload_n 3, 1) := by decide +kernel
theorem d_0_257 : decode code 257 = .ok (.iconst 1, 1) := by decide +kernel
theorem d_0_258 : decode code 258 = .ok (.iadd, 1) := by decide +kernel
theorem d_0_259 : decode code 259 = .ok (.iaload, 1) := by decide +kernel
theorem d_0_260 : decode code 260 = .ok (.invokevirtual 53, 3) := by decide +kernel
theorem d_0_263 : decode code 263 = .ok (.aload_n 2, 1) := by decide +kernel
theorem d_0_264 : decode code 264 = .ok (.aload_n 0, 1) := by decide +kernel
theorem d_0_265 : decode code 265 = .ok (.iload_n 3, 1) := by decide +kernel
theorem d_0_266 : decode code 266 = .ok (.iconst 1, 1) := by decide +kernel
theorem d_0_267 : decode code 267 = .ok (.iadd, 1) := by decide +kernel
theorem d_0_268 : decode code 268 = .ok (.iaload, 1) := by decide +kernel
theorem d_0_269 : decode code 269 = .ok (.invokevirtual 57, 3) := by decide +kernel
theorem d_0_272 : decode code 272 = .ok (.if_icmp .eq 178, 3) := by decide +kernel
theorem d_0_275 : decode code 275 = .ok (.iconst 0, 1) := by decide +kernel
theorem d_0_276 : decode code 276 = .ok (.ireturn, 1) := by decide +kernel
theorem d_0_277 : decode code 277 = .ok (.aload_n 1, 1) := by decide +kernel
theorem d_0_278 : decode code 278 = .ok (.aload_n 0, 1) := by decide +kernel
theorem d_0_279 : decode code 279 = .ok (.iload_n 3, 1) := by decide +kernel
theorem d_0_280 : decode code 280 = .ok (.iconst 1, 1) := by decide +kernel
theorem d_0_281 : decode code 281 = .ok (.iadd, 1) := by decide +kernel
theorem d_0_282 : decode code 282 = .ok (.iaload, 1) := by decide +kernel
theorem d_0_283 : decode code 283 = .ok (.invokevirtual 58, 3) := by decide +kernel
theorem d_0_286 : decode code 286 = .ok (.aload_n 2, 1) := by decide +kernel
theorem d_0_287 : decode code 287 = .ok (.aload_n 0, 1) := by decide +kernel
theorem d_0_288 : decode code 288 = .ok (.iload_n 3, 1) := by decide +kernel
theorem d_0_289 : decode code 289 = .ok (.iconst 1, 1) := by decide +kernel
theorem d_0_290 : decode code 290 = .ok (.iadd, 1) := by decide +kernel
theorem d_0_291 : decode code 291 = .ok (.iaload, 1) := by decide +kernel
theorem d_0_292 : decode code 292 = .ok (.invokevirtual 61, 3) := by decide +kernel
theorem d_0_295 : decode code 295 = .ok (.if_icmp .eq 155, 3) := by decide +kernel
theorem d_0_298 : decode code 298 = .ok (.iconst 0, 1) := by decide +kernel
theorem d_0_299 : decode code 299 = .ok (.ireturn, 1) := by decide +kernel
theorem d_0_300 : decode code 300 = .ok (.aload_n 1, 1) := by decide +kernel
theorem d_0_301 : decode code 301 = .ok (.aload_n 0, 1) := by decide +kernel
theorem d_0_302 : decode code 302 = .ok (.iload_n 3, 1) := by decide +kernel
theorem d_0_303 : decode code 303 = .ok (.iconst 1, 1) := by decide +kernel
theorem d_0_304 : decode code 304 = .ok (.iadd, 1) := by decide +kernel
theorem d_0_305 : decode code 305 = .ok (.iaload, 1) := by decide +kernel
theorem d_0_306 : decode code 306 = .ok (.aload_n 0, 1) := by decide +kernel
theorem d_0_307 : decode code 307 = .ok (.iload_n 3, 1) := by decide +kernel
theorem d_0_308 : decode code 308 = .ok (.iconst 2, 1) := by decide +kernel
theorem d_0_309 : decode code 309 = .ok (.iadd, 1) := by decide +kernel
theorem d_0_310 : decode code 310 = .ok (.iaload, 1) := by decide +kernel
theorem d_0_311 : decode code 311 = .ok (.invokevirtual 62, 3) := by decide +kernel
theorem d_0_314 : decode code 314 = .ok (.aload_n 2, 1) := by decide +kernel
theorem d_0_315 : decode code 315 = .ok (.aload_n 0, 1) := by decide +kernel
theorem d_0_316 : decode code 316 = .ok (.iload_n 3, 1) := by decide +kernel
theorem d_0_317 : decode code 317 = .ok (.iconst 1, 1) := by decide +kernel
theorem d_0_318 : decode code 318 = .ok (.iadd, 1) := by decide +kernel
theorem d_0_319 : decode code 319 = .ok (.iaload, 1) := by decide +kernel
theorem d_0_320 : decode code 320 = .ok (.aload_n 0, 1) := by decide +kernel
theorem d_0_321 : decode code 321 = .ok (.iload_n 3, 1) := by decide +kernel
theorem d_0_322 : decode code 322 = .ok (.iconst 2, 1) := by decide +kernel
theorem d_0_323 : decode code 323 = .ok (.iadd, 1) := by decide +kernel
theorem d_0_324 : decode code 324 = .ok (.iaload, 1) := by decide +kernel
theorem d_0_325 : decode code 325 = .ok (.invokevirtual 66, 3) := by decide +kernel
theorem d_0_328 : decode code 328 = .ok (.if_icmp .eq 122, 3) := by decide +kernel
theorem d_0_331 : decode code 331 = .ok (.iconst 0, 1) := by decide +kernel
theorem d_0_332 : decode code 332 = .ok (.ireturn, 1) := by decide +kernel
theorem d_0_333 : decode code 333 = .ok (.aload_n 1, 1) := by decide +kernel
theorem d_0_334 : decode code 334 = .ok (.aload_n 0, 1) := by decide +kernel
theorem d_0_335 : decode code 335 = .ok (.iload_n 3, 1) := by decide +kernel
theorem d_0_336 : decode code 336 = .ok (.iconst 1, 1) := by decide +kernel
theorem d_0_337 : decode code 337 = .ok (.iadd, 1) := by decide +kernel
theorem d_0_338 : decode code 338 = .ok (.iaload, 1) := by decide +kernel
theorem d_0_339 : decode code 339 = .ok (.aload_n 0, 1) := by decide +kernel
theorem d_0_340 : decode code 340 = .ok (.iload_n 3, 1) := by decide +kernel
theorem d_0_341 : decode code 341 = .ok (.iconst 2, 1) := by decide +kernel
theorem d_0_342 : decode code 342 = .ok (.iadd, 1) := by decide +kernel
theorem d_0_343 : decode code 343 = .ok (.iaload, 1) := by decide +kernel
theorem d_0_344 : decode code 344 = .ok (.aload_n 0, 1) := by decide +kernel
theorem d_0_345 : decode code 345 = .ok (.iload_n 3, 1) := by decide +kernel
theorem d_0_346 : decode code 346 = .ok (.iconst 3, 1) := by decide +kernel
theorem d_0_347 : decode code 347 = .ok (.iadd, 1) := by decide +kernel
theorem d_0_348 : decode code 348 = .ok (.iaload, 1) := by decide +kernel
theorem d_0_349 : decode code 349 = .ok (.invokevirtual 67, 3) := by decide +kernel
theorem d_0_352 : decode code 352 = .ok (.aload_n 2, 1) := by decide +kernel
theorem d_0_353 : decode code 353 = .ok (.aload_n 0, 1) := by decide +kernel
theorem d_0_354 : decode code 354 = .ok (.iload_n 3, 1) := by decide +kernel
theorem d_0_355 : decode code 355 = .ok (.iconst 1, 1) := by decide +kernel
theorem d_0_356 : decode code 356 = .ok (.iadd, 1) := by decide +kernel
theorem d_0_357 : decode code 357 = .ok (.iaload, 1) := by decide +kernel
theorem d_0_358 : decode code 358 = .ok (.aload_n 0, 1) := by decide +kernel
theorem d_0_359 : decode code 359 = .ok (.iload_n 3, 1) := by decide +kernel
theorem d_0_360 : decode code 360 = .ok (.iconst 2, 1) := by decide +kernel
theorem d_0_361 : decode code 361 = .ok (.iadd, 1) := by decide +kernel
theorem d_0_362 : decode code 362 = .ok (.iaload, 1) := by decide +kernel
theorem d_0_363 : decode code 363 = .ok (.aload_n 0, 1) := by decide +kernel
theorem d_0_364 : decode code 364 = .ok (.iload_n 3, 1) := by decide +kernel
theorem d_0_365 : decode code 365 = .ok (.iconst 3, 1) := by decide +kernel
theorem d_0_366 : decode code 366 = .ok (.iadd, 1) := by decide +kernel
theorem d_0_367 : decode code 367 = .ok (.iaload, 1) := by decide +kernel
theorem d_0_368 : decode code 368 = .ok (.invokevirtual 71, 3) := by decide +kernel
theorem d_0_371 : decode code 371 = .ok (.lcmp, 1) := by decide +kernel
theorem d_0_372 : decode code 372 = .ok (.ifCond .eq 78, 3) := by decide +kernel
theorem d_0_375 : decode code 375 = .ok (.iconst 0, 1) := by decide +kernel
theorem d_0_376 : decode code 376 = .ok (.ireturn, 1) := by decide +kernel
theorem d_0_377 : decode code 377 = .ok (.aload_n 1, 1) := by decide +kernel
theorem d_0_378 : decode code 378 = .ok (.aload_n 0, 1) := by decide +kernel
theorem d_0_379 : decode code 379 = .ok (.iload_n 3, 1) := by decide +kernel
theorem d_0_380 : decode code 380 = .ok (.iconst 1, 1) := by decide +kernel
theorem d_0_381 : decode code 381 = .ok (.iadd, 1) := by decide +kernel
theorem d_0_382 : decode code 382 = .ok (.iaload, 1) := by decide +kernel
theorem d_0_383 : decode code 383 = .ok (.aload_n 0, 1) := by decide +kernel
theorem d_0_384 : decode code 384 = .ok (.iload_n 3, 1) := by decide +kernel
theorem d_0_385 : decode code 385 = .ok (.iconst 2, 1) := by decide +kernel
theorem d_0_386 : decode code 386 = .ok (.iadd, 1) := by decide +kernel
theorem d_0_387 : decode code 387 = .ok (.iaload, 1) := by decide +kernel
theorem d_0_388 : decode code 388 = .ok (.aload_n 0, 1) := by decide +kernel
theorem d_0_389 : decode code 389 = .ok (.iload_n 3, 1) := by decide +kernel
theorem d_0_390 : decode code 390 = .ok (.iconst 3, 1) := by decide +kernel
theorem d_0_391 : decode code 391 = .ok (.iadd, 1) := by decide +kernel
theorem d_0_392 : decode code 392 = .ok (.iaload, 1) := by decide +kernel
theorem d_0_393 : decode code 393 = .ok (.i2l, 1) := by decide +kernel
theorem d_0_394 : decode code 394 = .ok (.bipush 32, 2) := by decide +kernel
theorem d_0_396 : decode code 396 = .ok (.lshl, 1) := by decide +kernel
theorem d_0_397 : decode code 397 = .ok (.aload_n 0, 1) := by decide +kernel
theorem d_0_398 : decode code 398 = .ok (.iload_n 3, 1) := by decide +kernel
theorem d_0_399 : decode code 399 = .ok (.iconst 4, 1) := by decide +kernel
theorem d_0_400 : decode code 400 = .ok (.iadd, 1) := by decide +kernel
theorem d_0_401 : decode code 401 = .ok (.iaload, 1) := by decide +kernel
theorem d_0_402 : decode code 402 = .ok (.i2l, 1) := by decide +kernel
theorem d_0_403 : decode code 403 = .ok (.ldc2_w 72, 3) := by decide +kernel
theorem d_0_406 : decode code 406 = .ok (.land, 1) := by decide +kernel
theorem d_0_407 : decode code 407 = .ok (.lor, 1) := by decide +kernel
theorem d_0_408 : decode code 408 = .ok (.invokevirtual 74, 3) := by decide +kernel
theorem d_0_411 : decode code 411 = .ok (.aload_n 2, 1) := by decide +kernel
theorem d_0_412 : decode code 412 = .ok (.aload_n 0, 1) := by decide +kernel
theorem d_0_413 : decode code 413 = .ok (.iload_n 3, 1) := by decide +kernel
theorem d_0_414 : decode code 414 = .ok (.iconst 1, 1) := by decide +kernel
theorem d_0_415 : decode code 415 = .ok (.iadd, 1) := by decide +kernel
theorem d_0_416 : decode code 416 = .ok (.iaload, 1) := by decide +kernel
theorem d_0_417 : decode code 417 = .ok (.aload_n 0, 1) := by decide +kernel
theorem d_0_418 : decode code 418 = .ok (.iload_n 3, 1) := by decide +kernel
theorem d_0_419 : decode code 419 = .ok (.iconst 2, 1) := by decide +kernel
theorem d_0_420 : decode code 420 = .ok (.iadd, 1) := by decide +kernel
theorem d_0_421 : decode code 421 = .ok (.iaload, 1) := by decide +kernel
theorem d_0_422 : decode code 422 = .ok (.aload_n 0, 1) := by decide +kernel
theorem d_0_423 : decode code 423 = .ok (.iload_n 3, 1) := by decide +kernel
theorem d_0_424 : decode code 424 = .ok (.iconst 3, 1) := by decide +kernel
theorem d_0_425 : decode code 425 = .ok (.iadd, 1) := by decide +kernel
theorem d_0_426 : decode code 426 = .ok (.iaload, 1) := by decide +kernel
theorem d_0_427 : decode code 427 = .ok (.i2l, 1) := by decide +kernel
theorem d_0_428 : decode code 428 = .ok (.bipush 32, 2) := by decide +kernel
theorem d_0_430 : decode code 430 = .ok (.lshl, 1) := by decide +kernel
theorem d_0_431 : decode code 431 = .ok (.aload_n 0, 1) := by decide +kernel
theorem d_0_432 : decode code 432 = .ok (.iload_n 3, 1) := by decide +kernel
theorem d_0_433 : decode code 433 = .ok (.iconst 4, 1) := by decide +kernel
theorem d_0_434 : decode code 434 = .ok (.iadd, 1) := by decide +kernel
theorem d_0_435 : decode code 435 = .ok (.iaload, 1) := by decide +kernel
theorem d_0_436 : decode code 436 = .ok (.i2l, 1) := by decide +kernel
theorem d_0_437 : decode code 437 = .ok (.ldc2_w 72, 3) := by decide +kernel
theorem d_0_440 : decode code 440 = .ok (.land, 1) := by decide +kernel
theorem d_0_441 : decode code 441 = .ok (.lor, 1) := by decide +kernel
theorem d_0_442 : decode code 442 = .ok (.invokevirtual 78, 3) := by decide +kernel
theorem d_0_445 : decode code 445 = .ok (.if_icmp .eq 5, 3) := by decide +kernel
theorem d_0_448 : decode code 448 = .ok (.iconst 0, 1) := by decide +kernel
theorem d_0_449 : decode code 449 = .ok (.ireturn, 1) := by decide +kernel
theorem d_0_450 : decode code 450 = .ok (.iinc 3 5, 3) := by decide +kernel
theorem d_0_453 : decode code 453 = .ok (.goto (-435), 3) := by decide +kernel
theorem d_0_456 : decode code 456 = .ok (.iconst 1, 1) := by decide +kernel
theorem d_0_457 : decode code 457 = .ok (.ireturn, 1) := by decide +kernel
set_option maxRecDepth 20000 in
theorem ok_0 : ∀ r ∈ tb_0, sm_ok 0 r := List.forall_mem_cons.mpr ⟨⟨d_0_0, ⟨_, rfl, wd_0⟩⟩, List.forall_mem_cons.mpr ⟨d_0_3, List.forall_mem_cons.mpr ⟨⟨d_0_4, (Or.inr ⟨(by decide), mo_1, mi_1, rfl, rfl, pm_0⟩)⟩, List.forall_mem_cons.mpr ⟨d_0_7, List.forall_mem_cons.mpr ⟨⟨d_0_8, ⟨_, rfl, wd_2⟩⟩, List.forall_mem_cons.mpr ⟨d_0_11, List.forall_mem_cons.mpr ⟨⟨d_0_12, (Or.inr ⟨(by decide), mo_131, mi_131, rfl, rfl, pm_1⟩)⟩, List.forall_mem_cons.mpr ⟨d_0_15, List.forall_mem_cons.mpr ⟨d_0_16, List.forall_mem_cons.mpr ⟨d_0_17, List.forall_mem_cons.mpr ⟨d_0_18, List.forall_mem_cons.mpr ⟨d_0_19, List.forall_mem_cons.mpr ⟨d_0_20, List.forall_mem_cons.mpr ⟨d_0_21, List.forall_mem_cons.mpr ⟨d_0_22, List.forall_mem_cons.mpr ⟨⟨d_0_23, (by decide)⟩, List.forall_mem_cons.mpr ⟨d_0_26, List.forall_mem_cons.mpr ⟨d_0_27, List.forall_mem_cons.mpr ⟨d_0_28, List.forall_mem_cons.mpr ⟨d_0_29, List.forall_mem_cons.mpr ⟨d_0_31, List.forall_mem_cons.mpr ⟨⟨_, d_0_32⟩, List.forall_mem_cons.mpr ⟨d_0_104, List.forall_mem_cons.mpr ⟨d_0_105, List.forall_mem_cons.mpr ⟨d_0_106, List.forall_mem_cons.mpr ⟨d_0_107, List.forall_mem_cons.mpr ⟨d_0_108, List.forall_mem_cons.mpr ⟨d_0_109, List.forall_mem_cons.mpr ⟨d_0_110, List.forall_mem_cons.mpr ⟨⟨d_0_111, ⟨mo_2, mi_2, se_2, pm_2⟩⟩, List.forall_mem_cons.mpr ⟨d_0_114, List.forall_mem_cons.mpr ⟨d_0_115, List.forall_mem_cons.mpr ⟨d_0_116, List.forall_mem_cons.mpr ⟨d_0_117, List.forall_mem_cons.mpr ⟨d_0_118, List.forall_mem_cons.mpr ⟨d_0_119, List.forall_mem_cons.mpr ⟨d_0_120, List.forall_mem_cons.mpr ⟨⟨d_0_121, ⟨mo_132, mi_132, se_132, pm_3⟩⟩, List.forall_mem_cons.mpr ⟨⟨d_0_124, (by decide)⟩, List.forall_mem_cons.mpr ⟨d_0_127, List.forall_mem_cons.mpr ⟨d_0_128, List.forall_mem_cons.mpr ⟨d_0_129, List.forall_mem_cons.mpr ⟨⟨d_0_130, ⟨mo_3, mi_3, se_3, pm_4⟩⟩, List.forall_mem_cons.mpr ⟨d_0_133, List.forall_mem_cons.mpr ⟨⟨d_0_134, ⟨mo_133, mi_133, se_133, pm_5⟩⟩, List.forall_mem_cons.mpr ⟨⟨d_0_137, (by decide)⟩, List.forall_mem_cons.mpr ⟨d_0_140, List.forall_mem_cons.mpr ⟨d_0_141, List.forall_mem_cons.mpr ⟨d_0_142, List.forall_mem_cons.mpr ⟨⟨d_0_143, ⟨mo_4, mi_4, se_4, pm_6⟩⟩, List.forall_mem_cons.mpr ⟨d_0_146, List.forall_mem_cons.mpr ⟨⟨d_0_147, ⟨mo_166, mi_166, se_166, pm_7⟩⟩, List.forall_mem_cons.mpr ⟨⟨d_0_150, (by decide)⟩, List.forall_mem_cons.mpr ⟨d_0_153, List.forall_mem_cons.mpr ⟨d_0_154, List.forall_mem_cons.mpr ⟨d_0_155, List.forall_mem_cons.mpr ⟨⟨d_0_156, ⟨mo_5, mi_5, se_5, pm_8⟩⟩, List.forall_mem_cons.mpr ⟨d_0_159, List.forall_mem_cons.mpr ⟨⟨d_0_160, ⟨mo_134, mi_134, se_134, pm_9⟩⟩, List.forall_mem_cons.mpr ⟨⟨d_0_163, (by decide)⟩, List.forall_mem_cons.mpr ⟨d_0_166, List.forall_mem_cons.mpr ⟨d_0_167, List.forall_mem_cons.mpr ⟨d_0_168, List.forall_mem_cons.mpr ⟨⟨d_0_169, ⟨mo_6, mi_6, se_6, pm_10⟩⟩, List.forall_mem_cons.mpr ⟨d_0_172, List.forall_mem_cons.mpr ⟨⟨d_0_173, ⟨mo_187, mi_187, se_187, pm_11⟩⟩, List.forall_mem_cons.mpr ⟨⟨d_0_176, (by decide)⟩, List.forall_mem_cons.mpr ⟨d_0_179, List.forall_mem_cons.mpr ⟨d_0_180, List.forall_mem_cons.mpr ⟨d_0_181, List.forall_mem_cons.mpr ⟨⟨d_0_182, ⟨mo_7, mi_7, se_7, pm_12⟩⟩, List.forall_mem_cons.mpr ⟨d_0_185, List.forall_mem_cons.mpr ⟨⟨d_0_186, ⟨mo_188, mi_188, se_188, pm_13⟩⟩, List.forall_mem_cons.mpr ⟨⟨d_0_189, (by decide)⟩, List.forall_mem_cons.mpr ⟨d_0_192, List.forall_mem_cons.mpr ⟨d_0_193, List.forall_mem_cons.mpr ⟨d_0_194, List.forall_mem_cons.mpr ⟨d_0_195, List.forall_mem_cons.mpr ⟨d_0_196, List.forall_mem_cons.mpr ⟨d_0_197, List.forall_mem_cons.mpr ⟨d_0_198, List.forall_mem_cons.mpr ⟨d_0_199, List.forall_mem_cons.mpr ⟨d_0_200, List.forall_mem_cons.mpr ⟨d_0_201, List.forall_mem_cons.mpr ⟨d_0_202, List.forall_mem_cons.mpr ⟨d_0_203, List.forall_mem_cons.mpr ⟨d_0_204, List.forall_mem_cons.mpr ⟨⟨d_0_205, ⟨mo_8, mi_8, se_8, pm_14⟩⟩, List.forall_mem_cons.mpr ⟨d_0_208, List.forall_mem_cons.mpr ⟨d_0_209, List.forall_mem_cons.mpr ⟨d_0_210, List.forall_mem_cons.mpr ⟨d_0_211, List.forall_mem_cons.mpr ⟨d_0_212, List.forall_mem_cons.mpr ⟨d_0_213, List.forall_mem_cons.mpr ⟨d_0_214, List.forall_mem_cons.mpr ⟨d_0_215, List.forall_mem_cons.mpr ⟨d_0_216, List.forall_mem_cons.mpr ⟨d_0_217, List.forall_mem_cons.mpr ⟨d_0_218, List.forall_mem_cons.mpr ⟨⟨d_0_219, ⟨mo_189, mi_189, se_189, pm_15⟩⟩, List.forall_mem_cons.mpr ⟨d_0_222, List.forall_mem_cons.mpr ⟨⟨d_0_223, (by decide)⟩, List.forall_mem_cons.mpr ⟨d_0_226, List.forall_mem_cons.mpr ⟨d_0_227, List.forall_mem_cons.mpr ⟨d_0_228, List.forall_mem_cons.mpr ⟨⟨d_0_229, ⟨mo_9, mi_9, se_9, pm_16⟩⟩, List.forall_mem_cons.mpr ⟨d_0_232, List.forall_mem_cons.mpr ⟨⟨d_0_233, ⟨mo_190, mi_190, se_190, pm_17⟩⟩, List.forall_mem_cons.mpr ⟨⟨d_0_236, (by decide)⟩, List.forall_mem_cons.mpr ⟨d_0_239, List.forall_mem_cons.mpr ⟨d_0_240, List.forall_mem_cons.mpr ⟨d_0_241, List.forall_mem_cons.mpr ⟨⟨d_0_242, ⟨mo_10, mi_10, se_10, pm_18⟩⟩, List.forall_mem_cons.mpr ⟨d_0_245, List.forall_mem_cons.mpr ⟨⟨d_0_246, ⟨mo_191, mi_191, se_191, pm_19⟩⟩, List.forall_mem_cons.mpr ⟨⟨d_0_249, (by decide)⟩, List.forall_mem_cons.mpr ⟨d_0_252, List.forall_mem_cons.mpr ⟨d_0_253, List.forall_mem_cons.mpr ⟨d_0_254, List.forall_mem_cons.mpr ⟨d_0_255, List.forall_mem_cons.mpr ⟨d_0_256, List.forall_mem_cons.mpr ⟨d_0_257, List.forall_mem_cons.mpr ⟨d_0_258, List.forall_mem_cons.mpr ⟨d_0_259, List.forall_mem_cons.mpr ⟨⟨d_0_260, ⟨mo_11, mi_11, se_11, pm_20⟩⟩, List.forall_mem_cons.mpr ⟨d_0_263, List.forall_mem_cons.mpr ⟨d_0_264, List.forall_mem_cons.mpr ⟨d_0_265, List.forall_mem_cons.mpr ⟨d_0_266, List.forall_mem_cons.mpr ⟨d_0_267, List.forall_mem_cons.mpr ⟨d_0_268, List.forall_mem_cons.mpr ⟨⟨d_0_269, ⟨mo_193, mi_193, se_193, pm_21⟩⟩, List.forall_mem_cons.mpr ⟨⟨d_0_272, (by decide)⟩, List.forall_mem_cons.mpr ⟨d_0_275, List.forall_mem_cons.mpr ⟨d_0_276, List.forall_mem_cons.mpr ⟨d_0_277, List.forall_mem_cons.mpr ⟨d_0_278, List.forall_mem_cons.mpr ⟨d_0_279, List.forall_mem_cons.mpr ⟨d_0_280, List.forall_mem_cons.mpr ⟨d_0_281, List.forall_mem_cons.mpr ⟨d_0_282, List.forall_mem_cons.mpr ⟨⟨d_0_283, ⟨mo_12, mi_12, se_12, pm_22⟩⟩, List.forall_mem_cons.mpr ⟨d_0_286, List.forall_mem_cons.mpr ⟨d_0_287, List.forall_mem_cons.mpr ⟨d_0_288, List.forall_mem_cons.mpr ⟨d_0_289, List.forall_mem_cons.mpr ⟨d_0_290, List.forall_mem_cons.mpr ⟨d_0_291, List.forall_mem_cons.mpr ⟨⟨d_0_292, ⟨mo_194, mi_194, se_194, pm_23⟩⟩, List.forall_mem_cons.mpr ⟨⟨d_0_295, (by decide)⟩, List.forall_mem_cons.mpr ⟨d_0_298, List.forall_mem_cons.mpr ⟨d_0_299, List.forall_mem_cons.mpr ⟨d_0_300, List.forall_mem_cons.mpr ⟨d_0_301, List.forall_mem_cons.mpr ⟨d_0_302, List.forall_mem_cons.mpr ⟨d_0_303, List.forall_mem_cons.mpr ⟨d_0_304, List.forall_mem_cons.mpr ⟨d_0_305, List.forall_mem_cons.mpr ⟨d_0_306, List.forall_mem_cons.mpr ⟨d_0_307, List.forall_mem_cons.mpr ⟨d_0_308, List.forall_mem_cons.mpr ⟨d_0_309, List.forall_mem_cons.mpr ⟨d_0_310, List.forall_mem_cons.mpr ⟨⟨d_0_311, ⟨mo_13, mi_13, se_13, pm_24⟩⟩, List.forall_mem_cons.mpr ⟨d_0_314, List.forall_mem_cons.mpr ⟨d_0_315, List.forall_mem_cons.mpr ⟨d_0_316, List.forall_mem_cons.mpr ⟨d_0_317, List.forall_mem_cons.mpr ⟨d_0_318, List.forall_mem_cons.mpr ⟨d_0_319, List.forall_mem_cons.mpr ⟨d_0_320, List.forall_mem_cons.mpr ⟨d_0_321, List.forall_mem_cons.mpr ⟨d_0_322, List.forall_mem_cons.mpr ⟨d_0_323, List.forall_mem_cons.mpr ⟨d_0_324, List.forall_mem_cons.mpr ⟨⟨d_0_325, ⟨mo_195, mi_195, se_195, pm_25⟩⟩, List.forall_mem_cons.mpr ⟨⟨d_0_328, (by decide)⟩, List.forall_mem_cons.mpr ⟨d_0_331, List.forall_mem_cons.mpr ⟨d_0_332, List.forall_mem_cons.mpr ⟨d_0_333, List.forall_mem_cons.mpr ⟨d_0_334, List.forall_mem_cons.mpr ⟨d_0_335, List.forall_mem_cons.mpr ⟨d_0_336, List.forall_mem_cons.mpr ⟨d_0_337, List.forall_mem_cons.mpr ⟨d_0_338, List.forall_mem_cons.mpr ⟨d_0_339, List.forall_mem_cons.mpr ⟨d_0_340, List.forall_mem_cons.mpr ⟨d_0_341, List.forall_mem_cons.mpr ⟨d_0_342, List.forall_mem_cons.mpr ⟨d_0_343, List.forall_mem_cons.mpr ⟨d_0_344, List.forall_mem_cons.mpr ⟨d_0_345, List.forall_mem_cons.mpr ⟨d_0_346, List.forall_mem_cons.mpr ⟨d_0_347, List.forall_mem_cons.mpr ⟨d_0_348, List.forall_mem_cons.mpr ⟨⟨d_0_349, ⟨mo_14, mi_14, se_14, pm_26⟩⟩, List.forall_mem_cons.mpr ⟨d_0_352, List.forall_mem_cons.mpr ⟨d_0_353, List.forall_mem_cons.mpr ⟨d_0_354, List.forall_mem_cons.mpr ⟨d_0_355, List.forall_mem_cons.mpr ⟨d_0_356, List.forall_mem_cons.mpr ⟨d_0_357, List.forall_mem_cons.mpr ⟨d_0_358, List.forall_mem_cons.mpr ⟨d_0_359, List.forall_mem_cons.mpr ⟨d_0_360, List.forall_mem_cons.mpr ⟨d_0_361, List.forall_mem_cons.mpr ⟨d_0_362, List.forall_mem_cons.mpr ⟨d_0_363, List.forall_mem_cons.mpr ⟨d_0_364, List.forall_mem_cons.mpr ⟨d_0_365, List.forall_mem_cons.mpr ⟨d_0_366, List.forall_mem_cons.mpr ⟨d_0_367, List.forall_mem_cons.mpr ⟨⟨d_0_368, ⟨mo_196, mi_196, se_196, pm_27⟩⟩, List.forall_mem_cons.mpr ⟨d_0_371, List.forall_mem_cons.mpr ⟨⟨d_0_372, (by decide)⟩, List.forall_mem_cons.mpr ⟨d_0_375, List.forall_mem_cons.mpr ⟨d_0_376, List.forall_mem_cons.mpr ⟨d_0_377, List.forall_mem_cons.mpr ⟨d_0_378, List.forall_mem_cons.mpr ⟨d_0_379, List.forall_mem_cons.mpr ⟨d_0_380, List.forall_mem_cons.mpr ⟨d_0_381, List.forall_mem_cons.mpr ⟨d_0_382, List.forall_mem_cons.mpr ⟨d_0_383, List.forall_mem_cons.mpr ⟨d_0_384, List.forall_mem_cons.mpr ⟨d_0_385, List.forall_mem_cons.mpr ⟨d_0_386, List.forall_mem_cons.mpr ⟨d_0_387, List.forall_mem_cons.mpr ⟨d_0_388, List.forall_mem_cons.mpr ⟨d_0_389, List.forall_mem_cons.mpr ⟨d_0_390, List.forall_mem_cons.mpr ⟨d_0_391, List.forall_mem_cons.mpr ⟨d_0_392, List.forall_mem_cons.mpr ⟨d_0_393, List.forall_mem_cons.mpr ⟨d_0_394, List.forall_mem_cons.mpr ⟨d_0_396, List.forall_mem_cons.mpr ⟨d_0_397, List.forall_mem_cons.mpr ⟨d_0_398, List.forall_mem_cons.mpr ⟨d_0_399, List.forall_mem_cons.mpr ⟨d_0_400, List.forall_mem_cons.mpr ⟨d_0_401, List.forall_mem_cons.mpr ⟨d_0_402, List.forall_mem_cons.mpr ⟨⟨d_0_403, (fun _ h => Option.some.inj h ▸ wd_30)⟩, List.forall_mem_cons.mpr ⟨d_0_406, List.forall_mem_cons.mpr ⟨d_0_407, List.forall_mem_cons.mpr ⟨⟨d_0_408, ⟨mo_15, mi_15, se_15, pm_28⟩⟩, List.forall_mem_cons.mpr ⟨d_0_411, List.forall_mem_cons.mpr ⟨d_0_412, List.forall_mem_cons.mpr ⟨d_0_413, List.forall_mem_cons.mpr ⟨d_0_414, List.forall_mem_cons.mpr ⟨d_0_415, List.forall_mem_cons.mpr ⟨d_0_416, List.forall_mem_cons.mpr ⟨d_0_417, List.forall_mem_cons.mpr ⟨d_0_418, List.forall_mem_cons.mpr ⟨d_0_419, List.forall_mem_cons.mpr ⟨d_0_420, List.forall_mem_cons.mpr ⟨d_0_421, List.forall_mem_cons.mpr ⟨d_0_422, List.forall_mem_cons.mpr ⟨d_0_423, List.forall_mem_cons.mpr ⟨d_0_424, List.forall_mem_cons.mpr ⟨d_0_425, List.forall_mem_cons.mpr ⟨d_0_426, List.forall_mem_cons.mpr ⟨d_0_427, List.forall_mem_cons.mpr ⟨d_0_428, List.forall_mem_cons.mpr ⟨d_0_430, List.forall_mem_cons.mpr ⟨d_0_431, List.forall_mem_cons.mpr ⟨d_0_432, List.forall_mem_cons.mpr ⟨d_0_433, List.forall_mem_cons.mpr ⟨d_0_434, List.forall_mem_cons.mpr ⟨d_0_435, List.forall_mem_cons.mpr ⟨d_0_436, List.forall_mem_cons.mpr ⟨⟨d_0_437, (fun _ h => Option.some.inj h ▸ wd_30)⟩, List.forall_mem_cons.mpr ⟨d_0_440, List.forall_mem_cons.mpr ⟨d_0_441, List.forall_mem_cons.mpr ⟨⟨d_0_442, ⟨mo_197, mi_197, se_197, pm_29⟩⟩, List.forall_mem_cons.mpr ⟨⟨d_0_445, (by decide)⟩, List.forall_mem_cons.mpr ⟨d_0_448, List.forall_mem_cons.mpr ⟨d_0_449, List.forall_mem_cons.mpr ⟨d_0_450, List.forall_mem_cons.mpr ⟨⟨d_0_453, (by decide)⟩, List.forall_mem_cons.mpr ⟨d_0_456, List.forall_mem_cons.mpr ⟨d_0_457, fun _ h => absurd h List.not_mem_nil⟩⟩⟩⟩⟩⟩⟩⟩⟩⟩⟩⟩⟩⟩⟩⟩⟩⟩⟩⟩⟩⟩⟩⟩⟩⟩⟩⟩⟩⟩⟩⟩⟩⟩⟩⟩⟩⟩⟩⟩⟩⟩⟩⟩⟩⟩⟩⟩⟩⟩⟩⟩⟩⟩⟩⟩⟩⟩⟩⟩⟩⟩⟩⟩⟩⟩⟩⟩⟩⟩⟩⟩⟩⟩⟩⟩⟩⟩⟩⟩⟩⟩⟩⟩⟩⟩⟩⟩⟩⟩⟩⟩⟩⟩⟩⟩⟩⟩⟩⟩⟩⟩⟩⟩⟩⟩⟩⟩⟩⟩⟩⟩⟩⟩⟩⟩⟩⟩⟩⟩⟩⟩⟩⟩⟩⟩⟩⟩⟩⟩⟩⟩⟩⟩⟩⟩⟩⟩⟩⟩⟩⟩⟩⟩⟩⟩⟩⟩⟩⟩⟩⟩⟩⟩⟩⟩⟩⟩⟩⟩⟩⟩⟩⟩⟩⟩⟩⟩⟩⟩⟩⟩⟩⟩⟩⟩⟩⟩⟩⟩⟩⟩⟩⟩⟩⟩⟩⟩⟩⟩⟩⟩⟩⟩⟩⟩⟩⟩⟩⟩⟩⟩⟩⟩⟩⟩⟩⟩⟩⟩⟩⟩⟩⟩⟩⟩⟩⟩⟩⟩⟩⟩⟩⟩⟩⟩⟩⟩⟩⟩⟩⟩⟩⟩⟩⟩⟩⟩⟩⟩⟩⟩⟩⟩⟩⟩⟩⟩⟩⟩⟩⟩⟩⟩⟩⟩⟩⟩⟩⟩⟩⟩⟩⟩⟩⟩⟩⟩⟩⟩⟩⟩⟩⟩⟩⟩⟩⟩⟩⟩⟩⟩
theorem d_1_0 : decode prog_1_method_1_code 0 = .ok (.aload_n 0, 1) := by decide +kernel
theorem d_1_1 : decode prog_1_method_1_code 1 = .ok (.invokespecial 1, 3) := by decide +kernel
theorem d_1_4 : decode prog_1_method_1_code 4 = .ok (.aload_n 0, 1) := by decide +kernel
theorem d_1_5 : decode prog_1_method_1_code 5 = .ok (.bipush 80, 2) := by decide +kernel
theorem d_1_7 : decode prog_1_method_1_code 7 = .ok (.newarray .char, 2) := by decide +kernel
theorem d_1_9 : decode prog_1_method_1_code 9 = .ok (.putfield 9, 3) := by decide +kernel
theorem d_1_12 : decode prog_1_method_1_code 12 = .ok (.aload_n 0, 1) := by decide +kernel
theorem d_1_13 : decode prog_1_method_1_code 13 = .ok (.iconst 3, 1) := by decide +kernel
theorem d_1_14 : decode prog_1_method_1_code 14 = .ok (.anewarray 13, 3) := by decide +kernel
theorem d_1_17 : decode prog_1_method_1_code 17 = .ok (.putfield 15, 3) := by decide +kernel
theorem d_1_20 : decode prog_1_method_1_code 20 = .ok (.iconst 0, 1) := by decide +kernel
theorem d_1_21 : decode prog_1_method_1_code 21 = .ok (.istore_n 1, 1) := by decide +kernel
theorem d_1_22 : decode prog_1_method_1_code 22 = .ok (.iload_n 1, 1) := by decide +kernel
theorem d_1_23 : decode prog_1_method_1_code 23 = .ok (.iconst 3, 1) := by decide +kernel
theorem d_1_24 : decode prog_1_method_1_code 24 = .ok (.if_icmp .ge 22, 3) := by decide +kernel
theorem d_1_27 : decode prog_1_method_1_code 27 = .ok (.aload_n 0, 1) := by decide +kernel
theorem d_1_28 : decode prog_1_method_1_code 28 = .ok (.getfield 15, 3) := by decide +kernel
theorem d_1_31 : decode prog_1_method_1_code 31 = .ok (.iload_n 1, 1) := by decide +kernel
theorem d_1_32 : decode prog_1_method_1_code 32 = .ok (.new 13, 3) := by decide +kernel
theorem d_1_35 : decode prog_1_method_1_code 35 = .ok (.dup, 1) := by decide +kernel
theorem d_1_36 : decode prog_1_method_1_code 36 = .ok (.invokespecial 19, 3) := by decide +kernel
theorem d_1_39 : decode prog_1_method_1_code 39 = .ok (.aastore, 1) := by decide +kernel
theorem d_1_40 : decode prog_1_method_1_code 40 = .ok (.iinc 1 1, 3) := by decide +kernel
theorem d_1_43 : decode prog_1_method_1_code 43 = .ok (.goto (-21), 3) := by decide +kernel
theorem d_1_46 : decode prog_1_method_1_code 46 = .ok (.aload_n 0, 1) := by decide +kernel
theorem d_1_47 : decode prog_1_method_1_code 47 = .ok (.new 20, 3) := by decide +kernel
theorem d_1_50 : decode prog_1_method_1_code 50 = .ok (.dup, 1) := by decide +kernel
theorem d_1_51 : decode prog_1_method_1_code 51 = .ok (.invokespecial 22, 3) := by decide +kernel
theorem d_1_54 : decode prog_1_method_1_code 54 = .ok (.putfield 23, 3) := by decide +kernel
theorem d_1_57 : decode prog_1_method_1_code 57 = .ok (.aload_n 0, 1) := by decide +kernel
theorem d_1_58 : decode prog_1_method_1_code 58 = .ok (.new 27, 3) := by decide +kernel
theorem d_1_61 : decode prog_1_method_1_code 61 = .ok (.dup, 1) := by decide +kernel
theorem d_1_62 : decode prog_1_method_1_code 62 = .ok (.invokespecial 29, 3) := by decide +kernel
theorem d_1_65 : decode prog_1_method_1_code 65 = .ok (.putfield 30, 3) := by decide +kernel
theorem d_1_68 : decode prog_1_method_1_code 68 = .ok (.aload_n 0, 1) := by decide +kernel
theorem d_1_69 : decode prog_1_method_1_code 69 = .ok (.new 34, 3) := by decide +kernel
theorem d_1_72 : decode prog_1_method_1_code 72 = .ok (.dup, 1) := by decide +kernel
theorem d_1_73 : decode prog_1_method_1_code 73 = .ok (.aload_n 0, 1) := by decide +kernel
theorem d_1_74 : decode prog_1_method_1_code 74 = .ok (.getfield 15, 3) := by decide +kernel
theorem d_1_77 : decode prog_1_method_1_code 77 = .ok (.iconst 0, 1) := by decide +kernel
theorem d_1_78 : decode prog_1_method_1_code 78 = .ok (.aaload, 1) := by decide +kernel
theorem d_1_79 : decode prog_1_method_1_code 79 = .ok (.invokespecial 36, 3) := by decide +kernel
theorem d_1_82 : decode prog_1_method_1_code 82 = .ok (.putfield 39, 3) := by decide +kernel
theorem d_1_85 : decode prog_1_method_1_code 85 = .ok (.aload_n 0, 1) := by decide +kernel
theorem d_1_86 : decode prog_1_method_1_code 86 = .ok (.new 43, 3) := by decide +kernel
theorem d_1_89 : decode prog_1_method_1_code 89 = .ok (.dup, 1) := by decide +kernel
theorem d_1_90 : decode prog_1_method_1_code 90 = .ok (.aload_n 0, 1) := by decide +kernel
theorem d_1_91 : decode prog_1_method_1_code 91 = .ok (.getfield 23, 3) := by decide +kernel
theorem d_1_94 : decode prog_1_method_1_code 94 = .ok (.aload_n 0, 1) := by decide +kernel
theorem d_1_95 : decode prog_1_method_1_code 95 = .ok (.getfield 30, 3) := by decide +kernel
theorem d_1_98 : decode prog_1_method_1_code 98 = .ok (.invokespecial 45, 3) := by decide +kernel
theorem d_1_101 : decode prog_1_method_1_code 101 = .ok (.putfield 48, 3) := by decide +kernel
theorem d_1_104 : decode prog_1_method_1_code 104 = .ok (.aload_n 0, 1) := by decide +kernel
theorem d_1_105 : decode prog_1_method_1_code 105 = .ok (.new 52, 3) := by decide +kernel
theorem d_1_108 : decode prog_1_method_1_code 108 = .ok (.dup, 1) := by decide +kernel
theorem d_1_109 : decode prog_1_method_1_code 109 = .ok (.aload_n 0, 1) := by decide +kernel
theorem d_1_110 : decode prog_1_method_1_code 110 = .ok (.getfield 15, 3) := by decide +kernel
theorem d_1_113 : decode prog_1_method_1_code 113 = .ok (.aload_n 0, 1) := by decide +kernel
theorem d_1_114 : decode prog_1_method_1_code 114 = .ok (.getfield 23, 3) := by decide +kernel
theorem d_1_117 : decode prog_1_method_1_code 117 = .ok (.aload_n 0, 1) := by decide +kernel
theorem d_1_118 : decode prog_1_method_1_code 118 = .ok (.getfield 30, 3) := by decide +kernel
theorem d_1_121 : decode prog_1_method_1_code 121 = .ok (.invokespecial 54, 3) := by decide +kernel
theorem d_1_124 : decode prog_1_method_1_code 124 = .ok (.putfield 57, 3) := by decide +kernel
theorem d_1_127 : decode prog_1_method_1_code 127 = .ok (.aload_n 0, 1) := by decide +kernel
theorem d_1_128 : decode prog_1_method_1_code 128 = .ok (.new 61, 3) := by decide +kernel
theorem d_1_131 : decode prog_1_method_1_code 131 = .ok (.dup, 1) := by decide +kernel
theorem d_1_132 : decode prog_1_method_1_code 132 = .ok (.aload_n 0, 1) := by decide +kernel
theorem d_1_133 : decode prog_1_method_1_code 133 = .ok (.getfield 23, 3) := by decide +kernel
theorem d_1_136 : decode prog_1_method_1_code 136 = .ok (.aload_n 0, 1) := by decide +kernel
theorem d_1_137 : decode prog_1_method_1_code 137 = .ok (.getfield 30, 3) := by decide +kernel
theorem d_1_140 : decode prog_1_method_1_code 140 = .ok (.aload_n 0, 1) := by decide +kernel
theorem d_1_141 : decode prog_1_method_1_code 141 = .ok (.getfield 39, 3) := by decide +kernel
theorem d_1_144 : decode prog_1_method_1_code 144 = .ok (.invokespecial 63, 3) := by decide +kernel
theorem d_1_147 : decode prog_1_method_1_code 147 = .ok (.putfield 66, 3) := by decide +kernel
theorem d_1_150 : decode prog_1_method_1_code 150 = .ok (.aload_n 0, 1) := by decide +kernel
theorem d_1_151 : decode prog_1_method_1_code 151 = .ok (.sipush 180, 3) := by decide +kernel
theorem d_1_154 : decode prog_1_method_1_code 154 = .ok (.newarray .long, 2) := by decide +kernel
theorem d_1_156 : decode prog_1_method_1_code 156 = .ok (.putfield 70, 3) := by decide +kernel
theorem d_1_159 : decode prog_1_method_1_code 159 = .ok (.aload_n 0, 1) := by decide +kernel
theorem d_1_160 : decode prog_1_method_1_code 160 = .ok (.bipush 20, 2) := by decide +kernel
theorem d_1_162 : decode prog_1_method_1_code 162 = .ok (.newarray .long, 2) := by decide +kernel
theorem d_1_164 : decode prog_1_method_1_code 164 = .ok (.putfield 74, 3) := by decide +kernel
theorem d_1_167 : decode prog_1_method_1_code 167 = .ok (.return_, 1) := by decide +kernel
set_option maxRecDepth 20000 in
theorem ok_1 : ∀ r ∈ tb_1, sm_ok 1 r := List.forall_mem_cons.mpr ⟨d_1_0, List.forall_mem_cons.mpr ⟨⟨d_1_1, (Or.inl ⟨rfl, wd_33, wd_34, wd_35⟩)⟩, List.forall_mem_cons.mpr ⟨d_1_4, List.forall_mem_cons.mpr ⟨d_1_5, List.forall_mem_cons.mpr ⟨⟨d_1_7, ⟨wd_36, Or.inr (Or.inr (Or.inl ⟨rfl, rfl⟩))⟩⟩, List.forall_mem_cons.mpr ⟨⟨d_1_9, pf_0 rfl⟩, List.forall_mem_cons.mpr ⟨d_1_12, List.forall_mem_cons.mpr ⟨d_1_13, List.forall_mem_cons.mpr ⟨⟨d_1_14, ⟨wd_38, wd_39⟩⟩, List.forall_mem_cons.mpr ⟨⟨d_1_17, pf_1 rfl⟩, List.forall_mem_cons.mpr ⟨d_1_20, List.forall_mem_cons.mpr ⟨d_1_21, List.forall_mem_cons.mpr ⟨d_1_22, List.forall_mem_cons.mpr ⟨d_1_23, List.forall_mem_cons.mpr ⟨⟨d_1_24, (by decide)⟩, List.forall_mem_cons.mpr ⟨d_1_27, List.forall_mem_cons.mpr ⟨⟨d_1_28, Or.inl pf_2⟩, List.forall_mem_cons.mpr ⟨d_1_31, List.forall_mem_cons.mpr ⟨⟨d_1_32, ⟨_, rfl, wd_38⟩⟩, List.forall_mem_cons.mpr ⟨d_1_35, List.forall_mem_cons.mpr ⟨⟨d_1_36, (Or.inr ⟨(by decide), mo_25, mi_25, rfl, rfl, pm_30⟩)⟩, List.forall_mem_cons.mpr ⟨d_1_39, List.forall_mem_cons.mpr ⟨d_1_40, List.forall_mem_cons.mpr ⟨⟨d_1_43, (by decide)⟩, List.forall_mem_cons.mpr ⟨d_1_46, List.forall_mem_cons.mpr ⟨⟨d_1_47, ⟨_, rfl, wd_42⟩⟩, List.forall_mem_cons.mpr ⟨d_1_50, List.forall_mem_cons.mpr ⟨⟨d_1_51, (Or.inr ⟨(by decide), mo_58, mi_58, rfl, rfl, pm_31⟩)⟩, List.forall_mem_cons.mpr ⟨⟨d_1_54, pf_3 rfl⟩, List.forall_mem_cons.mpr ⟨d_1_57, List.forall_mem_cons.mpr ⟨⟨d_1_58, ⟨_, rfl, wd_45⟩⟩, List.forall_mem_cons.mpr ⟨d_1_61, List.forall_mem_cons.mpr ⟨⟨d_1_62, (Or.inr ⟨(by decide), mo_44, mi_44, rfl, rfl, pm_32⟩)⟩, List.forall_mem_cons.mpr ⟨⟨d_1_65, pf_4 rfl⟩, List.forall_mem_cons.mpr ⟨d_1_68, List.forall_mem_cons.mpr ⟨⟨d_1_69, ⟨_, rfl, wd_48⟩⟩, List.forall_mem_cons.mpr ⟨d_1_72, List.forall_mem_cons.mpr ⟨d_1_73, List.forall_mem_cons.mpr ⟨⟨d_1_74, Or.inl pf_2⟩, List.forall_mem_cons.mpr ⟨d_1_77, List.forall_mem_cons.mpr ⟨d_1_78, List.forall_mem_cons.mpr ⟨⟨d_1_79, (Or.inr ⟨(by decide), mo_39, mi_39, rfl, rfl, pm_33⟩)⟩, List.forall_mem_cons.mpr ⟨⟨d_1_82, pf_5 rfl⟩, List.forall_mem_cons.mpr ⟨d_1_85, List.forall_mem_cons.mpr ⟨⟨d_1_86, ⟨_, rfl, wd_51⟩⟩, List.forall_mem_cons.mpr ⟨d_1_89, List.forall_mem_cons.mpr ⟨d_1_90, List.forall_mem_cons.mpr ⟨⟨d_1_91, Or.inl pf_6⟩, List.forall_mem_cons.mpr ⟨d_1_94, List.forall_mem_cons.mpr ⟨⟨d_1_95, Or.inl pf_7⟩, List.forall_mem_cons.mpr ⟨⟨d_1_98, (Or.inr ⟨(by decide), mo_83, mi_83, rfl, rfl, pm_34⟩)⟩, List.forall_mem_cons.mpr ⟨⟨d_1_101, pf_8 rfl⟩, List.forall_mem_cons.mpr ⟨d_1_104, List.forall_mem_cons.mpr ⟨⟨d_1_105, ⟨_, rfl, wd_54⟩⟩, List.forall_mem_cons.mpr ⟨d_1_108, List.forall_mem_cons.mpr ⟨d_1_109, List.forall_mem_cons.mpr ⟨⟨d_1_110, Or.inl pf_2⟩, List.forall_mem_cons.mpr ⟨d_1_113, List.forall_mem_cons.mpr ⟨⟨d_1_114, Or.inl pf_6⟩, List.forall_mem_cons.mpr ⟨d_1_117, List.forall_mem_cons.mpr ⟨⟨d_1_118, Or.inl pf_7⟩, List.forall_mem_cons.mpr ⟨⟨d_1_121, (Or.inr ⟨(by decide), mo_105, mi_105, rfl, rfl, pm_35⟩)⟩, List.forall_mem_cons.mpr ⟨⟨d_1_124, pf_9 rfl⟩, List.forall_mem_cons.mpr ⟨d_1_127, List.forall_mem_cons.mpr ⟨⟨d_1_128, ⟨_, rfl, wd_57⟩⟩, List.forall_mem_cons.mpr ⟨d_1_131, List.forall_mem_cons.mpr ⟨d_1_132, List.forall_mem_cons.mpr ⟨⟨d_1_133, Or.inl pf_6⟩, List.forall_mem_cons.mpr ⟨d_1_136, List.forall_mem_cons.mpr ⟨⟨d_1_137, Or.inl pf_7⟩, List.forall_mem_cons.mpr ⟨d_1_140, List.forall_mem_cons.mpr ⟨⟨d_1_141, Or.inl pf_10⟩, List.forall_mem_cons.mpr ⟨⟨d_1_144, (Or.inr ⟨(by decide), mo_118, mi_118, rfl, rfl, pm_36⟩)⟩, List.forall_mem_cons.mpr ⟨⟨d_1_147, pf_11 rfl⟩, List.forall_mem_cons.mpr ⟨d_1_150, List.forall_mem_cons.mpr ⟨d_1_151, List.forall_mem_cons.mpr ⟨⟨d_1_154, ⟨wd_60, Or.inr (Or.inl ⟨rfl, rfl⟩)⟩⟩, List.forall_mem_cons.mpr ⟨⟨d_1_156, pf_12 rfl⟩, List.forall_mem_cons.mpr ⟨d_1_159, List.forall_mem_cons.mpr ⟨d_1_160, List.forall_mem_cons.mpr ⟨⟨d_1_162, ⟨wd_60, Or.inr (Or.inl ⟨rfl, rfl⟩)⟩⟩, List.forall_mem_cons.mpr ⟨⟨d_1_164, pf_13 rfl⟩, List.forall_mem_cons.mpr ⟨d_1_167, fun _ h => absurd h List.not_mem_nil⟩⟩⟩⟩⟩⟩⟩⟩⟩⟩⟩⟩⟩⟩⟩⟩⟩⟩⟩⟩⟩⟩⟩⟩⟩⟩⟩⟩⟩⟩⟩⟩⟩⟩⟩⟩⟩⟩⟩⟩⟩⟩⟩⟩⟩⟩⟩⟩⟩⟩⟩⟩⟩⟩⟩⟩⟩⟩⟩⟩⟩⟩⟩⟩⟩⟩⟩⟩⟩⟩⟩⟩⟩⟩⟩⟩⟩⟩⟩⟩⟩⟩⟩
theorem d_2_0 : decode prog_1_method_2_code 0 = .ok (.iload_n 1, 1) := by decide +kernel
theorem d_2_1 : decode prog_1_method_2_code 1 = .ok (.bipush 32, 2) := by decide +kernel
theorem d_2_3 : decode prog_1_method_2_code 3 = .ok (.if_icmp .lt 18, 3) := by decide +kernel
theorem d_2_6 : decode prog_1_method_2_code 6 = .ok (.iload_n 1, 1) := by decide +kernel
theorem d_2_7 : decode prog_1_method_2_code 7 = .ok (.bipush 126, 2) := by decide +kernel
theorem d_2_9 : decode prog_1_method_2_code 9 = .ok (.if_icmp .gt 12, 3) := by decide +kernel
theorem d_2_12 : decode prog_1_method_2_code 12 = .ok (.aload_n 0, 1) := by decide +kernel
theorem d_2_13 : decode prog_1_method_2_code 13 = .ok (.getfield 77, 3) := by decide +kernel
theorem d_2_16 : decode prog_1_method_2_code 16 = .ok (.bipush 80, 2) := by decide +kernel
theorem d_2_18 : decode prog_1_method_2_code 18 = .ok (.if_icmp .lt 5, 3) := by decide +kernel
theorem d_2_21 : decode prog_1_method_2_code 21 = .ok (.iconst 0, 1) := by decide +kernel
theorem d_2_22 : decode prog_1_method_2_code 22 = .ok (.ireturn, 1) := by decide +kernel
theorem d_2_23 : decode prog_1_method_2_code 23 = .ok (.aload_n 0, 1) := by decide +kernel
theorem d_2_24 : decode prog_1_method_2_code 24 = .ok (.getfield 9, 3) := by decide +kernel
theorem d_2_27 : decode prog_1_method_2_code 27 = .ok (.aload_n 0, 1) := by decide +kernel
theorem d_2_28 : decode prog_1_method_2_code 28 = .ok (.getfield 77, 3) := by decide +kernel
theorem d_2_31 : decode prog_1_method_2_code 31 = .ok (.iload_n 1, 1) := by decide +kernel
theorem d_2_32 : decode prog_1_method_2_code 32 = .ok (.castore, 1) := by decide +kernel
theorem d_2_33 : decode prog_1_method_2_code 33 = .ok (.aload_n 0, 1) := by decide +kernel
theorem d_2_34 : decode prog_1_method_2_code 34 = .ok (.dup, 1) := by decide +kernel
theorem d_2_35 : decode prog_1_method_2_code 35 = .ok (.getfield 77, 3) := by decide +kernel
theorem d_2_38 : decode prog_1_method_2_code 38 = .ok (.iconst 1, 1) := by decide +kernel
theorem d_2_39 : decode prog_1_method_2_code 39 = .ok (.iadd, 1) := by decide +kernel
theorem d_2_40 : decode prog_1_method_2_code 40 = .ok (.putfield 77, 3) := by decide +kernel
theorem d_2_43 : decode prog_1_method_2_code 43 = .ok (.iconst 1, 1) := by decide +kernel
theorem d_2_44 : decode prog_1_method_2_code 44 = .ok (.ireturn, 1) := by decide +kernel
set_option maxRecDepth 20000 in
theorem ok_2 : ∀ r ∈ tb_2, sm_ok 2 r := List.forall_mem_cons.mpr ⟨d_2_0, List.forall_mem_cons.mpr ⟨d_2_1, List.forall_mem_cons.mpr ⟨⟨d_2_3, (by decide)⟩, List.forall_mem_cons.mpr ⟨d_2_6, List.forall_mem_cons.mpr ⟨d_2_7, List.forall_mem_cons.mpr ⟨⟨d_2_9, (by decide)⟩, List.forall_mem_cons.mpr ⟨d_2_12, List.forall_mem_cons.mpr ⟨⟨d_2_13, Or.inl pf_14⟩, List.forall_mem_cons.mpr ⟨d_2_16, List.forall_mem_cons.mpr ⟨⟨d_2_18, (by decide)⟩, List.forall_mem_cons.mpr ⟨d_2_21, List.forall_mem_cons.mpr ⟨d_2_22, List.forall_mem_cons.mpr ⟨d_2_23, List.forall_mem_cons.mpr ⟨⟨d_2_24, Or.inl pf_15⟩, List.forall_mem_cons.mpr ⟨d_2_27, List.forall_mem_cons.mpr ⟨⟨d_2_28, Or.inl pf_14⟩, List.forall_mem_cons.mpr ⟨d_2_31, List.forall_mem_cons.mpr ⟨d_2_32, List.forall_mem_cons.mpr ⟨d_2_33, List.forall_mem_cons.mpr ⟨d_2_34, List.forall_mem_cons.mpr ⟨⟨d_2_35, Or.inl pf_14⟩, List.forall_mem_cons.mpr ⟨d_2_38, List.forall_mem_cons.mpr ⟨d_2_39, List.forall_mem_cons.mpr ⟨⟨d_2_40, pf_16⟩, List.forall_mem_cons.mpr ⟨d_2_43, List.forall_mem_cons.mpr ⟨d_2_44, fun _ h => absurd h List.not_mem_nil⟩⟩⟩⟩⟩⟩⟩⟩⟩⟩⟩⟩⟩⟩⟩⟩⟩⟩⟩⟩⟩⟩⟩⟩⟩⟩
theorem d_3_0 : decode prog_1_method_3_code 0 = .ok (.aload_n 0, 1) := by decide +kernel
theorem d_3_1 : decode prog_1_method_3_code 1 = .ok (.getfield 77, 3) := by decide +kernel
theorem d_3_4 : decode prog_1_method_3_code 4 = .ok (.ifCond .ne 5, 3) := by decide +kernel
theorem d_3_7 : decode prog_1_method_3_code 7 = .ok (.iconst 0, 1) := by decide +kernel
theorem d_3_8 : decode prog_1_method_3_code 8 = .ok (.ireturn, 1) := by decide +kernel
theorem d_3_9 : decode prog_1_method_3_code 9 = .ok (.aload_n 0, 1) := by decide +kernel
theorem d_3_10 : decode prog_1_method_3_code 10 = .ok (.dup, 1) := by decide +kernel
theorem d_3_11 : decode prog_1_method_3_code 11 = .ok (.getfield 77, 3) := by decide +kernel
theorem d_3_14 : decode prog_1_method_3_code 14 = .ok (.iconst 1, 1) := by decide +kernel
theorem d_3_15 : decode prog_1_method_3_code 15 = .ok (.isub, 1) := by decide +kernel
theorem d_3_16 : decode prog_1_method_3_code 16 = .ok (.putfield 77, 3) := by decide +kernel
theorem d_3_19 : decode prog_1_method_3_code 19 = .ok (.iconst 1, 1) := by decide +kernel
theorem d_3_20 : decode prog_1_method_3_code 20 = .ok (.ireturn, 1) := by decide +kernel
set_option maxRecDepth 20000 in
theorem ok_3 : ∀ r ∈ tb_3, sm_ok 3 r := List.forall_mem_cons.mpr ⟨d_3_0, List.forall_mem_cons.mpr ⟨⟨d_3_1, Or.inl pf_14⟩, List.forall_mem_cons.mpr ⟨⟨d_3_4, (by decide)⟩, List.forall_mem_cons.mpr ⟨d_3_7, List.forall_mem_cons.mpr ⟨d_3_8, List.forall_mem_cons.mpr ⟨d_3_9, List.forall_mem_cons.mpr ⟨d_3_10, List.forall_mem_cons.mpr ⟨⟨d_3_11, Or.inl pf_14⟩, List.forall_mem_cons.mpr ⟨d_3_14, List.forall_mem_cons.mpr ⟨d_3_15, List.forall_mem_cons.mpr ⟨⟨d_3_16, pf_16⟩, List.forall_mem_cons.mpr ⟨d_3_19, List.forall_mem_cons.mpr ⟨d_3_20, fun _ h => absurd h List.not_mem_nil⟩⟩⟩⟩⟩⟩⟩⟩⟩⟩⟩⟩⟩
theorem d_4_0 : decode prog_1_method_4_code 0 = .ok (.aload_n 0, 1) := by decide +kernel
theorem d_4_1 : decode prog_1_method_4_code 1 = .ok (.invokevirtual 81, 3) := by decide +kernel
theorem d_4_4 : decode prog_1_method_4_code 4 = .ok (.aload_n 0, 1) := by decide +kernel
theorem d_4_5 : decode prog_1_method_4_code 5 = .ok (.getfield 48, 3) := by decide +kernel
theorem d_4_8 : decode prog_1_method_4_code 8 = .ok (.aload_n 0, 1) := by decide +kernel
theorem d_4_9 : decode prog_1_method_4_code 9 = .ok (.getfield 9, 3) := by decide +kernel
theorem d_4_12 : decode prog_1_method_4_code 12 = .ok (.aload_n 0, 1) := by decide +kernel
theorem d_4_13 : decode prog_1_method_4_code 13 = .ok (.getfield 77, 3) := by decide +kernel
theorem d_4_16 : decode prog_1_method_4_code 16 = .ok (.invokevirtual 84, 3) := by decide +kernel
theorem d_4_19 : decode prog_1_method_4_code 19 = .ok (.ifCond .eq 27, 3) := by decide +kernel
theorem d_4_22 : decode prog_1_method_4_code 22 = .ok (.aload_n 0, 1) := by decide +kernel
theorem d_4_23 : decode prog_1_method_4_code 23 = .ok (.getfield 48, 3) := by decide +kernel
theorem d_4_26 : decode prog_1_method_4_code 26 = .ok (.invokevirtual 88, 3) := by decide +kernel
theorem d_4_29 : decode prog_1_method_4_code 29 = .ok (.ifCond .eq 17, 3) := by decide +kernel
theorem d_4_32 : decode prog_1_method_4_code 32 = .ok (.aload_n 0, 1) := by decide +kernel
theorem d_4_33 : decode prog_1_method_4_code 33 = .ok (.getfield 48, 3) := by decide +kernel
theorem d_4_36 : decode prog_1_method_4_code 36 = .ok (.invokevirtual 92, 3) := by decide +kernel
theorem d_4_39 : decode prog_1_method_4_code 39 = .ok (.ifCond .eq 7, 3) := by decide +kernel
theorem d_4_42 : decode prog_1_method_4_code 42 = .ok (.iconst 1, 1) := by decide +kernel
theorem d_4_43 : decode prog_1_method_4_code 43 = .ok (.goto 4, 3) := by decide +kernel
theorem d_4_46 : decode prog_1_method_4_code 46 = .ok (.iconst 0, 1) := by decide +kernel
theorem d_4_47 : decode prog_1_method_4_code 47 = .ok (.istore_n 1, 1) := by decide +kernel
theorem d_4_48 : decode prog_1_method_4_code 48 = .ok (.aload_n 0, 1) := by decide +kernel
theorem d_4_49 : decode prog_1_method_4_code 49 = .ok (.iconst 0, 1) := by decide +kernel
theorem d_4_50 : decode prog_1_method_4_code 50 = .ok (.putfield 77, 3) := by decide +kernel
theorem d_4_53 : decode prog_1_method_4_code 53 = .ok (.iload_n 1, 1) := by decide +kernel
theorem d_4_54 : decode prog_1_method_4_code 54 = .ok (.ifCond .eq 10, 3) := by decide +kernel
theorem d_4_57 : decode prog_1_method_4_code 57 = .ok (.aload_n 0, 1) := by decide +kernel
theorem d_4_58 : decode prog_1_method_4_code 58 = .ok (.invokevirtual 95, 3) := by decide +kernel
theorem d_4_61 : decode prog_1_method_4_code 61 = .ok (.goto 4, 3) := by decide +kernel
theorem d_4_64 : decode prog_1_method_4_code 64 = .ok (.iconst 1, 1) := by decide +kernel
theorem d_4_65 : decode prog_1_method_4_code 65 = .ok (.ireturn, 1) := by decide +kernel
set_option maxRecDepth 20000 in
theorem ok_4 : ∀ r ∈ tb_4, sm_ok 4 r := List.forall_mem_cons.mpr ⟨d_4_0, List.forall_mem_cons.mpr ⟨⟨d_4_1, ⟨mo_17, mi_17, se_17, pm_37⟩⟩, List.forall_mem_cons.mpr ⟨d_4_4, List.forall_mem_cons.mpr ⟨⟨d_4_5, Or.inl pf_17⟩, List.forall_mem_cons.mpr ⟨d_4_8, List.forall_mem_cons.mpr ⟨⟨d_4_9, Or.inl pf_15⟩, List.forall_mem_cons.mpr ⟨d_4_12, List.forall_mem_cons.mpr ⟨⟨d_4_13, Or.inl pf_14⟩, List.forall_mem_cons.mpr ⟨⟨d_4_16, ⟨mo_84, mi_84, se_84, pm_38⟩⟩, List.forall_mem_cons.mpr ⟨⟨d_4_19, (by decide)⟩, List.forall_mem_cons.mpr ⟨d_4_22, List.forall_mem_cons.mpr ⟨⟨d_4_23, Or.inl pf_17⟩, List.forall_mem_cons.mpr ⟨⟨d_4_26, ⟨mo_86, mi_86, se_86, pm_39⟩⟩, List.forall_mem_cons.mpr ⟨⟨d_4_29, (by decide)⟩, List.forall_mem_cons.mpr ⟨d_4_32, List.forall_mem_cons.mpr ⟨⟨d_4_33, Or.inl pf_17⟩, List.forall_mem_cons.mpr ⟨⟨d_4_36, ⟨mo_85, mi_85, se_85, pm_40⟩⟩, List.forall_mem_cons.mpr ⟨⟨d_4_39, (by decide)⟩, List.forall_mem_cons.mpr ⟨d_4_42, List.forall_mem_cons.mpr ⟨⟨d_4_43, (by decide)⟩, List.forall_mem_cons.mpr ⟨d_4_46, List.forall_mem_cons.mpr ⟨d_4_47, List.forall_mem_cons.mpr ⟨d_4_48, List.forall_mem_cons.mpr ⟨d_4_49, List.forall_mem_cons.mpr ⟨⟨d_4_50, pf_16⟩, List.forall_mem_cons.mpr ⟨d_4_53, List.forall_mem_cons.mpr ⟨⟨d_4_54, (by decide)⟩, List.forall_mem_cons.mpr ⟨d_4_57, List.forall_mem_cons.mpr ⟨⟨d_4_58, ⟨mo_18, mi_18, se_18, pm_41⟩⟩, List.forall_mem_cons.mpr ⟨⟨d_4_61, (by decide)⟩, List.forall_mem_cons.mpr ⟨d_4_64, List.forall_mem_cons.mpr ⟨d_4_65, fun _ h => absurd h List.not_mem_nil⟩⟩⟩⟩⟩⟩⟩⟩⟩⟩⟩⟩⟩⟩⟩⟩⟩⟩⟩⟩⟩⟩⟩⟩⟩⟩⟩⟩⟩⟩⟩⟩
theorem d_5_0 : decode prog_1_method_5_code 0 = .ok (.aload_n 0, 1) := by decide +kernel
theorem d_5_1 : decode prog_1_method_5_code 1 = .ok (.getfield 77, 3) := by decide +kernel
theorem d_5_4 : decode prog_1_method_5_code 4 = .ok (.ireturn, 1) := by decide +kernel
set_option maxRecDepth 20000 in
theorem ok_5 : ∀ r ∈ tb_5, sm_ok 5 r := List.forall_mem_cons.mpr ⟨d_5_0, List.forall_mem_cons.mpr ⟨⟨d_5_1, Or.inl pf_14⟩, List.forall_mem_cons.mpr ⟨d_5_4, fun _ h => absurd h List.not_mem_nil⟩⟩⟩
theorem d_6_0 : decode prog_1_method_6_code 0 = .ok (.aload_n 0, 1) := by decide +kernel
theorem d_6_1 : decode prog_1_method_6_code 1 = .ok (.getfield 99, 3) := by decide +kernel
theorem d_6_4 : decode prog_1_method_6_code 4 = .ok (.ireturn, 1) := by decide +kernel
set_option maxRecDepth 20000 in
theorem ok_6 : ∀ r ∈ tb_6, sm_ok 6 r := List.forall_mem_cons.mpr ⟨d_6_0, List.forall_mem_cons.mpr ⟨⟨d_6_1, Or.inl pf_18⟩, List.forall_mem_cons.mpr ⟨d_6_4, fun _ h => absurd h List.not_mem_nil⟩⟩⟩
theorem d_7_0 : decode prog_1_method_7_code 0 = .ok (.aload_n 0, 1) := by decide +kernel
theorem d_7_1 : decode prog_1_method_7_code 1 = .ok (.getfield 102, 3) := by decide +kernel
theorem d_7_4 : decode prog_1_method_7_code 4 = .ok (.ireturn, 1) := by decide +kernel
set_option maxRecDepth 20000 in
theorem ok_7 : ∀ r ∈ tb_7, sm_ok 7 r := List.forall_mem_cons.mpr ⟨d_7_0, List.forall_mem_cons.mpr ⟨⟨d_7_1, Or.inl pf_19⟩, List.forall_mem_cons.mpr ⟨d_7_4, fun _ h => absurd h List.not_mem_nil⟩⟩⟩
theorem d_8_0 : decode prog_1_method_8_code 0 = .ok (.iload_n 1, 1) := by decide +kernel
theorem d_8_1 : decode prog_1_method_8_code 1 = .ok (.ifCond .lt 23, 3) := by decide +kernel
theorem d_8_4 : decode prog_1_method_8_code 4 = .ok (.iload_n 1, 1) := by decide +kernel
theorem d_8_5 : decode prog_1_method_8_code 5 = .ok (.aload_n 0, 1) := by decide +kernel
theorem d_8_6 : decode prog_1_method_8_code 6 = .ok (.getfield 99, 3) := by decide +kernel
theorem d_8_9 : decode prog_1_method_8_code 9 = .ok (.if_icmp .ge 15, 3) := by decide +kernel
theorem d_8_12 : decode prog_1_method_8_code 12 = .ok (.iload_n 2, 1) := by decide +kernel
theorem d_8_13 : decode prog_1_method_8_code 13 = .ok (.ifCond .lt 11, 3) := by decide +kernel
theorem d_8_16 : decode prog_1_method_8_code 16 = .ok (.iload_n 2, 1) := by decide +kernel
theorem d_8_17 : decode prog_1_method_8_code 17 = .ok (.aload_n 0, 1) := by decide +kernel
theorem d_8_18 : decode prog_1_method_8_code 18 = .ok (.getfield 102, 3) := by decide +kernel
theorem d_8_21 : decode prog_1_method_8_code 21 = .ok (.if_icmp .lt 7, 3) := by decide +kernel
theorem d_8_24 : decode prog_1_method_8_code 24 = .ok (.ldc2_w 105, 3) := by decide +kernel
theorem d_8_27 : decode prog_1_method_8_code 27 = .ok (.lreturn, 1) := by decide +kernel
theorem d_8_28 : decode prog_1_method_8_code 28 = .ok (.aload_n 0, 1) := by decide +kernel
theorem d_8_29 : decode prog_1_method_8_code 29 = .ok (.getfield 70, 3) := by decide +kernel
theorem d_8_32 : decode prog_1_method_8_code 32 = .ok (.iload_n 1, 1) := by decide +kernel
theorem d_8_33 : decode prog_1_method_8_code 33 = .ok (.iconst 3, 1) := by decide +kernel
theorem d_8_34 : decode prog_1_method_8_code 34 = .ok (.imul, 1) := by decide +kernel
theorem d_8_35 : decode prog_1_method_8_code 35 = .ok (.iload_n 2, 1) := by decide +kernel
theorem d_8_36 : decode prog_1_method_8_code 36 = .ok (.iadd, 1) := by decide +kernel
theorem d_8_37 : decode prog_1_method_8_code 37 = .ok (.laload, 1) := by decide +kernel
theorem d_8_38 : decode prog_1_method_8_code 38 = .ok (.lreturn, 1) := by decide +kernel
set_option maxRecDepth 20000 in
theorem ok_8 : ∀ r ∈ tb_8, sm_ok 8 r := List.forall_mem_cons.mpr ⟨d_8_0, List.forall_mem_cons.mpr ⟨⟨d_8_1, (by decide)⟩, List.forall_mem_cons.mpr ⟨d_8_4, List.forall_mem_cons.mpr ⟨d_8_5, List.forall_mem_cons.mpr ⟨⟨d_8_6, Or.inl pf_18⟩, List.forall_mem_cons.mpr ⟨⟨d_8_9, (by decide)⟩, List.forall_mem_cons.mpr ⟨d_8_12, List.forall_mem_cons.mpr ⟨⟨d_8_13, (by decide)⟩, List.forall_mem_cons.mpr ⟨d_8_16, List.forall_mem_cons.mpr ⟨d_8_17, List.forall_mem_cons.mpr ⟨⟨d_8_18, Or.inl pf_19⟩, List.forall_mem_cons.mpr ⟨⟨d_8_21, (by decide)⟩, List.forall_mem_cons.mpr ⟨⟨d_8_24, (fun _ h => Option.some.inj h ▸ wd_71)⟩, List.forall_mem_cons.mpr ⟨d_8_27, List.forall_mem_cons.mpr ⟨d_8_28, List.forall_mem_cons.mpr ⟨⟨d_8_29, Or.inl pf_20⟩, List.forall_mem_cons.mpr ⟨d_8_32, List.forall_mem_cons.mpr ⟨d_8_33, List.forall_mem_cons.mpr ⟨d_8_34, List.forall_mem_cons.mpr ⟨d_8_35, List.forall_mem_cons.mpr ⟨d_8_36, List.forall_mem_cons.mpr ⟨d_8_37, List.forall_mem_cons.mpr ⟨d_8_38, fun _ h => absurd h List.not_mem_nil⟩⟩⟩⟩⟩⟩⟩⟩⟩⟩⟩⟩⟩⟩⟩⟩⟩⟩⟩⟩⟩⟩⟩
theorem d_9_0 : decode prog_1_method_9_code 0 = .ok (.aload_n 0, 1) := by decide +kernel
theorem d_9_1 : decode prog_1_method_9_code 1 = .ok (.getfield 107, 3) := by decide +kernel
theorem d_9_4 : decode prog_1_method_9_code 4 = .ok (.ireturn, 1) := by decide +kernel
set_option maxRecDepth 20000 in
theorem ok_9 : ∀ r ∈ tb_9, sm_ok 9 r := List.forall_mem_cons.mpr ⟨d_9_0, List.forall_mem_cons.mpr ⟨⟨d_9_1, Or.inl pf_21⟩, List.forall_mem_cons.mpr ⟨d_9_4, fun _ h => absurd h List.not_mem_nil⟩⟩⟩
theorem d_10_0 : decode prog_1_method_10_code 0 = .ok (.aload_n 0, 1) := by decide +kernel
theorem d_10_1 : decode prog_1_method_10_code 1 = .ok (.getfield 110, 3) := by decide +kernel
theorem d_10_4 : decode prog_1_method_10_code 4 = .ok (.ireturn, 1) := by decide +kernel
set_option maxRecDepth 20000 in
theorem ok_10 : ∀ r ∈ tb_10, sm_ok 10 r := List.forall_mem_cons.mpr ⟨d_10_0, List.forall_mem_cons.mpr ⟨⟨d_10_1, Or.inl pf_22⟩, List.forall_mem_cons.mpr ⟨d_10_4, fun _ h => absurd h List.not_mem_nil⟩⟩⟩
theorem d_11_0 : decode prog_1_method_11_code 0 = .ok (.iload_n 1, 1) := by decide +kernel
theorem d_11_1 : decode prog_1_method_11_code 1 = .ok (.invokestatic 113, 3) := by decide +kernel
theorem d_11_4 : decode prog_1_method_11_code 4 = .ok (.ifCond .eq 15, 3) := by decide +kernel
theorem d_11_7 : decode prog_1_method_11_code 7 = .ok (.aload_n 0, 1) := by decide +kernel
theorem d_11_8 : decode prog_1_method_11_code 8 = .ok (.getfield 15, 3) := by decide +kernel
theorem d_11_11 : decode prog_1_method_11_code 11 = .ok (.iload_n 1, 1) := by decide +kernel
theorem d_11_12 : decode prog_1_method_11_code 12 = .ok (.aaload, 1) := by decide +kernel
theorem d_11_13 : decode prog_1_method_11_code 13 = .ok (.getfield 117, 3) := by decide +kernel
theorem d_11_16 : decode prog_1_method_11_code 16 = .ok (.goto 4, 3) := by decide +kernel
theorem d_11_19 : decode prog_1_method_11_code 19 = .ok (.iconst 0, 1) := by decide +kernel
theorem d_11_20 : decode prog_1_method_11_code 20 = .ok (.ireturn, 1) := by decide +kernel
set_option maxRecDepth 20000 in
theorem ok_11 : ∀ r ∈ tb_11, sm_ok 11 r := List.forall_mem_cons.mpr ⟨d_11_0, List.forall_mem_cons.mpr ⟨⟨d_11_1, (Or.inl ⟨Nat.le_of_ble_eq_true rfl, mo_16, ms_16, pm_42⟩)⟩, List.forall_mem_cons.mpr ⟨⟨d_11_4, (by decide)⟩, List.forall_mem_cons.mpr ⟨d_11_7, List.forall_mem_cons.mpr ⟨⟨d_11_8, Or.inl pf_2⟩, List.forall_mem_cons.mpr ⟨d_11_11, List.forall_mem_cons.mpr ⟨d_11_12, List.forall_mem_cons.mpr ⟨⟨d_11_13, Or.inl pf_23⟩, List.forall_mem_cons.mpr ⟨⟨d_11_16, (by decide)⟩, List.forall_mem_cons.mpr ⟨d_11_19, List.forall_mem_cons.mpr ⟨d_11_20, fun _ h => absurd h List.not_mem_nil⟩⟩⟩⟩⟩⟩⟩⟩⟩⟩⟩
theorem d_12_0 : decode prog_1_method_12_code 0 = .ok (.iload_n 1, 1) := by decide +kernel
theorem d_12_1 : decode prog_1_method_12_code 1 = .ok (.invokestatic 113, 3) := by decide +kernel
theorem d_12_4 : decode prog_1_method_12_code 4 = .ok (.ifCond .eq 15, 3) := by decide +kernel
theorem d_12_7 : decode prog_1_method_12_code 7 = .ok (.aload_n 0, 1) := by decide +kernel
theorem d_12_8 : decode prog_1_method_12_code 8 = .ok (.getfield 15, 3) := by decide +kernel
theorem d_12_11 : decode prog_1_method_12_code 11 = .ok (.iload_n 1, 1) := by decide +kernel
theorem d_12_12 : decode prog_1_method_12_code 12 = .ok (.aaload, 1) := by decide +kernel
theorem d_12_13 : decode prog_1_method_12_code 13 = .ok (.getfield 120, 3) := by decide +kernel
theorem d_12_16 : decode prog_1_method_12_code 16 = .ok (.goto 4, 3) := by decide +kernel
theorem d_12_19 : decode prog_1_method_12_code 19 = .ok (.iconst 0, 1) := by decide +kernel
theorem d_12_20 : decode prog_1_method_12_code 20 = .ok (.ireturn, 1) := by decide +kernel
set_option maxRecDepth 20000 in
theorem ok_12 : ∀ r ∈ tb_12, sm_ok 12 r := List.forall_mem_cons.mpr ⟨d_12_0, List.forall_mem_cons.mpr ⟨⟨d_12_1, (Or.inl ⟨Nat.le_of_ble_eq_true rfl, mo_16, ms_16, pm_42⟩)⟩, List.forall_mem_cons.mpr ⟨⟨d_12_4, (by decide)⟩, List.forall_mem_cons.mpr ⟨d_12_7, List.forall_mem_cons.mpr ⟨⟨d_12_8, Or.inl pf_2⟩, List.forall_mem_cons.mpr ⟨d_12_11, List.forall_mem_cons.mpr ⟨d_12_12, List.forall_mem_cons.mpr ⟨⟨d_12_13, Or.inl pf_24⟩, List.forall_mem_cons.mpr ⟨⟨d_12_16, (by decide)⟩, List.forall_mem_cons.mpr ⟨d_12_19, List.forall_mem_cons.mpr ⟨d_12_20, fun _ h => absurd h List.not_mem_nil⟩⟩⟩⟩⟩⟩⟩⟩⟩⟩⟩
theorem d_13_0 : decode prog_1_method_13_code 0 = .ok (.iload_n 1, 1) := by decide +kernel
theorem d_13_1 : decode prog_1_method_13_code 1 = .ok (.invokestatic 113, 3) := by decide +kernel
theorem d_13_4 : decode prog_1_method_13_code 4 = .ok (.ifCond .eq 20, 3) := by decide +kernel
theorem d_13_7 : decode prog_1_method_13_code 7 = .ok (.aload_n 0, 1) := by decide +kernel
theorem d_13_8 : decode prog_1_method_13_code 8 = .ok (.getfield 15, 3) := by decide +kernel
theorem d_13_11 : decode prog_1_method_13_code 11 = .ok (.iload_n 1, 1) := by decide +kernel
theorem d_13_12 : decode prog_1_method_13_code 12 = .ok (.aaload, 1) := by decide +kernel
theorem d_13_13 : decode prog_1_method_13_code 13 = .ok (.iload_n 2, 1) := by decide +kernel
theorem d_13_14 : decode prog_1_method_13_code 14 = .ok (.invokevirtual 123, 3) := by decide +kernel
theorem d_13_17 : decode prog_1_method_13_code 17 = .ok (.ifCond .eq 7, 3) := by decide +kernel
theorem d_13_20 : decode prog_1_method_13_code 20 = .ok (.iconst 1, 1) := by decide +kernel
theorem d_13_21 : decode prog_1_method_13_code 21 = .ok (.goto 4, 3) := by decide +kernel
theorem d_13_24 : decode prog_1_method_13_code 24 = .ok (.iconst 0, 1) := by decide +kernel
theorem d_13_25 : decode prog_1_method_13_code 25 = .ok (.ireturn, 1) := by decide +kernel
set_option maxRecDepth 20000 in
theorem ok_13 : ∀ r ∈ tb_13, sm_ok 13 r := List.forall_mem_cons.mpr ⟨d_13_0, List.forall_mem_cons.mpr ⟨⟨d_13_1, (Or.inl ⟨Nat.le_of_ble_eq_true rfl, mo_16, ms_16, pm_42⟩)⟩, List.forall_mem_cons.mpr ⟨⟨d_13_4, (by decide)⟩, List.forall_mem_cons.mpr ⟨d_13_7, List.forall_mem_cons.mpr ⟨⟨d_13_8, Or.inl pf_2⟩, List.forall_mem_cons.mpr ⟨d_13_11, List.forall_mem_cons.mpr ⟨d_13_12, List.forall_mem_cons.mpr ⟨d_13_13, List.forall_mem_cons.mpr ⟨⟨d_13_14, ⟨mo_28, mi_28, se_28, pm_43⟩⟩, List.forall_mem_cons.mpr ⟨⟨d_13_17, (by decide)⟩, List.forall_mem_cons.mpr ⟨d_13_20, List.forall_mem_cons.mpr ⟨⟨d_13_21, (by decide)⟩, List.forall_mem_cons.mpr ⟨d_13_24, List.forall_mem_cons.mpr ⟨d_13_25, fun _ h => absurd h List.not_mem_nil⟩⟩⟩⟩⟩⟩⟩⟩⟩⟩⟩⟩⟩⟩
theorem d_14_0 : decode prog_1_method_14_code 0 = .ok (.iload_n 1, 1) := by decide +kernel
theorem d_14_1 : decode prog_1_method_14_code 1 = .ok (.invokestatic 113, 3) := by decide +kernel
theorem d_14_4 : decode prog_1_method_14_code 4 = .ok (.ifCond .eq 17, 3) := by decide +kernel
theorem d_14_7 : decode prog_1_method_14_code 7 = .ok (.aload_n 0, 1) := by decide +kernel
theorem d_14_8 : decode prog_1_method_14_code 8 = .ok (.getfield 15, 3) := by decide +kernel
theorem d_14_11 : decode prog_1_method_14_code 11 = .ok (.iload_n 1, 1) := by decide +kernel
theorem d_14_12 : decode prog_1_method_14_code 12 = .ok (.aaload, 1) := by decide +kernel
theorem d_14_13 : decode prog_1_method_14_code 13 = .ok (.iload_n 2, 1) := by decide +kernel
theorem d_14_14 : decode prog_1_method_14_code 14 = .ok (.iload_n 3, 1) := by decide +kernel
theorem d_14_15 : decode prog_1_method_14_code 15 = .ok (.invokevirtual 126, 3) := by decide +kernel
theorem d_14_18 : decode prog_1_method_14_code 18 = .ok (.goto 6, 3) := by decide +kernel
theorem d_14_21 : decode prog_1_method_14_code 21 = .ok (.ldc2_w 105, 3) := by decide +kernel
theorem d_14_24 : decode prog_1_method_14_code 24 = .ok (.lreturn, 1) := by decide +kernel
set_option maxRecDepth 20000 in
theorem ok_14 : ∀ r ∈ tb_14, sm_ok 14 r := List.forall_mem_cons.mpr ⟨d_14_0, List.forall_mem_cons.mpr ⟨⟨d_14_1, (Or.inl ⟨Nat.le_of_ble_eq_true rfl, mo_16, ms_16, pm_42⟩)⟩, List.forall_mem_cons.mpr ⟨⟨d_14_4, (by decide)⟩, List.forall_mem_cons.mpr ⟨d_14_7, List.forall_mem_cons.mpr ⟨⟨d_14_8, Or.inl pf_2⟩, List.forall_mem_cons.mpr ⟨d_14_11, List.forall_mem_cons.mpr ⟨d_14_12, List.forall_mem_cons.mpr ⟨d_14_13, List.forall_mem_cons.mpr ⟨d_14_14, List.forall_mem_cons.mpr ⟨⟨d_14_15, ⟨mo_29, mi_29, se_29, pm_44⟩⟩, List.forall_mem_cons.mpr ⟨⟨d_14_18, (by decide)⟩, List.forall_mem_cons.mpr ⟨⟨d_14_21, (fun _ h => Option.some.inj h ▸ wd_71)⟩, List.forall_mem_cons.mpr ⟨d_14_24, fun _ h => absurd h List.not_mem_nil⟩⟩⟩⟩⟩⟩⟩⟩⟩⟩⟩⟩⟩
theorem d_15_0 : decode prog_1_method_15_code 0 = .ok (.iload_n 1, 1) := by decide +kernel
theorem d_15_1 : decode prog_1_method_15_code 1 = .ok (.invokestatic 113, 3) := by decide +kernel
theorem d_15_4 : decode prog_1_method_15_code 4 = .ok (.ifCond .eq 30, 3) := by decide +kernel
theorem d_15_7 : decode prog_1_method_15_code 7 = .ok (.aload_n 0, 1) := by decide +kernel
theorem d_15_8 : decode prog_1_method_15_code 8 = .ok (.getfield 15, 3) := by decide +kernel
theorem d_15_11 : decode prog_1_method_15_code 11 = .ok (.iload_n 1, 1) := by decide +kernel
theorem d_15_12 : decode prog_1_method_15_code 12 = .ok (.aaload, 1) := by decide +kernel
theorem d_15_13 : decode prog_1_method_15_code 13 = .ok (.iload_n 2, 1) := by decide +kernel
theorem d_15_14 : decode prog_1_method_15_code 14 = .ok (.invokevirtual 130, 3) := by decide +kernel
theorem d_15_17 : decode prog_1_method_15_code 17 = .ok (.ifCond .eq 17, 3) := by decide +kernel
theorem d_15_20 : decode prog_1_method_15_code 20 = .ok (.aload_n 0, 1) := by decide +kernel
theorem d_15_21 : decode prog_1_method_15_code 21 = .ok (.getfield 15, 3) := by decide +kernel
theorem d_15_24 : decode prog_1_method_15_code 24 = .ok (.iload_n 1, 1) := by decide +kernel
theorem d_15_25 : decode prog_1_method_15_code 25 = .ok (.aaload, 1) := by decide +kernel
theorem d_15_26 : decode prog_1_method_15_code 26 = .ok (.iload_n 2, 1) := by decide +kernel
theorem d_15_27 : decode prog_1_method_15_code 27 = .ok (.lload_n 3, 1) := by decide +kernel
theorem d_15_28 : decode prog_1_method_15_code 28 = .ok (.invokevirtual 133, 3) := by decide +kernel
theorem d_15_31 : decode prog_1_method_15_code 31 = .ok (.goto 4, 3) := by decide +kernel
theorem d_15_34 : decode prog_1_method_15_code 34 = .ok (.iconst 0, 1) := by decide +kernel
theorem d_15_35 : decode prog_1_method_15_code 35 = .ok (.ireturn, 1) := by decide +kernel
set_option maxRecDepth 20000 in
theorem ok_15 : ∀ r ∈ tb_15, sm_ok 15 r := List.forall_mem_cons.mpr ⟨d_15_0, List.forall_mem_cons.mpr ⟨⟨d_15_1, (Or.inl ⟨Nat.le_of_ble_eq_true rfl, mo_16, ms_16, pm_42⟩)⟩, List.forall_mem_cons.mpr ⟨⟨d_15_4, (by decide)⟩, List.forall_mem_cons.mpr ⟨d_15_7, List.forall_mem_cons.mpr ⟨⟨d_15_8, Or.inl pf_2⟩, List.forall_mem_cons.mpr ⟨d_15_11, List.forall_mem_cons.mpr ⟨d_15_12, List.forall_mem_cons.mpr ⟨d_15_13, List.forall_mem_cons.mpr ⟨⟨d_15_14, ⟨mo_27, mi_27, se_27, pm_45⟩⟩, List.forall_mem_cons.mpr ⟨⟨d_15_17, (by decide)⟩, List.forall_mem_cons.mpr ⟨d_15_20, List.forall_mem_cons.mpr ⟨⟨d_15_21, Or.inl pf_2⟩, List.forall_mem_cons.mpr ⟨d_15_24, List.forall_mem_cons.mpr ⟨d_15_25, List.forall_mem_cons.mpr ⟨d_15_26, List.forall_mem_cons.mpr ⟨d_15_27, List.forall_mem_cons.mpr ⟨⟨d_15_28, ⟨mo_30, mi_30, se_30, pm_46⟩⟩, List.forall_mem_cons.mpr ⟨⟨d_15_31, (by decide)⟩, List.forall_mem_cons.mpr ⟨d_15_34, List.forall_mem_cons.mpr ⟨d_15_35, fun _ h => absurd h List.not_mem_nil⟩⟩⟩⟩⟩⟩⟩⟩⟩⟩⟩⟩⟩⟩⟩⟩⟩⟩⟩⟩
theorem d_16_0 : decode prog_1_method_16_code 0 = .ok (.iload_n 0, 1) := by decide +kernel
theorem d_16_1 : decode prog_1_method_16_code 1 = .ok (.ifCond .lt 12, 3) := by decide +kernel
theorem d_16_4 : decode prog_1_method_16_code 4 = .ok (.iload_n 0, 1) := by decide +kernel
theorem d_16_5 : decode prog_1_method_16_code 5 = .ok (.iconst 3, 1) := by decide +kernel
theorem d_16_6 : decode prog_1_method_16_code 6 = .ok (.if_icmp .ge 7, 3) := by decide +kernel
theorem d_16_9 : decode prog_1_method_16_code 9 = .ok (.iconst 1, 1) := by decide +kernel
theorem d_16_10 : decode prog_1_method_16_code 10 = .ok (.goto 4, 3) := by decide +kernel
theorem d_16_13 : decode prog_1_method_16_code 13 = .ok (.iconst 0, 1) := by decide +kernel
theorem d_16_14 : decode prog_1_method_16_code 14 = .ok (.ireturn, 1) := by decide +kernel
set_option maxRecDepth 20000 in
theorem ok_16 : ∀ r ∈ tb_16, sm_ok 16 r := List.forall_mem_cons.mpr ⟨d_16_0, List.forall_mem_cons.mpr ⟨⟨d_16_1, (by decide)⟩, List.forall_mem_cons.mpr ⟨d_16_4, List.forall_mem_cons.mpr ⟨d_16_5, List.forall_mem_cons.mpr ⟨⟨d_16_6, (by decide)⟩, List.forall_mem_cons.mpr ⟨d_16_9, List.forall_mem_cons.mpr ⟨⟨d_16_10, (by decide)⟩, List.forall_mem_cons.mpr ⟨d_16_13, List.forall_mem_cons.mpr ⟨d_16_14, fun _ h => absurd h List.not_mem_nil⟩⟩⟩⟩⟩⟩⟩⟩⟩
theorem d_17_0 : decode prog_1_method_17_code 0 = .ok (.aload_n 0, 1) := by decide +kernel
theorem d_17_1 : decode prog_1_method_17_code 1 = .ok (.iconst 0, 1) := by decide +kernel
theorem d_17_2 : decode prog_1_method_17_code 2 = .ok (.putfield 99, 3) := by decide +kernel
theorem d_17_5 : decode prog_1_method_17_code 5 = .ok (.aload_n 0, 1) := by decide +kernel
theorem d_17_6 : decode prog_1_method_17_code 6 = .ok (.iconst 0, 1) := by decide +kernel
theorem d_17_7 : decode prog_1_method_17_code 7 = .ok (.putfield 102, 3) := by decide +kernel
theorem d_17_10 : decode prog_1_method_17_code 10 = .ok (.aload_n 0, 1) := by decide +kernel
theorem d_17_11 : decode prog_1_method_17_code 11 = .ok (.iconst 0, 1) := by decide +kernel
theorem d_17_12 : decode prog_1_method_17_code 12 = .ok (.putfield 107, 3) := by decide +kernel
theorem d_17_15 : decode prog_1_method_17_code 15 = .ok (.aload_n 0, 1) := by decide +kernel
theorem d_17_16 : decode prog_1_method_17_code 16 = .ok (.iconst 0, 1) := by decide +kernel
theorem d_17_17 : decode prog_1_method_17_code 17 = .ok (.putfield 110, 3) := by decide +kernel
theorem d_17_20 : decode prog_1_method_17_code 20 = .ok (.return_, 1) := by decide +kernel
set_option maxRecDepth 20000 in
theorem ok_17 : ∀ r ∈ tb_17, sm_ok 17 r := List.forall_mem_cons.mpr ⟨d_17_0, List.forall_mem_cons.mpr ⟨d_17_1, List.forall_mem_cons.mpr ⟨⟨d_17_2, pf_25⟩, List.forall_mem_cons.mpr ⟨d_17_5, List.forall_mem_cons.mpr ⟨d_17_6, List.forall_mem_cons.mpr ⟨⟨d_17_7, pf_26⟩, List.forall_mem_cons.mpr ⟨d_17_10, List.forall_mem_cons.mpr ⟨d_17_11, List.forall_mem_cons.mpr ⟨⟨d_17_12, pf_27⟩, List.forall_mem_cons.mpr ⟨d_17_15, List.forall_mem_cons.mpr ⟨d_17_16, List.forall_mem_cons.mpr ⟨⟨d_17_17, pf_28⟩, List.forall_mem_cons.mpr ⟨d_17_20, fun _ h => absurd h List.not_mem_nil⟩⟩⟩⟩⟩⟩⟩⟩⟩⟩⟩⟩⟩
theorem d_18_0 : decode prog_1_method_18_code 0 = .ok (.aload_n 0, 1) := by decide +kernel
theorem d_18_1 : decode prog_1_method_18_code 1 = .ok (.getfield 57, 3) := by decide +kernel
theorem d_18_4 : decode prog_1_method_18_code 4 = .ok (.invokevirtual 137, 3) := by decide +kernel
theorem d_18_7 : decode prog_1_method_18_code 7 = .ok (.istore_n 1, 1) := by decide +kernel
theorem d_18_8 : decode prog_1_method_18_code 8 = .ok (.iload_n 1, 1) := by decide +kernel
theorem d_18_9 : decode prog_1_method_18_code 9 = .ok (.ifCond .eq 5, 3) := by decide +kernel
theorem d_18_12 : decode prog_1_method_18_code 12 = .ok (.iload_n 1, 1) := by decide +kernel
theorem d_18_13 : decode prog_1_method_18_code 13 = .ok (.ireturn, 1) := by decide +kernel
theorem d_18_14 : decode prog_1_method_18_code 14 = .ok (.aload_n 0, 1) := by decide +kernel
theorem d_18_15 : decode prog_1_method_18_code 15 = .ok (.getfield 15, 3) := by decide +kernel
theorem d_18_18 : decode prog_1_method_18_code 18 = .ok (.aload_n 0, 1) := by decide +kernel
theorem d_18_19 : decode prog_1_method_18_code 19 = .ok (.getfield 23, 3) := by decide +kernel
theorem d_18_22 : decode prog_1_method_18_code 22 = .ok (.getfield 140, 3) := by decide +kernel
theorem d_18_25 : decode prog_1_method_18_code 25 = .ok (.aaload, 1) := by decide +kernel
theorem d_18_26 : decode prog_1_method_18_code 26 = .ok (.astore_n 2, 1) := by decide +kernel
theorem d_18_27 : decode prog_1_method_18_code 27 = .ok (.aload_n 0, 1) := by decide +kernel
theorem d_18_28 : decode prog_1_method_18_code 28 = .ok (.getfield 23, 3) := by decide +kernel
theorem d_18_31 : decode prog_1_method_18_code 31 = .ok (.invokevirtual 143, 3) := by decide +kernel
theorem d_18_34 : decode prog_1_method_18_code 34 = .ok (.ifCond .eq 52, 3) := by decide +kernel
theorem d_18_37 : decode prog_1_method_18_code 37 = .ok (.aload_n 0, 1) := by decide +kernel
theorem d_18_38 : decode prog_1_method_18_code 38 = .ok (.getfield 39, 3) := by decide +kernel
theorem d_18_41 : decode prog_1_method_18_code 41 = .ok (.aload_n 2, 1) := by decide +kernel
theorem d_18_42 : decode prog_1_method_18_code 42 = .ok (.aload_n 0, 1) := by decide +kernel
theorem d_18_43 : decode prog_1_method_18_code 43 = .ok (.getfield 23, 3) := by decide +kernel
theorem d_18_46 : decode prog_1_method_18_code 46 = .ok (.getfield 146, 3) := by decide +kernel
theorem d_18_49 : decode prog_1_method_18_code 49 = .ok (.iconst (-1), 1) := by decide +kernel
theorem d_18_50 : decode prog_1_method_18_code 50 = .ok (.if_icmp .ne 7, 3) := by decide +kernel
theorem d_18_53 : decode prog_1_method_18_code 53 = .ok (.aload_n 2, 1) := by decide +kernel
theorem d_18_54 : decode prog_1_method_18_code 54 = .ok (.goto 15, 3) := by decide +kernel
theorem d_18_57 : decode prog_1_method_18_code 57 = .ok (.aload_n 0, 1) := by decide +kernel
theorem d_18_58 : decode prog_1_method_18_code 58 = .ok (.getfield 15, 3) := by decide +kernel
theorem d_18_61 : decode prog_1_method_18_code 61 = .ok (.aload_n 0, 1) := by decide +kernel
theorem d_18_62 : decode prog_1_method_18_code 62 = .ok (.getfield 23, 3) := by decide +kernel
theorem d_18_65 : decode prog_1_method_18_code 65 = .ok (.getfield 146, 3) := by decide +kernel
theorem d_18_68 : decode prog_1_method_18_code 68 = .ok (.aaload, 1) := by decide +kernel
theorem d_18_69 : decode prog_1_method_18_code 69 = .ok (.invokevirtual 149, 3) := by decide +kernel
theorem d_18_72 : decode prog_1_method_18_code 72 = .ok (.aload_n 0, 1) := by decide +kernel
theorem d_18_73 : decode prog_1_method_18_code 73 = .ok (.getfield 66, 3) := by decide +kernel
theorem d_18_76 : decode prog_1_method_18_code 76 = .ok (.invokevirtual 153, 3) := by decide +kernel
theorem d_18_79 : decode prog_1_method_18_code 79 = .ok (.aload_n 0, 1) := by decide +kernel
theorem d_18_80 : decode prog_1_method_18_code 80 = .ok (.getfield 66, 3) := by decide +kernel
theorem d_18_83 : decode prog_1_method_18_code 83 = .ok (.invokevirtual 156, 3) := by decide +kernel
theorem d_18_86 : decode prog_1_method_18_code 86 = .ok (.aload_n 0, 1) := by decide +kernel
theorem d_18_87 : decode prog_1_method_18_code 87 = .ok (.aload_n 2, 1) := by decide +kernel
theorem d_18_88 : decode prog_1_method_18_code 88 = .ok (.invokevirtual 159, 3) := by decide +kernel
theorem d_18_91 : decode prog_1_method_18_code 91 = .ok (.istore_n 3, 1) := by decide +kernel
theorem d_18_92 : decode prog_1_method_18_code 92 = .ok (.iload_n 3, 1) := by decide +kernel
theorem d_18_93 : decode prog_1_method_18_code 93 = .ok (.ifCond .ne 35, 3) := by decide +kernel
theorem d_18_96 : decode prog_1_method_18_code 96 = .ok (.aload_n 0, 1) := by decide +kernel
theorem d_18_97 : decode prog_1_method_18_code 97 = .ok (.getfield 23, 3) := by decide +kernel
theorem d_18_100 : decode prog_1_method_18_code 100 = .ok (.invokevirtual 143, 3) := by decide +kernel
theorem d_18_103 : decode prog_1_method_18_code 103 = .ok (.ifCond .eq 25, 3) := by decide +kernel
theorem d_18_106 : decode prog_1_method_18_code 106 = .ok (.aload_n 0, 1) := by decide +kernel
theorem d_18_107 : decode prog_1_method_18_code 107 = .ok (.aload_n 0, 1) := by decide +kernel
theorem d_18_108 : decode prog_1_method_18_code 108 = .ok (.getfield 66, 3) := by decide +kernel
theorem d_18_111 : decode prog_1_method_18_code 111 = .ok (.getfield 163, 3) := by decide +kernel
theorem d_18_114 : decode prog_1_method_18_code 114 = .ok (.putfield 107, 3) := by decide +kernel
theorem d_18_117 : decode prog_1_method_18_code 117 = .ok (.aload_n 0, 1) := by decide +kernel
theorem d_18_118 : decode prog_1_method_18_code 118 = .ok (.aload_n 0, 1) := by decide +kernel
theorem d_18_119 : decode prog_1_method_18_code 119 = .ok (.getfield 66, 3) := by decide +kernel
theorem d_18_122 : decode prog_1_method_18_code 122 = .ok (.invokevirtual 166, 3) := by decide +kernel
theorem d_18_125 : decode prog_1_method_18_code 125 = .ok (.putfield 110, 3) := by decide +kernel
theorem d_18_128 : decode prog_1_method_18_code 128 = .ok (.iload_n 3, 1) := by decide +kernel
theorem d_18_129 : decode prog_1_method_18_code 129 = .ok (.ireturn, 1) := by decide +kernel
set_option maxRecDepth 20000 in
theorem ok_18 : ∀ r ∈ tb_18, sm_ok 18 r := List.forall_mem_cons.mpr ⟨d_18_0, List.forall_mem_cons.mpr ⟨⟨d_18_1, Or.inl pf_29⟩, List.forall_mem_cons.mpr ⟨⟨d_18_4, ⟨mo_106, mi_106, se_106, pm_47⟩⟩, List.forall_mem_cons.mpr ⟨d_18_7, List.forall_mem_cons.mpr ⟨d_18_8, List.forall_mem_cons.mpr ⟨⟨d_18_9, (by decide)⟩, List.forall_mem_cons.mpr ⟨d_18_12, List.forall_mem_cons.mpr ⟨d_18_13, List.forall_mem_cons.mpr ⟨d_18_14, List.forall_mem_cons.mpr ⟨⟨d_18_15, Or.inl pf_2⟩, List.forall_mem_cons.mpr ⟨d_18_18, List.forall_mem_cons.mpr ⟨⟨d_18_19, Or.inl pf_6⟩, List.forall_mem_cons.mpr ⟨⟨d_18_22, Or.inl pf_30⟩, List.forall_mem_cons.mpr ⟨d_18_25, List.forall_mem_cons.mpr ⟨d_18_26, List.forall_mem_cons.mpr ⟨d_18_27, List.forall_mem_cons.mpr ⟨⟨d_18_28, Or.inl pf_6⟩, List.forall_mem_cons.mpr ⟨⟨d_18_31, ⟨mo_65, mi_65, se_65, pm_48⟩⟩, List.forall_mem_cons.mpr ⟨⟨d_18_34, (by decide)⟩, List.forall_mem_cons.mpr ⟨d_18_37, List.forall_mem_cons.mpr ⟨⟨d_18_38, Or.inl pf_10⟩, List.forall_mem_cons.mpr ⟨d_18_41, List.forall_mem_cons.mpr ⟨d_18_42, List.forall_mem_cons.mpr ⟨⟨d_18_43, Or.inl pf_6⟩, List.forall_mem_cons.mpr ⟨⟨d_18_46, Or.inl pf_31⟩, List.forall_mem_cons.mpr ⟨d_18_49, List.forall_mem_cons.mpr ⟨⟨d_18_50, (by decide)⟩, List.forall_mem_cons.mpr ⟨d_18_53, List.forall_mem_cons.mpr ⟨⟨d_18_54, (by decide)⟩, List.forall_mem_cons.mpr ⟨d_18_57, List.forall_mem_cons.mpr ⟨⟨d_18_58, Or.inl pf_2⟩, List.forall_mem_cons.mpr ⟨d_18_61, List.forall_mem_cons.mpr ⟨⟨d_18_62, Or.inl pf_6⟩, List.forall_mem_cons.mpr ⟨⟨d_18_65, Or.inl pf_31⟩, List.forall_mem_cons.mpr ⟨d_18_68, List.forall_mem_cons.mpr ⟨⟨d_18_69, ⟨mo_40, mi_40, se_40, pm_49⟩⟩, List.forall_mem_cons.mpr ⟨d_18_72, List.forall_mem_cons.mpr ⟨⟨d_18_73, Or.inl pf_32⟩, List.forall_mem_cons.mpr ⟨⟨d_18_76, ⟨mo_119, mi_119, se_119, pm_50⟩⟩, List.forall_mem_cons.mpr ⟨d_18_79, List.forall_mem_cons.mpr ⟨⟨d_18_80, Or.inl pf_32⟩, List.forall_mem_cons.mpr ⟨⟨d_18_83, ⟨mo_123, mi_123, se_123, pm_51⟩⟩, List.forall_mem_cons.mpr ⟨d_18_86, List.forall_mem_cons.mpr ⟨d_18_87, List.forall_mem_cons.mpr ⟨⟨d_18_88, ⟨mo_19, mi_19, se_19, pm_52⟩⟩, List.forall_mem_cons.mpr ⟨d_18_91, List.forall_mem_cons.mpr ⟨d_18_92, List.forall_mem_cons.mpr ⟨⟨d_18_93, (by decide)⟩, List.forall_mem_cons.mpr ⟨d_18_96, List.forall_mem_cons.mpr ⟨⟨d_18_97, Or.inl pf_6⟩, List.forall_mem_cons.mpr ⟨⟨d_18_100, ⟨mo_65, mi_65, se_65, pm_48⟩⟩, List.forall_mem_cons.mpr ⟨⟨d_18_103, (by decide)⟩, List.forall_mem_cons.mpr ⟨d_18_106, List.forall_mem_cons.mpr ⟨d_18_107, List.forall_mem_cons.mpr ⟨⟨d_18_108, Or.inl pf_32⟩, List.forall_mem_cons.mpr ⟨⟨d_18_111, Or.inl pf_33⟩, List.forall_mem_cons.mpr ⟨⟨d_18_114, pf_27⟩, List.forall_mem_cons.mpr ⟨d_18_117, List.forall_mem_cons.mpr ⟨d_18_118, List.forall_mem_cons.mpr ⟨⟨d_18_119, Or.inl pf_32⟩, List.forall_mem_cons.mpr ⟨⟨d_18_122, ⟨mo_122, mi_122, se_122, pm_53⟩⟩, List.forall_mem_cons.mpr ⟨⟨d_18_125, pf_28⟩, List.forall_mem_cons.mpr ⟨d_18_128, List.forall_mem_cons.mpr ⟨d_18_129, fun _ h => absurd h List.not_mem_nil⟩⟩⟩⟩⟩⟩⟩⟩⟩⟩⟩⟩⟩⟩⟩⟩⟩⟩⟩⟩⟩⟩⟩⟩⟩⟩⟩⟩⟩⟩⟩⟩⟩⟩⟩⟩⟩⟩⟩⟩⟩⟩⟩⟩⟩⟩⟩⟩⟩⟩⟩⟩⟩⟩⟩⟩⟩⟩⟩⟩⟩⟩⟩⟩
theorem d_19_0 : decode prog_1_method_19_code 0 = .ok (.aload_n 0, 1) := by decide +kernel
theorem d_19_1 : decode prog_1_method_19_code 1 = .ok (.getfield 23, 3) := by decide +kernel
theorem d_19_4 : decode prog_1_method_19_code 4 = .ok (.getfield 169, 3) := by decide +kernel
theorem d_19_7 : decode prog_1_method_19_code 7 = .ok (.tableswitch 77 4 8 #[33, 46, 59, 65, 71], 33) := by decide +kernel
theorem d_19_40 : decode prog_1_method_19_code 40 = .ok (.aload_n 1, 1) := by decide +kernel
theorem d_19_41 : decode prog_1_method_19_code 41 = .ok (.aload_n 0, 1) := by decide +kernel
theorem d_19_42 : decode prog_1_method_19_code 42 = .ok (.getfield 23, 3) := by decide +kernel
theorem d_19_45 : decode prog_1_method_19_code 45 = .ok (.getfield 172, 3) := by decide +kernel
theorem d_19_48 : decode prog_1_method_19_code 48 = .ok (.invokevirtual 175, 3) := by decide +kernel
theorem d_19_51 : decode prog_1_method_19_code 51 = .ok (.iconst 0, 1) := by decide +kernel
theorem d_19_52 : decode prog_1_method_19_code 52 = .ok (.ireturn, 1) := by decide +kernel
theorem d_19_53 : decode prog_1_method_19_code 53 = .ok (.aload_n 1, 1) := by decide +kernel
theorem d_19_54 : decode prog_1_method_19_code 54 = .ok (.aload_n 0, 1) := by decide +kernel
theorem d_19_55 : decode prog_1_method_19_code 55 = .ok (.getfield 23, 3) := by decide +kernel
theorem d_19_58 : decode prog_1_method_19_code 58 = .ok (.getfield 179, 3) := by decide +kernel
theorem d_19_61 : decode prog_1_method_19_code 61 = .ok (.invokevirtual 182, 3) := by decide +kernel
theorem d_19_64 : decode prog_1_method_19_code 64 = .ok (.iconst 0, 1) := by decide +kernel
theorem d_19_65 : decode prog_1_method_19_code 65 = .ok (.ireturn, 1) := by decide +kernel
theorem d_19_66 : decode prog_1_method_19_code 66 = .ok (.aload_n 0, 1) := by decide +kernel
theorem d_19_67 : decode prog_1_method_19_code 67 = .ok (.aload_n 1, 1) := by decide +kernel
theorem d_19_68 : decode prog_1_method_19_code 68 = .ok (.invokevirtual 185, 3) := by decide +kernel
theorem d_19_71 : decode prog_1_method_19_code 71 = .ok (.ireturn, 1) := by decide +kernel
theorem d_19_72 : decode prog_1_method_19_code 72 = .ok (.aload_n 0, 1) := by decide +kernel
theorem d_19_73 : decode prog_1_method_19_code 73 = .ok (.aload_n 1, 1) := by decide +kernel
theorem d_19_74 : decode prog_1_method_19_code 74 = .ok (.invokevirtual 188, 3) := by decide +kernel
theorem d_19_77 : decode prog_1_method_19_code 77 = .ok (.ireturn, 1) := by decide +kernel
theorem d_19_78 : decode prog_1_method_19_code 78 = .ok (.aload_n 0, 1) := by decide +kernel
theorem d_19_79 : decode prog_1_method_19_code 79 = .ok (.aload_n 1, 1) := by decide +kernel
theorem d_19_80 : decode prog_1_method_19_code 80 = .ok (.invokevirtual 191, 3) := by decide +kernel
theorem d_19_83 : decode prog_1_method_19_code 83 = .ok (.ireturn, 1) := by decide +kernel
theorem d_19_84 : decode prog_1_method_19_code 84 = .ok (.aload_n 0, 1) := by decide +kernel
theorem d_19_85 : decode prog_1_method_19_code 85 = .ok (.invokevirtual 194, 3) := by decide +kernel
theorem d_19_88 : decode prog_1_method_19_code 88 = .ok (.ireturn, 1) := by decide +kernel
set_option maxRecDepth 20000 in
theorem ok_19 : ∀ r ∈ tb_19, sm_ok 19 r := List.forall_mem_cons.mpr ⟨d_19_0, List.forall_mem_cons.mpr ⟨⟨d_19_1, Or.inl pf_6⟩, List.forall_mem_cons.mpr ⟨⟨d_19_4, Or.inl pf_34⟩, List.forall_mem_cons.mpr ⟨⟨_, d_19_7⟩, List.forall_mem_cons.mpr ⟨d_19_40, List.forall_mem_cons.mpr ⟨d_19_41, List.forall_mem_cons.mpr ⟨⟨d_19_42, Or.inl pf_6⟩, List.forall_mem_cons.mpr ⟨⟨d_19_45, Or.inl pf_35⟩, List.forall_mem_cons.mpr ⟨⟨d_19_48, ⟨mo_31, mi_31, se_31, pm_54⟩⟩, List.forall_mem_cons.mpr ⟨d_19_51, List.forall_mem_cons.mpr ⟨d_19_52, List.forall_mem_cons.mpr ⟨d_19_53, List.forall_mem_cons.mpr ⟨d_19_54, List.forall_mem_cons.mpr ⟨⟨d_19_55, Or.inl pf_6⟩, List.forall_mem_cons.mpr ⟨⟨d_19_58, Or.inl pf_36⟩, List.forall_mem_cons.mpr ⟨⟨d_19_61, ⟨mo_32, mi_32, se_32, pm_55⟩⟩, List.forall_mem_cons.mpr ⟨d_19_64, List.forall_mem_cons.mpr ⟨d_19_65, List.forall_mem_cons.mpr ⟨d_19_66, List.forall_mem_cons.mpr ⟨d_19_67, List.forall_mem_cons.mpr ⟨⟨d_19_68, ⟨mo_20, mi_20, se_20, pm_56⟩⟩, List.forall_mem_cons.mpr ⟨d_19_71, List.forall_mem_cons.mpr ⟨d_19_72, List.forall_mem_cons.mpr ⟨d_19_73, List.forall_mem_cons.mpr ⟨⟨d_19_74, ⟨mo_21, mi_21, se_21, pm_57⟩⟩, List.forall_mem_cons.mpr ⟨d_19_77, List.forall_mem_cons.mpr ⟨d_19_78, List.forall_mem_cons.mpr ⟨d_19_79, List.forall_mem_cons.mpr ⟨⟨d_19_80, ⟨mo_23, mi_23, se_23, pm_58⟩⟩, List.forall_mem_cons.mpr ⟨d_19_83, List.forall_mem_cons.mpr ⟨d_19_84, List.forall_mem_cons.mpr ⟨⟨d_19_85, ⟨mo_24, mi_24, se_24, pm_59⟩⟩, List.forall_mem_cons.mpr ⟨d_19_88, fun _ h => absurd h List.not_mem_nil⟩⟩⟩⟩⟩⟩⟩⟩⟩⟩⟩⟩⟩⟩⟩⟩⟩⟩⟩⟩⟩⟩⟩⟩⟩⟩⟩⟩⟩⟩⟩⟩⟩
theorem d_20_0 : decode prog_1_method_20_code 0 = .ok (.iconst 0, 1) := by decide +kernel
theorem d_20_1 : decode prog_1_method_20_code 1 = .ok (.istore_n 2, 1) := by decide +kernel
theorem d_20_2 : decode prog_1_method_20_code 2 = .ok (.iload_n 2, 1) := by decide +kernel
theorem d_20_3 : decode prog_1_method_20_code 3 = .ok (.aload_n 0, 1) := by decide +kernel
theorem d_20_4 : decode prog_1_method_20_code 4 = .ok (.getfield 23, 3) := by decide +kernel
theorem d_20_7 : decode prog_1_method_20_code 7 = .ok (.getfield 197, 3) := by decide +kernel
theorem d_20_10 : decode prog_1_method_20_code 10 = .ok (.if_icmp .ge 47, 3) := by decide +kernel
theorem d_20_13 : decode prog_1_method_20_code 13 = .ok (.iload_n 2, 1) := by decide +kernel
theorem d_20_14 : decode prog_1_method_20_code 14 = .ok (.iconst 4, 1) := by decide +kernel
theorem d_20_15 : decode prog_1_method_20_code 15 = .ok (.if_icmp .ge 42, 3) := by decide +kernel
theorem d_20_18 : decode prog_1_method_20_code 18 = .ok (.aload_n 0, 1) := by decide +kernel
theorem d_20_19 : decode prog_1_method_20_code 19 = .ok (.getfield 74, 3) := by decide +kernel
theorem d_20_22 : decode prog_1_method_20_code 22 = .ok (.iload_n 2, 1) := by decide +kernel
theorem d_20_23 : decode prog_1_method_20_code 23 = .ok (.aload_n 0, 1) := by decide +kernel
theorem d_20_24 : decode prog_1_method_20_code 24 = .ok (.getfield 30, 3) := by decide +kernel
theorem d_20_27 : decode prog_1_method_20_code 27 = .ok (.aload_n 0, 1) := by decide +kernel
theorem d_20_28 : decode prog_1_method_20_code 28 = .ok (.getfield 23, 3) := by decide +kernel
theorem d_20_31 : decode prog_1_method_20_code 31 = .ok (.iload_n 2, 1) := by decide +kernel
theorem d_20_32 : decode prog_1_method_20_code 32 = .ok (.invokevirtual 200, 3) := by decide +kernel
theorem d_20_35 : decode prog_1_method_20_code 35 = .ok (.aload_n 0, 1) := by decide +kernel
theorem d_20_36 : decode prog_1_method_20_code 36 = .ok (.getfield 23, 3) := by decide +kernel
theorem d_20_39 : decode prog_1_method_20_code 39 = .ok (.iload_n 2, 1) := by decide +kernel
theorem d_20_40 : decode prog_1_method_20_code 40 = .ok (.invokevirtual 204, 3) := by decide +kernel
theorem d_20_43 : decode prog_1_method_20_code 43 = .ok (.aload_n 0, 1) := by decide +kernel
theorem d_20_44 : decode prog_1_method_20_code 44 = .ok (.getfield 39, 3) := by decide +kernel
theorem d_20_47 : decode prog_1_method_20_code 47 = .ok (.invokevirtual 207, 3) := by decide +kernel
theorem d_20_50 : decode prog_1_method_20_code 50 = .ok (.lastore, 1) := by decide +kernel
theorem d_20_51 : decode prog_1_method_20_code 51 = .ok (.iinc 2 1, 3) := by decide +kernel
theorem d_20_54 : decode prog_1_method_20_code 54 = .ok (.goto (-52), 3) := by decide +kernel
theorem d_20_57 : decode prog_1_method_20_code 57 = .ok (.aload_n 0, 1) := by decide +kernel
theorem d_20_58 : decode prog_1_method_20_code 58 = .ok (.getfield 74, 3) := by decide +kernel
theorem d_20_61 : decode prog_1_method_20_code 61 = .ok (.iconst 0, 1) := by decide +kernel
theorem d_20_62 : decode prog_1_method_20_code 62 = .ok (.laload, 1) := by decide +kernel
theorem d_20_63 : decode prog_1_method_20_code 63 = .ok (.ldc2_w 211, 3) := by decide +kernel
theorem d_20_66 : decode prog_1_method_20_code 66 = .ok (.lcmp, 1) := by decide +kernel
theorem d_20_67 : decode prog_1_method_20_code 67 = .ok (.ifCond .eq 17, 3) := by decide +kernel
theorem d_20_70 : decode prog_1_method_20_code 70 = .ok (.aload_n 1, 1) := by decide +kernel
theorem d_20_71 : decode prog_1_method_20_code 71 = .ok (.iconst 0, 1) := by decide +kernel
theorem d_20_72 : decode prog_1_method_20_code 72 = .ok (.aload_n 0, 1) := by decide +kernel
theorem d_20_73 : decode prog_1_method_20_code 73 = .ok (.getfield 74, 3) := by decide +kernel
theorem d_20_76 : decode prog_1_method_20_code 76 = .ok (.iconst 0, 1) := by decide +kernel
theorem d_20_77 : decode prog_1_method_20_code 77 = .ok (.laload, 1) := by decide +kernel
theorem d_20_78 : decode prog_1_method_20_code 78 = .ok (.invokevirtual 133, 3) := by decide +kernel
theorem d_20_81 : decode prog_1_method_20_code 81 = .ok (.ifCond .le 5, 3) := by decide +kernel
theorem d_20_84 : decode prog_1_method_20_code 84 = .ok (.iconst 4, 1) := by decide +kernel
theorem d_20_85 : decode prog_1_method_20_code 85 = .ok (.ireturn, 1) := by decide +kernel
theorem d_20_86 : decode prog_1_method_20_code 86 = .ok (.aload_n 1, 1) := by decide +kernel
theorem d_20_87 : decode prog_1_method_20_code 87 = .ok (.getfield 120, 3) := by decide +kernel
theorem d_20_90 : decode prog_1_method_20_code 90 = .ok (.bipush 20, 2) := by decide +kernel
theorem d_20_92 : decode prog_1_method_20_code 92 = .ok (.if_icmp .lt 5, 3) := by decide +kernel
theorem d_20_95 : decode prog_1_method_20_code 95 = .ok (.iconst 5, 1) := by decide +kernel
theorem d_20_96 : decode prog_1_method_20_code 96 = .ok (.ireturn, 1) := by decide +kernel
theorem d_20_97 : decode prog_1_method_20_code 97 = .ok (.aload_n 1, 1) := by decide +kernel
theorem d_20_98 : decode prog_1_method_20_code 98 = .ok (.aload_n 0, 1) := by decide +kernel
theorem d_20_99 : decode prog_1_method_20_code 99 = .ok (.getfield 74, 3) := by decide +kernel
theorem d_20_102 : decode prog_1_method_20_code 102 = .ok (.invokevirtual 213, 3) := by decide +kernel
theorem d_20_105 : decode prog_1_method_20_code 105 = .ok (.aload_n 0, 1) := by decide +kernel
theorem d_20_106 : decode prog_1_method_20_code 106 = .ok (.iconst 1, 1) := by decide +kernel
theorem d_20_107 : decode prog_1_method_20_code 107 = .ok (.putfield 99, 3) := by decide +kernel
theorem d_20_110 : decode prog_1_method_20_code 110 = .ok (.iconst 0, 1) := by decide +kernel
theorem d_20_111 : decode prog_1_method_20_code 111 = .ok (.ireturn, 1) := by decide +kernel
set_option maxRecDepth 20000 in
theorem ok_20 : ∀ r ∈ tb_20, sm_ok 20 r := List.forall_mem_cons.mpr ⟨d_20_0, List.forall_mem_cons.mpr ⟨d_20_1, List.forall_mem_cons.mpr ⟨d_20_2, List.forall_mem_cons.mpr ⟨d_20_3, List.forall_mem_cons.mpr ⟨⟨d_20_4, Or.inl pf_6⟩, List.forall_mem_cons.mpr ⟨⟨d_20_7, Or.inl pf_37⟩, List.forall_mem_cons.mpr ⟨⟨d_20_10, (by decide)⟩, List.forall_mem_cons.mpr ⟨d_20_13, List.forall_mem_cons.mpr ⟨d_20_14, List.forall_mem_cons.mpr ⟨⟨d_20_15, (by decide)⟩, List.forall_mem_cons.mpr ⟨d_20_18, List.forall_mem_cons.mpr ⟨⟨d_20_19, Or.inl pf_38⟩, List.forall_mem_cons.mpr ⟨d_20_22, List.forall_mem_cons.mpr ⟨d_20_23, List.forall_mem_cons.mpr ⟨⟨d_20_24, Or.inl pf_7⟩, List.forall_mem_cons.mpr ⟨d_20_27, List.forall_mem_cons.mpr ⟨⟨d_20_28, Or.inl pf_6⟩, List.forall_mem_cons.mpr ⟨d_20_31, List.forall_mem_cons.mpr ⟨⟨d_20_32, ⟨mo_61, mi_61, se_61, pm_60⟩⟩, List.forall_mem_cons.mpr ⟨d_20_35, List.forall_mem_cons.mpr ⟨⟨d_20_36, Or.inl pf_6⟩, List.forall_mem_cons.mpr ⟨d_20_39, List.forall_mem_cons.mpr ⟨⟨d_20_40, ⟨mo_62, mi_62, se_62, pm_61⟩⟩, List.forall_mem_cons.mpr ⟨d_20_43, List.forall_mem_cons.mpr ⟨⟨d_20_44, Or.inl pf_10⟩, List.forall_mem_cons.mpr ⟨⟨d_20_47, ⟨mo_51, mi_51, se_51, pm_62⟩⟩, List.forall_mem_cons.mpr ⟨d_20_50, List.forall_mem_cons.mpr ⟨d_20_51, List.forall_mem_cons.mpr ⟨⟨d_20_54, (by decide)⟩, List.forall_mem_cons.mpr ⟨d_20_57, List.forall_mem_cons.mpr ⟨⟨d_20_58, Or.inl pf_38⟩, List.forall_mem_cons.mpr ⟨d_20_61, List.forall_mem_cons.mpr ⟨d_20_62, List.forall_mem_cons.mpr ⟨⟨d_20_63, (fun _ h => Option.some.inj h ▸ wd_104)⟩, List.forall_mem_cons.mpr ⟨d_20_66, List.forall_mem_cons.mpr ⟨⟨d_20_67, (by decide)⟩, List.forall_mem_cons.mpr ⟨d_20_70, List.forall_mem_cons.mpr ⟨d_20_71, List.forall_mem_cons.mpr ⟨d_20_72, List.forall_mem_cons.mpr ⟨⟨d_20_73, Or.inl pf_38⟩, List.forall_mem_cons.mpr ⟨d_20_76, List.forall_mem_cons.mpr ⟨d_20_77, List.forall_mem_cons.mpr ⟨⟨d_20_78, ⟨mo_30, mi_30, se_30, pm_46⟩⟩, List.forall_mem_cons.mpr ⟨⟨d_20_81, (by decide)⟩, List.forall_mem_cons.mpr ⟨d_20_84, List.forall_mem_cons.mpr ⟨d_20_85, List.forall_mem_cons.mpr ⟨d_20_86, List.forall_mem_cons.mpr ⟨⟨d_20_87, Or.inl pf_24⟩, List.forall_mem_cons.mpr ⟨d_20_90, List.forall_mem_cons.mpr ⟨⟨d_20_92, (by decide)⟩, List.forall_mem_cons.mpr ⟨d_20_95, List.forall_mem_cons.mpr ⟨d_20_96, List.forall_mem_cons.mpr ⟨d_20_97, List.forall_mem_cons.mpr ⟨d_20_98, List.forall_mem_cons.mpr ⟨⟨d_20_99, Or.inl pf_38⟩, List.forall_mem_cons.mpr ⟨⟨d_20_102, ⟨mo_33, mi_33, se_33, pm_63⟩⟩, List.forall_mem_cons.mpr ⟨d_20_105, List.forall_mem_cons.mpr ⟨d_20_106, List.forall_mem_cons.mpr ⟨⟨d_20_107, pf_25⟩, List.forall_mem_cons.mpr ⟨d_20_110, List.forall_mem_cons.mpr ⟨d_20_111, fun _ h => absurd h List.not_mem_nil⟩⟩⟩⟩⟩⟩⟩⟩⟩⟩⟩⟩⟩⟩⟩⟩⟩⟩⟩⟩⟩⟩⟩⟩⟩⟩⟩⟩⟩⟩⟩⟩⟩⟩⟩⟩⟩⟩⟩⟩⟩⟩⟩⟩⟩⟩⟩⟩⟩⟩⟩⟩⟩⟩⟩⟩⟩⟩⟩⟩⟩
theorem d_21_0 : decode prog_1_method_21_code 0 = .ok (.aload_n 1, 1) := by decide +kernel
theorem d_21_1 : decode prog_1_method_21_code 1 = .ok (.aload_n 0, 1) := by decide +kernel
theorem d_21_2 : decode prog_1_method_21_code 2 = .ok (.getfield 23, 3) := by decide +kernel
theorem d_21_5 : decode prog_1_method_21_code 5 = .ok (.getfield 179, 3) := by decide +kernel
theorem d_21_8 : decode prog_1_method_21_code 8 = .ok (.aload_n 0, 1) := by decide +kernel
theorem d_21_9 : decode prog_1_method_21_code 9 = .ok (.getfield 74, 3) := by decide +kernel
theorem d_21_12 : decode prog_1_method_21_code 12 = .ok (.invokevirtual 217, 3) := by decide +kernel
theorem d_21_15 : decode prog_1_method_21_code 15 = .ok (.iconst 0, 1) := by decide +kernel
theorem d_21_16 : decode prog_1_method_21_code 16 = .ok (.istore_n 2, 1) := by decide +kernel
theorem d_21_17 : decode prog_1_method_21_code 17 = .ok (.iload_n 2, 1) := by decide +kernel
theorem d_21_18 : decode prog_1_method_21_code 18 = .ok (.aload_n 0, 1) := by decide +kernel
theorem d_21_19 : decode prog_1_method_21_code 19 = .ok (.getfield 66, 3) := by decide +kernel
theorem d_21_22 : decode prog_1_method_21_code 22 = .ok (.getfield 221, 3) := by decide +kernel
theorem d_21_25 : decode prog_1_method_21_code 25 = .ok (.if_icmp .ge 63, 3) := by decide +kernel
theorem d_21_28 : decode prog_1_method_21_code 28 = .ok (.iload_n 2, 1) := by decide +kernel
theorem d_21_29 : decode prog_1_method_21_code 29 = .ok (.bipush 20, 2) := by decide +kernel
theorem d_21_31 : decode prog_1_method_21_code 31 = .ok (.if_icmp .ge 57, 3) := by decide +kernel
theorem d_21_34 : decode prog_1_method_21_code 34 = .ok (.aload_n 0, 1) := by decide +kernel
theorem d_21_35 : decode prog_1_method_21_code 35 = .ok (.getfield 66, 3) := by decide +kernel
theorem d_21_38 : decode prog_1_method_21_code 38 = .ok (.iload_n 2, 1) := by decide +kernel
theorem d_21_39 : decode prog_1_method_21_code 39 = .ok (.invokevirtual 224, 3) := by decide +kernel
theorem d_21_42 : decode prog_1_method_21_code 42 = .ok (.aload_n 0, 1) := by decide +kernel
theorem d_21_43 : decode prog_1_method_21_code 43 = .ok (.getfield 74, 3) := by decide +kernel
theorem d_21_46 : decode prog_1_method_21_code 46 = .ok (.aload_n 0, 1) := by decide +kernel
theorem d_21_47 : decode prog_1_method_21_code 47 = .ok (.getfield 39, 3) := by decide +kernel
theorem d_21_50 : decode prog_1_method_21_code 50 = .ok (.iconst 0, 1) := by decide +kernel
theorem d_21_51 : decode prog_1_method_21_code 51 = .ok (.invokevirtual 227, 3) := by decide +kernel
theorem d_21_54 : decode prog_1_method_21_code 54 = .ok (.aload_n 0, 1) := by decide +kernel
theorem d_21_55 : decode prog_1_method_21_code 55 = .ok (.getfield 30, 3) := by decide +kernel
theorem d_21_58 : decode prog_1_method_21_code 58 = .ok (.aload_n 0, 1) := by decide +kernel
theorem d_21_59 : decode prog_1_method_21_code 59 = .ok (.getfield 23, 3) := by decide +kernel
theorem d_21_62 : decode prog_1_method_21_code 62 = .ok (.iconst 0, 1) := by decide +kernel
theorem d_21_63 : decode prog_1_method_21_code 63 = .ok (.invokevirtual 200, 3) := by decide +kernel
theorem d_21_66 : decode prog_1_method_21_code 66 = .ok (.aload_n 0, 1) := by decide +kernel
theorem d_21_67 : decode prog_1_method_21_code 67 = .ok (.getfield 23, 3) := by decide +kernel
theorem d_21_70 : decode prog_1_method_21_code 70 = .ok (.iconst 0, 1) := by decide +kernel
theorem d_21_71 : decode prog_1_method_21_code 71 = .ok (.invokevirtual 204, 3) := by decide +kernel
theorem d_21_74 : decode prog_1_method_21_code 74 = .ok (.aload_n 0, 1) := by decide +kernel
theorem d_21_75 : decode prog_1_method_21_code 75 = .ok (.getfield 39, 3) := by decide +kernel
theorem d_21_78 : decode prog_1_method_21_code 78 = .ok (.invokevirtual 207, 3) := by decide +kernel
theorem d_21_81 : decode prog_1_method_21_code 81 = .ok (.lastore, 1) := by decide +kernel
theorem d_21_82 : decode prog_1_method_21_code 82 = .ok (.iinc 2 1, 3) := by decide +kernel
theorem d_21_85 : decode prog_1_method_21_code 85 = .ok (.goto (-68), 3) := by decide +kernel
theorem d_21_88 : decode prog_1_method_21_code 88 = .ok (.aload_n 0, 1) := by decide +kernel
theorem d_21_89 : decode prog_1_method_21_code 89 = .ok (.getfield 23, 3) := by decide +kernel
theorem d_21_92 : decode prog_1_method_21_code 92 = .ok (.getfield 179, 3) := by decide +kernel
theorem d_21_95 : decode prog_1_method_21_code 95 = .ok (.ifCond .ne 19, 3) := by decide +kernel
theorem d_21_98 : decode prog_1_method_21_code 98 = .ok (.aload_n 0, 1) := by decide +kernel
theorem d_21_99 : decode prog_1_method_21_code 99 = .ok (.getfield 74, 3) := by decide +kernel
theorem d_21_102 : decode prog_1_method_21_code 102 = .ok (.aload_n 1, 1) := by decide +kernel
theorem d_21_103 : decode prog_1_method_21_code 103 = .ok (.getfield 120, 3) := by decide +kernel
theorem d_21_106 : decode prog_1_method_21_code 106 = .ok (.invokestatic 230, 3) := by decide +kernel
theorem d_21_109 : decode prog_1_method_21_code 109 = .ok (.ifCond .ne 5, 3) := by decide +kernel
theorem d_21_112 : decode prog_1_method_21_code 112 = .ok (.iconst 4, 1) := by decide +kernel
theorem d_21_113 : decode prog_1_method_21_code 113 = .ok (.ireturn, 1) := by decide +kernel
theorem d_21_114 : decode prog_1_method_21_code 114 = .ok (.aload_n 1, 1) := by decide +kernel
theorem d_21_115 : decode prog_1_method_21_code 115 = .ok (.aload_n 0, 1) := by decide +kernel
theorem d_21_116 : decode prog_1_method_21_code 116 = .ok (.getfield 23, 3) := by decide +kernel
theorem d_21_119 : decode prog_1_method_21_code 119 = .ok (.getfield 179, 3) := by decide +kernel
theorem d_21_122 : decode prog_1_method_21_code 122 = .ok (.aload_n 0, 1) := by decide +kernel
theorem d_21_123 : decode prog_1_method_21_code 123 = .ok (.getfield 74, 3) := by decide +kernel
theorem d_21_126 : decode prog_1_method_21_code 126 = .ok (.invokevirtual 234, 3) := by decide +kernel
theorem d_21_129 : decode prog_1_method_21_code 129 = .ok (.aload_n 0, 1) := by decide +kernel
theorem d_21_130 : decode prog_1_method_21_code 130 = .ok (.aload_n 0, 1) := by decide +kernel
theorem d_21_131 : decode prog_1_method_21_code 131 = .ok (.getfield 66, 3) := by decide +kernel
theorem d_21_134 : decode prog_1_method_21_code 134 = .ok (.getfield 221, 3) := by decide +kernel
theorem d_21_137 : decode prog_1_method_21_code 137 = .ok (.putfield 99, 3) := by decide +kernel
theorem d_21_140 : decode prog_1_method_21_code 140 = .ok (.iconst 0, 1) := by decide +kernel
theorem d_21_141 : decode prog_1_method_21_code 141 = .ok (.ireturn, 1) := by decide +kernel
set_option maxRecDepth 20000 in
theorem ok_21 : ∀ r ∈ tb_21, sm_ok 21 r := List.forall_mem_cons.mpr ⟨d_21_0, List.forall_mem_cons.mpr ⟨d_21_1, List.forall_mem_cons.mpr ⟨⟨d_21_2, Or.inl pf_6⟩, List.forall_mem_cons.mpr ⟨⟨d_21_5, Or.inl pf_36⟩, List.forall_mem_cons.mpr ⟨d_21_8, List.forall_mem_cons.mpr ⟨⟨d_21_9, Or.inl pf_38⟩, List.forall_mem_cons.mpr ⟨⟨d_21_12, ⟨mo_35, mi_35, se_35, pm_64⟩⟩, List.forall_mem_cons.mpr ⟨d_21_15, List.forall_mem_cons.mpr ⟨d_21_16, List.forall_mem_cons.mpr ⟨d_21_17, List.forall_mem_cons.mpr ⟨d_21_18, List.forall_mem_cons.mpr ⟨⟨d_21_19, Or.inl pf_32⟩, List.forall_mem_cons.mpr ⟨⟨d_21_22, Or.inl pf_39⟩, List.forall_mem_cons.mpr ⟨⟨d_21_25, (by decide)⟩, List.forall_mem_cons.mpr ⟨d_21_28, List.forall_mem_cons.mpr ⟨d_21_29, List.forall_mem_cons.mpr ⟨⟨d_21_31, (by decide)⟩, List.forall_mem_cons.mpr ⟨d_21_34, List.forall_mem_cons.mpr ⟨⟨d_21_35, Or.inl pf_32⟩, List.forall_mem_cons.mpr ⟨d_21_38, List.forall_mem_cons.mpr ⟨⟨d_21_39, ⟨mo_130, mi_130, se_130, pm_65⟩⟩, List.forall_mem_cons.mpr ⟨d_21_42, List.forall_mem_cons.mpr ⟨⟨d_21_43, Or.inl pf_38⟩, List.forall_mem_cons.mpr ⟨d_21_46, List.forall_mem_cons.mpr ⟨⟨d_21_47, Or.inl pf_10⟩, List.forall_mem_cons.mpr ⟨d_21_50, List.forall_mem_cons.mpr ⟨⟨d_21_51, ⟨mo_42, mi_42, se_42, pm_66⟩⟩, List.forall_mem_cons.mpr ⟨d_21_54, List.forall_mem_cons.mpr ⟨⟨d_21_55, Or.inl pf_7⟩, List.forall_mem_cons.mpr ⟨d_21_58, List.forall_mem_cons.mpr ⟨⟨d_21_59, Or.inl pf_6⟩, List.forall_mem_cons.mpr ⟨d_21_62, List.forall_mem_cons.mpr ⟨⟨d_21_63, ⟨mo_61, mi_61, se_61, pm_60⟩⟩, List.forall_mem_cons.mpr ⟨d_21_66, List.forall_mem_cons.mpr ⟨⟨d_21_67, Or.inl pf_6⟩, List.forall_mem_cons.mpr ⟨d_21_70, List.forall_mem_cons.mpr ⟨⟨d_21_71, ⟨mo_62, mi_62, se_62, pm_61⟩⟩, List.forall_mem_cons.mpr ⟨d_21_74, List.forall_mem_cons.mpr ⟨⟨d_21_75, Or.inl pf_10⟩, List.forall_mem_cons.mpr ⟨⟨d_21_78, ⟨mo_51, mi_51, se_51, pm_62⟩⟩, List.forall_mem_cons.mpr ⟨d_21_81, List.forall_mem_cons.mpr ⟨d_21_82, List.forall_mem_cons.mpr ⟨⟨d_21_85, (by decide)⟩, List.forall_mem_cons.mpr ⟨d_21_88, List.forall_mem_cons.mpr ⟨⟨d_21_89, Or.inl pf_6⟩, List.forall_mem_cons.mpr ⟨⟨d_21_92, Or.inl pf_36⟩, List.forall_mem_cons.mpr ⟨⟨d_21_95, (by decide)⟩, List.forall_mem_cons.mpr ⟨d_21_98, List.forall_mem_cons.mpr ⟨⟨d_21_99, Or.inl pf_38⟩, List.forall_mem_cons.mpr ⟨d_21_102, List.forall_mem_cons.mpr ⟨⟨d_21_103, Or.inl pf_24⟩, List.forall_mem_cons.mpr ⟨⟨d_21_106, (Or.inl ⟨Nat.le_of_ble_eq_true rfl, mo_22, ms_22, pm_67⟩)⟩, List.forall_mem_cons.mpr ⟨⟨d_21_109, (by decide)⟩, List.forall_mem_cons.mpr ⟨d_21_112, List.forall_mem_cons.mpr ⟨d_21_113, List.forall_mem_cons.mpr ⟨d_21_114, List.forall_mem_cons.mpr ⟨d_21_115, List.forall_mem_cons.mpr ⟨⟨d_21_116, Or.inl pf_6⟩, List.forall_mem_cons.mpr ⟨⟨d_21_119, Or.inl pf_36⟩, List.forall_mem_cons.mpr ⟨d_21_122, List.forall_mem_cons.mpr ⟨⟨d_21_123, Or.inl pf_38⟩, List.forall_mem_cons.mpr ⟨⟨d_21_126, ⟨mo_36, mi_36, se_36, pm_68⟩⟩, List.forall_mem_cons.mpr ⟨d_21_129, List.forall_mem_cons.mpr ⟨d_21_130, List.forall_mem_cons.mpr ⟨⟨d_21_131, Or.inl pf_32⟩, List.forall_mem_cons.mpr ⟨⟨d_21_134, Or.inl pf_39⟩, List.forall_mem_cons.mpr ⟨⟨d_21_137, pf_25⟩, List.forall_mem_cons.mpr ⟨d_21_140, List.forall_mem_cons.mpr ⟨d_21_141, fun _ h => absurd h List.not_mem_nil⟩⟩⟩⟩⟩⟩⟩⟩⟩⟩⟩⟩⟩⟩⟩⟩⟩⟩⟩⟩⟩⟩⟩⟩⟩⟩⟩⟩⟩⟩⟩⟩⟩⟩⟩⟩⟩⟩⟩⟩⟩⟩⟩⟩⟩⟩⟩⟩⟩⟩⟩⟩⟩⟩⟩⟩⟩⟩⟩⟩⟩⟩⟩⟩⟩⟩⟩⟩⟩
theorem d_22_0 : decode prog_1_method_22_code 0 = .ok (.iconst 0, 1) := by decide +kernel
theorem d_22_1 : decode prog_1_method_22_code 1 = .ok (.istore_n 2, 1) := by decide +kernel
theorem d_22_2 : decode prog_1_method_22_code 2 = .ok (.iload_n 2, 1) := by decide +kernel
theorem d_22_3 : decode prog_1_method_22_code 3 = .ok (.iload_n 1, 1) := by decide +kernel
theorem d_22_4 : decode prog_1_method_22_code 4 = .ok (.if_icmp .ge 52, 3) := by decide +kernel
theorem d_22_7 : decode prog_1_method_22_code 7 = .ok (.iload_n 2, 1) := by decide +kernel
theorem d_22_8 : decode prog_1_method_22_code 8 = .ok (.aload_n 0, 1) := by decide +kernel
theorem d_22_9 : decode prog_1_method_22_code 9 = .ok (.arraylength, 1) := by decide +kernel
theorem d_22_10 : decode prog_1_method_22_code 10 = .ok (.if_icmp .ge 46, 3) := by decide +kernel
theorem d_22_13 : decode prog_1_method_22_code 13 = .ok (.aload_n 0, 1) := by decide +kernel
theorem d_22_14 : decode prog_1_method_22_code 14 = .ok (.iload_n 2, 1) := by decide +kernel
theorem d_22_15 : decode prog_1_method_22_code 15 = .ok (.laload, 1) := by decide +kernel
theorem d_22_16 : decode prog_1_method_22_code 16 = .ok (.ldc2_w 211, 3) := by decide +kernel
theorem d_22_19 : decode prog_1_method_22_code 19 = .ok (.lcmp, 1) := by decide +kernel
theorem d_22_20 : decode prog_1_method_22_code 20 = .ok (.ifCond .ne 5, 3) := by decide +kernel
theorem d_22_23 : decode prog_1_method_22_code 23 = .ok (.iconst 0, 1) := by decide +kernel
theorem d_22_24 : decode prog_1_method_22_code 24 = .ok (.ireturn, 1) := by decide +kernel
theorem d_22_25 : decode prog_1_method_22_code 25 = .ok (.iconst 0, 1) := by decide +kernel
theorem d_22_26 : decode prog_1_method_22_code 26 = .ok (.istore_n 3, 1) := by decide +kernel
theorem d_22_27 : decode prog_1_method_22_code 27 = .ok (.iload_n 3, 1) := by decide +kernel
theorem d_22_28 : decode prog_1_method_22_code 28 = .ok (.iload_n 2, 1) := by decide +kernel
theorem d_22_29 : decode prog_1_method_22_code 29 = .ok (.if_icmp .ge 21, 3) := by decide +kernel
theorem d_22_32 : decode prog_1_method_22_code 32 = .ok (.aload_n 0, 1) := by decide +kernel
theorem d_22_33 : decode prog_1_method_22_code 33 = .ok (.iload_n 2, 1) := by decide +kernel
theorem d_22_34 : decode prog_1_method_22_code 34 = .ok (.laload, 1) := by decide +kernel
theorem d_22_35 : decode prog_1_method_22_code 35 = .ok (.aload_n 0, 1) := by decide +kernel
theorem d_22_36 : decode prog_1_method_22_code 36 = .ok (.iload_n 3, 1) := by decide +kernel
theorem d_22_37 : decode prog_1_method_22_code 37 = .ok (.laload, 1) := by decide +kernel
theorem d_22_38 : decode prog_1_method_22_code 38 = .ok (.lcmp, 1) := by decide +kernel
theorem d_22_39 : decode prog_1_method_22_code 39 = .ok (.ifCond .ne 5, 3) := by decide +kernel
theorem d_22_42 : decode prog_1_method_22_code 42 = .ok (.iconst 0, 1) := by decide +kernel
theorem d_22_43 : decode prog_1_method_22_code 43 = .ok (.ireturn, 1) := by decide +kernel
theorem d_22_44 : decode prog_1_method_22_code 44 = .ok (.iinc 3 1, 3) := by decide +kernel
theorem d_22_47 : decode prog_1_method_22_code 47 = .ok (.goto (-20), 3) := by decide +kernel
theorem d_22_50 : decode prog_1_method_22_code 50 = .ok (.iinc 2 1, 3) := by decide +kernel
theorem d_22_53 : decode prog_1_method_22_code 53 = .ok (.goto (-51), 3) := by decide +kernel
theorem d_22_56 : decode prog_1_method_22_code 56 = .ok (.iconst 1, 1) := by decide +kernel
theorem d_22_57 : decode prog_1_method_22_code 57 = .ok (.ireturn, 1) := by decide +kernel
set_option maxRecDepth 20000 in
theorem ok_22 : ∀ r ∈ tb_22, sm_ok 22 r := List.forall_mem_cons.mpr ⟨d_22_0, List.forall_mem_cons.mpr ⟨d_22_1, List.forall_mem_cons.mpr ⟨d_22_2, List.forall_mem_cons.mpr ⟨d_22_3, List.forall_mem_cons.mpr ⟨⟨d_22_4, (by decide)⟩, List.forall_mem_cons.mpr ⟨d_22_7, List.forall_mem_cons.mpr ⟨d_22_8, List.forall_mem_cons.mpr ⟨d_22_9, List.forall_mem_cons.mpr ⟨⟨d_22_10, (by decide)⟩, List.forall_mem_cons.mpr ⟨d_22_13, List.forall_mem_cons.mpr ⟨d_22_14, List.forall_mem_cons.mpr ⟨d_22_15, List.forall_mem_cons.mpr ⟨⟨d_22_16, (fun _ h => Option.some.inj h ▸ wd_104)⟩, List.forall_mem_cons.mpr ⟨d_22_19, List.forall_mem_cons.mpr ⟨⟨d_22_20, (by decide)⟩, List.forall_mem_cons.mpr ⟨d_22_23, List.forall_mem_cons.mpr ⟨d_22_24, List.forall_mem_cons.mpr ⟨d_22_25, List.forall_mem_cons.mpr ⟨d_22_26, List.forall_mem_cons.mpr ⟨d_22_27, List.forall_mem_cons.mpr ⟨d_22_28, List.forall_mem_cons.mpr ⟨⟨d_22_29, (by decide)⟩, List.forall_mem_cons.mpr ⟨d_22_32, List.forall_mem_cons.mpr ⟨d_22_33, List.forall_mem_cons.mpr ⟨d_22_34, List.forall_mem_cons.mpr ⟨d_22_35, List.forall_mem_cons.mpr ⟨d_22_36, List.forall_mem_cons.mpr ⟨d_22_37, List.forall_mem_cons.mpr ⟨d_22_38, List.forall_mem_cons.mpr ⟨⟨d_22_39, (by decide)⟩, List.forall_mem_cons.mpr ⟨d_22_42, List.forall_mem_cons.mpr ⟨d_22_43, List.forall_mem_cons.mpr ⟨d_22_44, List.forall_mem_cons.mpr ⟨⟨d_22_47, (by decide)⟩, List.forall_mem_cons.mpr ⟨d_22_50, List.forall_mem_cons.mpr ⟨⟨d_22_53, (by decide)⟩, List.forall_mem_cons.mpr ⟨d_22_56, List.forall_mem_cons.mpr ⟨d_22_57, fun _ h => absurd h List.not_mem_nil⟩⟩⟩⟩⟩⟩⟩⟩⟩⟩⟩⟩⟩⟩⟩⟩⟩⟩⟩⟩⟩⟩⟩⟩⟩⟩⟩⟩⟩⟩⟩⟩⟩⟩⟩⟩⟩⟩
theorem d_23_0 : decode prog_1_method_23_code 0 = .ok (.aload_n 0, 1) := by decide +kernel
theorem d_23_1 : decode prog_1_method_23_code 1 = .ok (.getfield 66, 3) := by decide +kernel
theorem d_23_4 : decode prog_1_method_23_code 4 = .ok (.getfield 221, 3) := by decide +kernel
theorem d_23_7 : decode prog_1_method_23_code 7 = .ok (.iconst 1, 1) := by decide +kernel
theorem d_23_8 : decode prog_1_method_23_code 8 = .ok (.isub, 1) := by decide +kernel
theorem d_23_9 : decode prog_1_method_23_code 9 = .ok (.istore_n 2, 1) := by decide +kernel
theorem d_23_10 : decode prog_1_method_23_code 10 = .ok (.iload_n 2, 1) := by decide +kernel
theorem d_23_11 : decode prog_1_method_23_code 11 = .ok (.ifCond .lt 29, 3) := by decide +kernel
theorem d_23_14 : decode prog_1_method_23_code 14 = .ok (.aload_n 0, 1) := by decide +kernel
theorem d_23_15 : decode prog_1_method_23_code 15 = .ok (.getfield 66, 3) := by decide +kernel
theorem d_23_18 : decode prog_1_method_23_code 18 = .ok (.iload_n 2, 1) := by decide +kernel
theorem d_23_19 : decode prog_1_method_23_code 19 = .ok (.invokevirtual 224, 3) := by decide +kernel
theorem d_23_22 : decode prog_1_method_23_code 22 = .ok (.aload_n 1, 1) := by decide +kernel
theorem d_23_23 : decode prog_1_method_23_code 23 = .ok (.aload_n 0, 1) := by decide +kernel
theorem d_23_24 : decode prog_1_method_23_code 24 = .ok (.getfield 39, 3) := by decide +kernel
theorem d_23_27 : decode prog_1_method_23_code 27 = .ok (.iconst 0, 1) := by decide +kernel
theorem d_23_28 : decode prog_1_method_23_code 28 = .ok (.invokevirtual 227, 3) := by decide +kernel
theorem d_23_31 : decode prog_1_method_23_code 31 = .ok (.invokevirtual 237, 3) := by decide +kernel
theorem d_23_34 : decode prog_1_method_23_code 34 = .ok (.iinc 2 (-1), 3) := by decide +kernel
theorem d_23_37 : decode prog_1_method_23_code 37 = .ok (.goto (-27), 3) := by decide +kernel
theorem d_23_40 : decode prog_1_method_23_code 40 = .ok (.aload_n 0, 1) := by decide +kernel
theorem d_23_41 : decode prog_1_method_23_code 41 = .ok (.aload_n 0, 1) := by decide +kernel
theorem d_23_42 : decode prog_1_method_23_code 42 = .ok (.getfield 66, 3) := by decide +kernel
theorem d_23_45 : decode prog_1_method_23_code 45 = .ok (.getfield 221, 3) := by decide +kernel
theorem d_23_48 : decode prog_1_method_23_code 48 = .ok (.putfield 99, 3) := by decide +kernel
theorem d_23_51 : decode prog_1_method_23_code 51 = .ok (.iconst 0, 1) := by decide +kernel
theorem d_23_52 : decode prog_1_method_23_code 52 = .ok (.ireturn, 1) := by decide +kernel
set_option maxRecDepth 20000 in
theorem ok_23 : ∀ r ∈ tb_23, sm_ok 23 r := List.forall_mem_cons.mpr ⟨d_23_0, List.forall_mem_cons.mpr ⟨⟨d_23_1, Or.inl pf_32⟩, List.forall_mem_cons.mpr ⟨⟨d_23_4, Or.inl pf_39⟩, List.forall_mem_cons.mpr ⟨d_23_7, List.forall_mem_cons.mpr ⟨d_23_8, List.forall_mem_cons.mpr ⟨d_23_9, List.forall_mem_cons.mpr ⟨d_23_10, List.forall_mem_cons.mpr ⟨⟨d_23_11, (by decide)⟩, List.forall_mem_cons.mpr ⟨d_23_14, List.forall_mem_cons.mpr ⟨⟨d_23_15, Or.inl pf_32⟩, List.forall_mem_cons.mpr ⟨d_23_18, List.forall_mem_cons.mpr ⟨⟨d_23_19, ⟨mo_130, mi_130, se_130, pm_65⟩⟩, List.forall_mem_cons.mpr ⟨d_23_22, List.forall_mem_cons.mpr ⟨d_23_23, List.forall_mem_cons.mpr ⟨⟨d_23_24, Or.inl pf_10⟩, List.forall_mem_cons.mpr ⟨d_23_27, List.forall_mem_cons.mpr ⟨⟨d_23_28, ⟨mo_42, mi_42, se_42, pm_66⟩⟩, List.forall_mem_cons.mpr ⟨⟨d_23_31, ⟨mo_34, mi_34, se_34, pm_69⟩⟩, List.forall_mem_cons.mpr ⟨d_23_34, List.forall_mem_cons.mpr ⟨⟨d_23_37, (by decide)⟩, List.forall_mem_cons.mpr ⟨d_23_40, List.forall_mem_cons.mpr ⟨d_23_41, List.forall_mem_cons.mpr ⟨⟨d_23_42, Or.inl pf_32⟩, List.forall_mem_cons.mpr ⟨⟨d_23_45, Or.inl pf_39⟩, List.forall_mem_cons.mpr ⟨⟨d_23_48, pf_25⟩, List.forall_mem_cons.mpr ⟨d_23_51, List.forall_mem_cons.mpr ⟨d_23_52, fun _ h => absurd h List.not_mem_nil⟩⟩⟩⟩⟩⟩⟩⟩⟩⟩⟩⟩⟩⟩⟩⟩⟩⟩⟩⟩⟩⟩⟩⟩⟩⟩⟩
