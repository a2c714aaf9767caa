abbrev Y_L_law : Yx := (⟨"TaskWeaveLaw", "law", "([I)Z"⟩, code, 7, (some .boolean))
abbrev M_L_law : Mx := ("TaskWeaveLaw", code, 7, false)
theorem d_L_law_0 : decode code 0 = .ok (.new 8, 3) := by decide +kernel
theorem d_L_law_3 : decode code 3 = .ok (.dup, 1) := by decide +kernel
theorem d_L_law_4 : decode code 4 = .ok (.invokespecial 32, 3) := by decide +kernel
theorem d_L_law_7 : decode code 7 = .ok (.astore_n 1, 1) := by decide +kernel
theorem d_L_law_8 : decode code 8 = .ok (.new 33, 3) := by decide +kernel
theorem d_L_law_11 : decode code 11 = .ok (.dup, 1) := by decide +kernel
theorem d_L_law_12 : decode code 12 = .ok (.invokespecial 35, 3) := by decide +kernel
theorem d_L_law_15 : decode code 15 = .ok (.astore_n 2, 1) := by decide +kernel
theorem d_L_law_16 : decode code 16 = .ok (.iconst 1, 1) := by decide +kernel
theorem d_L_law_17 : decode code 17 = .ok (.newarray .long, 2) := by decide +kernel
theorem d_L_law_19 : decode code 19 = .ok (.astore_n 3, 1) := by decide +kernel
theorem d_L_law_20 : decode code 20 = .ok (.iconst 0, 1) := by decide +kernel
theorem d_L_law_21 : decode code 21 = .ok (.istore 4, 2) := by decide +kernel
theorem d_L_law_23 : decode code 23 = .ok (.iload 4, 2) := by decide +kernel
theorem d_L_law_25 : decode code 25 = .ok (.aload_n 0, 1) := by decide +kernel
theorem d_L_law_26 : decode code 26 = .ok (.arraylength, 1) := by decide +kernel
theorem d_L_law_27 : decode code 27 = .ok (.iconst 5, 1) := by decide +kernel
theorem d_L_law_28 : decode code 28 = .ok (.isub, 1) := by decide +kernel
theorem d_L_law_29 : decode code 29 = .ok (.if_icmp .gt 1062, 3) := by decide +kernel
theorem d_L_law_32 : decode code 32 = .ok (.aload_n 0, 1) := by decide +kernel
theorem d_L_law_33 : decode code 33 = .ok (.iload 4, 2) := by decide +kernel
theorem d_L_law_35 : decode code 35 = .ok (.iaload, 1) := by decide +kernel
theorem d_L_law_36 : decode code 36 = .ok (.bipush 31, 2) := by decide +kernel
theorem d_L_law_38 : decode code 38 = .ok (.iand, 1) := by decide +kernel
theorem d_L_law_39 : decode code 39 = .ok (.tableswitch 1046 0 20 #[97, 166, 222, 235, 284, 333, 358, 426, 451, 476, 513, 538, 575, 631, 668, 733, 782, 819, 899, 936, 985], 97) := by decide +kernel
theorem d_L_law_136 : decode code 136 = .ok (.aload_n 1, 1) := by decide +kernel
theorem d_L_law_137 : decode code 137 = .ok (.aload_n 0, 1) := by decide +kernel
theorem d_L_law_138 : decode code 138 = .ok (.iload 4, 2) := by decide +kernel
theorem d_L_law_140 : decode code 140 = .ok (.iconst 1, 1) := by decide +kernel
theorem d_L_law_141 : decode code 141 = .ok (.iadd, 1) := by decide +kernel
theorem d_L_law_142 : decode code 142 = .ok (.iaload, 1) := by decide +kernel
theorem d_L_law_143 : decode code 143 = .ok (.i2l, 1) := by decide +kernel
theorem d_L_law_144 : decode code 144 = .ok (.bipush 32, 2) := by decide +kernel
theorem d_L_law_146 : decode code 146 = .ok (.lshl, 1) := by decide +kernel
theorem d_L_law_147 : decode code 147 = .ok (.aload_n 0, 1) := by decide +kernel
theorem d_L_law_148 : decode code 148 = .ok (.iload 4, 2) := by decide +kernel
theorem d_L_law_150 : decode code 150 = .ok (.iconst 2, 1) := by decide +kernel
theorem d_L_law_151 : decode code 151 = .ok (.iadd, 1) := by decide +kernel
theorem d_L_law_152 : decode code 152 = .ok (.iaload, 1) := by decide +kernel
theorem d_L_law_153 : decode code 153 = .ok (.i2l, 1) := by decide +kernel
theorem d_L_law_154 : decode code 154 = .ok (.ldc2_w 36, 3) := by decide +kernel
theorem d_L_law_157 : decode code 157 = .ok (.land, 1) := by decide +kernel
theorem d_L_law_158 : decode code 158 = .ok (.lor, 1) := by decide +kernel
theorem d_L_law_159 : decode code 159 = .ok (.aload_n 0, 1) := by decide +kernel
theorem d_L_law_160 : decode code 160 = .ok (.iload 4, 2) := by decide +kernel
theorem d_L_law_162 : decode code 162 = .ok (.iconst 3, 1) := by decide +kernel
theorem d_L_law_163 : decode code 163 = .ok (.iadd, 1) := by decide +kernel
theorem d_L_law_164 : decode code 164 = .ok (.iaload, 1) := by decide +kernel
theorem d_L_law_165 : decode code 165 = .ok (.invokevirtual 38, 3) := by decide +kernel
theorem d_L_law_168 : decode code 168 = .ok (.aload_n 2, 1) := by decide +kernel
theorem d_L_law_169 : decode code 169 = .ok (.aload_n 0, 1) := by decide +kernel
theorem d_L_law_170 : decode code 170 = .ok (.iload 4, 2) := by decide +kernel
theorem d_L_law_172 : decode code 172 = .ok (.iconst 1, 1) := by decide +kernel
theorem d_L_law_173 : decode code 173 = .ok (.iadd, 1) := by decide +kernel
theorem d_L_law_174 : decode code 174 = .ok (.iaload, 1) := by decide +kernel
theorem d_L_law_175 : decode code 175 = .ok (.i2l, 1) := by decide +kernel
theorem d_L_law_176 : decode code 176 = .ok (.bipush 32, 2) := by decide +kernel
theorem d_L_law_178 : decode code 178 = .ok (.lshl, 1) := by decide +kernel
theorem d_L_law_179 : decode code 179 = .ok (.aload_n 0, 1) := by decide +kernel
theorem d_L_law_180 : decode code 180 = .ok (.iload 4, 2) := by decide +kernel
theorem d_L_law_182 : decode code 182 = .ok (.iconst 2, 1) := by decide +kernel
theorem d_L_law_183 : decode code 183 = .ok (.iadd, 1) := by decide +kernel
theorem d_L_law_184 : decode code 184 = .ok (.iaload, 1) := by decide +kernel
theorem d_L_law_185 : decode code 185 = .ok (.i2l, 1) := by decide +kernel
theorem d_L_law_186 : decode code 186 = .ok (.ldc2_w 36, 3) := by decide +kernel
theorem d_L_law_189 : decode code 189 = .ok (.land, 1) := by decide +kernel
theorem d_L_law_190 : decode code 190 = .ok (.lor, 1) := by decide +kernel
theorem d_L_law_191 : decode code 191 = .ok (.aload_n 0, 1) := by decide +kernel
theorem d_L_law_192 : decode code 192 = .ok (.iload 4, 2) := by decide +kernel
theorem d_L_law_194 : decode code 194 = .ok (.iconst 3, 1) := by decide +kernel
theorem d_L_law_195 : decode code 195 = .ok (.iadd, 1) := by decide +kernel
theorem d_L_law_196 : decode code 196 = .ok (.iaload, 1) := by decide +kernel
theorem d_L_law_197 : decode code 197 = .ok (.invokevirtual 42, 3) := by decide +kernel
theorem d_L_law_200 : decode code 200 = .ok (.if_icmp .eq 885, 3) := by decide +kernel
theorem d_L_law_203 : decode code 203 = .ok (.iconst 0, 1) := by decide +kernel
theorem d_L_law_204 : decode code 204 = .ok (.ireturn, 1) := by decide +kernel
theorem d_L_law_205 : decode code 205 = .ok (.aload_n 1, 1) := by decide +kernel
theorem d_L_law_206 : decode code 206 = .ok (.aload_n 0, 1) := by decide +kernel
theorem d_L_law_207 : decode code 207 = .ok (.iload 4, 2) := by decide +kernel
theorem d_L_law_209 : decode code 209 = .ok (.iconst 1, 1) := by decide +kernel
theorem d_L_law_210 : decode code 210 = .ok (.iadd, 1) := by decide +kernel
theorem d_L_law_211 : decode code 211 = .ok (.iaload, 1) := by decide +kernel
theorem d_L_law_212 : decode code 212 = .ok (.aload_n 3, 1) := by decide +kernel
theorem d_L_law_213 : decode code 213 = .ok (.invokestatic 43, 3) := by decide +kernel
theorem d_L_law_216 : decode code 216 = .ok (.istore 5, 2) := by decide +kernel
theorem d_L_law_218 : decode code 218 = .ok (.aload_n 2, 1) := by decide +kernel
theorem d_L_law_219 : decode code 219 = .ok (.aload_n 0, 1) := by decide +kernel
theorem d_L_law_220 : decode code 220 = .ok (.iload 4, 2) := by decide +kernel
theorem d_L_law_222 : decode code 222 = .ok (.iconst 1, 1) := by decide +kernel
theorem d_L_law_223 : decode code 223 = .ok (.iadd, 1) := by decide +kernel
theorem d_L_law_224 : decode code 224 = .ok (.iaload, 1) := by decide +kernel
theorem d_L_law_225 : decode code 225 = .ok (.invokevirtual 48, 3) := by decide +kernel
theorem d_L_law_228 : decode code 228 = .ok (.istore 6, 2) := by decide +kernel
theorem d_L_law_230 : decode code 230 = .ok (.aload_n 2, 1) := by decide +kernel
theorem d_L_law_231 : decode code 231 = .ok (.invokevirtual 49, 3) := by decide +kernel
theorem d_L_law_234 : decode code 234 = .ok (.iload 5, 2) := by decide +kernel
theorem d_L_law_236 : decode code 236 = .ok (.if_icmp .eq 5, 3) := by decide +kernel
theorem d_L_law_239 : decode code 239 = .ok (.iconst 0, 1) := by decide +kernel
theorem d_L_law_240 : decode code 240 = .ok (.ireturn, 1) := by decide +kernel
theorem d_L_law_241 : decode code 241 = .ok (.iload 5, 2) := by decide +kernel
theorem d_L_law_243 : decode code 243 = .ok (.ifCond .ne 15, 3) := by decide +kernel
theorem d_L_law_246 : decode code 246 = .ok (.aload_n 3, 1) := by decide +kernel
theorem d_L_law_247 : decode code 247 = .ok (.iconst 0, 1) := by decide +kernel
theorem d_L_law_248 : decode code 248 = .ok (.laload, 1) := by decide +kernel
theorem d_L_law_249 : decode code 249 = .ok (.iload 6, 2) := by decide +kernel
theorem d_L_law_251 : decode code 251 = .ok (.i2l, 1) := by decide +kernel
theorem d_L_law_252 : decode code 252 = .ok (.lcmp, 1) := by decide +kernel
theorem d_L_law_253 : decode code 253 = .ok (.ifCond .eq 5, 3) := by decide +kernel
theorem d_L_law_256 : decode code 256 = .ok (.iconst 0, 1) := by decide +kernel
theorem d_L_law_257 : decode code 257 = .ok (.ireturn, 1) := by decide +kernel
theorem d_L_law_258 : decode code 258 = .ok (.goto 827, 3) := by decide +kernel
theorem d_L_law_261 : decode code 261 = .ok (.aload_n 1, 1) := by decide +kernel
theorem d_L_law_262 : decode code 262 = .ok (.invokevirtual 53, 3) := by decide +kernel
theorem d_L_law_265 : decode code 265 = .ok (.aload_n 2, 1) := by decide +kernel
theorem d_L_law_266 : decode code 266 = .ok (.invokevirtual 56, 3) := by decide +kernel
theorem d_L_law_269 : decode code 269 = .ok (.if_icmp .eq 816, 3) := by decide +kernel
theorem d_L_law_272 : decode code 272 = .ok (.iconst 0, 1) := by decide +kernel
theorem d_L_law_273 : decode code 273 = .ok (.ireturn, 1) := by decide +kernel
theorem d_L_law_274 : decode code 274 = .ok (.aload_n 1, 1) := by decide +kernel
theorem d_L_law_275 : decode code 275 = .ok (.aload_n 0, 1) := by decide +kernel
theorem d_L_law_276 : decode code 276 = .ok (.iload 4, 2) := by decide +kernel
theorem d_L_law_278 : decode code 278 = .ok (.iconst 1, 1) := by decide +kernel
theorem d_L_law_279 : decode code 279 = .ok (.iadd, 1) := by decide +kernel
theorem d_L_law_280 : decode code 280 = .ok (.iaload, 1) := by decide +kernel
theorem d_L_law_281 : decode code 281 = .ok (.aload_n 0, 1) := by decide +kernel
theorem d_L_law_282 : decode code 282 = .ok (.iload 4, 2) := by decide +kernel
theorem d_L_law_284 : decode code 284 = .ok (.iconst 2, 1) := by decide +kernel
theorem d_L_law_285 : decode code 285 = .ok (.iadd, 1) := by decide +kernel
theorem d_L_law_286 : decode code 286 = .ok (.iaload, 1) := by decide +kernel
theorem d_L_law_287 : decode code 287 = .ok (.aload_n 0, 1) := by decide +kernel
theorem d_L_law_288 : decode code 288 = .ok (.iload 4, 2) := by decide +kernel
theorem d_L_law_290 : decode code 290 = .ok (.iconst 3, 1) := by decide +kernel
theorem d_L_law_291 : decode code 291 = .ok (.iadd, 1) := by decide +kernel
theorem d_L_law_292 : decode code 292 = .ok (.iaload, 1) := by decide +kernel
theorem d_L_law_293 : decode code 293 = .ok (.invokevirtual 57, 3) := by decide +kernel
theorem d_L_law_296 : decode code 296 = .ok (.aload_n 2, 1) := by decide +kernel
theorem d_L_law_297 : decode code 297 = .ok (.aload_n 0, 1) := by decide +kernel
theorem d_L_law_298 : decode code 298 = .ok (.iload 4, 2) := by decide +kernel
theorem d_L_law_300 : decode code 300 = .ok (.iconst 1, 1) := by decide +kernel
theorem d_L_law_301 : decode code 301 = .ok (.iadd, 1) := by decide +kernel
theorem d_L_law_302 : decode code 302 = .ok (.iaload, 1) := by decide +kernel
theorem d_L_law_303 : decode code 303 = .ok (.aload_n 0, 1) := by decide +kernel
theorem d_L_law_304 : decode code 304 = .ok (.iload 4, 2) := by decide +kernel
theorem d_L_law_306 : decode code 306 = .ok (.iconst 2, 1) := by decide +kernel
theorem d_L_law_307 : decode code 307 = .ok (.iadd, 1) := by decide +kernel
theorem d_L_law_308 : decode code 308 = .ok (.iaload, 1) := by decide +kernel
theorem d_L_law_309 : decode code 309 = .ok (.aload_n 0, 1) := by decide +kernel
theorem d_L_law_310 : decode code 310 = .ok (.iload 4, 2) := by decide +kernel
theorem d_L_law_312 : decode code 312 = .ok (.iconst 3, 1) := by decide +kernel
theorem d_L_law_313 : decode code 313 = .ok (.iadd, 1) := by decide +kernel
theorem d_L_law_314 : decode code 314 = .ok (.iaload, 1) := by decide +kernel
theorem d_L_law_315 : decode code 315 = .ok (.invokevirtual 60, 3) := by decide +kernel
theorem d_L_law_318 : decode code 318 = .ok (.if_icmp .eq 767, 3) := by decide +kernel
theorem d_L_law_321 : decode code 321 = .ok (.iconst 0, 1) := by decide +kernel
theorem d_L_law_322 : decode code 322 = .ok (.ireturn, 1) := by decide +kernel
theorem d_L_law_323 : decode code 323 = .ok (.aload_n 1, 1) := by decide +kernel
theorem d_L_law_324 : decode code 324 = .ok (.aload_n 0, 1) := by decide +kernel
theorem d_L_law_325 : decode code 325 = .ok (.iload 4, 2) := by decide +kernel
theorem d_L_law_327 : decode code 327 = .ok (.iconst 1, 1) := by decide +kernel
theorem d_L_law_328 : decode code 328 = .ok (.iadd, 1) := by decide +kernel
theorem d_L_law_329 : decode code 329 = .ok (.iaload, 1) := by decide +kernel
theorem d_L_law_330 : decode code 330 = .ok (.aload_n 0, 1) := by decide +kernel
theorem d_L_law_331 : decode code 331 = .ok (.iload 4, 2) := by decide +kernel
theorem d_L_law_333 : decode code 333 = .ok (.iconst 2, 1) := by decide +kernel
theorem d_L_law_334 : decode code 334 = .ok (.iadd, 1) := by decide +kernel
theorem d_L_law_335 : decode code 335 = .ok (.iaload, 1) := by decide +kernel
theorem d_L_law_336 : decode code 336 = .ok (.aload_n 0, 1) := by decide +kernel
theorem d_L_law_337 : decode code 337 = .ok (.iload 4, 2) := by decide +kernel
theorem d_L_law_339 : decode code 339 = .ok (.iconst 3, 1) := by decide +kernel
theorem d_L_law_340 : decode code 340 = .ok (.iadd, 1) := by decide +kernel
theorem d_L_law_341 : decode code 341 = .ok (.iaload, 1) := by decide +kernel
theorem d_L_law_342 : decode code 342 = .ok (.invokevirtual 61, 3) := by decide +kernel
theorem d_L_law_345 : decode code 345 = .ok (.aload_n 2, 1) := by decide +kernel
theorem d_L_law_346 : decode code 346 = .ok (.aload_n 0, 1) := by decide +kernel
theorem d_L_law_347 : decode code 347 = .ok (.iload 4, 2) := by decide +kernel
theorem d_L_law_349 : decode code 349 = .ok (.iconst 1, 1) := by decide +kernel
theorem d_L_law_350 : decode code 350 = .ok (.iadd, 1) := by decide +kernel
theorem d_L_law_351 : decode code 351 = .ok (.iaload, 1) := by decide +kernel
theorem d_L_law_352 : decode code 352 = .ok (.aload_n 0, 1) := by decide +kernel
theorem d_L_law_353 : decode code 353 = .ok (.iload 4, 2) := by decide +kernel
theorem d_L_law_355 : decode code 355 = .ok (.iconst 2, 1) := by decide +kernel
theorem d_L_law_356 : decode code 356 = .ok (.iadd, 1) := by decide +kernel
theorem d_L_law_357 : decode code 357 = .ok (.iaload, 1) := by decide +kernel
theorem d_L_law_358 : decode code 358 = .ok (.aload_n 0, 1) := by decide +kernel
theorem d_L_law_359 : decode code 359 = .ok (.iload 4, 2) := by decide +kernel
theorem d_L_law_361 : decode code 361 = .ok (.iconst 3, 1) := by decide +kernel
theorem d_L_law_362 : decode code 362 = .ok (.iadd, 1) := by decide +kernel
theorem d_L_law_363 : decode code 363 = .ok (.iaload, 1) := by decide +kernel
theorem d_L_law_364 : decode code 364 = .ok (.invokevirtual 65, 3) := by decide +kernel
theorem d_L_law_367 : decode code 367 = .ok (.if_icmp .eq 718, 3) := by decide +kernel
theorem d_L_law_370 : decode code 370 = .ok (.iconst 0, 1) := by decide +kernel
theorem d_L_law_371 : decode code 371 = .ok (.ireturn, 1) := by decide +kernel
theorem d_L_law_372 : decode code 372 = .ok (.aload_n 1, 1) := by decide +kernel
theorem d_L_law_373 : decode code 373 = .ok (.aload_n 0, 1) := by decide +kernel
theorem d_L_law_374 : decode code 374 = .ok (.iload 4, 2) := by decide +kernel
theorem d_L_law_376 : decode code 376 = .ok (.iconst 1, 1) := by decide +kernel
theorem d_L_law_377 : decode code 377 = .ok (.iadd, 1) := by decide +kernel
theorem d_L_law_378 : decode code 378 = .ok (.iaload, 1) := by decide +kernel
theorem d_L_law_379 : decode code 379 = .ok (.invokevirtual 66, 3) := by decide +kernel
theorem d_L_law_382 : decode code 382 = .ok (.aload_n 2, 1) := by decide +kernel
theorem d_L_law_383 : decode code 383 = .ok (.aload_n 0, 1) := by decide +kernel
theorem d_L_law_384 : decode code 384 = .ok (.iload 4, 2) := by decide +kernel
theorem d_L_law_386 : decode code 386 = .ok (.iconst 1, 1) := by decide +kernel
theorem d_L_law_387 : decode code 387 = .ok (.iadd, 1) := by decide +kernel
theorem d_L_law_388 : decode code 388 = .ok (.iaload, 1) := by decide +kernel
theorem d_L_law_389 : decode code 389 = .ok (.invokevirtual 70, 3) := by decide +kernel
theorem d_L_law_392 : decode code 392 = .ok (.if_icmp .eq 693, 3) := by decide +kernel
theorem d_L_law_395 : decode code 395 = .ok (.iconst 0, 1) := by decide +kernel
theorem d_L_law_396 : decode code 396 = .ok (.ireturn, 1) := by decide +kernel
theorem d_L_law_397 : decode code 397 = .ok (.aload_n 1, 1) := by decide +kernel
theorem d_L_law_398 : decode code 398 = .ok (.aload_n 0, 1) := by decide +kernel
theorem d_L_law_399 : decode code 399 = .ok (.iload 4, 2) := by decide +kernel
theorem d_L_law_401 : decode code 401 = .ok (.iconst 1, 1) := by decide +kernel
theorem d_L_law_402 : decode code 402 = .ok (.iadd, 1) := by decide +kernel
theorem d_L_law_403 : decode code 403 = .ok (.iaload, 1) := by decide +kernel
theorem d_L_law_404 : decode code 404 = .ok (.aload_n 0, 1) := by decide +kernel
theorem d_L_law_405 : decode code 405 = .ok (.iload 4, 2) := by decide +kernel
theorem d_L_law_407 : decode code 407 = .ok (.iconst 2, 1) := by decide +kernel
theorem d_L_law_408 : decode code 408 = .ok (.iadd, 1) := by decide +kernel
theorem d_L_law_409 : decode code 409 = .ok (.iaload, 1) := by decide +kernel
theorem d_L_law_410 : decode code 410 = .ok (.aload_n 3, 1) := by decide +kernel
theorem d_L_law_411 : decode code 411 = .ok (.invokestatic 71, 3) := by decide +kernel
theorem d_L_law_414 : decode code 414 = .ok (.istore 5, 2) := by decide +kernel
theorem d_L_law_416 : decode code 416 = .ok (.aload_n 2, 1) := by decide +kernel
theorem d_L_law_417 : decode code 417 = .ok (.aload_n 0, 1) := by decide +kernel
theorem d_L_law_418 : decode code 418 = .ok (.iload 4, 2) := by decide +kernel
theorem d_L_law_420 : decode code 420 = .ok (.iconst 1, 1) := by decide +kernel
theorem d_L_law_421 : decode code 421 = .ok (.iadd, 1) := by decide +kernel
theorem d_L_law_422 : decode code 422 = .ok (.iaload, 1) := by decide +kernel
theorem d_L_law_423 : decode code 423 = .ok (.aload_n 0, 1) := by decide +kernel
theorem d_L_law_424 : decode code 424 = .ok (.iload 4, 2) := by decide +kernel
theorem d_L_law_426 : decode code 426 = .ok (.iconst 2, 1) := by decide +kernel
theorem d_L_law_427 : decode code 427 = .ok (.iadd, 1) := by decide +kernel
theorem d_L_law_428 : decode code 428 = .ok (.iaload, 1) := by decide +kernel
theorem d_L_law_429 : decode code 429 = .ok (.invokevirtual 74, 3) := by decide +kernel
theorem d_L_law_432 : decode code 432 = .ok (.istore 6, 2) := by decide +kernel
theorem d_L_law_434 : decode code 434 = .ok (.aload_n 2, 1) := by decide +kernel
theorem d_L_law_435 : decode code 435 = .ok (.invokevirtual 49, 3) := by decide +kernel
theorem d_L_law_438 : decode code 438 = .ok (.iload 5, 2) := by decide +kernel
theorem d_L_law_440 : decode code 440 = .ok (.if_icmp .eq 5, 3) := by decide +kernel
theorem d_L_law_443 : decode code 443 = .ok (.iconst 0, 1) := by decide +kernel
theorem d_L_law_444 : decode code 444 = .ok (.ireturn, 1) := by decide +kernel
theorem d_L_law_445 : decode code 445 = .ok (.iload 5, 2) := by decide +kernel
theorem d_L_law_447 : decode code 447 = .ok (.ifCond .ne 15, 3) := by decide +kernel
theorem d_L_law_450 : decode code 450 = .ok (.aload_n 3, 1) := by decide +kernel
theorem d_L_law_451 : decode code 451 = .ok (.iconst 0, 1) := by decide +kernel
theorem d_L_law_452 : decode code 452 = .ok (.laload, 1) := by decide +kernel
theorem d_L_law_453 : decode code 453 = .ok (.iload 6, 2) := by decide +kernel
theorem d_L_law_455 : decode code 455 = .ok (.i2l, 1) := by decide +kernel
theorem d_L_law_456 : decode code 456 = .ok (.lcmp, 1) := by decide +kernel
theorem d_L_law_457 : decode code 457 = .ok (.ifCond .eq 5, 3) := by decide +kernel
theorem d_L_law_460 : decode code 460 = .ok (.iconst 0, 1) := by decide +kernel
theorem d_L_law_461 : decode code 461 = .ok (.ireturn, 1) := by decide +kernel
theorem d_L_law_462 : decode code 462 = .ok (.goto 623, 3) := by decide +kernel
theorem d_L_law_465 : decode code 465 = .ok (.aload_n 1, 1) := by decide +kernel
theorem d_L_law_466 : decode code 466 = .ok (.aload_n 0, 1) := by decide +kernel
theorem d_L_law_467 : decode code 467 = .ok (.iload 4, 2) := by decide +kernel
theorem d_L_law_469 : decode code 469 = .ok (.iconst 1, 1) := by decide +kernel
theorem d_L_law_470 : decode code 470 = .ok (.iadd, 1) := by decide +kernel
theorem d_L_law_471 : decode code 471 = .ok (.iaload, 1) := by decide +kernel
theorem d_L_law_472 : decode code 472 = .ok (.invokevirtual 75, 3) := by decide +kernel
theorem d_L_law_475 : decode code 475 = .ok (.aload_n 2, 1) := by decide +kernel
theorem d_L_law_476 : decode code 476 = .ok (.aload_n 0, 1) := by decide +kernel
theorem d_L_law_477 : decode code 477 = .ok (.iload 4, 2) := by decide +kernel
theorem d_L_law_479 : decode code 479 = .ok (.iconst 1, 1) := by decide +kernel
theorem d_L_law_480 : decode code 480 = .ok (.iadd, 1) := by decide +kernel
theorem d_L_law_481 : decode code 481 = .ok (.iaload, 1) := by decide +kernel
theorem d_L_law_482 : decode code 482 = .ok (.invokevirtual 78, 3) := by decide +kernel
theorem d_L_law_485 : decode code 485 = .ok (.if_icmp .eq 600, 3) := by decide +kernel
theorem d_L_law_488 : decode code 488 = .ok (.iconst 0, 1) := by decide +kernel
theorem d_L_law_489 : decode code 489 = .ok (.ireturn, 1) := by decide +kernel
theorem d_L_law_490 : decode code 490 = .ok (.aload_n 1, 1) := by decide +kernel
theorem d_L_law_491 : decode code 491 = .ok (.aload_n 0, 1) := by decide +kernel
theorem d_L_law_492 : decode code 492 = .ok (.iload 4, 2) := by decide +kernel
theorem d_L_law_494 : decode code 494 = .ok (.iconst 1, 1) := by decide +kernel
theorem d_L_law_495 : decode code 495 = .ok (.iadd, 1) := by decide +kernel
theorem d_L_law_496 : decode code 496 = .ok (.iaload, 1) := by decide +kernel
theorem d_L_law_497 : decode code 497 = .ok (.invokevirtual 79, 3) := by decide +kernel
theorem d_L_law_500 : decode code 500 = .ok (.aload_n 2, 1) := by decide +kernel
theorem d_L_law_501 : decode code 501 = .ok (.aload_n 0, 1) := by decide +kernel
theorem d_L_law_502 : decode code 502 = .ok (.iload 4, 2) := by decide +kernel
theorem d_L_law_504 : decode code 504 = .ok (.iconst 1, 1) := by decide +kernel
theorem d_L_law_505 : decode code 505 = .ok (.iadd, 1) := by decide +kernel
theorem d_L_law_506 : decode code 506 = .ok (.iaload, 1) := by decide +kernel
theorem d_L_law_507 : decode code 507 = .ok (.invokevirtual 82, 3) := by decide +kernel
theorem d_L_law_510 : decode code 510 = .ok (.if_icmp .eq 575, 3) := by decide +kernel
theorem d_L_law_513 : decode code 513 = .ok (.iconst 0, 1) := by decide +kernel
theorem d_L_law_514 : decode code 514 = .ok (.ireturn, 1) := by decide +kernel
theorem d_L_law_515 : decode code 515 = .ok (.aload_n 1, 1) := by decide +kernel
theorem d_L_law_516 : decode code 516 = .ok (.aload_n 0, 1) := by decide +kernel
theorem d_L_law_517 : decode code 517 = .ok (.iload 4, 2) := by decide +kernel
theorem d_L_law_519 : decode code 519 = .ok (.iconst 1, 1) := by decide +kernel
theorem d_L_law_520 : decode code 520 = .ok (.iadd, 1) := by decide +kernel
theorem d_L_law_521 : decode code 521 = .ok (.iaload, 1) := by decide +kernel
theorem d_L_law_522 : decode code 522 = .ok (.aload_n 0, 1) := by decide +kernel
theorem d_L_law_523 : decode code 523 = .ok (.iload 4, 2) := by decide +kernel
theorem d_L_law_525 : decode code 525 = .ok (.iconst 2, 1) := by decide +kernel
theorem d_L_law_526 : decode code 526 = .ok (.iadd, 1) := by decide +kernel
theorem d_L_law_527 : decode code 527 = .ok (.iaload, 1) := by decide +kernel
theorem d_L_law_528 : decode code 528 = .ok (.invokevirtual 83, 3) := by decide +kernel
theorem d_L_law_531 : decode code 531 = .ok (.aload_n 2, 1) := by decide +kernel
theorem d_L_law_532 : decode code 532 = .ok (.aload_n 0, 1) := by decide +kernel
theorem d_L_law_533 : decode code 533 = .ok (.iload 4, 2) := by decide +kernel
theorem d_L_law_535 : decode code 535 = .ok (.iconst 1, 1) := by decide +kernel
theorem d_L_law_536 : decode code 536 = .ok (.iadd, 1) := by decide +kernel
theorem d_L_law_537 : decode code 537 = .ok (.iaload, 1) := by decide +kernel
theorem d_L_law_538 : decode code 538 = .ok (.aload_n 0, 1) := by decide +kernel
theorem d_L_law_539 : decode code 539 = .ok (.iload 4, 2) := by decide +kernel
theorem d_L_law_541 : decode code 541 = .ok (.iconst 2, 1) := by decide +kernel
theorem d_L_law_542 : decode code 542 = .ok (.iadd, 1) := by decide +kernel
theorem d_L_law_543 : decode code 543 = .ok (.iaload, 1) := by decide +kernel
theorem d_L_law_544 : decode code 544 = .ok (.invokevirtual 87, 3) := by decide +kernel
theorem d_L_law_547 : decode code 547 = .ok (.if_icmp .eq 538, 3) := by decide +kernel
theorem d_L_law_550 : decode code 550 = .ok (.iconst 0, 1) := by decide +kernel
theorem d_L_law_551 : decode code 551 = .ok (.ireturn, 1) := by decide +kernel
theorem d_L_law_552 : decode code 552 = .ok (.aload_n 1, 1) := by decide +kernel
theorem d_L_law_553 : decode code 553 = .ok (.aload_n 0, 1) := by decide +kernel
theorem d_L_law_554 : decode code 554 = .ok (.iload 4, 2) := by decide +kernel
theorem d_L_law_556 : decode code 556 = .ok (.iconst 1, 1) := by decide +kernel
theorem d_L_law_557 : decode code 557 = .ok (.iadd, 1) := by decide +kernel
theorem d_L_law_558 : decode code 558 = .ok (.iaload, 1) := by decide +kernel
theorem d_L_law_559 : decode code 559 = .ok (.invokevirtual 88, 3) := by decide +kernel
theorem d_L_law_562 : decode code 562 = .ok (.aload_n 2, 1) := by decide +kernel
theorem d_L_law_563 : decode code 563 = .ok (.aload_n 0, 1) := by decide +kernel
theorem d_L_law_564 : decode code 564 = .ok (.iload 4, 2) := by decide +kernel
theorem d_L_law_566 : decode code 566 = .ok (.iconst 1, 1) := by decide +kernel
theorem d_L_law_567 : decode code 567 = .ok (.iadd, 1) := by decide +kernel
theorem d_L_law_568 : decode code 568 = .ok (.iaload, 1) := by decide +kernel
theorem d_L_law_569 : decode code 569 = .ok (.invokevirtual 91, 3) := by decide +kernel
theorem d_L_law_572 : decode code 572 = .ok (.if_icmp .eq 513, 3) := by decide +kernel
theorem d_L_law_575 : decode code 575 = .ok (.iconst 0, 1) := by decide +kernel
theorem d_L_law_576 : decode code 576 = .ok (.ireturn, 1) := by decide +kernel
theorem d_L_law_577 : decode code 577 = .ok (.aload_n 1, 1) := by decide +kernel
theorem d_L_law_578 : decode code 578 = .ok (.aload_n 0, 1) := by decide +kernel
theorem d_L_law_579 : decode code 579 = .ok (.iload 4, 2) := by decide +kernel
theorem d_L_law_581 : decode code 581 = .ok (.iconst 1, 1) := by decide +kernel
theorem d_L_law_582 : decode code 582 = .ok (.iadd, 1) := by decide +kernel
theorem d_L_law_583 : decode code 583 = .ok (.iaload, 1) := by decide +kernel
theorem d_L_law_584 : decode code 584 = .ok (.aload_n 0, 1) := by decide +kernel
theorem d_L_law_585 : decode code 585 = .ok (.iload 4, 2) := by decide +kernel
theorem d_L_law_587 : decode code 587 = .ok (.iconst 2, 1) := by decide +kernel
theorem d_L_law_588 : decode code 588 = .ok (.iadd, 1) := by decide +kernel
theorem d_L_law_589 : decode code 589 = .ok (.iaload, 1) := by decide +kernel
theorem d_L_law_590 : decode code 590 = .ok (.invokevirtual 92, 3) := by decide +kernel
theorem d_L_law_593 : decode code 593 = .ok (.aload_n 2, 1) := by decide +kernel
theorem d_L_law_594 : decode code 594 = .ok (.aload_n 0, 1) := by decide +kernel
theorem d_L_law_595 : decode code 595 = .ok (.iload 4, 2) := by decide +kernel
theorem d_L_law_597 : decode code 597 = .ok (.iconst 1, 1) := by decide +kernel
theorem d_L_law_598 : decode code 598 = .ok (.iadd, 1) := by decide +kernel
theorem d_L_law_599 : decode code 599 = .ok (.iaload, 1) := by decide +kernel
theorem d_L_law_600 : decode code 600 = .ok (.aload_n 0, 1) := by decide +kernel
theorem d_L_law_601 : decode code 601 = .ok (.iload 4, 2) := by decide +kernel
theorem d_L_law_603 : decode code 603 = .ok (.iconst 2, 1) := by decide +kernel
theorem d_L_law_604 : decode code 604 = .ok (.iadd, 1) := by decide +kernel
theorem d_L_law_605 : decode code 605 = .ok (.iaload, 1) := by decide +kernel
theorem d_L_law_606 : decode code 606 = .ok (.invokevirtual 95, 3) := by decide +kernel
theorem d_L_law_609 : decode code 609 = .ok (.if_icmp .eq 476, 3) := by decide +kernel
theorem d_L_law_612 : decode code 612 = .ok (.iconst 0, 1) := by decide +kernel
theorem d_L_law_613 : decode code 613 = .ok (.ireturn, 1) := by decide +kernel
theorem d_L_law_614 : decode code 614 = .ok (.aload_n 1, 1) := by decide +kernel
theorem d_L_law_615 : decode code 615 = .ok (.aload_n 0, 1) := by decide +kernel
theorem d_L_law_616 : decode code 616 = .ok (.iload 4, 2) := by decide +kernel
theorem d_L_law_618 : decode code 618 = .ok (.iconst 1, 1) := by decide +kernel
theorem d_L_law_619 : decode code 619 = .ok (.iadd, 1) := by decide +kernel
theorem d_L_law_620 : decode code 620 = .ok (.iaload, 1) := by decide +kernel
theorem d_L_law_621 : decode code 621 = .ok (.aload_n 3, 1) := by decide +kernel
theorem d_L_law_622 : decode code 622 = .ok (.invokestatic 96, 3) := by decide +kernel
theorem d_L_law_625 : decode code 625 = .ok (.istore 5, 2) := by decide +kernel
theorem d_L_law_627 : decode code 627 = .ok (.aload_n 2, 1) := by decide +kernel
theorem d_L_law_628 : decode code 628 = .ok (.aload_n 0, 1) := by decide +kernel
theorem d_L_law_629 : decode code 629 = .ok (.iload 4, 2) := by decide +kernel
theorem d_L_law_631 : decode code 631 = .ok (.iconst 1, 1) := by decide +kernel
theorem d_L_law_632 : decode code 632 = .ok (.iadd, 1) := by decide +kernel
theorem d_L_law_633 : decode code 633 = .ok (.iaload, 1) := by decide +kernel
theorem d_L_law_634 : decode code 634 = .ok (.invokevirtual 98, 3) := by decide +kernel
theorem d_L_law_637 : decode code 637 = .ok (.istore 6, 2) := by decide +kernel
theorem d_L_law_639 : decode code 639 = .ok (.aload_n 2, 1) := by decide +kernel
theorem d_L_law_640 : decode code 640 = .ok (.invokevirtual 49, 3) := by decide +kernel
theorem d_L_law_643 : decode code 643 = .ok (.iload 5, 2) := by decide +kernel
theorem d_L_law_645 : decode code 645 = .ok (.if_icmp .eq 5, 3) := by decide +kernel
theorem d_L_law_648 : decode code 648 = .ok (.iconst 0, 1) := by decide +kernel
theorem d_L_law_649 : decode code 649 = .ok (.ireturn, 1) := by decide +kernel
theorem d_L_law_650 : decode code 650 = .ok (.iload 5, 2) := by decide +kernel
theorem d_L_law_652 : decode code 652 = .ok (.ifCond .ne 15, 3) := by decide +kernel
theorem d_L_law_655 : decode code 655 = .ok (.aload_n 3, 1) := by decide +kernel
theorem d_L_law_656 : decode code 656 = .ok (.iconst 0, 1) := by decide +kernel
theorem d_L_law_657 : decode code 657 = .ok (.laload, 1) := by decide +kernel
theorem d_L_law_658 : decode code 658 = .ok (.iload 6, 2) := by decide +kernel
theorem d_L_law_660 : decode code 660 = .ok (.i2l, 1) := by decide +kernel
theorem d_L_law_661 : decode code 661 = .ok (.lcmp, 1) := by decide +kernel
theorem d_L_law_662 : decode code 662 = .ok (.ifCond .eq 5, 3) := by decide +kernel
theorem d_L_law_665 : decode code 665 = .ok (.iconst 0, 1) := by decide +kernel
theorem d_L_law_666 : decode code 666 = .ok (.ireturn, 1) := by decide +kernel
theorem d_L_law_667 : decode code 667 = .ok (.goto 418, 3) := by decide +kernel
theorem d_L_law_670 : decode code 670 = .ok (.aload_n 1, 1) := by decide +kernel
theorem d_L_law_671 : decode code 671 = .ok (.aload_n 0, 1) := by decide +kernel
theorem d_L_law_672 : decode code 672 = .ok (.iload 4, 2) := by decide +kernel
theorem d_L_law_674 : decode code 674 = .ok (.iconst 1, 1) := by decide +kernel
theorem d_L_law_675 : decode code 675 = .ok (.iadd, 1) := by decide +kernel
theorem d_L_law_676 : decode code 676 = .ok (.iaload, 1) := by decide +kernel
theorem d_L_law_677 : decode code 677 = .ok (.aload_n 0, 1) := by decide +kernel
theorem d_L_law_678 : decode code 678 = .ok (.iload 4, 2) := by decide +kernel
theorem d_L_law_680 : decode code 680 = .ok (.iconst 2, 1) := by decide +kernel
theorem d_L_law_681 : decode code 681 = .ok (.iadd, 1) := by decide +kernel
theorem d_L_law_682 : decode code 682 = .ok (.iaload, 1) := by decide +kernel
theorem d_L_law_683 : decode code 683 = .ok (.invokevirtual 99, 3) := by decide +kernel
theorem d_L_law_686 : decode code 686 = .ok (.aload_n 2, 1) := by decide +kernel
theorem d_L_law_687 : decode code 687 = .ok (.aload_n 0, 1) := by decide +kernel
theorem d_L_law_688 : decode code 688 = .ok (.iload 4, 2) := by decide +kernel
theorem d_L_law_690 : decode code 690 = .ok (.iconst 1, 1) := by decide +kernel
theorem d_L_law_691 : decode code 691 = .ok (.iadd, 1) := by decide +kernel
theorem d_L_law_692 : decode code 692 = .ok (.iaload, 1) := by decide +kernel
theorem d_L_law_693 : decode code 693 = .ok (.aload_n 0, 1) := by decide +kernel
theorem d_L_law_694 : decode code 694 = .ok (.iload 4, 2) := by decide +kernel
theorem d_L_law_696 : decode code 696 = .ok (.iconst 2, 1) := by decide +kernel
theorem d_L_law_697 : decode code 697 = .ok (.iadd, 1) := by decide +kernel
theorem d_L_law_698 : decode code 698 = .ok (.iaload, 1) := by decide +kernel
theorem d_L_law_699 : decode code 699 = .ok (.invokevirtual 102, 3) := by decide +kernel
theorem d_L_law_702 : decode code 702 = .ok (.if_icmp .eq 383, 3) := by decide +kernel
theorem d_L_law_705 : decode code 705 = .ok (.iconst 0, 1) := by decide +kernel
theorem d_L_law_706 : decode code 706 = .ok (.ireturn, 1) := by decide +kernel
theorem d_L_law_707 : decode code 707 = .ok (.aload_n 1, 1) := by decide +kernel
theorem d_L_law_708 : decode code 708 = .ok (.aload_n 0, 1) := by decide +kernel
theorem d_L_law_709 : decode code 709 = .ok (.iload 4, 2) := by decide +kernel
theorem d_L_law_711 : decode code 711 = .ok (.iconst 1, 1) := by decide +kernel
theorem d_L_law_712 : decode code 712 = .ok (.iadd, 1) := by decide +kernel
theorem d_L_law_713 : decode code 713 = .ok (.iaload, 1) := by decide +kernel
theorem d_L_law_714 : decode code 714 = .ok (.aload_n 0, 1) := by decide +kernel
theorem d_L_law_715 : decode code 715 = .ok (.iload 4, 2) := by decide +kernel
theorem d_L_law_717 : decode code 717 = .ok (.iconst 2, 1) := by decide +kernel
theorem d_L_law_718 : decode code 718 = .ok (.iadd, 1) := by decide +kernel
theorem d_L_law_719 : decode code 719 = .ok (.iaload, 1) := by decide +kernel
theorem d_L_law_720 : decode code 720 = .ok (.aload_n 0, 1) := by decide +kernel
theorem d_L_law_721 : decode code 721 = .ok (.iload 4, 2) := by decide +kernel
theorem d_L_law_723 : decode code 723 = .ok (.iconst 3, 1) := by decide +kernel
theorem d_L_law_724 : decode code 724 = .ok (.iadd, 1) := by decide +kernel
theorem d_L_law_725 : decode code 725 = .ok (.iaload, 1) := by decide +kernel
theorem d_L_law_726 : decode code 726 = .ok (.ifCond .eq 7, 3) := by decide +kernel
theorem d_L_law_729 : decode code 729 = .ok (.iconst 1, 1) := by decide +kernel
theorem d_L_law_730 : decode code 730 = .ok (.goto 4, 3) := by decide +kernel
theorem d_L_law_733 : decode code 733 = .ok (.iconst 0, 1) := by decide +kernel
theorem d_L_law_734 : decode code 734 = .ok (.invokevirtual 103, 3) := by decide +kernel
theorem d_L_law_737 : decode code 737 = .ok (.aload_n 2, 1) := by decide +kernel
theorem d_L_law_738 : decode code 738 = .ok (.aload_n 0, 1) := by decide +kernel
theorem d_L_law_739 : decode code 739 = .ok (.iload 4, 2) := by decide +kernel
theorem d_L_law_741 : decode code 741 = .ok (.iconst 1, 1) := by decide +kernel
theorem d_L_law_742 : decode code 742 = .ok (.iadd, 1) := by decide +kernel
theorem d_L_law_743 : decode code 743 = .ok (.iaload, 1) := by decide +kernel
theorem d_L_law_744 : decode code 744 = .ok (.aload_n 0, 1) := by decide +kernel
theorem d_L_law_745 : decode code 745 = .ok (.iload 4, 2) := by decide +kernel
theorem d_L_law_747 : decode code 747 = .ok (.iconst 2, 1) := by decide +kernel
theorem d_L_law_748 : decode code 748 = .ok (.iadd, 1) := by decide +kernel
theorem d_L_law_749 : decode code 749 = .ok (.iaload, 1) := by decide +kernel
theorem d_L_law_750 : decode code 750 = .ok (.aload_n 0, 1) := by decide +kernel
theorem d_L_law_751 : decode code 751 = .ok (.iload 4, 2) := by decide +kernel
theorem d_L_law_753 : decode code 753 = .ok (.iconst 3, 1) := by decide +kernel
theorem d_L_law_754 : decode code 754 = .ok (.iadd, 1) := by decide +kernel
theorem d_L_law_755 : decode code 755 = .ok (.iaload, 1) := by decide +kernel
theorem d_L_law_756 : decode code 756 = .ok (.ifCond .eq 7, 3) := by decide +kernel
theorem d_L_law_759 : decode code 759 = .ok (.iconst 1, 1) := by decide +kernel
theorem d_L_law_760 : decode code 760 = .ok (.goto 4, 3) := by decide +kernel
theorem d_L_law_763 : decode code 763 = .ok (.iconst 0, 1) := by decide +kernel
theorem d_L_law_764 : decode code 764 = .ok (.invokevirtual 107, 3) := by decide +kernel
theorem d_L_law_767 : decode code 767 = .ok (.if_icmp .eq 318, 3) := by decide +kernel
theorem d_L_law_770 : decode code 770 = .ok (.iconst 0, 1) := by decide +kernel
theorem d_L_law_771 : decode code 771 = .ok (.ireturn, 1) := by decide +kernel
theorem d_L_law_772 : decode code 772 = .ok (.aload_n 1, 1) := by decide +kernel
theorem d_L_law_773 : decode code 773 = .ok (.aload_n 0, 1) := by decide +kernel
theorem d_L_law_774 : decode code 774 = .ok (.iload 4, 2) := by decide +kernel
theorem d_L_law_776 : decode code 776 = .ok (.iconst 1, 1) := by decide +kernel
theorem d_L_law_777 : decode code 777 = .ok (.iadd, 1) := by decide +kernel
theorem d_L_law_778 : decode code 778 = .ok (.iaload, 1) := by decide +kernel
theorem d_L_law_779 : decode code 779 = .ok (.aload_n 0, 1) := by decide +kernel
theorem d_L_law_780 : decode code 780 = .ok (.iload 4, 2) := by decide +kernel
theorem d_L_law_782 : decode code 782 = .ok (.iconst 2, 1) := by decide +kernel
theorem d_L_law_783 : decode code 783 = .ok (.iadd, 1) := by decide +kernel
theorem d_L_law_784 : decode code 784 = .ok (.iaload, 1) := by decide +kernel
theorem d_L_law_785 : decode code 785 = .ok (.aload_n 0, 1) := by decide +kernel
theorem d_L_law_786 : decode code 786 = .ok (.iload 4, 2) := by decide +kernel
theorem d_L_law_788 : decode code 788 = .ok (.iconst 3, 1) := by decide +kernel
theorem d_L_law_789 : decode code 789 = .ok (.iadd, 1) := by decide +kernel
theorem d_L_law_790 : decode code 790 = .ok (.iaload, 1) := by decide +kernel
theorem d_L_law_791 : decode code 791 = .ok (.invokevirtual 108, 3) := by decide +kernel
theorem d_L_law_794 : decode code 794 = .ok (.aload_n 2, 1) := by decide +kernel
theorem d_L_law_795 : decode code 795 = .ok (.aload_n 0, 1) := by decide +kernel
theorem d_L_law_796 : decode code 796 = .ok (.iload 4, 2) := by decide +kernel
theorem d_L_law_798 : decode code 798 = .ok (.iconst 1, 1) := by decide +kernel
theorem d_L_law_799 : decode code 799 = .ok (.iadd, 1) := by decide +kernel
theorem d_L_law_800 : decode code 800 = .ok (.iaload, 1) := by decide +kernel
theorem d_L_law_801 : decode code 801 = .ok (.aload_n 0, 1) := by decide +kernel
theorem d_L_law_802 : decode code 802 = .ok (.iload 4, 2) := by decide +kernel
theorem d_L_law_804 : decode code 804 = .ok (.iconst 2, 1) := by decide +kernel
theorem d_L_law_805 : decode code 805 = .ok (.iadd, 1) := by decide +kernel
theorem d_L_law_806 : decode code 806 = .ok (.iaload, 1) := by decide +kernel
theorem d_L_law_807 : decode code 807 = .ok (.aload_n 0, 1) := by decide +kernel
theorem d_L_law_808 : decode code 808 = .ok (.iload 4, 2) := by decide +kernel
theorem d_L_law_810 : decode code 810 = .ok (.iconst 3, 1) := by decide +kernel
theorem d_L_law_811 : decode code 811 = .ok (.iadd, 1) := by decide +kernel
theorem d_L_law_812 : decode code 812 = .ok (.iaload, 1) := by decide +kernel
theorem d_L_law_813 : decode code 813 = .ok (.invokevirtual 111, 3) := by decide +kernel
theorem d_L_law_816 : decode code 816 = .ok (.if_icmp .eq 269, 3) := by decide +kernel
theorem d_L_law_819 : decode code 819 = .ok (.iconst 0, 1) := by decide +kernel
theorem d_L_law_820 : decode code 820 = .ok (.ireturn, 1) := by decide +kernel
theorem d_L_law_821 : decode code 821 = .ok (.aload_n 1, 1) := by decide +kernel
theorem d_L_law_822 : decode code 822 = .ok (.aload_n 0, 1) := by decide +kernel
theorem d_L_law_823 : decode code 823 = .ok (.iload 4, 2) := by decide +kernel
theorem d_L_law_825 : decode code 825 = .ok (.iconst 1, 1) := by decide +kernel
theorem d_L_law_826 : decode code 826 = .ok (.iadd, 1) := by decide +kernel
theorem d_L_law_827 : decode code 827 = .ok (.iaload, 1) := by decide +kernel
theorem d_L_law_828 : decode code 828 = .ok (.aload_n 0, 1) := by decide +kernel
theorem d_L_law_829 : decode code 829 = .ok (.iload 4, 2) := by decide +kernel
theorem d_L_law_831 : decode code 831 = .ok (.iconst 2, 1) := by decide +kernel
theorem d_L_law_832 : decode code 832 = .ok (.iadd, 1) := by decide +kernel
theorem d_L_law_833 : decode code 833 = .ok (.iaload, 1) := by decide +kernel
theorem d_L_law_834 : decode code 834 = .ok (.invokevirtual 112, 3) := by decide +kernel
theorem d_L_law_837 : decode code 837 = .ok (.aload_n 2, 1) := by decide +kernel
theorem d_L_law_838 : decode code 838 = .ok (.aload_n 0, 1) := by decide +kernel
theorem d_L_law_839 : decode code 839 = .ok (.iload 4, 2) := by decide +kernel
theorem d_L_law_841 : decode code 841 = .ok (.iconst 1, 1) := by decide +kernel
theorem d_L_law_842 : decode code 842 = .ok (.iadd, 1) := by decide +kernel
theorem d_L_law_843 : decode code 843 = .ok (.iaload, 1) := by decide +kernel
theorem d_L_law_844 : decode code 844 = .ok (.aload_n 0, 1) := by decide +kernel
theorem d_L_law_845 : decode code 845 = .ok (.iload 4, 2) := by decide +kernel
theorem d_L_law_847 : decode code 847 = .ok (.iconst 2, 1) := by decide +kernel
theorem d_L_law_848 : decode code 848 = .ok (.iadd, 1) := by decide +kernel
theorem d_L_law_849 : decode code 849 = .ok (.iaload, 1) := by decide +kernel
theorem d_L_law_850 : decode code 850 = .ok (.invokevirtual 115, 3) := by decide +kernel
theorem d_L_law_853 : decode code 853 = .ok (.if_icmp .eq 232, 3) := by decide +kernel
theorem d_L_law_856 : decode code 856 = .ok (.iconst 0, 1) := by decide +kernel
theorem d_L_law_857 : decode code 857 = .ok (.ireturn, 1) := by decide +kernel
theorem d_L_law_858 : decode code 858 = .ok (.aload_n 1, 1) := by decide +kernel
theorem d_L_law_859 : decode code 859 = .ok (.aload_n 0, 1) := by decide +kernel
theorem d_L_law_860 : decode code 860 = .ok (.iload 4, 2) := by decide +kernel
theorem d_L_law_862 : decode code 862 = .ok (.iconst 1, 1) := by decide +kernel
theorem d_L_law_863 : decode code 863 = .ok (.iadd, 1) := by decide +kernel
theorem d_L_law_864 : decode code 864 = .ok (.iaload, 1) := by decide +kernel
theorem d_L_law_865 : decode code 865 = .ok (.aload_n 0, 1) := by decide +kernel
theorem d_L_law_866 : decode code 866 = .ok (.iload 4, 2) := by decide +kernel
theorem d_L_law_868 : decode code 868 = .ok (.iconst 2, 1) := by decide +kernel
theorem d_L_law_869 : decode code 869 = .ok (.iadd, 1) := by decide +kernel
theorem d_L_law_870 : decode code 870 = .ok (.iaload, 1) := by decide +kernel
theorem d_L_law_871 : decode code 871 = .ok (.aload_n 0, 1) := by decide +kernel
theorem d_L_law_872 : decode code 872 = .ok (.iload 4, 2) := by decide +kernel
theorem d_L_law_874 : decode code 874 = .ok (.iconst 3, 1) := by decide +kernel
theorem d_L_law_875 : decode code 875 = .ok (.iadd, 1) := by decide +kernel
theorem d_L_law_876 : decode code 876 = .ok (.iaload, 1) := by decide +kernel
theorem d_L_law_877 : decode code 877 = .ok (.aload_n 3, 1) := by decide +kernel
theorem d_L_law_878 : decode code 878 = .ok (.invokestatic 116, 3) := by decide +kernel
theorem d_L_law_881 : decode code 881 = .ok (.istore 5, 2) := by decide +kernel
theorem d_L_law_883 : decode code 883 = .ok (.aload_n 2, 1) := by decide +kernel
theorem d_L_law_884 : decode code 884 = .ok (.aload_n 0, 1) := by decide +kernel
theorem d_L_law_885 : decode code 885 = .ok (.iload 4, 2) := by decide +kernel
theorem d_L_law_887 : decode code 887 = .ok (.iconst 1, 1) := by decide +kernel
theorem d_L_law_888 : decode code 888 = .ok (.iadd, 1) := by decide +kernel
theorem d_L_law_889 : decode code 889 = .ok (.iaload, 1) := by decide +kernel
theorem d_L_law_890 : decode code 890 = .ok (.aload_n 0, 1) := by decide +kernel
theorem d_L_law_891 : decode code 891 = .ok (.iload 4, 2) := by decide +kernel
theorem d_L_law_893 : decode code 893 = .ok (.iconst 2, 1) := by decide +kernel
theorem d_L_law_894 : decode code 894 = .ok (.iadd, 1) := by decide +kernel
theorem d_L_law_895 : decode code 895 = .ok (.iaload, 1) := by decide +kernel
theorem d_L_law_896 : decode code 896 = .ok (.aload_n 0, 1) := by decide +kernel
theorem d_L_law_897 : decode code 897 = .ok (.iload 4, 2) := by decide +kernel
theorem d_L_law_899 : decode code 899 = .ok (.iconst 3, 1) := by decide +kernel
theorem d_L_law_900 : decode code 900 = .ok (.iadd, 1) := by decide +kernel
theorem d_L_law_901 : decode code 901 = .ok (.iaload, 1) := by decide +kernel
theorem d_L_law_902 : decode code 902 = .ok (.invokevirtual 119, 3) := by decide +kernel
theorem d_L_law_905 : decode code 905 = .ok (.istore 6, 2) := by decide +kernel
theorem d_L_law_907 : decode code 907 = .ok (.aload_n 2, 1) := by decide +kernel
theorem d_L_law_908 : decode code 908 = .ok (.invokevirtual 49, 3) := by decide +kernel
theorem d_L_law_911 : decode code 911 = .ok (.iload 5, 2) := by decide +kernel
theorem d_L_law_913 : decode code 913 = .ok (.if_icmp .eq 5, 3) := by decide +kernel
theorem d_L_law_916 : decode code 916 = .ok (.iconst 0, 1) := by decide +kernel
theorem d_L_law_917 : decode code 917 = .ok (.ireturn, 1) := by decide +kernel
theorem d_L_law_918 : decode code 918 = .ok (.iload 5, 2) := by decide +kernel
theorem d_L_law_920 : decode code 920 = .ok (.ifCond .ne 15, 3) := by decide +kernel
theorem d_L_law_923 : decode code 923 = .ok (.aload_n 3, 1) := by decide +kernel
theorem d_L_law_924 : decode code 924 = .ok (.iconst 0, 1) := by decide +kernel
theorem d_L_law_925 : decode code 925 = .ok (.laload, 1) := by decide +kernel
theorem d_L_law_926 : decode code 926 = .ok (.iload 6, 2) := by decide +kernel
theorem d_L_law_928 : decode code 928 = .ok (.i2l, 1) := by decide +kernel
theorem d_L_law_929 : decode code 929 = .ok (.lcmp, 1) := by decide +kernel
theorem d_L_law_930 : decode code 930 = .ok (.ifCond .eq 5, 3) := by decide +kernel
theorem d_L_law_933 : decode code 933 = .ok (.iconst 0, 1) := by decide +kernel
theorem d_L_law_934 : decode code 934 = .ok (.ireturn, 1) := by decide +kernel
theorem d_L_law_935 : decode code 935 = .ok (.goto 150, 3) := by decide +kernel
theorem d_L_law_938 : decode code 938 = .ok (.aload_n 1, 1) := by decide +kernel
theorem d_L_law_939 : decode code 939 = .ok (.aload_n 0, 1) := by decide +kernel
theorem d_L_law_940 : decode code 940 = .ok (.iload 4, 2) := by decide +kernel
theorem d_L_law_942 : decode code 942 = .ok (.iconst 1, 1) := by decide +kernel
theorem d_L_law_943 : decode code 943 = .ok (.iadd, 1) := by decide +kernel
theorem d_L_law_944 : decode code 944 = .ok (.iaload, 1) := by decide +kernel
theorem d_L_law_945 : decode code 945 = .ok (.aload_n 0, 1) := by decide +kernel
theorem d_L_law_946 : decode code 946 = .ok (.iload 4, 2) := by decide +kernel
theorem d_L_law_948 : decode code 948 = .ok (.iconst 2, 1) := by decide +kernel
theorem d_L_law_949 : decode code 949 = .ok (.iadd, 1) := by decide +kernel
theorem d_L_law_950 : decode code 950 = .ok (.iaload, 1) := by decide +kernel
theorem d_L_law_951 : decode code 951 = .ok (.invokevirtual 120, 3) := by decide +kernel
theorem d_L_law_954 : decode code 954 = .ok (.aload_n 2, 1) := by decide +kernel
theorem d_L_law_955 : decode code 955 = .ok (.aload_n 0, 1) := by decide +kernel
theorem d_L_law_956 : decode code 956 = .ok (.iload 4, 2) := by decide +kernel
theorem d_L_law_958 : decode code 958 = .ok (.iconst 1, 1) := by decide +kernel
theorem d_L_law_959 : decode code 959 = .ok (.iadd, 1) := by decide +kernel
theorem d_L_law_960 : decode code 960 = .ok (.iaload, 1) := by decide +kernel
theorem d_L_law_961 : decode code 961 = .ok (.aload_n 0, 1) := by decide +kernel
theorem d_L_law_962 : decode code 962 = .ok (.iload 4, 2) := by decide +kernel
theorem d_L_law_964 : decode code 964 = .ok (.iconst 2, 1) := by decide +kernel
theorem d_L_law_965 : decode code 965 = .ok (.iadd, 1) := by decide +kernel
theorem d_L_law_966 : decode code 966 = .ok (.iaload, 1) := by decide +kernel
theorem d_L_law_967 : decode code 967 = .ok (.invokevirtual 123, 3) := by decide +kernel
theorem d_L_law_970 : decode code 970 = .ok (.if_icmp .eq 115, 3) := by decide +kernel
theorem d_L_law_973 : decode code 973 = .ok (.iconst 0, 1) := by decide +kernel
theorem d_L_law_974 : decode code 974 = .ok (.ireturn, 1) := by decide +kernel
theorem d_L_law_975 : decode code 975 = .ok (.aload_n 1, 1) := by decide +kernel
theorem d_L_law_976 : decode code 976 = .ok (.aload_n 0, 1) := by decide +kernel
theorem d_L_law_977 : decode code 977 = .ok (.iload 4, 2) := by decide +kernel
theorem d_L_law_979 : decode code 979 = .ok (.iconst 1, 1) := by decide +kernel
theorem d_L_law_980 : decode code 980 = .ok (.iadd, 1) := by decide +kernel
theorem d_L_law_981 : decode code 981 = .ok (.iaload, 1) := by decide +kernel
theorem d_L_law_982 : decode code 982 = .ok (.aload_n 0, 1) := by decide +kernel
theorem d_L_law_983 : decode code 983 = .ok (.iload 4, 2) := by decide +kernel
theorem d_L_law_985 : decode code 985 = .ok (.iconst 2, 1) := by decide +kernel
theorem d_L_law_986 : decode code 986 = .ok (.iadd, 1) := by decide +kernel
theorem d_L_law_987 : decode code 987 = .ok (.iaload, 1) := by decide +kernel
theorem d_L_law_988 : decode code 988 = .ok (.aload_n 0, 1) := by decide +kernel
theorem d_L_law_989 : decode code 989 = .ok (.iload 4, 2) := by decide +kernel
theorem d_L_law_991 : decode code 991 = .ok (.iconst 3, 1) := by decide +kernel
theorem d_L_law_992 : decode code 992 = .ok (.iadd, 1) := by decide +kernel
theorem d_L_law_993 : decode code 993 = .ok (.iaload, 1) := by decide +kernel
theorem d_L_law_994 : decode code 994 = .ok (.invokevirtual 124, 3) := by decide +kernel
theorem d_L_law_997 : decode code 997 = .ok (.aload_n 2, 1) := by decide +kernel
theorem d_L_law_998 : decode code 998 = .ok (.aload_n 0, 1) := by decide +kernel
theorem d_L_law_999 : decode code 999 = .ok (.iload 4, 2) := by decide +kernel
theorem d_L_law_1001 : decode code 1001 = .ok (.iconst 1, 1) := by decide +kernel
theorem d_L_law_1002 : decode code 1002 = .ok (.iadd, 1) := by decide +kernel
theorem d_L_law_1003 : decode code 1003 = .ok (.iaload, 1) := by decide +kernel
theorem d_L_law_1004 : decode code 1004 = .ok (.aload_n 0, 1) := by decide +kernel
theorem d_L_law_1005 : decode code 1005 = .ok (.iload 4, 2) := by decide +kernel
theorem d_L_law_1007 : decode code 1007 = .ok (.iconst 2, 1) := by decide +kernel
theorem d_L_law_1008 : decode code 1008 = .ok (.iadd, 1) := by decide +kernel
theorem d_L_law_1009 : decode code 1009 = .ok (.iaload, 1) := by decide +kernel
theorem d_L_law_1010 : decode code 1010 = .ok (.aload_n 0, 1) := by decide +kernel
theorem d_L_law_1011 : decode code 1011 = .ok (.iload 4, 2) := by decide +kernel
theorem d_L_law_1013 : decode code 1013 = .ok (.iconst 3, 1) := by decide +kernel
theorem d_L_law_1014 : decode code 1014 = .ok (.iadd, 1) := by decide +kernel
theorem d_L_law_1015 : decode code 1015 = .ok (.iaload, 1) := by decide +kernel
theorem d_L_law_1016 : decode code 1016 = .ok (.invokevirtual 127, 3) := by decide +kernel
theorem d_L_law_1019 : decode code 1019 = .ok (.if_icmp .eq 66, 3) := by decide +kernel
theorem d_L_law_1022 : decode code 1022 = .ok (.iconst 0, 1) := by decide +kernel
theorem d_L_law_1023 : decode code 1023 = .ok (.ireturn, 1) := by decide +kernel
theorem d_L_law_1024 : decode code 1024 = .ok (.aload_n 1, 1) := by decide +kernel
theorem d_L_law_1025 : decode code 1025 = .ok (.aload_n 0, 1) := by decide +kernel
theorem d_L_law_1026 : decode code 1026 = .ok (.iload 4, 2) := by decide +kernel
theorem d_L_law_1028 : decode code 1028 = .ok (.iconst 1, 1) := by decide +kernel
theorem d_L_law_1029 : decode code 1029 = .ok (.iadd, 1) := by decide +kernel
theorem d_L_law_1030 : decode code 1030 = .ok (.iaload, 1) := by decide +kernel
theorem d_L_law_1031 : decode code 1031 = .ok (.aload_n 0, 1) := by decide +kernel
theorem d_L_law_1032 : decode code 1032 = .ok (.iload 4, 2) := by decide +kernel
theorem d_L_law_1034 : decode code 1034 = .ok (.iconst 2, 1) := by decide +kernel
theorem d_L_law_1035 : decode code 1035 = .ok (.iadd, 1) := by decide +kernel
theorem d_L_law_1036 : decode code 1036 = .ok (.iaload, 1) := by decide +kernel
theorem d_L_law_1037 : decode code 1037 = .ok (.aload_n 0, 1) := by decide +kernel
theorem d_L_law_1038 : decode code 1038 = .ok (.iload 4, 2) := by decide +kernel
theorem d_L_law_1040 : decode code 1040 = .ok (.iconst 3, 1) := by decide +kernel
theorem d_L_law_1041 : decode code 1041 = .ok (.iadd, 1) := by decide +kernel
theorem d_L_law_1042 : decode code 1042 = .ok (.iaload, 1) := by decide +kernel
theorem d_L_law_1043 : decode code 1043 = .ok (.aload_n 0, 1) := by decide +kernel
theorem d_L_law_1044 : decode code 1044 = .ok (.iload 4, 2) := by decide +kernel
theorem d_L_law_1046 : decode code 1046 = .ok (.iconst 4, 1) := by decide +kernel
theorem d_L_law_1047 : decode code 1047 = .ok (.iadd, 1) := by decide +kernel
theorem d_L_law_1048 : decode code 1048 = .ok (.iaload, 1) := by decide +kernel
theorem d_L_law_1049 : decode code 1049 = .ok (.invokevirtual 128, 3) := by decide +kernel
theorem d_L_law_1052 : decode code 1052 = .ok (.aload_n 2, 1) := by decide +kernel
theorem d_L_law_1053 : decode code 1053 = .ok (.aload_n 0, 1) := by decide +kernel
theorem d_L_law_1054 : decode code 1054 = .ok (.iload 4, 2) := by decide +kernel
theorem d_L_law_1056 : decode code 1056 = .ok (.iconst 1, 1) := by decide +kernel
theorem d_L_law_1057 : decode code 1057 = .ok (.iadd, 1) := by decide +kernel
theorem d_L_law_1058 : decode code 1058 = .ok (.iaload, 1) := by decide +kernel
theorem d_L_law_1059 : decode code 1059 = .ok (.aload_n 0, 1) := by decide +kernel
theorem d_L_law_1060 : decode code 1060 = .ok (.iload 4, 2) := by decide +kernel
theorem d_L_law_1062 : decode code 1062 = .ok (.iconst 2, 1) := by decide +kernel
theorem d_L_law_1063 : decode code 1063 = .ok (.iadd, 1) := by decide +kernel
theorem d_L_law_1064 : decode code 1064 = .ok (.iaload, 1) := by decide +kernel
theorem d_L_law_1065 : decode code 1065 = .ok (.aload_n 0, 1) := by decide +kernel
theorem d_L_law_1066 : decode code 1066 = .ok (.iload 4, 2) := by decide +kernel
theorem d_L_law_1068 : decode code 1068 = .ok (.iconst 3, 1) := by decide +kernel
theorem d_L_law_1069 : decode code 1069 = .ok (.iadd, 1) := by decide +kernel
theorem d_L_law_1070 : decode code 1070 = .ok (.iaload, 1) := by decide +kernel
theorem d_L_law_1071 : decode code 1071 = .ok (.aload_n 0, 1) := by decide +kernel
theorem d_L_law_1072 : decode code 1072 = .ok (.iload 4, 2) := by decide +kernel
theorem d_L_law_1074 : decode code 1074 = .ok (.iconst 4, 1) := by decide +kernel
theorem d_L_law_1075 : decode code 1075 = .ok (.iadd, 1) := by decide +kernel
theorem d_L_law_1076 : decode code 1076 = .ok (.iaload, 1) := by decide +kernel
theorem d_L_law_1077 : decode code 1077 = .ok (.invokevirtual 132, 3) := by decide +kernel
theorem d_L_law_1080 : decode code 1080 = .ok (.if_icmp .eq 5, 3) := by decide +kernel
theorem d_L_law_1083 : decode code 1083 = .ok (.iconst 0, 1) := by decide +kernel
theorem d_L_law_1084 : decode code 1084 = .ok (.ireturn, 1) := by decide +kernel
theorem d_L_law_1085 : decode code 1085 = .ok (.iinc 4 5, 3) := by decide +kernel
theorem d_L_law_1088 : decode code 1088 = .ok (.goto (-1065), 3) := by decide +kernel
theorem d_L_law_1091 : decode code 1091 = .ok (.iconst 1, 1) := by decide +kernel
theorem d_L_law_1092 : decode code 1092 = .ok (.ireturn, 1) := by decide +kernel
theorem ik_16_32 : Ik "TaskWeaveLaw" 32 0 Y_X10_init := ⟨yk_X10_init, rfl, by decide +kernel, rfl, by decide +kernel⟩
theorem ik_16_35 : Ik "TaskWeaveLaw" 35 0 Y_X11_init := ⟨yk_X11_init, rfl, by decide +kernel, rfl, by decide +kernel⟩
theorem vk_16_38 : Vk "TaskWeaveLaw" 38 2 11 Y_X10_type := ⟨yk_X10_type, by decide +kernel, by decide +kernel, by decide +kernel, by decide⟩
theorem vk_16_42 : Vk "TaskWeaveLaw" 42 2 12 Y_X11_type := ⟨yk_X11_type, by decide +kernel, by decide +kernel, by decide +kernel, by decide⟩
theorem vk_16_48 : Vk "TaskWeaveLaw" 48 1 12 Y_X11_program := ⟨yk_X11_program, by decide +kernel, by decide +kernel, by decide +kernel, by decide⟩
theorem vk_16_49 : Vk "TaskWeaveLaw" 49 0 12 Y_X11_thrown := ⟨yk_X11_thrown, by decide +kernel, by decide +kernel, by decide +kernel, by decide⟩
theorem vk_16_53 : Vk "TaskWeaveLaw" 53 0 11 Y_X10_fault := ⟨yk_X10_fault, by decide +kernel, by decide +kernel, by decide +kernel, by decide⟩
theorem vk_16_56 : Vk "TaskWeaveLaw" 56 0 12 Y_X11_fault := ⟨yk_X11_fault, by decide +kernel, by decide +kernel, by decide +kernel, by decide⟩
theorem vk_16_57 : Vk "TaskWeaveLaw" 57 3 11 Y_X10_start := ⟨yk_X10_start, by decide +kernel, by decide +kernel, by decide +kernel, by decide⟩
theorem vk_16_60 : Vk "TaskWeaveLaw" 60 3 12 Y_X11_start := ⟨yk_X11_start, by decide +kernel, by decide +kernel, by decide +kernel, by decide⟩
theorem vk_16_61 : Vk "TaskWeaveLaw" 61 3 11 Y_X10_signal := ⟨yk_X10_signal, by decide +kernel, by decide +kernel, by decide +kernel, by decide⟩
theorem vk_16_65 : Vk "TaskWeaveLaw" 65 3 12 Y_X11_signal := ⟨yk_X11_signal, by decide +kernel, by decide +kernel, by decide +kernel, by decide⟩
theorem vk_16_66 : Vk "TaskWeaveLaw" 66 1 11 Y_X10_cancel := ⟨yk_X10_cancel, by decide +kernel, by decide +kernel, by decide +kernel, by decide⟩
theorem vk_16_70 : Vk "TaskWeaveLaw" 70 1 12 Y_X11_cancel := ⟨yk_X11_cancel, by decide +kernel, by decide +kernel, by decide +kernel, by decide⟩
theorem vk_16_74 : Vk "TaskWeaveLaw" 74 2 12 Y_X11_query := ⟨yk_X11_query, by decide +kernel, by decide +kernel, by decide +kernel, by decide⟩
theorem vk_16_75 : Vk "TaskWeaveLaw" 75 1 11 Y_X10_poll := ⟨yk_X10_poll, by decide +kernel, by decide +kernel, by decide +kernel, by decide⟩
theorem vk_16_78 : Vk "TaskWeaveLaw" 78 1 12 Y_X11_poll := ⟨yk_X11_poll, by decide +kernel, by decide +kernel, by decide +kernel, by decide⟩
theorem vk_16_79 : Vk "TaskWeaveLaw" 79 1 11 Y_X10_beat := ⟨yk_X10_beat, by decide +kernel, by decide +kernel, by decide +kernel, by decide⟩
theorem vk_16_82 : Vk "TaskWeaveLaw" 82 1 12 Y_X11_beat := ⟨yk_X11_beat, by decide +kernel, by decide +kernel, by decide +kernel, by decide⟩
theorem vk_16_83 : Vk "TaskWeaveLaw" 83 2 11 Y_X10_finish := ⟨yk_X10_finish, by decide +kernel, by decide +kernel, by decide +kernel, by decide⟩
theorem vk_16_87 : Vk "TaskWeaveLaw" 87 2 12 Y_X11_finish := ⟨yk_X11_finish, by decide +kernel, by decide +kernel, by decide +kernel, by decide⟩
theorem vk_16_88 : Vk "TaskWeaveLaw" 88 1 11 Y_X10_fail := ⟨yk_X10_fail, by decide +kernel, by decide +kernel, by decide +kernel, by decide⟩
theorem vk_16_91 : Vk "TaskWeaveLaw" 91 1 12 Y_X11_fail := ⟨yk_X11_fail, by decide +kernel, by decide +kernel, by decide +kernel, by decide⟩
theorem vk_16_92 : Vk "TaskWeaveLaw" 92 2 11 Y_X10_task := ⟨yk_X10_task, by decide +kernel, by decide +kernel, by decide +kernel, by decide⟩
theorem vk_16_95 : Vk "TaskWeaveLaw" 95 2 12 Y_X11_task := ⟨yk_X11_task, by decide +kernel, by decide +kernel, by decide +kernel, by decide⟩
theorem vk_16_98 : Vk "TaskWeaveLaw" 98 1 12 Y_X11_tick := ⟨yk_X11_tick, by decide +kernel, by decide +kernel, by decide +kernel, by decide⟩
theorem vk_16_99 : Vk "TaskWeaveLaw" 99 2 11 Y_X10_replicas := ⟨yk_X10_replicas, by decide +kernel, by decide +kernel, by decide +kernel, by decide⟩
theorem vk_16_102 : Vk "TaskWeaveLaw" 102 2 12 Y_X11_replicas := ⟨yk_X11_replicas, by decide +kernel, by decide +kernel, by decide +kernel, by decide⟩
theorem vk_16_108 : Vk "TaskWeaveLaw" 108 3 11 Y_X10_fuse := ⟨yk_X10_fuse, by decide +kernel, by decide +kernel, by decide +kernel, by decide⟩
theorem vk_16_111 : Vk "TaskWeaveLaw" 111 3 12 Y_X11_fuse := ⟨yk_X11_fuse, by decide +kernel, by decide +kernel, by decide +kernel, by decide⟩
theorem vk_16_112 : Vk "TaskWeaveLaw" 112 2 11 Y_X10_workflow := ⟨yk_X10_workflow, by decide +kernel, by decide +kernel, by decide +kernel, by decide⟩
theorem vk_16_115 : Vk "TaskWeaveLaw" 115 2 12 Y_X11_workflow := ⟨yk_X11_workflow, by decide +kernel, by decide +kernel, by decide +kernel, by decide⟩
theorem vk_16_119 : Vk "TaskWeaveLaw" 119 3 12 Y_X11_event_ := ⟨yk_X11_event_, by decide +kernel, by decide +kernel, by decide +kernel, by decide⟩
theorem vk_16_120 : Vk "TaskWeaveLaw" 120 2 11 Y_X10_shard := ⟨yk_X10_shard, by decide +kernel, by decide +kernel, by decide +kernel, by decide⟩
theorem vk_16_123 : Vk "TaskWeaveLaw" 123 2 12 Y_X11_shard := ⟨yk_X11_shard, by decide +kernel, by decide +kernel, by decide +kernel, by decide⟩
theorem vk_16_124 : Vk "TaskWeaveLaw" 124 3 11 Y_X10_replica := ⟨yk_X10_replica, by decide +kernel, by decide +kernel, by decide +kernel, by decide⟩
theorem vk_16_127 : Vk "TaskWeaveLaw" 127 3 12 Y_X11_replica := ⟨yk_X11_replica, by decide +kernel, by decide +kernel, by decide +kernel, by decide⟩
theorem vk_16_128 : Vk "TaskWeaveLaw" 128 4 11 Y_X10_disk := ⟨yk_X10_disk, by decide +kernel, by decide +kernel, by decide +kernel, by decide⟩
theorem vk_16_132 : Vk "TaskWeaveLaw" 132 4 12 Y_X11_disk := ⟨yk_X11_disk, by decide +kernel, by decide +kernel, by decide +kernel, by decide⟩
theorem vk_16_103 : Vk "TaskWeaveLaw" 103 3 11 Y_X10_power := ⟨yk_X10_power, by decide +kernel, by decide +kernel, by decide +kernel, by decide⟩
theorem vk_16_107 : Vk "TaskWeaveLaw" 107 3 12 Y_X11_power := ⟨yk_X11_power, by decide +kernel, by decide +kernel, by decide +kernel, by decide⟩
def f_L_law_1085 (SL : Nat) (xs : Nat → Int32) (K23 : Nat → Nat → Nat → Nat → Int32 → Hp → Option (Int32 × Hp)) (l0 : Nat) (l1 : Nat) (l2 : Nat) (l3 : Nat) (l4 : Int32) (h : Hp) : Option (Int32 × Hp) := bh ((l4) + (5 : Int32)) (fun x242 => K23 (l0) (l1) (l2) (l3) (x242) (h))
theorem f_L_law_1085_ok {G : Gd} {d : Nat} (SL : Nat) (xs : Nat → Int32) (hX : va_X (gX G 1) SL xs (g0 G) (g0 G).heap) (K23 : Nat → Nat → Nat → Nat → Int32 → Hp → Option (Int32 × Hp)) (hj : 651 ≤ d) (hK23 : ∀ (l0 : Nat) (l1 : Nat) (l2 : Nat) (l3 : Nat) (l4 : Int32) (L : List (Nat × Value)) (h : Hp) (o : (Int32 × Hp)), zlk L 0 = some (zrf (l0)) → zlk L 1 = some (zrf (l1)) → zlk L 2 = some (zrf (l2)) → zlk L 3 = some (zrf (l3)) → zlk L 4 = some (.int (l4)) → K23 l0 l1 l2 l3 l4 h = some o → Ev G M_L_law d 23 L [] h (Ret Y_L_law (some (.int o.1)) o.2)) : ∀ (l0 : Nat) (l1 : Nat) (l2 : Nat) (l3 : Nat) (l4 : Int32) (L : List (Nat × Value)) (h : Hp) (o : (Int32 × Hp)), zlk L 0 = some (zrf (l0)) → zlk L 1 = some (zrf (l1)) → zlk L 2 = some (zrf (l2)) → zlk L 3 = some (zrf (l3)) → zlk L 4 = some (.int (l4)) → f_L_law_1085 SL xs K23 l0 l1 l2 l3 l4 h = some o → Ev G M_L_law d 1085 L [] h (Ret Y_L_law (some (.int o.1)) o.2) := by
  intro l0 l1 l2 l3 l4 L h o g0 g1 g2 g3 g4 e
  unfold f_L_law_1085 at e
  replace e := bhd e
  obtain ⟨_, rfl, e⟩ := e
  refine s_iinc d_L_law_1085 g4 (w := (5 : Int32)) (by decide +kernel) (by decide) (fun L g4 gK => ?_)
  replace g0 := gK _ _ (by decide) (Or.inr (zrf_cat _)) g0
  replace g1 := gK _ _ (by decide) (Or.inr (zrf_cat _)) g1
  replace g2 := gK _ _ (by decide) (Or.inr (zrf_cat _)) g2
  replace g3 := gK _ _ (by decide) (Or.inr (zrf_cat _)) g3
  refine r_goto d_L_law_1088 (tgt := 23) (by decide) ?_
  exact hK23 _ _ _ _ _ _ _ _ g0 g1 g2 g3 g4 e

def f_L_law_258 (SL : Nat) (xs : Nat → Int32) (K23 : Nat → Nat → Nat → Nat → Int32 → Hp → Option (Int32 × Hp)) (l0 : Nat) (l1 : Nat) (l2 : Nat) (l3 : Nat) (l4 : Int32) (h : Hp) : Option (Int32 × Hp) := f_L_law_1085 SL xs K23 (l0) (l1) (l2) (l3) (l4) (h)
theorem f_L_law_258_ok {G : Gd} {d : Nat} (SL : Nat) (xs : Nat → Int32) (hX : va_X (gX G 1) SL xs (g0 G) (g0 G).heap) (K23 : Nat → Nat → Nat → Nat → Int32 → Hp → Option (Int32 × Hp)) (hj : 651 ≤ d) (hK23 : ∀ (l0 : Nat) (l1 : Nat) (l2 : Nat) (l3 : Nat) (l4 : Int32) (L : List (Nat × Value)) (h : Hp) (o : (Int32 × Hp)), zlk L 0 = some (zrf (l0)) → zlk L 1 = some (zrf (l1)) → zlk L 2 = some (zrf (l2)) → zlk L 3 = some (zrf (l3)) → zlk L 4 = some (.int (l4)) → K23 l0 l1 l2 l3 l4 h = some o → Ev G M_L_law d 23 L [] h (Ret Y_L_law (some (.int o.1)) o.2)) : ∀ (l0 : Nat) (l1 : Nat) (l2 : Nat) (l3 : Nat) (l4 : Int32) (L : List (Nat × Value)) (h : Hp) (o : (Int32 × Hp)), zlk L 0 = some (zrf (l0)) → zlk L 1 = some (zrf (l1)) → zlk L 2 = some (zrf (l2)) → zlk L 3 = some (zrf (l3)) → zlk L 4 = some (.int (l4)) → f_L_law_258 SL xs K23 l0 l1 l2 l3 l4 h = some o → Ev G M_L_law d 258 L [] h (Ret Y_L_law (some (.int o.1)) o.2) := by
  intro l0 l1 l2 l3 l4 L h o g0 g1 g2 g3 g4 e
  unfold f_L_law_258 at e
  refine r_goto d_L_law_258 (tgt := 1085) (by decide) ?_
  exact f_L_law_1085_ok SL xs hX _ hj hK23 _ _ _ _ _ _ _ _ g0 g1 g2 g3 g4 e

def f_L_law_462 (SL : Nat) (xs : Nat → Int32) (K23 : Nat → Nat → Nat → Nat → Int32 → Hp → Option (Int32 × Hp)) (l0 : Nat) (l1 : Nat) (l2 : Nat) (l3 : Nat) (l4 : Int32) (h : Hp) : Option (Int32 × Hp) := f_L_law_1085 SL xs K23 (l0) (l1) (l2) (l3) (l4) (h)
theorem f_L_law_462_ok {G : Gd} {d : Nat} (SL : Nat) (xs : Nat → Int32) (hX : va_X (gX G 1) SL xs (g0 G) (g0 G).heap) (K23 : Nat → Nat → Nat → Nat → Int32 → Hp → Option (Int32 × Hp)) (hj : 651 ≤ d) (hK23 : ∀ (l0 : Nat) (l1 : Nat) (l2 : Nat) (l3 : Nat) (l4 : Int32) (L : List (Nat × Value)) (h : Hp) (o : (Int32 × Hp)), zlk L 0 = some (zrf (l0)) → zlk L 1 = some (zrf (l1)) → zlk L 2 = some (zrf (l2)) → zlk L 3 = some (zrf (l3)) → zlk L 4 = some (.int (l4)) → K23 l0 l1 l2 l3 l4 h = some o → Ev G M_L_law d 23 L [] h (Ret Y_L_law (some (.int o.1)) o.2)) : ∀ (l0 : Nat) (l1 : Nat) (l2 : Nat) (l3 : Nat) (l4 : Int32) (L : List (Nat × Value)) (h : Hp) (o : (Int32 × Hp)), zlk L 0 = some (zrf (l0)) → zlk L 1 = some (zrf (l1)) → zlk L 2 = some (zrf (l2)) → zlk L 3 = some (zrf (l3)) → zlk L 4 = some (.int (l4)) → f_L_law_462 SL xs K23 l0 l1 l2 l3 l4 h = some o → Ev G M_L_law d 462 L [] h (Ret Y_L_law (some (.int o.1)) o.2) := by
  intro l0 l1 l2 l3 l4 L h o g0 g1 g2 g3 g4 e
  unfold f_L_law_462 at e
  refine r_goto d_L_law_462 (tgt := 1085) (by decide) ?_
  exact f_L_law_1085_ok SL xs hX _ hj hK23 _ _ _ _ _ _ _ _ g0 g1 g2 g3 g4 e

def f_L_law_667 (SL : Nat) (xs : Nat → Int32) (K23 : Nat → Nat → Nat → Nat → Int32 → Hp → Option (Int32 × Hp)) (l0 : Nat) (l1 : Nat) (l2 : Nat) (l3 : Nat) (l4 : Int32) (h : Hp) : Option (Int32 × Hp) := f_L_law_1085 SL xs K23 (l0) (l1) (l2) (l3) (l4) (h)
theorem f_L_law_667_ok {G : Gd} {d : Nat} (SL : Nat) (xs : Nat → Int32) (hX : va_X (gX G 1) SL xs (g0 G) (g0 G).heap) (K23 : Nat → Nat → Nat → Nat → Int32 → Hp → Option (Int32 × Hp)) (hj : 651 ≤ d) (hK23 : ∀ (l0 : Nat) (l1 : Nat) (l2 : Nat) (l3 : Nat) (l4 : Int32) (L : List (Nat × Value)) (h : Hp) (o : (Int32 × Hp)), zlk L 0 = some (zrf (l0)) → zlk L 1 = some (zrf (l1)) → zlk L 2 = some (zrf (l2)) → zlk L 3 = some (zrf (l3)) → zlk L 4 = some (.int (l4)) → K23 l0 l1 l2 l3 l4 h = some o → Ev G M_L_law d 23 L [] h (Ret Y_L_law (some (.int o.1)) o.2)) : ∀ (l0 : Nat) (l1 : Nat) (l2 : Nat) (l3 : Nat) (l4 : Int32) (L : List (Nat × Value)) (h : Hp) (o : (Int32 × Hp)), zlk L 0 = some (zrf (l0)) → zlk L 1 = some (zrf (l1)) → zlk L 2 = some (zrf (l2)) → zlk L 3 = some (zrf (l3)) → zlk L 4 = some (.int (l4)) → f_L_law_667 SL xs K23 l0 l1 l2 l3 l4 h = some o → Ev G M_L_law d 667 L [] h (Ret Y_L_law (some (.int o.1)) o.2) := by
  intro l0 l1 l2 l3 l4 L h o g0 g1 g2 g3 g4 e
  unfold f_L_law_667 at e
  refine r_goto d_L_law_667 (tgt := 1085) (by decide) ?_
  exact f_L_law_1085_ok SL xs hX _ hj hK23 _ _ _ _ _ _ _ _ g0 g1 g2 g3 g4 e

def f_L_law_764 (SL : Nat) (xs : Nat → Int32) (K23 : Nat → Nat → Nat → Nat → Int32 → Hp → Option (Int32 × Hp)) (s0 : Int32) (s1 : Nat) (s2 : Int32) (s3 : Int32) (s4 : Int32) (l0 : Nat) (l1 : Nat) (l2 : Nat) (l3 : Nat) (l4 : Int32) (h : Hp) : Option (Int32 × Hp) := ck (isO (h) (s1) 12) ((f_X11_power (s1) (s2) (s3) (s4) (h)).bind (fun q250 => if (s0) = (q250.1) then (f_L_law_1085 SL xs K23 (l0) (l1) (l2) (l3) (l4) (q250.2)) else (some ((0 : Int32), q250.2))))
theorem f_L_law_764_ok {G : Gd} {d : Nat} (SL : Nat) (xs : Nat → Int32) (hX : va_X (gX G 1) SL xs (g0 G) (g0 G).heap) (K23 : Nat → Nat → Nat → Nat → Int32 → Hp → Option (Int32 × Hp)) (hj : 651 ≤ d) (hK23 : ∀ (l0 : Nat) (l1 : Nat) (l2 : Nat) (l3 : Nat) (l4 : Int32) (L : List (Nat × Value)) (h : Hp) (o : (Int32 × Hp)), zlk L 0 = some (zrf (l0)) → zlk L 1 = some (zrf (l1)) → zlk L 2 = some (zrf (l2)) → zlk L 3 = some (zrf (l3)) → zlk L 4 = some (.int (l4)) → K23 l0 l1 l2 l3 l4 h = some o → Ev G M_L_law d 23 L [] h (Ret Y_L_law (some (.int o.1)) o.2)) : ∀ (s0 : Int32) (s1 : Nat) (s2 : Int32) (s3 : Int32) (s4 : Int32) (l0 : Nat) (l1 : Nat) (l2 : Nat) (l3 : Nat) (l4 : Int32) (L : List (Nat × Value)) (h : Hp) (o : (Int32 × Hp)), zlk L 0 = some (zrf (l0)) → zlk L 1 = some (zrf (l1)) → zlk L 2 = some (zrf (l2)) → zlk L 3 = some (zrf (l3)) → zlk L 4 = some (.int (l4)) → f_L_law_764 SL xs K23 s0 s1 s2 s3 s4 l0 l1 l2 l3 l4 h = some o → Ev G M_L_law d 764 L [.int (s4), .int (s3), .int (s2), zrf (s1), .int (s0)] h (Ret Y_L_law (some (.int o.1)) o.2) := by
  intro s0 s1 s2 s3 s4 l0 l1 l2 l3 l4 L h o g0 g1 g2 g3 g4 e
  unfold f_L_law_764 at e
  replace e := ckd e
  obtain ⟨k251, e⟩ := e
  replace e := bd e
  obtain ⟨q250, eq250, e⟩ := e
  refine g_callV d_L_law_764 vk_16_107 (as := [_, _, _]) rfl k251 rfl (by simp [zrf_cat, cat_int, cat_long]) (j := 641) (by omega) (c_X11_power (by omega) eq250) ?_
  refine r_icmp_eq d_L_law_767 (tgt := 1085) (by decide) (fun c252 => ?_) (fun c252 => ?_)
  · replace e := (if_pos c252).symm.trans e
    exact f_L_law_1085_ok SL xs hX _ hj hK23 _ _ _ _ _ _ _ _ g0 g1 g2 g3 g4 e
  · replace e := (if_neg c252).symm.trans e
    refine r_iconst d_L_law_770 (v := (0 : Int32)) (by decide +kernel) ?_
    obtain rfl := Option.some.inj e
    exact g_iret d_L_law_771 rfl rfl

def f_L_law_734 (SL : Nat) (xs : Nat → Int32) (K23 : Nat → Nat → Nat → Nat → Int32 → Hp → Option (Int32 × Hp)) (s0 : Nat) (s1 : Int32) (s2 : Int32) (s3 : Int32) (l0 : Nat) (l1 : Nat) (l2 : Nat) (l3 : Nat) (l4 : Int32) (h : Hp) : Option (Int32 × Hp) := ck (isO (h) (s0) 11) ((f_X10_power (s0) (s1) (s2) (s3) (h)).bind (fun q243 => ck (l0 = 1) (ck (inR ((l4) + ((1 : Int32))) SL) (ck (inR ((l4) + ((2 : Int32))) SL) (ck (inR ((l4) + ((3 : Int32))) SL) (if (xs ((l4) + ((3 : Int32))).toNatClampNeg) = (0) then (f_L_law_764 SL xs K23 (q243.1) (l2) (xs ((l4) + ((1 : Int32))).toNatClampNeg) (xs ((l4) + ((2 : Int32))).toNatClampNeg) ((0 : Int32)) (l0) (l1) (l2) (l3) (l4) (q243.2)) else (f_L_law_764 SL xs K23 (q243.1) (l2) (xs ((l4) + ((1 : Int32))).toNatClampNeg) (xs ((l4) + ((2 : Int32))).toNatClampNeg) ((1 : Int32)) (l0) (l1) (l2) (l3) (l4) (q243.2))))))))
theorem f_L_law_734_ok {G : Gd} {d : Nat} (SL : Nat) (xs : Nat → Int32) (hX : va_X (gX G 1) SL xs (g0 G) (g0 G).heap) (K23 : Nat → Nat → Nat → Nat → Int32 → Hp → Option (Int32 × Hp)) (hj : 651 ≤ d) (hK23 : ∀ (l0 : Nat) (l1 : Nat) (l2 : Nat) (l3 : Nat) (l4 : Int32) (L : List (Nat × Value)) (h : Hp) (o : (Int32 × Hp)), zlk L 0 = some (zrf (l0)) → zlk L 1 = some (zrf (l1)) → zlk L 2 = some (zrf (l2)) → zlk L 3 = some (zrf (l3)) → zlk L 4 = some (.int (l4)) → K23 l0 l1 l2 l3 l4 h = some o → Ev G M_L_law d 23 L [] h (Ret Y_L_law (some (.int o.1)) o.2)) : ∀ (s0 : Nat) (s1 : Int32) (s2 : Int32) (s3 : Int32) (l0 : Nat) (l1 : Nat) (l2 : Nat) (l3 : Nat) (l4 : Int32) (L : List (Nat × Value)) (h : Hp) (o : (Int32 × Hp)), zlk L 0 = some (zrf (l0)) → zlk L 1 = some (zrf (l1)) → zlk L 2 = some (zrf (l2)) → zlk L 3 = some (zrf (l3)) → zlk L 4 = some (.int (l4)) → f_L_law_734 SL xs K23 s0 s1 s2 s3 l0 l1 l2 l3 l4 h = some o → Ev G M_L_law d 734 L [.int (s3), .int (s2), .int (s1), zrf (s0)] h (Ret Y_L_law (some (.int o.1)) o.2) := by
  intro s0 s1 s2 s3 l0 l1 l2 l3 l4 L h o g0 g1 g2 g3 g4 e
  unfold f_L_law_734 at e
  replace e := ckd e
  obtain ⟨k244, e⟩ := e
  replace e := bd e
  obtain ⟨q243, eq243, e⟩ := e
  refine g_callV d_L_law_734 vk_16_103 (as := [_, _, _]) rfl k244 rfl (by simp [zrf_cat, cat_int, cat_long]) (j := 7) (by omega) (c_X10_power (by omega) eq243) ?_
  refine g_ald_n d_L_law_737 rfl g2 ?_
  refine g_ald_n d_L_law_738 rfl g0 ?_
  refine r_iload d_L_law_739 g4 ?_
  refine r_iconst d_L_law_741 (v := (1 : Int32)) (by decide +kernel) ?_
  refine r_iadd d_L_law_742 ?_
  replace e := ckd e
  obtain ⟨k245, e⟩ := e
  replace e := ckd e
  obtain ⟨k246, e⟩ := e
  refine g_sld hX d_L_law_743 k245 k246 ?_
  refine g_ald_n d_L_law_744 rfl g0 ?_
  refine r_iload d_L_law_745 g4 ?_
  refine r_iconst d_L_law_747 (v := (2 : Int32)) (by decide +kernel) ?_
  refine r_iadd d_L_law_748 ?_
  replace e := ckd e
  obtain ⟨k247, e⟩ := e
  refine g_sld hX d_L_law_749 k245 k247 ?_
  refine g_ald_n d_L_law_750 rfl g0 ?_
  refine r_iload d_L_law_751 g4 ?_
  refine r_iconst d_L_law_753 (v := (3 : Int32)) (by decide +kernel) ?_
  refine r_iadd d_L_law_754 ?_
  replace e := ckd e
  obtain ⟨k248, e⟩ := e
  refine g_sld hX d_L_law_755 k245 k248 ?_
  refine r_if_eq d_L_law_756 (tgt := 763) (by decide) (fun c249 => ?_) (fun c249 => ?_)
  · replace e := (if_pos c249).symm.trans e
    refine r_iconst d_L_law_763 (v := (0 : Int32)) (by decide +kernel) ?_
    exact f_L_law_764_ok SL xs hX _ hj hK23 _ _ _ _ _ _ _ _ _ _ _ _ _ g0 g1 g2 g3 g4 e
  · replace e := (if_neg c249).symm.trans e
    refine r_iconst d_L_law_759 (v := (1 : Int32)) (by decide +kernel) ?_
    refine r_goto d_L_law_760 (tgt := 764) (by decide) ?_
    exact f_L_law_764_ok SL xs hX _ hj hK23 _ _ _ _ _ _ _ _ _ _ _ _ _ g0 g1 g2 g3 g4 e

def f_L_law_935 (SL : Nat) (xs : Nat → Int32) (K23 : Nat → Nat → Nat → Nat → Int32 → Hp → Option (Int32 × Hp)) (l0 : Nat) (l1 : Nat) (l2 : Nat) (l3 : Nat) (l4 : Int32) (h : Hp) : Option (Int32 × Hp) := f_L_law_1085 SL xs K23 (l0) (l1) (l2) (l3) (l4) (h)
theorem f_L_law_935_ok {G : Gd} {d : Nat} (SL : Nat) (xs : Nat → Int32) (hX : va_X (gX G 1) SL xs (g0 G) (g0 G).heap) (K23 : Nat → Nat → Nat → Nat → Int32 → Hp → Option (Int32 × Hp)) (hj : 651 ≤ d) (hK23 : ∀ (l0 : Nat) (l1 : Nat) (l2 : Nat) (l3 : Nat) (l4 : Int32) (L : List (Nat × Value)) (h : Hp) (o : (Int32 × Hp)), zlk L 0 = some (zrf (l0)) → zlk L 1 = some (zrf (l1)) → zlk L 2 = some (zrf (l2)) → zlk L 3 = some (zrf (l3)) → zlk L 4 = some (.int (l4)) → K23 l0 l1 l2 l3 l4 h = some o → Ev G M_L_law d 23 L [] h (Ret Y_L_law (some (.int o.1)) o.2)) : ∀ (l0 : Nat) (l1 : Nat) (l2 : Nat) (l3 : Nat) (l4 : Int32) (L : List (Nat × Value)) (h : Hp) (o : (Int32 × Hp)), zlk L 0 = some (zrf (l0)) → zlk L 1 = some (zrf (l1)) → zlk L 2 = some (zrf (l2)) → zlk L 3 = some (zrf (l3)) → zlk L 4 = some (.int (l4)) → f_L_law_935 SL xs K23 l0 l1 l2 l3 l4 h = some o → Ev G M_L_law d 935 L [] h (Ret Y_L_law (some (.int o.1)) o.2) := by
  intro l0 l1 l2 l3 l4 L h o g0 g1 g2 g3 g4 e
  unfold f_L_law_935 at e
  refine r_goto d_L_law_935 (tgt := 1085) (by decide) ?_
  exact f_L_law_1085_ok SL xs hX _ hj hK23 _ _ _ _ _ _ _ _ g0 g1 g2 g3 g4 e

def f_L_law_23 (SL : Nat) (xs : Nat → Int32) : Nat → Nat → Nat → Nat → Nat → Int32 → Hp → Option (Int32 × Hp)
  | 0, _, _, _, _, _, _ => none
  | n + 1, l0, l1, l2, l3, l4, h => ck (l0 = 1) (if ((nI SL) - ((5 : Int32))) < (l4) then (some ((1 : Int32), h)) else (ck (inR (l4) SL) (if ((xs (l4).toNatClampNeg) &&& ((31 : Int32))) = (0 : Int32) then (ck (inR ((l4) + ((1 : Int32))) SL) (ck (inR ((l4) + ((2 : Int32))) SL) (ck (inR ((l4) + ((3 : Int32))) SL) (ck (isO (h) (l1) 11) ((f_X10_type (l1) ((((xs ((l4) + ((1 : Int32))).toNatClampNeg).toInt64) <<< (((32 : Int32)).toInt64 &&& 63)) ||| (((xs ((l4) + ((2 : Int32))).toNatClampNeg).toInt64) &&& ((4294967295 : Int64)))) (xs ((l4) + ((3 : Int32))).toNatClampNeg) (h)).bind (fun q21 => ck (inR ((l4) + ((1 : Int32))) SL) (ck (inR ((l4) + ((2 : Int32))) SL) (ck (inR ((l4) + ((3 : Int32))) SL) (ck (isO (q21.2) (l2) 12) ((f_X11_type (l2) ((((xs ((l4) + ((1 : Int32))).toNatClampNeg).toInt64) <<< (((32 : Int32)).toInt64 &&& 63)) ||| (((xs ((l4) + ((2 : Int32))).toNatClampNeg).toInt64) &&& ((4294967295 : Int64)))) (xs ((l4) + ((3 : Int32))).toNatClampNeg) (q21.2)).bind (fun q26 => if (q21.1) = (q26.1) then (f_L_law_1085 SL xs (f_L_law_23 SL xs n) (l0) (l1) (l2) (l3) (l4) (q26.2)) else (some ((0 : Int32), q26.2))))))))))))) else (if ((xs (l4).toNatClampNeg) &&& ((31 : Int32))) = (1 : Int32) then (ck (inR ((l4) + ((1 : Int32))) SL) ((f_L_program (l1) (xs ((l4) + ((1 : Int32))).toNatClampNeg) (l3) (h)).bind (fun q31 => ck (inR ((l4) + ((1 : Int32))) SL) (ck (isO (q31.2) (l2) 12) ((f_X11_program (l2) (xs ((l4) + ((1 : Int32))).toNatClampNeg) (q31.2)).bind (fun q33 => ck (isO (q33.2) (l2) 12) ((f_X11_thrown (l2) (q33.2)).bind (fun q35 => if (q35.1) = (q31.1) then (if (q31.1) = (0) then (ck (isO (q35.2) (l3) 24) (ck (inR ((0 : Int32)) (zL (q35.2) (l3))) (if (lg_cmp (zX (q35.2) (l3) ((0 : Int32)).toNatClampNeg) ((q33.1).toInt64)) = (0) then (f_L_law_258 SL xs (f_L_law_23 SL xs n) (l0) (l1) (l2) (l3) (l4) (q35.2)) else (some ((0 : Int32), q35.2))))) else (f_L_law_258 SL xs (f_L_law_23 SL xs n) (l0) (l1) (l2) (l3) (l4) (q35.2))) else (some ((0 : Int32), q35.2)))))))))) else (if ((xs (l4).toNatClampNeg) &&& ((31 : Int32))) = (2 : Int32) then (ck (isO (h) (l1) 11) ((f_X10_fault (l1) (h)).bind (fun q43 => ck (isO (q43.2) (l2) 12) ((f_X11_fault (l2) (q43.2)).bind (fun q45 => if (q43.1) = (q45.1) then (f_L_law_1085 SL xs (f_L_law_23 SL xs n) (l0) (l1) (l2) (l3) (l4) (q45.2)) else (some ((0 : Int32), q45.2))))))) else (if ((xs (l4).toNatClampNeg) &&& ((31 : Int32))) = (3 : Int32) then (ck (inR ((l4) + ((1 : Int32))) SL) (ck (inR ((l4) + ((2 : Int32))) SL) (ck (inR ((l4) + ((3 : Int32))) SL) (ck (isO (h) (l1) 11) ((f_X10_start (l1) (xs ((l4) + ((1 : Int32))).toNatClampNeg) (xs ((l4) + ((2 : Int32))).toNatClampNeg) (xs ((l4) + ((3 : Int32))).toNatClampNeg) (h)).bind (fun q52 => ck (inR ((l4) + ((1 : Int32))) SL) (ck (inR ((l4) + ((2 : Int32))) SL) (ck (inR ((l4) + ((3 : Int32))) SL) (ck (isO (q52.2) (l2) 12) ((f_X11_start (l2) (xs ((l4) + ((1 : Int32))).toNatClampNeg) (xs ((l4) + ((2 : Int32))).toNatClampNeg) (xs ((l4) + ((3 : Int32))).toNatClampNeg) (q52.2)).bind (fun q57 => if (q52.1) = (q57.1) then (f_L_law_1085 SL xs (f_L_law_23 SL xs n) (l0) (l1) (l2) (l3) (l4) (q57.2)) else (some ((0 : Int32), q57.2))))))))))))) else (if ((xs (l4).toNatClampNeg) &&& ((31 : Int32))) = (4 : Int32) then (ck (inR ((l4) + ((1 : Int32))) SL) (ck (inR ((l4) + ((2 : Int32))) SL) (ck (inR ((l4) + ((3 : Int32))) SL) (ck (isO (h) (l1) 11) ((f_X10_signal (l1) (xs ((l4) + ((1 : Int32))).toNatClampNeg) (xs ((l4) + ((2 : Int32))).toNatClampNeg) (xs ((l4) + ((3 : Int32))).toNatClampNeg) (h)).bind (fun q64 => ck (inR ((l4) + ((1 : Int32))) SL) (ck (inR ((l4) + ((2 : Int32))) SL) (ck (inR ((l4) + ((3 : Int32))) SL) (ck (isO (q64.2) (l2) 12) ((f_X11_signal (l2) (xs ((l4) + ((1 : Int32))).toNatClampNeg) (xs ((l4) + ((2 : Int32))).toNatClampNeg) (xs ((l4) + ((3 : Int32))).toNatClampNeg) (q64.2)).bind (fun q69 => if (q64.1) = (q69.1) then (f_L_law_1085 SL xs (f_L_law_23 SL xs n) (l0) (l1) (l2) (l3) (l4) (q69.2)) else (some ((0 : Int32), q69.2))))))))))))) else (if ((xs (l4).toNatClampNeg) &&& ((31 : Int32))) = (5 : Int32) then (ck (inR ((l4) + ((1 : Int32))) SL) (ck (isO (h) (l1) 11) ((f_X10_cancel (l1) (xs ((l4) + ((1 : Int32))).toNatClampNeg) (h)).bind (fun q74 => ck (inR ((l4) + ((1 : Int32))) SL) (ck (isO (q74.2) (l2) 12) ((f_X11_cancel (l2) (xs ((l4) + ((1 : Int32))).toNatClampNeg) (q74.2)).bind (fun q77 => if (q74.1) = (q77.1) then (f_L_law_1085 SL xs (f_L_law_23 SL xs n) (l0) (l1) (l2) (l3) (l4) (q77.2)) else (some ((0 : Int32), q77.2))))))))) else (if ((xs (l4).toNatClampNeg) &&& ((31 : Int32))) = (6 : Int32) then (ck (inR ((l4) + ((1 : Int32))) SL) (ck (inR ((l4) + ((2 : Int32))) SL) ((f_L_query (l1) (xs ((l4) + ((1 : Int32))).toNatClampNeg) (xs ((l4) + ((2 : Int32))).toNatClampNeg) (l3) (h)).bind (fun q83 => ck (inR ((l4) + ((1 : Int32))) SL) (ck (inR ((l4) + ((2 : Int32))) SL) (ck (isO (q83.2) (l2) 12) ((f_X11_query (l2) (xs ((l4) + ((1 : Int32))).toNatClampNeg) (xs ((l4) + ((2 : Int32))).toNatClampNeg) (q83.2)).bind (fun q86 => ck (isO (q86.2) (l2) 12) ((f_X11_thrown (l2) (q86.2)).bind (fun q88 => if (q88.1) = (q83.1) then (if (q83.1) = (0) then (ck (isO (q88.2) (l3) 24) (ck (inR ((0 : Int32)) (zL (q88.2) (l3))) (if (lg_cmp (zX (q88.2) (l3) ((0 : Int32)).toNatClampNeg) ((q86.1).toInt64)) = (0) then (f_L_law_462 SL xs (f_L_law_23 SL xs n) (l0) (l1) (l2) (l3) (l4) (q88.2)) else (some ((0 : Int32), q88.2))))) else (f_L_law_462 SL xs (f_L_law_23 SL xs n) (l0) (l1) (l2) (l3) (l4) (q88.2))) else (some ((0 : Int32), q88.2)))))))))))) else (if ((xs (l4).toNatClampNeg) &&& ((31 : Int32))) = (7 : Int32) then (ck (inR ((l4) + ((1 : Int32))) SL) (ck (isO (h) (l1) 11) ((f_X10_poll (l1) (xs ((l4) + ((1 : Int32))).toNatClampNeg) (h)).bind (fun q97 => ck (inR ((l4) + ((1 : Int32))) SL) (ck (isO (q97.2) (l2) 12) ((f_X11_poll (l2) (xs ((l4) + ((1 : Int32))).toNatClampNeg) (q97.2)).bind (fun q100 => if (q97.1) = (q100.1) then (f_L_law_1085 SL xs (f_L_law_23 SL xs n) (l0) (l1) (l2) (l3) (l4) (q100.2)) else (some ((0 : Int32), q100.2))))))))) else (if ((xs (l4).toNatClampNeg) &&& ((31 : Int32))) = (8 : Int32) then (ck (inR ((l4) + ((1 : Int32))) SL) (ck (isO (h) (l1) 11) ((f_X10_beat (l1) (xs ((l4) + ((1 : Int32))).toNatClampNeg) (h)).bind (fun q105 => ck (inR ((l4) + ((1 : Int32))) SL) (ck (isO (q105.2) (l2) 12) ((f_X11_beat (l2) (xs ((l4) + ((1 : Int32))).toNatClampNeg) (q105.2)).bind (fun q108 => if (q105.1) = (q108.1) then (f_L_law_1085 SL xs (f_L_law_23 SL xs n) (l0) (l1) (l2) (l3) (l4) (q108.2)) else (some ((0 : Int32), q108.2))))))))) else (if ((xs (l4).toNatClampNeg) &&& ((31 : Int32))) = (9 : Int32) then (ck (inR ((l4) + ((1 : Int32))) SL) (ck (inR ((l4) + ((2 : Int32))) SL) (ck (isO (h) (l1) 11) ((f_X10_finish (l1) (xs ((l4) + ((1 : Int32))).toNatClampNeg) (xs ((l4) + ((2 : Int32))).toNatClampNeg) (h)).bind (fun q114 => ck (inR ((l4) + ((1 : Int32))) SL) (ck (inR ((l4) + ((2 : Int32))) SL) (ck (isO (q114.2) (l2) 12) ((f_X11_finish (l2) (xs ((l4) + ((1 : Int32))).toNatClampNeg) (xs ((l4) + ((2 : Int32))).toNatClampNeg) (q114.2)).bind (fun q118 => if (q114.1) = (q118.1) then (f_L_law_1085 SL xs (f_L_law_23 SL xs n) (l0) (l1) (l2) (l3) (l4) (q118.2)) else (some ((0 : Int32), q118.2))))))))))) else (if ((xs (l4).toNatClampNeg) &&& ((31 : Int32))) = (10 : Int32) then (ck (inR ((l4) + ((1 : Int32))) SL) (ck (isO (h) (l1) 11) ((f_X10_fail (l1) (xs ((l4) + ((1 : Int32))).toNatClampNeg) (h)).bind (fun q123 => ck (inR ((l4) + ((1 : Int32))) SL) (ck (isO (q123.2) (l2) 12) ((f_X11_fail (l2) (xs ((l4) + ((1 : Int32))).toNatClampNeg) (q123.2)).bind (fun q126 => if (q123.1) = (q126.1) then (f_L_law_1085 SL xs (f_L_law_23 SL xs n) (l0) (l1) (l2) (l3) (l4) (q126.2)) else (some ((0 : Int32), q126.2))))))))) else (if ((xs (l4).toNatClampNeg) &&& ((31 : Int32))) = (11 : Int32) then (ck (inR ((l4) + ((1 : Int32))) SL) (ck (inR ((l4) + ((2 : Int32))) SL) (ck (isO (h) (l1) 11) ((f_X10_task (l1) (xs ((l4) + ((1 : Int32))).toNatClampNeg) (xs ((l4) + ((2 : Int32))).toNatClampNeg) (h)).bind (fun q132 => ck (inR ((l4) + ((1 : Int32))) SL) (ck (inR ((l4) + ((2 : Int32))) SL) (ck (isO (q132.2) (l2) 12) ((f_X11_task (l2) (xs ((l4) + ((1 : Int32))).toNatClampNeg) (xs ((l4) + ((2 : Int32))).toNatClampNeg) (q132.2)).bind (fun q136 => if (q132.1) = (q136.1) then (f_L_law_1085 SL xs (f_L_law_23 SL xs n) (l0) (l1) (l2) (l3) (l4) (q136.2)) else (some ((0 : Int32), q136.2))))))))))) else (if ((xs (l4).toNatClampNeg) &&& ((31 : Int32))) = (12 : Int32) then (ck (inR ((l4) + ((1 : Int32))) SL) ((f_L_tick (l1) (xs ((l4) + ((1 : Int32))).toNatClampNeg) (l3) (h)).bind (fun q141 => ck (inR ((l4) + ((1 : Int32))) SL) (ck (isO (q141.2) (l2) 12) ((f_X11_tick (l2) (xs ((l4) + ((1 : Int32))).toNatClampNeg) (q141.2)).bind (fun q143 => ck (isO (q143.2) (l2) 12) ((f_X11_thrown (l2) (q143.2)).bind (fun q145 => if (q145.1) = (q141.1) then (if (q141.1) = (0) then (ck (isO (q145.2) (l3) 24) (ck (inR ((0 : Int32)) (zL (q145.2) (l3))) (if (lg_cmp (zX (q145.2) (l3) ((0 : Int32)).toNatClampNeg) ((q143.1).toInt64)) = (0) then (f_L_law_667 SL xs (f_L_law_23 SL xs n) (l0) (l1) (l2) (l3) (l4) (q145.2)) else (some ((0 : Int32), q145.2))))) else (f_L_law_667 SL xs (f_L_law_23 SL xs n) (l0) (l1) (l2) (l3) (l4) (q145.2))) else (some ((0 : Int32), q145.2)))))))))) else (if ((xs (l4).toNatClampNeg) &&& ((31 : Int32))) = (13 : Int32) then (ck (inR ((l4) + ((1 : Int32))) SL) (ck (inR ((l4) + ((2 : Int32))) SL) (ck (isO (h) (l1) 11) ((f_X10_replicas (l1) (xs ((l4) + ((1 : Int32))).toNatClampNeg) (xs ((l4) + ((2 : Int32))).toNatClampNeg) (h)).bind (fun q155 => ck (inR ((l4) + ((1 : Int32))) SL) (ck (inR ((l4) + ((2 : Int32))) SL) (ck (isO (q155.2) (l2) 12) ((f_X11_replicas (l2) (xs ((l4) + ((1 : Int32))).toNatClampNeg) (xs ((l4) + ((2 : Int32))).toNatClampNeg) (q155.2)).bind (fun q159 => if (q155.1) = (q159.1) then (f_L_law_1085 SL xs (f_L_law_23 SL xs n) (l0) (l1) (l2) (l3) (l4) (q159.2)) else (some ((0 : Int32), q159.2))))))))))) else (if ((xs (l4).toNatClampNeg) &&& ((31 : Int32))) = (14 : Int32) then (ck (inR ((l4) + ((1 : Int32))) SL) (ck (inR ((l4) + ((2 : Int32))) SL) (ck (inR ((l4) + ((3 : Int32))) SL) (if (xs ((l4) + ((3 : Int32))).toNatClampNeg) = (0) then (f_L_law_734 SL xs (f_L_law_23 SL xs n) (l1) (xs ((l4) + ((1 : Int32))).toNatClampNeg) (xs ((l4) + ((2 : Int32))).toNatClampNeg) ((0 : Int32)) (l0) (l1) (l2) (l3) (l4) (h)) else (f_L_law_734 SL xs (f_L_law_23 SL xs n) (l1) (xs ((l4) + ((1 : Int32))).toNatClampNeg) (xs ((l4) + ((2 : Int32))).toNatClampNeg) ((1 : Int32)) (l0) (l1) (l2) (l3) (l4) (h)))))) else (if ((xs (l4).toNatClampNeg) &&& ((31 : Int32))) = (15 : Int32) then (ck (inR ((l4) + ((1 : Int32))) SL) (ck (inR ((l4) + ((2 : Int32))) SL) (ck (inR ((l4) + ((3 : Int32))) SL) (ck (isO (h) (l1) 11) ((f_X10_fuse (l1) (xs ((l4) + ((1 : Int32))).toNatClampNeg) (xs ((l4) + ((2 : Int32))).toNatClampNeg) (xs ((l4) + ((3 : Int32))).toNatClampNeg) (h)).bind (fun q171 => ck (inR ((l4) + ((1 : Int32))) SL) (ck (inR ((l4) + ((2 : Int32))) SL) (ck (inR ((l4) + ((3 : Int32))) SL) (ck (isO (q171.2) (l2) 12) ((f_X11_fuse (l2) (xs ((l4) + ((1 : Int32))).toNatClampNeg) (xs ((l4) + ((2 : Int32))).toNatClampNeg) (xs ((l4) + ((3 : Int32))).toNatClampNeg) (q171.2)).bind (fun q176 => if (q171.1) = (q176.1) then (f_L_law_1085 SL xs (f_L_law_23 SL xs n) (l0) (l1) (l2) (l3) (l4) (q176.2)) else (some ((0 : Int32), q176.2))))))))))))) else (if ((xs (l4).toNatClampNeg) &&& ((31 : Int32))) = (16 : Int32) then (ck (inR ((l4) + ((1 : Int32))) SL) (ck (inR ((l4) + ((2 : Int32))) SL) (ck (isO (h) (l1) 11) ((f_X10_workflow (l1) (xs ((l4) + ((1 : Int32))).toNatClampNeg) (xs ((l4) + ((2 : Int32))).toNatClampNeg) (h)).bind (fun q182 => ck (inR ((l4) + ((1 : Int32))) SL) (ck (inR ((l4) + ((2 : Int32))) SL) (ck (isO (q182.2) (l2) 12) ((f_X11_workflow (l2) (xs ((l4) + ((1 : Int32))).toNatClampNeg) (xs ((l4) + ((2 : Int32))).toNatClampNeg) (q182.2)).bind (fun q186 => if (q182.1) = (q186.1) then (f_L_law_1085 SL xs (f_L_law_23 SL xs n) (l0) (l1) (l2) (l3) (l4) (q186.2)) else (some ((0 : Int32), q186.2))))))))))) else (if ((xs (l4).toNatClampNeg) &&& ((31 : Int32))) = (17 : Int32) then (ck (inR ((l4) + ((1 : Int32))) SL) (ck (inR ((l4) + ((2 : Int32))) SL) (ck (inR ((l4) + ((3 : Int32))) SL) ((f_L_event (l1) (xs ((l4) + ((1 : Int32))).toNatClampNeg) (xs ((l4) + ((2 : Int32))).toNatClampNeg) (xs ((l4) + ((3 : Int32))).toNatClampNeg) (l3) (h)).bind (fun q193 => ck (inR ((l4) + ((1 : Int32))) SL) (ck (inR ((l4) + ((2 : Int32))) SL) (ck (inR ((l4) + ((3 : Int32))) SL) (ck (isO (q193.2) (l2) 12) ((f_X11_event_ (l2) (xs ((l4) + ((1 : Int32))).toNatClampNeg) (xs ((l4) + ((2 : Int32))).toNatClampNeg) (xs ((l4) + ((3 : Int32))).toNatClampNeg) (q193.2)).bind (fun q197 => ck (isO (q197.2) (l2) 12) ((f_X11_thrown (l2) (q197.2)).bind (fun q199 => if (q199.1) = (q193.1) then (if (q193.1) = (0) then (ck (isO (q199.2) (l3) 24) (ck (inR ((0 : Int32)) (zL (q199.2) (l3))) (if (lg_cmp (zX (q199.2) (l3) ((0 : Int32)).toNatClampNeg) ((q197.1).toInt64)) = (0) then (f_L_law_935 SL xs (f_L_law_23 SL xs n) (l0) (l1) (l2) (l3) (l4) (q199.2)) else (some ((0 : Int32), q199.2))))) else (f_L_law_935 SL xs (f_L_law_23 SL xs n) (l0) (l1) (l2) (l3) (l4) (q199.2))) else (some ((0 : Int32), q199.2)))))))))))))) else (if ((xs (l4).toNatClampNeg) &&& ((31 : Int32))) = (18 : Int32) then (ck (inR ((l4) + ((1 : Int32))) SL) (ck (inR ((l4) + ((2 : Int32))) SL) (ck (isO (h) (l1) 11) ((f_X10_shard (l1) (xs ((l4) + ((1 : Int32))).toNatClampNeg) (xs ((l4) + ((2 : Int32))).toNatClampNeg) (h)).bind (fun q209 => ck (inR ((l4) + ((1 : Int32))) SL) (ck (inR ((l4) + ((2 : Int32))) SL) (ck (isO (q209.2) (l2) 12) ((f_X11_shard (l2) (xs ((l4) + ((1 : Int32))).toNatClampNeg) (xs ((l4) + ((2 : Int32))).toNatClampNeg) (q209.2)).bind (fun q213 => if (q209.1) = (q213.1) then (f_L_law_1085 SL xs (f_L_law_23 SL xs n) (l0) (l1) (l2) (l3) (l4) (q213.2)) else (some ((0 : Int32), q213.2))))))))))) else (if ((xs (l4).toNatClampNeg) &&& ((31 : Int32))) = (19 : Int32) then (ck (inR ((l4) + ((1 : Int32))) SL) (ck (inR ((l4) + ((2 : Int32))) SL) (ck (inR ((l4) + ((3 : Int32))) SL) (ck (isO (h) (l1) 11) ((f_X10_replica (l1) (xs ((l4) + ((1 : Int32))).toNatClampNeg) (xs ((l4) + ((2 : Int32))).toNatClampNeg) (xs ((l4) + ((3 : Int32))).toNatClampNeg) (h)).bind (fun q220 => ck (inR ((l4) + ((1 : Int32))) SL) (ck (inR ((l4) + ((2 : Int32))) SL) (ck (inR ((l4) + ((3 : Int32))) SL) (ck (isO (q220.2) (l2) 12) ((f_X11_replica (l2) (xs ((l4) + ((1 : Int32))).toNatClampNeg) (xs ((l4) + ((2 : Int32))).toNatClampNeg) (xs ((l4) + ((3 : Int32))).toNatClampNeg) (q220.2)).bind (fun q225 => if (q220.1) = (q225.1) then (f_L_law_1085 SL xs (f_L_law_23 SL xs n) (l0) (l1) (l2) (l3) (l4) (q225.2)) else (some ((0 : Int32), q225.2))))))))))))) else (if ((xs (l4).toNatClampNeg) &&& ((31 : Int32))) = (20 : Int32) then (ck (inR ((l4) + ((1 : Int32))) SL) (ck (inR ((l4) + ((2 : Int32))) SL) (ck (inR ((l4) + ((3 : Int32))) SL) (ck (inR ((l4) + ((4 : Int32))) SL) (ck (isO (h) (l1) 11) ((f_X10_disk (l1) (xs ((l4) + ((1 : Int32))).toNatClampNeg) (xs ((l4) + ((2 : Int32))).toNatClampNeg) (xs ((l4) + ((3 : Int32))).toNatClampNeg) (xs ((l4) + ((4 : Int32))).toNatClampNeg) (h)).bind (fun q233 => ck (inR ((l4) + ((1 : Int32))) SL) (ck (inR ((l4) + ((2 : Int32))) SL) (ck (inR ((l4) + ((3 : Int32))) SL) (ck (inR ((l4) + ((4 : Int32))) SL) (ck (isO (q233.2) (l2) 12) ((f_X11_disk (l2) (xs ((l4) + ((1 : Int32))).toNatClampNeg) (xs ((l4) + ((2 : Int32))).toNatClampNeg) (xs ((l4) + ((3 : Int32))).toNatClampNeg) (xs ((l4) + ((4 : Int32))).toNatClampNeg) (q233.2)).bind (fun q239 => if (q233.1) = (q239.1) then (f_L_law_1085 SL xs (f_L_law_23 SL xs n) (l0) (l1) (l2) (l3) (l4) (q239.2)) else (some ((0 : Int32), q239.2))))))))))))))) else (f_L_law_1085 SL xs (f_L_law_23 SL xs n) (l0) (l1) (l2) (l3) (l4) (h)))))))))))))))))))))))))
theorem f_L_law_23_ok {G : Gd} {d : Nat} (SL : Nat) (xs : Nat → Int32) (hX : va_X (gX G 1) SL xs (g0 G) (g0 G).heap) (hj : 651 ≤ d) : ∀ (n : Nat) (l0 : Nat) (l1 : Nat) (l2 : Nat) (l3 : Nat) (l4 : Int32) (L : List (Nat × Value)) (h : Hp) (o : (Int32 × Hp)), zlk L 0 = some (zrf (l0)) → zlk L 1 = some (zrf (l1)) → zlk L 2 = some (zrf (l2)) → zlk L 3 = some (zrf (l3)) → zlk L 4 = some (.int (l4)) → f_L_law_23 SL xs n l0 l1 l2 l3 l4 h = some o → Ev G M_L_law d 23 L [] h (Ret Y_L_law (some (.int o.1)) o.2) := by
  intro n
  induction n with
  | zero =>
    intro l0 l1 l2 l3 l4 L h o g0 g1 g2 g3 g4 e
    cases e
  | succ n ih =>
    intro l0 l1 l2 l3 l4 L h o g0 g1 g2 g3 g4 e
    unfold f_L_law_23 at e
    refine r_iload d_L_law_23 g4 ?_
    refine g_ald_n d_L_law_25 rfl g0 ?_
    replace e := ckd e
    obtain ⟨k14, e⟩ := e
    refine g_slen hX d_L_law_26 k14 ?_
    refine r_iconst d_L_law_27 (v := (5 : Int32)) (by decide +kernel) ?_
    refine r_isub d_L_law_28 ?_
    refine r_icmp_gt d_L_law_29 (tgt := 1091) (by decide) (fun c15 => ?_) (fun c15 => ?_)
    · replace e := (if_pos c15).symm.trans e
      refine r_iconst d_L_law_1091 (v := (1 : Int32)) (by decide +kernel) ?_
      obtain rfl := Option.some.inj e
      exact g_iret d_L_law_1092 rfl rfl
    · replace e := (if_neg c15).symm.trans e
      refine g_ald_n d_L_law_32 rfl g0 ?_
      refine r_iload d_L_law_33 g4 ?_
      replace e := ckd e
      obtain ⟨k16, e⟩ := e
      refine g_sld hX d_L_law_35 k14 k16 ?_
      refine r_bipush d_L_law_36 (v := (31 : Int32)) (by decide +kernel) ?_
      refine r_iand d_L_law_38 ?_
      rcases ite_or e with ⟨c17, e⟩ | ⟨c17, e⟩
      · refine r_tableIn d_L_law_39 (off := 97) (tgt := 136) (by rw [c17]; decide +kernel) (by rw [c17]; decide +kernel) (by rw [c17] <;> rfl) (by decide) ?_
        refine g_ald_n d_L_law_136 rfl g1 ?_
        refine g_ald_n d_L_law_137 rfl g0 ?_
        refine r_iload d_L_law_138 g4 ?_
        refine r_iconst d_L_law_140 (v := (1 : Int32)) (by decide +kernel) ?_
        refine r_iadd d_L_law_141 ?_
        replace e := ckd e
        obtain ⟨k18, e⟩ := e
        refine g_sld hX d_L_law_142 k14 k18 ?_
        refine r_i2l d_L_law_143 ?_
        refine r_bipush d_L_law_144 (v := (32 : Int32)) (by decide +kernel) ?_
        refine r_lshl d_L_law_146 ?_
        refine g_ald_n d_L_law_147 rfl g0 ?_
        refine r_iload d_L_law_148 g4 ?_
        refine r_iconst d_L_law_150 (v := (2 : Int32)) (by decide +kernel) ?_
        refine r_iadd d_L_law_151 ?_
        replace e := ckd e
        obtain ⟨k19, e⟩ := e
        refine g_sld hX d_L_law_152 k14 k19 ?_
        refine r_i2l d_L_law_153 ?_
        refine r_ldc2 d_L_law_154 (v := (4294967295 : Int64)) (by decide +kernel) ?_
        refine r_land d_L_law_157 ?_
        refine r_lor d_L_law_158 ?_
        refine g_ald_n d_L_law_159 rfl g0 ?_
        refine r_iload d_L_law_160 g4 ?_
        refine r_iconst d_L_law_162 (v := (3 : Int32)) (by decide +kernel) ?_
        refine r_iadd d_L_law_163 ?_
        replace e := ckd e
        obtain ⟨k20, e⟩ := e
        refine g_sld hX d_L_law_164 k14 k20 ?_
        replace e := ckd e
        obtain ⟨k22, e⟩ := e
        replace e := bd e
        obtain ⟨q21, eq21, e⟩ := e
        refine g_callV d_L_law_165 vk_16_38 (as := [_, _]) rfl k22 rfl (by simp [zrf_cat, cat_int, cat_long]) (j := 2) (by omega) (c_X10_type (by omega) eq21) ?_
        refine g_ald_n d_L_law_168 rfl g2 ?_
        refine g_ald_n d_L_law_169 rfl g0 ?_
        refine r_iload d_L_law_170 g4 ?_
        refine r_iconst d_L_law_172 (v := (1 : Int32)) (by decide +kernel) ?_
        refine r_iadd d_L_law_173 ?_
        replace e := ckd e
        obtain ⟨k23, e⟩ := e
        refine g_sld hX d_L_law_174 k14 k23 ?_
        refine r_i2l d_L_law_175 ?_
        refine r_bipush d_L_law_176 (v := (32 : Int32)) (by decide +kernel) ?_
        refine r_lshl d_L_law_178 ?_
        refine g_ald_n d_L_law_179 rfl g0 ?_
        refine r_iload d_L_law_180 g4 ?_
        refine r_iconst d_L_law_182 (v := (2 : Int32)) (by decide +kernel) ?_
        refine r_iadd d_L_law_183 ?_
        replace e := ckd e
        obtain ⟨k24, e⟩ := e
        refine g_sld hX d_L_law_184 k14 k24 ?_
        refine r_i2l d_L_law_185 ?_
        refine r_ldc2 d_L_law_186 (v := (4294967295 : Int64)) (by decide +kernel) ?_
        refine r_land d_L_law_189 ?_
        refine r_lor d_L_law_190 ?_
        refine g_ald_n d_L_law_191 rfl g0 ?_
        refine r_iload d_L_law_192 g4 ?_
        refine r_iconst d_L_law_194 (v := (3 : Int32)) (by decide +kernel) ?_
        refine r_iadd d_L_law_195 ?_
        replace e := ckd e
        obtain ⟨k25, e⟩ := e
        refine g_sld hX d_L_law_196 k14 k25 ?_
        replace e := ckd e
        obtain ⟨k27, e⟩ := e
        replace e := bd e
        obtain ⟨q26, eq26, e⟩ := e
        refine g_callV d_L_law_197 vk_16_42 (as := [_, _]) rfl k27 rfl (by simp [zrf_cat, cat_int, cat_long]) (j := 1) (by omega) (c_X11_type (by omega) eq26) ?_
        refine r_icmp_eq d_L_law_200 (tgt := 1085) (by decide) (fun c28 => ?_) (fun c28 => ?_)
        · replace e := (if_pos c28).symm.trans e
          exact f_L_law_1085_ok SL xs hX _ hj ih _ _ _ _ _ _ _ _ g0 g1 g2 g3 g4 e
        · replace e := (if_neg c28).symm.trans e
          refine r_iconst d_L_law_203 (v := (0 : Int32)) (by decide +kernel) ?_
          obtain rfl := Option.some.inj e
          exact g_iret d_L_law_204 rfl rfl
      · rcases ite_or e with ⟨c29, e⟩ | ⟨c29, e⟩
        · refine r_tableIn d_L_law_39 (off := 166) (tgt := 205) (by rw [c29]; decide +kernel) (by rw [c29]; decide +kernel) (by rw [c29] <;> rfl) (by decide) ?_
          refine g_ald_n d_L_law_205 rfl g1 ?_
          refine g_ald_n d_L_law_206 rfl g0 ?_
          refine r_iload d_L_law_207 g4 ?_
          refine r_iconst d_L_law_209 (v := (1 : Int32)) (by decide +kernel) ?_
          refine r_iadd d_L_law_210 ?_
          replace e := ckd e
          obtain ⟨k30, e⟩ := e
          refine g_sld hX d_L_law_211 k14 k30 ?_
          refine g_ald_n d_L_law_212 rfl g3 ?_
          replace e := bd e
          obtain ⟨q31, eq31, e⟩ := e
          refine g_callW d_L_law_213 yw_L_program (by decide +kernel) (by decide +kernel) (as := [_, _, _]) rfl rfl (by simp [zrf_cat, cat_int, cat_long]) (j := 9) (by omega) (c_L_program (by omega) eq31) ?_
          refine s_istore d_L_law_216 (by decide) (fun L g5 gK => ?_)
          replace g0 := gK _ _ (by decide) (Or.inr (zrf_cat _)) g0
          replace g1 := gK _ _ (by decide) (Or.inr (zrf_cat _)) g1
          replace g2 := gK _ _ (by decide) (Or.inr (zrf_cat _)) g2
          replace g3 := gK _ _ (by decide) (Or.inr (zrf_cat _)) g3
          replace g4 := gK _ _ (by decide) (Or.inr rfl) g4
          refine g_ald_n d_L_law_218 rfl g2 ?_
          refine g_ald_n d_L_law_219 rfl g0 ?_
          refine r_iload d_L_law_220 g4 ?_
          refine r_iconst d_L_law_222 (v := (1 : Int32)) (by decide +kernel) ?_
          refine r_iadd d_L_law_223 ?_
          replace e := ckd e
          obtain ⟨k32, e⟩ := e
          refine g_sld hX d_L_law_224 k14 k32 ?_
          replace e := ckd e
          obtain ⟨k34, e⟩ := e
          replace e := bd e
          obtain ⟨q33, eq33, e⟩ := e
          refine g_callV d_L_law_225 vk_16_48 (as := [_]) rfl k34 rfl (by simp [zrf_cat, cat_int, cat_long]) (j := 8) (by omega) (c_X11_program (by omega) eq33) ?_
          refine s_istore d_L_law_228 (by decide) (fun L g6 gK => ?_)
          replace g0 := gK _ _ (by decide) (Or.inr (zrf_cat _)) g0
          replace g1 := gK _ _ (by decide) (Or.inr (zrf_cat _)) g1
          replace g2 := gK _ _ (by decide) (Or.inr (zrf_cat _)) g2
          replace g3 := gK _ _ (by decide) (Or.inr (zrf_cat _)) g3
          replace g4 := gK _ _ (by decide) (Or.inr rfl) g4
          replace g5 := gK _ _ (by decide) (Or.inr rfl) g5
          refine g_ald_n d_L_law_230 rfl g2 ?_
          replace e := ckd e
          obtain ⟨k36, e⟩ := e
          replace e := bd e
          obtain ⟨q35, eq35, e⟩ := e
          refine g_callV d_L_law_231 vk_16_49 (as := []) rfl k36 rfl (by simp [zrf_cat, cat_int, cat_long]) (j := 1) (by omega) (c_X11_thrown (by omega) eq35) ?_
          refine r_iload d_L_law_234 g5 ?_
          refine r_icmp_eq d_L_law_236 (tgt := 241) (by decide) (fun c37 => ?_) (fun c37 => ?_)
          · replace e := (if_pos c37).symm.trans e
            refine r_iload d_L_law_241 g5 ?_
            refine r_if_ne d_L_law_243 (tgt := 258) (by decide) (fun c38 => ?_) (fun c38 => ?_)
            · replace e := (if_neg c38).symm.trans e
              exact f_L_law_258_ok SL xs hX _ hj ih _ _ _ _ _ _ _ _ g0 g1 g2 g3 g4 e
            · replace e := (if_pos c38).symm.trans e
              refine g_ald_n d_L_law_246 rfl g3 ?_
              refine r_iconst d_L_law_247 (v := (0 : Int32)) (by decide +kernel) ?_
              replace e := ckd e
              obtain ⟨k39, e⟩ := e
              replace e := ckd e
              obtain ⟨k40, e⟩ := e
              refine g_lald d_L_law_248 k39 k40 rfl ?_
              refine r_iload d_L_law_249 g6 ?_
              refine r_i2l d_L_law_251 ?_
              refine r_lcmp d_L_law_252 ?_
              refine r_if_eq d_L_law_253 (tgt := 258) (by decide) (fun c41 => ?_) (fun c41 => ?_)
              · replace e := (if_pos c41).symm.trans e
                exact f_L_law_258_ok SL xs hX _ hj ih _ _ _ _ _ _ _ _ g0 g1 g2 g3 g4 e
              · replace e := (if_neg c41).symm.trans e
                refine r_iconst d_L_law_256 (v := (0 : Int32)) (by decide +kernel) ?_
                obtain rfl := Option.some.inj e
                exact g_iret d_L_law_257 rfl rfl
          · replace e := (if_neg c37).symm.trans e
            refine r_iconst d_L_law_239 (v := (0 : Int32)) (by decide +kernel) ?_
            obtain rfl := Option.some.inj e
            exact g_iret d_L_law_240 rfl rfl
        · rcases ite_or e with ⟨c42, e⟩ | ⟨c42, e⟩
          · refine r_tableIn d_L_law_39 (off := 222) (tgt := 261) (by rw [c42]; decide +kernel) (by rw [c42]; decide +kernel) (by rw [c42] <;> rfl) (by decide) ?_
            refine g_ald_n d_L_law_261 rfl g1 ?_
            replace e := ckd e
            obtain ⟨k44, e⟩ := e
            replace e := bd e
            obtain ⟨q43, eq43, e⟩ := e
            refine g_callV d_L_law_262 vk_16_53 (as := []) rfl k44 rfl (by simp [zrf_cat, cat_int, cat_long]) (j := 1) (by omega) (c_X10_fault (by omega) eq43) ?_
            refine g_ald_n d_L_law_265 rfl g2 ?_
            replace e := ckd e
            obtain ⟨k46, e⟩ := e
            replace e := bd e
            obtain ⟨q45, eq45, e⟩ := e
            refine g_callV d_L_law_266 vk_16_56 (as := []) rfl k46 rfl (by simp [zrf_cat, cat_int, cat_long]) (j := 1) (by omega) (c_X11_fault (by omega) eq45) ?_
            refine r_icmp_eq d_L_law_269 (tgt := 1085) (by decide) (fun c47 => ?_) (fun c47 => ?_)
            · replace e := (if_pos c47).symm.trans e
              exact f_L_law_1085_ok SL xs hX _ hj ih _ _ _ _ _ _ _ _ g0 g1 g2 g3 g4 e
            · replace e := (if_neg c47).symm.trans e
              refine r_iconst d_L_law_272 (v := (0 : Int32)) (by decide +kernel) ?_
              obtain rfl := Option.some.inj e
              exact g_iret d_L_law_273 rfl rfl
          · rcases ite_or e with ⟨c48, e⟩ | ⟨c48, e⟩
            · refine r_tableIn d_L_law_39 (off := 235) (tgt := 274) (by rw [c48]; decide +kernel) (by rw [c48]; decide +kernel) (by rw [c48] <;> rfl) (by decide) ?_
              refine g_ald_n d_L_law_274 rfl g1 ?_
              refine g_ald_n d_L_law_275 rfl g0 ?_
              refine r_iload d_L_law_276 g4 ?_
              refine r_iconst d_L_law_278 (v := (1 : Int32)) (by decide +kernel) ?_
              refine r_iadd d_L_law_279 ?_
              replace e := ckd e
              obtain ⟨k49, e⟩ := e
              refine g_sld hX d_L_law_280 k14 k49 ?_
              refine g_ald_n d_L_law_281 rfl g0 ?_
              refine r_iload d_L_law_282 g4 ?_
              refine r_iconst d_L_law_284 (v := (2 : Int32)) (by decide +kernel) ?_
              refine r_iadd d_L_law_285 ?_
              replace e := ckd e
              obtain ⟨k50, e⟩ := e
              refine g_sld hX d_L_law_286 k14 k50 ?_
              refine g_ald_n d_L_law_287 rfl g0 ?_
              refine r_iload d_L_law_288 g4 ?_
              refine r_iconst d_L_law_290 (v := (3 : Int32)) (by decide +kernel) ?_
              refine r_iadd d_L_law_291 ?_
              replace e := ckd e
              obtain ⟨k51, e⟩ := e
              refine g_sld hX d_L_law_292 k14 k51 ?_
              replace e := ckd e
              obtain ⟨k53, e⟩ := e
              replace e := bd e
              obtain ⟨q52, eq52, e⟩ := e
              refine g_callV d_L_law_293 vk_16_57 (as := [_, _, _]) rfl k53 rfl (by simp [zrf_cat, cat_int, cat_long]) (j := 7) (by omega) (c_X10_start (by omega) eq52) ?_
              refine g_ald_n d_L_law_296 rfl g2 ?_
              refine g_ald_n d_L_law_297 rfl g0 ?_
              refine r_iload d_L_law_298 g4 ?_
              refine r_iconst d_L_law_300 (v := (1 : Int32)) (by decide +kernel) ?_
              refine r_iadd d_L_law_301 ?_
              replace e := ckd e
              obtain ⟨k54, e⟩ := e
              refine g_sld hX d_L_law_302 k14 k54 ?_
              refine g_ald_n d_L_law_303 rfl g0 ?_
              refine r_iload d_L_law_304 g4 ?_
              refine r_iconst d_L_law_306 (v := (2 : Int32)) (by decide +kernel) ?_
              refine r_iadd d_L_law_307 ?_
              replace e := ckd e
              obtain ⟨k55, e⟩ := e
              refine g_sld hX d_L_law_308 k14 k55 ?_
              refine g_ald_n d_L_law_309 rfl g0 ?_
              refine r_iload d_L_law_310 g4 ?_
              refine r_iconst d_L_law_312 (v := (3 : Int32)) (by decide +kernel) ?_
              refine r_iadd d_L_law_313 ?_
              replace e := ckd e
              obtain ⟨k56, e⟩ := e
              refine g_sld hX d_L_law_314 k14 k56 ?_
              replace e := ckd e
              obtain ⟨k58, e⟩ := e
              replace e := bd e
              obtain ⟨q57, eq57, e⟩ := e
              refine g_callV d_L_law_315 vk_16_60 (as := [_, _, _]) rfl k58 rfl (by simp [zrf_cat, cat_int, cat_long]) (j := 646) (by omega) (c_X11_start (by omega) eq57) ?_
              refine r_icmp_eq d_L_law_318 (tgt := 1085) (by decide) (fun c59 => ?_) (fun c59 => ?_)
              · replace e := (if_pos c59).symm.trans e
                exact f_L_law_1085_ok SL xs hX _ hj ih _ _ _ _ _ _ _ _ g0 g1 g2 g3 g4 e
              · replace e := (if_neg c59).symm.trans e
                refine r_iconst d_L_law_321 (v := (0 : Int32)) (by decide +kernel) ?_
                obtain rfl := Option.some.inj e
                exact g_iret d_L_law_322 rfl rfl
            · rcases ite_or e with ⟨c60, e⟩ | ⟨c60, e⟩
              · refine r_tableIn d_L_law_39 (off := 284) (tgt := 323) (by rw [c60]; decide +kernel) (by rw [c60]; decide +kernel) (by rw [c60] <;> rfl) (by decide) ?_
                refine g_ald_n d_L_law_323 rfl g1 ?_
                refine g_ald_n d_L_law_324 rfl g0 ?_
                refine r_iload d_L_law_325 g4 ?_
                refine r_iconst d_L_law_327 (v := (1 : Int32)) (by decide +kernel) ?_
                refine r_iadd d_L_law_328 ?_
                replace e := ckd e
                obtain ⟨k61, e⟩ := e
                refine g_sld hX d_L_law_329 k14 k61 ?_
                refine g_ald_n d_L_law_330 rfl g0 ?_
                refine r_iload d_L_law_331 g4 ?_
                refine r_iconst d_L_law_333 (v := (2 : Int32)) (by decide +kernel) ?_
                refine r_iadd d_L_law_334 ?_
                replace e := ckd e
                obtain ⟨k62, e⟩ := e
                refine g_sld hX d_L_law_335 k14 k62 ?_
                refine g_ald_n d_L_law_336 rfl g0 ?_
                refine r_iload d_L_law_337 g4 ?_
                refine r_iconst d_L_law_339 (v := (3 : Int32)) (by decide +kernel) ?_
                refine r_iadd d_L_law_340 ?_
                replace e := ckd e
                obtain ⟨k63, e⟩ := e
                refine g_sld hX d_L_law_341 k14 k63 ?_
                replace e := ckd e
                obtain ⟨k65, e⟩ := e
                replace e := bd e
                obtain ⟨q64, eq64, e⟩ := e
                refine g_callV d_L_law_342 vk_16_61 (as := [_, _, _]) rfl k65 rfl (by simp [zrf_cat, cat_int, cat_long]) (j := 7) (by omega) (c_X10_signal (by omega) eq64) ?_
                refine g_ald_n d_L_law_345 rfl g2 ?_
                refine g_ald_n d_L_law_346 rfl g0 ?_
                refine r_iload d_L_law_347 g4 ?_
                refine r_iconst d_L_law_349 (v := (1 : Int32)) (by decide +kernel) ?_
                refine r_iadd d_L_law_350 ?_
                replace e := ckd e
                obtain ⟨k66, e⟩ := e
                refine g_sld hX d_L_law_351 k14 k66 ?_
                refine g_ald_n d_L_law_352 rfl g0 ?_
                refine r_iload d_L_law_353 g4 ?_
                refine r_iconst d_L_law_355 (v := (2 : Int32)) (by decide +kernel) ?_
                refine r_iadd d_L_law_356 ?_
                replace e := ckd e
                obtain ⟨k67, e⟩ := e
                refine g_sld hX d_L_law_357 k14 k67 ?_
                refine g_ald_n d_L_law_358 rfl g0 ?_
                refine r_iload d_L_law_359 g4 ?_
                refine r_iconst d_L_law_361 (v := (3 : Int32)) (by decide +kernel) ?_
                refine r_iadd d_L_law_362 ?_
                replace e := ckd e
                obtain ⟨k68, e⟩ := e
                refine g_sld hX d_L_law_363 k14 k68 ?_
                replace e := ckd e
                obtain ⟨k70, e⟩ := e
                replace e := bd e
                obtain ⟨q69, eq69, e⟩ := e
                refine g_callV d_L_law_364 vk_16_65 (as := [_, _, _]) rfl k70 rfl (by simp [zrf_cat, cat_int, cat_long]) (j := 646) (by omega) (c_X11_signal (by omega) eq69) ?_
                refine r_icmp_eq d_L_law_367 (tgt := 1085) (by decide) (fun c71 => ?_) (fun c71 => ?_)
                · replace e := (if_pos c71).symm.trans e
                  exact f_L_law_1085_ok SL xs hX _ hj ih _ _ _ _ _ _ _ _ g0 g1 g2 g3 g4 e
                · replace e := (if_neg c71).symm.trans e
                  refine r_iconst d_L_law_370 (v := (0 : Int32)) (by decide +kernel) ?_
                  obtain rfl := Option.some.inj e
                  exact g_iret d_L_law_371 rfl rfl
              · rcases ite_or e with ⟨c72, e⟩ | ⟨c72, e⟩
                · refine r_tableIn d_L_law_39 (off := 333) (tgt := 372) (by rw [c72]; decide +kernel) (by rw [c72]; decide +kernel) (by rw [c72] <;> rfl) (by decide) ?_
                  refine g_ald_n d_L_law_372 rfl g1 ?_
                  refine g_ald_n d_L_law_373 rfl g0 ?_
                  refine r_iload d_L_law_374 g4 ?_
                  refine r_iconst d_L_law_376 (v := (1 : Int32)) (by decide +kernel) ?_
                  refine r_iadd d_L_law_377 ?_
                  replace e := ckd e
                  obtain ⟨k73, e⟩ := e
                  refine g_sld hX d_L_law_378 k14 k73 ?_
                  replace e := ckd e
                  obtain ⟨k75, e⟩ := e
                  replace e := bd e
                  obtain ⟨q74, eq74, e⟩ := e
                  refine g_callV d_L_law_379 vk_16_66 (as := [_]) rfl k75 rfl (by simp [zrf_cat, cat_int, cat_long]) (j := 7) (by omega) (c_X10_cancel (by omega) eq74) ?_
                  refine g_ald_n d_L_law_382 rfl g2 ?_
                  refine g_ald_n d_L_law_383 rfl g0 ?_
                  refine r_iload d_L_law_384 g4 ?_
                  refine r_iconst d_L_law_386 (v := (1 : Int32)) (by decide +kernel) ?_
                  refine r_iadd d_L_law_387 ?_
                  replace e := ckd e
                  obtain ⟨k76, e⟩ := e
                  refine g_sld hX d_L_law_388 k14 k76 ?_
                  replace e := ckd e
                  obtain ⟨k78, e⟩ := e
                  replace e := bd e
                  obtain ⟨q77, eq77, e⟩ := e
                  refine g_callV d_L_law_389 vk_16_70 (as := [_]) rfl k78 rfl (by simp [zrf_cat, cat_int, cat_long]) (j := 646) (by omega) (c_X11_cancel (by omega) eq77) ?_
                  refine r_icmp_eq d_L_law_392 (tgt := 1085) (by decide) (fun c79 => ?_) (fun c79 => ?_)
                  · replace e := (if_pos c79).symm.trans e
                    exact f_L_law_1085_ok SL xs hX _ hj ih _ _ _ _ _ _ _ _ g0 g1 g2 g3 g4 e
                  · replace e := (if_neg c79).symm.trans e
                    refine r_iconst d_L_law_395 (v := (0 : Int32)) (by decide +kernel) ?_
                    obtain rfl := Option.some.inj e
                    exact g_iret d_L_law_396 rfl rfl
                · rcases ite_or e with ⟨c80, e⟩ | ⟨c80, e⟩
                  · refine r_tableIn d_L_law_39 (off := 358) (tgt := 397) (by rw [c80]; decide +kernel) (by rw [c80]; decide +kernel) (by rw [c80] <;> rfl) (by decide) ?_
                    refine g_ald_n d_L_law_397 rfl g1 ?_
                    refine g_ald_n d_L_law_398 rfl g0 ?_
                    refine r_iload d_L_law_399 g4 ?_
                    refine r_iconst d_L_law_401 (v := (1 : Int32)) (by decide +kernel) ?_
                    refine r_iadd d_L_law_402 ?_
                    replace e := ckd e
                    obtain ⟨k81, e⟩ := e
                    refine g_sld hX d_L_law_403 k14 k81 ?_
                    refine g_ald_n d_L_law_404 rfl g0 ?_
                    refine r_iload d_L_law_405 g4 ?_
                    refine r_iconst d_L_law_407 (v := (2 : Int32)) (by decide +kernel) ?_
                    refine r_iadd d_L_law_408 ?_
                    replace e := ckd e
                    obtain ⟨k82, e⟩ := e
                    refine g_sld hX d_L_law_409 k14 k82 ?_
                    refine g_ald_n d_L_law_410 rfl g3 ?_
                    replace e := bd e
                    obtain ⟨q83, eq83, e⟩ := e
                    refine g_callW d_L_law_411 yw_L_query (by decide +kernel) (by decide +kernel) (as := [_, _, _, _]) rfl rfl (by simp [zrf_cat, cat_int, cat_long]) (j := 7) (by omega) (c_L_query (by omega) eq83) ?_
                    refine s_istore d_L_law_414 (by decide) (fun L g5 gK => ?_)
                    replace g0 := gK _ _ (by decide) (Or.inr (zrf_cat _)) g0
                    replace g1 := gK _ _ (by decide) (Or.inr (zrf_cat _)) g1
                    replace g2 := gK _ _ (by decide) (Or.inr (zrf_cat _)) g2
                    replace g3 := gK _ _ (by decide) (Or.inr (zrf_cat _)) g3
                    replace g4 := gK _ _ (by decide) (Or.inr rfl) g4
                    refine g_ald_n d_L_law_416 rfl g2 ?_
                    refine g_ald_n d_L_law_417 rfl g0 ?_
                    refine r_iload d_L_law_418 g4 ?_
                    refine r_iconst d_L_law_420 (v := (1 : Int32)) (by decide +kernel) ?_
                    refine r_iadd d_L_law_421 ?_
                    replace e := ckd e
                    obtain ⟨k84, e⟩ := e
                    refine g_sld hX d_L_law_422 k14 k84 ?_
                    refine g_ald_n d_L_law_423 rfl g0 ?_
                    refine r_iload d_L_law_424 g4 ?_
                    refine r_iconst d_L_law_426 (v := (2 : Int32)) (by decide +kernel) ?_
                    refine r_iadd d_L_law_427 ?_
                    replace e := ckd e
                    obtain ⟨k85, e⟩ := e
                    refine g_sld hX d_L_law_428 k14 k85 ?_
                    replace e := ckd e
                    obtain ⟨k87, e⟩ := e
                    replace e := bd e
                    obtain ⟨q86, eq86, e⟩ := e
                    refine g_callV d_L_law_429 vk_16_74 (as := [_, _]) rfl k87 rfl (by simp [zrf_cat, cat_int, cat_long]) (j := 2) (by omega) (c_X11_query (by omega) eq86) ?_
                    refine s_istore d_L_law_432 (by decide) (fun L g6 gK => ?_)
                    replace g0 := gK _ _ (by decide) (Or.inr (zrf_cat _)) g0
                    replace g1 := gK _ _ (by decide) (Or.inr (zrf_cat _)) g1
                    replace g2 := gK _ _ (by decide) (Or.inr (zrf_cat _)) g2
                    replace g3 := gK _ _ (by decide) (Or.inr (zrf_cat _)) g3
                    replace g4 := gK _ _ (by decide) (Or.inr rfl) g4
                    replace g5 := gK _ _ (by decide) (Or.inr rfl) g5
                    refine g_ald_n d_L_law_434 rfl g2 ?_
                    replace e := ckd e
                    obtain ⟨k89, e⟩ := e
                    replace e := bd e
                    obtain ⟨q88, eq88, e⟩ := e
                    refine g_callV d_L_law_435 vk_16_49 (as := []) rfl k89 rfl (by simp [zrf_cat, cat_int, cat_long]) (j := 1) (by omega) (c_X11_thrown (by omega) eq88) ?_
                    refine r_iload d_L_law_438 g5 ?_
                    refine r_icmp_eq d_L_law_440 (tgt := 445) (by decide) (fun c90 => ?_) (fun c90 => ?_)
                    · replace e := (if_pos c90).symm.trans e
                      refine r_iload d_L_law_445 g5 ?_
                      refine r_if_ne d_L_law_447 (tgt := 462) (by decide) (fun c91 => ?_) (fun c91 => ?_)
                      · replace e := (if_neg c91).symm.trans e
                        exact f_L_law_462_ok SL xs hX _ hj ih _ _ _ _ _ _ _ _ g0 g1 g2 g3 g4 e
                      · replace e := (if_pos c91).symm.trans e
                        refine g_ald_n d_L_law_450 rfl g3 ?_
                        refine r_iconst d_L_law_451 (v := (0 : Int32)) (by decide +kernel) ?_
                        replace e := ckd e
                        obtain ⟨k92, e⟩ := e
                        replace e := ckd e
                        obtain ⟨k93, e⟩ := e
                        refine g_lald d_L_law_452 k92 k93 rfl ?_
                        refine r_iload d_L_law_453 g6 ?_
                        refine r_i2l d_L_law_455 ?_
                        refine r_lcmp d_L_law_456 ?_
                        refine r_if_eq d_L_law_457 (tgt := 462) (by decide) (fun c94 => ?_) (fun c94 => ?_)
                        · replace e := (if_pos c94).symm.trans e
                          exact f_L_law_462_ok SL xs hX _ hj ih _ _ _ _ _ _ _ _ g0 g1 g2 g3 g4 e
                        · replace e := (if_neg c94).symm.trans e
                          refine r_iconst d_L_law_460 (v := (0 : Int32)) (by decide +kernel) ?_
                          obtain rfl := Option.some.inj e
                          exact g_iret d_L_law_461 rfl rfl
                    · replace e := (if_neg c90).symm.trans e
                      refine r_iconst d_L_law_443 (v := (0 : Int32)) (by decide +kernel) ?_
                      obtain rfl := Option.some.inj e
                      exact g_iret d_L_law_444 rfl rfl
                  · rcases ite_or e with ⟨c95, e⟩ | ⟨c95, e⟩
                    · refine r_tableIn d_L_law_39 (off := 426) (tgt := 465) (by rw [c95]; decide +kernel) (by rw [c95]; decide +kernel) (by rw [c95] <;> rfl) (by decide) ?_
                      refine g_ald_n d_L_law_465 rfl g1 ?_
                      refine g_ald_n d_L_law_466 rfl g0 ?_
                      refine r_iload d_L_law_467 g4 ?_
                      refine r_iconst d_L_law_469 (v := (1 : Int32)) (by decide +kernel) ?_
                      refine r_iadd d_L_law_470 ?_
                      replace e := ckd e
                      obtain ⟨k96, e⟩ := e
                      refine g_sld hX d_L_law_471 k14 k96 ?_
                      replace e := ckd e
                      obtain ⟨k98, e⟩ := e
                      replace e := bd e
                      obtain ⟨q97, eq97, e⟩ := e
                      refine g_callV d_L_law_472 vk_16_75 (as := [_]) rfl k98 rfl (by simp [zrf_cat, cat_int, cat_long]) (j := 3) (by omega) (c_X10_poll (by omega) eq97) ?_
                      refine g_ald_n d_L_law_475 rfl g2 ?_
                      refine g_ald_n d_L_law_476 rfl g0 ?_
                      refine r_iload d_L_law_477 g4 ?_
                      refine r_iconst d_L_law_479 (v := (1 : Int32)) (by decide +kernel) ?_
                      refine r_iadd d_L_law_480 ?_
                      replace e := ckd e
                      obtain ⟨k99, e⟩ := e
                      refine g_sld hX d_L_law_481 k14 k99 ?_
                      replace e := ckd e
                      obtain ⟨k101, e⟩ := e
                      replace e := bd e
                      obtain ⟨q100, eq100, e⟩ := e
                      refine g_callV d_L_law_482 vk_16_78 (as := [_]) rfl k101 rfl (by simp [zrf_cat, cat_int, cat_long]) (j := 3) (by omega) (c_X11_poll (by omega) eq100) ?_
                      refine r_icmp_eq d_L_law_485 (tgt := 1085) (by decide) (fun c102 => ?_) (fun c102 => ?_)
                      · replace e := (if_pos c102).symm.trans e
                        exact f_L_law_1085_ok SL xs hX _ hj ih _ _ _ _ _ _ _ _ g0 g1 g2 g3 g4 e
                      · replace e := (if_neg c102).symm.trans e
                        refine r_iconst d_L_law_488 (v := (0 : Int32)) (by decide +kernel) ?_
                        obtain rfl := Option.some.inj e
                        exact g_iret d_L_law_489 rfl rfl
                    · rcases ite_or e with ⟨c103, e⟩ | ⟨c103, e⟩
                      · refine r_tableIn d_L_law_39 (off := 451) (tgt := 490) (by rw [c103]; decide +kernel) (by rw [c103]; decide +kernel) (by rw [c103] <;> rfl) (by decide) ?_
                        refine g_ald_n d_L_law_490 rfl g1 ?_
                        refine g_ald_n d_L_law_491 rfl g0 ?_
                        refine r_iload d_L_law_492 g4 ?_
                        refine r_iconst d_L_law_494 (v := (1 : Int32)) (by decide +kernel) ?_
                        refine r_iadd d_L_law_495 ?_
                        replace e := ckd e
                        obtain ⟨k104, e⟩ := e
                        refine g_sld hX d_L_law_496 k14 k104 ?_
                        replace e := ckd e
                        obtain ⟨k106, e⟩ := e
                        replace e := bd e
                        obtain ⟨q105, eq105, e⟩ := e
                        refine g_callV d_L_law_497 vk_16_79 (as := [_]) rfl k106 rfl (by simp [zrf_cat, cat_int, cat_long]) (j := 4) (by omega) (c_X10_beat (by omega) eq105) ?_
                        refine g_ald_n d_L_law_500 rfl g2 ?_
                        refine g_ald_n d_L_law_501 rfl g0 ?_
                        refine r_iload d_L_law_502 g4 ?_
                        refine r_iconst d_L_law_504 (v := (1 : Int32)) (by decide +kernel) ?_
                        refine r_iadd d_L_law_505 ?_
                        replace e := ckd e
                        obtain ⟨k107, e⟩ := e
                        refine g_sld hX d_L_law_506 k14 k107 ?_
                        replace e := ckd e
                        obtain ⟨k109, e⟩ := e
                        replace e := bd e
                        obtain ⟨q108, eq108, e⟩ := e
                        refine g_callV d_L_law_507 vk_16_82 (as := [_]) rfl k109 rfl (by simp [zrf_cat, cat_int, cat_long]) (j := 2) (by omega) (c_X11_beat (by omega) eq108) ?_
                        refine r_icmp_eq d_L_law_510 (tgt := 1085) (by decide) (fun c110 => ?_) (fun c110 => ?_)
                        · replace e := (if_pos c110).symm.trans e
                          exact f_L_law_1085_ok SL xs hX _ hj ih _ _ _ _ _ _ _ _ g0 g1 g2 g3 g4 e
                        · replace e := (if_neg c110).symm.trans e
                          refine r_iconst d_L_law_513 (v := (0 : Int32)) (by decide +kernel) ?_
                          obtain rfl := Option.some.inj e
                          exact g_iret d_L_law_514 rfl rfl
                      · rcases ite_or e with ⟨c111, e⟩ | ⟨c111, e⟩
                        · refine r_tableIn d_L_law_39 (off := 476) (tgt := 515) (by rw [c111]; decide +kernel) (by rw [c111]; decide +kernel) (by rw [c111] <;> rfl) (by decide) ?_
                          refine g_ald_n d_L_law_515 rfl g1 ?_
                          refine g_ald_n d_L_law_516 rfl g0 ?_
                          refine r_iload d_L_law_517 g4 ?_
                          refine r_iconst d_L_law_519 (v := (1 : Int32)) (by decide +kernel) ?_
                          refine r_iadd d_L_law_520 ?_
                          replace e := ckd e
                          obtain ⟨k112, e⟩ := e
                          refine g_sld hX d_L_law_521 k14 k112 ?_
                          refine g_ald_n d_L_law_522 rfl g0 ?_
                          refine r_iload d_L_law_523 g4 ?_
                          refine r_iconst d_L_law_525 (v := (2 : Int32)) (by decide +kernel) ?_
                          refine r_iadd d_L_law_526 ?_
                          replace e := ckd e
                          obtain ⟨k113, e⟩ := e
                          refine g_sld hX d_L_law_527 k14 k113 ?_
                          replace e := ckd e
                          obtain ⟨k115, e⟩ := e
                          replace e := bd e
                          obtain ⟨q114, eq114, e⟩ := e
                          refine g_callV d_L_law_528 vk_16_83 (as := [_, _]) rfl k115 rfl (by simp [zrf_cat, cat_int, cat_long]) (j := 7) (by omega) (c_X10_finish (by omega) eq114) ?_
                          refine g_ald_n d_L_law_531 rfl g2 ?_
                          refine g_ald_n d_L_law_532 rfl g0 ?_
                          refine r_iload d_L_law_533 g4 ?_
                          refine r_iconst d_L_law_535 (v := (1 : Int32)) (by decide +kernel) ?_
                          refine r_iadd d_L_law_536 ?_
                          replace e := ckd e
                          obtain ⟨k116, e⟩ := e
                          refine g_sld hX d_L_law_537 k14 k116 ?_
                          refine g_ald_n d_L_law_538 rfl g0 ?_
                          refine r_iload d_L_law_539 g4 ?_
                          refine r_iconst d_L_law_541 (v := (2 : Int32)) (by decide +kernel) ?_
                          refine r_iadd d_L_law_542 ?_
                          replace e := ckd e
                          obtain ⟨k117, e⟩ := e
                          refine g_sld hX d_L_law_543 k14 k117 ?_
                          replace e := ckd e
                          obtain ⟨k119, e⟩ := e
                          replace e := bd e
                          obtain ⟨q118, eq118, e⟩ := e
                          refine g_callV d_L_law_544 vk_16_87 (as := [_, _]) rfl k119 rfl (by simp [zrf_cat, cat_int, cat_long]) (j := 646) (by omega) (c_X11_finish (by omega) eq118) ?_
                          refine r_icmp_eq d_L_law_547 (tgt := 1085) (by decide) (fun c120 => ?_) (fun c120 => ?_)
                          · replace e := (if_pos c120).symm.trans e
                            exact f_L_law_1085_ok SL xs hX _ hj ih _ _ _ _ _ _ _ _ g0 g1 g2 g3 g4 e
                          · replace e := (if_neg c120).symm.trans e
                            refine r_iconst d_L_law_550 (v := (0 : Int32)) (by decide +kernel) ?_
                            obtain rfl := Option.some.inj e
                            exact g_iret d_L_law_551 rfl rfl
                        · rcases ite_or e with ⟨c121, e⟩ | ⟨c121, e⟩
                          · refine r_tableIn d_L_law_39 (off := 513) (tgt := 552) (by rw [c121]; decide +kernel) (by rw [c121]; decide +kernel) (by rw [c121] <;> rfl) (by decide) ?_
                            refine g_ald_n d_L_law_552 rfl g1 ?_
                            refine g_ald_n d_L_law_553 rfl g0 ?_
                            refine r_iload d_L_law_554 g4 ?_
                            refine r_iconst d_L_law_556 (v := (1 : Int32)) (by decide +kernel) ?_
                            refine r_iadd d_L_law_557 ?_
                            replace e := ckd e
                            obtain ⟨k122, e⟩ := e
                            refine g_sld hX d_L_law_558 k14 k122 ?_
                            replace e := ckd e
                            obtain ⟨k124, e⟩ := e
                            replace e := bd e
                            obtain ⟨q123, eq123, e⟩ := e
                            refine g_callV d_L_law_559 vk_16_88 (as := [_]) rfl k124 rfl (by simp [zrf_cat, cat_int, cat_long]) (j := 8) (by omega) (c_X10_fail (by omega) eq123) ?_
                            refine g_ald_n d_L_law_562 rfl g2 ?_
                            refine g_ald_n d_L_law_563 rfl g0 ?_
                            refine r_iload d_L_law_564 g4 ?_
                            refine r_iconst d_L_law_566 (v := (1 : Int32)) (by decide +kernel) ?_
                            refine r_iadd d_L_law_567 ?_
                            replace e := ckd e
                            obtain ⟨k125, e⟩ := e
                            refine g_sld hX d_L_law_568 k14 k125 ?_
                            replace e := ckd e
                            obtain ⟨k127, e⟩ := e
                            replace e := bd e
                            obtain ⟨q126, eq126, e⟩ := e
                            refine g_callV d_L_law_569 vk_16_91 (as := [_]) rfl k127 rfl (by simp [zrf_cat, cat_int, cat_long]) (j := 647) (by omega) (c_X11_fail (by omega) eq126) ?_
                            refine r_icmp_eq d_L_law_572 (tgt := 1085) (by decide) (fun c128 => ?_) (fun c128 => ?_)
                            · replace e := (if_pos c128).symm.trans e
                              exact f_L_law_1085_ok SL xs hX _ hj ih _ _ _ _ _ _ _ _ g0 g1 g2 g3 g4 e
                            · replace e := (if_neg c128).symm.trans e
                              refine r_iconst d_L_law_575 (v := (0 : Int32)) (by decide +kernel) ?_
                              obtain rfl := Option.some.inj e
                              exact g_iret d_L_law_576 rfl rfl
                          · rcases ite_or e with ⟨c129, e⟩ | ⟨c129, e⟩
                            · refine r_tableIn d_L_law_39 (off := 538) (tgt := 577) (by rw [c129]; decide +kernel) (by rw [c129]; decide +kernel) (by rw [c129] <;> rfl) (by decide) ?_
                              refine g_ald_n d_L_law_577 rfl g1 ?_
                              refine g_ald_n d_L_law_578 rfl g0 ?_
                              refine r_iload d_L_law_579 g4 ?_
                              refine r_iconst d_L_law_581 (v := (1 : Int32)) (by decide +kernel) ?_
                              refine r_iadd d_L_law_582 ?_
                              replace e := ckd e
                              obtain ⟨k130, e⟩ := e
                              refine g_sld hX d_L_law_583 k14 k130 ?_
                              refine g_ald_n d_L_law_584 rfl g0 ?_
                              refine r_iload d_L_law_585 g4 ?_
                              refine r_iconst d_L_law_587 (v := (2 : Int32)) (by decide +kernel) ?_
                              refine r_iadd d_L_law_588 ?_
                              replace e := ckd e
                              obtain ⟨k131, e⟩ := e
                              refine g_sld hX d_L_law_589 k14 k131 ?_
                              replace e := ckd e
                              obtain ⟨k133, e⟩ := e
                              replace e := bd e
                              obtain ⟨q132, eq132, e⟩ := e
                              refine g_callV d_L_law_590 vk_16_92 (as := [_, _]) rfl k133 rfl (by simp [zrf_cat, cat_int, cat_long]) (j := 4) (by omega) (c_X10_task (by omega) eq132) ?_
                              refine g_ald_n d_L_law_593 rfl g2 ?_
                              refine g_ald_n d_L_law_594 rfl g0 ?_
                              refine r_iload d_L_law_595 g4 ?_
                              refine r_iconst d_L_law_597 (v := (1 : Int32)) (by decide +kernel) ?_
                              refine r_iadd d_L_law_598 ?_
                              replace e := ckd e
                              obtain ⟨k134, e⟩ := e
                              refine g_sld hX d_L_law_599 k14 k134 ?_
                              refine g_ald_n d_L_law_600 rfl g0 ?_
                              refine r_iload d_L_law_601 g4 ?_
                              refine r_iconst d_L_law_603 (v := (2 : Int32)) (by decide +kernel) ?_
                              refine r_iadd d_L_law_604 ?_
                              replace e := ckd e
                              obtain ⟨k135, e⟩ := e
                              refine g_sld hX d_L_law_605 k14 k135 ?_
                              replace e := ckd e
                              obtain ⟨k137, e⟩ := e
                              replace e := bd e
                              obtain ⟨q136, eq136, e⟩ := e
                              refine g_callV d_L_law_606 vk_16_95 (as := [_, _]) rfl k137 rfl (by simp [zrf_cat, cat_int, cat_long]) (j := 3) (by omega) (c_X11_task (by omega) eq136) ?_
                              refine r_icmp_eq d_L_law_609 (tgt := 1085) (by decide) (fun c138 => ?_) (fun c138 => ?_)
                              · replace e := (if_pos c138).symm.trans e
                                exact f_L_law_1085_ok SL xs hX _ hj ih _ _ _ _ _ _ _ _ g0 g1 g2 g3 g4 e
                              · replace e := (if_neg c138).symm.trans e
                                refine r_iconst d_L_law_612 (v := (0 : Int32)) (by decide +kernel) ?_
                                obtain rfl := Option.some.inj e
                                exact g_iret d_L_law_613 rfl rfl
                            · rcases ite_or e with ⟨c139, e⟩ | ⟨c139, e⟩
                              · refine r_tableIn d_L_law_39 (off := 575) (tgt := 614) (by rw [c139]; decide +kernel) (by rw [c139]; decide +kernel) (by rw [c139] <;> rfl) (by decide) ?_
                                refine g_ald_n d_L_law_614 rfl g1 ?_
                                refine g_ald_n d_L_law_615 rfl g0 ?_
                                refine r_iload d_L_law_616 g4 ?_
                                refine r_iconst d_L_law_618 (v := (1 : Int32)) (by decide +kernel) ?_
                                refine r_iadd d_L_law_619 ?_
                                replace e := ckd e
                                obtain ⟨k140, e⟩ := e
                                refine g_sld hX d_L_law_620 k14 k140 ?_
                                refine g_ald_n d_L_law_621 rfl g3 ?_
                                replace e := bd e
                                obtain ⟨q141, eq141, e⟩ := e
                                refine g_callW d_L_law_622 yw_L_tick (by decide +kernel) (by decide +kernel) (as := [_, _, _]) rfl rfl (by simp [zrf_cat, cat_int, cat_long]) (j := 10) (by omega) (c_L_tick (by omega) eq141) ?_
                                refine s_istore d_L_law_625 (by decide) (fun L g5 gK => ?_)
                                replace g0 := gK _ _ (by decide) (Or.inr (zrf_cat _)) g0
                                replace g1 := gK _ _ (by decide) (Or.inr (zrf_cat _)) g1
                                replace g2 := gK _ _ (by decide) (Or.inr (zrf_cat _)) g2
                                replace g3 := gK _ _ (by decide) (Or.inr (zrf_cat _)) g3
                                replace g4 := gK _ _ (by decide) (Or.inr rfl) g4
                                refine g_ald_n d_L_law_627 rfl g2 ?_
                                refine g_ald_n d_L_law_628 rfl g0 ?_
                                refine r_iload d_L_law_629 g4 ?_
                                refine r_iconst d_L_law_631 (v := (1 : Int32)) (by decide +kernel) ?_
                                refine r_iadd d_L_law_632 ?_
                                replace e := ckd e
                                obtain ⟨k142, e⟩ := e
                                refine g_sld hX d_L_law_633 k14 k142 ?_
                                replace e := ckd e
                                obtain ⟨k144, e⟩ := e
                                replace e := bd e
                                obtain ⟨q143, eq143, e⟩ := e
                                refine g_callV d_L_law_634 vk_16_98 (as := [_]) rfl k144 rfl (by simp [zrf_cat, cat_int, cat_long]) (j := 650) (by omega) (c_X11_tick (by omega) eq143) ?_
                                refine s_istore d_L_law_637 (by decide) (fun L g6 gK => ?_)
                                replace g0 := gK _ _ (by decide) (Or.inr (zrf_cat _)) g0
                                replace g1 := gK _ _ (by decide) (Or.inr (zrf_cat _)) g1
                                replace g2 := gK _ _ (by decide) (Or.inr (zrf_cat _)) g2
                                replace g3 := gK _ _ (by decide) (Or.inr (zrf_cat _)) g3
                                replace g4 := gK _ _ (by decide) (Or.inr rfl) g4
                                replace g5 := gK _ _ (by decide) (Or.inr rfl) g5
                                refine g_ald_n d_L_law_639 rfl g2 ?_
                                replace e := ckd e
                                obtain ⟨k146, e⟩ := e
                                replace e := bd e
                                obtain ⟨q145, eq145, e⟩ := e
                                refine g_callV d_L_law_640 vk_16_49 (as := []) rfl k146 rfl (by simp [zrf_cat, cat_int, cat_long]) (j := 1) (by omega) (c_X11_thrown (by omega) eq145) ?_
                                refine r_iload d_L_law_643 g5 ?_
                                refine r_icmp_eq d_L_law_645 (tgt := 650) (by decide) (fun c147 => ?_) (fun c147 => ?_)
                                · replace e := (if_pos c147).symm.trans e
                                  refine r_iload d_L_law_650 g5 ?_
                                  refine r_if_ne d_L_law_652 (tgt := 667) (by decide) (fun c148 => ?_) (fun c148 => ?_)
                                  · replace e := (if_neg c148).symm.trans e
                                    exact f_L_law_667_ok SL xs hX _ hj ih _ _ _ _ _ _ _ _ g0 g1 g2 g3 g4 e
                                  · replace e := (if_pos c148).symm.trans e
                                    refine g_ald_n d_L_law_655 rfl g3 ?_
                                    refine r_iconst d_L_law_656 (v := (0 : Int32)) (by decide +kernel) ?_
                                    replace e := ckd e
                                    obtain ⟨k149, e⟩ := e
                                    replace e := ckd e
                                    obtain ⟨k150, e⟩ := e
                                    refine g_lald d_L_law_657 k149 k150 rfl ?_
                                    refine r_iload d_L_law_658 g6 ?_
                                    refine r_i2l d_L_law_660 ?_
                                    refine r_lcmp d_L_law_661 ?_
                                    refine r_if_eq d_L_law_662 (tgt := 667) (by decide) (fun c151 => ?_) (fun c151 => ?_)
                                    · replace e := (if_pos c151).symm.trans e
                                      exact f_L_law_667_ok SL xs hX _ hj ih _ _ _ _ _ _ _ _ g0 g1 g2 g3 g4 e
                                    · replace e := (if_neg c151).symm.trans e
                                      refine r_iconst d_L_law_665 (v := (0 : Int32)) (by decide +kernel) ?_
                                      obtain rfl := Option.some.inj e
                                      exact g_iret d_L_law_666 rfl rfl
                                · replace e := (if_neg c147).symm.trans e
                                  refine r_iconst d_L_law_648 (v := (0 : Int32)) (by decide +kernel) ?_
                                  obtain rfl := Option.some.inj e
                                  exact g_iret d_L_law_649 rfl rfl
                              · rcases ite_or e with ⟨c152, e⟩ | ⟨c152, e⟩
                                · refine r_tableIn d_L_law_39 (off := 631) (tgt := 670) (by rw [c152]; decide +kernel) (by rw [c152]; decide +kernel) (by rw [c152] <;> rfl) (by decide) ?_
                                  refine g_ald_n d_L_law_670 rfl g1 ?_
                                  refine g_ald_n d_L_law_671 rfl g0 ?_
                                  refine r_iload d_L_law_672 g4 ?_
                                  refine r_iconst d_L_law_674 (v := (1 : Int32)) (by decide +kernel) ?_
                                  refine r_iadd d_L_law_675 ?_
                                  replace e := ckd e
                                  obtain ⟨k153, e⟩ := e
                                  refine g_sld hX d_L_law_676 k14 k153 ?_
                                  refine g_ald_n d_L_law_677 rfl g0 ?_
                                  refine r_iload d_L_law_678 g4 ?_
                                  refine r_iconst d_L_law_680 (v := (2 : Int32)) (by decide +kernel) ?_
                                  refine r_iadd d_L_law_681 ?_
                                  replace e := ckd e
                                  obtain ⟨k154, e⟩ := e
                                  refine g_sld hX d_L_law_682 k14 k154 ?_
                                  replace e := ckd e
                                  obtain ⟨k156, e⟩ := e
                                  replace e := bd e
                                  obtain ⟨q155, eq155, e⟩ := e
                                  refine g_callV d_L_law_683 vk_16_99 (as := [_, _]) rfl k156 rfl (by simp [zrf_cat, cat_int, cat_long]) (j := 2) (by omega) (c_X10_replicas (by omega) eq155) ?_
                                  refine g_ald_n d_L_law_686 rfl g2 ?_
                                  refine g_ald_n d_L_law_687 rfl g0 ?_
                                  refine r_iload d_L_law_688 g4 ?_
                                  refine r_iconst d_L_law_690 (v := (1 : Int32)) (by decide +kernel) ?_
                                  refine r_iadd d_L_law_691 ?_
                                  replace e := ckd e
                                  obtain ⟨k157, e⟩ := e
                                  refine g_sld hX d_L_law_692 k14 k157 ?_
                                  refine g_ald_n d_L_law_693 rfl g0 ?_
                                  refine r_iload d_L_law_694 g4 ?_
                                  refine r_iconst d_L_law_696 (v := (2 : Int32)) (by decide +kernel) ?_
                                  refine r_iadd d_L_law_697 ?_
                                  replace e := ckd e
                                  obtain ⟨k158, e⟩ := e
                                  refine g_sld hX d_L_law_698 k14 k158 ?_
                                  replace e := ckd e
                                  obtain ⟨k160, e⟩ := e
                                  replace e := bd e
                                  obtain ⟨q159, eq159, e⟩ := e
                                  refine g_callV d_L_law_699 vk_16_102 (as := [_, _]) rfl k160 rfl (by simp [zrf_cat, cat_int, cat_long]) (j := 2) (by omega) (c_X11_replicas (by omega) eq159) ?_
                                  refine r_icmp_eq d_L_law_702 (tgt := 1085) (by decide) (fun c161 => ?_) (fun c161 => ?_)
                                  · replace e := (if_pos c161).symm.trans e
                                    exact f_L_law_1085_ok SL xs hX _ hj ih _ _ _ _ _ _ _ _ g0 g1 g2 g3 g4 e
                                  · replace e := (if_neg c161).symm.trans e
                                    refine r_iconst d_L_law_705 (v := (0 : Int32)) (by decide +kernel) ?_
                                    obtain rfl := Option.some.inj e
                                    exact g_iret d_L_law_706 rfl rfl
                                · rcases ite_or e with ⟨c162, e⟩ | ⟨c162, e⟩
                                  · refine r_tableIn d_L_law_39 (off := 668) (tgt := 707) (by rw [c162]; decide +kernel) (by rw [c162]; decide +kernel) (by rw [c162] <;> rfl) (by decide) ?_
                                    refine g_ald_n d_L_law_707 rfl g1 ?_
                                    refine g_ald_n d_L_law_708 rfl g0 ?_
                                    refine r_iload d_L_law_709 g4 ?_
                                    refine r_iconst d_L_law_711 (v := (1 : Int32)) (by decide +kernel) ?_
                                    refine r_iadd d_L_law_712 ?_
                                    replace e := ckd e
                                    obtain ⟨k163, e⟩ := e
                                    refine g_sld hX d_L_law_713 k14 k163 ?_
                                    refine g_ald_n d_L_law_714 rfl g0 ?_
                                    refine r_iload d_L_law_715 g4 ?_
                                    refine r_iconst d_L_law_717 (v := (2 : Int32)) (by decide +kernel) ?_
                                    refine r_iadd d_L_law_718 ?_
                                    replace e := ckd e
                                    obtain ⟨k164, e⟩ := e
                                    refine g_sld hX d_L_law_719 k14 k164 ?_
                                    refine g_ald_n d_L_law_720 rfl g0 ?_
                                    refine r_iload d_L_law_721 g4 ?_
                                    refine r_iconst d_L_law_723 (v := (3 : Int32)) (by decide +kernel) ?_
                                    refine r_iadd d_L_law_724 ?_
                                    replace e := ckd e
                                    obtain ⟨k165, e⟩ := e
                                    refine g_sld hX d_L_law_725 k14 k165 ?_
                                    refine r_if_eq d_L_law_726 (tgt := 733) (by decide) (fun c166 => ?_) (fun c166 => ?_)
                                    · replace e := (if_pos c166).symm.trans e
                                      refine r_iconst d_L_law_733 (v := (0 : Int32)) (by decide +kernel) ?_
                                      exact f_L_law_734_ok SL xs hX _ hj ih _ _ _ _ _ _ _ _ _ _ _ _ g0 g1 g2 g3 g4 e
                                    · replace e := (if_neg c166).symm.trans e
                                      refine r_iconst d_L_law_729 (v := (1 : Int32)) (by decide +kernel) ?_
                                      refine r_goto d_L_law_730 (tgt := 734) (by decide) ?_
                                      exact f_L_law_734_ok SL xs hX _ hj ih _ _ _ _ _ _ _ _ _ _ _ _ g0 g1 g2 g3 g4 e
                                  · rcases ite_or e with ⟨c167, e⟩ | ⟨c167, e⟩
                                    · refine r_tableIn d_L_law_39 (off := 733) (tgt := 772) (by rw [c167]; decide +kernel) (by rw [c167]; decide +kernel) (by rw [c167] <;> rfl) (by decide) ?_
                                      refine g_ald_n d_L_law_772 rfl g1 ?_
                                      refine g_ald_n d_L_law_773 rfl g0 ?_
                                      refine r_iload d_L_law_774 g4 ?_
                                      refine r_iconst d_L_law_776 (v := (1 : Int32)) (by decide +kernel) ?_
                                      refine r_iadd d_L_law_777 ?_
                                      replace e := ckd e
                                      obtain ⟨k168, e⟩ := e
                                      refine g_sld hX d_L_law_778 k14 k168 ?_
                                      refine g_ald_n d_L_law_779 rfl g0 ?_
                                      refine r_iload d_L_law_780 g4 ?_
                                      refine r_iconst d_L_law_782 (v := (2 : Int32)) (by decide +kernel) ?_
                                      refine r_iadd d_L_law_783 ?_
                                      replace e := ckd e
                                      obtain ⟨k169, e⟩ := e
                                      refine g_sld hX d_L_law_784 k14 k169 ?_
                                      refine g_ald_n d_L_law_785 rfl g0 ?_
                                      refine r_iload d_L_law_786 g4 ?_
                                      refine r_iconst d_L_law_788 (v := (3 : Int32)) (by decide +kernel) ?_
                                      refine r_iadd d_L_law_789 ?_
                                      replace e := ckd e
                                      obtain ⟨k170, e⟩ := e
                                      refine g_sld hX d_L_law_790 k14 k170 ?_
                                      replace e := ckd e
                                      obtain ⟨k172, e⟩ := e
                                      replace e := bd e
                                      obtain ⟨q171, eq171, e⟩ := e
                                      refine g_callV d_L_law_791 vk_16_108 (as := [_, _, _]) rfl k172 rfl (by simp [zrf_cat, cat_int, cat_long]) (j := 2) (by omega) (c_X10_fuse (by omega) eq171) ?_
                                      refine g_ald_n d_L_law_794 rfl g2 ?_
                                      refine g_ald_n d_L_law_795 rfl g0 ?_
                                      refine r_iload d_L_law_796 g4 ?_
                                      refine r_iconst d_L_law_798 (v := (1 : Int32)) (by decide +kernel) ?_
                                      refine r_iadd d_L_law_799 ?_
                                      replace e := ckd e
                                      obtain ⟨k173, e⟩ := e
                                      refine g_sld hX d_L_law_800 k14 k173 ?_
                                      refine g_ald_n d_L_law_801 rfl g0 ?_
                                      refine r_iload d_L_law_802 g4 ?_
                                      refine r_iconst d_L_law_804 (v := (2 : Int32)) (by decide +kernel) ?_
                                      refine r_iadd d_L_law_805 ?_
                                      replace e := ckd e
                                      obtain ⟨k174, e⟩ := e
                                      refine g_sld hX d_L_law_806 k14 k174 ?_
                                      refine g_ald_n d_L_law_807 rfl g0 ?_
                                      refine r_iload d_L_law_808 g4 ?_
                                      refine r_iconst d_L_law_810 (v := (3 : Int32)) (by decide +kernel) ?_
                                      refine r_iadd d_L_law_811 ?_
                                      replace e := ckd e
                                      obtain ⟨k175, e⟩ := e
                                      refine g_sld hX d_L_law_812 k14 k175 ?_
                                      replace e := ckd e
                                      obtain ⟨k177, e⟩ := e
                                      replace e := bd e
                                      obtain ⟨q176, eq176, e⟩ := e
                                      refine g_callV d_L_law_813 vk_16_111 (as := [_, _, _]) rfl k177 rfl (by simp [zrf_cat, cat_int, cat_long]) (j := 3) (by omega) (c_X11_fuse (by omega) eq176) ?_
                                      refine r_icmp_eq d_L_law_816 (tgt := 1085) (by decide) (fun c178 => ?_) (fun c178 => ?_)
                                      · replace e := (if_pos c178).symm.trans e
                                        exact f_L_law_1085_ok SL xs hX _ hj ih _ _ _ _ _ _ _ _ g0 g1 g2 g3 g4 e
                                      · replace e := (if_neg c178).symm.trans e
                                        refine r_iconst d_L_law_819 (v := (0 : Int32)) (by decide +kernel) ?_
                                        obtain rfl := Option.some.inj e
                                        exact g_iret d_L_law_820 rfl rfl
                                    · rcases ite_or e with ⟨c179, e⟩ | ⟨c179, e⟩
                                      · refine r_tableIn d_L_law_39 (off := 782) (tgt := 821) (by rw [c179]; decide +kernel) (by rw [c179]; decide +kernel) (by rw [c179] <;> rfl) (by decide) ?_
                                        refine g_ald_n d_L_law_821 rfl g1 ?_
                                        refine g_ald_n d_L_law_822 rfl g0 ?_
                                        refine r_iload d_L_law_823 g4 ?_
                                        refine r_iconst d_L_law_825 (v := (1 : Int32)) (by decide +kernel) ?_
                                        refine r_iadd d_L_law_826 ?_
                                        replace e := ckd e
                                        obtain ⟨k180, e⟩ := e
                                        refine g_sld hX d_L_law_827 k14 k180 ?_
                                        refine g_ald_n d_L_law_828 rfl g0 ?_
                                        refine r_iload d_L_law_829 g4 ?_
                                        refine r_iconst d_L_law_831 (v := (2 : Int32)) (by decide +kernel) ?_
                                        refine r_iadd d_L_law_832 ?_
                                        replace e := ckd e
                                        obtain ⟨k181, e⟩ := e
                                        refine g_sld hX d_L_law_833 k14 k181 ?_
                                        replace e := ckd e
                                        obtain ⟨k183, e⟩ := e
                                        replace e := bd e
                                        obtain ⟨q182, eq182, e⟩ := e
                                        refine g_callV d_L_law_834 vk_16_112 (as := [_, _]) rfl k183 rfl (by simp [zrf_cat, cat_int, cat_long]) (j := 3) (by omega) (c_X10_workflow (by omega) eq182) ?_
                                        refine g_ald_n d_L_law_837 rfl g2 ?_
                                        refine g_ald_n d_L_law_838 rfl g0 ?_
                                        refine r_iload d_L_law_839 g4 ?_
                                        refine r_iconst d_L_law_841 (v := (1 : Int32)) (by decide +kernel) ?_
                                        refine r_iadd d_L_law_842 ?_
                                        replace e := ckd e
                                        obtain ⟨k184, e⟩ := e
                                        refine g_sld hX d_L_law_843 k14 k184 ?_
                                        refine g_ald_n d_L_law_844 rfl g0 ?_
                                        refine r_iload d_L_law_845 g4 ?_
                                        refine r_iconst d_L_law_847 (v := (2 : Int32)) (by decide +kernel) ?_
                                        refine r_iadd d_L_law_848 ?_
                                        replace e := ckd e
                                        obtain ⟨k185, e⟩ := e
                                        refine g_sld hX d_L_law_849 k14 k185 ?_
                                        replace e := ckd e
                                        obtain ⟨k187, e⟩ := e
                                        replace e := bd e
                                        obtain ⟨q186, eq186, e⟩ := e
                                        refine g_callV d_L_law_850 vk_16_115 (as := [_, _]) rfl k187 rfl (by simp [zrf_cat, cat_int, cat_long]) (j := 4) (by omega) (c_X11_workflow (by omega) eq186) ?_
                                        refine r_icmp_eq d_L_law_853 (tgt := 1085) (by decide) (fun c188 => ?_) (fun c188 => ?_)
                                        · replace e := (if_pos c188).symm.trans e
                                          exact f_L_law_1085_ok SL xs hX _ hj ih _ _ _ _ _ _ _ _ g0 g1 g2 g3 g4 e
                                        · replace e := (if_neg c188).symm.trans e
                                          refine r_iconst d_L_law_856 (v := (0 : Int32)) (by decide +kernel) ?_
                                          obtain rfl := Option.some.inj e
                                          exact g_iret d_L_law_857 rfl rfl
                                      · rcases ite_or e with ⟨c189, e⟩ | ⟨c189, e⟩
                                        · refine r_tableIn d_L_law_39 (off := 819) (tgt := 858) (by rw [c189]; decide +kernel) (by rw [c189]; decide +kernel) (by rw [c189] <;> rfl) (by decide) ?_
                                          refine g_ald_n d_L_law_858 rfl g1 ?_
                                          refine g_ald_n d_L_law_859 rfl g0 ?_
                                          refine r_iload d_L_law_860 g4 ?_
                                          refine r_iconst d_L_law_862 (v := (1 : Int32)) (by decide +kernel) ?_
                                          refine r_iadd d_L_law_863 ?_
                                          replace e := ckd e
                                          obtain ⟨k190, e⟩ := e
                                          refine g_sld hX d_L_law_864 k14 k190 ?_
                                          refine g_ald_n d_L_law_865 rfl g0 ?_
                                          refine r_iload d_L_law_866 g4 ?_
                                          refine r_iconst d_L_law_868 (v := (2 : Int32)) (by decide +kernel) ?_
                                          refine r_iadd d_L_law_869 ?_
                                          replace e := ckd e
                                          obtain ⟨k191, e⟩ := e
                                          refine g_sld hX d_L_law_870 k14 k191 ?_
                                          refine g_ald_n d_L_law_871 rfl g0 ?_
                                          refine r_iload d_L_law_872 g4 ?_
                                          refine r_iconst d_L_law_874 (v := (3 : Int32)) (by decide +kernel) ?_
                                          refine r_iadd d_L_law_875 ?_
                                          replace e := ckd e
                                          obtain ⟨k192, e⟩ := e
                                          refine g_sld hX d_L_law_876 k14 k192 ?_
                                          refine g_ald_n d_L_law_877 rfl g3 ?_
                                          replace e := bd e
                                          obtain ⟨q193, eq193, e⟩ := e
                                          refine g_callW d_L_law_878 yw_L_event (by decide +kernel) (by decide +kernel) (as := [_, _, _, _, _]) rfl rfl (by simp [zrf_cat, cat_int, cat_long]) (j := 7) (by omega) (c_L_event (by omega) eq193) ?_
                                          refine s_istore d_L_law_881 (by decide) (fun L g5 gK => ?_)
                                          replace g0 := gK _ _ (by decide) (Or.inr (zrf_cat _)) g0
                                          replace g1 := gK _ _ (by decide) (Or.inr (zrf_cat _)) g1
                                          replace g2 := gK _ _ (by decide) (Or.inr (zrf_cat _)) g2
                                          replace g3 := gK _ _ (by decide) (Or.inr (zrf_cat _)) g3
                                          replace g4 := gK _ _ (by decide) (Or.inr rfl) g4
                                          refine g_ald_n d_L_law_883 rfl g2 ?_
                                          refine g_ald_n d_L_law_884 rfl g0 ?_
                                          refine r_iload d_L_law_885 g4 ?_
                                          refine r_iconst d_L_law_887 (v := (1 : Int32)) (by decide +kernel) ?_
                                          refine r_iadd d_L_law_888 ?_
                                          replace e := ckd e
                                          obtain ⟨k194, e⟩ := e
                                          refine g_sld hX d_L_law_889 k14 k194 ?_
                                          refine g_ald_n d_L_law_890 rfl g0 ?_
                                          refine r_iload d_L_law_891 g4 ?_
                                          refine r_iconst d_L_law_893 (v := (2 : Int32)) (by decide +kernel) ?_
                                          refine r_iadd d_L_law_894 ?_
                                          replace e := ckd e
                                          obtain ⟨k195, e⟩ := e
                                          refine g_sld hX d_L_law_895 k14 k195 ?_
                                          refine g_ald_n d_L_law_896 rfl g0 ?_
                                          refine r_iload d_L_law_897 g4 ?_
                                          refine r_iconst d_L_law_899 (v := (3 : Int32)) (by decide +kernel) ?_
                                          refine r_iadd d_L_law_900 ?_
                                          replace e := ckd e
                                          obtain ⟨k196, e⟩ := e
                                          refine g_sld hX d_L_law_901 k14 k196 ?_
                                          replace e := ckd e
                                          obtain ⟨k198, e⟩ := e
                                          replace e := bd e
                                          obtain ⟨q197, eq197, e⟩ := e
                                          refine g_callV d_L_law_902 vk_16_119 (as := [_, _, _]) rfl k198 rfl (by simp [zrf_cat, cat_int, cat_long]) (j := 2) (by omega) (c_X11_event_ (by omega) eq197) ?_
                                          refine s_istore d_L_law_905 (by decide) (fun L g6 gK => ?_)
                                          replace g0 := gK _ _ (by decide) (Or.inr (zrf_cat _)) g0
                                          replace g1 := gK _ _ (by decide) (Or.inr (zrf_cat _)) g1
                                          replace g2 := gK _ _ (by decide) (Or.inr (zrf_cat _)) g2
                                          replace g3 := gK _ _ (by decide) (Or.inr (zrf_cat _)) g3
                                          replace g4 := gK _ _ (by decide) (Or.inr rfl) g4
                                          replace g5 := gK _ _ (by decide) (Or.inr rfl) g5
                                          refine g_ald_n d_L_law_907 rfl g2 ?_
                                          replace e := ckd e
                                          obtain ⟨k200, e⟩ := e
                                          replace e := bd e
                                          obtain ⟨q199, eq199, e⟩ := e
                                          refine g_callV d_L_law_908 vk_16_49 (as := []) rfl k200 rfl (by simp [zrf_cat, cat_int, cat_long]) (j := 1) (by omega) (c_X11_thrown (by omega) eq199) ?_
                                          refine r_iload d_L_law_911 g5 ?_
                                          refine r_icmp_eq d_L_law_913 (tgt := 918) (by decide) (fun c201 => ?_) (fun c201 => ?_)
                                          · replace e := (if_pos c201).symm.trans e
                                            refine r_iload d_L_law_918 g5 ?_
                                            refine r_if_ne d_L_law_920 (tgt := 935) (by decide) (fun c202 => ?_) (fun c202 => ?_)
                                            · replace e := (if_neg c202).symm.trans e
                                              exact f_L_law_935_ok SL xs hX _ hj ih _ _ _ _ _ _ _ _ g0 g1 g2 g3 g4 e
                                            · replace e := (if_pos c202).symm.trans e
                                              refine g_ald_n d_L_law_923 rfl g3 ?_
                                              refine r_iconst d_L_law_924 (v := (0 : Int32)) (by decide +kernel) ?_
                                              replace e := ckd e
                                              obtain ⟨k203, e⟩ := e
                                              replace e := ckd e
                                              obtain ⟨k204, e⟩ := e
                                              refine g_lald d_L_law_925 k203 k204 rfl ?_
                                              refine r_iload d_L_law_926 g6 ?_
                                              refine r_i2l d_L_law_928 ?_
                                              refine r_lcmp d_L_law_929 ?_
                                              refine r_if_eq d_L_law_930 (tgt := 935) (by decide) (fun c205 => ?_) (fun c205 => ?_)
                                              · replace e := (if_pos c205).symm.trans e
                                                exact f_L_law_935_ok SL xs hX _ hj ih _ _ _ _ _ _ _ _ g0 g1 g2 g3 g4 e
                                              · replace e := (if_neg c205).symm.trans e
                                                refine r_iconst d_L_law_933 (v := (0 : Int32)) (by decide +kernel) ?_
                                                obtain rfl := Option.some.inj e
                                                exact g_iret d_L_law_934 rfl rfl
                                          · replace e := (if_neg c201).symm.trans e
                                            refine r_iconst d_L_law_916 (v := (0 : Int32)) (by decide +kernel) ?_
                                            obtain rfl := Option.some.inj e
                                            exact g_iret d_L_law_917 rfl rfl
                                        · rcases ite_or e with ⟨c206, e⟩ | ⟨c206, e⟩
                                          · refine r_tableIn d_L_law_39 (off := 899) (tgt := 938) (by rw [c206]; decide +kernel) (by rw [c206]; decide +kernel) (by rw [c206] <;> rfl) (by decide) ?_
                                            refine g_ald_n d_L_law_938 rfl g1 ?_
                                            refine g_ald_n d_L_law_939 rfl g0 ?_
                                            refine r_iload d_L_law_940 g4 ?_
                                            refine r_iconst d_L_law_942 (v := (1 : Int32)) (by decide +kernel) ?_
                                            refine r_iadd d_L_law_943 ?_
                                            replace e := ckd e
                                            obtain ⟨k207, e⟩ := e
                                            refine g_sld hX d_L_law_944 k14 k207 ?_
                                            refine g_ald_n d_L_law_945 rfl g0 ?_
                                            refine r_iload d_L_law_946 g4 ?_
                                            refine r_iconst d_L_law_948 (v := (2 : Int32)) (by decide +kernel) ?_
                                            refine r_iadd d_L_law_949 ?_
                                            replace e := ckd e
                                            obtain ⟨k208, e⟩ := e
                                            refine g_sld hX d_L_law_950 k14 k208 ?_
                                            replace e := ckd e
                                            obtain ⟨k210, e⟩ := e
                                            replace e := bd e
                                            obtain ⟨q209, eq209, e⟩ := e
                                            refine g_callV d_L_law_951 vk_16_120 (as := [_, _]) rfl k210 rfl (by simp [zrf_cat, cat_int, cat_long]) (j := 2) (by omega) (c_X10_shard (by omega) eq209) ?_
                                            refine g_ald_n d_L_law_954 rfl g2 ?_
                                            refine g_ald_n d_L_law_955 rfl g0 ?_
                                            refine r_iload d_L_law_956 g4 ?_
                                            refine r_iconst d_L_law_958 (v := (1 : Int32)) (by decide +kernel) ?_
                                            refine r_iadd d_L_law_959 ?_
                                            replace e := ckd e
                                            obtain ⟨k211, e⟩ := e
                                            refine g_sld hX d_L_law_960 k14 k211 ?_
                                            refine g_ald_n d_L_law_961 rfl g0 ?_
                                            refine r_iload d_L_law_962 g4 ?_
                                            refine r_iconst d_L_law_964 (v := (2 : Int32)) (by decide +kernel) ?_
                                            refine r_iadd d_L_law_965 ?_
                                            replace e := ckd e
                                            obtain ⟨k212, e⟩ := e
                                            refine g_sld hX d_L_law_966 k14 k212 ?_
                                            replace e := ckd e
                                            obtain ⟨k214, e⟩ := e
                                            replace e := bd e
                                            obtain ⟨q213, eq213, e⟩ := e
                                            refine g_callV d_L_law_967 vk_16_123 (as := [_, _]) rfl k214 rfl (by simp [zrf_cat, cat_int, cat_long]) (j := 2) (by omega) (c_X11_shard (by omega) eq213) ?_
                                            refine r_icmp_eq d_L_law_970 (tgt := 1085) (by decide) (fun c215 => ?_) (fun c215 => ?_)
                                            · replace e := (if_pos c215).symm.trans e
                                              exact f_L_law_1085_ok SL xs hX _ hj ih _ _ _ _ _ _ _ _ g0 g1 g2 g3 g4 e
                                            · replace e := (if_neg c215).symm.trans e
                                              refine r_iconst d_L_law_973 (v := (0 : Int32)) (by decide +kernel) ?_
                                              obtain rfl := Option.some.inj e
                                              exact g_iret d_L_law_974 rfl rfl
                                          · rcases ite_or e with ⟨c216, e⟩ | ⟨c216, e⟩
                                            · refine r_tableIn d_L_law_39 (off := 936) (tgt := 975) (by rw [c216]; decide +kernel) (by rw [c216]; decide +kernel) (by rw [c216] <;> rfl) (by decide) ?_
                                              refine g_ald_n d_L_law_975 rfl g1 ?_
                                              refine g_ald_n d_L_law_976 rfl g0 ?_
                                              refine r_iload d_L_law_977 g4 ?_
                                              refine r_iconst d_L_law_979 (v := (1 : Int32)) (by decide +kernel) ?_
                                              refine r_iadd d_L_law_980 ?_
                                              replace e := ckd e
                                              obtain ⟨k217, e⟩ := e
                                              refine g_sld hX d_L_law_981 k14 k217 ?_
                                              refine g_ald_n d_L_law_982 rfl g0 ?_
                                              refine r_iload d_L_law_983 g4 ?_
                                              refine r_iconst d_L_law_985 (v := (2 : Int32)) (by decide +kernel) ?_
                                              refine r_iadd d_L_law_986 ?_
                                              replace e := ckd e
                                              obtain ⟨k218, e⟩ := e
                                              refine g_sld hX d_L_law_987 k14 k218 ?_
                                              refine g_ald_n d_L_law_988 rfl g0 ?_
                                              refine r_iload d_L_law_989 g4 ?_
                                              refine r_iconst d_L_law_991 (v := (3 : Int32)) (by decide +kernel) ?_
                                              refine r_iadd d_L_law_992 ?_
                                              replace e := ckd e
                                              obtain ⟨k219, e⟩ := e
                                              refine g_sld hX d_L_law_993 k14 k219 ?_
                                              replace e := ckd e
                                              obtain ⟨k221, e⟩ := e
                                              replace e := bd e
                                              obtain ⟨q220, eq220, e⟩ := e
                                              refine g_callV d_L_law_994 vk_16_124 (as := [_, _, _]) rfl k221 rfl (by simp [zrf_cat, cat_int, cat_long]) (j := 2) (by omega) (c_X10_replica (by omega) eq220) ?_
                                              refine g_ald_n d_L_law_997 rfl g2 ?_
                                              refine g_ald_n d_L_law_998 rfl g0 ?_
                                              refine r_iload d_L_law_999 g4 ?_
                                              refine r_iconst d_L_law_1001 (v := (1 : Int32)) (by decide +kernel) ?_
                                              refine r_iadd d_L_law_1002 ?_
                                              replace e := ckd e
                                              obtain ⟨k222, e⟩ := e
                                              refine g_sld hX d_L_law_1003 k14 k222 ?_
                                              refine g_ald_n d_L_law_1004 rfl g0 ?_
                                              refine r_iload d_L_law_1005 g4 ?_
                                              refine r_iconst d_L_law_1007 (v := (2 : Int32)) (by decide +kernel) ?_
                                              refine r_iadd d_L_law_1008 ?_
                                              replace e := ckd e
                                              obtain ⟨k223, e⟩ := e
                                              refine g_sld hX d_L_law_1009 k14 k223 ?_
                                              refine g_ald_n d_L_law_1010 rfl g0 ?_
                                              refine r_iload d_L_law_1011 g4 ?_
                                              refine r_iconst d_L_law_1013 (v := (3 : Int32)) (by decide +kernel) ?_
                                              refine r_iadd d_L_law_1014 ?_
                                              replace e := ckd e
                                              obtain ⟨k224, e⟩ := e
                                              refine g_sld hX d_L_law_1015 k14 k224 ?_
                                              replace e := ckd e
                                              obtain ⟨k226, e⟩ := e
                                              replace e := bd e
                                              obtain ⟨q225, eq225, e⟩ := e
                                              refine g_callV d_L_law_1016 vk_16_127 (as := [_, _, _]) rfl k226 rfl (by simp [zrf_cat, cat_int, cat_long]) (j := 3) (by omega) (c_X11_replica (by omega) eq225) ?_
                                              refine r_icmp_eq d_L_law_1019 (tgt := 1085) (by decide) (fun c227 => ?_) (fun c227 => ?_)
                                              · replace e := (if_pos c227).symm.trans e
                                                exact f_L_law_1085_ok SL xs hX _ hj ih _ _ _ _ _ _ _ _ g0 g1 g2 g3 g4 e
                                              · replace e := (if_neg c227).symm.trans e
                                                refine r_iconst d_L_law_1022 (v := (0 : Int32)) (by decide +kernel) ?_
                                                obtain rfl := Option.some.inj e
                                                exact g_iret d_L_law_1023 rfl rfl
                                            · rcases ite_or e with ⟨c228, e⟩ | ⟨c228, e⟩
                                              · refine r_tableIn d_L_law_39 (off := 985) (tgt := 1024) (by rw [c228]; decide +kernel) (by rw [c228]; decide +kernel) (by rw [c228] <;> rfl) (by decide) ?_
                                                refine g_ald_n d_L_law_1024 rfl g1 ?_
                                                refine g_ald_n d_L_law_1025 rfl g0 ?_
                                                refine r_iload d_L_law_1026 g4 ?_
                                                refine r_iconst d_L_law_1028 (v := (1 : Int32)) (by decide +kernel) ?_
                                                refine r_iadd d_L_law_1029 ?_
                                                replace e := ckd e
                                                obtain ⟨k229, e⟩ := e
                                                refine g_sld hX d_L_law_1030 k14 k229 ?_
                                                refine g_ald_n d_L_law_1031 rfl g0 ?_
                                                refine r_iload d_L_law_1032 g4 ?_
                                                refine r_iconst d_L_law_1034 (v := (2 : Int32)) (by decide +kernel) ?_
                                                refine r_iadd d_L_law_1035 ?_
                                                replace e := ckd e
                                                obtain ⟨k230, e⟩ := e
                                                refine g_sld hX d_L_law_1036 k14 k230 ?_
                                                refine g_ald_n d_L_law_1037 rfl g0 ?_
                                                refine r_iload d_L_law_1038 g4 ?_
                                                refine r_iconst d_L_law_1040 (v := (3 : Int32)) (by decide +kernel) ?_
                                                refine r_iadd d_L_law_1041 ?_
                                                replace e := ckd e
                                                obtain ⟨k231, e⟩ := e
                                                refine g_sld hX d_L_law_1042 k14 k231 ?_
                                                refine g_ald_n d_L_law_1043 rfl g0 ?_
                                                refine r_iload d_L_law_1044 g4 ?_
                                                refine r_iconst d_L_law_1046 (v := (4 : Int32)) (by decide +kernel) ?_
                                                refine r_iadd d_L_law_1047 ?_
                                                replace e := ckd e
                                                obtain ⟨k232, e⟩ := e
                                                refine g_sld hX d_L_law_1048 k14 k232 ?_
                                                replace e := ckd e
                                                obtain ⟨k234, e⟩ := e
                                                replace e := bd e
                                                obtain ⟨q233, eq233, e⟩ := e
                                                refine g_callV d_L_law_1049 vk_16_128 (as := [_, _, _, _]) rfl k234 rfl (by simp [zrf_cat, cat_int, cat_long]) (j := 2) (by omega) (c_X10_disk (by omega) eq233) ?_
                                                refine g_ald_n d_L_law_1052 rfl g2 ?_
                                                refine g_ald_n d_L_law_1053 rfl g0 ?_
                                                refine r_iload d_L_law_1054 g4 ?_
                                                refine r_iconst d_L_law_1056 (v := (1 : Int32)) (by decide +kernel) ?_
                                                refine r_iadd d_L_law_1057 ?_
                                                replace e := ckd e
                                                obtain ⟨k235, e⟩ := e
                                                refine g_sld hX d_L_law_1058 k14 k235 ?_
                                                refine g_ald_n d_L_law_1059 rfl g0 ?_
                                                refine r_iload d_L_law_1060 g4 ?_
                                                refine r_iconst d_L_law_1062 (v := (2 : Int32)) (by decide +kernel) ?_
                                                refine r_iadd d_L_law_1063 ?_
                                                replace e := ckd e
                                                obtain ⟨k236, e⟩ := e
                                                refine g_sld hX d_L_law_1064 k14 k236 ?_
                                                refine g_ald_n d_L_law_1065 rfl g0 ?_
                                                refine r_iload d_L_law_1066 g4 ?_
                                                refine r_iconst d_L_law_1068 (v := (3 : Int32)) (by decide +kernel) ?_
                                                refine r_iadd d_L_law_1069 ?_
                                                replace e := ckd e
                                                obtain ⟨k237, e⟩ := e
                                                refine g_sld hX d_L_law_1070 k14 k237 ?_
                                                refine g_ald_n d_L_law_1071 rfl g0 ?_
                                                refine r_iload d_L_law_1072 g4 ?_
                                                refine r_iconst d_L_law_1074 (v := (4 : Int32)) (by decide +kernel) ?_
                                                refine r_iadd d_L_law_1075 ?_
                                                replace e := ckd e
                                                obtain ⟨k238, e⟩ := e
                                                refine g_sld hX d_L_law_1076 k14 k238 ?_
                                                replace e := ckd e
                                                obtain ⟨k240, e⟩ := e
                                                replace e := bd e
                                                obtain ⟨q239, eq239, e⟩ := e
                                                refine g_callV d_L_law_1077 vk_16_132 (as := [_, _, _, _]) rfl k240 rfl (by simp [zrf_cat, cat_int, cat_long]) (j := 3) (by omega) (c_X11_disk (by omega) eq239) ?_
                                                refine r_icmp_eq d_L_law_1080 (tgt := 1085) (by decide) (fun c241 => ?_) (fun c241 => ?_)
                                                · replace e := (if_pos c241).symm.trans e
                                                  exact f_L_law_1085_ok SL xs hX _ hj ih _ _ _ _ _ _ _ _ g0 g1 g2 g3 g4 e
                                                · replace e := (if_neg c241).symm.trans e
                                                  refine r_iconst d_L_law_1083 (v := (0 : Int32)) (by decide +kernel) ?_
                                                  obtain rfl := Option.some.inj e
                                                  exact g_iret d_L_law_1084 rfl rfl
                                              · refine r_tableOut d_L_law_39 (tgt := 1085) (by have := lv_neT (a := 0) c17 (by decide +kernel); have := lv_neT (a := 1) c29 (by decide +kernel); have := lv_neT (a := 2) c42 (by decide +kernel); have := lv_neT (a := 3) c48 (by decide +kernel); have := lv_neT (a := 4) c60 (by decide +kernel); have := lv_neT (a := 5) c72 (by decide +kernel); have := lv_neT (a := 6) c80 (by decide +kernel); have := lv_neT (a := 7) c95 (by decide +kernel); have := lv_neT (a := 8) c103 (by decide +kernel); have := lv_neT (a := 9) c111 (by decide +kernel); have := lv_neT (a := 10) c121 (by decide +kernel); have := lv_neT (a := 11) c129 (by decide +kernel); have := lv_neT (a := 12) c139 (by decide +kernel); have := lv_neT (a := 13) c152 (by decide +kernel); have := lv_neT (a := 14) c162 (by decide +kernel); have := lv_neT (a := 15) c167 (by decide +kernel); have := lv_neT (a := 16) c179 (by decide +kernel); have := lv_neT (a := 17) c189 (by decide +kernel); have := lv_neT (a := 18) c206 (by decide +kernel); have := lv_neT (a := 19) c216 (by decide +kernel); have := lv_neT (a := 20) c228 (by decide +kernel); omega) (by decide) ?_
                                                exact f_L_law_1085_ok SL xs hX _ hj ih _ _ _ _ _ _ _ _ g0 g1 g2 g3 g4 e

def f_L_law (SL : Nat) (xs : Nat → Int32) (l0 : Nat) (h : Hp) : Option (Int32 × Hp) := ck (8 ≤ zn (h)) (bh (pN (h) 11 (kN 11)) (fun h2 => ck (isO (h2) (zn (h)) 11) ((f_X10_init (zn (h)) (h2)).bind (fun q3 => bh (zn (h)) (fun x5 => ck (8 ≤ zn (q3)) (bh (pN (q3) 12 (kN 12)) (fun h7 => ck (isO (h7) (zn (q3)) 12) ((f_X11_init (zn (q3)) (h7)).bind (fun q8 => bh (zn (q3)) (fun x10 => ck (8 ≤ zn (q8)) (bh (pN (q8) 24 ((1 : Int32)).toNatClampNeg) (fun h12 => bh (zn (q8)) (fun x13 => f_L_law_23 SL xs fz (l0) (x5) (x10) (x13) ((0 : Int32)) (h12))))))))))))))
theorem f_L_law_ok {G : Gd} {d : Nat} (SL : Nat) (xs : Nat → Int32) (hX : va_X (gX G 1) SL xs (g0 G) (g0 G).heap) (hj : 651 ≤ d) : ∀ (l0 : Nat) (L : List (Nat × Value)) (h : Hp) (o : (Int32 × Hp)), zlk L 0 = some (zrf (l0)) → f_L_law SL xs l0 h = some o → Ev G M_L_law d 0 L [] h (Ret Y_L_law (some (.int o.1)) o.2) := by
  intro l0 L h o g0 e
  unfold f_L_law at e
  replace e := ckd e
  obtain ⟨k1, e⟩ := e
  refine g_new k1 d_L_law_0 (i := 11) (by decide) (by decide) (by decide +kernel) ?_
  replace e := bhd e
  obtain ⟨_, rfl, e⟩ := e
  refine r_dup d_L_law_3 (zrf_cat _) ?_
  replace e := ckd e
  obtain ⟨k4, e⟩ := e
  replace e := bd e
  obtain ⟨q3, eq3, e⟩ := e
  refine g_callI d_L_law_4 ik_16_32 (as := []) rfl k4 rfl (by simp [zrf_cat, cat_int, cat_long]) (j := 5) (by omega) (c_X10_init (by omega) eq3) ?_
  replace e := bhd e
  obtain ⟨_, rfl, e⟩ := e
  refine s_ast_n d_L_law_7 rfl (by decide) (fun L g1 gK => ?_)
  replace g0 := gK _ _ (by decide) (Or.inr (zrf_cat _)) g0
  replace e := ckd e
  obtain ⟨k6, e⟩ := e
  refine g_new k6 d_L_law_8 (i := 12) (by decide) (by decide) (by decide +kernel) ?_
  replace e := bhd e
  obtain ⟨_, rfl, e⟩ := e
  refine r_dup d_L_law_11 (zrf_cat _) ?_
  replace e := ckd e
  obtain ⟨k9, e⟩ := e
  replace e := bd e
  obtain ⟨q8, eq8, e⟩ := e
  refine g_callI d_L_law_12 ik_16_35 (as := []) rfl k9 rfl (by simp [zrf_cat, cat_int, cat_long]) (j := 2) (by omega) (c_X11_init (by omega) eq8) ?_
  replace e := bhd e
  obtain ⟨_, rfl, e⟩ := e
  refine s_ast_n d_L_law_15 rfl (by decide) (fun L g2 gK => ?_)
  replace g0 := gK _ _ (by decide) (Or.inr (zrf_cat _)) g0
  replace g1 := gK _ _ (by decide) (Or.inr (zrf_cat _)) g1
  refine r_iconst d_L_law_16 (v := (1 : Int32)) (by decide +kernel) ?_
  replace e := ckd e
  obtain ⟨k11, e⟩ := e
  refine g_newa (t := 24) k11 d_L_law_17 (by decide) (by decide) rfl (by decide +kernel) (by decide) (by decide +kernel) ?_
  replace e := bhd e
  obtain ⟨_, rfl, e⟩ := e
  replace e := bhd e
  obtain ⟨_, rfl, e⟩ := e
  refine s_ast_n d_L_law_19 rfl (by decide) (fun L g3 gK => ?_)
  replace g0 := gK _ _ (by decide) (Or.inr (zrf_cat _)) g0
  replace g1 := gK _ _ (by decide) (Or.inr (zrf_cat _)) g1
  replace g2 := gK _ _ (by decide) (Or.inr (zrf_cat _)) g2
  refine r_iconst d_L_law_20 (v := (0 : Int32)) (by decide +kernel) ?_
  refine s_istore d_L_law_21 (by decide) (fun L g4 gK => ?_)
  replace g0 := gK _ _ (by decide) (Or.inr (zrf_cat _)) g0
  replace g1 := gK _ _ (by decide) (Or.inr (zrf_cat _)) g1
  replace g2 := gK _ _ (by decide) (Or.inr (zrf_cat _)) g2
  replace g3 := gK _ _ (by decide) (Or.inr (zrf_cat _)) g3
  exact f_L_law_23_ok SL xs hX hj _ _ _ _ _ _ _ _ _ g0 g1 g2 g3 g4 e

