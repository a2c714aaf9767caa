abbrev Y_X11_init : Yx := (⟨"TaskWeaveModel", "<init>", "()V"⟩, prog_13_method_1_code, 2, none)
abbrev M_X11_init : Mx := ("TaskWeaveModel", prog_13_method_1_code, 2, true)
theorem yk_X11_init : Yk Y_X11_init 0 := ⟨by decide +kernel, by decide +kernel, ⟨by decide, by decide⟩, by decide +kernel, by decide, by decide +kernel⟩
theorem d_X11_init_0 : decode prog_13_method_1_code 0 = .ok (.aload_n 0, 1) := by decide +kernel
theorem d_X11_init_1 : decode prog_13_method_1_code 1 = .ok (.invokespecial 1, 3) := by decide +kernel
theorem d_X11_init_4 : decode prog_13_method_1_code 4 = .ok (.aload_n 0, 1) := by decide +kernel
theorem d_X11_init_5 : decode prog_13_method_1_code 5 = .ok (.sipush 300, 3) := by decide +kernel
theorem d_X11_init_8 : decode prog_13_method_1_code 8 = .ok (.newarray .int, 2) := by decide +kernel
theorem d_X11_init_10 : decode prog_13_method_1_code 10 = .ok (.putfield 7, 3) := by decide +kernel
theorem d_X11_init_13 : decode prog_13_method_1_code 13 = .ok (.aload_n 0, 1) := by decide +kernel
theorem d_X11_init_14 : decode prog_13_method_1_code 14 = .ok (.iconst (-1), 1) := by decide +kernel
theorem d_X11_init_15 : decode prog_13_method_1_code 15 = .ok (.putfield 13, 3) := by decide +kernel
theorem d_X11_init_18 : decode prog_13_method_1_code 18 = .ok (.aload_n 0, 1) := by decide +kernel
theorem d_X11_init_19 : decode prog_13_method_1_code 19 = .ok (.sipush 4100, 3) := by decide +kernel
theorem d_X11_init_22 : decode prog_13_method_1_code 22 = .ok (.newarray .int, 2) := by decide +kernel
theorem d_X11_init_24 : decode prog_13_method_1_code 24 = .ok (.putfield 17, 3) := by decide +kernel
theorem d_X11_init_27 : decode prog_13_method_1_code 27 = .ok (.aload_n 0, 1) := by decide +kernel
theorem d_X11_init_28 : decode prog_13_method_1_code 28 = .ok (.sipush 4100, 3) := by decide +kernel
theorem d_X11_init_31 : decode prog_13_method_1_code 31 = .ok (.newarray .int, 2) := by decide +kernel
theorem d_X11_init_33 : decode prog_13_method_1_code 33 = .ok (.putfield 20, 3) := by decide +kernel
theorem d_X11_init_36 : decode prog_13_method_1_code 36 = .ok (.aload_n 0, 1) := by decide +kernel
theorem d_X11_init_37 : decode prog_13_method_1_code 37 = .ok (.sipush 4100, 3) := by decide +kernel
theorem d_X11_init_40 : decode prog_13_method_1_code 40 = .ok (.newarray .int, 2) := by decide +kernel
theorem d_X11_init_42 : decode prog_13_method_1_code 42 = .ok (.putfield 23, 3) := by decide +kernel
theorem d_X11_init_45 : decode prog_13_method_1_code 45 = .ok (.aload_n 0, 1) := by decide +kernel
theorem d_X11_init_46 : decode prog_13_method_1_code 46 = .ok (.sipush 4100, 3) := by decide +kernel
theorem d_X11_init_49 : decode prog_13_method_1_code 49 = .ok (.newarray .int, 2) := by decide +kernel
theorem d_X11_init_51 : decode prog_13_method_1_code 51 = .ok (.putfield 26, 3) := by decide +kernel
theorem d_X11_init_54 : decode prog_13_method_1_code 54 = .ok (.aload_n 0, 1) := by decide +kernel
theorem d_X11_init_55 : decode prog_13_method_1_code 55 = .ok (.bipush 8, 2) := by decide +kernel
theorem d_X11_init_57 : decode prog_13_method_1_code 57 = .ok (.newarray .int, 2) := by decide +kernel
theorem d_X11_init_59 : decode prog_13_method_1_code 59 = .ok (.putfield 29, 3) := by decide +kernel
theorem d_X11_init_62 : decode prog_13_method_1_code 62 = .ok (.aload_n 0, 1) := by decide +kernel
theorem d_X11_init_63 : decode prog_13_method_1_code 63 = .ok (.bipush 8, 2) := by decide +kernel
theorem d_X11_init_65 : decode prog_13_method_1_code 65 = .ok (.newarray .int, 2) := by decide +kernel
theorem d_X11_init_67 : decode prog_13_method_1_code 67 = .ok (.putfield 32, 3) := by decide +kernel
theorem d_X11_init_70 : decode prog_13_method_1_code 70 = .ok (.aload_n 0, 1) := by decide +kernel
theorem d_X11_init_71 : decode prog_13_method_1_code 71 = .ok (.sipush 11100, 3) := by decide +kernel
theorem d_X11_init_74 : decode prog_13_method_1_code 74 = .ok (.newarray .int, 2) := by decide +kernel
theorem d_X11_init_76 : decode prog_13_method_1_code 76 = .ok (.putfield 35, 3) := by decide +kernel
theorem d_X11_init_79 : decode prog_13_method_1_code 79 = .ok (.aload_n 0, 1) := by decide +kernel
theorem d_X11_init_80 : decode prog_13_method_1_code 80 = .ok (.sipush 11100, 3) := by decide +kernel
theorem d_X11_init_83 : decode prog_13_method_1_code 83 = .ok (.newarray .int, 2) := by decide +kernel
theorem d_X11_init_85 : decode prog_13_method_1_code 85 = .ok (.putfield 38, 3) := by decide +kernel
theorem d_X11_init_88 : decode prog_13_method_1_code 88 = .ok (.aload_n 0, 1) := by decide +kernel
theorem d_X11_init_89 : decode prog_13_method_1_code 89 = .ok (.sipush 11100, 3) := by decide +kernel
theorem d_X11_init_92 : decode prog_13_method_1_code 92 = .ok (.newarray .boolean, 2) := by decide +kernel
theorem d_X11_init_94 : decode prog_13_method_1_code 94 = .ok (.putfield 41, 3) := by decide +kernel
theorem d_X11_init_97 : decode prog_13_method_1_code 97 = .ok (.aload_n 0, 1) := by decide +kernel
theorem d_X11_init_98 : decode prog_13_method_1_code 98 = .ok (.sipush 11100, 3) := by decide +kernel
theorem d_X11_init_101 : decode prog_13_method_1_code 101 = .ok (.newarray .int, 2) := by decide +kernel
theorem d_X11_init_103 : decode prog_13_method_1_code 103 = .ok (.putfield 45, 3) := by decide +kernel
theorem d_X11_init_106 : decode prog_13_method_1_code 106 = .ok (.aload_n 0, 1) := by decide +kernel
theorem d_X11_init_107 : decode prog_13_method_1_code 107 = .ok (.sipush 11100, 3) := by decide +kernel
theorem d_X11_init_110 : decode prog_13_method_1_code 110 = .ok (.newarray .boolean, 2) := by decide +kernel
theorem d_X11_init_112 : decode prog_13_method_1_code 112 = .ok (.putfield 48, 3) := by decide +kernel
theorem d_X11_init_115 : decode prog_13_method_1_code 115 = .ok (.aload_n 0, 1) := by decide +kernel
theorem d_X11_init_116 : decode prog_13_method_1_code 116 = .ok (.sipush 11100, 3) := by decide +kernel
theorem d_X11_init_119 : decode prog_13_method_1_code 119 = .ok (.newarray .int, 2) := by decide +kernel
theorem d_X11_init_121 : decode prog_13_method_1_code 121 = .ok (.putfield 51, 3) := by decide +kernel
theorem d_X11_init_124 : decode prog_13_method_1_code 124 = .ok (.aload_n 0, 1) := by decide +kernel
theorem d_X11_init_125 : decode prog_13_method_1_code 125 = .ok (.sipush 11100, 3) := by decide +kernel
theorem d_X11_init_128 : decode prog_13_method_1_code 128 = .ok (.newarray .int, 2) := by decide +kernel
theorem d_X11_init_130 : decode prog_13_method_1_code 130 = .ok (.putfield 54, 3) := by decide +kernel
theorem d_X11_init_133 : decode prog_13_method_1_code 133 = .ok (.aload_n 0, 1) := by decide +kernel
theorem d_X11_init_134 : decode prog_13_method_1_code 134 = .ok (.sipush 11100, 3) := by decide +kernel
theorem d_X11_init_137 : decode prog_13_method_1_code 137 = .ok (.newarray .int, 2) := by decide +kernel
theorem d_X11_init_139 : decode prog_13_method_1_code 139 = .ok (.putfield 57, 3) := by decide +kernel
theorem d_X11_init_142 : decode prog_13_method_1_code 142 = .ok (.aload_n 0, 1) := by decide +kernel
theorem d_X11_init_143 : decode prog_13_method_1_code 143 = .ok (.bipush 10, 2) := by decide +kernel
theorem d_X11_init_145 : decode prog_13_method_1_code 145 = .ok (.newarray .int, 2) := by decide +kernel
theorem d_X11_init_147 : decode prog_13_method_1_code 147 = .ok (.putfield 60, 3) := by decide +kernel
theorem d_X11_init_150 : decode prog_13_method_1_code 150 = .ok (.aload_n 0, 1) := by decide +kernel
theorem d_X11_init_151 : decode prog_13_method_1_code 151 = .ok (.ldc 63, 2) := by decide +kernel
theorem d_X11_init_153 : decode prog_13_method_1_code 153 = .ok (.newarray .int, 2) := by decide +kernel
theorem d_X11_init_155 : decode prog_13_method_1_code 155 = .ok (.putfield 64, 3) := by decide +kernel
theorem d_X11_init_158 : decode prog_13_method_1_code 158 = .ok (.aload_n 0, 1) := by decide +kernel
theorem d_X11_init_159 : decode prog_13_method_1_code 159 = .ok (.ldc 63, 2) := by decide +kernel
theorem d_X11_init_161 : decode prog_13_method_1_code 161 = .ok (.newarray .int, 2) := by decide +kernel
theorem d_X11_init_163 : decode prog_13_method_1_code 163 = .ok (.putfield 67, 3) := by decide +kernel
theorem d_X11_init_166 : decode prog_13_method_1_code 166 = .ok (.aload_n 0, 1) := by decide +kernel
theorem d_X11_init_167 : decode prog_13_method_1_code 167 = .ok (.ldc 63, 2) := by decide +kernel
theorem d_X11_init_169 : decode prog_13_method_1_code 169 = .ok (.newarray .int, 2) := by decide +kernel
theorem d_X11_init_171 : decode prog_13_method_1_code 171 = .ok (.putfield 70, 3) := by decide +kernel
theorem d_X11_init_174 : decode prog_13_method_1_code 174 = .ok (.aload_n 0, 1) := by decide +kernel
theorem d_X11_init_175 : decode prog_13_method_1_code 175 = .ok (.ldc 63, 2) := by decide +kernel
theorem d_X11_init_177 : decode prog_13_method_1_code 177 = .ok (.newarray .int, 2) := by decide +kernel
theorem d_X11_init_179 : decode prog_13_method_1_code 179 = .ok (.putfield 73, 3) := by decide +kernel
theorem d_X11_init_182 : decode prog_13_method_1_code 182 = .ok (.aload_n 0, 1) := by decide +kernel
theorem d_X11_init_183 : decode prog_13_method_1_code 183 = .ok (.ldc 63, 2) := by decide +kernel
theorem d_X11_init_185 : decode prog_13_method_1_code 185 = .ok (.newarray .int, 2) := by decide +kernel
theorem d_X11_init_187 : decode prog_13_method_1_code 187 = .ok (.putfield 76, 3) := by decide +kernel
theorem d_X11_init_190 : decode prog_13_method_1_code 190 = .ok (.aload_n 0, 1) := by decide +kernel
theorem d_X11_init_191 : decode prog_13_method_1_code 191 = .ok (.ldc 79, 2) := by decide +kernel
theorem d_X11_init_193 : decode prog_13_method_1_code 193 = .ok (.newarray .int, 2) := by decide +kernel
theorem d_X11_init_195 : decode prog_13_method_1_code 195 = .ok (.putfield 80, 3) := by decide +kernel
theorem d_X11_init_198 : decode prog_13_method_1_code 198 = .ok (.aload_n 0, 1) := by decide +kernel
theorem d_X11_init_199 : decode prog_13_method_1_code 199 = .ok (.bipush 20, 2) := by decide +kernel
theorem d_X11_init_201 : decode prog_13_method_1_code 201 = .ok (.newarray .int, 2) := by decide +kernel
theorem d_X11_init_203 : decode prog_13_method_1_code 203 = .ok (.putfield 83, 3) := by decide +kernel
theorem d_X11_init_206 : decode prog_13_method_1_code 206 = .ok (.aload_n 0, 1) := by decide +kernel
theorem d_X11_init_207 : decode prog_13_method_1_code 207 = .ok (.bipush 20, 2) := by decide +kernel
theorem d_X11_init_209 : decode prog_13_method_1_code 209 = .ok (.newarray .int, 2) := by decide +kernel
theorem d_X11_init_211 : decode prog_13_method_1_code 211 = .ok (.putfield 86, 3) := by decide +kernel
theorem d_X11_init_214 : decode prog_13_method_1_code 214 = .ok (.aload_n 0, 1) := by decide +kernel
theorem d_X11_init_215 : decode prog_13_method_1_code 215 = .ok (.bipush 20, 2) := by decide +kernel
theorem d_X11_init_217 : decode prog_13_method_1_code 217 = .ok (.newarray .int, 2) := by decide +kernel
theorem d_X11_init_219 : decode prog_13_method_1_code 219 = .ok (.putfield 89, 3) := by decide +kernel
theorem d_X11_init_222 : decode prog_13_method_1_code 222 = .ok (.aload_n 0, 1) := by decide +kernel
theorem d_X11_init_223 : decode prog_13_method_1_code 223 = .ok (.bipush 20, 2) := by decide +kernel
theorem d_X11_init_225 : decode prog_13_method_1_code 225 = .ok (.newarray .boolean, 2) := by decide +kernel
theorem d_X11_init_227 : decode prog_13_method_1_code 227 = .ok (.putfield 92, 3) := by decide +kernel
theorem d_X11_init_230 : decode prog_13_method_1_code 230 = .ok (.aload_n 0, 1) := by decide +kernel
theorem d_X11_init_231 : decode prog_13_method_1_code 231 = .ok (.bipush 20, 2) := by decide +kernel
theorem d_X11_init_233 : decode prog_13_method_1_code 233 = .ok (.newarray .int, 2) := by decide +kernel
theorem d_X11_init_235 : decode prog_13_method_1_code 235 = .ok (.putfield 95, 3) := by decide +kernel
theorem d_X11_init_238 : decode prog_13_method_1_code 238 = .ok (.aload_n 0, 1) := by decide +kernel
theorem d_X11_init_239 : decode prog_13_method_1_code 239 = .ok (.iconst 4, 1) := by decide +kernel
theorem d_X11_init_240 : decode prog_13_method_1_code 240 = .ok (.newarray .int, 2) := by decide +kernel
theorem d_X11_init_242 : decode prog_13_method_1_code 242 = .ok (.putfield 98, 3) := by decide +kernel
theorem d_X11_init_245 : decode prog_13_method_1_code 245 = .ok (.aload_n 0, 1) := by decide +kernel
theorem d_X11_init_246 : decode prog_13_method_1_code 246 = .ok (.iconst 4, 1) := by decide +kernel
theorem d_X11_init_247 : decode prog_13_method_1_code 247 = .ok (.newarray .int, 2) := by decide +kernel
theorem d_X11_init_249 : decode prog_13_method_1_code 249 = .ok (.putfield 101, 3) := by decide +kernel
theorem d_X11_init_252 : decode prog_13_method_1_code 252 = .ok (.aload_n 0, 1) := by decide +kernel
theorem d_X11_init_253 : decode prog_13_method_1_code 253 = .ok (.iconst 4, 1) := by decide +kernel
theorem d_X11_init_254 : decode prog_13_method_1_code 254 = .ok (.newarray .int, 2) := by decide +kernel
theorem d_X11_init_256 : decode prog_13_method_1_code 256 = .ok (.putfield 104, 3) := by decide +kernel
theorem d_X11_init_259 : decode prog_13_method_1_code 259 = .ok (.aload_n 0, 1) := by decide +kernel
theorem d_X11_init_260 : decode prog_13_method_1_code 260 = .ok (.iconst 4, 1) := by decide +kernel
theorem d_X11_init_261 : decode prog_13_method_1_code 261 = .ok (.newarray .int, 2) := by decide +kernel
theorem d_X11_init_263 : decode prog_13_method_1_code 263 = .ok (.putfield 107, 3) := by decide +kernel
theorem d_X11_init_266 : decode prog_13_method_1_code 266 = .ok (.aload_n 0, 1) := by decide +kernel
theorem d_X11_init_267 : decode prog_13_method_1_code 267 = .ok (.sipush 3840, 3) := by decide +kernel
theorem d_X11_init_270 : decode prog_13_method_1_code 270 = .ok (.newarray .int, 2) := by decide +kernel
theorem d_X11_init_272 : decode prog_13_method_1_code 272 = .ok (.putfield 110, 3) := by decide +kernel
theorem d_X11_init_275 : decode prog_13_method_1_code 275 = .ok (.aload_n 0, 1) := by decide +kernel
theorem d_X11_init_276 : decode prog_13_method_1_code 276 = .ok (.bipush 64, 2) := by decide +kernel
theorem d_X11_init_278 : decode prog_13_method_1_code 278 = .ok (.newarray .int, 2) := by decide +kernel
theorem d_X11_init_280 : decode prog_13_method_1_code 280 = .ok (.putfield 113, 3) := by decide +kernel
theorem d_X11_init_283 : decode prog_13_method_1_code 283 = .ok (.aload_n 0, 1) := by decide +kernel
theorem d_X11_init_284 : decode prog_13_method_1_code 284 = .ok (.bipush 64, 2) := by decide +kernel
theorem d_X11_init_286 : decode prog_13_method_1_code 286 = .ok (.newarray .int, 2) := by decide +kernel
theorem d_X11_init_288 : decode prog_13_method_1_code 288 = .ok (.putfield 116, 3) := by decide +kernel
theorem d_X11_init_291 : decode prog_13_method_1_code 291 = .ok (.aload_n 0, 1) := by decide +kernel
theorem d_X11_init_292 : decode prog_13_method_1_code 292 = .ok (.bipush 64, 2) := by decide +kernel
theorem d_X11_init_294 : decode prog_13_method_1_code 294 = .ok (.newarray .int, 2) := by decide +kernel
theorem d_X11_init_296 : decode prog_13_method_1_code 296 = .ok (.putfield 119, 3) := by decide +kernel
theorem d_X11_init_299 : decode prog_13_method_1_code 299 = .ok (.aload_n 0, 1) := by decide +kernel
theorem d_X11_init_300 : decode prog_13_method_1_code 300 = .ok (.bipush 64, 2) := by decide +kernel
theorem d_X11_init_302 : decode prog_13_method_1_code 302 = .ok (.newarray .int, 2) := by decide +kernel
theorem d_X11_init_304 : decode prog_13_method_1_code 304 = .ok (.putfield 122, 3) := by decide +kernel
theorem d_X11_init_307 : decode prog_13_method_1_code 307 = .ok (.aload_n 0, 1) := by decide +kernel
theorem d_X11_init_308 : decode prog_13_method_1_code 308 = .ok (.sipush 512, 3) := by decide +kernel
theorem d_X11_init_311 : decode prog_13_method_1_code 311 = .ok (.newarray .int, 2) := by decide +kernel
theorem d_X11_init_313 : decode prog_13_method_1_code 313 = .ok (.putfield 125, 3) := by decide +kernel
theorem d_X11_init_316 : decode prog_13_method_1_code 316 = .ok (.aload_n 0, 1) := by decide +kernel
theorem d_X11_init_317 : decode prog_13_method_1_code 317 = .ok (.bipush 64, 2) := by decide +kernel
theorem d_X11_init_319 : decode prog_13_method_1_code 319 = .ok (.newarray .int, 2) := by decide +kernel
theorem d_X11_init_321 : decode prog_13_method_1_code 321 = .ok (.putfield 128, 3) := by decide +kernel
theorem d_X11_init_324 : decode prog_13_method_1_code 324 = .ok (.aload_n 0, 1) := by decide +kernel
theorem d_X11_init_325 : decode prog_13_method_1_code 325 = .ok (.bipush 64, 2) := by decide +kernel
theorem d_X11_init_327 : decode prog_13_method_1_code 327 = .ok (.newarray .int, 2) := by decide +kernel
theorem d_X11_init_329 : decode prog_13_method_1_code 329 = .ok (.putfield 131, 3) := by decide +kernel
theorem d_X11_init_332 : decode prog_13_method_1_code 332 = .ok (.aload_n 0, 1) := by decide +kernel
theorem d_X11_init_333 : decode prog_13_method_1_code 333 = .ok (.bipush 64, 2) := by decide +kernel
theorem d_X11_init_335 : decode prog_13_method_1_code 335 = .ok (.newarray .int, 2) := by decide +kernel
theorem d_X11_init_337 : decode prog_13_method_1_code 337 = .ok (.putfield 134, 3) := by decide +kernel
theorem d_X11_init_340 : decode prog_13_method_1_code 340 = .ok (.aload_n 0, 1) := by decide +kernel
theorem d_X11_init_341 : decode prog_13_method_1_code 341 = .ok (.bipush 64, 2) := by decide +kernel
theorem d_X11_init_343 : decode prog_13_method_1_code 343 = .ok (.newarray .int, 2) := by decide +kernel
theorem d_X11_init_345 : decode prog_13_method_1_code 345 = .ok (.putfield 137, 3) := by decide +kernel
theorem d_X11_init_348 : decode prog_13_method_1_code 348 = .ok (.aload_n 0, 1) := by decide +kernel
theorem d_X11_init_349 : decode prog_13_method_1_code 349 = .ok (.bipush 64, 2) := by decide +kernel
theorem d_X11_init_351 : decode prog_13_method_1_code 351 = .ok (.newarray .int, 2) := by decide +kernel
theorem d_X11_init_353 : decode prog_13_method_1_code 353 = .ok (.putfield 140, 3) := by decide +kernel
theorem d_X11_init_356 : decode prog_13_method_1_code 356 = .ok (.aload_n 0, 1) := by decide +kernel
theorem d_X11_init_357 : decode prog_13_method_1_code 357 = .ok (.bipush 64, 2) := by decide +kernel
theorem d_X11_init_359 : decode prog_13_method_1_code 359 = .ok (.newarray .int, 2) := by decide +kernel
theorem d_X11_init_361 : decode prog_13_method_1_code 361 = .ok (.putfield 143, 3) := by decide +kernel
theorem d_X11_init_364 : decode prog_13_method_1_code 364 = .ok (.aload_n 0, 1) := by decide +kernel
theorem d_X11_init_365 : decode prog_13_method_1_code 365 = .ok (.bipush 64, 2) := by decide +kernel
theorem d_X11_init_367 : decode prog_13_method_1_code 367 = .ok (.newarray .int, 2) := by decide +kernel
theorem d_X11_init_369 : decode prog_13_method_1_code 369 = .ok (.putfield 146, 3) := by decide +kernel
theorem d_X11_init_372 : decode prog_13_method_1_code 372 = .ok (.aload_n 0, 1) := by decide +kernel
theorem d_X11_init_373 : decode prog_13_method_1_code 373 = .ok (.bipush 64, 2) := by decide +kernel
theorem d_X11_init_375 : decode prog_13_method_1_code 375 = .ok (.newarray .int, 2) := by decide +kernel
theorem d_X11_init_377 : decode prog_13_method_1_code 377 = .ok (.putfield 149, 3) := by decide +kernel
theorem d_X11_init_380 : decode prog_13_method_1_code 380 = .ok (.aload_n 0, 1) := by decide +kernel
theorem d_X11_init_381 : decode prog_13_method_1_code 381 = .ok (.bipush 64, 2) := by decide +kernel
theorem d_X11_init_383 : decode prog_13_method_1_code 383 = .ok (.newarray .int, 2) := by decide +kernel
theorem d_X11_init_385 : decode prog_13_method_1_code 385 = .ok (.putfield 152, 3) := by decide +kernel
theorem d_X11_init_388 : decode prog_13_method_1_code 388 = .ok (.aload_n 0, 1) := by decide +kernel
theorem d_X11_init_389 : decode prog_13_method_1_code 389 = .ok (.bipush 64, 2) := by decide +kernel
theorem d_X11_init_391 : decode prog_13_method_1_code 391 = .ok (.newarray .int, 2) := by decide +kernel
theorem d_X11_init_393 : decode prog_13_method_1_code 393 = .ok (.putfield 155, 3) := by decide +kernel
theorem d_X11_init_396 : decode prog_13_method_1_code 396 = .ok (.aload_n 0, 1) := by decide +kernel
theorem d_X11_init_397 : decode prog_13_method_1_code 397 = .ok (.bipush 64, 2) := by decide +kernel
theorem d_X11_init_399 : decode prog_13_method_1_code 399 = .ok (.newarray .int, 2) := by decide +kernel
theorem d_X11_init_401 : decode prog_13_method_1_code 401 = .ok (.putfield 158, 3) := by decide +kernel
theorem d_X11_init_404 : decode prog_13_method_1_code 404 = .ok (.aload_n 0, 1) := by decide +kernel
theorem d_X11_init_405 : decode prog_13_method_1_code 405 = .ok (.iconst 4, 1) := by decide +kernel
theorem d_X11_init_406 : decode prog_13_method_1_code 406 = .ok (.newarray .int, 2) := by decide +kernel
theorem d_X11_init_408 : decode prog_13_method_1_code 408 = .ok (.putfield 161, 3) := by decide +kernel
theorem d_X11_init_411 : decode prog_13_method_1_code 411 = .ok (.aload_n 0, 1) := by decide +kernel
theorem d_X11_init_412 : decode prog_13_method_1_code 412 = .ok (.sipush 4096, 3) := by decide +kernel
theorem d_X11_init_415 : decode prog_13_method_1_code 415 = .ok (.newarray .int, 2) := by decide +kernel
theorem d_X11_init_417 : decode prog_13_method_1_code 417 = .ok (.putfield 164, 3) := by decide +kernel
theorem d_X11_init_420 : decode prog_13_method_1_code 420 = .ok (.aload_n 0, 1) := by decide +kernel
theorem d_X11_init_421 : decode prog_13_method_1_code 421 = .ok (.sipush 4096, 3) := by decide +kernel
theorem d_X11_init_424 : decode prog_13_method_1_code 424 = .ok (.newarray .int, 2) := by decide +kernel
theorem d_X11_init_426 : decode prog_13_method_1_code 426 = .ok (.putfield 167, 3) := by decide +kernel
theorem d_X11_init_429 : decode prog_13_method_1_code 429 = .ok (.aload_n 0, 1) := by decide +kernel
theorem d_X11_init_430 : decode prog_13_method_1_code 430 = .ok (.sipush 4096, 3) := by decide +kernel
theorem d_X11_init_433 : decode prog_13_method_1_code 433 = .ok (.newarray .int, 2) := by decide +kernel
theorem d_X11_init_435 : decode prog_13_method_1_code 435 = .ok (.putfield 170, 3) := by decide +kernel
theorem d_X11_init_438 : decode prog_13_method_1_code 438 = .ok (.aload_n 0, 1) := by decide +kernel
theorem d_X11_init_439 : decode prog_13_method_1_code 439 = .ok (.sipush 1024, 3) := by decide +kernel
theorem d_X11_init_442 : decode prog_13_method_1_code 442 = .ok (.newarray .int, 2) := by decide +kernel
theorem d_X11_init_444 : decode prog_13_method_1_code 444 = .ok (.putfield 173, 3) := by decide +kernel
theorem d_X11_init_447 : decode prog_13_method_1_code 447 = .ok (.aload_n 0, 1) := by decide +kernel
theorem d_X11_init_448 : decode prog_13_method_1_code 448 = .ok (.sipush 8192, 3) := by decide +kernel
theorem d_X11_init_451 : decode prog_13_method_1_code 451 = .ok (.newarray .boolean, 2) := by decide +kernel
theorem d_X11_init_453 : decode prog_13_method_1_code 453 = .ok (.putfield 176, 3) := by decide +kernel
theorem d_X11_init_456 : decode prog_13_method_1_code 456 = .ok (.iconst 0, 1) := by decide +kernel
theorem d_X11_init_457 : decode prog_13_method_1_code 457 = .ok (.istore_n 1, 1) := by decide +kernel
theorem d_X11_init_458 : decode prog_13_method_1_code 458 = .ok (.iload_n 1, 1) := by decide +kernel
theorem d_X11_init_459 : decode prog_13_method_1_code 459 = .ok (.bipush 8, 2) := by decide +kernel
theorem d_X11_init_461 : decode prog_13_method_1_code 461 = .ok (.if_icmp .ge 16, 3) := by decide +kernel
theorem d_X11_init_464 : decode prog_13_method_1_code 464 = .ok (.aload_n 0, 1) := by decide +kernel
theorem d_X11_init_465 : decode prog_13_method_1_code 465 = .ok (.getfield 29, 3) := by decide +kernel
theorem d_X11_init_468 : decode prog_13_method_1_code 468 = .ok (.iload_n 1, 1) := by decide +kernel
theorem d_X11_init_469 : decode prog_13_method_1_code 469 = .ok (.iconst (-1), 1) := by decide +kernel
theorem d_X11_init_470 : decode prog_13_method_1_code 470 = .ok (.iastore, 1) := by decide +kernel
theorem d_X11_init_471 : decode prog_13_method_1_code 471 = .ok (.iinc 1 1, 3) := by decide +kernel
theorem d_X11_init_474 : decode prog_13_method_1_code 474 = .ok (.goto (-16), 3) := by decide +kernel
theorem d_X11_init_477 : decode prog_13_method_1_code 477 = .ok (.iconst 0, 1) := by decide +kernel
theorem d_X11_init_478 : decode prog_13_method_1_code 478 = .ok (.istore_n 1, 1) := by decide +kernel
theorem d_X11_init_479 : decode prog_13_method_1_code 479 = .ok (.iload_n 1, 1) := by decide +kernel
theorem d_X11_init_480 : decode prog_13_method_1_code 480 = .ok (.iconst 4, 1) := by decide +kernel
theorem d_X11_init_481 : decode prog_13_method_1_code 481 = .ok (.if_icmp .ge 15, 3) := by decide +kernel
theorem d_X11_init_484 : decode prog_13_method_1_code 484 = .ok (.aload_n 0, 1) := by decide +kernel
theorem d_X11_init_485 : decode prog_13_method_1_code 485 = .ok (.iload_n 1, 1) := by decide +kernel
theorem d_X11_init_486 : decode prog_13_method_1_code 486 = .ok (.iconst 3, 1) := by decide +kernel
theorem d_X11_init_487 : decode prog_13_method_1_code 487 = .ok (.invokevirtual 179, 3) := by decide +kernel
theorem d_X11_init_490 : decode prog_13_method_1_code 490 = .ok (.iinc 1 1, 3) := by decide +kernel
theorem d_X11_init_493 : decode prog_13_method_1_code 493 = .ok (.goto (-14), 3) := by decide +kernel
theorem d_X11_init_496 : decode prog_13_method_1_code 496 = .ok (.return_, 1) := by decide +kernel
abbrev Y_X11_thrown : Yx := (⟨"TaskWeaveModel", "thrown", "()I"⟩, prog_13_method_2_code, 1, (some .int))
abbrev M_X11_thrown : Mx := ("TaskWeaveModel", prog_13_method_2_code, 1, false)
theorem yk_X11_thrown : Yk Y_X11_thrown 0 := ⟨by decide +kernel, by decide +kernel, ⟨by decide, by decide⟩, by decide +kernel, by decide, by decide +kernel⟩
theorem d_X11_thrown_0 : decode prog_13_method_2_code 0 = .ok (.aload_n 0, 1) := by decide +kernel
theorem d_X11_thrown_1 : decode prog_13_method_2_code 1 = .ok (.getfield 183, 3) := by decide +kernel
theorem d_X11_thrown_4 : decode prog_13_method_2_code 4 = .ok (.ireturn, 1) := by decide +kernel
abbrev Y_X11_raise : Yx := (⟨"TaskWeaveModel", "raise", "(I)I"⟩, prog_13_method_3_code, 2, (some .int))
abbrev M_X11_raise : Mx := ("TaskWeaveModel", prog_13_method_3_code, 2, false)
theorem yk_X11_raise : Yk Y_X11_raise 1 := ⟨by decide +kernel, by decide +kernel, ⟨by decide, by decide⟩, by decide +kernel, by decide, by decide +kernel⟩
theorem d_X11_raise_0 : decode prog_13_method_3_code 0 = .ok (.aload_n 0, 1) := by decide +kernel
theorem d_X11_raise_1 : decode prog_13_method_3_code 1 = .ok (.iload_n 1, 1) := by decide +kernel
theorem d_X11_raise_2 : decode prog_13_method_3_code 2 = .ok (.putfield 183, 3) := by decide +kernel
theorem d_X11_raise_5 : decode prog_13_method_3_code 5 = .ok (.iconst 0, 1) := by decide +kernel
theorem d_X11_raise_6 : decode prog_13_method_3_code 6 = .ok (.ireturn, 1) := by decide +kernel
abbrev Y_X11_in : Yx := (⟨"TaskWeaveModel", "in", "(II)Z"⟩, prog_13_method_4_code, 2, (some .boolean))
abbrev M_X11_in : Mx := ("TaskWeaveModel", prog_13_method_4_code, 2, false)
theorem yk_X11_in : Yk Y_X11_in 2 := ⟨by decide +kernel, by decide +kernel, ⟨by decide, by decide⟩, by decide +kernel, by decide, by decide +kernel⟩
theorem d_X11_in_0 : decode prog_13_method_4_code 0 = .ok (.iload_n 0, 1) := by decide +kernel
theorem d_X11_in_1 : decode prog_13_method_4_code 1 = .ok (.ifCond .lt 12, 3) := by decide +kernel
theorem d_X11_in_4 : decode prog_13_method_4_code 4 = .ok (.iload_n 0, 1) := by decide +kernel
theorem d_X11_in_5 : decode prog_13_method_4_code 5 = .ok (.iload_n 1, 1) := by decide +kernel
theorem d_X11_in_6 : decode prog_13_method_4_code 6 = .ok (.if_icmp .ge 7, 3) := by decide +kernel
theorem d_X11_in_9 : decode prog_13_method_4_code 9 = .ok (.iconst 1, 1) := by decide +kernel
theorem d_X11_in_10 : decode prog_13_method_4_code 10 = .ok (.goto 4, 3) := by decide +kernel
theorem d_X11_in_13 : decode prog_13_method_4_code 13 = .ok (.iconst 0, 1) := by decide +kernel
theorem d_X11_in_14 : decode prog_13_method_4_code 14 = .ok (.ireturn, 1) := by decide +kernel
abbrev Y_X11_type : Yx := (⟨"TaskWeaveModel", "type", "(JI)Z"⟩, prog_13_method_6_code, 6, (some .boolean))
abbrev M_X11_type : Mx := ("TaskWeaveModel", prog_13_method_6_code, 6, false)
theorem yk_X11_type : Yk Y_X11_type 2 := ⟨by decide +kernel, by decide +kernel, ⟨by decide, by decide⟩, by decide +kernel, by decide, by decide +kernel⟩
theorem d_X11_type_0 : decode prog_13_method_6_code 0 = .ok (.aload_n 0, 1) := by decide +kernel
theorem d_X11_type_1 : decode prog_13_method_6_code 1 = .ok (.iconst 0, 1) := by decide +kernel
theorem d_X11_type_2 : decode prog_13_method_6_code 2 = .ok (.putfield 183, 3) := by decide +kernel
theorem d_X11_type_5 : decode prog_13_method_6_code 5 = .ok (.iload_n 3, 1) := by decide +kernel
theorem d_X11_type_6 : decode prog_13_method_6_code 6 = .ok (.iconst 1, 1) := by decide +kernel
theorem d_X11_type_7 : decode prog_13_method_6_code 7 = .ok (.if_icmp .lt 21, 3) := by decide +kernel
theorem d_X11_type_10 : decode prog_13_method_6_code 10 = .ok (.iload_n 3, 1) := by decide +kernel
theorem d_X11_type_11 : decode prog_13_method_6_code 11 = .ok (.bipush 8, 2) := by decide +kernel
theorem d_X11_type_13 : decode prog_13_method_6_code 13 = .ok (.if_icmp .gt 15, 3) := by decide +kernel
theorem d_X11_type_16 : decode prog_13_method_6_code 16 = .ok (.aload_n 0, 1) := by decide +kernel
theorem d_X11_type_17 : decode prog_13_method_6_code 17 = .ok (.getfield 186, 3) := by decide +kernel
theorem d_X11_type_20 : decode prog_13_method_6_code 20 = .ok (.iload_n 3, 1) := by decide +kernel
theorem d_X11_type_21 : decode prog_13_method_6_code 21 = .ok (.iadd, 1) := by decide +kernel
theorem d_X11_type_22 : decode prog_13_method_6_code 22 = .ok (.sipush 300, 3) := by decide +kernel
theorem d_X11_type_25 : decode prog_13_method_6_code 25 = .ok (.if_icmp .le 5, 3) := by decide +kernel
theorem d_X11_type_28 : decode prog_13_method_6_code 28 = .ok (.iconst 0, 1) := by decide +kernel
theorem d_X11_type_29 : decode prog_13_method_6_code 29 = .ok (.ireturn, 1) := by decide +kernel
theorem d_X11_type_30 : decode prog_13_method_6_code 30 = .ok (.iconst 0, 1) := by decide +kernel
theorem d_X11_type_31 : decode prog_13_method_6_code 31 = .ok (.istore 4, 2) := by decide +kernel
theorem d_X11_type_33 : decode prog_13_method_6_code 33 = .ok (.iload 4, 2) := by decide +kernel
theorem d_X11_type_35 : decode prog_13_method_6_code 35 = .ok (.iload_n 3, 1) := by decide +kernel
theorem d_X11_type_36 : decode prog_13_method_6_code 36 = .ok (.if_icmp .ge 39, 3) := by decide +kernel
theorem d_X11_type_39 : decode prog_13_method_6_code 39 = .ok (.lload_n 1, 1) := by decide +kernel
theorem d_X11_type_40 : decode prog_13_method_6_code 40 = .ok (.bipush 8, 2) := by decide +kernel
theorem d_X11_type_42 : decode prog_13_method_6_code 42 = .ok (.iload 4, 2) := by decide +kernel
theorem d_X11_type_44 : decode prog_13_method_6_code 44 = .ok (.imul, 1) := by decide +kernel
theorem d_X11_type_45 : decode prog_13_method_6_code 45 = .ok (.lshr, 1) := by decide +kernel
theorem d_X11_type_46 : decode prog_13_method_6_code 46 = .ok (.ldc2_w 189, 3) := by decide +kernel
theorem d_X11_type_49 : decode prog_13_method_6_code 49 = .ok (.land, 1) := by decide +kernel
theorem d_X11_type_50 : decode prog_13_method_6_code 50 = .ok (.l2i, 1) := by decide +kernel
theorem d_X11_type_51 : decode prog_13_method_6_code 51 = .ok (.istore 5, 2) := by decide +kernel
theorem d_X11_type_53 : decode prog_13_method_6_code 53 = .ok (.iload 5, 2) := by decide +kernel
theorem d_X11_type_55 : decode prog_13_method_6_code 55 = .ok (.bipush 33, 2) := by decide +kernel
theorem d_X11_type_57 : decode prog_13_method_6_code 57 = .ok (.if_icmp .lt 10, 3) := by decide +kernel
theorem d_X11_type_60 : decode prog_13_method_6_code 60 = .ok (.iload 5, 2) := by decide +kernel
theorem d_X11_type_62 : decode prog_13_method_6_code 62 = .ok (.bipush 126, 2) := by decide +kernel
theorem d_X11_type_64 : decode prog_13_method_6_code 64 = .ok (.if_icmp .le 5, 3) := by decide +kernel
theorem d_X11_type_67 : decode prog_13_method_6_code 67 = .ok (.iconst 0, 1) := by decide +kernel
theorem d_X11_type_68 : decode prog_13_method_6_code 68 = .ok (.ireturn, 1) := by decide +kernel
theorem d_X11_type_69 : decode prog_13_method_6_code 69 = .ok (.iinc 4 1, 3) := by decide +kernel
theorem d_X11_type_72 : decode prog_13_method_6_code 72 = .ok (.goto (-39), 3) := by decide +kernel
theorem d_X11_type_75 : decode prog_13_method_6_code 75 = .ok (.iload_n 3, 1) := by decide +kernel
theorem d_X11_type_76 : decode prog_13_method_6_code 76 = .ok (.iconst 1, 1) := by decide +kernel
theorem d_X11_type_77 : decode prog_13_method_6_code 77 = .ok (.isub, 1) := by decide +kernel
theorem d_X11_type_78 : decode prog_13_method_6_code 78 = .ok (.istore 4, 2) := by decide +kernel
theorem d_X11_type_80 : decode prog_13_method_6_code 80 = .ok (.iload 4, 2) := by decide +kernel
theorem d_X11_type_82 : decode prog_13_method_6_code 82 = .ok (.ifCond .lt 40, 3) := by decide +kernel
theorem d_X11_type_85 : decode prog_13_method_6_code 85 = .ok (.aload_n 0, 1) := by decide +kernel
theorem d_X11_type_86 : decode prog_13_method_6_code 86 = .ok (.getfield 7, 3) := by decide +kernel
theorem d_X11_type_89 : decode prog_13_method_6_code 89 = .ok (.aload_n 0, 1) := by decide +kernel
theorem d_X11_type_90 : decode prog_13_method_6_code 90 = .ok (.getfield 186, 3) := by decide +kernel
theorem d_X11_type_93 : decode prog_13_method_6_code 93 = .ok (.lload_n 1, 1) := by decide +kernel
theorem d_X11_type_94 : decode prog_13_method_6_code 94 = .ok (.bipush 8, 2) := by decide +kernel
theorem d_X11_type_96 : decode prog_13_method_6_code 96 = .ok (.iload 4, 2) := by decide +kernel
theorem d_X11_type_98 : decode prog_13_method_6_code 98 = .ok (.imul, 1) := by decide +kernel
theorem d_X11_type_99 : decode prog_13_method_6_code 99 = .ok (.lshr, 1) := by decide +kernel
theorem d_X11_type_100 : decode prog_13_method_6_code 100 = .ok (.ldc2_w 189, 3) := by decide +kernel
theorem d_X11_type_103 : decode prog_13_method_6_code 103 = .ok (.land, 1) := by decide +kernel
theorem d_X11_type_104 : decode prog_13_method_6_code 104 = .ok (.l2i, 1) := by decide +kernel
theorem d_X11_type_105 : decode prog_13_method_6_code 105 = .ok (.iastore, 1) := by decide +kernel
theorem d_X11_type_106 : decode prog_13_method_6_code 106 = .ok (.aload_n 0, 1) := by decide +kernel
theorem d_X11_type_107 : decode prog_13_method_6_code 107 = .ok (.dup, 1) := by decide +kernel
theorem d_X11_type_108 : decode prog_13_method_6_code 108 = .ok (.getfield 186, 3) := by decide +kernel
theorem d_X11_type_111 : decode prog_13_method_6_code 111 = .ok (.iconst 1, 1) := by decide +kernel
theorem d_X11_type_112 : decode prog_13_method_6_code 112 = .ok (.iadd, 1) := by decide +kernel
theorem d_X11_type_113 : decode prog_13_method_6_code 113 = .ok (.putfield 186, 3) := by decide +kernel
theorem d_X11_type_116 : decode prog_13_method_6_code 116 = .ok (.iinc 4 (-1), 3) := by decide +kernel
theorem d_X11_type_119 : decode prog_13_method_6_code 119 = .ok (.goto (-39), 3) := by decide +kernel
theorem d_X11_type_122 : decode prog_13_method_6_code 122 = .ok (.iconst 1, 1) := by decide +kernel
theorem d_X11_type_123 : decode prog_13_method_6_code 123 = .ok (.ireturn, 1) := by decide +kernel
abbrev Y_X11_see : Yx := (⟨"TaskWeaveModel", "see", "()I"⟩, prog_13_method_7_code, 1, (some .int))
abbrev M_X11_see : Mx := ("TaskWeaveModel", prog_13_method_7_code, 1, false)
theorem yk_X11_see : Yk Y_X11_see 0 := ⟨by decide +kernel, by decide +kernel, ⟨by decide, by decide⟩, by decide +kernel, by decide, by decide +kernel⟩
theorem d_X11_see_0 : decode prog_13_method_7_code 0 = .ok (.aload_n 0, 1) := by decide +kernel
theorem d_X11_see_1 : decode prog_13_method_7_code 1 = .ok (.getfield 191, 3) := by decide +kernel
theorem d_X11_see_4 : decode prog_13_method_7_code 4 = .ok (.aload_n 0, 1) := by decide +kernel
theorem d_X11_see_5 : decode prog_13_method_7_code 5 = .ok (.getfield 186, 3) := by decide +kernel
theorem d_X11_see_8 : decode prog_13_method_7_code 8 = .ok (.if_icmp .ge 15, 3) := by decide +kernel
theorem d_X11_see_11 : decode prog_13_method_7_code 11 = .ok (.aload_n 0, 1) := by decide +kernel
theorem d_X11_see_12 : decode prog_13_method_7_code 12 = .ok (.getfield 7, 3) := by decide +kernel
theorem d_X11_see_15 : decode prog_13_method_7_code 15 = .ok (.aload_n 0, 1) := by decide +kernel
theorem d_X11_see_16 : decode prog_13_method_7_code 16 = .ok (.getfield 191, 3) := by decide +kernel
theorem d_X11_see_19 : decode prog_13_method_7_code 19 = .ok (.iaload, 1) := by decide +kernel
theorem d_X11_see_20 : decode prog_13_method_7_code 20 = .ok (.goto 4, 3) := by decide +kernel
theorem d_X11_see_23 : decode prog_13_method_7_code 23 = .ok (.iconst 0, 1) := by decide +kernel
theorem d_X11_see_24 : decode prog_13_method_7_code 24 = .ok (.ireturn, 1) := by decide +kernel
abbrev Y_X11_takes : Yx := (⟨"TaskWeaveModel", "takes", "(I)Z"⟩, prog_13_method_8_code, 2, (some .boolean))
abbrev M_X11_takes : Mx := ("TaskWeaveModel", prog_13_method_8_code, 2, false)
theorem yk_X11_takes : Yk Y_X11_takes 1 := ⟨by decide +kernel, by decide +kernel, ⟨by decide, by decide⟩, by decide +kernel, by decide, by decide +kernel⟩
theorem d_X11_takes_0 : decode prog_13_method_8_code 0 = .ok (.aload_n 0, 1) := by decide +kernel
theorem d_X11_takes_1 : decode prog_13_method_8_code 1 = .ok (.invokevirtual 194, 3) := by decide +kernel
theorem d_X11_takes_4 : decode prog_13_method_8_code 4 = .ok (.iload_n 1, 1) := by decide +kernel
theorem d_X11_takes_5 : decode prog_13_method_8_code 5 = .ok (.if_icmp .eq 5, 3) := by decide +kernel
theorem d_X11_takes_8 : decode prog_13_method_8_code 8 = .ok (.iconst 0, 1) := by decide +kernel
theorem d_X11_takes_9 : decode prog_13_method_8_code 9 = .ok (.ireturn, 1) := by decide +kernel
theorem d_X11_takes_10 : decode prog_13_method_8_code 10 = .ok (.aload_n 0, 1) := by decide +kernel
theorem d_X11_takes_11 : decode prog_13_method_8_code 11 = .ok (.dup, 1) := by decide +kernel
theorem d_X11_takes_12 : decode prog_13_method_8_code 12 = .ok (.getfield 191, 3) := by decide +kernel
theorem d_X11_takes_15 : decode prog_13_method_8_code 15 = .ok (.iconst 1, 1) := by decide +kernel
theorem d_X11_takes_16 : decode prog_13_method_8_code 16 = .ok (.iadd, 1) := by decide +kernel
theorem d_X11_takes_17 : decode prog_13_method_8_code 17 = .ok (.putfield 191, 3) := by decide +kernel
theorem d_X11_takes_20 : decode prog_13_method_8_code 20 = .ok (.iconst 1, 1) := by decide +kernel
theorem d_X11_takes_21 : decode prog_13_method_8_code 21 = .ok (.ireturn, 1) := by decide +kernel
abbrev Y_X11_isDigit : Yx := (⟨"TaskWeaveModel", "isDigit", "()Z"⟩, prog_13_method_9_code, 1, (some .boolean))
abbrev M_X11_isDigit : Mx := ("TaskWeaveModel", prog_13_method_9_code, 1, false)
theorem yk_X11_isDigit : Yk Y_X11_isDigit 0 := ⟨by decide +kernel, by decide +kernel, ⟨by decide, by decide⟩, by decide +kernel, by decide, by decide +kernel⟩
theorem d_X11_isDigit_0 : decode prog_13_method_9_code 0 = .ok (.aload_n 0, 1) := by decide +kernel
theorem d_X11_isDigit_1 : decode prog_13_method_9_code 1 = .ok (.invokevirtual 194, 3) := by decide +kernel
theorem d_X11_isDigit_4 : decode prog_13_method_9_code 4 = .ok (.bipush 48, 2) := by decide +kernel
theorem d_X11_isDigit_6 : decode prog_13_method_9_code 6 = .ok (.if_icmp .lt 16, 3) := by decide +kernel
theorem d_X11_isDigit_9 : decode prog_13_method_9_code 9 = .ok (.aload_n 0, 1) := by decide +kernel
theorem d_X11_isDigit_10 : decode prog_13_method_9_code 10 = .ok (.invokevirtual 194, 3) := by decide +kernel
theorem d_X11_isDigit_13 : decode prog_13_method_9_code 13 = .ok (.bipush 57, 2) := by decide +kernel
theorem d_X11_isDigit_15 : decode prog_13_method_9_code 15 = .ok (.if_icmp .gt 7, 3) := by decide +kernel
theorem d_X11_isDigit_18 : decode prog_13_method_9_code 18 = .ok (.iconst 1, 1) := by decide +kernel
theorem d_X11_isDigit_19 : decode prog_13_method_9_code 19 = .ok (.goto 4, 3) := by decide +kernel
theorem d_X11_isDigit_22 : decode prog_13_method_9_code 22 = .ok (.iconst 0, 1) := by decide +kernel
theorem d_X11_isDigit_23 : decode prog_13_method_9_code 23 = .ok (.ireturn, 1) := by decide +kernel
abbrev Y_X11_isLetter : Yx := (⟨"TaskWeaveModel", "isLetter", "()Z"⟩, prog_13_method_10_code, 1, (some .boolean))
abbrev M_X11_isLetter : Mx := ("TaskWeaveModel", prog_13_method_10_code, 1, false)
theorem yk_X11_isLetter : Yk Y_X11_isLetter 0 := ⟨by decide +kernel, by decide +kernel, ⟨by decide, by decide⟩, by decide +kernel, by decide, by decide +kernel⟩
theorem d_X11_isLetter_0 : decode prog_13_method_10_code 0 = .ok (.aload_n 0, 1) := by decide +kernel
theorem d_X11_isLetter_1 : decode prog_13_method_10_code 1 = .ok (.invokevirtual 194, 3) := by decide +kernel
theorem d_X11_isLetter_4 : decode prog_13_method_10_code 4 = .ok (.bipush 97, 2) := by decide +kernel
theorem d_X11_isLetter_6 : decode prog_13_method_10_code 6 = .ok (.if_icmp .lt 16, 3) := by decide +kernel
theorem d_X11_isLetter_9 : decode prog_13_method_10_code 9 = .ok (.aload_n 0, 1) := by decide +kernel
theorem d_X11_isLetter_10 : decode prog_13_method_10_code 10 = .ok (.invokevirtual 194, 3) := by decide +kernel
theorem d_X11_isLetter_13 : decode prog_13_method_10_code 13 = .ok (.bipush 104, 2) := by decide +kernel
theorem d_X11_isLetter_15 : decode prog_13_method_10_code 15 = .ok (.if_icmp .gt 7, 3) := by decide +kernel
theorem d_X11_isLetter_18 : decode prog_13_method_10_code 18 = .ok (.iconst 1, 1) := by decide +kernel
theorem d_X11_isLetter_19 : decode prog_13_method_10_code 19 = .ok (.goto 4, 3) := by decide +kernel
theorem d_X11_isLetter_22 : decode prog_13_method_10_code 22 = .ok (.iconst 0, 1) := by decide +kernel
theorem d_X11_isLetter_23 : decode prog_13_method_10_code 23 = .ok (.ireturn, 1) := by decide +kernel
abbrev Y_X11_value : Yx := (⟨"TaskWeaveModel", "value", "(Z)Z"⟩, prog_13_method_11_code, 6, (some .boolean))
abbrev M_X11_value : Mx := ("TaskWeaveModel", prog_13_method_11_code, 6, false)
theorem yk_X11_value : Yk Y_X11_value 1 := ⟨by decide +kernel, by decide +kernel, ⟨by decide, by decide⟩, by decide +kernel, by decide, by decide +kernel⟩
theorem d_X11_value_0 : decode prog_13_method_11_code 0 = .ok (.aload_n 0, 1) := by decide +kernel
theorem d_X11_value_1 : decode prog_13_method_11_code 1 = .ok (.invokevirtual 198, 3) := by decide +kernel
theorem d_X11_value_4 : decode prog_13_method_11_code 4 = .ok (.istore_n 2, 1) := by decide +kernel
theorem d_X11_value_5 : decode prog_13_method_11_code 5 = .ok (.iconst 0, 1) := by decide +kernel
theorem d_X11_value_6 : decode prog_13_method_11_code 6 = .ok (.istore_n 3, 1) := by decide +kernel
theorem d_X11_value_7 : decode prog_13_method_11_code 7 = .ok (.iload_n 2, 1) := by decide +kernel
theorem d_X11_value_8 : decode prog_13_method_11_code 8 = .ok (.ifCond .eq 24, 3) := by decide +kernel
theorem d_X11_value_11 : decode prog_13_method_11_code 11 = .ok (.aload_n 0, 1) := by decide +kernel
theorem d_X11_value_12 : decode prog_13_method_11_code 12 = .ok (.invokevirtual 194, 3) := by decide +kernel
theorem d_X11_value_15 : decode prog_13_method_11_code 15 = .ok (.bipush 97, 2) := by decide +kernel
theorem d_X11_value_17 : decode prog_13_method_11_code 17 = .ok (.isub, 1) := by decide +kernel
theorem d_X11_value_18 : decode prog_13_method_11_code 18 = .ok (.istore_n 3, 1) := by decide +kernel
theorem d_X11_value_19 : decode prog_13_method_11_code 19 = .ok (.aload_n 0, 1) := by decide +kernel
theorem d_X11_value_20 : decode prog_13_method_11_code 20 = .ok (.dup, 1) := by decide +kernel
theorem d_X11_value_21 : decode prog_13_method_11_code 21 = .ok (.getfield 191, 3) := by decide +kernel
theorem d_X11_value_24 : decode prog_13_method_11_code 24 = .ok (.iconst 1, 1) := by decide +kernel
theorem d_X11_value_25 : decode prog_13_method_11_code 25 = .ok (.iadd, 1) := by decide +kernel
theorem d_X11_value_26 : decode prog_13_method_11_code 26 = .ok (.putfield 191, 3) := by decide +kernel
theorem d_X11_value_29 : decode prog_13_method_11_code 29 = .ok (.goto 77, 3) := by decide +kernel
theorem d_X11_value_32 : decode prog_13_method_11_code 32 = .ok (.aload_n 0, 1) := by decide +kernel
theorem d_X11_value_33 : decode prog_13_method_11_code 33 = .ok (.bipush 45, 2) := by decide +kernel
theorem d_X11_value_35 : decode prog_13_method_11_code 35 = .ok (.invokevirtual 202, 3) := by decide +kernel
theorem d_X11_value_38 : decode prog_13_method_11_code 38 = .ok (.istore 4, 2) := by decide +kernel
theorem d_X11_value_40 : decode prog_13_method_11_code 40 = .ok (.aload_n 0, 1) := by decide +kernel
theorem d_X11_value_41 : decode prog_13_method_11_code 41 = .ok (.invokevirtual 206, 3) := by decide +kernel
theorem d_X11_value_44 : decode prog_13_method_11_code 44 = .ok (.ifCond .ne 5, 3) := by decide +kernel
theorem d_X11_value_47 : decode prog_13_method_11_code 47 = .ok (.iconst 0, 1) := by decide +kernel
theorem d_X11_value_48 : decode prog_13_method_11_code 48 = .ok (.ireturn, 1) := by decide +kernel
theorem d_X11_value_49 : decode prog_13_method_11_code 49 = .ok (.iconst 0, 1) := by decide +kernel
theorem d_X11_value_50 : decode prog_13_method_11_code 50 = .ok (.istore 5, 2) := by decide +kernel
theorem d_X11_value_52 : decode prog_13_method_11_code 52 = .ok (.iload 5, 2) := by decide +kernel
theorem d_X11_value_54 : decode prog_13_method_11_code 54 = .ok (.iconst 5, 1) := by decide +kernel
theorem d_X11_value_55 : decode prog_13_method_11_code 55 = .ok (.if_icmp .ge 39, 3) := by decide +kernel
theorem d_X11_value_58 : decode prog_13_method_11_code 58 = .ok (.aload_n 0, 1) := by decide +kernel
theorem d_X11_value_59 : decode prog_13_method_11_code 59 = .ok (.invokevirtual 206, 3) := by decide +kernel
theorem d_X11_value_62 : decode prog_13_method_11_code 62 = .ok (.ifCond .eq 32, 3) := by decide +kernel
theorem d_X11_value_65 : decode prog_13_method_11_code 65 = .ok (.bipush 10, 2) := by decide +kernel
theorem d_X11_value_67 : decode prog_13_method_11_code 67 = .ok (.iload_n 3, 1) := by decide +kernel
theorem d_X11_value_68 : decode prog_13_method_11_code 68 = .ok (.imul, 1) := by decide +kernel
theorem d_X11_value_69 : decode prog_13_method_11_code 69 = .ok (.aload_n 0, 1) := by decide +kernel
theorem d_X11_value_70 : decode prog_13_method_11_code 70 = .ok (.invokevirtual 194, 3) := by decide +kernel
theorem d_X11_value_73 : decode prog_13_method_11_code 73 = .ok (.iadd, 1) := by decide +kernel
theorem d_X11_value_74 : decode prog_13_method_11_code 74 = .ok (.bipush 48, 2) := by decide +kernel
theorem d_X11_value_76 : decode prog_13_method_11_code 76 = .ok (.isub, 1) := by decide +kernel
theorem d_X11_value_77 : decode prog_13_method_11_code 77 = .ok (.istore_n 3, 1) := by decide +kernel
theorem d_X11_value_78 : decode prog_13_method_11_code 78 = .ok (.aload_n 0, 1) := by decide +kernel
theorem d_X11_value_79 : decode prog_13_method_11_code 79 = .ok (.dup, 1) := by decide +kernel
theorem d_X11_value_80 : decode prog_13_method_11_code 80 = .ok (.getfield 191, 3) := by decide +kernel
theorem d_X11_value_83 : decode prog_13_method_11_code 83 = .ok (.iconst 1, 1) := by decide +kernel
theorem d_X11_value_84 : decode prog_13_method_11_code 84 = .ok (.iadd, 1) := by decide +kernel
theorem d_X11_value_85 : decode prog_13_method_11_code 85 = .ok (.putfield 191, 3) := by decide +kernel
theorem d_X11_value_88 : decode prog_13_method_11_code 88 = .ok (.iinc 5 1, 3) := by decide +kernel
theorem d_X11_value_91 : decode prog_13_method_11_code 91 = .ok (.goto (-39), 3) := by decide +kernel
theorem d_X11_value_94 : decode prog_13_method_11_code 94 = .ok (.iload 4, 2) := by decide +kernel
theorem d_X11_value_96 : decode prog_13_method_11_code 96 = .ok (.ifCond .eq 8, 3) := by decide +kernel
theorem d_X11_value_99 : decode prog_13_method_11_code 99 = .ok (.iload_n 3, 1) := by decide +kernel
theorem d_X11_value_100 : decode prog_13_method_11_code 100 = .ok (.ineg, 1) := by decide +kernel
theorem d_X11_value_101 : decode prog_13_method_11_code 101 = .ok (.goto 4, 3) := by decide +kernel
theorem d_X11_value_104 : decode prog_13_method_11_code 104 = .ok (.iload_n 3, 1) := by decide +kernel
theorem d_X11_value_105 : decode prog_13_method_11_code 105 = .ok (.istore_n 3, 1) := by decide +kernel
theorem d_X11_value_106 : decode prog_13_method_11_code 106 = .ok (.iload_n 1, 1) := by decide +kernel
theorem d_X11_value_107 : decode prog_13_method_11_code 107 = .ok (.ifCond .eq 26, 3) := by decide +kernel
theorem d_X11_value_110 : decode prog_13_method_11_code 110 = .ok (.aload_n 0, 1) := by decide +kernel
theorem d_X11_value_111 : decode prog_13_method_11_code 111 = .ok (.getfield 48, 3) := by decide +kernel
theorem d_X11_value_114 : decode prog_13_method_11_code 114 = .ok (.aload_n 0, 1) := by decide +kernel
theorem d_X11_value_115 : decode prog_13_method_11_code 115 = .ok (.getfield 209, 3) := by decide +kernel
theorem d_X11_value_118 : decode prog_13_method_11_code 118 = .ok (.iload_n 2, 1) := by decide +kernel
theorem d_X11_value_119 : decode prog_13_method_11_code 119 = .ok (.bastore, 1) := by decide +kernel
theorem d_X11_value_120 : decode prog_13_method_11_code 120 = .ok (.aload_n 0, 1) := by decide +kernel
theorem d_X11_value_121 : decode prog_13_method_11_code 121 = .ok (.getfield 51, 3) := by decide +kernel
theorem d_X11_value_124 : decode prog_13_method_11_code 124 = .ok (.aload_n 0, 1) := by decide +kernel
theorem d_X11_value_125 : decode prog_13_method_11_code 125 = .ok (.getfield 209, 3) := by decide +kernel
theorem d_X11_value_128 : decode prog_13_method_11_code 128 = .ok (.iload_n 3, 1) := by decide +kernel
theorem d_X11_value_129 : decode prog_13_method_11_code 129 = .ok (.iastore, 1) := by decide +kernel
theorem d_X11_value_130 : decode prog_13_method_11_code 130 = .ok (.goto 23, 3) := by decide +kernel
theorem d_X11_value_133 : decode prog_13_method_11_code 133 = .ok (.aload_n 0, 1) := by decide +kernel
theorem d_X11_value_134 : decode prog_13_method_11_code 134 = .ok (.getfield 41, 3) := by decide +kernel
theorem d_X11_value_137 : decode prog_13_method_11_code 137 = .ok (.aload_n 0, 1) := by decide +kernel
theorem d_X11_value_138 : decode prog_13_method_11_code 138 = .ok (.getfield 209, 3) := by decide +kernel
theorem d_X11_value_141 : decode prog_13_method_11_code 141 = .ok (.iload_n 2, 1) := by decide +kernel
theorem d_X11_value_142 : decode prog_13_method_11_code 142 = .ok (.bastore, 1) := by decide +kernel
theorem d_X11_value_143 : decode prog_13_method_11_code 143 = .ok (.aload_n 0, 1) := by decide +kernel
theorem d_X11_value_144 : decode prog_13_method_11_code 144 = .ok (.getfield 45, 3) := by decide +kernel
theorem d_X11_value_147 : decode prog_13_method_11_code 147 = .ok (.aload_n 0, 1) := by decide +kernel
theorem d_X11_value_148 : decode prog_13_method_11_code 148 = .ok (.getfield 209, 3) := by decide +kernel
theorem d_X11_value_151 : decode prog_13_method_11_code 151 = .ok (.iload_n 3, 1) := by decide +kernel
theorem d_X11_value_152 : decode prog_13_method_11_code 152 = .ok (.iastore, 1) := by decide +kernel
theorem d_X11_value_153 : decode prog_13_method_11_code 153 = .ok (.iconst 1, 1) := by decide +kernel
theorem d_X11_value_154 : decode prog_13_method_11_code 154 = .ok (.ireturn, 1) := by decide +kernel
abbrev Y_X11_bracketed : Yx := (⟨"TaskWeaveModel", "bracketed", "()Z"⟩, prog_13_method_12_code, 1, (some .boolean))
abbrev M_X11_bracketed : Mx := ("TaskWeaveModel", prog_13_method_12_code, 1, false)
theorem yk_X11_bracketed : Yk Y_X11_bracketed 0 := ⟨by decide +kernel, by decide +kernel, ⟨by decide, by decide⟩, by decide +kernel, by decide, by decide +kernel⟩
theorem d_X11_bracketed_0 : decode prog_13_method_12_code 0 = .ok (.aload_n 0, 1) := by decide +kernel
theorem d_X11_bracketed_1 : decode prog_13_method_12_code 1 = .ok (.bipush 40, 2) := by decide +kernel
theorem d_X11_bracketed_3 : decode prog_13_method_12_code 3 = .ok (.invokevirtual 202, 3) := by decide +kernel
theorem d_X11_bracketed_6 : decode prog_13_method_12_code 6 = .ok (.ifCond .eq 24, 3) := by decide +kernel
theorem d_X11_bracketed_9 : decode prog_13_method_12_code 9 = .ok (.aload_n 0, 1) := by decide +kernel
theorem d_X11_bracketed_10 : decode prog_13_method_12_code 10 = .ok (.iconst 0, 1) := by decide +kernel
theorem d_X11_bracketed_11 : decode prog_13_method_12_code 11 = .ok (.invokevirtual 212, 3) := by decide +kernel
theorem d_X11_bracketed_14 : decode prog_13_method_12_code 14 = .ok (.ifCond .eq 16, 3) := by decide +kernel
theorem d_X11_bracketed_17 : decode prog_13_method_12_code 17 = .ok (.aload_n 0, 1) := by decide +kernel
theorem d_X11_bracketed_18 : decode prog_13_method_12_code 18 = .ok (.bipush 41, 2) := by decide +kernel
theorem d_X11_bracketed_20 : decode prog_13_method_12_code 20 = .ok (.invokevirtual 202, 3) := by decide +kernel
theorem d_X11_bracketed_23 : decode prog_13_method_12_code 23 = .ok (.ifCond .eq 7, 3) := by decide +kernel
theorem d_X11_bracketed_26 : decode prog_13_method_12_code 26 = .ok (.iconst 1, 1) := by decide +kernel
theorem d_X11_bracketed_27 : decode prog_13_method_12_code 27 = .ok (.goto 4, 3) := by decide +kernel
theorem d_X11_bracketed_30 : decode prog_13_method_12_code 30 = .ok (.iconst 0, 1) := by decide +kernel
theorem d_X11_bracketed_31 : decode prog_13_method_12_code 31 = .ok (.ireturn, 1) := by decide +kernel
abbrev Y_X11_ends : Yx := (⟨"TaskWeaveModel", "ends", "(I)Z"⟩, prog_13_method_13_code, 2, (some .boolean))
abbrev M_X11_ends : Mx := ("TaskWeaveModel", prog_13_method_13_code, 2, false)
theorem yk_X11_ends : Yk Y_X11_ends 1 := ⟨by decide +kernel, by decide +kernel, ⟨by decide, by decide⟩, by decide +kernel, by decide, by decide +kernel⟩
theorem d_X11_ends_0 : decode prog_13_method_13_code 0 = .ok (.aload_n 0, 1) := by decide +kernel
theorem d_X11_ends_1 : decode prog_13_method_13_code 1 = .ok (.getfield 35, 3) := by decide +kernel
theorem d_X11_ends_4 : decode prog_13_method_13_code 4 = .ok (.aload_n 0, 1) := by decide +kernel
theorem d_X11_ends_5 : decode prog_13_method_13_code 5 = .ok (.getfield 209, 3) := by decide +kernel
theorem d_X11_ends_8 : decode prog_13_method_13_code 8 = .ok (.iload_n 1, 1) := by decide +kernel
theorem d_X11_ends_9 : decode prog_13_method_13_code 9 = .ok (.iastore, 1) := by decide +kernel
theorem d_X11_ends_10 : decode prog_13_method_13_code 10 = .ok (.aload_n 0, 1) := by decide +kernel
theorem d_X11_ends_11 : decode prog_13_method_13_code 11 = .ok (.bipush 59, 2) := by decide +kernel
theorem d_X11_ends_13 : decode prog_13_method_13_code 13 = .ok (.invokevirtual 202, 3) := by decide +kernel
theorem d_X11_ends_16 : decode prog_13_method_13_code 16 = .ok (.ireturn, 1) := by decide +kernel
abbrev Y_X11_number : Yx := (⟨"TaskWeaveModel", "number", "(I)Z"⟩, prog_13_method_14_code, 2, (some .boolean))
abbrev M_X11_number : Mx := ("TaskWeaveModel", prog_13_method_14_code, 2, false)
theorem yk_X11_number : Yk Y_X11_number 1 := ⟨by decide +kernel, by decide +kernel, ⟨by decide, by decide⟩, by decide +kernel, by decide, by decide +kernel⟩
theorem d_X11_number_0 : decode prog_13_method_14_code 0 = .ok (.aload_n 0, 1) := by decide +kernel
theorem d_X11_number_1 : decode prog_13_method_14_code 1 = .ok (.getfield 57, 3) := by decide +kernel
theorem d_X11_number_4 : decode prog_13_method_14_code 4 = .ok (.aload_n 0, 1) := by decide +kernel
theorem d_X11_number_5 : decode prog_13_method_14_code 5 = .ok (.getfield 209, 3) := by decide +kernel
theorem d_X11_number_8 : decode prog_13_method_14_code 8 = .ok (.aload_n 0, 1) := by decide +kernel
theorem d_X11_number_9 : decode prog_13_method_14_code 9 = .ok (.getfield 191, 3) := by decide +kernel
theorem d_X11_number_12 : decode prog_13_method_14_code 12 = .ok (.iastore, 1) := by decide +kernel
theorem d_X11_number_13 : decode prog_13_method_14_code 13 = .ok (.aload_n 0, 1) := by decide +kernel
theorem d_X11_number_14 : decode prog_13_method_14_code 14 = .ok (.invokevirtual 206, 3) := by decide +kernel
theorem d_X11_number_17 : decode prog_13_method_14_code 17 = .ok (.ifCond .eq 14, 3) := by decide +kernel
theorem d_X11_number_20 : decode prog_13_method_14_code 20 = .ok (.aload_n 0, 1) := by decide +kernel
theorem d_X11_number_21 : decode prog_13_method_14_code 21 = .ok (.invokevirtual 194, 3) := by decide +kernel
theorem d_X11_number_24 : decode prog_13_method_14_code 24 = .ok (.bipush 48, 2) := by decide +kernel
theorem d_X11_number_26 : decode prog_13_method_14_code 26 = .ok (.isub, 1) := by decide +kernel
theorem d_X11_number_27 : decode prog_13_method_14_code 27 = .ok (.iload_n 1, 1) := by decide +kernel
theorem d_X11_number_28 : decode prog_13_method_14_code 28 = .ok (.if_icmp .lt 5, 3) := by decide +kernel
theorem d_X11_number_31 : decode prog_13_method_14_code 31 = .ok (.iconst 0, 1) := by decide +kernel
theorem d_X11_number_32 : decode prog_13_method_14_code 32 = .ok (.ireturn, 1) := by decide +kernel
theorem d_X11_number_33 : decode prog_13_method_14_code 33 = .ok (.aload_n 0, 1) := by decide +kernel
theorem d_X11_number_34 : decode prog_13_method_14_code 34 = .ok (.getfield 54, 3) := by decide +kernel
theorem d_X11_number_37 : decode prog_13_method_14_code 37 = .ok (.aload_n 0, 1) := by decide +kernel
theorem d_X11_number_38 : decode prog_13_method_14_code 38 = .ok (.getfield 209, 3) := by decide +kernel
theorem d_X11_number_41 : decode prog_13_method_14_code 41 = .ok (.aload_n 0, 1) := by decide +kernel
theorem d_X11_number_42 : decode prog_13_method_14_code 42 = .ok (.invokevirtual 194, 3) := by decide +kernel
theorem d_X11_number_45 : decode prog_13_method_14_code 45 = .ok (.bipush 48, 2) := by decide +kernel
theorem d_X11_number_47 : decode prog_13_method_14_code 47 = .ok (.isub, 1) := by decide +kernel
theorem d_X11_number_48 : decode prog_13_method_14_code 48 = .ok (.iastore, 1) := by decide +kernel
theorem d_X11_number_49 : decode prog_13_method_14_code 49 = .ok (.aload_n 0, 1) := by decide +kernel
theorem d_X11_number_50 : decode prog_13_method_14_code 50 = .ok (.dup, 1) := by decide +kernel
theorem d_X11_number_51 : decode prog_13_method_14_code 51 = .ok (.getfield 191, 3) := by decide +kernel
theorem d_X11_number_54 : decode prog_13_method_14_code 54 = .ok (.iconst 1, 1) := by decide +kernel
theorem d_X11_number_55 : decode prog_13_method_14_code 55 = .ok (.iadd, 1) := by decide +kernel
theorem d_X11_number_56 : decode prog_13_method_14_code 56 = .ok (.putfield 191, 3) := by decide +kernel
theorem d_X11_number_59 : decode prog_13_method_14_code 59 = .ok (.iconst 1, 1) := by decide +kernel
theorem d_X11_number_60 : decode prog_13_method_14_code 60 = .ok (.ireturn, 1) := by decide +kernel
abbrev Y_X11_set : Yx := (⟨"TaskWeaveModel", "set", "()Z"⟩, prog_13_method_15_code, 2, (some .boolean))
abbrev M_X11_set : Mx := ("TaskWeaveModel", prog_13_method_15_code, 2, false)
theorem yk_X11_set : Yk Y_X11_set 0 := ⟨by decide +kernel, by decide +kernel, ⟨by decide, by decide⟩, by decide +kernel, by decide, by decide +kernel⟩
theorem d_X11_set_0 : decode prog_13_method_15_code 0 = .ok (.aload_n 0, 1) := by decide +kernel
theorem d_X11_set_1 : decode prog_13_method_15_code 1 = .ok (.getfield 38, 3) := by decide +kernel
theorem d_X11_set_4 : decode prog_13_method_15_code 4 = .ok (.aload_n 0, 1) := by decide +kernel
theorem d_X11_set_5 : decode prog_13_method_15_code 5 = .ok (.getfield 209, 3) := by decide +kernel
theorem d_X11_set_8 : decode prog_13_method_15_code 8 = .ok (.aload_n 0, 1) := by decide +kernel
theorem d_X11_set_9 : decode prog_13_method_15_code 9 = .ok (.invokevirtual 194, 3) := by decide +kernel
theorem d_X11_set_12 : decode prog_13_method_15_code 12 = .ok (.bipush 97, 2) := by decide +kernel
theorem d_X11_set_14 : decode prog_13_method_15_code 14 = .ok (.isub, 1) := by decide +kernel
theorem d_X11_set_15 : decode prog_13_method_15_code 15 = .ok (.iastore, 1) := by decide +kernel
theorem d_X11_set_16 : decode prog_13_method_15_code 16 = .ok (.aload_n 0, 1) := by decide +kernel
theorem d_X11_set_17 : decode prog_13_method_15_code 17 = .ok (.dup, 1) := by decide +kernel
theorem d_X11_set_18 : decode prog_13_method_15_code 18 = .ok (.getfield 191, 3) := by decide +kernel
theorem d_X11_set_21 : decode prog_13_method_15_code 21 = .ok (.iconst 1, 1) := by decide +kernel
theorem d_X11_set_22 : decode prog_13_method_15_code 22 = .ok (.iadd, 1) := by decide +kernel
theorem d_X11_set_23 : decode prog_13_method_15_code 23 = .ok (.putfield 191, 3) := by decide +kernel
theorem d_X11_set_26 : decode prog_13_method_15_code 26 = .ok (.aload_n 0, 1) := by decide +kernel
theorem d_X11_set_27 : decode prog_13_method_15_code 27 = .ok (.bipush 61, 2) := by decide +kernel
theorem d_X11_set_29 : decode prog_13_method_15_code 29 = .ok (.invokevirtual 202, 3) := by decide +kernel
theorem d_X11_set_32 : decode prog_13_method_15_code 32 = .ok (.ifCond .ne 5, 3) := by decide +kernel
theorem d_X11_set_35 : decode prog_13_method_15_code 35 = .ok (.iconst 0, 1) := by decide +kernel
theorem d_X11_set_36 : decode prog_13_method_15_code 36 = .ok (.ireturn, 1) := by decide +kernel
theorem d_X11_set_37 : decode prog_13_method_15_code 37 = .ok (.aload_n 0, 1) := by decide +kernel
theorem d_X11_set_38 : decode prog_13_method_15_code 38 = .ok (.bipush 65, 2) := by decide +kernel
theorem d_X11_set_40 : decode prog_13_method_15_code 40 = .ok (.invokevirtual 202, 3) := by decide +kernel
theorem d_X11_set_43 : decode prog_13_method_15_code 43 = .ok (.ifCond .eq 34, 3) := by decide +kernel
theorem d_X11_set_46 : decode prog_13_method_15_code 46 = .ok (.aload_n 0, 1) := by decide +kernel
theorem d_X11_set_47 : decode prog_13_method_15_code 47 = .ok (.bipush 10, 2) := by decide +kernel
theorem d_X11_set_49 : decode prog_13_method_15_code 49 = .ok (.invokevirtual 215, 3) := by decide +kernel
theorem d_X11_set_52 : decode prog_13_method_15_code 52 = .ok (.ifCond .eq 23, 3) := by decide +kernel
theorem d_X11_set_55 : decode prog_13_method_15_code 55 = .ok (.aload_n 0, 1) := by decide +kernel
theorem d_X11_set_56 : decode prog_13_method_15_code 56 = .ok (.invokevirtual 218, 3) := by decide +kernel
theorem d_X11_set_59 : decode prog_13_method_15_code 59 = .ok (.ifCond .eq 16, 3) := by decide +kernel
theorem d_X11_set_62 : decode prog_13_method_15_code 62 = .ok (.aload_n 0, 1) := by decide +kernel
theorem d_X11_set_63 : decode prog_13_method_15_code 63 = .ok (.bipush 6, 2) := by decide +kernel
theorem d_X11_set_65 : decode prog_13_method_15_code 65 = .ok (.invokevirtual 221, 3) := by decide +kernel
theorem d_X11_set_68 : decode prog_13_method_15_code 68 = .ok (.ifCond .eq 7, 3) := by decide +kernel
theorem d_X11_set_71 : decode prog_13_method_15_code 71 = .ok (.iconst 1, 1) := by decide +kernel
theorem d_X11_set_72 : decode prog_13_method_15_code 72 = .ok (.goto 4, 3) := by decide +kernel
theorem d_X11_set_75 : decode prog_13_method_15_code 75 = .ok (.iconst 0, 1) := by decide +kernel
theorem d_X11_set_76 : decode prog_13_method_15_code 76 = .ok (.ireturn, 1) := by decide +kernel
theorem d_X11_set_77 : decode prog_13_method_15_code 77 = .ok (.aload_n 0, 1) := by decide +kernel
theorem d_X11_set_78 : decode prog_13_method_15_code 78 = .ok (.bipush 87, 2) := by decide +kernel
theorem d_X11_set_80 : decode prog_13_method_15_code 80 = .ok (.invokevirtual 202, 3) := by decide +kernel
theorem d_X11_set_83 : decode prog_13_method_15_code 83 = .ok (.ifCond .eq 10, 3) := by decide +kernel
theorem d_X11_set_86 : decode prog_13_method_15_code 86 = .ok (.aload_n 0, 1) := by decide +kernel
theorem d_X11_set_87 : decode prog_13_method_15_code 87 = .ok (.bipush 7, 2) := by decide +kernel
theorem d_X11_set_89 : decode prog_13_method_15_code 89 = .ok (.invokevirtual 221, 3) := by decide +kernel
theorem d_X11_set_92 : decode prog_13_method_15_code 92 = .ok (.ireturn, 1) := by decide +kernel
theorem d_X11_set_93 : decode prog_13_method_15_code 93 = .ok (.aload_n 0, 1) := by decide +kernel
theorem d_X11_set_94 : decode prog_13_method_15_code 94 = .ok (.bipush 67, 2) := by decide +kernel
theorem d_X11_set_96 : decode prog_13_method_15_code 96 = .ok (.invokevirtual 202, 3) := by decide +kernel
theorem d_X11_set_99 : decode prog_13_method_15_code 99 = .ok (.ifCond .eq 34, 3) := by decide +kernel
theorem d_X11_set_102 : decode prog_13_method_15_code 102 = .ok (.aload_n 0, 1) := by decide +kernel
theorem d_X11_set_103 : decode prog_13_method_15_code 103 = .ok (.bipush 8, 2) := by decide +kernel
theorem d_X11_set_105 : decode prog_13_method_15_code 105 = .ok (.invokevirtual 215, 3) := by decide +kernel
theorem d_X11_set_108 : decode prog_13_method_15_code 108 = .ok (.ifCond .eq 23, 3) := by decide +kernel
theorem d_X11_set_111 : decode prog_13_method_15_code 111 = .ok (.aload_n 0, 1) := by decide +kernel
theorem d_X11_set_112 : decode prog_13_method_15_code 112 = .ok (.invokevirtual 218, 3) := by decide +kernel
theorem d_X11_set_115 : decode prog_13_method_15_code 115 = .ok (.ifCond .eq 16, 3) := by decide +kernel
theorem d_X11_set_118 : decode prog_13_method_15_code 118 = .ok (.aload_n 0, 1) := by decide +kernel
theorem d_X11_set_119 : decode prog_13_method_15_code 119 = .ok (.bipush 8, 2) := by decide +kernel
theorem d_X11_set_121 : decode prog_13_method_15_code 121 = .ok (.invokevirtual 221, 3) := by decide +kernel
theorem d_X11_set_124 : decode prog_13_method_15_code 124 = .ok (.ifCond .eq 7, 3) := by decide +kernel
theorem d_X11_set_127 : decode prog_13_method_15_code 127 = .ok (.iconst 1, 1) := by decide +kernel
theorem d_X11_set_128 : decode prog_13_method_15_code 128 = .ok (.goto 4, 3) := by decide +kernel
theorem d_X11_set_131 : decode prog_13_method_15_code 131 = .ok (.iconst 0, 1) := by decide +kernel
theorem d_X11_set_132 : decode prog_13_method_15_code 132 = .ok (.ireturn, 1) := by decide +kernel
theorem d_X11_set_133 : decode prog_13_method_15_code 133 = .ok (.aload_n 0, 1) := by decide +kernel
theorem d_X11_set_134 : decode prog_13_method_15_code 134 = .ok (.bipush 74, 2) := by decide +kernel
theorem d_X11_set_136 : decode prog_13_method_15_code 136 = .ok (.invokevirtual 202, 3) := by decide +kernel
theorem d_X11_set_139 : decode prog_13_method_15_code 139 = .ok (.ifCond .eq 25, 3) := by decide +kernel
theorem d_X11_set_142 : decode prog_13_method_15_code 142 = .ok (.aload_n 0, 1) := by decide +kernel
theorem d_X11_set_143 : decode prog_13_method_15_code 143 = .ok (.invokevirtual 218, 3) := by decide +kernel
theorem d_X11_set_146 : decode prog_13_method_15_code 146 = .ok (.ifCond .eq 16, 3) := by decide +kernel
theorem d_X11_set_149 : decode prog_13_method_15_code 149 = .ok (.aload_n 0, 1) := by decide +kernel
theorem d_X11_set_150 : decode prog_13_method_15_code 150 = .ok (.bipush 9, 2) := by decide +kernel
theorem d_X11_set_152 : decode prog_13_method_15_code 152 = .ok (.invokevirtual 221, 3) := by decide +kernel
theorem d_X11_set_155 : decode prog_13_method_15_code 155 = .ok (.ifCond .eq 7, 3) := by decide +kernel
theorem d_X11_set_158 : decode prog_13_method_15_code 158 = .ok (.iconst 1, 1) := by decide +kernel
theorem d_X11_set_159 : decode prog_13_method_15_code 159 = .ok (.goto 4, 3) := by decide +kernel
theorem d_X11_set_162 : decode prog_13_method_15_code 162 = .ok (.iconst 0, 1) := by decide +kernel
theorem d_X11_set_163 : decode prog_13_method_15_code 163 = .ok (.ireturn, 1) := by decide +kernel
theorem d_X11_set_164 : decode prog_13_method_15_code 164 = .ok (.aload_n 0, 1) := by decide +kernel
theorem d_X11_set_165 : decode prog_13_method_15_code 165 = .ok (.iconst 0, 1) := by decide +kernel
theorem d_X11_set_166 : decode prog_13_method_15_code 166 = .ok (.invokevirtual 212, 3) := by decide +kernel
theorem d_X11_set_169 : decode prog_13_method_15_code 169 = .ok (.ifCond .ne 5, 3) := by decide +kernel
theorem d_X11_set_172 : decode prog_13_method_15_code 172 = .ok (.iconst 0, 1) := by decide +kernel
theorem d_X11_set_173 : decode prog_13_method_15_code 173 = .ok (.ireturn, 1) := by decide +kernel
theorem d_X11_set_174 : decode prog_13_method_15_code 174 = .ok (.aload_n 0, 1) := by decide +kernel
theorem d_X11_set_175 : decode prog_13_method_15_code 175 = .ok (.bipush 43, 2) := by decide +kernel
theorem d_X11_set_177 : decode prog_13_method_15_code 177 = .ok (.invokevirtual 202, 3) := by decide +kernel
theorem d_X11_set_180 : decode prog_13_method_15_code 180 = .ok (.ifCond .eq 7, 3) := by decide +kernel
theorem d_X11_set_183 : decode prog_13_method_15_code 183 = .ok (.iconst 1, 1) := by decide +kernel
theorem d_X11_set_184 : decode prog_13_method_15_code 184 = .ok (.goto 56, 3) := by decide +kernel
theorem d_X11_set_187 : decode prog_13_method_15_code 187 = .ok (.aload_n 0, 1) := by decide +kernel
theorem d_X11_set_188 : decode prog_13_method_15_code 188 = .ok (.bipush 45, 2) := by decide +kernel
theorem d_X11_set_190 : decode prog_13_method_15_code 190 = .ok (.invokevirtual 202, 3) := by decide +kernel
theorem d_X11_set_193 : decode prog_13_method_15_code 193 = .ok (.ifCond .eq 7, 3) := by decide +kernel
theorem d_X11_set_196 : decode prog_13_method_15_code 196 = .ok (.iconst 2, 1) := by decide +kernel
theorem d_X11_set_197 : decode prog_13_method_15_code 197 = .ok (.goto 43, 3) := by decide +kernel
theorem d_X11_set_200 : decode prog_13_method_15_code 200 = .ok (.aload_n 0, 1) := by decide +kernel
theorem d_X11_set_201 : decode prog_13_method_15_code 201 = .ok (.bipush 42, 2) := by decide +kernel
theorem d_X11_set_203 : decode prog_13_method_15_code 203 = .ok (.invokevirtual 202, 3) := by decide +kernel
theorem d_X11_set_206 : decode prog_13_method_15_code 206 = .ok (.ifCond .eq 7, 3) := by decide +kernel
theorem d_X11_set_209 : decode prog_13_method_15_code 209 = .ok (.iconst 3, 1) := by decide +kernel
theorem d_X11_set_210 : decode prog_13_method_15_code 210 = .ok (.goto 30, 3) := by decide +kernel
theorem d_X11_set_213 : decode prog_13_method_15_code 213 = .ok (.aload_n 0, 1) := by decide +kernel
theorem d_X11_set_214 : decode prog_13_method_15_code 214 = .ok (.bipush 60, 2) := by decide +kernel
theorem d_X11_set_216 : decode prog_13_method_15_code 216 = .ok (.invokevirtual 202, 3) := by decide +kernel
theorem d_X11_set_219 : decode prog_13_method_15_code 219 = .ok (.ifCond .eq 7, 3) := by decide +kernel
theorem d_X11_set_222 : decode prog_13_method_15_code 222 = .ok (.iconst 4, 1) := by decide +kernel
theorem d_X11_set_223 : decode prog_13_method_15_code 223 = .ok (.goto 17, 3) := by decide +kernel
theorem d_X11_set_226 : decode prog_13_method_15_code 226 = .ok (.aload_n 0, 1) := by decide +kernel
theorem d_X11_set_227 : decode prog_13_method_15_code 227 = .ok (.bipush 61, 2) := by decide +kernel
theorem d_X11_set_229 : decode prog_13_method_15_code 229 = .ok (.invokevirtual 202, 3) := by decide +kernel
theorem d_X11_set_232 : decode prog_13_method_15_code 232 = .ok (.ifCond .eq 7, 3) := by decide +kernel
theorem d_X11_set_235 : decode prog_13_method_15_code 235 = .ok (.iconst 5, 1) := by decide +kernel
theorem d_X11_set_236 : decode prog_13_method_15_code 236 = .ok (.goto 4, 3) := by decide +kernel
theorem d_X11_set_239 : decode prog_13_method_15_code 239 = .ok (.iconst 0, 1) := by decide +kernel
theorem d_X11_set_240 : decode prog_13_method_15_code 240 = .ok (.istore_n 1, 1) := by decide +kernel
theorem d_X11_set_241 : decode prog_13_method_15_code 241 = .ok (.iload_n 1, 1) := by decide +kernel
theorem d_X11_set_242 : decode prog_13_method_15_code 242 = .ok (.ifCond .eq 11, 3) := by decide +kernel
theorem d_X11_set_245 : decode prog_13_method_15_code 245 = .ok (.aload_n 0, 1) := by decide +kernel
theorem d_X11_set_246 : decode prog_13_method_15_code 246 = .ok (.iconst 1, 1) := by decide +kernel
theorem d_X11_set_247 : decode prog_13_method_15_code 247 = .ok (.invokevirtual 212, 3) := by decide +kernel
theorem d_X11_set_250 : decode prog_13_method_15_code 250 = .ok (.ifCond .eq 15, 3) := by decide +kernel
theorem d_X11_set_253 : decode prog_13_method_15_code 253 = .ok (.aload_n 0, 1) := by decide +kernel
theorem d_X11_set_254 : decode prog_13_method_15_code 254 = .ok (.iload_n 1, 1) := by decide +kernel
theorem d_X11_set_255 : decode prog_13_method_15_code 255 = .ok (.invokevirtual 221, 3) := by decide +kernel
theorem d_X11_set_258 : decode prog_13_method_15_code 258 = .ok (.ifCond .eq 7, 3) := by decide +kernel
theorem d_X11_set_261 : decode prog_13_method_15_code 261 = .ok (.iconst 1, 1) := by decide +kernel
theorem d_X11_set_262 : decode prog_13_method_15_code 262 = .ok (.goto 4, 3) := by decide +kernel
theorem d_X11_set_265 : decode prog_13_method_15_code 265 = .ok (.iconst 0, 1) := by decide +kernel
theorem d_X11_set_266 : decode prog_13_method_15_code 266 = .ok (.ireturn, 1) := by decide +kernel
theorem fk_12_7 : Fk "TaskWeaveModel" 7 1203 := ⟨by decide, by decide, by decide +kernel⟩
theorem fk_12_13 : Fk "TaskWeaveModel" 13 1205 := ⟨by decide, by decide, by decide +kernel⟩
theorem fk_12_17 : Fk "TaskWeaveModel" 17 1207 := ⟨by decide, by decide, by decide +kernel⟩
theorem fk_12_20 : Fk "TaskWeaveModel" 20 1208 := ⟨by decide, by decide, by decide +kernel⟩
theorem fk_12_23 : Fk "TaskWeaveModel" 23 1209 := ⟨by decide, by decide, by decide +kernel⟩
theorem fk_12_26 : Fk "TaskWeaveModel" 26 1210 := ⟨by decide, by decide, by decide +kernel⟩
theorem fk_12_29 : Fk "TaskWeaveModel" 29 1211 := ⟨by decide, by decide, by decide +kernel⟩
theorem fk_12_32 : Fk "TaskWeaveModel" 32 1212 := ⟨by decide, by decide, by decide +kernel⟩
theorem fk_12_35 : Fk "TaskWeaveModel" 35 1214 := ⟨by decide, by decide, by decide +kernel⟩
theorem fk_12_38 : Fk "TaskWeaveModel" 38 1215 := ⟨by decide, by decide, by decide +kernel⟩
theorem fk_12_41 : Fk "TaskWeaveModel" 41 1216 := ⟨by decide, by decide, by decide +kernel⟩
theorem fk_12_45 : Fk "TaskWeaveModel" 45 1217 := ⟨by decide, by decide, by decide +kernel⟩
theorem fk_12_48 : Fk "TaskWeaveModel" 48 1218 := ⟨by decide, by decide, by decide +kernel⟩
theorem fk_12_51 : Fk "TaskWeaveModel" 51 1219 := ⟨by decide, by decide, by decide +kernel⟩
theorem fk_12_54 : Fk "TaskWeaveModel" 54 1220 := ⟨by decide, by decide, by decide +kernel⟩
theorem fk_12_57 : Fk "TaskWeaveModel" 57 1221 := ⟨by decide, by decide, by decide +kernel⟩
theorem fk_12_60 : Fk "TaskWeaveModel" 60 1222 := ⟨by decide, by decide, by decide +kernel⟩
theorem fk_12_64 : Fk "TaskWeaveModel" 64 1225 := ⟨by decide, by decide, by decide +kernel⟩
theorem fk_12_67 : Fk "TaskWeaveModel" 67 1226 := ⟨by decide, by decide, by decide +kernel⟩
theorem fk_12_70 : Fk "TaskWeaveModel" 70 1227 := ⟨by decide, by decide, by decide +kernel⟩
theorem fk_12_73 : Fk "TaskWeaveModel" 73 1228 := ⟨by decide, by decide, by decide +kernel⟩
theorem fk_12_76 : Fk "TaskWeaveModel" 76 1229 := ⟨by decide, by decide, by decide +kernel⟩
theorem fk_12_80 : Fk "TaskWeaveModel" 80 1230 := ⟨by decide, by decide, by decide +kernel⟩
theorem fk_12_83 : Fk "TaskWeaveModel" 83 1231 := ⟨by decide, by decide, by decide +kernel⟩
theorem fk_12_89 : Fk "TaskWeaveModel" 89 1233 := ⟨by decide, by decide, by decide +kernel⟩
theorem fk_12_104 : Fk "TaskWeaveModel" 104 1238 := ⟨by decide, by decide, by decide +kernel⟩
theorem fk_12_107 : Fk "TaskWeaveModel" 107 1239 := ⟨by decide, by decide, by decide +kernel⟩
theorem fk_12_110 : Fk "TaskWeaveModel" 110 1240 := ⟨by decide, by decide, by decide +kernel⟩
theorem fk_12_113 : Fk "TaskWeaveModel" 113 1241 := ⟨by decide, by decide, by decide +kernel⟩
theorem fk_12_116 : Fk "TaskWeaveModel" 116 1242 := ⟨by decide, by decide, by decide +kernel⟩
theorem fk_12_119 : Fk "TaskWeaveModel" 119 1243 := ⟨by decide, by decide, by decide +kernel⟩
theorem fk_12_122 : Fk "TaskWeaveModel" 122 1244 := ⟨by decide, by decide, by decide +kernel⟩
theorem fk_12_125 : Fk "TaskWeaveModel" 125 1245 := ⟨by decide, by decide, by decide +kernel⟩
theorem fk_12_128 : Fk "TaskWeaveModel" 128 1246 := ⟨by decide, by decide, by decide +kernel⟩
theorem fk_12_131 : Fk "TaskWeaveModel" 131 1247 := ⟨by decide, by decide, by decide +kernel⟩
theorem fk_12_134 : Fk "TaskWeaveModel" 134 1248 := ⟨by decide, by decide, by decide +kernel⟩
theorem fk_12_137 : Fk "TaskWeaveModel" 137 1249 := ⟨by decide, by decide, by decide +kernel⟩
theorem fk_12_140 : Fk "TaskWeaveModel" 140 1250 := ⟨by decide, by decide, by decide +kernel⟩
theorem fk_12_143 : Fk "TaskWeaveModel" 143 1251 := ⟨by decide, by decide, by decide +kernel⟩
theorem fk_12_146 : Fk "TaskWeaveModel" 146 1252 := ⟨by decide, by decide, by decide +kernel⟩
theorem fk_12_149 : Fk "TaskWeaveModel" 149 1253 := ⟨by decide, by decide, by decide +kernel⟩
theorem fk_12_152 : Fk "TaskWeaveModel" 152 1254 := ⟨by decide, by decide, by decide +kernel⟩
theorem fk_12_155 : Fk "TaskWeaveModel" 155 1255 := ⟨by decide, by decide, by decide +kernel⟩
theorem fk_12_158 : Fk "TaskWeaveModel" 158 1256 := ⟨by decide, by decide, by decide +kernel⟩
theorem fk_12_161 : Fk "TaskWeaveModel" 161 1257 := ⟨by decide, by decide, by decide +kernel⟩
theorem fk_12_164 : Fk "TaskWeaveModel" 164 1258 := ⟨by decide, by decide, by decide +kernel⟩
theorem fk_12_167 : Fk "TaskWeaveModel" 167 1259 := ⟨by decide, by decide, by decide +kernel⟩
theorem fk_12_170 : Fk "TaskWeaveModel" 170 1260 := ⟨by decide, by decide, by decide +kernel⟩
theorem fk_12_173 : Fk "TaskWeaveModel" 173 1261 := ⟨by decide, by decide, by decide +kernel⟩
theorem fk_12_176 : Fk "TaskWeaveModel" 176 1262 := ⟨by decide, by decide, by decide +kernel⟩
theorem vk_12_179 : Vk "TaskWeaveModel" 179 2 12 Y_X11_fresh := ⟨yk_X11_fresh, by decide +kernel, by decide +kernel, by decide +kernel, by decide⟩
def f_X11_init_479 : Nat → Nat → Int32 → Hp → Option Hp
  | 0, _, _, _ => none
  | n + 1, l0, l1, h => if ((4 : Int32)) ≤ (l1) then (some (h)) else (ck (isO (h) (l0) 12) ((f_X11_fresh (l0) (l1) ((3 : Int32)) (h)).bind (fun q119 => bh ((l1) + (1 : Int32)) (fun x121 => f_X11_init_479 n (l0) (x121) (q119)))))
theorem f_X11_init_479_ok {G : Gd} {d : Nat} (hj : 2 ≤ d) : ∀ (n : Nat) (l0 : Nat) (l1 : Int32) (L : List (Nat × Value)) (h : Hp) (o : Hp), zlk L 0 = some (zrf (l0)) → zlk L 1 = some (.int (l1)) → f_X11_init_479 n l0 l1 h = some o → Ev G M_X11_init d 479 L [] h (Ret Y_X11_init none o) := by
  intro n
  induction n with
  | zero =>
    intro l0 l1 L h o g0 g1 e
    cases e
  | succ n ih =>
    intro l0 l1 L h o g0 g1 e
    unfold f_X11_init_479 at e
    refine r_iload_n d_X11_init_479 rfl g1 ?_
    refine r_iconst d_X11_init_480 (v := (4 : Int32)) (by decide +kernel) ?_
    refine r_icmp_ge d_X11_init_481 (tgt := 496) (by decide) (fun c118 => ?_) (fun c118 => ?_)
    · replace e := (if_pos c118).symm.trans e
      cases e
      exact g_vret d_X11_init_496 rfl
    · replace e := (if_neg c118).symm.trans e
      refine g_ald_n d_X11_init_484 rfl g0 ?_
      refine r_iload_n d_X11_init_485 rfl g1 ?_
      refine r_iconst d_X11_init_486 (v := (3 : Int32)) (by decide +kernel) ?_
      replace e := ckd e
      obtain ⟨k120, e⟩ := e
      replace e := bd e
      obtain ⟨q119, eq119, e⟩ := e
      refine g_callV d_X11_init_487 vk_12_179 (as := [_, _]) rfl k120 rfl (by simp [zrf_cat, cat_int, cat_long]) (j := 1) (by omega) (c_X11_fresh (by omega) eq119) ?_
      replace e := bhd e
      obtain ⟨_, rfl, e⟩ := e
      refine s_iinc d_X11_init_490 g1 (w := (1 : Int32)) (by decide +kernel) (by decide) (fun L g1 gK => ?_)
      replace g0 := gK _ _ (by decide) (Or.inr (zrf_cat _)) g0
      refine r_goto d_X11_init_493 (tgt := 479) (by decide) ?_
      exact ih _ _ _ _ _ g0 g1 e

def f_X11_init_458 : Nat → Nat → Int32 → Hp → Option Hp
  | 0, _, _, _ => none
  | n + 1, l0, l1, h => if ((8 : Int32)) ≤ (l1) then (f_X11_init_479 fz (l0) ((0 : Int32)) (h)) else (ck (isO (h) (l0) 12) (ck (isO (h) (zR (h) 1211 (l0)) 22) (ck (inR (l1) (zL (h) (zR (h) 1211 (l0)))) (bh (pE (h) (zR (h) 1211 (l0)) (l1).toNatClampNeg ((-1 : Int32))) (fun h116 => bh ((l1) + (1 : Int32)) (fun x117 => f_X11_init_458 n (l0) (x117) (h116)))))))
theorem f_X11_init_458_ok {G : Gd} {d : Nat} (hj : 2 ≤ d) : ∀ (n : Nat) (l0 : Nat) (l1 : Int32) (L : List (Nat × Value)) (h : Hp) (o : Hp), zlk L 0 = some (zrf (l0)) → zlk L 1 = some (.int (l1)) → f_X11_init_458 n l0 l1 h = some o → Ev G M_X11_init d 458 L [] h (Ret Y_X11_init none o) := by
  intro n
  induction n with
  | zero =>
    intro l0 l1 L h o g0 g1 e
    cases e
  | succ n ih =>
    intro l0 l1 L h o g0 g1 e
    unfold f_X11_init_458 at e
    refine r_iload_n d_X11_init_458 rfl g1 ?_
    refine r_bipush d_X11_init_459 (v := (8 : Int32)) (by decide +kernel) ?_
    refine r_icmp_ge d_X11_init_461 (tgt := 477) (by decide) (fun c112 => ?_) (fun c112 => ?_)
    · replace e := (if_pos c112).symm.trans e
      refine r_iconst d_X11_init_477 (v := (0 : Int32)) (by decide +kernel) ?_
      refine s_istore_n d_X11_init_478 rfl (by decide) (fun L g1 gK => ?_)
      replace g0 := gK _ _ (by decide) (Or.inr (zrf_cat _)) g0
      exact f_X11_init_479_ok hj _ _ _ _ _ _ g0 g1 e
    · replace e := (if_neg c112).symm.trans e
      refine g_ald_n d_X11_init_464 rfl g0 ?_
      replace e := ckd e
      obtain ⟨k113, e⟩ := e
      refine g_getR d_X11_init_465 (f := 1211) k113 fk_12_29 rfl rfl ?_
      refine r_iload_n d_X11_init_468 rfl g1 ?_
      refine r_iconst d_X11_init_469 (v := (-1 : Int32)) (by decide +kernel) ?_
      replace e := ckd e
      obtain ⟨k114, e⟩ := e
      replace e := ckd e
      obtain ⟨k115, e⟩ := e
      refine g_iast d_X11_init_470 k114 k115 ?_
      replace e := bhd e
      obtain ⟨_, rfl, e⟩ := e
      replace e := bhd e
      obtain ⟨_, rfl, e⟩ := e
      refine s_iinc d_X11_init_471 g1 (w := (1 : Int32)) (by decide +kernel) (by decide) (fun L g1 gK => ?_)
      replace g0 := gK _ _ (by decide) (Or.inr (zrf_cat _)) g0
      refine r_goto d_X11_init_474 (tgt := 458) (by decide) ?_
      exact ih _ _ _ _ _ g0 g1 e

def f_X11_init (l0 : Nat) (h : Hp) : Option Hp := ck (isO (h) (l0) 12) (ck (8 ≤ zn (h)) (bh (pN (h) 22 ((300 : Int32)).toNatClampNeg) (fun h3 => bh (pR (h3) 1203 (l0) (zn (h))) (fun h4 => bh (pI (h4) 1205 (l0) ((-1 : Int32))) (fun h5 => bh (pN (h5) 22 ((4100 : Int32)).toNatClampNeg) (fun h6 => bh (pR (h6) 1207 (l0) (zn (h5))) (fun h7 => bh (pN (h7) 22 ((4100 : Int32)).toNatClampNeg) (fun h8 => bh (pR (h8) 1208 (l0) (zn (h7))) (fun h9 => bh (pN (h9) 22 ((4100 : Int32)).toNatClampNeg) (fun h10 => bh (pR (h10) 1209 (l0) (zn (h9))) (fun h11 => bh (pN (h11) 22 ((4100 : Int32)).toNatClampNeg) (fun h12 => bh (pR (h12) 1210 (l0) (zn (h11))) (fun h13 => bh (pN (h13) 22 ((8 : Int32)).toNatClampNeg) (fun h14 => bh (pR (h14) 1211 (l0) (zn (h13))) (fun h15 => bh (pN (h15) 22 ((8 : Int32)).toNatClampNeg) (fun h16 => bh (pR (h16) 1212 (l0) (zn (h15))) (fun h17 => bh (pN (h17) 22 ((11100 : Int32)).toNatClampNeg) (fun h18 => bh (pR (h18) 1214 (l0) (zn (h17))) (fun h19 => bh (pN (h19) 22 ((11100 : Int32)).toNatClampNeg) (fun h20 => bh (pR (h20) 1215 (l0) (zn (h19))) (fun h21 => bh (pN (h21) 23 ((11100 : Int32)).toNatClampNeg) (fun h22 => bh (pR (h22) 1216 (l0) (zn (h21))) (fun h23 => bh (pN (h23) 22 ((11100 : Int32)).toNatClampNeg) (fun h24 => bh (pR (h24) 1217 (l0) (zn (h23))) (fun h25 => bh (pN (h25) 23 ((11100 : Int32)).toNatClampNeg) (fun h26 => bh (pR (h26) 1218 (l0) (zn (h25))) (fun h27 => bh (pN (h27) 22 ((11100 : Int32)).toNatClampNeg) (fun h28 => bh (pR (h28) 1219 (l0) (zn (h27))) (fun h29 => bh (pN (h29) 22 ((11100 : Int32)).toNatClampNeg) (fun h30 => bh (pR (h30) 1220 (l0) (zn (h29))) (fun h31 => bh (pN (h31) 22 ((11100 : Int32)).toNatClampNeg) (fun h32 => bh (pR (h32) 1221 (l0) (zn (h31))) (fun h33 => bh (pN (h33) 22 ((10 : Int32)).toNatClampNeg) (fun h34 => bh (pR (h34) 1222 (l0) (zn (h33))) (fun h35 => bh (pN (h35) 22 ((60000 : Int32)).toNatClampNeg) (fun h36 => bh (pR (h36) 1225 (l0) (zn (h35))) (fun h37 => bh (pN (h37) 22 ((60000 : Int32)).toNatClampNeg) (fun h38 => bh (pR (h38) 1226 (l0) (zn (h37))) (fun h39 => bh (pN (h39) 22 ((60000 : Int32)).toNatClampNeg) (fun h40 => bh (pR (h40) 1227 (l0) (zn (h39))) (fun h41 => bh (pN (h41) 22 ((60000 : Int32)).toNatClampNeg) (fun h42 => bh (pR (h42) 1228 (l0) (zn (h41))) (fun h43 => bh (pN (h43) 22 ((60000 : Int32)).toNatClampNeg) (fun h44 => bh (pR (h44) 1229 (l0) (zn (h43))) (fun h45 => bh (pN (h45) 22 ((163840 : Int32)).toNatClampNeg) (fun h46 => bh (pR (h46) 1230 (l0) (zn (h45))) (fun h47 => bh (pN (h47) 22 ((20 : Int32)).toNatClampNeg) (fun h48 => bh (pR (h48) 1231 (l0) (zn (h47))) (fun h49 => bh (pN (h49) 22 ((20 : Int32)).toNatClampNeg) (fun h50 => bh (pR (h50) 1232 (l0) (zn (h49))) (fun h51 => bh (pN (h51) 22 ((20 : Int32)).toNatClampNeg) (fun h52 => bh (pR (h52) 1233 (l0) (zn (h51))) (fun h53 => bh (pN (h53) 23 ((20 : Int32)).toNatClampNeg) (fun h54 => bh (pR (h54) 1234 (l0) (zn (h53))) (fun h55 => bh (pN (h55) 22 ((20 : Int32)).toNatClampNeg) (fun h56 => bh (pR (h56) 1235 (l0) (zn (h55))) (fun h57 => bh (pN (h57) 22 ((4 : Int32)).toNatClampNeg) (fun h58 => bh (pR (h58) 1236 (l0) (zn (h57))) (fun h59 => bh (pN (h59) 22 ((4 : Int32)).toNatClampNeg) (fun h60 => bh (pR (h60) 1237 (l0) (zn (h59))) (fun h61 => bh (pN (h61) 22 ((4 : Int32)).toNatClampNeg) (fun h62 => bh (pR (h62) 1238 (l0) (zn (h61))) (fun h63 => bh (pN (h63) 22 ((4 : Int32)).toNatClampNeg) (fun h64 => bh (pR (h64) 1239 (l0) (zn (h63))) (fun h65 => bh (pN (h65) 22 ((3840 : Int32)).toNatClampNeg) (fun h66 => bh (pR (h66) 1240 (l0) (zn (h65))) (fun h67 => bh (pN (h67) 22 ((64 : Int32)).toNatClampNeg) (fun h68 => bh (pR (h68) 1241 (l0) (zn (h67))) (fun h69 => bh (pN (h69) 22 ((64 : Int32)).toNatClampNeg) (fun h70 => bh (pR (h70) 1242 (l0) (zn (h69))) (fun h71 => bh (pN (h71) 22 ((64 : Int32)).toNatClampNeg) (fun h72 => bh (pR (h72) 1243 (l0) (zn (h71))) (fun h73 => bh (pN (h73) 22 ((64 : Int32)).toNatClampNeg) (fun h74 => bh (pR (h74) 1244 (l0) (zn (h73))) (fun h75 => bh (pN (h75) 22 ((512 : Int32)).toNatClampNeg) (fun h76 => bh (pR (h76) 1245 (l0) (zn (h75))) (fun h77 => bh (pN (h77) 22 ((64 : Int32)).toNatClampNeg) (fun h78 => bh (pR (h78) 1246 (l0) (zn (h77))) (fun h79 => bh (pN (h79) 22 ((64 : Int32)).toNatClampNeg) (fun h80 => bh (pR (h80) 1247 (l0) (zn (h79))) (fun h81 => bh (pN (h81) 22 ((64 : Int32)).toNatClampNeg) (fun h82 => bh (pR (h82) 1248 (l0) (zn (h81))) (fun h83 => bh (pN (h83) 22 ((64 : Int32)).toNatClampNeg) (fun h84 => bh (pR (h84) 1249 (l0) (zn (h83))) (fun h85 => bh (pN (h85) 22 ((64 : Int32)).toNatClampNeg) (fun h86 => bh (pR (h86) 1250 (l0) (zn (h85))) (fun h87 => bh (pN (h87) 22 ((64 : Int32)).toNatClampNeg) (fun h88 => bh (pR (h88) 1251 (l0) (zn (h87))) (fun h89 => bh (pN (h89) 22 ((64 : Int32)).toNatClampNeg) (fun h90 => bh (pR (h90) 1252 (l0) (zn (h89))) (fun h91 => bh (pN (h91) 22 ((64 : Int32)).toNatClampNeg) (fun h92 => bh (pR (h92) 1253 (l0) (zn (h91))) (fun h93 => bh (pN (h93) 22 ((64 : Int32)).toNatClampNeg) (fun h94 => bh (pR (h94) 1254 (l0) (zn (h93))) (fun h95 => bh (pN (h95) 22 ((64 : Int32)).toNatClampNeg) (fun h96 => bh (pR (h96) 1255 (l0) (zn (h95))) (fun h97 => bh (pN (h97) 22 ((64 : Int32)).toNatClampNeg) (fun h98 => bh (pR (h98) 1256 (l0) (zn (h97))) (fun h99 => bh (pN (h99) 22 ((4 : Int32)).toNatClampNeg) (fun h100 => bh (pR (h100) 1257 (l0) (zn (h99))) (fun h101 => bh (pN (h101) 22 ((4096 : Int32)).toNatClampNeg) (fun h102 => bh (pR (h102) 1258 (l0) (zn (h101))) (fun h103 => bh (pN (h103) 22 ((4096 : Int32)).toNatClampNeg) (fun h104 => bh (pR (h104) 1259 (l0) (zn (h103))) (fun h105 => bh (pN (h105) 22 ((4096 : Int32)).toNatClampNeg) (fun h106 => bh (pR (h106) 1260 (l0) (zn (h105))) (fun h107 => bh (pN (h107) 22 ((1024 : Int32)).toNatClampNeg) (fun h108 => bh (pR (h108) 1261 (l0) (zn (h107))) (fun h109 => bh (pN (h109) 23 ((8192 : Int32)).toNatClampNeg) (fun h110 => bh (pR (h110) 1262 (l0) (zn (h109))) (fun h111 => f_X11_init_458 fz (l0) ((0 : Int32)) (h111))))))))))))))))))))))))))))))))))))))))))))))))))))))))))))))))))))))))))))))))))))))))))))))))))))))))))))))))
theorem f_X11_init_ok {G : Gd} {d : Nat} (hj : 2 ≤ d) : ∀ (l0 : Nat) (L : List (Nat × Value)) (h : Hp) (o : Hp), zlk L 0 = some (zrf (l0)) → f_X11_init l0 h = some o → Ev G M_X11_init d 0 L [] h (Ret Y_X11_init none o) := by
  intro l0 L h o g0 e
  unfold f_X11_init at e
  refine g_ald_n d_X11_init_0 rfl g0 ?_
  replace e := ckd e
  obtain ⟨k1, e⟩ := e
  refine g_objInit k1 d_X11_init_1 (by decide +kernel) (by omega) (by simp [zrf_cat, cat_int, cat_long]) ?_
  refine g_ald_n d_X11_init_4 rfl g0 ?_
  refine r_sipush d_X11_init_5 (v := (300 : Int32)) (by decide +kernel) ?_
  replace e := ckd e
  obtain ⟨k2, e⟩ := e
  refine g_newa (t := 22) k2 d_X11_init_8 (by decide) (by decide) rfl (by decide +kernel) (by decide) (by decide +kernel) ?_
  replace e := bhd e
  obtain ⟨_, rfl, e⟩ := e
  refine g_putR d_X11_init_10 (f := 1203) (tO_pN k1) fk_12_7 rfl (Or.inr ⟨rfl, rfl⟩) (Or.inr ⟨_, rfl⟩) ?_
  replace e := bhd e
  obtain ⟨_, rfl, e⟩ := e
  refine g_ald_n d_X11_init_13 rfl g0 ?_
  refine r_iconst d_X11_init_14 (v := (-1 : Int32)) (by decide +kernel) ?_
  refine g_putI d_X11_init_15 (f := 1205) (tO_pR (tO_pN k1)) fk_12_13 rfl (Or.inl rfl) ⟨rfl, rfl⟩ ?_
  replace e := bhd e
  obtain ⟨_, rfl, e⟩ := e
  refine g_ald_n d_X11_init_18 rfl g0 ?_
  refine r_sipush d_X11_init_19 (v := (4100 : Int32)) (by decide +kernel) ?_
  refine g_newa (t := 22) (t8_pI (t8_pR (t8_pN k2))) d_X11_init_22 (by decide) (by decide) rfl (by decide +kernel) (by decide) (by decide +kernel) ?_
  replace e := bhd e
  obtain ⟨_, rfl, e⟩ := e
  refine g_putR d_X11_init_24 (f := 1207) (tO_pN (tO_pI (tO_pR (tO_pN k1)))) fk_12_17 rfl (Or.inr ⟨rfl, rfl⟩) (Or.inr ⟨_, rfl⟩) ?_
  replace e := bhd e
  obtain ⟨_, rfl, e⟩ := e
  refine g_ald_n d_X11_init_27 rfl g0 ?_
  refine r_sipush d_X11_init_28 (v := (4100 : Int32)) (by decide +kernel) ?_
  refine g_newa (t := 22) (t8_pR (t8_pN (t8_pI (t8_pR (t8_pN k2))))) d_X11_init_31 (by decide) (by decide) rfl (by decide +kernel) (by decide) (by decide +kernel) ?_
  replace e := bhd e
  obtain ⟨_, rfl, e⟩ := e
  refine g_putR d_X11_init_33 (f := 1208) (tO_pN (tO_pR (tO_pN (tO_pI (tO_pR (tO_pN k1)))))) fk_12_20 rfl (Or.inr ⟨rfl, rfl⟩) (Or.inr ⟨_, rfl⟩) ?_
  replace e := bhd e
  obtain ⟨_, rfl, e⟩ := e
  refine g_ald_n d_X11_init_36 rfl g0 ?_
  refine r_sipush d_X11_init_37 (v := (4100 : Int32)) (by decide +kernel) ?_
  refine g_newa (t := 22) (t8_pR (t8_pN (t8_pR (t8_pN (t8_pI (t8_pR (t8_pN k2))))))) d_X11_init_40 (by decide) (by decide) rfl (by decide +kernel) (by decide) (by decide +kernel) ?_
  replace e := bhd e
  obtain ⟨_, rfl, e⟩ := e
  refine g_putR d_X11_init_42 (f := 1209) (tO_pN (tO_pR (tO_pN (tO_pR (tO_pN (tO_pI (tO_pR (tO_pN k1)))))))) fk_12_23 rfl (Or.inr ⟨rfl, rfl⟩) (Or.inr ⟨_, rfl⟩) ?_
  replace e := bhd e
  obtain ⟨_, rfl, e⟩ := e
  refine g_ald_n d_X11_init_45 rfl g0 ?_
  refine r_sipush d_X11_init_46 (v := (4100 : Int32)) (by decide +kernel) ?_
  refine g_newa (t := 22) (t8_pR (t8_pN (t8_pR (t8_pN (t8_pR (t8_pN (t8_pI (t8_pR (t8_pN k2))))))))) d_X11_init_49 (by decide) (by decide) rfl (by decide +kernel) (by decide) (by decide +kernel) ?_
  replace e := bhd e
  obtain ⟨_, rfl, e⟩ := e
  refine g_putR d_X11_init_51 (f := 1210) (tO_pN (tO_pR (tO_pN (tO_pR (tO_pN (tO_pR (tO_pN (tO_pI (tO_pR (tO_pN k1)))))))))) fk_12_26 rfl (Or.inr ⟨rfl, rfl⟩) (Or.inr ⟨_, rfl⟩) ?_
  replace e := bhd e
  obtain ⟨_, rfl, e⟩ := e
  refine g_ald_n d_X11_init_54 rfl g0 ?_
  refine r_bipush d_X11_init_55 (v := (8 : Int32)) (by decide +kernel) ?_
  refine g_newa (t := 22) (t8_pR (t8_pN (t8_pR (t8_pN (t8_pR (t8_pN (t8_pR (t8_pN (t8_pI (t8_pR (t8_pN k2))))))))))) d_X11_init_57 (by decide) (by decide) rfl (by decide +kernel) (by decide) (by decide +kernel) ?_
  replace e := bhd e
  obtain ⟨_, rfl, e⟩ := e
  refine g_putR d_X11_init_59 (f := 1211) (tO_pN (tO_pR (tO_pN (tO_pR (tO_pN (tO_pR (tO_pN (tO_pR (tO_pN (tO_pI (tO_pR (tO_pN k1)))))))))))) fk_12_29 rfl (Or.inr ⟨rfl, rfl⟩) (Or.inr ⟨_, rfl⟩) ?_
  replace e := bhd e
  obtain ⟨_, rfl, e⟩ := e
  refine g_ald_n d_X11_init_62 rfl g0 ?_
  refine r_bipush d_X11_init_63 (v := (8 : Int32)) (by decide +kernel) ?_
  refine g_newa (t := 22) (t8_pR (t8_pN (t8_pR (t8_pN (t8_pR (t8_pN (t8_pR (t8_pN (t8_pR (t8_pN (t8_pI (t8_pR (t8_pN k2))))))))))))) d_X11_init_65 (by decide) (by decide) rfl (by decide +kernel) (by decide) (by decide +kernel) ?_
  replace e := bhd e
  obtain ⟨_, rfl, e⟩ := e
  refine g_putR d_X11_init_67 (f := 1212) (tO_pN (tO_pR (tO_pN (tO_pR (tO_pN (tO_pR (tO_pN (tO_pR (tO_pN (tO_pR (tO_pN (tO_pI (tO_pR (tO_pN k1)))))))))))))) fk_12_32 rfl (Or.inr ⟨rfl, rfl⟩) (Or.inr ⟨_, rfl⟩) ?_
  replace e := bhd e
  obtain ⟨_, rfl, e⟩ := e
  refine g_ald_n d_X11_init_70 rfl g0 ?_
  refine r_sipush d_X11_init_71 (v := (11100 : Int32)) (by decide +kernel) ?_
  refine g_newa (t := 22) (t8_pR (t8_pN (t8_pR (t8_pN (t8_pR (t8_pN (t8_pR (t8_pN (t8_pR (t8_pN (t8_pR (t8_pN (t8_pI (t8_pR (t8_pN k2))))))))))))))) d_X11_init_74 (by decide) (by decide) rfl (by decide +kernel) (by decide) (by decide +kernel) ?_
  replace e := bhd e
  obtain ⟨_, rfl, e⟩ := e
  refine g_putR d_X11_init_76 (f := 1214) (tO_pN (tO_pR (tO_pN (tO_pR (tO_pN (tO_pR (tO_pN (tO_pR (tO_pN (tO_pR (tO_pN (tO_pR (tO_pN (tO_pI (tO_pR (tO_pN k1)))))))))))))))) fk_12_35 rfl (Or.inr ⟨rfl, rfl⟩) (Or.inr ⟨_, rfl⟩) ?_
  replace e := bhd e
  obtain ⟨_, rfl, e⟩ := e
  refine g_ald_n d_X11_init_79 rfl g0 ?_
  refine r_sipush d_X11_init_80 (v := (11100 : Int32)) (by decide +kernel) ?_
  refine g_newa (t := 22) (t8_pR (t8_pN (t8_pR (t8_pN (t8_pR (t8_pN (t8_pR (t8_pN (t8_pR (t8_pN (t8_pR (t8_pN (t8_pR (t8_pN (t8_pI (t8_pR (t8_pN k2))))))))))))))))) d_X11_init_83 (by decide) (by decide) rfl (by decide +kernel) (by decide) (by decide +kernel) ?_
  replace e := bhd e
  obtain ⟨_, rfl, e⟩ := e
  refine g_putR d_X11_init_85 (f := 1215) (tO_pN (tO_pR (tO_pN (tO_pR (tO_pN (tO_pR (tO_pN (tO_pR (tO_pN (tO_pR (tO_pN (tO_pR (tO_pN (tO_pR (tO_pN (tO_pI (tO_pR (tO_pN k1)))))))))))))))))) fk_12_38 rfl (Or.inr ⟨rfl, rfl⟩) (Or.inr ⟨_, rfl⟩) ?_
  replace e := bhd e
  obtain ⟨_, rfl, e⟩ := e
  refine g_ald_n d_X11_init_88 rfl g0 ?_
  refine r_sipush d_X11_init_89 (v := (11100 : Int32)) (by decide +kernel) ?_
  refine g_newa (t := 23) (t8_pR (t8_pN (t8_pR (t8_pN (t8_pR (t8_pN (t8_pR (t8_pN (t8_pR (t8_pN (t8_pR (t8_pN (t8_pR (t8_pN (t8_pR (t8_pN (t8_pI (t8_pR (t8_pN k2))))))))))))))))))) d_X11_init_92 (by decide) (by decide) rfl (by decide +kernel) (by decide) (by decide +kernel) ?_
  replace e := bhd e
  obtain ⟨_, rfl, e⟩ := e
  refine g_putR d_X11_init_94 (f := 1216) (tO_pN (tO_pR (tO_pN (tO_pR (tO_pN (tO_pR (tO_pN (tO_pR (tO_pN (tO_pR (tO_pN (tO_pR (tO_pN (tO_pR (tO_pN (tO_pR (tO_pN (tO_pI (tO_pR (tO_pN k1)))))))))))))))))))) fk_12_41 rfl (Or.inr ⟨rfl, rfl⟩) (Or.inr ⟨_, rfl⟩) ?_
  replace e := bhd e
  obtain ⟨_, rfl, e⟩ := e
  refine g_ald_n d_X11_init_97 rfl g0 ?_
  refine r_sipush d_X11_init_98 (v := (11100 : Int32)) (by decide +kernel) ?_
  refine g_newa (t := 22) (t8_pR (t8_pN (t8_pR (t8_pN (t8_pR (t8_pN (t8_pR (t8_pN (t8_pR (t8_pN (t8_pR (t8_pN (t8_pR (t8_pN (t8_pR (t8_pN (t8_pR (t8_pN (t8_pI (t8_pR (t8_pN k2))))))))))))))))))))) d_X11_init_101 (by decide) (by decide) rfl (by decide +kernel) (by decide) (by decide +kernel) ?_
  replace e := bhd e
  obtain ⟨_, rfl, e⟩ := e
  refine g_putR d_X11_init_103 (f := 1217) (tO_pN (tO_pR (tO_pN (tO_pR (tO_pN (tO_pR (tO_pN (tO_pR (tO_pN (tO_pR (tO_pN (tO_pR (tO_pN (tO_pR (tO_pN (tO_pR (tO_pN (tO_pR (tO_pN (tO_pI (tO_pR (tO_pN k1)))))))))))))))))))))) fk_12_45 rfl (Or.inr ⟨rfl, rfl⟩) (Or.inr ⟨_, rfl⟩) ?_
  replace e := bhd e
  obtain ⟨_, rfl, e⟩ := e
  refine g_ald_n d_X11_init_106 rfl g0 ?_
  refine r_sipush d_X11_init_107 (v := (11100 : Int32)) (by decide +kernel) ?_
  refine g_newa (t := 23) (t8_pR (t8_pN (t8_pR (t8_pN (t8_pR (t8_pN (t8_pR (t8_pN (t8_pR (t8_pN (t8_pR (t8_pN (t8_pR (t8_pN (t8_pR (t8_pN (t8_pR (t8_pN (t8_pR (t8_pN (t8_pI (t8_pR (t8_pN k2))))))))))))))))))))))) d_X11_init_110 (by decide) (by decide) rfl (by decide +kernel) (by decide) (by decide +kernel) ?_
  replace e := bhd e
  obtain ⟨_, rfl, e⟩ := e
  refine g_putR d_X11_init_112 (f := 1218) (tO_pN (tO_pR (tO_pN (tO_pR (tO_pN (tO_pR (tO_pN (tO_pR (tO_pN (tO_pR (tO_pN (tO_pR (tO_pN (tO_pR (tO_pN (tO_pR (tO_pN (tO_pR (tO_pN (tO_pR (tO_pN (tO_pI (tO_pR (tO_pN k1)))))))))))))))))))))))) fk_12_48 rfl (Or.inr ⟨rfl, rfl⟩) (Or.inr ⟨_, rfl⟩) ?_
  replace e := bhd e
  obtain ⟨_, rfl, e⟩ := e
  refine g_ald_n d_X11_init_115 rfl g0 ?_
  refine r_sipush d_X11_init_116 (v := (11100 : Int32)) (by decide +kernel) ?_
  refine g_newa (t := 22) (t8_pR (t8_pN (t8_pR (t8_pN (t8_pR (t8_pN (t8_pR (t8_pN (t8_pR (t8_pN (t8_pR (t8_pN (t8_pR (t8_pN (t8_pR (t8_pN (t8_pR (t8_pN (t8_pR (t8_pN (t8_pR (t8_pN (t8_pI (t8_pR (t8_pN k2))))))))))))))))))))))))) d_X11_init_119 (by decide) (by decide) rfl (by decide +kernel) (by decide) (by decide +kernel) ?_
  replace e := bhd e
  obtain ⟨_, rfl, e⟩ := e
  refine g_putR d_X11_init_121 (f := 1219) (tO_pN (tO_pR (tO_pN (tO_pR (tO_pN (tO_pR (tO_pN (tO_pR (tO_pN (tO_pR (tO_pN (tO_pR (tO_pN (tO_pR (tO_pN (tO_pR (tO_pN (tO_pR (tO_pN (tO_pR (tO_pN (tO_pR (tO_pN (tO_pI (tO_pR (tO_pN k1)))))))))))))))))))))))))) fk_12_51 rfl (Or.inr ⟨rfl, rfl⟩) (Or.inr ⟨_, rfl⟩) ?_
  replace e := bhd e
  obtain ⟨_, rfl, e⟩ := e
  refine g_ald_n d_X11_init_124 rfl g0 ?_
  refine r_sipush d_X11_init_125 (v := (11100 : Int32)) (by decide +kernel) ?_
  refine g_newa (t := 22) (t8_pR (t8_pN (t8_pR (t8_pN (t8_pR (t8_pN (t8_pR (t8_pN (t8_pR (t8_pN (t8_pR (t8_pN (t8_pR (t8_pN (t8_pR (t8_pN (t8_pR (t8_pN (t8_pR (t8_pN (t8_pR (t8_pN (t8_pR (t8_pN (t8_pI (t8_pR (t8_pN k2))))))))))))))))))))))))))) d_X11_init_128 (by decide) (by decide) rfl (by decide +kernel) (by decide) (by decide +kernel) ?_
  replace e := bhd e
  obtain ⟨_, rfl, e⟩ := e
  refine g_putR d_X11_init_130 (f := 1220) (tO_pN (tO_pR (tO_pN (tO_pR (tO_pN (tO_pR (tO_pN (tO_pR (tO_pN (tO_pR (tO_pN (tO_pR (tO_pN (tO_pR (tO_pN (tO_pR (tO_pN (tO_pR (tO_pN (tO_pR (tO_pN (tO_pR (tO_pN (tO_pR (tO_pN (tO_pI (tO_pR (tO_pN k1)))))))))))))))))))))))))))) fk_12_54 rfl (Or.inr ⟨rfl, rfl⟩) (Or.inr ⟨_, rfl⟩) ?_
  replace e := bhd e
  obtain ⟨_, rfl, e⟩ := e
  refine g_ald_n d_X11_init_133 rfl g0 ?_
  refine r_sipush d_X11_init_134 (v := (11100 : Int32)) (by decide +kernel) ?_
  refine g_newa (t := 22) (t8_pR (t8_pN (t8_pR (t8_pN (t8_pR (t8_pN (t8_pR (t8_pN (t8_pR (t8_pN (t8_pR (t8_pN (t8_pR (t8_pN (t8_pR (t8_pN (t8_pR (t8_pN (t8_pR (t8_pN (t8_pR (t8_pN (t8_pR (t8_pN (t8_pR (t8_pN (t8_pI (t8_pR (t8_pN k2))))))))))))))))))))))))))))) d_X11_init_137 (by decide) (by decide) rfl (by decide +kernel) (by decide) (by decide +kernel) ?_
  replace e := bhd e
  obtain ⟨_, rfl, e⟩ := e
  refine g_putR d_X11_init_139 (f := 1221) (tO_pN (tO_pR (tO_pN (tO_pR (tO_pN (tO_pR (tO_pN (tO_pR (tO_pN (tO_pR (tO_pN (tO_pR (tO_pN (tO_pR (tO_pN (tO_pR (tO_pN (tO_pR (tO_pN (tO_pR (tO_pN (tO_pR (tO_pN (tO_pR (tO_pN (tO_pR (tO_pN (tO_pI (tO_pR (tO_pN k1)))))))))))))))))))))))))))))) fk_12_57 rfl (Or.inr ⟨rfl, rfl⟩) (Or.inr ⟨_, rfl⟩) ?_
  replace e := bhd e
  obtain ⟨_, rfl, e⟩ := e
  refine g_ald_n d_X11_init_142 rfl g0 ?_
  refine r_bipush d_X11_init_143 (v := (10 : Int32)) (by decide +kernel) ?_
  refine g_newa (t := 22) (t8_pR (t8_pN (t8_pR (t8_pN (t8_pR (t8_pN (t8_pR (t8_pN (t8_pR (t8_pN (t8_pR (t8_pN (t8_pR (t8_pN (t8_pR (t8_pN (t8_pR (t8_pN (t8_pR (t8_pN (t8_pR (t8_pN (t8_pR (t8_pN (t8_pR (t8_pN (t8_pR (t8_pN (t8_pI (t8_pR (t8_pN k2))))))))))))))))))))))))))))))) d_X11_init_145 (by decide) (by decide) rfl (by decide +kernel) (by decide) (by decide +kernel) ?_
  replace e := bhd e
  obtain ⟨_, rfl, e⟩ := e
  refine g_putR d_X11_init_147 (f := 1222) (tO_pN (tO_pR (tO_pN (tO_pR (tO_pN (tO_pR (tO_pN (tO_pR (tO_pN (tO_pR (tO_pN (tO_pR (tO_pN (tO_pR (tO_pN (tO_pR (tO_pN (tO_pR (tO_pN (tO_pR (tO_pN (tO_pR (tO_pN (tO_pR (tO_pN (tO_pR (tO_pN (tO_pR (tO_pN (tO_pI (tO_pR (tO_pN k1)))))))))))))))))))))))))))))))) fk_12_60 rfl (Or.inr ⟨rfl, rfl⟩) (Or.inr ⟨_, rfl⟩) ?_
  replace e := bhd e
  obtain ⟨_, rfl, e⟩ := e
  refine g_ald_n d_X11_init_150 rfl g0 ?_
  refine r_ldc d_X11_init_151 (v := (60000 : Int32)) (by decide +kernel) ?_
  refine g_newa (t := 22) (t8_pR (t8_pN (t8_pR (t8_pN (t8_pR (t8_pN (t8_pR (t8_pN (t8_pR (t8_pN (t8_pR (t8_pN (t8_pR (t8_pN (t8_pR (t8_pN (t8_pR (t8_pN (t8_pR (t8_pN (t8_pR (t8_pN (t8_pR (t8_pN (t8_pR (t8_pN (t8_pR (t8_pN (t8_pR (t8_pN (t8_pI (t8_pR (t8_pN k2))))))))))))))))))))))))))))))))) d_X11_init_153 (by decide) (by decide) rfl (by decide +kernel) (by decide) (by decide +kernel) ?_
  replace e := bhd e
  obtain ⟨_, rfl, e⟩ := e
  refine g_putR d_X11_init_155 (f := 1225) (tO_pN (tO_pR (tO_pN (tO_pR (tO_pN (tO_pR (tO_pN (tO_pR (tO_pN (tO_pR (tO_pN (tO_pR (tO_pN (tO_pR (tO_pN (tO_pR (tO_pN (tO_pR (tO_pN (tO_pR (tO_pN (tO_pR (tO_pN (tO_pR (tO_pN (tO_pR (tO_pN (tO_pR (tO_pN (tO_pR (tO_pN (tO_pI (tO_pR (tO_pN k1)))))))))))))))))))))))))))))))))) fk_12_64 rfl (Or.inr ⟨rfl, rfl⟩) (Or.inr ⟨_, rfl⟩) ?_
  replace e := bhd e
  obtain ⟨_, rfl, e⟩ := e
  refine g_ald_n d_X11_init_158 rfl g0 ?_
  refine r_ldc d_X11_init_159 (v := (60000 : Int32)) (by decide +kernel) ?_
  refine g_newa (t := 22) (t8_pR (t8_pN (t8_pR (t8_pN (t8_pR (t8_pN (t8_pR (t8_pN (t8_pR (t8_pN (t8_pR (t8_pN (t8_pR (t8_pN (t8_pR (t8_pN (t8_pR (t8_pN (t8_pR (t8_pN (t8_pR (t8_pN (t8_pR (t8_pN (t8_pR (t8_pN (t8_pR (t8_pN (t8_pR (t8_pN (t8_pR (t8_pN (t8_pI (t8_pR (t8_pN k2))))))))))))))))))))))))))))))))))) d_X11_init_161 (by decide) (by decide) rfl (by decide +kernel) (by decide) (by decide +kernel) ?_
  replace e := bhd e
  obtain ⟨_, rfl, e⟩ := e
  refine g_putR d_X11_init_163 (f := 1226) (tO_pN (tO_pR (tO_pN (tO_pR (tO_pN (tO_pR (tO_pN (tO_pR (tO_pN (tO_pR (tO_pN (tO_pR (tO_pN (tO_pR (tO_pN (tO_pR (tO_pN (tO_pR (tO_pN (tO_pR (tO_pN (tO_pR (tO_pN (tO_pR (tO_pN (tO_pR (tO_pN (tO_pR (tO_pN (tO_pR (tO_pN (tO_pR (tO_pN (tO_pI (tO_pR (tO_pN k1)))))))))))))))))))))))))))))))))))) fk_12_67 rfl (Or.inr ⟨rfl, rfl⟩) (Or.inr ⟨_, rfl⟩) ?_
  replace e := bhd e
  obtain ⟨_, rfl, e⟩ := e
  refine g_ald_n d_X11_init_166 rfl g0 ?_
  refine r_ldc d_X11_init_167 (v := (60000 : Int32)) (by decide +kernel) ?_
  refine g_newa (t := 22) (t8_pR (t8_pN (t8_pR (t8_pN (t8_pR (t8_pN (t8_pR (t8_pN (t8_pR (t8_pN (t8_pR (t8_pN (t8_pR (t8_pN (t8_pR (t8_pN (t8_pR (t8_pN (t8_pR (t8_pN (t8_pR (t8_pN (t8_pR (t8_pN (t8_pR (t8_pN (t8_pR (t8_pN (t8_pR (t8_pN (t8_pR (t8_pN (t8_pR (t8_pN (t8_pI (t8_pR (t8_pN k2))))))))))))))))))))))))))))))))))))) d_X11_init_169 (by decide) (by decide) rfl (by decide +kernel) (by decide) (by decide +kernel) ?_
  replace e := bhd e
  obtain ⟨_, rfl, e⟩ := e
  refine g_putR d_X11_init_171 (f := 1227) (tO_pN (tO_pR (tO_pN (tO_pR (tO_pN (tO_pR (tO_pN (tO_pR (tO_pN (tO_pR (tO_pN (tO_pR (tO_pN (tO_pR (tO_pN (tO_pR (tO_pN (tO_pR (tO_pN (tO_pR (tO_pN (tO_pR (tO_pN (tO_pR (tO_pN (tO_pR (tO_pN (tO_pR (tO_pN (tO_pR (tO_pN (tO_pR (tO_pN (tO_pR (tO_pN (tO_pI (tO_pR (tO_pN k1)))))))))))))))))))))))))))))))))))))) fk_12_70 rfl (Or.inr ⟨rfl, rfl⟩) (Or.inr ⟨_, rfl⟩) ?_
  replace e := bhd e
  obtain ⟨_, rfl, e⟩ := e
  refine g_ald_n d_X11_init_174 rfl g0 ?_
  refine r_ldc d_X11_init_175 (v := (60000 : Int32)) (by decide +kernel) ?_
  refine g_newa (t := 22) (t8_pR (t8_pN (t8_pR (t8_pN (t8_pR (t8_pN (t8_pR (t8_pN (t8_pR (t8_pN (t8_pR (t8_pN (t8_pR (t8_pN (t8_pR (t8_pN (t8_pR (t8_pN (t8_pR (t8_pN (t8_pR (t8_pN (t8_pR (t8_pN (t8_pR (t8_pN (t8_pR (t8_pN (t8_pR (t8_pN (t8_pR (t8_pN (t8_pR (t8_pN (t8_pR (t8_pN (t8_pI (t8_pR (t8_pN k2))))))))))))))))))))))))))))))))))))))) d_X11_init_177 (by decide) (by decide) rfl (by decide +kernel) (by decide) (by decide +kernel) ?_
  replace e := bhd e
  obtain ⟨_, rfl, e⟩ := e
  refine g_putR d_X11_init_179 (f := 1228) (tO_pN (tO_pR (tO_pN (tO_pR (tO_pN (tO_pR (tO_pN (tO_pR (tO_pN (tO_pR (tO_pN (tO_pR (tO_pN (tO_pR (tO_pN (tO_pR (tO_pN (tO_pR (tO_pN (tO_pR (tO_pN (tO_pR (tO_pN (tO_pR (tO_pN (tO_pR (tO_pN (tO_pR (tO_pN (tO_pR (tO_pN (tO_pR (tO_pN (tO_pR (tO_pN (tO_pR (tO_pN (tO_pI (tO_pR (tO_pN k1)))))))))))))))))))))))))))))))))))))))) fk_12_73 rfl (Or.inr ⟨rfl, rfl⟩) (Or.inr ⟨_, rfl⟩) ?_
  replace e := bhd e
  obtain ⟨_, rfl, e⟩ := e
  refine g_ald_n d_X11_init_182 rfl g0 ?_
  refine r_ldc d_X11_init_183 (v := (60000 : Int32)) (by decide +kernel) ?_
  refine g_newa (t := 22) (t8_pR (t8_pN (t8_pR (t8_pN (t8_pR (t8_pN (t8_pR (t8_pN (t8_pR (t8_pN (t8_pR (t8_pN (t8_pR (t8_pN (t8_pR (t8_pN (t8_pR (t8_pN (t8_pR (t8_pN (t8_pR (t8_pN (t8_pR (t8_pN (t8_pR (t8_pN (t8_pR (t8_pN (t8_pR (t8_pN (t8_pR (t8_pN (t8_pR (t8_pN (t8_pR (t8_pN (t8_pR (t8_pN (t8_pI (t8_pR (t8_pN k2))))))))))))))))))))))))))))))))))))))))) d_X11_init_185 (by decide) (by decide) rfl (by decide +kernel) (by decide) (by decide +kernel) ?_
  replace e := bhd e
  obtain ⟨_, rfl, e⟩ := e
  refine g_putR d_X11_init_187 (f := 1229) (tO_pN (tO_pR (tO_pN (tO_pR (tO_pN (tO_pR (tO_pN (tO_pR (tO_pN (tO_pR (tO_pN (tO_pR (tO_pN (tO_pR (tO_pN (tO_pR (tO_pN (tO_pR (tO_pN (tO_pR (tO_pN (tO_pR (tO_pN (tO_pR (tO_pN (tO_pR (tO_pN (tO_pR (tO_pN (tO_pR (tO_pN (tO_pR (tO_pN (tO_pR (tO_pN (tO_pR (tO_pN (tO_pR (tO_pN (tO_pI (tO_pR (tO_pN k1)))))))))))))))))))))))))))))))))))))))))) fk_12_76 rfl (Or.inr ⟨rfl, rfl⟩) (Or.inr ⟨_, rfl⟩) ?_
  replace e := bhd e
  obtain ⟨_, rfl, e⟩ := e
  refine g_ald_n d_X11_init_190 rfl g0 ?_
  refine r_ldc d_X11_init_191 (v := (163840 : Int32)) (by decide +kernel) ?_
  refine g_newa (t := 22) (t8_pR (t8_pN (t8_pR (t8_pN (t8_pR (t8_pN (t8_pR (t8_pN (t8_pR (t8_pN (t8_pR (t8_pN (t8_pR (t8_pN (t8_pR (t8_pN (t8_pR (t8_pN (t8_pR (t8_pN (t8_pR (t8_pN (t8_pR (t8_pN (t8_pR (t8_pN (t8_pR (t8_pN (t8_pR (t8_pN (t8_pR (t8_pN (t8_pR (t8_pN (t8_pR (t8_pN (t8_pR (t8_pN (t8_pR (t8_pN (t8_pI (t8_pR (t8_pN k2))))))))))))))))))))))))))))))))))))))))))) d_X11_init_193 (by decide) (by decide) rfl (by decide +kernel) (by decide) (by decide +kernel) ?_
  replace e := bhd e
  obtain ⟨_, rfl, e⟩ := e
  refine g_putR d_X11_init_195 (f := 1230) (tO_pN (tO_pR (tO_pN (tO_pR (tO_pN (tO_pR (tO_pN (tO_pR (tO_pN (tO_pR (tO_pN (tO_pR (tO_pN (tO_pR (tO_pN (tO_pR (tO_pN (tO_pR (tO_pN (tO_pR (tO_pN (tO_pR (tO_pN (tO_pR (tO_pN (tO_pR (tO_pN (tO_pR (tO_pN (tO_pR (tO_pN (tO_pR (tO_pN (tO_pR (tO_pN (tO_pR (tO_pN (tO_pR (tO_pN (tO_pR (tO_pN (tO_pI (tO_pR (tO_pN k1)))))))))))))))))))))))))))))))))))))))))))) fk_12_80 rfl (Or.inr ⟨rfl, rfl⟩) (Or.inr ⟨_, rfl⟩) ?_
  replace e := bhd e
  obtain ⟨_, rfl, e⟩ := e
  refine g_ald_n d_X11_init_198 rfl g0 ?_
  refine r_bipush d_X11_init_199 (v := (20 : Int32)) (by decide +kernel) ?_
  refine g_newa (t := 22) (t8_pR (t8_pN (t8_pR (t8_pN (t8_pR (t8_pN (t8_pR (t8_pN (t8_pR (t8_pN (t8_pR (t8_pN (t8_pR (t8_pN (t8_pR (t8_pN (t8_pR (t8_pN (t8_pR (t8_pN (t8_pR (t8_pN (t8_pR (t8_pN (t8_pR (t8_pN (t8_pR (t8_pN (t8_pR (t8_pN (t8_pR (t8_pN (t8_pR (t8_pN (t8_pR (t8_pN (t8_pR (t8_pN (t8_pR (t8_pN (t8_pR (t8_pN (t8_pI (t8_pR (t8_pN k2))))))))))))))))))))))))))))))))))))))))))))) d_X11_init_201 (by decide) (by decide) rfl (by decide +kernel) (by decide) (by decide +kernel) ?_
  replace e := bhd e
  obtain ⟨_, rfl, e⟩ := e
  refine g_putR d_X11_init_203 (f := 1231) (tO_pN (tO_pR (tO_pN (tO_pR (tO_pN (tO_pR (tO_pN (tO_pR (tO_pN (tO_pR (tO_pN (tO_pR (tO_pN (tO_pR (tO_pN (tO_pR (tO_pN (tO_pR (tO_pN (tO_pR (tO_pN (tO_pR (tO_pN (tO_pR (tO_pN (tO_pR (tO_pN (tO_pR (tO_pN (tO_pR (tO_pN (tO_pR (tO_pN (tO_pR (tO_pN (tO_pR (tO_pN (tO_pR (tO_pN (tO_pR (tO_pN (tO_pR (tO_pN (tO_pI (tO_pR (tO_pN k1)))))))))))))))))))))))))))))))))))))))))))))) fk_12_83 rfl (Or.inr ⟨rfl, rfl⟩) (Or.inr ⟨_, rfl⟩) ?_
  replace e := bhd e
  obtain ⟨_, rfl, e⟩ := e
  refine g_ald_n d_X11_init_206 rfl g0 ?_
  refine r_bipush d_X11_init_207 (v := (20 : Int32)) (by decide +kernel) ?_
  refine g_newa (t := 22) (t8_pR (t8_pN (t8_pR (t8_pN (t8_pR (t8_pN (t8_pR (t8_pN (t8_pR (t8_pN (t8_pR (t8_pN (t8_pR (t8_pN (t8_pR (t8_pN (t8_pR (t8_pN (t8_pR (t8_pN (t8_pR (t8_pN (t8_pR (t8_pN (t8_pR (t8_pN (t8_pR (t8_pN (t8_pR (t8_pN (t8_pR (t8_pN (t8_pR (t8_pN (t8_pR (t8_pN (t8_pR (t8_pN (t8_pR (t8_pN (t8_pR (t8_pN (t8_pR (t8_pN (t8_pI (t8_pR (t8_pN k2))))))))))))))))))))))))))))))))))))))))))))))) d_X11_init_209 (by decide) (by decide) rfl (by decide +kernel) (by decide) (by decide +kernel) ?_
  replace e := bhd e
  obtain ⟨_, rfl, e⟩ := e
  refine g_putR d_X11_init_211 (f := 1232) (tO_pN (tO_pR (tO_pN (tO_pR (tO_pN (tO_pR (tO_pN (tO_pR (tO_pN (tO_pR (tO_pN (tO_pR (tO_pN (tO_pR (tO_pN (tO_pR (tO_pN (tO_pR (tO_pN (tO_pR (tO_pN (tO_pR (tO_pN (tO_pR (tO_pN (tO_pR (tO_pN (tO_pR (tO_pN (tO_pR (tO_pN (tO_pR (tO_pN (tO_pR (tO_pN (tO_pR (tO_pN (tO_pR (tO_pN (tO_pR (tO_pN (tO_pR (tO_pN (tO_pR (tO_pN (tO_pI (tO_pR (tO_pN k1)))))))))))))))))))))))))))))))))))))))))))))))) fk_12_86 rfl (Or.inr ⟨rfl, rfl⟩) (Or.inr ⟨_, rfl⟩) ?_
  replace e := bhd e
  obtain ⟨_, rfl, e⟩ := e
  refine g_ald_n d_X11_init_214 rfl g0 ?_
  refine r_bipush d_X11_init_215 (v := (20 : Int32)) (by decide +kernel) ?_
  refine g_newa (t := 22) (t8_pR (t8_pN (t8_pR (t8_pN (t8_pR (t8_pN (t8_pR (t8_pN (t8_pR (t8_pN (t8_pR (t8_pN (t8_pR (t8_pN (t8_pR (t8_pN (t8_pR (t8_pN (t8_pR (t8_pN (t8_pR (t8_pN (t8_pR (t8_pN (t8_pR (t8_pN (t8_pR (t8_pN (t8_pR (t8_pN (t8_pR (t8_pN (t8_pR (t8_pN (t8_pR (t8_pN (t8_pR (t8_pN (t8_pR (t8_pN (t8_pR (t8_pN (t8_pR (t8_pN (t8_pR (t8_pN (t8_pI (t8_pR (t8_pN k2))))))))))))))))))))))))))))))))))))))))))))))))) d_X11_init_217 (by decide) (by decide) rfl (by decide +kernel) (by decide) (by decide +kernel) ?_
  replace e := bhd e
  obtain ⟨_, rfl, e⟩ := e
  refine g_putR d_X11_init_219 (f := 1233) (tO_pN (tO_pR (tO_pN (tO_pR (tO_pN (tO_pR (tO_pN (tO_pR (tO_pN (tO_pR (tO_pN (tO_pR (tO_pN (tO_pR (tO_pN (tO_pR (tO_pN (tO_pR (tO_pN (tO_pR (tO_pN (tO_pR (tO_pN (tO_pR (tO_pN (tO_pR (tO_pN (tO_pR (tO_pN (tO_pR (tO_pN (tO_pR (tO_pN (tO_pR (tO_pN (tO_pR (tO_pN (tO_pR (tO_pN (tO_pR (tO_pN (tO_pR (tO_pN (tO_pR (tO_pN (tO_pR (tO_pN (tO_pI (tO_pR (tO_pN k1)))))))))))))))))))))))))))))))))))))))))))))))))) fk_12_89 rfl (Or.inr ⟨rfl, rfl⟩) (Or.inr ⟨_, rfl⟩) ?_
  replace e := bhd e
  obtain ⟨_, rfl, e⟩ := e
  refine g_ald_n d_X11_init_222 rfl g0 ?_
  refine r_bipush d_X11_init_223 (v := (20 : Int32)) (by decide +kernel) ?_
  refine g_newa (t := 23) (t8_pR (t8_pN (t8_pR (t8_pN (t8_pR (t8_pN (t8_pR (t8_pN (t8_pR (t8_pN (t8_pR (t8_pN (t8_pR (t8_pN (t8_pR (t8_pN (t8_pR (t8_pN (t8_pR (t8_pN (t8_pR (t8_pN (t8_pR (t8_pN (t8_pR (t8_pN (t8_pR (t8_pN (t8_pR (t8_pN (t8_pR (t8_pN (t8_pR (t8_pN (t8_pR (t8_pN (t8_pR (t8_pN (t8_pR (t8_pN (t8_pR (t8_pN (t8_pR (t8_pN (t8_pR (t8_pN (t8_pR (t8_pN (t8_pI (t8_pR (t8_pN k2))))))))))))))))))))))))))))))))))))))))))))))))))) d_X11_init_225 (by decide) (by decide) rfl (by decide +kernel) (by decide) (by decide +kernel) ?_
  replace e := bhd e
  obtain ⟨_, rfl, e⟩ := e
  refine g_putR d_X11_init_227 (f := 1234) (tO_pN (tO_pR (tO_pN (tO_pR (tO_pN (tO_pR (tO_pN (tO_pR (tO_pN (tO_pR (tO_pN (tO_pR (tO_pN (tO_pR (tO_pN (tO_pR (tO_pN (tO_pR (tO_pN (tO_pR (tO_pN (tO_pR (tO_pN (tO_pR (tO_pN (tO_pR (tO_pN (tO_pR (tO_pN (tO_pR (tO_pN (tO_pR (tO_pN (tO_pR (tO_pN (tO_pR (tO_pN (tO_pR (tO_pN (tO_pR (tO_pN (tO_pR (tO_pN (tO_pR (tO_pN (tO_pR (tO_pN (tO_pR (tO_pN (tO_pI (tO_pR (tO_pN k1)))))))))))))))))))))))))))))))))))))))))))))))))))) fk_12_92 rfl (Or.inr ⟨rfl, rfl⟩) (Or.inr ⟨_, rfl⟩) ?_
  replace e := bhd e
  obtain ⟨_, rfl, e⟩ := e
  refine g_ald_n d_X11_init_230 rfl g0 ?_
  refine r_bipush d_X11_init_231 (v := (20 : Int32)) (by decide +kernel) ?_
  refine g_newa (t := 22) (t8_pR (t8_pN (t8_pR (t8_pN (t8_pR (t8_pN (t8_pR (t8_pN (t8_pR (t8_pN (t8_pR (t8_pN (t8_pR (t8_pN (t8_pR (t8_pN (t8_pR (t8_pN (t8_pR (t8_pN (t8_pR (t8_pN (t8_pR (t8_pN (t8_pR (t8_pN (t8_pR (t8_pN (t8_pR (t8_pN (t8_pR (t8_pN (t8_pR (t8_pN (t8_pR (t8_pN (t8_pR (t8_pN (t8_pR (t8_pN (t8_pR (t8_pN (t8_pR (t8_pN (t8_pR (t8_pN (t8_pR (t8_pN (t8_pR (t8_pN (t8_pI (t8_pR (t8_pN k2))))))))))))))))))))))))))))))))))))))))))))))))))))) d_X11_init_233 (by decide) (by decide) rfl (by decide +kernel) (by decide) (by decide +kernel) ?_
  replace e := bhd e
  obtain ⟨_, rfl, e⟩ := e
  refine g_putR d_X11_init_235 (f := 1235) (tO_pN (tO_pR (tO_pN (tO_pR (tO_pN (tO_pR (tO_pN (tO_pR (tO_pN (tO_pR (tO_pN (tO_pR (tO_pN (tO_pR (tO_pN (tO_pR (tO_pN (tO_pR (tO_pN (tO_pR (tO_pN (tO_pR (tO_pN (tO_pR (tO_pN (tO_pR (tO_pN (tO_pR (tO_pN (tO_pR (tO_pN (tO_pR (tO_pN (tO_pR (tO_pN (tO_pR (tO_pN (tO_pR (tO_pN (tO_pR (tO_pN (tO_pR (tO_pN (tO_pR (tO_pN (tO_pR (tO_pN (tO_pR (tO_pN (tO_pR (tO_pN (tO_pI (tO_pR (tO_pN k1)))))))))))))))))))))))))))))))))))))))))))))))))))))) fk_12_95 rfl (Or.inr ⟨rfl, rfl⟩) (Or.inr ⟨_, rfl⟩) ?_
  replace e := bhd e
  obtain ⟨_, rfl, e⟩ := e
  refine g_ald_n d_X11_init_238 rfl g0 ?_
  refine r_iconst d_X11_init_239 (v := (4 : Int32)) (by decide +kernel) ?_
  refine g_newa (t := 22) (t8_pR (t8_pN (t8_pR (t8_pN (t8_pR (t8_pN (t8_pR (t8_pN (t8_pR (t8_pN (t8_pR (t8_pN (t8_pR (t8_pN (t8_pR (t8_pN (t8_pR (t8_pN (t8_pR (t8_pN (t8_pR (t8_pN (t8_pR (t8_pN (t8_pR (t8_pN (t8_pR (t8_pN (t8_pR (t8_pN (t8_pR (t8_pN (t8_pR (t8_pN (t8_pR (t8_pN (t8_pR (t8_pN (t8_pR (t8_pN (t8_pR (t8_pN (t8_pR (t8_pN (t8_pR (t8_pN (t8_pR (t8_pN (t8_pR (t8_pN (t8_pR (t8_pN (t8_pI (t8_pR (t8_pN k2))))))))))))))))))))))))))))))))))))))))))))))))))))))) d_X11_init_240 (by decide) (by decide) rfl (by decide +kernel) (by decide) (by decide +kernel) ?_
  replace e := bhd e
  obtain ⟨_, rfl, e⟩ := e
  refine g_putR d_X11_init_242 (f := 1236) (tO_pN (tO_pR (tO_pN (tO_pR (tO_pN (tO_pR (tO_pN (tO_pR (tO_pN (tO_pR (tO_pN (tO_pR (tO_pN (tO_pR (tO_pN (tO_pR (tO_pN (tO_pR (tO_pN (tO_pR (tO_pN (tO_pR (tO_pN (tO_pR (tO_pN (tO_pR (tO_pN (tO_pR (tO_pN (tO_pR (tO_pN (tO_pR (tO_pN (tO_pR (tO_pN (tO_pR (tO_pN (tO_pR (tO_pN (tO_pR (tO_pN (tO_pR (tO_pN (tO_pR (tO_pN (tO_pR (tO_pN (tO_pR (tO_pN (tO_pR (tO_pN (tO_pR (tO_pN (tO_pI (tO_pR (tO_pN k1)))))))))))))))))))))))))))))))))))))))))))))))))))))))) fk_12_98 rfl (Or.inr ⟨rfl, rfl⟩) (Or.inr ⟨_, rfl⟩) ?_
  replace e := bhd e
  obtain ⟨_, rfl, e⟩ := e
  refine g_ald_n d_X11_init_245 rfl g0 ?_
  refine r_iconst d_X11_init_246 (v := (4 : Int32)) (by decide +kernel) ?_
  refine g_newa (t := 22) (t8_pR (t8_pN (t8_pR (t8_pN (t8_pR (t8_pN (t8_pR (t8_pN (t8_pR (t8_pN (t8_pR (t8_pN (t8_pR (t8_pN (t8_pR (t8_pN (t8_pR (t8_pN (t8_pR (t8_pN (t8_pR (t8_pN (t8_pR (t8_pN (t8_pR (t8_pN (t8_pR (t8_pN (t8_pR (t8_pN (t8_pR (t8_pN (t8_pR (t8_pN (t8_pR (t8_pN (t8_pR (t8_pN (t8_pR (t8_pN (t8_pR (t8_pN (t8_pR (t8_pN (t8_pR (t8_pN (t8_pR (t8_pN (t8_pR (t8_pN (t8_pR (t8_pN (t8_pR (t8_pN (t8_pI (t8_pR (t8_pN k2))))))))))))))))))))))))))))))))))))))))))))))))))))))))) d_X11_init_247 (by decide) (by decide) rfl (by decide +kernel) (by decide) (by decide +kernel) ?_
  replace e := bhd e
  obtain ⟨_, rfl, e⟩ := e
  refine g_putR d_X11_init_249 (f := 1237) (tO_pN (tO_pR (tO_pN (tO_pR (tO_pN (tO_pR (tO_pN (tO_pR (tO_pN (tO_pR (tO_pN (tO_pR (tO_pN (tO_pR (tO_pN (tO_pR (tO_pN (tO_pR (tO_pN (tO_pR (tO_pN (tO_pR (tO_pN (tO_pR (tO_pN (tO_pR (tO_pN (tO_pR (tO_pN (tO_pR (tO_pN (tO_pR (tO_pN (tO_pR (tO_pN (tO_pR (tO_pN (tO_pR (tO_pN (tO_pR (tO_pN (tO_pR (tO_pN (tO_pR (tO_pN (tO_pR (tO_pN (tO_pR (tO_pN (tO_pR (tO_pN (tO_pR (tO_pN (tO_pR (tO_pN (tO_pI (tO_pR (tO_pN k1)))))))))))))))))))))))))))))))))))))))))))))))))))))))))) fk_12_101 rfl (Or.inr ⟨rfl, rfl⟩) (Or.inr ⟨_, rfl⟩) ?_
  replace e := bhd e
  obtain ⟨_, rfl, e⟩ := e
  refine g_ald_n d_X11_init_252 rfl g0 ?_
  refine r_iconst d_X11_init_253 (v := (4 : Int32)) (by decide +kernel) ?_
  refine g_newa (t := 22) (t8_pR (t8_pN (t8_pR (t8_pN (t8_pR (t8_pN (t8_pR (t8_pN (t8_pR (t8_pN (t8_pR (t8_pN (t8_pR (t8_pN (t8_pR (t8_pN (t8_pR (t8_pN (t8_pR (t8_pN (t8_pR (t8_pN (t8_pR (t8_pN (t8_pR (t8_pN (t8_pR (t8_pN (t8_pR (t8_pN (t8_pR (t8_pN (t8_pR (t8_pN (t8_pR (t8_pN (t8_pR (t8_pN (t8_pR (t8_pN (t8_pR (t8_pN (t8_pR (t8_pN (t8_pR (t8_pN (t8_pR (t8_pN (t8_pR (t8_pN (t8_pR (t8_pN (t8_pR (t8_pN (t8_pR (t8_pN (t8_pI (t8_pR (t8_pN k2))))))))))))))))))))))))))))))))))))))))))))))))))))))))))) d_X11_init_254 (by decide) (by decide) rfl (by decide +kernel) (by decide) (by decide +kernel) ?_
  replace e := bhd e
  obtain ⟨_, rfl, e⟩ := e
  refine g_putR d_X11_init_256 (f := 1238) (tO_pN (tO_pR (tO_pN (tO_pR (tO_pN (tO_pR (tO_pN (tO_pR (tO_pN (tO_pR (tO_pN (tO_pR (tO_pN (tO_pR (tO_pN (tO_pR (tO_pN (tO_pR (tO_pN (tO_pR (tO_pN (tO_pR (tO_pN (tO_pR (tO_pN (tO_pR (tO_pN (tO_pR (tO_pN (tO_pR (tO_pN (tO_pR (tO_pN (tO_pR (tO_pN (tO_pR (tO_pN (tO_pR (tO_pN (tO_pR (tO_pN (tO_pR (tO_pN (tO_pR (tO_pN (tO_pR (tO_pN (tO_pR (tO_pN (tO_pR (tO_pN (tO_pR (tO_pN (tO_pR (tO_pN (tO_pR (tO_pN (tO_pI (tO_pR (tO_pN k1)))))))))))))))))))))))))))))))))))))))))))))))))))))))))))) fk_12_104 rfl (Or.inr ⟨rfl, rfl⟩) (Or.inr ⟨_, rfl⟩) ?_
  replace e := bhd e
  obtain ⟨_, rfl, e⟩ := e
  refine g_ald_n d_X11_init_259 rfl g0 ?_
  refine r_iconst d_X11_init_260 (v := (4 : Int32)) (by decide +kernel) ?_
  refine g_newa (t := 22) (t8_pR (t8_pN (t8_pR (t8_pN (t8_pR (t8_pN (t8_pR (t8_pN (t8_pR (t8_pN (t8_pR (t8_pN (t8_pR (t8_pN (t8_pR (t8_pN (t8_pR (t8_pN (t8_pR (t8_pN (t8_pR (t8_pN (t8_pR (t8_pN (t8_pR (t8_pN (t8_pR (t8_pN (t8_pR (t8_pN (t8_pR (t8_pN (t8_pR (t8_pN (t8_pR (t8_pN (t8_pR (t8_pN (t8_pR (t8_pN (t8_pR (t8_pN (t8_pR (t8_pN (t8_pR (t8_pN (t8_pR (t8_pN (t8_pR (t8_pN (t8_pR (t8_pN (t8_pR (t8_pN (t8_pR (t8_pN (t8_pR (t8_pN (t8_pI (t8_pR (t8_pN k2))))))))))))))))))))))))))))))))))))))))))))))))))))))))))))) d_X11_init_261 (by decide) (by decide) rfl (by decide +kernel) (by decide) (by decide +kernel) ?_
  replace e := bhd e
  obtain ⟨_, rfl, e⟩ := e
  refine g_putR d_X11_init_263 (f := 1239) (tO_pN (tO_pR (tO_pN (tO_pR (tO_pN (tO_pR (tO_pN (tO_pR (tO_pN (tO_pR (tO_pN (tO_pR (tO_pN (tO_pR (tO_pN (tO_pR (tO_pN (tO_pR (tO_pN (tO_pR (tO_pN (tO_pR (tO_pN (tO_pR (tO_pN (tO_pR (tO_pN (tO_pR (tO_pN (tO_pR (tO_pN (tO_pR (tO_pN (tO_pR (tO_pN (tO_pR (tO_pN (tO_pR (tO_pN (tO_pR (tO_pN (tO_pR (tO_pN (tO_pR (tO_pN (tO_pR (tO_pN (tO_pR (tO_pN (tO_pR (tO_pN (tO_pR (tO_pN (tO_pR (tO_pN (tO_pR (tO_pN (tO_pR (tO_pN (tO_pI (tO_pR (tO_pN k1)))))))))))))))))))))))))))))))))))))))))))))))))))))))))))))) fk_12_107 rfl (Or.inr ⟨rfl, rfl⟩) (Or.inr ⟨_, rfl⟩) ?_
  replace e := bhd e
  obtain ⟨_, rfl, e⟩ := e
  refine g_ald_n d_X11_init_266 rfl g0 ?_
  refine r_sipush d_X11_init_267 (v := (3840 : Int32)) (by decide +kernel) ?_
  refine g_newa (t := 22) (t8_pR (t8_pN (t8_pR (t8_pN (t8_pR (t8_pN (t8_pR (t8_pN (t8_pR (t8_pN (t8_pR (t8_pN (t8_pR (t8_pN (t8_pR (t8_pN (t8_pR (t8_pN (t8_pR (t8_pN (t8_pR (t8_pN (t8_pR (t8_pN (t8_pR (t8_pN (t8_pR (t8_pN (t8_pR (t8_pN (t8_pR (t8_pN (t8_pR (t8_pN (t8_pR (t8_pN (t8_pR (t8_pN (t8_pR (t8_pN (t8_pR (t8_pN (t8_pR (t8_pN (t8_pR (t8_pN (t8_pR (t8_pN (t8_pR (t8_pN (t8_pR (t8_pN (t8_pR (t8_pN (t8_pR (t8_pN (t8_pR (t8_pN (t8_pR (t8_pN (t8_pI (t8_pR (t8_pN k2))))))))))))))))))))))))))))))))))))))))))))))))))))))))))))))) d_X11_init_270 (by decide) (by decide) rfl (by decide +kernel) (by decide) (by decide +kernel) ?_
  replace e := bhd e
  obtain ⟨_, rfl, e⟩ := e
  refine g_putR d_X11_init_272 (f := 1240) (tO_pN (tO_pR (tO_pN (tO_pR (tO_pN (tO_pR (tO_pN (tO_pR (tO_pN (tO_pR (tO_pN (tO_pR (tO_pN (tO_pR (tO_pN (tO_pR (tO_pN (tO_pR (tO_pN (tO_pR (tO_pN (tO_pR (tO_pN (tO_pR (tO_pN (tO_pR (tO_pN (tO_pR (tO_pN (tO_pR (tO_pN (tO_pR (tO_pN (tO_pR (tO_pN (tO_pR (tO_pN (tO_pR (tO_pN (tO_pR (tO_pN (tO_pR (tO_pN (tO_pR (tO_pN (tO_pR (tO_pN (tO_pR (tO_pN (tO_pR (tO_pN (tO_pR (tO_pN (tO_pR (tO_pN (tO_pR (tO_pN (tO_pR (tO_pN (tO_pR (tO_pN (tO_pI (tO_pR (tO_pN k1)))))))))))))))))))))))))))))))))))))))))))))))))))))))))))))))) fk_12_110 rfl (Or.inr ⟨rfl, rfl⟩) (Or.inr ⟨_, rfl⟩) ?_
  replace e := bhd e
  obtain ⟨_, rfl, e⟩ := e
  refine g_ald_n d_X11_init_275 rfl g0 ?_
  refine r_bipush d_X11_init_276 (v := (64 : Int32)) (by decide +kernel) ?_
  refine g_newa (t := 22) (t8_pR (t8_pN (t8_pR (t8_pN (t8_pR (t8_pN (t8_pR (t8_pN (t8_pR (t8_pN (t8_pR (t8_pN (t8_pR (t8_pN (t8_pR (t8_pN (t8_pR (t8_pN (t8_pR (t8_pN (t8_pR (t8_pN (t8_pR (t8_pN (t8_pR (t8_pN (t8_pR (t8_pN (t8_pR (t8_pN (t8_pR (t8_pN (t8_pR (t8_pN (t8_pR (t8_pN (t8_pR (t8_pN (t8_pR (t8_pN (t8_pR (t8_pN (t8_pR (t8_pN (t8_pR (t8_pN (t8_pR (t8_pN (t8_pR (t8_pN (t8_pR (t8_pN (t8_pR (t8_pN (t8_pR (t8_pN (t8_pR (t8_pN (t8_pR (t8_pN (t8_pR (t8_pN (t8_pI (t8_pR (t8_pN k2))))))))))))))))))))))))))))))))))))))))))))))))))))))))))))))))) d_X11_init_278 (by decide) (by decide) rfl (by decide +kernel) (by decide) (by decide +kernel) ?_
  replace e := bhd e
  obtain ⟨_, rfl, e⟩ := e
  refine g_putR d_X11_init_280 (f := 1241) (tO_pN (tO_pR (tO_pN (tO_pR (tO_pN (tO_pR (tO_pN (tO_pR (tO_pN (tO_pR (tO_pN (tO_pR (tO_pN (tO_pR (tO_pN (tO_pR (tO_pN (tO_pR (tO_pN (tO_pR (tO_pN (tO_pR (tO_pN (tO_pR (tO_pN (tO_pR (tO_pN (tO_pR (tO_pN (tO_pR (tO_pN (tO_pR (tO_pN (tO_pR (tO_pN (tO_pR (tO_pN (tO_pR (tO_pN (tO_pR (tO_pN (tO_pR (tO_pN (tO_pR (tO_pN (tO_pR (tO_pN (tO_pR (tO_pN (tO_pR (tO_pN (tO_pR (tO_pN (tO_pR (tO_pN (tO_pR (tO_pN (tO_pR (tO_pN (tO_pR (tO_pN (tO_pR (tO_pN (tO_pI (tO_pR (tO_pN k1)))))))))))))))))))))))))))))))))))))))))))))))))))))))))))))))))) fk_12_113 rfl (Or.inr ⟨rfl, rfl⟩) (Or.inr ⟨_, rfl⟩) ?_
  replace e := bhd e
  obtain ⟨_, rfl, e⟩ := e
  refine g_ald_n d_X11_init_283 rfl g0 ?_
  refine r_bipush d_X11_init_284 (v := (64 : Int32)) (by decide +kernel) ?_
  refine g_newa (t := 22) (t8_pR (t8_pN (t8_pR (t8_pN (t8_pR (t8_pN (t8_pR (t8_pN (t8_pR (t8_pN (t8_pR (t8_pN (t8_pR (t8_pN (t8_pR (t8_pN (t8_pR (t8_pN (t8_pR (t8_pN (t8_pR (t8_pN (t8_pR (t8_pN (t8_pR (t8_pN (t8_pR (t8_pN (t8_pR (t8_pN (t8_pR (t8_pN (t8_pR (t8_pN (t8_pR (t8_pN (t8_pR (t8_pN (t8_pR (t8_pN (t8_pR (t8_pN (t8_pR (t8_pN (t8_pR (t8_pN (t8_pR (t8_pN (t8_pR (t8_pN (t8_pR (t8_pN (t8_pR (t8_pN (t8_pR (t8_pN (t8_pR (t8_pN (t8_pR (t8_pN (t8_pR (t8_pN (t8_pR (t8_pN (t8_pI (t8_pR (t8_pN k2))))))))))))))))))))))))))))))))))))))))))))))))))))))))))))))))))) d_X11_init_286 (by decide) (by decide) rfl (by decide +kernel) (by decide) (by decide +kernel) ?_
  replace e := bhd e
  obtain ⟨_, rfl, e⟩ := e
  refine g_putR d_X11_init_288 (f := 1242) (tO_pN (tO_pR (tO_pN (tO_pR (tO_pN (tO_pR (tO_pN (tO_pR (tO_pN (tO_pR (tO_pN (tO_pR (tO_pN (tO_pR (tO_pN (tO_pR (tO_pN (tO_pR (tO_pN (tO_pR (tO_pN (tO_pR (tO_pN (tO_pR (tO_pN (tO_pR (tO_pN (tO_pR (tO_pN (tO_pR (tO_pN (tO_pR (tO_pN (tO_pR (tO_pN (tO_pR (tO_pN (tO_pR (tO_pN (tO_pR (tO_pN (tO_pR (tO_pN (tO_pR (tO_pN (tO_pR (tO_pN (tO_pR (tO_pN (tO_pR (tO_pN (tO_pR (tO_pN (tO_pR (tO_pN (tO_pR (tO_pN (tO_pR (tO_pN (tO_pR (tO_pN (tO_pR (tO_pN (tO_pR (tO_pN (tO_pI (tO_pR (tO_pN k1)))))))))))))))))))))))))))))))))))))))))))))))))))))))))))))))))))) fk_12_116 rfl (Or.inr ⟨rfl, rfl⟩) (Or.inr ⟨_, rfl⟩) ?_
  replace e := bhd e
  obtain ⟨_, rfl, e⟩ := e
  refine g_ald_n d_X11_init_291 rfl g0 ?_
  refine r_bipush d_X11_init_292 (v := (64 : Int32)) (by decide +kernel) ?_
  refine g_newa (t := 22) (t8_pR (t8_pN (t8_pR (t8_pN (t8_pR (t8_pN (t8_pR (t8_pN (t8_pR (t8_pN (t8_pR (t8_pN (t8_pR (t8_pN (t8_pR (t8_pN (t8_pR (t8_pN (t8_pR (t8_pN (t8_pR (t8_pN (t8_pR (t8_pN (t8_pR (t8_pN (t8_pR (t8_pN (t8_pR (t8_pN (t8_pR (t8_pN (t8_pR (t8_pN (t8_pR (t8_pN (t8_pR (t8_pN (t8_pR (t8_pN (t8_pR (t8_pN (t8_pR (t8_pN (t8_pR (t8_pN (t8_pR (t8_pN (t8_pR (t8_pN (t8_pR (t8_pN (t8_pR (t8_pN (t8_pR (t8_pN (t8_pR (t8_pN (t8_pR (t8_pN (t8_pR (t8_pN (t8_pR (t8_pN (t8_pR (t8_pN (t8_pI (t8_pR (t8_pN k2))))))))))))))))))))))))))))))))))))))))))))))))))))))))))))))))))))) d_X11_init_294 (by decide) (by decide) rfl (by decide +kernel) (by decide) (by decide +kernel) ?_
  replace e := bhd e
  obtain ⟨_, rfl, e⟩ := e
  refine g_putR d_X11_init_296 (f := 1243) (tO_pN (tO_pR (tO_pN (tO_pR (tO_pN (tO_pR (tO_pN (tO_pR (tO_pN (tO_pR (tO_pN (tO_pR (tO_pN (tO_pR (tO_pN (tO_pR (tO_pN (tO_pR (tO_pN (tO_pR (tO_pN (tO_pR (tO_pN (tO_pR (tO_pN (tO_pR (tO_pN (tO_pR (tO_pN (tO_pR (tO_pN (tO_pR (tO_pN (tO_pR (tO_pN (tO_pR (tO_pN (tO_pR (tO_pN (tO_pR (tO_pN (tO_pR (tO_pN (tO_pR (tO_pN (tO_pR (tO_pN (tO_pR (tO_pN (tO_pR (tO_pN (tO_pR (tO_pN (tO_pR (tO_pN (tO_pR (tO_pN (tO_pR (tO_pN (tO_pR (tO_pN (tO_pR (tO_pN (tO_pR (tO_pN (tO_pR (tO_pN (tO_pI (tO_pR (tO_pN k1)))))))))))))))))))))))))))))))))))))))))))))))))))))))))))))))))))))) fk_12_119 rfl (Or.inr ⟨rfl, rfl⟩) (Or.inr ⟨_, rfl⟩) ?_
  replace e := bhd e
  obtain ⟨_, rfl, e⟩ := e
  refine g_ald_n d_X11_init_299 rfl g0 ?_
  refine r_bipush d_X11_init_300 (v := (64 : Int32)) (by decide +kernel) ?_
  refine g_newa (t := 22) (t8_pR (t8_pN (t8_pR (t8_pN (t8_pR (t8_pN (t8_pR (t8_pN (t8_pR (t8_pN (t8_pR (t8_pN (t8_pR (t8_pN (t8_pR (t8_pN (t8_pR (t8_pN (t8_pR (t8_pN (t8_pR (t8_pN (t8_pR (t8_pN (t8_pR (t8_pN (t8_pR (t8_pN (t8_pR (t8_pN (t8_pR (t8_pN (t8_pR (t8_pN (t8_pR (t8_pN (t8_pR (t8_pN (t8_pR (t8_pN (t8_pR (t8_pN (t8_pR (t8_pN (t8_pR (t8_pN (t8_pR (t8_pN (t8_pR (t8_pN (t8_pR (t8_pN (t8_pR (t8_pN (t8_pR (t8_pN (t8_pR (t8_pN (t8_pR (t8_pN (t8_pR (t8_pN (t8_pR (t8_pN (t8_pR (t8_pN (t8_pR (t8_pN (t8_pI (t8_pR (t8_pN k2))))))))))))))))))))))))))))))))))))))))))))))))))))))))))))))))))))))) d_X11_init_302 (by decide) (by decide) rfl (by decide +kernel) (by decide) (by decide +kernel) ?_
  replace e := bhd e
  obtain ⟨_, rfl, e⟩ := e
  refine g_putR d_X11_init_304 (f := 1244) (tO_pN (tO_pR (tO_pN (tO_pR (tO_pN (tO_pR (tO_pN (tO_pR (tO_pN (tO_pR (tO_pN (tO_pR (tO_pN (tO_pR (tO_pN (tO_pR (tO_pN (tO_pR (tO_pN (tO_pR (tO_pN (tO_pR (tO_pN (tO_pR (tO_pN (tO_pR (tO_pN (tO_pR (tO_pN (tO_pR (tO_pN (tO_pR (tO_pN (tO_pR (tO_pN (tO_pR (tO_pN (tO_pR (tO_pN (tO_pR (tO_pN (tO_pR (tO_pN (tO_pR (tO_pN (tO_pR (tO_pN (tO_pR (tO_pN (tO_pR (tO_pN (tO_pR (tO_pN (tO_pR (tO_pN (tO_pR (tO_pN (tO_pR (tO_pN (tO_pR (tO_pN (tO_pR (tO_pN (tO_pR (tO_pN (tO_pR (tO_pN (tO_pR (tO_pN (tO_pI (tO_pR (tO_pN k1)))))))))))))))))))))))))))))))))))))))))))))))))))))))))))))))))))))))) fk_12_122 rfl (Or.inr ⟨rfl, rfl⟩) (Or.inr ⟨_, rfl⟩) ?_
  replace e := bhd e
  obtain ⟨_, rfl, e⟩ := e
  refine g_ald_n d_X11_init_307 rfl g0 ?_
  refine r_sipush d_X11_init_308 (v := (512 : Int32)) (by decide +kernel) ?_
  refine g_newa (t := 22) (t8_pR (t8_pN (t8_pR (t8_pN (t8_pR (t8_pN (t8_pR (t8_pN (t8_pR (t8_pN (t8_pR (t8_pN (t8_pR (t8_pN (t8_pR (t8_pN (t8_pR (t8_pN (t8_pR (t8_pN (t8_pR (t8_pN (t8_pR (t8_pN (t8_pR (t8_pN (t8_pR (t8_pN (t8_pR (t8_pN (t8_pR (t8_pN (t8_pR (t8_pN (t8_pR (t8_pN (t8_pR (t8_pN (t8_pR (t8_pN (t8_pR (t8_pN (t8_pR (t8_pN (t8_pR (t8_pN (t8_pR (t8_pN (t8_pR (t8_pN (t8_pR (t8_pN (t8_pR (t8_pN (t8_pR (t8_pN (t8_pR (t8_pN (t8_pR (t8_pN (t8_pR (t8_pN (t8_pR (t8_pN (t8_pR (t8_pN (t8_pR (t8_pN (t8_pR (t8_pN (t8_pI (t8_pR (t8_pN k2))))))))))))))))))))))))))))))))))))))))))))))))))))))))))))))))))))))))) d_X11_init_311 (by decide) (by decide) rfl (by decide +kernel) (by decide) (by decide +kernel) ?_
  replace e := bhd e
  obtain ⟨_, rfl, e⟩ := e
  refine g_putR d_X11_init_313 (f := 1245) (tO_pN (tO_pR (tO_pN (tO_pR (tO_pN (tO_pR (tO_pN (tO_pR (tO_pN (tO_pR (tO_pN (tO_pR (tO_pN (tO_pR (tO_pN (tO_pR (tO_pN (tO_pR (tO_pN (tO_pR (tO_pN (tO_pR (tO_pN (tO_pR (tO_pN (tO_pR (tO_pN (tO_pR (tO_pN (tO_pR (tO_pN (tO_pR (tO_pN (tO_pR (tO_pN (tO_pR (tO_pN (tO_pR (tO_pN (tO_pR (tO_pN (tO_pR (tO_pN (tO_pR (tO_pN (tO_pR (tO_pN (tO_pR (tO_pN (tO_pR (tO_pN (tO_pR (tO_pN (tO_pR (tO_pN (tO_pR (tO_pN (tO_pR (tO_pN (tO_pR (tO_pN (tO_pR (tO_pN (tO_pR (tO_pN (tO_pR (tO_pN (tO_pR (tO_pN (tO_pR (tO_pN (tO_pI (tO_pR (tO_pN k1)))))))))))))))))))))))))))))))))))))))))))))))))))))))))))))))))))))))))) fk_12_125 rfl (Or.inr ⟨rfl, rfl⟩) (Or.inr ⟨_, rfl⟩) ?_
  replace e := bhd e
  obtain ⟨_, rfl, e⟩ := e
  refine g_ald_n d_X11_init_316 rfl g0 ?_
  refine r_bipush d_X11_init_317 (v := (64 : Int32)) (by decide +kernel) ?_
  refine g_newa (t := 22) (t8_pR (t8_pN (t8_pR (t8_pN (t8_pR (t8_pN (t8_pR (t8_pN (t8_pR (t8_pN (t8_pR (t8_pN (t8_pR (t8_pN (t8_pR (t8_pN (t8_pR (t8_pN (t8_pR (t8_pN (t8_pR (t8_pN (t8_pR (t8_pN (t8_pR (t8_pN (t8_pR (t8_pN (t8_pR (t8_pN (t8_pR (t8_pN (t8_pR (t8_pN (t8_pR (t8_pN (t8_pR (t8_pN (t8_pR (t8_pN (t8_pR (t8_pN (t8_pR (t8_pN (t8_pR (t8_pN (t8_pR (t8_pN (t8_pR (t8_pN (t8_pR (t8_pN (t8_pR (t8_pN (t8_pR (t8_pN (t8_pR (t8_pN (t8_pR (t8_pN (t8_pR (t8_pN (t8_pR (t8_pN (t8_pR (t8_pN (t8_pR (t8_pN (t8_pR (t8_pN (t8_pR (t8_pN (t8_pI (t8_pR (t8_pN k2))))))))))))))))))))))))))))))))))))))))))))))))))))))))))))))))))))))))))) d_X11_init_319 (by decide) (by decide) rfl (by decide +kernel) (by decide) (by decide +kernel) ?_
  replace e := bhd e
  obtain ⟨_, rfl, e⟩ := e
  refine g_putR d_X11_init_321 (f := 1246) (tO_pN (tO_pR (tO_pN (tO_pR (tO_pN (tO_pR (tO_pN (tO_pR (tO_pN (tO_pR (tO_pN (tO_pR (tO_pN (tO_pR (tO_pN (tO_pR (tO_pN (tO_pR (tO_pN (tO_pR (tO_pN (tO_pR (tO_pN (tO_pR (tO_pN (tO_pR (tO_pN (tO_pR (tO_pN (tO_pR (tO_pN (tO_pR (tO_pN (tO_pR (tO_pN (tO_pR (tO_pN (tO_pR (tO_pN (tO_pR (tO_pN (tO_pR (tO_pN (tO_pR (tO_pN (tO_pR (tO_pN (tO_pR (tO_pN (tO_pR (tO_pN (tO_pR (tO_pN (tO_pR (tO_pN (tO_pR (tO_pN (tO_pR (tO_pN (tO_pR (tO_pN (tO_pR (tO_pN (tO_pR (tO_pN (tO_pR (tO_pN (tO_pR (tO_pN (tO_pR (tO_pN (tO_pR (tO_pN (tO_pI (tO_pR (tO_pN k1)))))))))))))))))))))))))))))))))))))))))))))))))))))))))))))))))))))))))))) fk_12_128 rfl (Or.inr ⟨rfl, rfl⟩) (Or.inr ⟨_, rfl⟩) ?_
  replace e := bhd e
  obtain ⟨_, rfl, e⟩ := e
  refine g_ald_n d_X11_init_324 rfl g0 ?_
  refine r_bipush d_X11_init_325 (v := (64 : Int32)) (by decide +kernel) ?_
  refine g_newa (t := 22) (t8_pR (t8_pN (t8_pR (t8_pN (t8_pR (t8_pN (t8_pR (t8_pN (t8_pR (t8_pN (t8_pR (t8_pN (t8_pR (t8_pN (t8_pR (t8_pN (t8_pR (t8_pN (t8_pR (t8_pN (t8_pR (t8_pN (t8_pR (t8_pN (t8_pR (t8_pN (t8_pR (t8_pN (t8_pR (t8_pN (t8_pR (t8_pN (t8_pR (t8_pN (t8_pR (t8_pN (t8_pR (t8_pN (t8_pR (t8_pN (t8_pR (t8_pN (t8_pR (t8_pN (t8_pR (t8_pN (t8_pR (t8_pN (t8_pR (t8_pN (t8_pR (t8_pN (t8_pR (t8_pN (t8_pR (t8_pN (t8_pR (t8_pN (t8_pR (t8_pN (t8_pR (t8_pN (t8_pR (t8_pN (t8_pR (t8_pN (t8_pR (t8_pN (t8_pR (t8_pN (t8_pR (t8_pN (t8_pR (t8_pN (t8_pI (t8_pR (t8_pN k2))))))))))))))))))))))))))))))))))))))))))))))))))))))))))))))))))))))))))))) d_X11_init_327 (by decide) (by decide) rfl (by decide +kernel) (by decide) (by decide +kernel) ?_
  replace e := bhd e
  obtain ⟨_, rfl, e⟩ := e
  refine g_putR d_X11_init_329 (f := 1247) (tO_pN (tO_pR (tO_pN (tO_pR (tO_pN (tO_pR (tO_pN (tO_pR (tO_pN (tO_pR (tO_pN (tO_pR (tO_pN (tO_pR (tO_pN (tO_pR (tO_pN (tO_pR (tO_pN (tO_pR (tO_pN (tO_pR (tO_pN (tO_pR (tO_pN (tO_pR (tO_pN (tO_pR (tO_pN (tO_pR (tO_pN (tO_pR (tO_pN (tO_pR (tO_pN (tO_pR (tO_pN (tO_pR (tO_pN (tO_pR (tO_pN (tO_pR (tO_pN (tO_pR (tO_pN (tO_pR (tO_pN (tO_pR (tO_pN (tO_pR (tO_pN (tO_pR (tO_pN (tO_pR (tO_pN (tO_pR (tO_pN (tO_pR (tO_pN (tO_pR (tO_pN (tO_pR (tO_pN (tO_pR (tO_pN (tO_pR (tO_pN (tO_pR (tO_pN (tO_pR (tO_pN (tO_pR (tO_pN (tO_pR (tO_pN (tO_pI (tO_pR (tO_pN k1)))))))))))))))))))))))))))))))))))))))))))))))))))))))))))))))))))))))))))))) fk_12_131 rfl (Or.inr ⟨rfl, rfl⟩) (Or.inr ⟨_, rfl⟩) ?_
  replace e := bhd e
  obtain ⟨_, rfl, e⟩ := e
  refine g_ald_n d_X11_init_332 rfl g0 ?_
  refine r_bipush d_X11_init_333 (v := (64 : Int32)) (by decide +kernel) ?_
  refine g_newa (t := 22) (t8_pR (t8_pN (t8_pR (t8_pN (t8_pR (t8_pN (t8_pR (t8_pN (t8_pR (t8_pN (t8_pR (t8_pN (t8_pR (t8_pN (t8_pR (t8_pN (t8_pR (t8_pN (t8_pR (t8_pN (t8_pR (t8_pN (t8_pR (t8_pN (t8_pR (t8_pN (t8_pR (t8_pN (t8_pR (t8_pN (t8_pR (t8_pN (t8_pR (t8_pN (t8_pR (t8_pN (t8_pR (t8_pN (t8_pR (t8_pN (t8_pR (t8_pN (t8_pR (t8_pN (t8_pR (t8_pN (t8_pR (t8_pN (t8_pR (t8_pN (t8_pR (t8_pN (t8_pR (t8_pN (t8_pR (t8_pN (t8_pR (t8_pN (t8_pR (t8_pN (t8_pR (t8_pN (t8_pR (t8_pN (t8_pR (t8_pN (t8_pR (t8_pN (t8_pR (t8_pN (t8_pR (t8_pN (t8_pR (t8_pN (t8_pR (t8_pN (t8_pI (t8_pR (t8_pN k2))))))))))))))))))))))))))))))))))))))))))))))))))))))))))))))))))))))))))))))) d_X11_init_335 (by decide) (by decide) rfl (by decide +kernel) (by decide) (by decide +kernel) ?_
  replace e := bhd e
  obtain ⟨_, rfl, e⟩ := e
  refine g_putR d_X11_init_337 (f := 1248) (tO_pN (tO_pR (tO_pN (tO_pR (tO_pN (tO_pR (tO_pN (tO_pR (tO_pN (tO_pR (tO_pN (tO_pR (tO_pN (tO_pR (tO_pN (tO_pR (tO_pN (tO_pR (tO_pN (tO_pR (tO_pN (tO_pR (tO_pN (tO_pR (tO_pN (tO_pR (tO_pN (tO_pR (tO_pN (tO_pR (tO_pN (tO_pR (tO_pN (tO_pR (tO_pN (tO_pR (tO_pN (tO_pR (tO_pN (tO_pR (tO_pN (tO_pR (tO_pN (tO_pR (tO_pN (tO_pR (tO_pN (tO_pR (tO_pN (tO_pR (tO_pN (tO_pR (tO_pN (tO_pR (tO_pN (tO_pR (tO_pN (tO_pR (tO_pN (tO_pR (tO_pN (tO_pR (tO_pN (tO_pR (tO_pN (tO_pR (tO_pN (tO_pR (tO_pN (tO_pR (tO_pN (tO_pR (tO_pN (tO_pR (tO_pN (tO_pR (tO_pN (tO_pI (tO_pR (tO_pN k1)))))))))))))))))))))))))))))))))))))))))))))))))))))))))))))))))))))))))))))))) fk_12_134 rfl (Or.inr ⟨rfl, rfl⟩) (Or.inr ⟨_, rfl⟩) ?_
  replace e := bhd e
  obtain ⟨_, rfl, e⟩ := e
  refine g_ald_n d_X11_init_340 rfl g0 ?_
  refine r_bipush d_X11_init_341 (v := (64 : Int32)) (by decide +kernel) ?_
  refine g_newa (t := 22) (t8_pR (t8_pN (t8_pR (t8_pN (t8_pR (t8_pN (t8_pR (t8_pN (t8_pR (t8_pN (t8_pR (t8_pN (t8_pR (t8_pN (t8_pR (t8_pN (t8_pR (t8_pN (t8_pR (t8_pN (t8_pR (t8_pN (t8_pR (t8_pN (t8_pR (t8_pN (t8_pR (t8_pN (t8_pR (t8_pN (t8_pR (t8_pN (t8_pR (t8_pN (t8_pR (t8_pN (t8_pR (t8_pN (t8_pR (t8_pN (t8_pR (t8_pN (t8_pR (t8_pN (t8_pR (t8_pN (t8_pR (t8_pN (t8_pR (t8_pN (t8_pR (t8_pN (t8_pR (t8_pN (t8_pR (t8_pN (t8_pR (t8_pN (t8_pR (t8_pN (t8_pR (t8_pN (t8_pR (t8_pN (t8_pR (t8_pN (t8_pR (t8_pN (t8_pR (t8_pN (t8_pR (t8_pN (t8_pR (t8_pN (t8_pR (t8_pN (t8_pR (t8_pN (t8_pI (t8_pR (t8_pN k2))))))))))))))))))))))))))))))))))))))))))))))))))))))))))))))))))))))))))))))))) d_X11_init_343 (by decide) (by decide) rfl (by decide +kernel) (by decide) (by decide +kernel) ?_
  replace e := bhd e
  obtain ⟨_, rfl, e⟩ := e
  refine g_putR d_X11_init_345 (f := 1249) (tO_pN (tO_pR (tO_pN (tO_pR (tO_pN (tO_pR (tO_pN (tO_pR (tO_pN (tO_pR (tO_pN (tO_pR (tO_pN (tO_pR (tO_pN (tO_pR (tO_pN (tO_pR (tO_pN (tO_pR (tO_pN (tO_pR (tO_pN (tO_pR (tO_pN (tO_pR (tO_pN (tO_pR (tO_pN (tO_pR (tO_pN (tO_pR (tO_pN (tO_pR (tO_pN (tO_pR (tO_pN (tO_pR (tO_pN (tO_pR (tO_pN (tO_pR (tO_pN (tO_pR (tO_pN (tO_pR (tO_pN (tO_pR (tO_pN (tO_pR (tO_pN (tO_pR (tO_pN (tO_pR (tO_pN (tO_pR (tO_pN (tO_pR (tO_pN (tO_pR (tO_pN (tO_pR (tO_pN (tO_pR (tO_pN (tO_pR (tO_pN (tO_pR (tO_pN (tO_pR (tO_pN (tO_pR (tO_pN (tO_pR (tO_pN (tO_pR (tO_pN (tO_pR (tO_pN (tO_pI (tO_pR (tO_pN k1)))))))))))))))))))))))))))))))))))))))))))))))))))))))))))))))))))))))))))))))))) fk_12_137 rfl (Or.inr ⟨rfl, rfl⟩) (Or.inr ⟨_, rfl⟩) ?_
  replace e := bhd e
  obtain ⟨_, rfl, e⟩ := e
  refine g_ald_n d_X11_init_348 rfl g0 ?_
  refine r_bipush d_X11_init_349 (v := (64 : Int32)) (by decide +kernel) ?_
  refine g_newa (t := 22) (t8_pR (t8_pN (t8_pR (t8_pN (t8_pR (t8_pN (t8_pR (t8_pN (t8_pR (t8_pN (t8_pR (t8_pN (t8_pR (t8_pN (t8_pR (t8_pN (t8_pR (t8_pN (t8_pR (t8_pN (t8_pR (t8_pN (t8_pR (t8_pN (t8_pR (t8_pN (t8_pR (t8_pN (t8_pR (t8_pN (t8_pR (t8_pN (t8_pR (t8_pN (t8_pR (t8_pN (t8_pR (t8_pN (t8_pR (t8_pN (t8_pR (t8_pN (t8_pR (t8_pN (t8_pR (t8_pN (t8_pR (t8_pN (t8_pR (t8_pN (t8_pR (t8_pN (t8_pR (t8_pN (t8_pR (t8_pN (t8_pR (t8_pN (t8_pR (t8_pN (t8_pR (t8_pN (t8_pR (t8_pN (t8_pR (t8_pN (t8_pR (t8_pN (t8_pR (t8_pN (t8_pR (t8_pN (t8_pR (t8_pN (t8_pR (t8_pN (t8_pR (t8_pN (t8_pR (t8_pN (t8_pI (t8_pR (t8_pN k2))))))))))))))))))))))))))))))))))))))))))))))))))))))))))))))))))))))))))))))))))) d_X11_init_351 (by decide) (by decide) rfl (by decide +kernel) (by decide) (by decide +kernel) ?_
  replace e := bhd e
  obtain ⟨_, rfl, e⟩ := e
  refine g_putR d_X11_init_353 (f := 1250) (tO_pN (tO_pR (tO_pN (tO_pR (tO_pN (tO_pR (tO_pN (tO_pR (tO_pN (tO_pR (tO_pN (tO_pR (tO_pN (tO_pR (tO_pN (tO_pR (tO_pN (tO_pR (tO_pN (tO_pR (tO_pN (tO_pR (tO_pN (tO_pR (tO_pN (tO_pR (tO_pN (tO_pR (tO_pN (tO_pR (tO_pN (tO_pR (tO_pN (tO_pR (tO_pN (tO_pR (tO_pN (tO_pR (tO_pN (tO_pR (tO_pN (tO_pR (tO_pN (tO_pR (tO_pN (tO_pR (tO_pN (tO_pR (tO_pN (tO_pR (tO_pN (tO_pR (tO_pN (tO_pR (tO_pN (tO_pR (tO_pN (tO_pR (tO_pN (tO_pR (tO_pN (tO_pR (tO_pN (tO_pR (tO_pN (tO_pR (tO_pN (tO_pR (tO_pN (tO_pR (tO_pN (tO_pR (tO_pN (tO_pR (tO_pN (tO_pR (tO_pN (tO_pR (tO_pN (tO_pR (tO_pN (tO_pI (tO_pR (tO_pN k1)))))))))))))))))))))))))))))))))))))))))))))))))))))))))))))))))))))))))))))))))))) fk_12_140 rfl (Or.inr ⟨rfl, rfl⟩) (Or.inr ⟨_, rfl⟩) ?_
  replace e := bhd e
  obtain ⟨_, rfl, e⟩ := e
  refine g_ald_n d_X11_init_356 rfl g0 ?_
  refine r_bipush d_X11_init_357 (v := (64 : Int32)) (by decide +kernel) ?_
  refine g_newa (t := 22) (t8_pR (t8_pN (t8_pR (t8_pN (t8_pR (t8_pN (t8_pR (t8_pN (t8_pR (t8_pN (t8_pR (t8_pN (t8_pR (t8_pN (t8_pR (t8_pN (t8_pR (t8_pN (t8_pR (t8_pN (t8_pR (t8_pN (t8_pR (t8_pN (t8_pR (t8_pN (t8_pR (t8_pN (t8_pR (t8_pN (t8_pR (t8_pN (t8_pR (t8_pN (t8_pR (t8_pN (t8_pR (t8_pN (t8_pR (t8_pN (t8_pR (t8_pN (t8_pR (t8_pN (t8_pR (t8_pN (t8_pR (t8_pN (t8_pR (t8_pN (t8_pR (t8_pN (t8_pR (t8_pN (t8_pR (t8_pN (t8_pR (t8_pN (t8_pR (t8_pN (t8_pR (t8_pN (t8_pR (t8_pN (t8_pR (t8_pN (t8_pR (t8_pN (t8_pR (t8_pN (t8_pR (t8_pN (t8_pR (t8_pN (t8_pR (t8_pN (t8_pR (t8_pN (t8_pR (t8_pN (t8_pR (t8_pN (t8_pI (t8_pR (t8_pN k2))))))))))))))))))))))))))))))))))))))))))))))))))))))))))))))))))))))))))))))))))))) d_X11_init_359 (by decide) (by decide) rfl (by decide +kernel) (by decide) (by decide +kernel) ?_
  replace e := bhd e
  obtain ⟨_, rfl, e⟩ := e
  refine g_putR d_X11_init_361 (f := 1251) (tO_pN (tO_pR (tO_pN (tO_pR (tO_pN (tO_pR (tO_pN (tO_pR (tO_pN (tO_pR (tO_pN (tO_pR (tO_pN (tO_pR (tO_pN (tO_pR (tO_pN (tO_pR (tO_pN (tO_pR (tO_pN (tO_pR (tO_pN (tO_pR (tO_pN (tO_pR (tO_pN (tO_pR (tO_pN (tO_pR (tO_pN (tO_pR (tO_pN (tO_pR (tO_pN (tO_pR (tO_pN (tO_pR (tO_pN (tO_pR (tO_pN (tO_pR (tO_pN (tO_pR (tO_pN (tO_pR (tO_pN (tO_pR (tO_pN (tO_pR (tO_pN (tO_pR (tO_pN (tO_pR (tO_pN (tO_pR (tO_pN (tO_pR (tO_pN (tO_pR (tO_pN (tO_pR (tO_pN (tO_pR (tO_pN (tO_pR (tO_pN (tO_pR (tO_pN (tO_pR (tO_pN (tO_pR (tO_pN (tO_pR (tO_pN (tO_pR (tO_pN (tO_pR (tO_pN (tO_pR (tO_pN (tO_pR (tO_pN (tO_pI (tO_pR (tO_pN k1)))))))))))))))))))))))))))))))))))))))))))))))))))))))))))))))))))))))))))))))))))))) fk_12_143 rfl (Or.inr ⟨rfl, rfl⟩) (Or.inr ⟨_, rfl⟩) ?_
  replace e := bhd e
  obtain ⟨_, rfl, e⟩ := e
  refine g_ald_n d_X11_init_364 rfl g0 ?_
  refine r_bipush d_X11_init_365 (v := (64 : Int32)) (by decide +kernel) ?_
  refine g_newa (t := 22) (t8_pR (t8_pN (t8_pR (t8_pN (t8_pR (t8_pN (t8_pR (t8_pN (t8_pR (t8_pN (t8_pR (t8_pN (t8_pR (t8_pN (t8_pR (t8_pN (t8_pR (t8_pN (t8_pR (t8_pN (t8_pR (t8_pN (t8_pR (t8_pN (t8_pR (t8_pN (t8_pR (t8_pN (t8_pR (t8_pN (t8_pR (t8_pN (t8_pR (t8_pN (t8_pR (t8_pN (t8_pR (t8_pN (t8_pR (t8_pN (t8_pR (t8_pN (t8_pR (t8_pN (t8_pR (t8_pN (t8_pR (t8_pN (t8_pR (t8_pN (t8_pR (t8_pN (t8_pR (t8_pN (t8_pR (t8_pN (t8_pR (t8_pN (t8_pR (t8_pN (t8_pR (t8_pN (t8_pR (t8_pN (t8_pR (t8_pN (t8_pR (t8_pN (t8_pR (t8_pN (t8_pR (t8_pN (t8_pR (t8_pN (t8_pR (t8_pN (t8_pR (t8_pN (t8_pR (t8_pN (t8_pR (t8_pN (t8_pR (t8_pN (t8_pI (t8_pR (t8_pN k2))))))))))))))))))))))))))))))))))))))))))))))))))))))))))))))))))))))))))))))))))))))) d_X11_init_367 (by decide) (by decide) rfl (by decide +kernel) (by decide) (by decide +kernel) ?_
  replace e := bhd e
  obtain ⟨_, rfl, e⟩ := e
  refine g_putR d_X11_init_369 (f := 1252) (tO_pN (tO_pR (tO_pN (tO_pR (tO_pN (tO_pR (tO_pN (tO_pR (tO_pN (tO_pR (tO_pN (tO_pR (tO_pN (tO_pR (tO_pN (tO_pR (tO_pN (tO_pR (tO_pN (tO_pR (tO_pN (tO_pR (tO_pN (tO_pR (tO_pN (tO_pR (tO_pN (tO_pR (tO_pN (tO_pR (tO_pN (tO_pR (tO_pN (tO_pR (tO_pN (tO_pR (tO_pN (tO_pR (tO_pN (tO_pR (tO_pN (tO_pR (tO_pN (tO_pR (tO_pN (tO_pR (tO_pN (tO_pR (tO_pN (tO_pR (tO_pN (tO_pR (tO_pN (tO_pR (tO_pN (tO_pR (tO_pN (tO_pR (tO_pN (tO_pR (tO_pN (tO_pR (tO_pN (tO_pR (tO_pN (tO_pR (tO_pN (tO_pR (tO_pN (tO_pR (tO_pN (tO_pR (tO_pN (tO_pR (tO_pN (tO_pR (tO_pN (tO_pR (tO_pN (tO_pR (tO_pN (tO_pR (tO_pN (tO_pR (tO_pN (tO_pI (tO_pR (tO_pN k1)))))))))))))))))))))))))))))))))))))))))))))))))))))))))))))))))))))))))))))))))))))))) fk_12_146 rfl (Or.inr ⟨rfl, rfl⟩) (Or.inr ⟨_, rfl⟩) ?_
  replace e := bhd e
  obtain ⟨_, rfl, e⟩ := e
  refine g_ald_n d_X11_init_372 rfl g0 ?_
  refine r_bipush d_X11_init_373 (v := (64 : Int32)) (by decide +kernel) ?_
  refine g_newa (t := 22) (t8_pR (t8_pN (t8_pR (t8_pN (t8_pR (t8_pN (t8_pR (t8_pN (t8_pR (t8_pN (t8_pR (t8_pN (t8_pR (t8_pN (t8_pR (t8_pN (t8_pR (t8_pN (t8_pR (t8_pN (t8_pR (t8_pN (t8_pR (t8_pN (t8_pR (t8_pN (t8_pR (t8_pN (t8_pR (t8_pN (t8_pR (t8_pN (t8_pR (t8_pN (t8_pR (t8_pN (t8_pR (t8_pN (t8_pR (t8_pN (t8_pR (t8_pN (t8_pR (t8_pN (t8_pR (t8_pN (t8_pR (t8_pN (t8_pR (t8_pN (t8_pR (t8_pN (t8_pR (t8_pN (t8_pR (t8_pN (t8_pR (t8_pN (t8_pR (t8_pN (t8_pR (t8_pN (t8_pR (t8_pN (t8_pR (t8_pN (t8_pR (t8_pN (t8_pR (t8_pN (t8_pR (t8_pN (t8_pR (t8_pN (t8_pR (t8_pN (t8_pR (t8_pN (t8_pR (t8_pN (t8_pR (t8_pN (t8_pR (t8_pN (t8_pR (t8_pN (t8_pI (t8_pR (t8_pN k2))))))))))))))))))))))))))))))))))))))))))))))))))))))))))))))))))))))))))))))))))))))))) d_X11_init_375 (by decide) (by decide) rfl (by decide +kernel) (by decide) (by decide +kernel) ?_
  replace e := bhd e
  obtain ⟨_, rfl, e⟩ := e
  refine g_putR d_X11_init_377 (f := 1253) (tO_pN (tO_pR (tO_pN (tO_pR (tO_pN (tO_pR (tO_pN (tO_pR (tO_pN (tO_pR (tO_pN (tO_pR (tO_pN (tO_pR (tO_pN (tO_pR (tO_pN (tO_pR (tO_pN (tO_pR (tO_pN (tO_pR (tO_pN (tO_pR (tO_pN (tO_pR (tO_pN (tO_pR (tO_pN (tO_pR (tO_pN (tO_pR (tO_pN (tO_pR (tO_pN (tO_pR (tO_pN (tO_pR (tO_pN (tO_pR (tO_pN (tO_pR (tO_pN (tO_pR (tO_pN (tO_pR (tO_pN (tO_pR (tO_pN (tO_pR (tO_pN (tO_pR (tO_pN (tO_pR (tO_pN (tO_pR (tO_pN (tO_pR (tO_pN (tO_pR (tO_pN (tO_pR (tO_pN (tO_pR (tO_pN (tO_pR (tO_pN (tO_pR (tO_pN (tO_pR (tO_pN (tO_pR (tO_pN (tO_pR (tO_pN (tO_pR (tO_pN (tO_pR (tO_pN (tO_pR (tO_pN (tO_pR (tO_pN (tO_pR (tO_pN (tO_pR (tO_pN (tO_pI (tO_pR (tO_pN k1)))))))))))))))))))))))))))))))))))))))))))))))))))))))))))))))))))))))))))))))))))))))))) fk_12_149 rfl (Or.inr ⟨rfl, rfl⟩) (Or.inr ⟨_, rfl⟩) ?_
  replace e := bhd e
  obtain ⟨_, rfl, e⟩ := e
  refine g_ald_n d_X11_init_380 rfl g0 ?_
  refine r_bipush d_X11_init_381 (v := (64 : Int32)) (by decide +kernel) ?_
  refine g_newa (t := 22) (t8_pR (t8_pN (t8_pR (t8_pN (t8_pR (t8_pN (t8_pR (t8_pN (t8_pR (t8_pN (t8_pR (t8_pN (t8_pR (t8_pN (t8_pR (t8_pN (t8_pR (t8_pN (t8_pR (t8_pN (t8_pR (t8_pN (t8_pR (t8_pN (t8_pR (t8_pN (t8_pR (t8_pN (t8_pR (t8_pN (t8_pR (t8_pN (t8_pR (t8_pN (t8_pR (t8_pN (t8_pR (t8_pN (t8_pR (t8_pN (t8_pR (t8_pN (t8_pR (t8_pN (t8_pR (t8_pN (t8_pR (t8_pN (t8_pR (t8_pN (t8_pR (t8_pN (t8_pR (t8_pN (t8_pR (t8_pN (t8_pR (t8_pN (t8_pR (t8_pN (t8_pR (t8_pN (t8_pR (t8_pN (t8_pR (t8_pN (t8_pR (t8_pN (t8_pR (t8_pN (t8_pR (t8_pN (t8_pR (t8_pN (t8_pR (t8_pN (t8_pR (t8_pN (t8_pR (t8_pN (t8_pR (t8_pN (t8_pR (t8_pN (t8_pR (t8_pN (t8_pR (t8_pN (t8_pI (t8_pR (t8_pN k2))))))))))))))))))))))))))))))))))))))))))))))))))))))))))))))))))))))))))))))))))))))))))) d_X11_init_383 (by decide) (by decide) rfl (by decide +kernel) (by decide) (by decide +kernel) ?_
  replace e := bhd e
  obtain ⟨_, rfl, e⟩ := e
  refine g_putR d_X11_init_385 (f := 1254) (tO_pN (tO_pR (tO_pN (tO_pR (tO_pN (tO_pR (tO_pN (tO_pR (tO_pN (tO_pR (tO_pN (tO_pR (tO_pN (tO_pR (tO_pN (tO_pR (tO_pN (tO_pR (tO_pN (tO_pR (tO_pN (tO_pR (tO_pN (tO_pR (tO_pN (tO_pR (tO_pN (tO_pR (tO_pN (tO_pR (tO_pN (tO_pR (tO_pN (tO_pR (tO_pN (tO_pR (tO_pN (tO_pR (tO_pN (tO_pR (tO_pN (tO_pR (tO_pN (tO_pR (tO_pN (tO_pR (tO_pN (tO_pR (tO_pN (tO_pR (tO_pN (tO_pR (tO_pN (tO_pR (tO_pN (tO_pR (tO_pN (tO_pR (tO_pN (tO_pR (tO_pN (tO_pR (tO_pN (tO_pR (tO_pN (tO_pR (tO_pN (tO_pR (tO_pN (tO_pR (tO_pN (tO_pR (tO_pN (tO_pR (tO_pN (tO_pR (tO_pN (tO_pR (tO_pN (tO_pR (tO_pN (tO_pR (tO_pN (tO_pR (tO_pN (tO_pR (tO_pN (tO_pR (tO_pN (tO_pI (tO_pR (tO_pN k1)))))))))))))))))))))))))))))))))))))))))))))))))))))))))))))))))))))))))))))))))))))))))))) fk_12_152 rfl (Or.inr ⟨rfl, rfl⟩) (Or.inr ⟨_, rfl⟩) ?_
  replace e := bhd e
  obtain ⟨_, rfl, e⟩ := e
  refine g_ald_n d_X11_init_388 rfl g0 ?_
  refine r_bipush d_X11_init_389 (v := (64 : Int32)) (by decide +kernel) ?_
  refine g_newa (t := 22) (t8_pR (t8_pN (t8_pR (t8_pN (t8_pR (t8_pN (t8_pR (t8_pN (t8_pR (t8_pN (t8_pR (t8_pN (t8_pR (t8_pN (t8_pR (t8_pN (t8_pR (t8_pN (t8_pR (t8_pN (t8_pR (t8_pN (t8_pR (t8_pN (t8_pR (t8_pN (t8_pR (t8_pN (t8_pR (t8_pN (t8_pR (t8_pN (t8_pR (t8_pN (t8_pR (t8_pN (t8_pR (t8_pN (t8_pR (t8_pN (t8_pR (t8_pN (t8_pR (t8_pN (t8_pR (t8_pN (t8_pR (t8_pN (t8_pR (t8_pN (t8_pR (t8_pN (t8_pR (t8_pN (t8_pR (t8_pN (t8_pR (t8_pN (t8_pR (t8_pN (t8_pR (t8_pN (t8_pR (t8_pN (t8_pR (t8_pN (t8_pR (t8_pN (t8_pR (t8_pN (t8_pR (t8_pN (t8_pR (t8_pN (t8_pR (t8_pN (t8_pR (t8_pN (t8_pR (t8_pN (t8_pR (t8_pN (t8_pR (t8_pN (t8_pR (t8_pN (t8_pR (t8_pN (t8_pR (t8_pN (t8_pI (t8_pR (t8_pN k2))))))))))))))))))))))))))))))))))))))))))))))))))))))))))))))))))))))))))))))))))))))))))))) d_X11_init_391 (by decide) (by decide) rfl (by decide +kernel) (by decide) (by decide +kernel) ?_
  replace e := bhd e
  obtain ⟨_, rfl, e⟩ := e
  refine g_putR d_X11_init_393 (f := 1255) (tO_pN (tO_pR (tO_pN (tO_pR (tO_pN (tO_pR (tO_pN (tO_pR (tO_pN (tO_pR (tO_pN (tO_pR (tO_pN (tO_pR (tO_pN (tO_pR (tO_pN (tO_pR (tO_pN (tO_pR (tO_pN (tO_pR (tO_pN (tO_pR (tO_pN (tO_pR (tO_pN (tO_pR (tO_pN (tO_pR (tO_pN (tO_pR (tO_pN (tO_pR (tO_pN (tO_pR (tO_pN (tO_pR (tO_pN (tO_pR (tO_pN (tO_pR (tO_pN (tO_pR (tO_pN (tO_pR (tO_pN (tO_pR (tO_pN (tO_pR (tO_pN (tO_pR (tO_pN (tO_pR (tO_pN (tO_pR (tO_pN (tO_pR (tO_pN (tO_pR (tO_pN (tO_pR (tO_pN (tO_pR (tO_pN (tO_pR (tO_pN (tO_pR (tO_pN (tO_pR (tO_pN (tO_pR (tO_pN (tO_pR (tO_pN (tO_pR (tO_pN (tO_pR (tO_pN (tO_pR (tO_pN (tO_pR (tO_pN (tO_pR (tO_pN (tO_pR (tO_pN (tO_pR (tO_pN (tO_pR (tO_pN (tO_pI (tO_pR (tO_pN k1)))))))))))))))))))))))))))))))))))))))))))))))))))))))))))))))))))))))))))))))))))))))))))))) fk_12_155 rfl (Or.inr ⟨rfl, rfl⟩) (Or.inr ⟨_, rfl⟩) ?_
  replace e := bhd e
  obtain ⟨_, rfl, e⟩ := e
  refine g_ald_n d_X11_init_396 rfl g0 ?_
  refine r_bipush d_X11_init_397 (v := (64 : Int32)) (by decide +kernel) ?_
  refine g_newa (t := 22) (t8_pR (t8_pN (t8_pR (t8_pN (t8_pR (t8_pN (t8_pR (t8_pN (t8_pR (t8_pN (t8_pR (t8_pN (t8_pR (t8_pN (t8_pR (t8_pN (t8_pR (t8_pN (t8_pR (t8_pN (t8_pR (t8_pN (t8_pR (t8_pN (t8_pR (t8_pN (t8_pR (t8_pN (t8_pR (t8_pN (t8_pR (t8_pN (t8_pR (t8_pN (t8_pR (t8_pN (t8_pR (t8_pN (t8_pR (t8_pN (t8_pR (t8_pN (t8_pR (t8_pN (t8_pR (t8_pN (t8_pR (t8_pN (t8_pR (t8_pN (t8_pR (t8_pN (t8_pR (t8_pN (t8_pR (t8_pN (t8_pR (t8_pN (t8_pR (t8_pN (t8_pR (t8_pN (t8_pR (t8_pN (t8_pR (t8_pN (t8_pR (t8_pN (t8_pR (t8_pN (t8_pR (t8_pN (t8_pR (t8_pN (t8_pR (t8_pN (t8_pR (t8_pN (t8_pR (t8_pN (t8_pR (t8_pN (t8_pR (t8_pN (t8_pR (t8_pN (t8_pR (t8_pN (t8_pR (t8_pN (t8_pR (t8_pN (t8_pI (t8_pR (t8_pN k2))))))))))))))))))))))))))))))))))))))))))))))))))))))))))))))))))))))))))))))))))))))))))))))) d_X11_init_399 (by decide) (by decide) rfl (by decide +kernel) (by decide) (by decide +kernel) ?_
  replace e := bhd e
  obtain ⟨_, rfl, e⟩ := e
  refine g_putR d_X11_init_401 (f := 1256) (tO_pN (tO_pR (tO_pN (tO_pR (tO_pN (tO_pR (tO_pN (tO_pR (tO_pN (tO_pR (tO_pN (tO_pR (tO_pN (tO_pR (tO_pN (tO_pR (tO_pN (tO_pR (tO_pN (tO_pR (tO_pN (tO_pR (tO_pN (tO_pR (tO_pN (tO_pR (tO_pN (tO_pR (tO_pN (tO_pR (tO_pN (tO_pR (tO_pN (tO_pR (tO_pN (tO_pR (tO_pN (tO_pR (tO_pN (tO_pR (tO_pN (tO_pR (tO_pN (tO_pR (tO_pN (tO_pR (tO_pN (tO_pR (tO_pN (tO_pR (tO_pN (tO_pR (tO_pN (tO_pR (tO_pN (tO_pR (tO_pN (tO_pR (tO_pN (tO_pR (tO_pN (tO_pR (tO_pN (tO_pR (tO_pN (tO_pR (tO_pN (tO_pR (tO_pN (tO_pR (tO_pN (tO_pR (tO_pN (tO_pR (tO_pN (tO_pR (tO_pN (tO_pR (tO_pN (tO_pR (tO_pN (tO_pR (tO_pN (tO_pR (tO_pN (tO_pR (tO_pN (tO_pR (tO_pN (tO_pR (tO_pN (tO_pR (tO_pN (tO_pI (tO_pR (tO_pN k1)))))))))))))))))))))))))))))))))))))))))))))))))))))))))))))))))))))))))))))))))))))))))))))))) fk_12_158 rfl (Or.inr ⟨rfl, rfl⟩) (Or.inr ⟨_, rfl⟩) ?_
  replace e := bhd e
  obtain ⟨_, rfl, e⟩ := e
  refine g_ald_n d_X11_init_404 rfl g0 ?_
  refine r_iconst d_X11_init_405 (v := (4 : Int32)) (by decide +kernel) ?_
  refine g_newa (t := 22) (t8_pR (t8_pN (t8_pR (t8_pN (t8_pR (t8_pN (t8_pR (t8_pN (t8_pR (t8_pN (t8_pR (t8_pN (t8_pR (t8_pN (t8_pR (t8_pN (t8_pR (t8_pN (t8_pR (t8_pN (t8_pR (t8_pN (t8_pR (t8_pN (t8_pR (t8_pN (t8_pR (t8_pN (t8_pR (t8_pN (t8_pR (t8_pN (t8_pR (t8_pN (t8_pR (t8_pN (t8_pR (t8_pN (t8_pR (t8_pN (t8_pR (t8_pN (t8_pR (t8_pN (t8_pR (t8_pN (t8_pR (t8_pN (t8_pR (t8_pN (t8_pR (t8_pN (t8_pR (t8_pN (t8_pR (t8_pN (t8_pR (t8_pN (t8_pR (t8_pN (t8_pR (t8_pN (t8_pR (t8_pN (t8_pR (t8_pN (t8_pR (t8_pN (t8_pR (t8_pN (t8_pR (t8_pN (t8_pR (t8_pN (t8_pR (t8_pN (t8_pR (t8_pN (t8_pR (t8_pN (t8_pR (t8_pN (t8_pR (t8_pN (t8_pR (t8_pN (t8_pR (t8_pN (t8_pR (t8_pN (t8_pR (t8_pN (t8_pR (t8_pN (t8_pI (t8_pR (t8_pN k2))))))))))))))))))))))))))))))))))))))))))))))))))))))))))))))))))))))))))))))))))))))))))))))))) d_X11_init_406 (by decide) (by decide) rfl (by decide +kernel) (by decide) (by decide +kernel) ?_
  replace e := bhd e
  obtain ⟨_, rfl, e⟩ := e
  refine g_putR d_X11_init_408 (f := 1257) (tO_pN (tO_pR (tO_pN (tO_pR (tO_pN (tO_pR (tO_pN (tO_pR (tO_pN (tO_pR (tO_pN (tO_pR (tO_pN (tO_pR (tO_pN (tO_pR (tO_pN (tO_pR (tO_pN (tO_pR (tO_pN (tO_pR (tO_pN (tO_pR (tO_pN (tO_pR (tO_pN (tO_pR (tO_pN (tO_pR (tO_pN (tO_pR (tO_pN (tO_pR (tO_pN (tO_pR (tO_pN (tO_pR (tO_pN (tO_pR (tO_pN (tO_pR (tO_pN (tO_pR (tO_pN (tO_pR (tO_pN (tO_pR (tO_pN (tO_pR (tO_pN (tO_pR (tO_pN (tO_pR (tO_pN (tO_pR (tO_pN (tO_pR (tO_pN (tO_pR (tO_pN (tO_pR (tO_pN (tO_pR (tO_pN (tO_pR (tO_pN (tO_pR (tO_pN (tO_pR (tO_pN (tO_pR (tO_pN (tO_pR (tO_pN (tO_pR (tO_pN (tO_pR (tO_pN (tO_pR (tO_pN (tO_pR (tO_pN (tO_pR (tO_pN (tO_pR (tO_pN (tO_pR (tO_pN (tO_pR (tO_pN (tO_pR (tO_pN (tO_pR (tO_pN (tO_pI (tO_pR (tO_pN k1)))))))))))))))))))))))))))))))))))))))))))))))))))))))))))))))))))))))))))))))))))))))))))))))))) fk_12_161 rfl (Or.inr ⟨rfl, rfl⟩) (Or.inr ⟨_, rfl⟩) ?_
  replace e := bhd e
  obtain ⟨_, rfl, e⟩ := e
  refine g_ald_n d_X11_init_411 rfl g0 ?_
  refine r_sipush d_X11_init_412 (v := (4096 : Int32)) (by decide +kernel) ?_
  refine g_newa (t := 22) (t8_pR (t8_pN (t8_pR (t8_pN (t8_pR (t8_pN (t8_pR (t8_pN (t8_pR (t8_pN (t8_pR (t8_pN (t8_pR (t8_pN (t8_pR (t8_pN (t8_pR (t8_pN (t8_pR (t8_pN (t8_pR (t8_pN (t8_pR (t8_pN (t8_pR (t8_pN (t8_pR (t8_pN (t8_pR (t8_pN (t8_pR (t8_pN (t8_pR (t8_pN (t8_pR (t8_pN (t8_pR (t8_pN (t8_pR (t8_pN (t8_pR (t8_pN (t8_pR (t8_pN (t8_pR (t8_pN (t8_pR (t8_pN (t8_pR (t8_pN (t8_pR (t8_pN (t8_pR (t8_pN (t8_pR (t8_pN (t8_pR (t8_pN (t8_pR (t8_pN (t8_pR (t8_pN (t8_pR (t8_pN (t8_pR (t8_pN (t8_pR (t8_pN (t8_pR (t8_pN (t8_pR (t8_pN (t8_pR (t8_pN (t8_pR (t8_pN (t8_pR (t8_pN (t8_pR (t8_pN (t8_pR (t8_pN (t8_pR (t8_pN (t8_pR (t8_pN (t8_pR (t8_pN (t8_pR (t8_pN (t8_pR (t8_pN (t8_pR (t8_pN (t8_pR (t8_pN (t8_pI (t8_pR (t8_pN k2))))))))))))))))))))))))))))))))))))))))))))))))))))))))))))))))))))))))))))))))))))))))))))))))))) d_X11_init_415 (by decide) (by decide) rfl (by decide +kernel) (by decide) (by decide +kernel) ?_
  replace e := bhd e
  obtain ⟨_, rfl, e⟩ := e
  refine g_putR d_X11_init_417 (f := 1258) (tO_pN (tO_pR (tO_pN (tO_pR (tO_pN (tO_pR (tO_pN (tO_pR (tO_pN (tO_pR (tO_pN (tO_pR (tO_pN (tO_pR (tO_pN (tO_pR (tO_pN (tO_pR (tO_pN (tO_pR (tO_pN (tO_pR (tO_pN (tO_pR (tO_pN (tO_pR (tO_pN (tO_pR (tO_pN (tO_pR (tO_pN (tO_pR (tO_pN (tO_pR (tO_pN (tO_pR (tO_pN (tO_pR (tO_pN (tO_pR (tO_pN (tO_pR (tO_pN (tO_pR (tO_pN (tO_pR (tO_pN (tO_pR (tO_pN (tO_pR (tO_pN (tO_pR (tO_pN (tO_pR (tO_pN (tO_pR (tO_pN (tO_pR (tO_pN (tO_pR (tO_pN (tO_pR (tO_pN (tO_pR (tO_pN (tO_pR (tO_pN (tO_pR (tO_pN (tO_pR (tO_pN (tO_pR (tO_pN (tO_pR (tO_pN (tO_pR (tO_pN (tO_pR (tO_pN (tO_pR (tO_pN (tO_pR (tO_pN (tO_pR (tO_pN (tO_pR (tO_pN (tO_pR (tO_pN (tO_pR (tO_pN (tO_pR (tO_pN (tO_pR (tO_pN (tO_pR (tO_pN (tO_pI (tO_pR (tO_pN k1)))))))))))))))))))))))))))))))))))))))))))))))))))))))))))))))))))))))))))))))))))))))))))))))))))) fk_12_164 rfl (Or.inr ⟨rfl, rfl⟩) (Or.inr ⟨_, rfl⟩) ?_
  replace e := bhd e
  obtain ⟨_, rfl, e⟩ := e
  refine g_ald_n d_X11_init_420 rfl g0 ?_
  refine r_sipush d_X11_init_421 (v := (4096 : Int32)) (by decide +kernel) ?_
  refine g_newa (t := 22) (t8_pR (t8_pN (t8_pR (t8_pN (t8_pR (t8_pN (t8_pR (t8_pN (t8_pR (t8_pN (t8_pR (t8_pN (t8_pR (t8_pN (t8_pR (t8_pN (t8_pR (t8_pN (t8_pR (t8_pN (t8_pR (t8_pN (t8_pR (t8_pN (t8_pR (t8_pN (t8_pR (t8_pN (t8_pR (t8_pN (t8_pR (t8_pN (t8_pR (t8_pN (t8_pR (t8_pN (t8_pR (t8_pN (t8_pR (t8_pN (t8_pR (t8_pN (t8_pR (t8_pN (t8_pR (t8_pN (t8_pR (t8_pN (t8_pR (t8_pN (t8_pR (t8_pN (t8_pR (t8_pN (t8_pR (t8_pN (t8_pR (t8_pN (t8_pR (t8_pN (t8_pR (t8_pN (t8_pR (t8_pN (t8_pR (t8_pN (t8_pR (t8_pN (t8_pR (t8_pN (t8_pR (t8_pN (t8_pR (t8_pN (t8_pR (t8_pN (t8_pR (t8_pN (t8_pR (t8_pN (t8_pR (t8_pN (t8_pR (t8_pN (t8_pR (t8_pN (t8_pR (t8_pN (t8_pR (t8_pN (t8_pR (t8_pN (t8_pR (t8_pN (t8_pR (t8_pN (t8_pR (t8_pN (t8_pI (t8_pR (t8_pN k2))))))))))))))))))))))))))))))))))))))))))))))))))))))))))))))))))))))))))))))))))))))))))))))))))))) d_X11_init_424 (by decide) (by decide) rfl (by decide +kernel) (by decide) (by decide +kernel) ?_
  replace e := bhd e
  obtain ⟨_, rfl, e⟩ := e
  refine g_putR d_X11_init_426 (f := 1259) (tO_pN (tO_pR (tO_pN (tO_pR (tO_pN (tO_pR (tO_pN (tO_pR (tO_pN (tO_pR (tO_pN (tO_pR (tO_pN (tO_pR (tO_pN (tO_pR (tO_pN (tO_pR (tO_pN (tO_pR (tO_pN (tO_pR (tO_pN (tO_pR (tO_pN (tO_pR (tO_pN (tO_pR (tO_pN (tO_pR (tO_pN (tO_pR (tO_pN (tO_pR (tO_pN (tO_pR (tO_pN (tO_pR (tO_pN (tO_pR (tO_pN (tO_pR (tO_pN (tO_pR (tO_pN (tO_pR (tO_pN (tO_pR (tO_pN (tO_pR (tO_pN (tO_pR (tO_pN (tO_pR (tO_pN (tO_pR (tO_pN (tO_pR (tO_pN (tO_pR (tO_pN (tO_pR (tO_pN (tO_pR (tO_pN (tO_pR (tO_pN (tO_pR (tO_pN (tO_pR (tO_pN (tO_pR (tO_pN (tO_pR (tO_pN (tO_pR (tO_pN (tO_pR (tO_pN (tO_pR (tO_pN (tO_pR (tO_pN (tO_pR (tO_pN (tO_pR (tO_pN (tO_pR (tO_pN (tO_pR (tO_pN (tO_pR (tO_pN (tO_pR (tO_pN (tO_pR (tO_pN (tO_pR (tO_pN (tO_pI (tO_pR (tO_pN k1)))))))))))))))))))))))))))))))))))))))))))))))))))))))))))))))))))))))))))))))))))))))))))))))))))))) fk_12_167 rfl (Or.inr ⟨rfl, rfl⟩) (Or.inr ⟨_, rfl⟩) ?_
  replace e := bhd e
  obtain ⟨_, rfl, e⟩ := e
  refine g_ald_n d_X11_init_429 rfl g0 ?_
  refine r_sipush d_X11_init_430 (v := (4096 : Int32)) (by decide +kernel) ?_
  refine g_newa (t := 22) (t8_pR (t8_pN (t8_pR (t8_pN (t8_pR (t8_pN (t8_pR (t8_pN (t8_pR (t8_pN (t8_pR (t8_pN (t8_pR (t8_pN (t8_pR (t8_pN (t8_pR (t8_pN (t8_pR (t8_pN (t8_pR (t8_pN (t8_pR (t8_pN (t8_pR (t8_pN (t8_pR (t8_pN (t8_pR (t8_pN (t8_pR (t8_pN (t8_pR (t8_pN (t8_pR (t8_pN (t8_pR (t8_pN (t8_pR (t8_pN (t8_pR (t8_pN (t8_pR (t8_pN (t8_pR (t8_pN (t8_pR (t8_pN (t8_pR (t8_pN (t8_pR (t8_pN (t8_pR (t8_pN (t8_pR (t8_pN (t8_pR (t8_pN (t8_pR (t8_pN (t8_pR (t8_pN (t8_pR (t8_pN (t8_pR (t8_pN (t8_pR (t8_pN (t8_pR (t8_pN (t8_pR (t8_pN (t8_pR (t8_pN (t8_pR (t8_pN (t8_pR (t8_pN (t8_pR (t8_pN (t8_pR (t8_pN (t8_pR (t8_pN (t8_pR (t8_pN (t8_pR (t8_pN (t8_pR (t8_pN (t8_pR (t8_pN (t8_pR (t8_pN (t8_pR (t8_pN (t8_pR (t8_pN (t8_pR (t8_pN (t8_pI (t8_pR (t8_pN k2))))))))))))))))))))))))))))))))))))))))))))))))))))))))))))))))))))))))))))))))))))))))))))))))))))))) d_X11_init_433 (by decide) (by decide) rfl (by decide +kernel) (by decide) (by decide +kernel) ?_
  replace e := bhd e
  obtain ⟨_, rfl, e⟩ := e
  refine g_putR d_X11_init_435 (f := 1260) (tO_pN (tO_pR (tO_pN (tO_pR (tO_pN (tO_pR (tO_pN (tO_pR (tO_pN (tO_pR (tO_pN (tO_pR (tO_pN (tO_pR (tO_pN (tO_pR (tO_pN (tO_pR (tO_pN (tO_pR (tO_pN (tO_pR (tO_pN (tO_pR (tO_pN (tO_pR (tO_pN (tO_pR (tO_pN (tO_pR (tO_pN (tO_pR (tO_pN (tO_pR (tO_pN (tO_pR (tO_pN (tO_pR (tO_pN (tO_pR (tO_pN (tO_pR (tO_pN (tO_pR (tO_pN (tO_pR (tO_pN (tO_pR (tO_pN (tO_pR (tO_pN (tO_pR (tO_pN (tO_pR (tO_pN (tO_pR (tO_pN (tO_pR (tO_pN (tO_pR (tO_pN (tO_pR (tO_pN (tO_pR (tO_pN (tO_pR (tO_pN (tO_pR (tO_pN (tO_pR (tO_pN (tO_pR (tO_pN (tO_pR (tO_pN (tO_pR (tO_pN (tO_pR (tO_pN (tO_pR (tO_pN (tO_pR (tO_pN (tO_pR (tO_pN (tO_pR (tO_pN (tO_pR (tO_pN (tO_pR (tO_pN (tO_pR (tO_pN (tO_pR (tO_pN (tO_pR (tO_pN (tO_pR (tO_pN (tO_pR (tO_pN (tO_pI (tO_pR (tO_pN k1)))))))))))))))))))))))))))))))))))))))))))))))))))))))))))))))))))))))))))))))))))))))))))))))))))))))) fk_12_170 rfl (Or.inr ⟨rfl, rfl⟩) (Or.inr ⟨_, rfl⟩) ?_
  replace e := bhd e
  obtain ⟨_, rfl, e⟩ := e
  refine g_ald_n d_X11_init_438 rfl g0 ?_
  refine r_sipush d_X11_init_439 (v := (1024 : Int32)) (by decide +kernel) ?_
  refine g_newa (t := 22) (t8_pR (t8_pN (t8_pR (t8_pN (t8_pR (t8_pN (t8_pR (t8_pN (t8_pR (t8_pN (t8_pR (t8_pN (t8_pR (t8_pN (t8_pR (t8_pN (t8_pR (t8_pN (t8_pR (t8_pN (t8_pR (t8_pN (t8_pR (t8_pN (t8_pR (t8_pN (t8_pR (t8_pN (t8_pR (t8_pN (t8_pR (t8_pN (t8_pR (t8_pN (t8_pR (t8_pN (t8_pR (t8_pN (t8_pR (t8_pN (t8_pR (t8_pN (t8_pR (t8_pN (t8_pR (t8_pN (t8_pR (t8_pN (t8_pR (t8_pN (t8_pR (t8_pN (t8_pR (t8_pN (t8_pR (t8_pN (t8_pR (t8_pN (t8_pR (t8_pN (t8_pR (t8_pN (t8_pR (t8_pN (t8_pR (t8_pN (t8_pR (t8_pN (t8_pR (t8_pN (t8_pR (t8_pN (t8_pR (t8_pN (t8_pR (t8_pN (t8_pR (t8_pN (t8_pR (t8_pN (t8_pR (t8_pN (t8_pR (t8_pN (t8_pR (t8_pN (t8_pR (t8_pN (t8_pR (t8_pN (t8_pR (t8_pN (t8_pR (t8_pN (t8_pR (t8_pN (t8_pR (t8_pN (t8_pR (t8_pN (t8_pR (t8_pN (t8_pI (t8_pR (t8_pN k2))))))))))))))))))))))))))))))))))))))))))))))))))))))))))))))))))))))))))))))))))))))))))))))))))))))))) d_X11_init_442 (by decide) (by decide) rfl (by decide +kernel) (by decide) (by decide +kernel) ?_
  replace e := bhd e
  obtain ⟨_, rfl, e⟩ := e
  refine g_putR d_X11_init_444 (f := 1261) (tO_pN (tO_pR (tO_pN (tO_pR (tO_pN (tO_pR (tO_pN (tO_pR (tO_pN (tO_pR (tO_pN (tO_pR (tO_pN (tO_pR (tO_pN (tO_pR (tO_pN (tO_pR (tO_pN (tO_pR (tO_pN (tO_pR (tO_pN (tO_pR (tO_pN (tO_pR (tO_pN (tO_pR (tO_pN (tO_pR (tO_pN (tO_pR (tO_pN (tO_pR (tO_pN (tO_pR (tO_pN (tO_pR (tO_pN (tO_pR (tO_pN (tO_pR (tO_pN (tO_pR (tO_pN (tO_pR (tO_pN (tO_pR (tO_pN (tO_pR (tO_pN (tO_pR (tO_pN (tO_pR (tO_pN (tO_pR (tO_pN (tO_pR (tO_pN (tO_pR (tO_pN (tO_pR (tO_pN (tO_pR (tO_pN (tO_pR (tO_pN (tO_pR (tO_pN (tO_pR (tO_pN (tO_pR (tO_pN (tO_pR (tO_pN (tO_pR (tO_pN (tO_pR (tO_pN (tO_pR (tO_pN (tO_pR (tO_pN (tO_pR (tO_pN (tO_pR (tO_pN (tO_pR (tO_pN (tO_pR (tO_pN (tO_pR (tO_pN (tO_pR (tO_pN (tO_pR (tO_pN (tO_pR (tO_pN (tO_pR (tO_pN (tO_pR (tO_pN (tO_pI (tO_pR (tO_pN k1)))))))))))))))))))))))))))))))))))))))))))))))))))))))))))))))))))))))))))))))))))))))))))))))))))))))))) fk_12_173 rfl (Or.inr ⟨rfl, rfl⟩) (Or.inr ⟨_, rfl⟩) ?_
  replace e := bhd e
  obtain ⟨_, rfl, e⟩ := e
  refine g_ald_n d_X11_init_447 rfl g0 ?_
  refine r_sipush d_X11_init_448 (v := (8192 : Int32)) (by decide +kernel) ?_
  refine g_newa (t := 23) (t8_pR (t8_pN (t8_pR (t8_pN (t8_pR (t8_pN (t8_pR (t8_pN (t8_pR (t8_pN (t8_pR (t8_pN (t8_pR (t8_pN (t8_pR (t8_pN (t8_pR (t8_pN (t8_pR (t8_pN (t8_pR (t8_pN (t8_pR (t8_pN (t8_pR (t8_pN (t8_pR (t8_pN (t8_pR (t8_pN (t8_pR (t8_pN (t8_pR (t8_pN (t8_pR (t8_pN (t8_pR (t8_pN (t8_pR (t8_pN (t8_pR (t8_pN (t8_pR (t8_pN (t8_pR (t8_pN (t8_pR (t8_pN (t8_pR (t8_pN (t8_pR (t8_pN (t8_pR (t8_pN (t8_pR (t8_pN (t8_pR (t8_pN (t8_pR (t8_pN (t8_pR (t8_pN (t8_pR (t8_pN (t8_pR (t8_pN (t8_pR (t8_pN (t8_pR (t8_pN (t8_pR (t8_pN (t8_pR (t8_pN (t8_pR (t8_pN (t8_pR (t8_pN (t8_pR (t8_pN (t8_pR (t8_pN (t8_pR (t8_pN (t8_pR (t8_pN (t8_pR (t8_pN (t8_pR (t8_pN (t8_pR (t8_pN (t8_pR (t8_pN (t8_pR (t8_pN (t8_pR (t8_pN (t8_pR (t8_pN (t8_pR (t8_pN (t8_pR (t8_pN (t8_pI (t8_pR (t8_pN k2))))))))))))))))))))))))))))))))))))))))))))))))))))))))))))))))))))))))))))))))))))))))))))))))))))))))))) d_X11_init_451 (by decide) (by decide) rfl (by decide +kernel) (by decide) (by decide +kernel) ?_
  replace e := bhd e
  obtain ⟨_, rfl, e⟩ := e
  refine g_putR d_X11_init_453 (f := 1262) (tO_pN (tO_pR (tO_pN (tO_pR (tO_pN (tO_pR (tO_pN (tO_pR (tO_pN (tO_pR (tO_pN (tO_pR (tO_pN (tO_pR (tO_pN (tO_pR (tO_pN (tO_pR (tO_pN (tO_pR (tO_pN (tO_pR (tO_pN (tO_pR (tO_pN (tO_pR (tO_pN (tO_pR (tO_pN (tO_pR (tO_pN (tO_pR (tO_pN (tO_pR (tO_pN (tO_pR (tO_pN (tO_pR (tO_pN (tO_pR (tO_pN (tO_pR (tO_pN (tO_pR (tO_pN (tO_pR (tO_pN (tO_pR (tO_pN (tO_pR (tO_pN (tO_pR (tO_pN (tO_pR (tO_pN (tO_pR (tO_pN (tO_pR (tO_pN (tO_pR (tO_pN (tO_pR (tO_pN (tO_pR (tO_pN (tO_pR (tO_pN (tO_pR (tO_pN (tO_pR (tO_pN (tO_pR (tO_pN (tO_pR (tO_pN (tO_pR (tO_pN (tO_pR (tO_pN (tO_pR (tO_pN (tO_pR (tO_pN (tO_pR (tO_pN (tO_pR (tO_pN (tO_pR (tO_pN (tO_pR (tO_pN (tO_pR (tO_pN (tO_pR (tO_pN (tO_pR (tO_pN (tO_pR (tO_pN (tO_pR (tO_pN (tO_pR (tO_pN (tO_pR (tO_pN (tO_pI (tO_pR (tO_pN k1)))))))))))))))))))))))))))))))))))))))))))))))))))))))))))))))))))))))))))))))))))))))))))))))))))))))))))) fk_12_176 rfl (Or.inr ⟨rfl, rfl⟩) (Or.inr ⟨_, rfl⟩) ?_
  replace e := bhd e
  obtain ⟨_, rfl, e⟩ := e
  refine r_iconst d_X11_init_456 (v := (0 : Int32)) (by decide +kernel) ?_
  refine s_istore_n d_X11_init_457 rfl (by decide) (fun L g1 gK => ?_)
  replace g0 := gK _ _ (by decide) (Or.inr (zrf_cat _)) g0
  exact f_X11_init_458_ok hj _ _ _ _ _ _ g0 g1 e

theorem c_X11_init {G : Gd} {j : Nat} (hj : 2 ≤ j) {l0 : Nat} {h : Hp} {o : Hp} (e : f_X11_init l0 h = some o) : Cal G j Y_X11_init [zrf (l0)] h none o := Cal.of (n := 0) (I := true) (by decide +kernel) (by decide) (by simp [lg_sl, zrf_cat, cat_int, cat_long]) (f_X11_init_ok hj _ _ h o (by simp [lv_args, zlk, zrf_cat, cat_int, cat_long]) e)
theorem fk_12_183 : Fk "TaskWeaveModel" 183 1200 := ⟨by decide, by decide, by decide +kernel⟩
def f_X11_thrown (l0 : Nat) (h : Hp) : Option (Int32 × Hp) := ck (isO (h) (l0) 12) (some (zI (h) 1200 (l0), h))
theorem f_X11_thrown_ok {G : Gd} {d : Nat} (hj : 1 ≤ d) : ∀ (l0 : Nat) (L : List (Nat × Value)) (h : Hp) (o : (Int32 × Hp)), zlk L 0 = some (zrf (l0)) → f_X11_thrown l0 h = some o → Ev G M_X11_thrown d 0 L [] h (Ret Y_X11_thrown (some (.int o.1)) o.2) := by
  intro l0 L h o g0 e
  unfold f_X11_thrown at e
  refine g_ald_n d_X11_thrown_0 rfl g0 ?_
  replace e := ckd e
  obtain ⟨k1, e⟩ := e
  refine g_getI d_X11_thrown_1 (f := 1200) k1 fk_12_183 rfl rfl ?_
  cases e
  exact g_iret d_X11_thrown_4 rfl rfl

theorem c_X11_thrown {G : Gd} {j : Nat} (hj : 1 ≤ j) {l0 : Nat} {h : Hp} {o : (Int32 × Hp)} (e : f_X11_thrown l0 h = some o) : Cal G j Y_X11_thrown [zrf (l0)] h (some (.int o.1)) o.2 := Cal.of (n := 0) (I := false) (by decide +kernel) (by decide) (by simp [lg_sl, zrf_cat, cat_int, cat_long]) (f_X11_thrown_ok hj _ _ h o (by simp [lv_args, zlk, zrf_cat, cat_int, cat_long]) e)
def f_X11_raise (l0 : Nat) (l1 : Int32) (h : Hp) : Option (Int32 × Hp) := ck (isO (h) (l0) 12) (bh (pI (h) 1200 (l0) (l1)) (fun h2 => some ((0 : Int32), h2)))
theorem f_X11_raise_ok {G : Gd} {d : Nat} (hj : 1 ≤ d) : ∀ (l0 : Nat) (l1 : Int32) (L : List (Nat × Value)) (h : Hp) (o : (Int32 × Hp)), zlk L 0 = some (zrf (l0)) → zlk L 1 = some (.int (l1)) → f_X11_raise l0 l1 h = some o → Ev G M_X11_raise d 0 L [] h (Ret Y_X11_raise (some (.int o.1)) o.2) := by
  intro l0 l1 L h o g0 g1 e
  unfold f_X11_raise at e
  refine g_ald_n d_X11_raise_0 rfl g0 ?_
  refine r_iload_n d_X11_raise_1 rfl g1 ?_
  replace e := ckd e
  obtain ⟨k1, e⟩ := e
  refine g_putI d_X11_raise_2 (f := 1200) k1 fk_12_183 rfl (Or.inl rfl) ⟨rfl, rfl⟩ ?_
  replace e := bhd e
  obtain ⟨_, rfl, e⟩ := e
  refine r_iconst d_X11_raise_5 (v := (0 : Int32)) (by decide +kernel) ?_
  cases e
  exact g_iret d_X11_raise_6 rfl rfl

theorem c_X11_raise {G : Gd} {j : Nat} (hj : 1 ≤ j) {l0 : Nat} {l1 : Int32} {h : Hp} {o : (Int32 × Hp)} (e : f_X11_raise l0 l1 h = some o) : Cal G j Y_X11_raise [zrf (l0), .int (l1)] h (some (.int o.1)) o.2 := Cal.of (n := 0) (I := false) (by decide +kernel) (by decide) (by simp [lg_sl, zrf_cat, cat_int, cat_long]) (f_X11_raise_ok hj _ _ _ h o (by simp [lv_args, zlk, zrf_cat, cat_int, cat_long]) (by simp [lv_args, zlk, zrf_cat, cat_int, cat_long]) e)
def f_X11_in (l0 : Int32) (l1 : Int32) (h : Hp) : Option (Int32 × Hp) := if (l0) < (0) then (some ((0 : Int32), h)) else (if (l1) ≤ (l0) then (some ((0 : Int32), h)) else (some ((1 : Int32), h)))
theorem f_X11_in_ok {G : Gd} {d : Nat} (hj : 1 ≤ d) : ∀ (l0 : Int32) (l1 : Int32) (L : List (Nat × Value)) (h : Hp) (o : (Int32 × Hp)), zlk L 0 = some (.int (l0)) → zlk L 1 = some (.int (l1)) → f_X11_in l0 l1 h = some o → Ev G M_X11_in d 0 L [] h (Ret Y_X11_in (some (.int o.1)) o.2) := by
  intro l0 l1 L h o g0 g1 e
  unfold f_X11_in at e
  refine r_iload_n d_X11_in_0 rfl g0 ?_
  refine r_if_lt d_X11_in_1 (tgt := 13) (by decide) (fun c1 => ?_) (fun c1 => ?_)
  · replace e := (if_pos c1).symm.trans e
    refine r_iconst d_X11_in_13 (v := (0 : Int32)) (by decide +kernel) ?_
    cases e
    exact g_iret d_X11_in_14 rfl rfl
  · replace e := (if_neg c1).symm.trans e
    refine r_iload_n d_X11_in_4 rfl g0 ?_
    refine r_iload_n d_X11_in_5 rfl g1 ?_
    refine r_icmp_ge d_X11_in_6 (tgt := 13) (by decide) (fun c2 => ?_) (fun c2 => ?_)
    · replace e := (if_pos c2).symm.trans e
      refine r_iconst d_X11_in_13 (v := (0 : Int32)) (by decide +kernel) ?_
      cases e
      exact g_iret d_X11_in_14 rfl rfl
    · replace e := (if_neg c2).symm.trans e
      refine r_iconst d_X11_in_9 (v := (1 : Int32)) (by decide +kernel) ?_
      refine r_goto d_X11_in_10 (tgt := 14) (by decide) ?_
      cases e
      exact g_iret d_X11_in_14 rfl rfl

theorem c_X11_in {G : Gd} {j : Nat} (hj : 1 ≤ j) {l0 : Int32} {l1 : Int32} {h : Hp} {o : (Int32 × Hp)} (e : f_X11_in l0 l1 h = some o) : Cal G j Y_X11_in [.int (l0), .int (l1)] h (some (.int o.1)) o.2 := Cal.of (n := 0) (I := false) (by decide +kernel) (by decide) (by simp [lg_sl, zrf_cat, cat_int, cat_long]) (f_X11_in_ok hj _ _ _ h o (by simp [lv_args, zlk, zrf_cat, cat_int, cat_long]) (by simp [lv_args, zlk, zrf_cat, cat_int, cat_long]) e)
theorem fk_12_186 : Fk "TaskWeaveModel" 186 1204 := ⟨by decide, by decide, by decide +kernel⟩
def f_X11_type_80 : Nat → Nat → Int64 → Int32 → Hp → Option (Int32 × Hp)
  | 0, _, _, _, _ => none
  | n + 1, l0, l1, l4, h => if (l4) < (0) then (some ((1 : Int32), h)) else (ck (isO (h) (l0) 12) (ck (isO (h) (zR (h) 1203 (l0)) 22) (ck (inR (zI (h) 1204 (l0)) (zL (h) (zR (h) 1203 (l0)))) (bh (pE (h) (zR (h) 1203 (l0)) (zI (h) 1204 (l0)).toNatClampNeg ((((l1) >>> ((((8 : Int32)) * (l4)).toInt64 &&& 63)) &&& ((255 : Int64))).toInt32)) (fun h16 => bh (pI (h16) 1204 (l0) ((zI (h16) 1204 (l0)) + ((1 : Int32)))) (fun h17 => bh ((l4) + (-1 : Int32)) (fun x18 => f_X11_type_80 n (l0) (l1) (x18) (h17))))))))
theorem f_X11_type_80_ok {G : Gd} {d : Nat} (hj : 1 ≤ d) : ∀ (n : Nat) (l0 : Nat) (l1 : Int64) (l4 : Int32) (L : List (Nat × Value)) (h : Hp) (o : (Int32 × Hp)), zlk L 0 = some (zrf (l0)) → zlk L 1 = some (.long (l1)) → zlk L 4 = some (.int (l4)) → f_X11_type_80 n l0 l1 l4 h = some o → Ev G M_X11_type d 80 L [] h (Ret Y_X11_type (some (.int o.1)) o.2) := by
  intro n
  induction n with
  | zero =>
    intro l0 l1 l4 L h o g0 g1 g4 e
    cases e
  | succ n ih =>
    intro l0 l1 l4 L h o g0 g1 g4 e
    unfold f_X11_type_80 at e
    refine r_iload d_X11_type_80 g4 ?_
    refine r_if_lt d_X11_type_82 (tgt := 122) (by decide) (fun c12 => ?_) (fun c12 => ?_)
    · replace e := (if_pos c12).symm.trans e
      refine r_iconst d_X11_type_122 (v := (1 : Int32)) (by decide +kernel) ?_
      cases e
      exact g_iret d_X11_type_123 rfl rfl
    · replace e := (if_neg c12).symm.trans e
      refine g_ald_n d_X11_type_85 rfl g0 ?_
      replace e := ckd e
      obtain ⟨k13, e⟩ := e
      refine g_getR d_X11_type_86 (f := 1203) k13 fk_12_7 rfl rfl ?_
      refine g_ald_n d_X11_type_89 rfl g0 ?_
      refine g_getI d_X11_type_90 (f := 1204) k13 fk_12_186 rfl rfl ?_
      refine r_lload_n d_X11_type_93 rfl g1 ?_
      refine r_bipush d_X11_type_94 (v := (8 : Int32)) (by decide +kernel) ?_
      refine r_iload d_X11_type_96 g4 ?_
      refine r_imul d_X11_type_98 ?_
      refine r_lshr d_X11_type_99 ?_
      refine r_ldc2 d_X11_type_100 (v := (255 : Int64)) (by decide +kernel) ?_
      refine r_land d_X11_type_103 ?_
      refine r_l2i d_X11_type_104 ?_
      replace e := ckd e
      obtain ⟨k14, e⟩ := e
      replace e := ckd e
      obtain ⟨k15, e⟩ := e
      refine g_iast d_X11_type_105 k14 k15 ?_
      replace e := bhd e
      obtain ⟨_, rfl, e⟩ := e
      refine g_ald_n d_X11_type_106 rfl g0 ?_
      refine r_dup d_X11_type_107 (zrf_cat _) ?_
      refine g_getI d_X11_type_108 (f := 1204) (tO_pE k13) fk_12_186 rfl rfl ?_
      refine r_iconst d_X11_type_111 (v := (1 : Int32)) (by decide +kernel) ?_
      refine r_iadd d_X11_type_112 ?_
      refine g_putI d_X11_type_113 (f := 1204) (tO_pE k13) fk_12_186 rfl (Or.inl rfl) ⟨rfl, rfl⟩ ?_
      replace e := bhd e
      obtain ⟨_, rfl, e⟩ := e
      replace e := bhd e
      obtain ⟨_, rfl, e⟩ := e
      refine s_iinc d_X11_type_116 g4 (w := (-1 : Int32)) (by decide +kernel) (by decide) (fun L g4 gK => ?_)
      replace g0 := gK _ _ (by decide) (Or.inr (zrf_cat _)) g0
      replace g1 := gK _ _ (by decide) (Or.inl (by decide)) g1
      refine r_goto d_X11_type_119 (tgt := 80) (by decide) ?_
      exact ih _ _ _ _ _ _ g0 g1 g4 e

def f_X11_type_33 : Nat → Nat → Int64 → Int32 → Int32 → Hp → Option (Int32 × Hp)
  | 0, _, _, _, _, _ => none
  | n + 1, l0, l1, l3, l4, h => if (l3) ≤ (l4) then (bh ((l3) - ((1 : Int32))) (fun x7 => f_X11_type_80 fz (l0) (l1) (x7) (h))) else (bh ((((l1) >>> ((((8 : Int32)) * (l4)).toInt64 &&& 63)) &&& ((255 : Int64))).toInt32) (fun x8 => if (x8) < ((33 : Int32)) then (some ((0 : Int32), h)) else (if (x8) ≤ ((126 : Int32)) then (bh ((l4) + (1 : Int32)) (fun x11 => f_X11_type_33 n (l0) (l1) (l3) (x11) (h))) else (some ((0 : Int32), h)))))
theorem f_X11_type_33_ok {G : Gd} {d : Nat} (hj : 1 ≤ d) : ∀ (n : Nat) (l0 : Nat) (l1 : Int64) (l3 : Int32) (l4 : Int32) (L : List (Nat × Value)) (h : Hp) (o : (Int32 × Hp)), zlk L 0 = some (zrf (l0)) → zlk L 1 = some (.long (l1)) → zlk L 3 = some (.int (l3)) → zlk L 4 = some (.int (l4)) → f_X11_type_33 n l0 l1 l3 l4 h = some o → Ev G M_X11_type d 33 L [] h (Ret Y_X11_type (some (.int o.1)) o.2) := by
  intro n
  induction n with
  | zero =>
    intro l0 l1 l3 l4 L h o g0 g1 g3 g4 e
    cases e
  | succ n ih =>
    intro l0 l1 l3 l4 L h o g0 g1 g3 g4 e
    unfold f_X11_type_33 at e
    refine r_iload d_X11_type_33 g4 ?_
    refine r_iload_n d_X11_type_35 rfl g3 ?_
    refine r_icmp_ge d_X11_type_36 (tgt := 75) (by decide) (fun c6 => ?_) (fun c6 => ?_)
    · replace e := (if_pos c6).symm.trans e
      refine r_iload_n d_X11_type_75 rfl g3 ?_
      refine r_iconst d_X11_type_76 (v := (1 : Int32)) (by decide +kernel) ?_
      refine r_isub d_X11_type_77 ?_
      replace e := bhd e
      obtain ⟨_, rfl, e⟩ := e
      refine s_istore d_X11_type_78 (by decide) (fun L g4 gK => ?_)
      replace g0 := gK _ _ (by decide) (Or.inr (zrf_cat _)) g0
      replace g1 := gK _ _ (by decide) (Or.inl (by decide)) g1
      exact f_X11_type_80_ok hj _ _ _ _ _ _ _ g0 g1 g4 e
    · replace e := (if_neg c6).symm.trans e
      refine r_lload_n d_X11_type_39 rfl g1 ?_
      refine r_bipush d_X11_type_40 (v := (8 : Int32)) (by decide +kernel) ?_
      refine r_iload d_X11_type_42 g4 ?_
      refine r_imul d_X11_type_44 ?_
      refine r_lshr d_X11_type_45 ?_
      refine r_ldc2 d_X11_type_46 (v := (255 : Int64)) (by decide +kernel) ?_
      refine r_land d_X11_type_49 ?_
      refine r_l2i d_X11_type_50 ?_
      replace e := bhd e
      obtain ⟨_, rfl, e⟩ := e
      refine s_istore d_X11_type_51 (by decide) (fun L g5 gK => ?_)
      replace g0 := gK _ _ (by decide) (Or.inr (zrf_cat _)) g0
      replace g1 := gK _ _ (by decide) (Or.inl (by decide)) g1
      replace g3 := gK _ _ (by decide) (Or.inr rfl) g3
      replace g4 := gK _ _ (by decide) (Or.inr rfl) g4
      refine r_iload d_X11_type_53 g5 ?_
      refine r_bipush d_X11_type_55 (v := (33 : Int32)) (by decide +kernel) ?_
      refine r_icmp_lt d_X11_type_57 (tgt := 67) (by decide) (fun c9 => ?_) (fun c9 => ?_)
      · replace e := (if_pos c9).symm.trans e
        refine r_iconst d_X11_type_67 (v := (0 : Int32)) (by decide +kernel) ?_
        cases e
        exact g_iret d_X11_type_68 rfl rfl
      · replace e := (if_neg c9).symm.trans e
        refine r_iload d_X11_type_60 g5 ?_
        refine r_bipush d_X11_type_62 (v := (126 : Int32)) (by decide +kernel) ?_
        refine r_icmp_le d_X11_type_64 (tgt := 69) (by decide) (fun c10 => ?_) (fun c10 => ?_)
        · replace e := (if_pos c10).symm.trans e
          replace e := bhd e
          obtain ⟨_, rfl, e⟩ := e
          refine s_iinc d_X11_type_69 g4 (w := (1 : Int32)) (by decide +kernel) (by decide) (fun L g4 gK => ?_)
          replace g0 := gK _ _ (by decide) (Or.inr (zrf_cat _)) g0
          replace g1 := gK _ _ (by decide) (Or.inl (by decide)) g1
          replace g3 := gK _ _ (by decide) (Or.inr rfl) g3
          refine r_goto d_X11_type_72 (tgt := 33) (by decide) ?_
          exact ih _ _ _ _ _ _ _ g0 g1 g3 g4 e
        · replace e := (if_neg c10).symm.trans e
          refine r_iconst d_X11_type_67 (v := (0 : Int32)) (by decide +kernel) ?_
          cases e
          exact g_iret d_X11_type_68 rfl rfl

def f_X11_type (l0 : Nat) (l1 : Int64) (l3 : Int32) (h : Hp) : Option (Int32 × Hp) := ck (isO (h) (l0) 12) (bh (pI (h) 1200 (l0) ((0 : Int32))) (fun h2 => if (l3) < ((1 : Int32)) then (some ((0 : Int32), h2)) else (if ((8 : Int32)) < (l3) then (some ((0 : Int32), h2)) else (if ((zI (h2) 1204 (l0)) + (l3)) ≤ ((300 : Int32)) then (f_X11_type_33 fz (l0) (l1) (l3) ((0 : Int32)) (h2)) else (some ((0 : Int32), h2))))))
theorem f_X11_type_ok {G : Gd} {d : Nat} (hj : 1 ≤ d) : ∀ (l0 : Nat) (l1 : Int64) (l3 : Int32) (L : List (Nat × Value)) (h : Hp) (o : (Int32 × Hp)), zlk L 0 = some (zrf (l0)) → zlk L 1 = some (.long (l1)) → zlk L 3 = some (.int (l3)) → f_X11_type l0 l1 l3 h = some o → Ev G M_X11_type d 0 L [] h (Ret Y_X11_type (some (.int o.1)) o.2) := by
  intro l0 l1 l3 L h o g0 g1 g3 e
  unfold f_X11_type at e
  refine g_ald_n d_X11_type_0 rfl g0 ?_
  refine r_iconst d_X11_type_1 (v := (0 : Int32)) (by decide +kernel) ?_
  replace e := ckd e
  obtain ⟨k1, e⟩ := e
  refine g_putI d_X11_type_2 (f := 1200) k1 fk_12_183 rfl (Or.inl rfl) ⟨rfl, rfl⟩ ?_
  replace e := bhd e
  obtain ⟨_, rfl, e⟩ := e
  refine r_iload_n d_X11_type_5 rfl g3 ?_
  refine r_iconst d_X11_type_6 (v := (1 : Int32)) (by decide +kernel) ?_
  refine r_icmp_lt d_X11_type_7 (tgt := 28) (by decide) (fun c3 => ?_) (fun c3 => ?_)
  · replace e := (if_pos c3).symm.trans e
    refine r_iconst d_X11_type_28 (v := (0 : Int32)) (by decide +kernel) ?_
    cases e
    exact g_iret d_X11_type_29 rfl rfl
  · replace e := (if_neg c3).symm.trans e
    refine r_iload_n d_X11_type_10 rfl g3 ?_
    refine r_bipush d_X11_type_11 (v := (8 : Int32)) (by decide +kernel) ?_
    refine r_icmp_gt d_X11_type_13 (tgt := 28) (by decide) (fun c4 => ?_) (fun c4 => ?_)
    · replace e := (if_pos c4).symm.trans e
      refine r_iconst d_X11_type_28 (v := (0 : Int32)) (by decide +kernel) ?_
      cases e
      exact g_iret d_X11_type_29 rfl rfl
    · replace e := (if_neg c4).symm.trans e
      refine g_ald_n d_X11_type_16 rfl g0 ?_
      refine g_getI d_X11_type_17 (f := 1204) (tO_pI k1) fk_12_186 rfl rfl ?_
      refine r_iload_n d_X11_type_20 rfl g3 ?_
      refine r_iadd d_X11_type_21 ?_
      refine r_sipush d_X11_type_22 (v := (300 : Int32)) (by decide +kernel) ?_
      refine r_icmp_le d_X11_type_25 (tgt := 30) (by decide) (fun c5 => ?_) (fun c5 => ?_)
      · replace e := (if_pos c5).symm.trans e
        refine r_iconst d_X11_type_30 (v := (0 : Int32)) (by decide +kernel) ?_
        refine s_istore d_X11_type_31 (by decide) (fun L g4 gK => ?_)
        replace g0 := gK _ _ (by decide) (Or.inr (zrf_cat _)) g0
        replace g1 := gK _ _ (by decide) (Or.inl (by decide)) g1
        replace g3 := gK _ _ (by decide) (Or.inr rfl) g3
        exact f_X11_type_33_ok hj _ _ _ _ _ _ _ _ g0 g1 g3 g4 e
      · replace e := (if_neg c5).symm.trans e
        refine r_iconst d_X11_type_28 (v := (0 : Int32)) (by decide +kernel) ?_
        cases e
        exact g_iret d_X11_type_29 rfl rfl

theorem c_X11_type {G : Gd} {j : Nat} (hj : 1 ≤ j) {l0 : Nat} {l1 : Int64} {l3 : Int32} {h : Hp} {o : (Int32 × Hp)} (e : f_X11_type l0 l1 l3 h = some o) : Cal G j Y_X11_type [zrf (l0), .long (l1), .int (l3)] h (some (.int o.1)) o.2 := Cal.of (n := 0) (I := false) (by decide +kernel) (by decide) (by simp [lg_sl, zrf_cat, cat_int, cat_long]) (f_X11_type_ok hj _ _ _ _ h o (by simp [lv_args, zlk, zrf_cat, cat_int, cat_long]) (by simp [lv_args, zlk, zrf_cat, cat_int, cat_long]) (by simp [lv_args, zlk, zrf_cat, cat_int, cat_long]) e)
theorem fk_12_191 : Fk "TaskWeaveModel" 191 1223 := ⟨by decide, by decide, by decide +kernel⟩
def f_X11_see (l0 : Nat) (h : Hp) : Option (Int32 × Hp) := ck (isO (h) (l0) 12) (if (zI (h) 1204 (l0)) ≤ (zI (h) 1223 (l0)) then (some ((0 : Int32), h)) else (ck (isO (h) (zR (h) 1203 (l0)) 22) (ck (inR (zI (h) 1223 (l0)) (zL (h) (zR (h) 1203 (l0)))) (some (zE (h) (zR (h) 1203 (l0)) (zI (h) 1223 (l0)).toNatClampNeg, h)))))
theorem f_X11_see_ok {G : Gd} {d : Nat} (hj : 1 ≤ d) : ∀ (l0 : Nat) (L : List (Nat × Value)) (h : Hp) (o : (Int32 × Hp)), zlk L 0 = some (zrf (l0)) → f_X11_see l0 h = some o → Ev G M_X11_see d 0 L [] h (Ret Y_X11_see (some (.int o.1)) o.2) := by
  intro l0 L h o g0 e
  unfold f_X11_see at e
  refine g_ald_n d_X11_see_0 rfl g0 ?_
  replace e := ckd e
  obtain ⟨k1, e⟩ := e
  refine g_getI d_X11_see_1 (f := 1223) k1 fk_12_191 rfl rfl ?_
  refine g_ald_n d_X11_see_4 rfl g0 ?_
  refine g_getI d_X11_see_5 (f := 1204) k1 fk_12_186 rfl rfl ?_
  refine r_icmp_ge d_X11_see_8 (tgt := 23) (by decide) (fun c2 => ?_) (fun c2 => ?_)
  · replace e := (if_pos c2).symm.trans e
    refine r_iconst d_X11_see_23 (v := (0 : Int32)) (by decide +kernel) ?_
    cases e
    exact g_iret d_X11_see_24 rfl rfl
  · replace e := (if_neg c2).symm.trans e
    refine g_ald_n d_X11_see_11 rfl g0 ?_
    refine g_getR d_X11_see_12 (f := 1203) k1 fk_12_7 rfl rfl ?_
    refine g_ald_n d_X11_see_15 rfl g0 ?_
    refine g_getI d_X11_see_16 (f := 1223) k1 fk_12_191 rfl rfl ?_
    replace e := ckd e
    obtain ⟨k3, e⟩ := e
    replace e := ckd e
    obtain ⟨k4, e⟩ := e
    refine g_iald d_X11_see_19 k3 k4 rfl ?_
    refine r_goto d_X11_see_20 (tgt := 24) (by decide) ?_
    cases e
    exact g_iret d_X11_see_24 rfl rfl

theorem c_X11_see {G : Gd} {j : Nat} (hj : 1 ≤ j) {l0 : Nat} {h : Hp} {o : (Int32 × Hp)} (e : f_X11_see l0 h = some o) : Cal G j Y_X11_see [zrf (l0)] h (some (.int o.1)) o.2 := Cal.of (n := 0) (I := false) (by decide +kernel) (by decide) (by simp [lg_sl, zrf_cat, cat_int, cat_long]) (f_X11_see_ok hj _ _ h o (by simp [lv_args, zlk, zrf_cat, cat_int, cat_long]) e)
theorem vk_12_194 : Vk "TaskWeaveModel" 194 0 12 Y_X11_see := ⟨yk_X11_see, by decide +kernel, by decide +kernel, by decide +kernel, by decide⟩
def f_X11_takes (l0 : Nat) (l1 : Int32) (h : Hp) : Option (Int32 × Hp) := ck (isO (h) (l0) 12) ((f_X11_see (l0) (h)).bind (fun q1 => if (q1.1) = (l1) then (ck (isO (q1.2) (l0) 12) (bh (pI (q1.2) 1223 (l0) ((zI (q1.2) 1223 (l0)) + ((1 : Int32)))) (fun h5 => some ((1 : Int32), h5)))) else (some ((0 : Int32), q1.2))))
theorem f_X11_takes_ok {G : Gd} {d : Nat} (hj : 2 ≤ d) : ∀ (l0 : Nat) (l1 : Int32) (L : List (Nat × Value)) (h : Hp) (o : (Int32 × Hp)), zlk L 0 = some (zrf (l0)) → zlk L 1 = some (.int (l1)) → f_X11_takes l0 l1 h = some o → Ev G M_X11_takes d 0 L [] h (Ret Y_X11_takes (some (.int o.1)) o.2) := by
  intro l0 l1 L h o g0 g1 e
  unfold f_X11_takes at e
  refine g_ald_n d_X11_takes_0 rfl g0 ?_
  replace e := ckd e
  obtain ⟨k2, e⟩ := e
  replace e := bd e
  obtain ⟨q1, eq1, e⟩ := e
  refine g_callV d_X11_takes_1 vk_12_194 (as := []) rfl k2 rfl (by simp [zrf_cat, cat_int, cat_long]) (j := 1) (by omega) (c_X11_see (by omega) eq1) ?_
  refine r_iload_n d_X11_takes_4 rfl g1 ?_
  refine r_icmp_eq d_X11_takes_5 (tgt := 10) (by decide) (fun c3 => ?_) (fun c3 => ?_)
  · replace e := (if_pos c3).symm.trans e
    refine g_ald_n d_X11_takes_10 rfl g0 ?_
    refine r_dup d_X11_takes_11 (zrf_cat _) ?_
    replace e := ckd e
    obtain ⟨k4, e⟩ := e
    refine g_getI d_X11_takes_12 (f := 1223) k4 fk_12_191 rfl rfl ?_
    refine r_iconst d_X11_takes_15 (v := (1 : Int32)) (by decide +kernel) ?_
    refine r_iadd d_X11_takes_16 ?_
    refine g_putI d_X11_takes_17 (f := 1223) k4 fk_12_191 rfl (Or.inl rfl) ⟨rfl, rfl⟩ ?_
    replace e := bhd e
    obtain ⟨_, rfl, e⟩ := e
    refine r_iconst d_X11_takes_20 (v := (1 : Int32)) (by decide +kernel) ?_
    cases e
    exact g_iret d_X11_takes_21 rfl rfl
  · replace e := (if_neg c3).symm.trans e
    refine r_iconst d_X11_takes_8 (v := (0 : Int32)) (by decide +kernel) ?_
    cases e
    exact g_iret d_X11_takes_9 rfl rfl

theorem c_X11_takes {G : Gd} {j : Nat} (hj : 2 ≤ j) {l0 : Nat} {l1 : Int32} {h : Hp} {o : (Int32 × Hp)} (e : f_X11_takes l0 l1 h = some o) : Cal G j Y_X11_takes [zrf (l0), .int (l1)] h (some (.int o.1)) o.2 := Cal.of (n := 0) (I := false) (by decide +kernel) (by decide) (by simp [lg_sl, zrf_cat, cat_int, cat_long]) (f_X11_takes_ok hj _ _ _ h o (by simp [lv_args, zlk, zrf_cat, cat_int, cat_long]) (by simp [lv_args, zlk, zrf_cat, cat_int, cat_long]) e)
def f_X11_isDigit (l0 : Nat) (h : Hp) : Option (Int32 × Hp) := ck (isO (h) (l0) 12) ((f_X11_see (l0) (h)).bind (fun q1 => if (q1.1) < ((48 : Int32)) then (some ((0 : Int32), q1.2)) else (ck (isO (q1.2) (l0) 12) ((f_X11_see (l0) (q1.2)).bind (fun q4 => if ((57 : Int32)) < (q4.1) then (some ((0 : Int32), q4.2)) else (some ((1 : Int32), q4.2)))))))
theorem f_X11_isDigit_ok {G : Gd} {d : Nat} (hj : 2 ≤ d) : ∀ (l0 : Nat) (L : List (Nat × Value)) (h : Hp) (o : (Int32 × Hp)), zlk L 0 = some (zrf (l0)) → f_X11_isDigit l0 h = some o → Ev G M_X11_isDigit d 0 L [] h (Ret Y_X11_isDigit (some (.int o.1)) o.2) := by
  intro l0 L h o g0 e
  unfold f_X11_isDigit at e
  refine g_ald_n d_X11_isDigit_0 rfl g0 ?_
  replace e := ckd e
  obtain ⟨k2, e⟩ := e
  replace e := bd e
  obtain ⟨q1, eq1, e⟩ := e
  refine g_callV d_X11_isDigit_1 vk_12_194 (as := []) rfl k2 rfl (by simp [zrf_cat, cat_int, cat_long]) (j := 1) (by omega) (c_X11_see (by omega) eq1) ?_
  refine r_bipush d_X11_isDigit_4 (v := (48 : Int32)) (by decide +kernel) ?_
  refine r_icmp_lt d_X11_isDigit_6 (tgt := 22) (by decide) (fun c3 => ?_) (fun c3 => ?_)
  · replace e := (if_pos c3).symm.trans e
    refine r_iconst d_X11_isDigit_22 (v := (0 : Int32)) (by decide +kernel) ?_
    cases e
    exact g_iret d_X11_isDigit_23 rfl rfl
  · replace e := (if_neg c3).symm.trans e
    refine g_ald_n d_X11_isDigit_9 rfl g0 ?_
    replace e := ckd e
    obtain ⟨k5, e⟩ := e
    replace e := bd e
    obtain ⟨q4, eq4, e⟩ := e
    refine g_callV d_X11_isDigit_10 vk_12_194 (as := []) rfl k5 rfl (by simp [zrf_cat, cat_int, cat_long]) (j := 1) (by omega) (c_X11_see (by omega) eq4) ?_
    refine r_bipush d_X11_isDigit_13 (v := (57 : Int32)) (by decide +kernel) ?_
    refine r_icmp_gt d_X11_isDigit_15 (tgt := 22) (by decide) (fun c6 => ?_) (fun c6 => ?_)
    · replace e := (if_pos c6).symm.trans e
      refine r_iconst d_X11_isDigit_22 (v := (0 : Int32)) (by decide +kernel) ?_
      cases e
      exact g_iret d_X11_isDigit_23 rfl rfl
    · replace e := (if_neg c6).symm.trans e
      refine r_iconst d_X11_isDigit_18 (v := (1 : Int32)) (by decide +kernel) ?_
      refine r_goto d_X11_isDigit_19 (tgt := 23) (by decide) ?_
      cases e
      exact g_iret d_X11_isDigit_23 rfl rfl

theorem c_X11_isDigit {G : Gd} {j : Nat} (hj : 2 ≤ j) {l0 : Nat} {h : Hp} {o : (Int32 × Hp)} (e : f_X11_isDigit l0 h = some o) : Cal G j Y_X11_isDigit [zrf (l0)] h (some (.int o.1)) o.2 := Cal.of (n := 0) (I := false) (by decide +kernel) (by decide) (by simp [lg_sl, zrf_cat, cat_int, cat_long]) (f_X11_isDigit_ok hj _ _ h o (by simp [lv_args, zlk, zrf_cat, cat_int, cat_long]) e)
def f_X11_isLetter (l0 : Nat) (h : Hp) : Option (Int32 × Hp) := ck (isO (h) (l0) 12) ((f_X11_see (l0) (h)).bind (fun q1 => if (q1.1) < ((97 : Int32)) then (some ((0 : Int32), q1.2)) else (ck (isO (q1.2) (l0) 12) ((f_X11_see (l0) (q1.2)).bind (fun q4 => if ((104 : Int32)) < (q4.1) then (some ((0 : Int32), q4.2)) else (some ((1 : Int32), q4.2)))))))
theorem f_X11_isLetter_ok {G : Gd} {d : Nat} (hj : 2 ≤ d) : ∀ (l0 : Nat) (L : List (Nat × Value)) (h : Hp) (o : (Int32 × Hp)), zlk L 0 = some (zrf (l0)) → f_X11_isLetter l0 h = some o → Ev G M_X11_isLetter d 0 L [] h (Ret Y_X11_isLetter (some (.int o.1)) o.2) := by
  intro l0 L h o g0 e
  unfold f_X11_isLetter at e
  refine g_ald_n d_X11_isLetter_0 rfl g0 ?_
  replace e := ckd e
  obtain ⟨k2, e⟩ := e
  replace e := bd e
  obtain ⟨q1, eq1, e⟩ := e
  refine g_callV d_X11_isLetter_1 vk_12_194 (as := []) rfl k2 rfl (by simp [zrf_cat, cat_int, cat_long]) (j := 1) (by omega) (c_X11_see (by omega) eq1) ?_
  refine r_bipush d_X11_isLetter_4 (v := (97 : Int32)) (by decide +kernel) ?_
  refine r_icmp_lt d_X11_isLetter_6 (tgt := 22) (by decide) (fun c3 => ?_) (fun c3 => ?_)
  · replace e := (if_pos c3).symm.trans e
    refine r_iconst d_X11_isLetter_22 (v := (0 : Int32)) (by decide +kernel) ?_
    cases e
    exact g_iret d_X11_isLetter_23 rfl rfl
  · replace e := (if_neg c3).symm.trans e
    refine g_ald_n d_X11_isLetter_9 rfl g0 ?_
    replace e := ckd e
    obtain ⟨k5, e⟩ := e
    replace e := bd e
    obtain ⟨q4, eq4, e⟩ := e
    refine g_callV d_X11_isLetter_10 vk_12_194 (as := []) rfl k5 rfl (by simp [zrf_cat, cat_int, cat_long]) (j := 1) (by omega) (c_X11_see (by omega) eq4) ?_
    refine r_bipush d_X11_isLetter_13 (v := (104 : Int32)) (by decide +kernel) ?_
    refine r_icmp_gt d_X11_isLetter_15 (tgt := 22) (by decide) (fun c6 => ?_) (fun c6 => ?_)
    · replace e := (if_pos c6).symm.trans e
      refine r_iconst d_X11_isLetter_22 (v := (0 : Int32)) (by decide +kernel) ?_
      cases e
      exact g_iret d_X11_isLetter_23 rfl rfl
    · replace e := (if_neg c6).symm.trans e
      refine r_iconst d_X11_isLetter_18 (v := (1 : Int32)) (by decide +kernel) ?_
      refine r_goto d_X11_isLetter_19 (tgt := 23) (by decide) ?_
      cases e
      exact g_iret d_X11_isLetter_23 rfl rfl

theorem c_X11_isLetter {G : Gd} {j : Nat} (hj : 2 ≤ j) {l0 : Nat} {h : Hp} {o : (Int32 × Hp)} (e : f_X11_isLetter l0 h = some o) : Cal G j Y_X11_isLetter [zrf (l0)] h (some (.int o.1)) o.2 := Cal.of (n := 0) (I := false) (by decide +kernel) (by decide) (by simp [lg_sl, zrf_cat, cat_int, cat_long]) (f_X11_isLetter_ok hj _ _ h o (by simp [lv_args, zlk, zrf_cat, cat_int, cat_long]) e)
theorem vk_12_198 : Vk "TaskWeaveModel" 198 0 12 Y_X11_isLetter := ⟨yk_X11_isLetter, by decide +kernel, by decide +kernel, by decide +kernel, by decide⟩
theorem vk_12_202 : Vk "TaskWeaveModel" 202 1 12 Y_X11_takes := ⟨yk_X11_takes, by decide +kernel, by decide +kernel, by decide +kernel, by decide⟩
theorem vk_12_206 : Vk "TaskWeaveModel" 206 0 12 Y_X11_isDigit := ⟨yk_X11_isDigit, by decide +kernel, by decide +kernel, by decide +kernel, by decide⟩
theorem fk_12_209 : Fk "TaskWeaveModel" 209 1213 := ⟨by decide, by decide, by decide +kernel⟩
def f_X11_value_106 (l0 : Nat) (l1 : Int32) (l2 : Int32) (l3 : Int32) (h : Hp) : Option (Int32 × Hp) := if (l1) = (0) then (ck (isO (h) (l0) 12) (ck (isO (h) (zR (h) 1216 (l0)) 23) (ck (inR (zI (h) 1213 (l0)) (zL (h) (zR (h) 1216 (l0)))) (bh (pE (h) (zR (h) 1216 (l0)) (zI (h) 1213 (l0)).toNatClampNeg (((l2) &&& 1))) (fun h28 => ck (isO (h28) (zR (h28) 1217 (l0)) 22) (ck (inR (zI (h28) 1213 (l0)) (zL (h28) (zR (h28) 1217 (l0)))) (bh (pE (h28) (zR (h28) 1217 (l0)) (zI (h28) 1213 (l0)).toNatClampNeg (l3)) (fun h31 => some ((1 : Int32), h31))))))))) else (ck (isO (h) (l0) 12) (ck (isO (h) (zR (h) 1218 (l0)) 23) (ck (inR (zI (h) 1213 (l0)) (zL (h) (zR (h) 1218 (l0)))) (bh (pE (h) (zR (h) 1218 (l0)) (zI (h) 1213 (l0)).toNatClampNeg (((l2) &&& 1))) (fun h35 => ck (isO (h35) (zR (h35) 1219 (l0)) 22) (ck (inR (zI (h35) 1213 (l0)) (zL (h35) (zR (h35) 1219 (l0)))) (bh (pE (h35) (zR (h35) 1219 (l0)) (zI (h35) 1213 (l0)).toNatClampNeg (l3)) (fun h38 => some ((1 : Int32), h38)))))))))
theorem f_X11_value_106_ok {G : Gd} {d : Nat} (hj : 3 ≤ d) : ∀ (l0 : Nat) (l1 : Int32) (l2 : Int32) (l3 : Int32) (L : List (Nat × Value)) (h : Hp) (o : (Int32 × Hp)), zlk L 0 = some (zrf (l0)) → zlk L 1 = some (.int (l1)) → zlk L 2 = some (.int (l2)) → zlk L 3 = some (.int (l3)) → f_X11_value_106 l0 l1 l2 l3 h = some o → Ev G M_X11_value d 106 L [] h (Ret Y_X11_value (some (.int o.1)) o.2) := by
  intro l0 l1 l2 l3 L h o g0 g1 g2 g3 e
  unfold f_X11_value_106 at e
  refine r_iload_n d_X11_value_106 rfl g1 ?_
  refine r_if_eq d_X11_value_107 (tgt := 133) (by decide) (fun c24 => ?_) (fun c24 => ?_)
  · replace e := (if_pos c24).symm.trans e
    refine g_ald_n d_X11_value_133 rfl g0 ?_
    replace e := ckd e
    obtain ⟨k25, e⟩ := e
    refine g_getR d_X11_value_134 (f := 1216) k25 fk_12_41 rfl rfl ?_
    refine g_ald_n d_X11_value_137 rfl g0 ?_
    refine g_getI d_X11_value_138 (f := 1213) k25 fk_12_209 rfl rfl ?_
    refine r_iload_n d_X11_value_141 rfl g2 ?_
    replace e := ckd e
    obtain ⟨k26, e⟩ := e
    replace e := ckd e
    obtain ⟨k27, e⟩ := e
    refine g_zast d_X11_value_142 k26 k27 ?_
    replace e := bhd e
    obtain ⟨_, rfl, e⟩ := e
    refine g_ald_n d_X11_value_143 rfl g0 ?_
    refine g_getR d_X11_value_144 (f := 1217) (tO_pE k25) fk_12_45 rfl rfl ?_
    refine g_ald_n d_X11_value_147 rfl g0 ?_
    refine g_getI d_X11_value_148 (f := 1213) (tO_pE k25) fk_12_209 rfl rfl ?_
    refine r_iload_n d_X11_value_151 rfl g3 ?_
    replace e := ckd e
    obtain ⟨k29, e⟩ := e
    replace e := ckd e
    obtain ⟨k30, e⟩ := e
    refine g_iast d_X11_value_152 k29 k30 ?_
    replace e := bhd e
    obtain ⟨_, rfl, e⟩ := e
    refine r_iconst d_X11_value_153 (v := (1 : Int32)) (by decide +kernel) ?_
    cases e
    exact g_iret d_X11_value_154 rfl rfl
  · replace e := (if_neg c24).symm.trans e
    refine g_ald_n d_X11_value_110 rfl g0 ?_
    replace e := ckd e
    obtain ⟨k32, e⟩ := e
    refine g_getR d_X11_value_111 (f := 1218) k32 fk_12_48 rfl rfl ?_
    refine g_ald_n d_X11_value_114 rfl g0 ?_
    refine g_getI d_X11_value_115 (f := 1213) k32 fk_12_209 rfl rfl ?_
    refine r_iload_n d_X11_value_118 rfl g2 ?_
    replace e := ckd e
    obtain ⟨k33, e⟩ := e
    replace e := ckd e
    obtain ⟨k34, e⟩ := e
    refine g_zast d_X11_value_119 k33 k34 ?_
    replace e := bhd e
    obtain ⟨_, rfl, e⟩ := e
    refine g_ald_n d_X11_value_120 rfl g0 ?_
    refine g_getR d_X11_value_121 (f := 1219) (tO_pE k32) fk_12_51 rfl rfl ?_
    refine g_ald_n d_X11_value_124 rfl g0 ?_
    refine g_getI d_X11_value_125 (f := 1213) (tO_pE k32) fk_12_209 rfl rfl ?_
    refine r_iload_n d_X11_value_128 rfl g3 ?_
    replace e := ckd e
    obtain ⟨k36, e⟩ := e
    replace e := ckd e
    obtain ⟨k37, e⟩ := e
    refine g_iast d_X11_value_129 k36 k37 ?_
    replace e := bhd e
    obtain ⟨_, rfl, e⟩ := e
    refine r_goto d_X11_value_130 (tgt := 153) (by decide) ?_
    refine r_iconst d_X11_value_153 (v := (1 : Int32)) (by decide +kernel) ?_
    cases e
    exact g_iret d_X11_value_154 rfl rfl

def f_X11_value_105 (s0 : Int32) (l0 : Nat) (l1 : Int32) (l2 : Int32) (h : Hp) : Option (Int32 × Hp) := f_X11_value_106 (l0) (l1) (l2) (s0) (h)
theorem f_X11_value_105_ok {G : Gd} {d : Nat} (hj : 3 ≤ d) : ∀ (s0 : Int32) (l0 : Nat) (l1 : Int32) (l2 : Int32) (L : List (Nat × Value)) (h : Hp) (o : (Int32 × Hp)), zlk L 0 = some (zrf (l0)) → zlk L 1 = some (.int (l1)) → zlk L 2 = some (.int (l2)) → f_X11_value_105 s0 l0 l1 l2 h = some o → Ev G M_X11_value d 105 L [.int (s0)] h (Ret Y_X11_value (some (.int o.1)) o.2) := by
  intro s0 l0 l1 l2 L h o g0 g1 g2 e
  unfold f_X11_value_105 at e
  refine s_istore_n d_X11_value_105 rfl (by decide) (fun L g3 gK => ?_)
  replace g0 := gK _ _ (by decide) (Or.inr (zrf_cat _)) g0
  replace g1 := gK _ _ (by decide) (Or.inr rfl) g1
  replace g2 := gK _ _ (by decide) (Or.inr rfl) g2
  exact f_X11_value_106_ok hj _ _ _ _ _ _ _ g0 g1 g2 g3 e

def f_X11_value_94 (l0 : Nat) (l1 : Int32) (l2 : Int32) (l3 : Int32) (l4 : Int32) (h : Hp) : Option (Int32 × Hp) := if (l4) = (0) then (f_X11_value_105 (l3) (l0) (l1) (l2) (h)) else (f_X11_value_105 (-(l3)) (l0) (l1) (l2) (h))
theorem f_X11_value_94_ok {G : Gd} {d : Nat} (hj : 3 ≤ d) : ∀ (l0 : Nat) (l1 : Int32) (l2 : Int32) (l3 : Int32) (l4 : Int32) (L : List (Nat × Value)) (h : Hp) (o : (Int32 × Hp)), zlk L 0 = some (zrf (l0)) → zlk L 1 = some (.int (l1)) → zlk L 2 = some (.int (l2)) → zlk L 3 = some (.int (l3)) → zlk L 4 = some (.int (l4)) → f_X11_value_94 l0 l1 l2 l3 l4 h = some o → Ev G M_X11_value d 94 L [] h (Ret Y_X11_value (some (.int o.1)) o.2) := by
  intro l0 l1 l2 l3 l4 L h o g0 g1 g2 g3 g4 e
  unfold f_X11_value_94 at e
  refine r_iload d_X11_value_94 g4 ?_
  refine r_if_eq d_X11_value_96 (tgt := 104) (by decide) (fun c39 => ?_) (fun c39 => ?_)
  · replace e := (if_pos c39).symm.trans e
    refine r_iload_n d_X11_value_104 rfl g3 ?_
    exact f_X11_value_105_ok hj _ _ _ _ _ _ _ g0 g1 g2 e
  · replace e := (if_neg c39).symm.trans e
    refine r_iload_n d_X11_value_99 rfl g3 ?_
    refine r_ineg d_X11_value_100 ?_
    refine r_goto d_X11_value_101 (tgt := 105) (by decide) ?_
    exact f_X11_value_105_ok hj _ _ _ _ _ _ _ g0 g1 g2 e

def f_X11_value_52 : Nat → Nat → Int32 → Int32 → Int32 → Int32 → Int32 → Hp → Option (Int32 × Hp)
  | 0, _, _, _, _, _, _, _ => none
  | n + 1, l0, l1, l2, l3, l4, l5, h => if ((5 : Int32)) ≤ (l5) then (f_X11_value_94 (l0) (l1) (l2) (l3) (l4) (h)) else (ck (isO (h) (l0) 12) ((f_X11_isDigit (l0) (h)).bind (fun q15 => if (q15.1) = (0) then (f_X11_value_94 (l0) (l1) (l2) (l3) (l4) (q15.2)) else (ck (isO (q15.2) (l0) 12) ((f_X11_see (l0) (q15.2)).bind (fun q18 => bh (((((10 : Int32)) * (l3)) + (q18.1)) - ((48 : Int32))) (fun x20 => ck (isO (q18.2) (l0) 12) (bh (pI (q18.2) 1223 (l0) ((zI (q18.2) 1223 (l0)) + ((1 : Int32)))) (fun h22 => bh ((l5) + (1 : Int32)) (fun x23 => f_X11_value_52 n (l0) (l1) (l2) (x20) (l4) (x23) (h22)))))))))))
theorem f_X11_value_52_ok {G : Gd} {d : Nat} (hj : 3 ≤ d) : ∀ (n : Nat) (l0 : Nat) (l1 : Int32) (l2 : Int32) (l3 : Int32) (l4 : Int32) (l5 : Int32) (L : List (Nat × Value)) (h : Hp) (o : (Int32 × Hp)), zlk L 0 = some (zrf (l0)) → zlk L 1 = some (.int (l1)) → zlk L 2 = some (.int (l2)) → zlk L 3 = some (.int (l3)) → zlk L 4 = some (.int (l4)) → zlk L 5 = some (.int (l5)) → f_X11_value_52 n l0 l1 l2 l3 l4 l5 h = some o → Ev G M_X11_value d 52 L [] h (Ret Y_X11_value (some (.int o.1)) o.2) := by
  intro n
  induction n with
  | zero =>
    intro l0 l1 l2 l3 l4 l5 L h o g0 g1 g2 g3 g4 g5 e
    cases e
  | succ n ih =>
    intro l0 l1 l2 l3 l4 l5 L h o g0 g1 g2 g3 g4 g5 e
    unfold f_X11_value_52 at e
    refine r_iload d_X11_value_52 g5 ?_
    refine r_iconst d_X11_value_54 (v := (5 : Int32)) (by decide +kernel) ?_
    refine r_icmp_ge d_X11_value_55 (tgt := 94) (by decide) (fun c14 => ?_) (fun c14 => ?_)
    · replace e := (if_pos c14).symm.trans e
      exact f_X11_value_94_ok hj _ _ _ _ _ _ _ _ g0 g1 g2 g3 g4 e
    · replace e := (if_neg c14).symm.trans e
      refine g_ald_n d_X11_value_58 rfl g0 ?_
      replace e := ckd e
      obtain ⟨k16, e⟩ := e
      replace e := bd e
      obtain ⟨q15, eq15, e⟩ := e
      refine g_callV d_X11_value_59 vk_12_206 (as := []) rfl k16 rfl (by simp [zrf_cat, cat_int, cat_long]) (j := 2) (by omega) (c_X11_isDigit (by omega) eq15) ?_
      refine r_if_eq d_X11_value_62 (tgt := 94) (by decide) (fun c17 => ?_) (fun c17 => ?_)
      · replace e := (if_pos c17).symm.trans e
        exact f_X11_value_94_ok hj _ _ _ _ _ _ _ _ g0 g1 g2 g3 g4 e
      · replace e := (if_neg c17).symm.trans e
        refine r_bipush d_X11_value_65 (v := (10 : Int32)) (by decide +kernel) ?_
        refine r_iload_n d_X11_value_67 rfl g3 ?_
        refine r_imul d_X11_value_68 ?_
        refine g_ald_n d_X11_value_69 rfl g0 ?_
        replace e := ckd e
        obtain ⟨k19, e⟩ := e
        replace e := bd e
        obtain ⟨q18, eq18, e⟩ := e
        refine g_callV d_X11_value_70 vk_12_194 (as := []) rfl k19 rfl (by simp [zrf_cat, cat_int, cat_long]) (j := 1) (by omega) (c_X11_see (by omega) eq18) ?_
        refine r_iadd d_X11_value_73 ?_
        refine r_bipush d_X11_value_74 (v := (48 : Int32)) (by decide +kernel) ?_
        refine r_isub d_X11_value_76 ?_
        replace e := bhd e
        obtain ⟨_, rfl, e⟩ := e
        refine s_istore_n d_X11_value_77 rfl (by decide) (fun L g3 gK => ?_)
        replace g0 := gK _ _ (by decide) (Or.inr (zrf_cat _)) g0
        replace g1 := gK _ _ (by decide) (Or.inr rfl) g1
        replace g2 := gK _ _ (by decide) (Or.inr rfl) g2
        replace g4 := gK _ _ (by decide) (Or.inr rfl) g4
        replace g5 := gK _ _ (by decide) (Or.inr rfl) g5
        refine g_ald_n d_X11_value_78 rfl g0 ?_
        refine r_dup d_X11_value_79 (zrf_cat _) ?_
        replace e := ckd e
        obtain ⟨k21, e⟩ := e
        refine g_getI d_X11_value_80 (f := 1223) k21 fk_12_191 rfl rfl ?_
        refine r_iconst d_X11_value_83 (v := (1 : Int32)) (by decide +kernel) ?_
        refine r_iadd d_X11_value_84 ?_
        refine g_putI d_X11_value_85 (f := 1223) k21 fk_12_191 rfl (Or.inl rfl) ⟨rfl, rfl⟩ ?_
        replace e := bhd e
        obtain ⟨_, rfl, e⟩ := e
        replace e := bhd e
        obtain ⟨_, rfl, e⟩ := e
        refine s_iinc d_X11_value_88 g5 (w := (1 : Int32)) (by decide +kernel) (by decide) (fun L g5 gK => ?_)
        replace g0 := gK _ _ (by decide) (Or.inr (zrf_cat _)) g0
        replace g1 := gK _ _ (by decide) (Or.inr rfl) g1
        replace g2 := gK _ _ (by decide) (Or.inr rfl) g2
        replace g3 := gK _ _ (by decide) (Or.inr rfl) g3
        replace g4 := gK _ _ (by decide) (Or.inr rfl) g4
        refine r_goto d_X11_value_91 (tgt := 52) (by decide) ?_
        exact ih _ _ _ _ _ _ _ _ _ g0 g1 g2 g3 g4 g5 e

def f_X11_value (l0 : Nat) (l1 : Int32) (h : Hp) : Option (Int32 × Hp) := ck (isO (h) (l0) 12) ((f_X11_isLetter (l0) (h)).bind (fun q1 => if (q1.1) = (0) then (ck (isO (q1.2) (l0) 12) ((f_X11_takes (l0) ((45 : Int32)) (q1.2)).bind (fun q4 => ck (isO (q4.2) (l0) 12) ((f_X11_isDigit (l0) (q4.2)).bind (fun q6 => if (q6.1) = (0) then (some ((0 : Int32), q6.2)) else (f_X11_value_52 fz (l0) (l1) (q1.1) ((0 : Int32)) (q4.1) ((0 : Int32)) (q6.2))))))) else (ck (isO (q1.2) (l0) 12) ((f_X11_see (l0) (q1.2)).bind (fun q9 => bh ((q9.1) - ((97 : Int32))) (fun x11 => ck (isO (q9.2) (l0) 12) (bh (pI (q9.2) 1223 (l0) ((zI (q9.2) 1223 (l0)) + ((1 : Int32)))) (fun h13 => f_X11_value_106 (l0) (l1) (q1.1) (x11) (h13)))))))))
theorem f_X11_value_ok {G : Gd} {d : Nat} (hj : 3 ≤ d) : ∀ (l0 : Nat) (l1 : Int32) (L : List (Nat × Value)) (h : Hp) (o : (Int32 × Hp)), zlk L 0 = some (zrf (l0)) → zlk L 1 = some (.int (l1)) → f_X11_value l0 l1 h = some o → Ev G M_X11_value d 0 L [] h (Ret Y_X11_value (some (.int o.1)) o.2) := by
  intro l0 l1 L h o g0 g1 e
  unfold f_X11_value at e
  refine g_ald_n d_X11_value_0 rfl g0 ?_
  replace e := ckd e
  obtain ⟨k2, e⟩ := e
  replace e := bd e
  obtain ⟨q1, eq1, e⟩ := e
  refine g_callV d_X11_value_1 vk_12_198 (as := []) rfl k2 rfl (by simp [zrf_cat, cat_int, cat_long]) (j := 2) (by omega) (c_X11_isLetter (by omega) eq1) ?_
  refine s_istore_n d_X11_value_4 rfl (by decide) (fun L g2 gK => ?_)
  replace g0 := gK _ _ (by decide) (Or.inr (zrf_cat _)) g0
  replace g1 := gK _ _ (by decide) (Or.inr rfl) g1
  refine r_iconst d_X11_value_5 (v := (0 : Int32)) (by decide +kernel) ?_
  refine s_istore_n d_X11_value_6 rfl (by decide) (fun L g3 gK => ?_)
  replace g0 := gK _ _ (by decide) (Or.inr (zrf_cat _)) g0
  replace g1 := gK _ _ (by decide) (Or.inr rfl) g1
  replace g2 := gK _ _ (by decide) (Or.inr rfl) g2
  refine r_iload_n d_X11_value_7 rfl g2 ?_
  refine r_if_eq d_X11_value_8 (tgt := 32) (by decide) (fun c3 => ?_) (fun c3 => ?_)
  · replace e := (if_pos c3).symm.trans e
    refine g_ald_n d_X11_value_32 rfl g0 ?_
    refine r_bipush d_X11_value_33 (v := (45 : Int32)) (by decide +kernel) ?_
    replace e := ckd e
    obtain ⟨k5, e⟩ := e
    replace e := bd e
    obtain ⟨q4, eq4, e⟩ := e
    refine g_callV d_X11_value_35 vk_12_202 (as := [_]) rfl k5 rfl (by simp [zrf_cat, cat_int, cat_long]) (j := 2) (by omega) (c_X11_takes (by omega) eq4) ?_
    refine s_istore d_X11_value_38 (by decide) (fun L g4 gK => ?_)
    replace g0 := gK _ _ (by decide) (Or.inr (zrf_cat _)) g0
    replace g1 := gK _ _ (by decide) (Or.inr rfl) g1
    replace g2 := gK _ _ (by decide) (Or.inr rfl) g2
    replace g3 := gK _ _ (by decide) (Or.inr rfl) g3
    refine g_ald_n d_X11_value_40 rfl g0 ?_
    replace e := ckd e
    obtain ⟨k7, e⟩ := e
    replace e := bd e
    obtain ⟨q6, eq6, e⟩ := e
    refine g_callV d_X11_value_41 vk_12_206 (as := []) rfl k7 rfl (by simp [zrf_cat, cat_int, cat_long]) (j := 2) (by omega) (c_X11_isDigit (by omega) eq6) ?_
    refine r_if_ne d_X11_value_44 (tgt := 49) (by decide) (fun c8 => ?_) (fun c8 => ?_)
    · replace e := (if_neg c8).symm.trans e
      refine r_iconst d_X11_value_49 (v := (0 : Int32)) (by decide +kernel) ?_
      refine s_istore d_X11_value_50 (by decide) (fun L g5 gK => ?_)
      replace g0 := gK _ _ (by decide) (Or.inr (zrf_cat _)) g0
      replace g1 := gK _ _ (by decide) (Or.inr rfl) g1
      replace g2 := gK _ _ (by decide) (Or.inr rfl) g2
      replace g3 := gK _ _ (by decide) (Or.inr rfl) g3
      replace g4 := gK _ _ (by decide) (Or.inr rfl) g4
      exact f_X11_value_52_ok hj _ _ _ _ _ _ _ _ _ _ g0 g1 g2 g3 g4 g5 e
    · replace e := (if_pos c8).symm.trans e
      refine r_iconst d_X11_value_47 (v := (0 : Int32)) (by decide +kernel) ?_
      cases e
      exact g_iret d_X11_value_48 rfl rfl
  · replace e := (if_neg c3).symm.trans e
    refine g_ald_n d_X11_value_11 rfl g0 ?_
    replace e := ckd e
    obtain ⟨k10, e⟩ := e
    replace e := bd e
    obtain ⟨q9, eq9, e⟩ := e
    refine g_callV d_X11_value_12 vk_12_194 (as := []) rfl k10 rfl (by simp [zrf_cat, cat_int, cat_long]) (j := 1) (by omega) (c_X11_see (by omega) eq9) ?_
    refine r_bipush d_X11_value_15 (v := (97 : Int32)) (by decide +kernel) ?_
    refine r_isub d_X11_value_17 ?_
    replace e := bhd e
    obtain ⟨_, rfl, e⟩ := e
    refine s_istore_n d_X11_value_18 rfl (by decide) (fun L g3 gK => ?_)
    replace g0 := gK _ _ (by decide) (Or.inr (zrf_cat _)) g0
    replace g1 := gK _ _ (by decide) (Or.inr rfl) g1
    replace g2 := gK _ _ (by decide) (Or.inr rfl) g2
    refine g_ald_n d_X11_value_19 rfl g0 ?_
    refine r_dup d_X11_value_20 (zrf_cat _) ?_
    replace e := ckd e
    obtain ⟨k12, e⟩ := e
    refine g_getI d_X11_value_21 (f := 1223) k12 fk_12_191 rfl rfl ?_
    refine r_iconst d_X11_value_24 (v := (1 : Int32)) (by decide +kernel) ?_
    refine r_iadd d_X11_value_25 ?_
    refine g_putI d_X11_value_26 (f := 1223) k12 fk_12_191 rfl (Or.inl rfl) ⟨rfl, rfl⟩ ?_
    replace e := bhd e
    obtain ⟨_, rfl, e⟩ := e
    refine r_goto d_X11_value_29 (tgt := 106) (by decide) ?_
    exact f_X11_value_106_ok hj _ _ _ _ _ _ _ g0 g1 g2 g3 e

theorem c_X11_value {G : Gd} {j : Nat} (hj : 3 ≤ j) {l0 : Nat} {l1 : Int32} {h : Hp} {o : (Int32 × Hp)} (e : f_X11_value l0 l1 h = some o) : Cal G j Y_X11_value [zrf (l0), .int (l1)] h (some (.int o.1)) o.2 := Cal.of (n := 0) (I := false) (by decide +kernel) (by decide) (by simp [lg_sl, zrf_cat, cat_int, cat_long]) (f_X11_value_ok hj _ _ _ h o (by simp [lv_args, zlk, zrf_cat, cat_int, cat_long]) (by simp [lv_args, zlk, zrf_cat, cat_int, cat_long]) e)
theorem vk_12_212 : Vk "TaskWeaveModel" 212 1 12 Y_X11_value := ⟨yk_X11_value, by decide +kernel, by decide +kernel, by decide +kernel, by decide⟩
def f_X11_bracketed (l0 : Nat) (h : Hp) : Option (Int32 × Hp) := ck (isO (h) (l0) 12) ((f_X11_takes (l0) ((40 : Int32)) (h)).bind (fun q1 => if (q1.1) = (0) then (some ((0 : Int32), q1.2)) else (ck (isO (q1.2) (l0) 12) ((f_X11_value (l0) ((0 : Int32)) (q1.2)).bind (fun q4 => if (q4.1) = (0) then (some ((0 : Int32), q4.2)) else (ck (isO (q4.2) (l0) 12) ((f_X11_takes (l0) ((41 : Int32)) (q4.2)).bind (fun q7 => if (q7.1) = (0) then (some ((0 : Int32), q7.2)) else (some ((1 : Int32), q7.2))))))))))
theorem f_X11_bracketed_ok {G : Gd} {d : Nat} (hj : 4 ≤ d) : ∀ (l0 : Nat) (L : List (Nat × Value)) (h : Hp) (o : (Int32 × Hp)), zlk L 0 = some (zrf (l0)) → f_X11_bracketed l0 h = some o → Ev G M_X11_bracketed d 0 L [] h (Ret Y_X11_bracketed (some (.int o.1)) o.2) := by
  intro l0 L h o g0 e
  unfold f_X11_bracketed at e
  refine g_ald_n d_X11_bracketed_0 rfl g0 ?_
  refine r_bipush d_X11_bracketed_1 (v := (40 : Int32)) (by decide +kernel) ?_
  replace e := ckd e
  obtain ⟨k2, e⟩ := e
  replace e := bd e
  obtain ⟨q1, eq1, e⟩ := e
  refine g_callV d_X11_bracketed_3 vk_12_202 (as := [_]) rfl k2 rfl (by simp [zrf_cat, cat_int, cat_long]) (j := 2) (by omega) (c_X11_takes (by omega) eq1) ?_
  refine r_if_eq d_X11_bracketed_6 (tgt := 30) (by decide) (fun c3 => ?_) (fun c3 => ?_)
  · replace e := (if_pos c3).symm.trans e
    refine r_iconst d_X11_bracketed_30 (v := (0 : Int32)) (by decide +kernel) ?_
    cases e
    exact g_iret d_X11_bracketed_31 rfl rfl
  · replace e := (if_neg c3).symm.trans e
    refine g_ald_n d_X11_bracketed_9 rfl g0 ?_
    refine r_iconst d_X11_bracketed_10 (v := (0 : Int32)) (by decide +kernel) ?_
    replace e := ckd e
    obtain ⟨k5, e⟩ := e
    replace e := bd e
    obtain ⟨q4, eq4, e⟩ := e
    refine g_callV d_X11_bracketed_11 vk_12_212 (as := [_]) rfl k5 rfl (by simp [zrf_cat, cat_int, cat_long]) (j := 3) (by omega) (c_X11_value (by omega) eq4) ?_
    refine r_if_eq d_X11_bracketed_14 (tgt := 30) (by decide) (fun c6 => ?_) (fun c6 => ?_)
    · replace e := (if_pos c6).symm.trans e
      refine r_iconst d_X11_bracketed_30 (v := (0 : Int32)) (by decide +kernel) ?_
      cases e
      exact g_iret d_X11_bracketed_31 rfl rfl
    · replace e := (if_neg c6).symm.trans e
      refine g_ald_n d_X11_bracketed_17 rfl g0 ?_
      refine r_bipush d_X11_bracketed_18 (v := (41 : Int32)) (by decide +kernel) ?_
      replace e := ckd e
      obtain ⟨k8, e⟩ := e
      replace e := bd e
      obtain ⟨q7, eq7, e⟩ := e
      refine g_callV d_X11_bracketed_20 vk_12_202 (as := [_]) rfl k8 rfl (by simp [zrf_cat, cat_int, cat_long]) (j := 2) (by omega) (c_X11_takes (by omega) eq7) ?_
      refine r_if_eq d_X11_bracketed_23 (tgt := 30) (by decide) (fun c9 => ?_) (fun c9 => ?_)
      · replace e := (if_pos c9).symm.trans e
        refine r_iconst d_X11_bracketed_30 (v := (0 : Int32)) (by decide +kernel) ?_
        cases e
        exact g_iret d_X11_bracketed_31 rfl rfl
      · replace e := (if_neg c9).symm.trans e
        refine r_iconst d_X11_bracketed_26 (v := (1 : Int32)) (by decide +kernel) ?_
        refine r_goto d_X11_bracketed_27 (tgt := 31) (by decide) ?_
        cases e
        exact g_iret d_X11_bracketed_31 rfl rfl

theorem c_X11_bracketed {G : Gd} {j : Nat} (hj : 4 ≤ j) {l0 : Nat} {h : Hp} {o : (Int32 × Hp)} (e : f_X11_bracketed l0 h = some o) : Cal G j Y_X11_bracketed [zrf (l0)] h (some (.int o.1)) o.2 := Cal.of (n := 0) (I := false) (by decide +kernel) (by decide) (by simp [lg_sl, zrf_cat, cat_int, cat_long]) (f_X11_bracketed_ok hj _ _ h o (by simp [lv_args, zlk, zrf_cat, cat_int, cat_long]) e)
def f_X11_ends (l0 : Nat) (l1 : Int32) (h : Hp) : Option (Int32 × Hp) := ck (isO (h) (l0) 12) (ck (isO (h) (zR (h) 1214 (l0)) 22) (ck (inR (zI (h) 1213 (l0)) (zL (h) (zR (h) 1214 (l0)))) (bh (pE (h) (zR (h) 1214 (l0)) (zI (h) 1213 (l0)).toNatClampNeg (l1)) (fun h4 => (f_X11_takes (l0) ((59 : Int32)) (h4)).bind (fun q5 => ck (isB (q5.1)) (some (q5.1, q5.2)))))))
theorem f_X11_ends_ok {G : Gd} {d : Nat} (hj : 3 ≤ d) : ∀ (l0 : Nat) (l1 : Int32) (L : List (Nat × Value)) (h : Hp) (o : (Int32 × Hp)), zlk L 0 = some (zrf (l0)) → zlk L 1 = some (.int (l1)) → f_X11_ends l0 l1 h = some o → Ev G M_X11_ends d 0 L [] h (Ret Y_X11_ends (some (.int o.1)) o.2) := by
  intro l0 l1 L h o g0 g1 e
  unfold f_X11_ends at e
  refine g_ald_n d_X11_ends_0 rfl g0 ?_
  replace e := ckd e
  obtain ⟨k1, e⟩ := e
  refine g_getR d_X11_ends_1 (f := 1214) k1 fk_12_35 rfl rfl ?_
  refine g_ald_n d_X11_ends_4 rfl g0 ?_
  refine g_getI d_X11_ends_5 (f := 1213) k1 fk_12_209 rfl rfl ?_
  refine r_iload_n d_X11_ends_8 rfl g1 ?_
  replace e := ckd e
  obtain ⟨k2, e⟩ := e
  replace e := ckd e
  obtain ⟨k3, e⟩ := e
  refine g_iast d_X11_ends_9 k2 k3 ?_
  replace e := bhd e
  obtain ⟨_, rfl, e⟩ := e
  refine g_ald_n d_X11_ends_10 rfl g0 ?_
  refine r_bipush d_X11_ends_11 (v := (59 : Int32)) (by decide +kernel) ?_
  replace e := bd e
  obtain ⟨q5, eq5, e⟩ := e
  refine g_callV d_X11_ends_13 vk_12_202 (as := [_]) rfl (tO_pE k1) rfl (by simp [zrf_cat, cat_int, cat_long]) (j := 2) (by omega) (c_X11_takes (by omega) eq5) ?_
  replace e := ckd e
  obtain ⟨k6, e⟩ := e
  cases e
  exact g_iret d_X11_ends_16 rfl k6

theorem c_X11_ends {G : Gd} {j : Nat} (hj : 3 ≤ j) {l0 : Nat} {l1 : Int32} {h : Hp} {o : (Int32 × Hp)} (e : f_X11_ends l0 l1 h = some o) : Cal G j Y_X11_ends [zrf (l0), .int (l1)] h (some (.int o.1)) o.2 := Cal.of (n := 0) (I := false) (by decide +kernel) (by decide) (by simp [lg_sl, zrf_cat, cat_int, cat_long]) (f_X11_ends_ok hj _ _ _ h o (by simp [lv_args, zlk, zrf_cat, cat_int, cat_long]) (by simp [lv_args, zlk, zrf_cat, cat_int, cat_long]) e)
def f_X11_number (l0 : Nat) (l1 : Int32) (h : Hp) : Option (Int32 × Hp) := ck (isO (h) (l0) 12) (ck (isO (h) (zR (h) 1221 (l0)) 22) (ck (inR (zI (h) 1213 (l0)) (zL (h) (zR (h) 1221 (l0)))) (bh (pE (h) (zR (h) 1221 (l0)) (zI (h) 1213 (l0)).toNatClampNeg (zI (h) 1223 (l0))) (fun h4 => (f_X11_isDigit (l0) (h4)).bind (fun q5 => if (q5.1) = (0) then (some ((0 : Int32), q5.2)) else (ck (isO (q5.2) (l0) 12) ((f_X11_see (l0) (q5.2)).bind (fun q7 => if ((q7.1) - ((48 : Int32))) < (l1) then (ck (isO (q7.2) (l0) 12) ((f_X11_see (l0) (q7.2)).bind (fun q11 => ck (isO (q11.2) (zR (q7.2) 1220 (l0)) 22) (ck (inR (zI (q7.2) 1213 (l0)) (zL (q11.2) (zR (q7.2) 1220 (l0)))) (bh (pE (q11.2) (zR (q7.2) 1220 (l0)) (zI (q7.2) 1213 (l0)).toNatClampNeg ((q11.1) - ((48 : Int32)))) (fun h14 => ck (isO (h14) (l0) 12) (bh (pI (h14) 1223 (l0) ((zI (h14) 1223 (l0)) + ((1 : Int32)))) (fun h16 => some ((1 : Int32), h16))))))))) else (some ((0 : Int32), q7.2))))))))))
theorem f_X11_number_ok {G : Gd} {d : Nat} (hj : 3 ≤ d) : ∀ (l0 : Nat) (l1 : Int32) (L : List (Nat × Value)) (h : Hp) (o : (Int32 × Hp)), zlk L 0 = some (zrf (l0)) → zlk L 1 = some (.int (l1)) → f_X11_number l0 l1 h = some o → Ev G M_X11_number d 0 L [] h (Ret Y_X11_number (some (.int o.1)) o.2) := by
  intro l0 l1 L h o g0 g1 e
  unfold f_X11_number at e
  refine g_ald_n d_X11_number_0 rfl g0 ?_
  replace e := ckd e
  obtain ⟨k1, e⟩ := e
  refine g_getR d_X11_number_1 (f := 1221) k1 fk_12_57 rfl rfl ?_
  refine g_ald_n d_X11_number_4 rfl g0 ?_
  refine g_getI d_X11_number_5 (f := 1213) k1 fk_12_209 rfl rfl ?_
  refine g_ald_n d_X11_number_8 rfl g0 ?_
  refine g_getI d_X11_number_9 (f := 1223) k1 fk_12_191 rfl rfl ?_
  replace e := ckd e
  obtain ⟨k2, e⟩ := e
  replace e := ckd e
  obtain ⟨k3, e⟩ := e
  refine g_iast d_X11_number_12 k2 k3 ?_
  replace e := bhd e
  obtain ⟨_, rfl, e⟩ := e
  refine g_ald_n d_X11_number_13 rfl g0 ?_
  replace e := bd e
  obtain ⟨q5, eq5, e⟩ := e
  refine g_callV d_X11_number_14 vk_12_206 (as := []) rfl (tO_pE k1) rfl (by simp [zrf_cat, cat_int, cat_long]) (j := 2) (by omega) (c_X11_isDigit (by omega) eq5) ?_
  refine r_if_eq d_X11_number_17 (tgt := 31) (by decide) (fun c6 => ?_) (fun c6 => ?_)
  · replace e := (if_pos c6).symm.trans e
    refine r_iconst d_X11_number_31 (v := (0 : Int32)) (by decide +kernel) ?_
    cases e
    exact g_iret d_X11_number_32 rfl rfl
  · replace e := (if_neg c6).symm.trans e
    refine g_ald_n d_X11_number_20 rfl g0 ?_
    replace e := ckd e
    obtain ⟨k8, e⟩ := e
    replace e := bd e
    obtain ⟨q7, eq7, e⟩ := e
    refine g_callV d_X11_number_21 vk_12_194 (as := []) rfl k8 rfl (by simp [zrf_cat, cat_int, cat_long]) (j := 1) (by omega) (c_X11_see (by omega) eq7) ?_
    refine r_bipush d_X11_number_24 (v := (48 : Int32)) (by decide +kernel) ?_
    refine r_isub d_X11_number_26 ?_
    refine r_iload_n d_X11_number_27 rfl g1 ?_
    refine r_icmp_lt d_X11_number_28 (tgt := 33) (by decide) (fun c9 => ?_) (fun c9 => ?_)
    · replace e := (if_pos c9).symm.trans e
      refine g_ald_n d_X11_number_33 rfl g0 ?_
      replace e := ckd e
      obtain ⟨k10, e⟩ := e
      refine g_getR d_X11_number_34 (f := 1220) k10 fk_12_54 rfl rfl ?_
      refine g_ald_n d_X11_number_37 rfl g0 ?_
      refine g_getI d_X11_number_38 (f := 1213) k10 fk_12_209 rfl rfl ?_
      refine g_ald_n d_X11_number_41 rfl g0 ?_
      replace e := bd e
      obtain ⟨q11, eq11, e⟩ := e
      refine g_callV d_X11_number_42 vk_12_194 (as := []) rfl k10 rfl (by simp [zrf_cat, cat_int, cat_long]) (j := 1) (by omega) (c_X11_see (by omega) eq11) ?_
      refine r_bipush d_X11_number_45 (v := (48 : Int32)) (by decide +kernel) ?_
      refine r_isub d_X11_number_47 ?_
      replace e := ckd e
      obtain ⟨k12, e⟩ := e
      replace e := ckd e
      obtain ⟨k13, e⟩ := e
      refine g_iast d_X11_number_48 k12 k13 ?_
      replace e := bhd e
      obtain ⟨_, rfl, e⟩ := e
      refine g_ald_n d_X11_number_49 rfl g0 ?_
      refine r_dup d_X11_number_50 (zrf_cat _) ?_
      replace e := ckd e
      obtain ⟨k15, e⟩ := e
      refine g_getI d_X11_number_51 (f := 1223) k15 fk_12_191 rfl rfl ?_
      refine r_iconst d_X11_number_54 (v := (1 : Int32)) (by decide +kernel) ?_
      refine r_iadd d_X11_number_55 ?_
      refine g_putI d_X11_number_56 (f := 1223) k15 fk_12_191 rfl (Or.inl rfl) ⟨rfl, rfl⟩ ?_
      replace e := bhd e
      obtain ⟨_, rfl, e⟩ := e
      refine r_iconst d_X11_number_59 (v := (1 : Int32)) (by decide +kernel) ?_
      cases e
      exact g_iret d_X11_number_60 rfl rfl
    · replace e := (if_neg c9).symm.trans e
      refine r_iconst d_X11_number_31 (v := (0 : Int32)) (by decide +kernel) ?_
      cases e
      exact g_iret d_X11_number_32 rfl rfl

theorem c_X11_number {G : Gd} {j : Nat} (hj : 3 ≤ j) {l0 : Nat} {l1 : Int32} {h : Hp} {o : (Int32 × Hp)} (e : f_X11_number l0 l1 h = some o) : Cal G j Y_X11_number [zrf (l0), .int (l1)] h (some (.int o.1)) o.2 := Cal.of (n := 0) (I := false) (by decide +kernel) (by decide) (by simp [lg_sl, zrf_cat, cat_int, cat_long]) (f_X11_number_ok hj _ _ _ h o (by simp [lv_args, zlk, zrf_cat, cat_int, cat_long]) (by simp [lv_args, zlk, zrf_cat, cat_int, cat_long]) e)
theorem vk_12_218 : Vk "TaskWeaveModel" 218 0 12 Y_X11_bracketed := ⟨yk_X11_bracketed, by decide +kernel, by decide +kernel, by decide +kernel, by decide⟩
theorem vk_12_221 : Vk "TaskWeaveModel" 221 1 12 Y_X11_ends := ⟨yk_X11_ends, by decide +kernel, by decide +kernel, by decide +kernel, by decide⟩
theorem vk_12_215 : Vk "TaskWeaveModel" 215 1 12 Y_X11_number := ⟨yk_X11_number, by decide +kernel, by decide +kernel, by decide +kernel, by decide⟩
def f_X11_set_240 (s0 : Int32) (l0 : Nat) (h : Hp) : Option (Int32 × Hp) := if (s0) = (0) then (ck (isO (h) (l0) 12) ((f_X11_ends (l0) (s0) (h)).bind (fun q68 => if (q68.1) = (0) then (some ((0 : Int32), q68.2)) else (some ((1 : Int32), q68.2))))) else (ck (isO (h) (l0) 12) ((f_X11_value (l0) ((1 : Int32)) (h)).bind (fun q71 => if (q71.1) = (0) then (some ((0 : Int32), q71.2)) else (ck (isO (q71.2) (l0) 12) ((f_X11_ends (l0) (s0) (q71.2)).bind (fun q74 => if (q74.1) = (0) then (some ((0 : Int32), q74.2)) else (some ((1 : Int32), q74.2))))))))
theorem f_X11_set_240_ok {G : Gd} {d : Nat} (hj : 5 ≤ d) : ∀ (s0 : Int32) (l0 : Nat) (L : List (Nat × Value)) (h : Hp) (o : (Int32 × Hp)), zlk L 0 = some (zrf (l0)) → f_X11_set_240 s0 l0 h = some o → Ev G M_X11_set d 240 L [.int (s0)] h (Ret Y_X11_set (some (.int o.1)) o.2) := by
  intro s0 l0 L h o g0 e
  unfold f_X11_set_240 at e
  refine s_istore_n d_X11_set_240 rfl (by decide) (fun L g1 gK => ?_)
  replace g0 := gK _ _ (by decide) (Or.inr (zrf_cat _)) g0
  refine r_iload_n d_X11_set_241 rfl g1 ?_
  refine r_if_eq d_X11_set_242 (tgt := 253) (by decide) (fun c67 => ?_) (fun c67 => ?_)
  · replace e := (if_pos c67).symm.trans e
    refine g_ald_n d_X11_set_253 rfl g0 ?_
    refine r_iload_n d_X11_set_254 rfl g1 ?_
    replace e := ckd e
    obtain ⟨k69, e⟩ := e
    replace e := bd e
    obtain ⟨q68, eq68, e⟩ := e
    refine g_callV d_X11_set_255 vk_12_221 (as := [_]) rfl k69 rfl (by simp [zrf_cat, cat_int, cat_long]) (j := 3) (by omega) (c_X11_ends (by omega) eq68) ?_
    refine r_if_eq d_X11_set_258 (tgt := 265) (by decide) (fun c70 => ?_) (fun c70 => ?_)
    · replace e := (if_pos c70).symm.trans e
      refine r_iconst d_X11_set_265 (v := (0 : Int32)) (by decide +kernel) ?_
      cases e
      exact g_iret d_X11_set_266 rfl rfl
    · replace e := (if_neg c70).symm.trans e
      refine r_iconst d_X11_set_261 (v := (1 : Int32)) (by decide +kernel) ?_
      refine r_goto d_X11_set_262 (tgt := 266) (by decide) ?_
      cases e
      exact g_iret d_X11_set_266 rfl rfl
  · replace e := (if_neg c67).symm.trans e
    refine g_ald_n d_X11_set_245 rfl g0 ?_
    refine r_iconst d_X11_set_246 (v := (1 : Int32)) (by decide +kernel) ?_
    replace e := ckd e
    obtain ⟨k72, e⟩ := e
    replace e := bd e
    obtain ⟨q71, eq71, e⟩ := e
    refine g_callV d_X11_set_247 vk_12_212 (as := [_]) rfl k72 rfl (by simp [zrf_cat, cat_int, cat_long]) (j := 3) (by omega) (c_X11_value (by omega) eq71) ?_
    refine r_if_eq d_X11_set_250 (tgt := 265) (by decide) (fun c73 => ?_) (fun c73 => ?_)
    · replace e := (if_pos c73).symm.trans e
      refine r_iconst d_X11_set_265 (v := (0 : Int32)) (by decide +kernel) ?_
      cases e
      exact g_iret d_X11_set_266 rfl rfl
    · replace e := (if_neg c73).symm.trans e
      refine g_ald_n d_X11_set_253 rfl g0 ?_
      refine r_iload_n d_X11_set_254 rfl g1 ?_
      replace e := ckd e
      obtain ⟨k75, e⟩ := e
      replace e := bd e
      obtain ⟨q74, eq74, e⟩ := e
      refine g_callV d_X11_set_255 vk_12_221 (as := [_]) rfl k75 rfl (by simp [zrf_cat, cat_int, cat_long]) (j := 3) (by omega) (c_X11_ends (by omega) eq74) ?_
      refine r_if_eq d_X11_set_258 (tgt := 265) (by decide) (fun c76 => ?_) (fun c76 => ?_)
      · replace e := (if_pos c76).symm.trans e
        refine r_iconst d_X11_set_265 (v := (0 : Int32)) (by decide +kernel) ?_
        cases e
        exact g_iret d_X11_set_266 rfl rfl
      · replace e := (if_neg c76).symm.trans e
        refine r_iconst d_X11_set_261 (v := (1 : Int32)) (by decide +kernel) ?_
        refine r_goto d_X11_set_262 (tgt := 266) (by decide) ?_
        cases e
        exact g_iret d_X11_set_266 rfl rfl

def f_X11_set (l0 : Nat) (h : Hp) : Option (Int32 × Hp) := ck (isO (h) (l0) 12) ((f_X11_see (l0) (h)).bind (fun q2 => ck (isO (q2.2) (zR (h) 1215 (l0)) 22) (ck (inR (zI (h) 1213 (l0)) (zL (q2.2) (zR (h) 1215 (l0)))) (bh (pE (q2.2) (zR (h) 1215 (l0)) (zI (h) 1213 (l0)).toNatClampNeg ((q2.1) - ((97 : Int32)))) (fun h5 => ck (isO (h5) (l0) 12) (bh (pI (h5) 1223 (l0) ((zI (h5) 1223 (l0)) + ((1 : Int32)))) (fun h7 => (f_X11_takes (l0) ((61 : Int32)) (h7)).bind (fun q8 => if (q8.1) = (0) then (some ((0 : Int32), q8.2)) else (ck (isO (q8.2) (l0) 12) ((f_X11_takes (l0) ((65 : Int32)) (q8.2)).bind (fun q10 => if (q10.1) = (0) then (ck (isO (q10.2) (l0) 12) ((f_X11_takes (l0) ((87 : Int32)) (q10.2)).bind (fun q13 => if (q13.1) = (0) then (ck (isO (q13.2) (l0) 12) ((f_X11_takes (l0) ((67 : Int32)) (q13.2)).bind (fun q16 => if (q16.1) = (0) then (ck (isO (q16.2) (l0) 12) ((f_X11_takes (l0) ((74 : Int32)) (q16.2)).bind (fun q19 => if (q19.1) = (0) then (ck (isO (q19.2) (l0) 12) ((f_X11_value (l0) ((0 : Int32)) (q19.2)).bind (fun q22 => if (q22.1) = (0) then (some ((0 : Int32), q22.2)) else (ck (isO (q22.2) (l0) 12) ((f_X11_takes (l0) ((43 : Int32)) (q22.2)).bind (fun q25 => if (q25.1) = (0) then (ck (isO (q25.2) (l0) 12) ((f_X11_takes (l0) ((45 : Int32)) (q25.2)).bind (fun q28 => if (q28.1) = (0) then (ck (isO (q28.2) (l0) 12) ((f_X11_takes (l0) ((42 : Int32)) (q28.2)).bind (fun q31 => if (q31.1) = (0) then (ck (isO (q31.2) (l0) 12) ((f_X11_takes (l0) ((60 : Int32)) (q31.2)).bind (fun q34 => if (q34.1) = (0) then (ck (isO (q34.2) (l0) 12) ((f_X11_takes (l0) ((61 : Int32)) (q34.2)).bind (fun q37 => if (q37.1) = (0) then (f_X11_set_240 ((0 : Int32)) (l0) (q37.2)) else (f_X11_set_240 ((5 : Int32)) (l0) (q37.2))))) else (f_X11_set_240 ((4 : Int32)) (l0) (q34.2))))) else (f_X11_set_240 ((3 : Int32)) (l0) (q31.2))))) else (f_X11_set_240 ((2 : Int32)) (l0) (q28.2))))) else (f_X11_set_240 ((1 : Int32)) (l0) (q25.2)))))))) else (ck (isO (q19.2) (l0) 12) ((f_X11_bracketed (l0) (q19.2)).bind (fun q40 => if (q40.1) = (0) then (some ((0 : Int32), q40.2)) else (ck (isO (q40.2) (l0) 12) ((f_X11_ends (l0) ((9 : Int32)) (q40.2)).bind (fun q43 => if (q43.1) = (0) then (some ((0 : Int32), q43.2)) else (some ((1 : Int32), q43.2))))))))))) else (ck (isO (q16.2) (l0) 12) ((f_X11_number (l0) ((8 : Int32)) (q16.2)).bind (fun q46 => if (q46.1) = (0) then (some ((0 : Int32), q46.2)) else (ck (isO (q46.2) (l0) 12) ((f_X11_bracketed (l0) (q46.2)).bind (fun q49 => if (q49.1) = (0) then (some ((0 : Int32), q49.2)) else (ck (isO (q49.2) (l0) 12) ((f_X11_ends (l0) ((8 : Int32)) (q49.2)).bind (fun q52 => if (q52.1) = (0) then (some ((0 : Int32), q52.2)) else (some ((1 : Int32), q52.2)))))))))))))) else (ck (isO (q13.2) (l0) 12) ((f_X11_ends (l0) ((7 : Int32)) (q13.2)).bind (fun q55 => ck (isB (q55.1)) (some (q55.1, q55.2)))))))) else (ck (isO (q10.2) (l0) 12) ((f_X11_number (l0) ((10 : Int32)) (q10.2)).bind (fun q58 => if (q58.1) = (0) then (some ((0 : Int32), q58.2)) else (ck (isO (q58.2) (l0) 12) ((f_X11_bracketed (l0) (q58.2)).bind (fun q61 => if (q61.1) = (0) then (some ((0 : Int32), q61.2)) else (ck (isO (q61.2) (l0) 12) ((f_X11_ends (l0) ((6 : Int32)) (q61.2)).bind (fun q64 => if (q64.1) = (0) then (some ((0 : Int32), q64.2)) else (some ((1 : Int32), q64.2))))))))))))))))))))))
theorem f_X11_set_ok {G : Gd} {d : Nat} (hj : 5 ≤ d) : ∀ (l0 : Nat) (L : List (Nat × Value)) (h : Hp) (o : (Int32 × Hp)), zlk L 0 = some (zrf (l0)) → f_X11_set l0 h = some o → Ev G M_X11_set d 0 L [] h (Ret Y_X11_set (some (.int o.1)) o.2) := by
  intro l0 L h o g0 e
  unfold f_X11_set at e
  refine g_ald_n d_X11_set_0 rfl g0 ?_
  replace e := ckd e
  obtain ⟨k1, e⟩ := e
  refine g_getR d_X11_set_1 (f := 1215) k1 fk_12_38 rfl rfl ?_
  refine g_ald_n d_X11_set_4 rfl g0 ?_
  refine g_getI d_X11_set_5 (f := 1213) k1 fk_12_209 rfl rfl ?_
  refine g_ald_n d_X11_set_8 rfl g0 ?_
  replace e := bd e
  obtain ⟨q2, eq2, e⟩ := e
  refine g_callV d_X11_set_9 vk_12_194 (as := []) rfl k1 rfl (by simp [zrf_cat, cat_int, cat_long]) (j := 1) (by omega) (c_X11_see (by omega) eq2) ?_
  refine r_bipush d_X11_set_12 (v := (97 : Int32)) (by decide +kernel) ?_
  refine r_isub d_X11_set_14 ?_
  replace e := ckd e
  obtain ⟨k3, e⟩ := e
  replace e := ckd e
  obtain ⟨k4, e⟩ := e
  refine g_iast d_X11_set_15 k3 k4 ?_
  replace e := bhd e
  obtain ⟨_, rfl, e⟩ := e
  refine g_ald_n d_X11_set_16 rfl g0 ?_
  refine r_dup d_X11_set_17 (zrf_cat _) ?_
  replace e := ckd e
  obtain ⟨k6, e⟩ := e
  refine g_getI d_X11_set_18 (f := 1223) k6 fk_12_191 rfl rfl ?_
  refine r_iconst d_X11_set_21 (v := (1 : Int32)) (by decide +kernel) ?_
  refine r_iadd d_X11_set_22 ?_
  refine g_putI d_X11_set_23 (f := 1223) k6 fk_12_191 rfl (Or.inl rfl) ⟨rfl, rfl⟩ ?_
  replace e := bhd e
  obtain ⟨_, rfl, e⟩ := e
  refine g_ald_n d_X11_set_26 rfl g0 ?_
  refine r_bipush d_X11_set_27 (v := (61 : Int32)) (by decide +kernel) ?_
  replace e := bd e
  obtain ⟨q8, eq8, e⟩ := e
  refine g_callV d_X11_set_29 vk_12_202 (as := [_]) rfl (tO_pI k6) rfl (by simp [zrf_cat, cat_int, cat_long]) (j := 2) (by omega) (c_X11_takes (by omega) eq8) ?_
  refine r_if_ne d_X11_set_32 (tgt := 37) (by decide) (fun c9 => ?_) (fun c9 => ?_)
  · replace e := (if_neg c9).symm.trans e
    refine g_ald_n d_X11_set_37 rfl g0 ?_
    refine r_bipush d_X11_set_38 (v := (65 : Int32)) (by decide +kernel) ?_
    replace e := ckd e
    obtain ⟨k11, e⟩ := e
    replace e := bd e
    obtain ⟨q10, eq10, e⟩ := e
    refine g_callV d_X11_set_40 vk_12_202 (as := [_]) rfl k11 rfl (by simp [zrf_cat, cat_int, cat_long]) (j := 2) (by omega) (c_X11_takes (by omega) eq10) ?_
    refine r_if_eq d_X11_set_43 (tgt := 77) (by decide) (fun c12 => ?_) (fun c12 => ?_)
    · replace e := (if_pos c12).symm.trans e
      refine g_ald_n d_X11_set_77 rfl g0 ?_
      refine r_bipush d_X11_set_78 (v := (87 : Int32)) (by decide +kernel) ?_
      replace e := ckd e
      obtain ⟨k14, e⟩ := e
      replace e := bd e
      obtain ⟨q13, eq13, e⟩ := e
      refine g_callV d_X11_set_80 vk_12_202 (as := [_]) rfl k14 rfl (by simp [zrf_cat, cat_int, cat_long]) (j := 2) (by omega) (c_X11_takes (by omega) eq13) ?_
      refine r_if_eq d_X11_set_83 (tgt := 93) (by decide) (fun c15 => ?_) (fun c15 => ?_)
      · replace e := (if_pos c15).symm.trans e
        refine g_ald_n d_X11_set_93 rfl g0 ?_
        refine r_bipush d_X11_set_94 (v := (67 : Int32)) (by decide +kernel) ?_
        replace e := ckd e
        obtain ⟨k17, e⟩ := e
        replace e := bd e
        obtain ⟨q16, eq16, e⟩ := e
        refine g_callV d_X11_set_96 vk_12_202 (as := [_]) rfl k17 rfl (by simp [zrf_cat, cat_int, cat_long]) (j := 2) (by omega) (c_X11_takes (by omega) eq16) ?_
        refine r_if_eq d_X11_set_99 (tgt := 133) (by decide) (fun c18 => ?_) (fun c18 => ?_)
        · replace e := (if_pos c18).symm.trans e
          refine g_ald_n d_X11_set_133 rfl g0 ?_
          refine r_bipush d_X11_set_134 (v := (74 : Int32)) (by decide +kernel) ?_
          replace e := ckd e
          obtain ⟨k20, e⟩ := e
          replace e := bd e
          obtain ⟨q19, eq19, e⟩ := e
          refine g_callV d_X11_set_136 vk_12_202 (as := [_]) rfl k20 rfl (by simp [zrf_cat, cat_int, cat_long]) (j := 2) (by omega) (c_X11_takes (by omega) eq19) ?_
          refine r_if_eq d_X11_set_139 (tgt := 164) (by decide) (fun c21 => ?_) (fun c21 => ?_)
          · replace e := (if_pos c21).symm.trans e
            refine g_ald_n d_X11_set_164 rfl g0 ?_
            refine r_iconst d_X11_set_165 (v := (0 : Int32)) (by decide +kernel) ?_
            replace e := ckd e
            obtain ⟨k23, e⟩ := e
            replace e := bd e
            obtain ⟨q22, eq22, e⟩ := e
            refine g_callV d_X11_set_166 vk_12_212 (as := [_]) rfl k23 rfl (by simp [zrf_cat, cat_int, cat_long]) (j := 3) (by omega) (c_X11_value (by omega) eq22) ?_
            refine r_if_ne d_X11_set_169 (tgt := 174) (by decide) (fun c24 => ?_) (fun c24 => ?_)
            · replace e := (if_neg c24).symm.trans e
              refine g_ald_n d_X11_set_174 rfl g0 ?_
              refine r_bipush d_X11_set_175 (v := (43 : Int32)) (by decide +kernel) ?_
              replace e := ckd e
              obtain ⟨k26, e⟩ := e
              replace e := bd e
              obtain ⟨q25, eq25, e⟩ := e
              refine g_callV d_X11_set_177 vk_12_202 (as := [_]) rfl k26 rfl (by simp [zrf_cat, cat_int, cat_long]) (j := 2) (by omega) (c_X11_takes (by omega) eq25) ?_
              refine r_if_eq d_X11_set_180 (tgt := 187) (by decide) (fun c27 => ?_) (fun c27 => ?_)
              · replace e := (if_pos c27).symm.trans e
                refine g_ald_n d_X11_set_187 rfl g0 ?_
                refine r_bipush d_X11_set_188 (v := (45 : Int32)) (by decide +kernel) ?_
                replace e := ckd e
                obtain ⟨k29, e⟩ := e
                replace e := bd e
                obtain ⟨q28, eq28, e⟩ := e
                refine g_callV d_X11_set_190 vk_12_202 (as := [_]) rfl k29 rfl (by simp [zrf_cat, cat_int, cat_long]) (j := 2) (by omega) (c_X11_takes (by omega) eq28) ?_
                refine r_if_eq d_X11_set_193 (tgt := 200) (by decide) (fun c30 => ?_) (fun c30 => ?_)
                · replace e := (if_pos c30).symm.trans e
                  refine g_ald_n d_X11_set_200 rfl g0 ?_
                  refine r_bipush d_X11_set_201 (v := (42 : Int32)) (by decide +kernel) ?_
                  replace e := ckd e
                  obtain ⟨k32, e⟩ := e
                  replace e := bd e
                  obtain ⟨q31, eq31, e⟩ := e
                  refine g_callV d_X11_set_203 vk_12_202 (as := [_]) rfl k32 rfl (by simp [zrf_cat, cat_int, cat_long]) (j := 2) (by omega) (c_X11_takes (by omega) eq31) ?_
                  refine r_if_eq d_X11_set_206 (tgt := 213) (by decide) (fun c33 => ?_) (fun c33 => ?_)
                  · replace e := (if_pos c33).symm.trans e
                    refine g_ald_n d_X11_set_213 rfl g0 ?_
                    refine r_bipush d_X11_set_214 (v := (60 : Int32)) (by decide +kernel) ?_
                    replace e := ckd e
                    obtain ⟨k35, e⟩ := e
                    replace e := bd e
                    obtain ⟨q34, eq34, e⟩ := e
                    refine g_callV d_X11_set_216 vk_12_202 (as := [_]) rfl k35 rfl (by simp [zrf_cat, cat_int, cat_long]) (j := 2) (by omega) (c_X11_takes (by omega) eq34) ?_
                    refine r_if_eq d_X11_set_219 (tgt := 226) (by decide) (fun c36 => ?_) (fun c36 => ?_)
                    · replace e := (if_pos c36).symm.trans e
                      refine g_ald_n d_X11_set_226 rfl g0 ?_
                      refine r_bipush d_X11_set_227 (v := (61 : Int32)) (by decide +kernel) ?_
                      replace e := ckd e
                      obtain ⟨k38, e⟩ := e
                      replace e := bd e
                      obtain ⟨q37, eq37, e⟩ := e
                      refine g_callV d_X11_set_229 vk_12_202 (as := [_]) rfl k38 rfl (by simp [zrf_cat, cat_int, cat_long]) (j := 2) (by omega) (c_X11_takes (by omega) eq37) ?_
                      refine r_if_eq d_X11_set_232 (tgt := 239) (by decide) (fun c39 => ?_) (fun c39 => ?_)
                      · replace e := (if_pos c39).symm.trans e
                        refine r_iconst d_X11_set_239 (v := (0 : Int32)) (by decide +kernel) ?_
                        exact f_X11_set_240_ok hj _ _ _ _ _ g0 e
                      · replace e := (if_neg c39).symm.trans e
                        refine r_iconst d_X11_set_235 (v := (5 : Int32)) (by decide +kernel) ?_
                        refine r_goto d_X11_set_236 (tgt := 240) (by decide) ?_
                        exact f_X11_set_240_ok hj _ _ _ _ _ g0 e
                    · replace e := (if_neg c36).symm.trans e
                      refine r_iconst d_X11_set_222 (v := (4 : Int32)) (by decide +kernel) ?_
                      refine r_goto d_X11_set_223 (tgt := 240) (by decide) ?_
                      exact f_X11_set_240_ok hj _ _ _ _ _ g0 e
                  · replace e := (if_neg c33).symm.trans e
                    refine r_iconst d_X11_set_209 (v := (3 : Int32)) (by decide +kernel) ?_
                    refine r_goto d_X11_set_210 (tgt := 240) (by decide) ?_
                    exact f_X11_set_240_ok hj _ _ _ _ _ g0 e
                · replace e := (if_neg c30).symm.trans e
                  refine r_iconst d_X11_set_196 (v := (2 : Int32)) (by decide +kernel) ?_
                  refine r_goto d_X11_set_197 (tgt := 240) (by decide) ?_
                  exact f_X11_set_240_ok hj _ _ _ _ _ g0 e
              · replace e := (if_neg c27).symm.trans e
                refine r_iconst d_X11_set_183 (v := (1 : Int32)) (by decide +kernel) ?_
                refine r_goto d_X11_set_184 (tgt := 240) (by decide) ?_
                exact f_X11_set_240_ok hj _ _ _ _ _ g0 e
            · replace e := (if_pos c24).symm.trans e
              refine r_iconst d_X11_set_172 (v := (0 : Int32)) (by decide +kernel) ?_
              cases e
              exact g_iret d_X11_set_173 rfl rfl
          · replace e := (if_neg c21).symm.trans e
            refine g_ald_n d_X11_set_142 rfl g0 ?_
            replace e := ckd e
            obtain ⟨k41, e⟩ := e
            replace e := bd e
            obtain ⟨q40, eq40, e⟩ := e
            refine g_callV d_X11_set_143 vk_12_218 (as := []) rfl k41 rfl (by simp [zrf_cat, cat_int, cat_long]) (j := 4) (by omega) (c_X11_bracketed (by omega) eq40) ?_
            refine r_if_eq d_X11_set_146 (tgt := 162) (by decide) (fun c42 => ?_) (fun c42 => ?_)
            · replace e := (if_pos c42).symm.trans e
              refine r_iconst d_X11_set_162 (v := (0 : Int32)) (by decide +kernel) ?_
              cases e
              exact g_iret d_X11_set_163 rfl rfl
            · replace e := (if_neg c42).symm.trans e
              refine g_ald_n d_X11_set_149 rfl g0 ?_
              refine r_bipush d_X11_set_150 (v := (9 : Int32)) (by decide +kernel) ?_
              replace e := ckd e
              obtain ⟨k44, e⟩ := e
              replace e := bd e
              obtain ⟨q43, eq43, e⟩ := e
              refine g_callV d_X11_set_152 vk_12_221 (as := [_]) rfl k44 rfl (by simp [zrf_cat, cat_int, cat_long]) (j := 3) (by omega) (c_X11_ends (by omega) eq43) ?_
              refine r_if_eq d_X11_set_155 (tgt := 162) (by decide) (fun c45 => ?_) (fun c45 => ?_)
              · replace e := (if_pos c45).symm.trans e
                refine r_iconst d_X11_set_162 (v := (0 : Int32)) (by decide +kernel) ?_
                cases e
                exact g_iret d_X11_set_163 rfl rfl
              · replace e := (if_neg c45).symm.trans e
                refine r_iconst d_X11_set_158 (v := (1 : Int32)) (by decide +kernel) ?_
                refine r_goto d_X11_set_159 (tgt := 163) (by decide) ?_
                cases e
                exact g_iret d_X11_set_163 rfl rfl
        · replace e := (if_neg c18).symm.trans e
          refine g_ald_n d_X11_set_102 rfl g0 ?_
          refine r_bipush d_X11_set_103 (v := (8 : Int32)) (by decide +kernel) ?_
          replace e := ckd e
          obtain ⟨k47, e⟩ := e
          replace e := bd e
          obtain ⟨q46, eq46, e⟩ := e
          refine g_callV d_X11_set_105 vk_12_215 (as := [_]) rfl k47 rfl (by simp [zrf_cat, cat_int, cat_long]) (j := 3) (by omega) (c_X11_number (by omega) eq46) ?_
          refine r_if_eq d_X11_set_108 (tgt := 131) (by decide) (fun c48 => ?_) (fun c48 => ?_)
          · replace e := (if_pos c48).symm.trans e
            refine r_iconst d_X11_set_131 (v := (0 : Int32)) (by decide +kernel) ?_
            cases e
            exact g_iret d_X11_set_132 rfl rfl
          · replace e := (if_neg c48).symm.trans e
            refine g_ald_n d_X11_set_111 rfl g0 ?_
            replace e := ckd e
            obtain ⟨k50, e⟩ := e
            replace e := bd e
            obtain ⟨q49, eq49, e⟩ := e
            refine g_callV d_X11_set_112 vk_12_218 (as := []) rfl k50 rfl (by simp [zrf_cat, cat_int, cat_long]) (j := 4) (by omega) (c_X11_bracketed (by omega) eq49) ?_
            refine r_if_eq d_X11_set_115 (tgt := 131) (by decide) (fun c51 => ?_) (fun c51 => ?_)
            · replace e := (if_pos c51).symm.trans e
              refine r_iconst d_X11_set_131 (v := (0 : Int32)) (by decide +kernel) ?_
              cases e
              exact g_iret d_X11_set_132 rfl rfl
            · replace e := (if_neg c51).symm.trans e
              refine g_ald_n d_X11_set_118 rfl g0 ?_
              refine r_bipush d_X11_set_119 (v := (8 : Int32)) (by decide +kernel) ?_
              replace e := ckd e
              obtain ⟨k53, e⟩ := e
              replace e := bd e
              obtain ⟨q52, eq52, e⟩ := e
              refine g_callV d_X11_set_121 vk_12_221 (as := [_]) rfl k53 rfl (by simp [zrf_cat, cat_int, cat_long]) (j := 3) (by omega) (c_X11_ends (by omega) eq52) ?_
              refine r_if_eq d_X11_set_124 (tgt := 131) (by decide) (fun c54 => ?_) (fun c54 => ?_)
              · replace e := (if_pos c54).symm.trans e
                refine r_iconst d_X11_set_131 (v := (0 : Int32)) (by decide +kernel) ?_
                cases e
                exact g_iret d_X11_set_132 rfl rfl
              · replace e := (if_neg c54).symm.trans e
                refine r_iconst d_X11_set_127 (v := (1 : Int32)) (by decide +kernel) ?_
                refine r_goto d_X11_set_128 (tgt := 132) (by decide) ?_
                cases e
                exact g_iret d_X11_set_132 rfl rfl
      · replace e := (if_neg c15).symm.trans e
        refine g_ald_n d_X11_set_86 rfl g0 ?_
        refine r_bipush d_X11_set_87 (v := (7 : Int32)) (by decide +kernel) ?_
        replace e := ckd e
        obtain ⟨k56, e⟩ := e
        replace e := bd e
        obtain ⟨q55, eq55, e⟩ := e
        refine g_callV d_X11_set_89 vk_12_221 (as := [_]) rfl k56 rfl (by simp [zrf_cat, cat_int, cat_long]) (j := 3) (by omega) (c_X11_ends (by omega) eq55) ?_
        replace e := ckd e
        obtain ⟨k57, e⟩ := e
        cases e
        exact g_iret d_X11_set_92 rfl k57
    · replace e := (if_neg c12).symm.trans e
      refine g_ald_n d_X11_set_46 rfl g0 ?_
      refine r_bipush d_X11_set_47 (v := (10 : Int32)) (by decide +kernel) ?_
      replace e := ckd e
      obtain ⟨k59, e⟩ := e
      replace e := bd e
      obtain ⟨q58, eq58, e⟩ := e
      refine g_callV d_X11_set_49 vk_12_215 (as := [_]) rfl k59 rfl (by simp [zrf_cat, cat_int, cat_long]) (j := 3) (by omega) (c_X11_number (by omega) eq58) ?_
      refine r_if_eq d_X11_set_52 (tgt := 75) (by decide) (fun c60 => ?_) (fun c60 => ?_)
      · replace e := (if_pos c60).symm.trans e
        refine r_iconst d_X11_set_75 (v := (0 : Int32)) (by decide +kernel) ?_
        cases e
        exact g_iret d_X11_set_76 rfl rfl
      · replace e := (if_neg c60).symm.trans e
        refine g_ald_n d_X11_set_55 rfl g0 ?_
        replace e := ckd e
        obtain ⟨k62, e⟩ := e
        replace e := bd e
        obtain ⟨q61, eq61, e⟩ := e
        refine g_callV d_X11_set_56 vk_12_218 (as := []) rfl k62 rfl (by simp [zrf_cat, cat_int, cat_long]) (j := 4) (by omega) (c_X11_bracketed (by omega) eq61) ?_
        refine r_if_eq d_X11_set_59 (tgt := 75) (by decide) (fun c63 => ?_) (fun c63 => ?_)
        · replace e := (if_pos c63).symm.trans e
          refine r_iconst d_X11_set_75 (v := (0 : Int32)) (by decide +kernel) ?_
          cases e
          exact g_iret d_X11_set_76 rfl rfl
        · replace e := (if_neg c63).symm.trans e
          refine g_ald_n d_X11_set_62 rfl g0 ?_
          refine r_bipush d_X11_set_63 (v := (6 : Int32)) (by decide +kernel) ?_
          replace e := ckd e
          obtain ⟨k65, e⟩ := e
          replace e := bd e
          obtain ⟨q64, eq64, e⟩ := e
          refine g_callV d_X11_set_65 vk_12_221 (as := [_]) rfl k65 rfl (by simp [zrf_cat, cat_int, cat_long]) (j := 3) (by omega) (c_X11_ends (by omega) eq64) ?_
          refine r_if_eq d_X11_set_68 (tgt := 75) (by decide) (fun c66 => ?_) (fun c66 => ?_)
          · replace e := (if_pos c66).symm.trans e
            refine r_iconst d_X11_set_75 (v := (0 : Int32)) (by decide +kernel) ?_
            cases e
            exact g_iret d_X11_set_76 rfl rfl
          · replace e := (if_neg c66).symm.trans e
            refine r_iconst d_X11_set_71 (v := (1 : Int32)) (by decide +kernel) ?_
            refine r_goto d_X11_set_72 (tgt := 76) (by decide) ?_
            cases e
            exact g_iret d_X11_set_76 rfl rfl
  · replace e := (if_pos c9).symm.trans e
    refine r_iconst d_X11_set_35 (v := (0 : Int32)) (by decide +kernel) ?_
    cases e
    exact g_iret d_X11_set_36 rfl rfl

theorem c_X11_set {G : Gd} {j : Nat} (hj : 5 ≤ j) {l0 : Nat} {h : Hp} {o : (Int32 × Hp)} (e : f_X11_set l0 h = some o) : Cal G j Y_X11_set [zrf (l0)] h (some (.int o.1)) o.2 := Cal.of (n := 0) (I := false) (by decide +kernel) (by decide) (by simp [lg_sl, zrf_cat, cat_int, cat_long]) (f_X11_set_ok hj _ _ h o (by simp [lv_args, zlk, zrf_cat, cat_int, cat_long]) e)
