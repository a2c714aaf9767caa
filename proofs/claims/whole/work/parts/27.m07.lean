abbrev Y_X11_valueOf : Yx := (⟨"TaskWeaveModel", "valueOf", "(IZI)I"⟩, prog_13_method_47_code, 4, (some .int))
abbrev M_X11_valueOf : Mx := ("TaskWeaveModel", prog_13_method_47_code, 4, false)
theorem yk_X11_valueOf : Yk Y_X11_valueOf 3 := ⟨by decide +kernel, by decide +kernel, ⟨by decide, by decide⟩, by decide +kernel, by decide, by decide +kernel⟩
theorem d_X11_valueOf_0 : decode prog_13_method_47_code 0 = .ok (.iload_n 2, 1) := by decide +kernel
theorem d_X11_valueOf_1 : decode prog_13_method_47_code 1 = .ok (.ifCond .eq 17, 3) := by decide +kernel
theorem d_X11_valueOf_4 : decode prog_13_method_47_code 4 = .ok (.aload_n 0, 1) := by decide +kernel
theorem d_X11_valueOf_5 : decode prog_13_method_47_code 5 = .ok (.getfield 125, 3) := by decide +kernel
theorem d_X11_valueOf_8 : decode prog_13_method_47_code 8 = .ok (.bipush 8, 2) := by decide +kernel
theorem d_X11_valueOf_10 : decode prog_13_method_47_code 10 = .ok (.iload_n 1, 1) := by decide +kernel
theorem d_X11_valueOf_11 : decode prog_13_method_47_code 11 = .ok (.imul, 1) := by decide +kernel
theorem d_X11_valueOf_12 : decode prog_13_method_47_code 12 = .ok (.iload_n 3, 1) := by decide +kernel
theorem d_X11_valueOf_13 : decode prog_13_method_47_code 13 = .ok (.iadd, 1) := by decide +kernel
theorem d_X11_valueOf_14 : decode prog_13_method_47_code 14 = .ok (.iaload, 1) := by decide +kernel
theorem d_X11_valueOf_15 : decode prog_13_method_47_code 15 = .ok (.goto 4, 3) := by decide +kernel
theorem d_X11_valueOf_18 : decode prog_13_method_47_code 18 = .ok (.iload_n 3, 1) := by decide +kernel
theorem d_X11_valueOf_19 : decode prog_13_method_47_code 19 = .ok (.ireturn, 1) := by decide +kernel
abbrev Y_X11_goesStep : Yx := (⟨"TaskWeaveModel", "goesStep", "(I)V"⟩, prog_13_method_48_code, 7, none)
abbrev M_X11_goesStep : Mx := ("TaskWeaveModel", prog_13_method_48_code, 7, false)
theorem yk_X11_goesStep : Yk Y_X11_goesStep 1 := ⟨by decide +kernel, by decide +kernel, ⟨by decide, by decide⟩, by decide +kernel, by decide, by decide +kernel⟩
theorem d_X11_goesStep_0 : decode prog_13_method_48_code 0 = .ok (.aload_n 0, 1) := by decide +kernel
theorem d_X11_goesStep_1 : decode prog_13_method_48_code 1 = .ok (.getfield 116, 3) := by decide +kernel
theorem d_X11_goesStep_4 : decode prog_13_method_48_code 4 = .ok (.iload_n 1, 1) := by decide +kernel
theorem d_X11_goesStep_5 : decode prog_13_method_48_code 5 = .ok (.iaload, 1) := by decide +kernel
theorem d_X11_goesStep_6 : decode prog_13_method_48_code 6 = .ok (.istore_n 2, 1) := by decide +kernel
theorem d_X11_goesStep_7 : decode prog_13_method_48_code 7 = .ok (.aload_n 0, 1) := by decide +kernel
theorem d_X11_goesStep_8 : decode prog_13_method_48_code 8 = .ok (.getfield 315, 3) := by decide +kernel
theorem d_X11_goesStep_11 : decode prog_13_method_48_code 11 = .ok (.aload_n 0, 1) := by decide +kernel
theorem d_X11_goesStep_12 : decode prog_13_method_48_code 12 = .ok (.getfield 26, 3) := by decide +kernel
theorem d_X11_goesStep_15 : decode prog_13_method_48_code 15 = .ok (.iload_n 2, 1) := by decide +kernel
theorem d_X11_goesStep_16 : decode prog_13_method_48_code 16 = .ok (.iaload, 1) := by decide +kernel
theorem d_X11_goesStep_17 : decode prog_13_method_48_code 17 = .ok (.if_icmp .ne 14, 3) := by decide +kernel
theorem d_X11_goesStep_20 : decode prog_13_method_48_code 20 = .ok (.aload_n 0, 1) := by decide +kernel
theorem d_X11_goesStep_21 : decode prog_13_method_48_code 21 = .ok (.iload_n 1, 1) := by decide +kernel
theorem d_X11_goesStep_22 : decode prog_13_method_48_code 22 = .ok (.bipush 10, 2) := by decide +kernel
theorem d_X11_goesStep_24 : decode prog_13_method_48_code 24 = .ok (.iconst 0, 1) := by decide +kernel
theorem d_X11_goesStep_25 : decode prog_13_method_48_code 25 = .ok (.iconst 0, 1) := by decide +kernel
theorem d_X11_goesStep_26 : decode prog_13_method_48_code 26 = .ok (.invokevirtual 339, 3) := by decide +kernel
theorem d_X11_goesStep_29 : decode prog_13_method_48_code 29 = .ok (.istore_n 3, 1) := by decide +kernel
theorem d_X11_goesStep_30 : decode prog_13_method_48_code 30 = .ok (.return_, 1) := by decide +kernel
theorem d_X11_goesStep_31 : decode prog_13_method_48_code 31 = .ok (.aload_n 0, 1) := by decide +kernel
theorem d_X11_goesStep_32 : decode prog_13_method_48_code 32 = .ok (.getfield 327, 3) := by decide +kernel
theorem d_X11_goesStep_35 : decode prog_13_method_48_code 35 = .ok (.sipush 200, 3) := by decide +kernel
theorem d_X11_goesStep_38 : decode prog_13_method_48_code 38 = .ok (.if_icmp .ne 14, 3) := by decide +kernel
theorem d_X11_goesStep_41 : decode prog_13_method_48_code 41 = .ok (.aload_n 0, 1) := by decide +kernel
theorem d_X11_goesStep_42 : decode prog_13_method_48_code 42 = .ok (.iload_n 1, 1) := by decide +kernel
theorem d_X11_goesStep_43 : decode prog_13_method_48_code 43 = .ok (.bipush 12, 2) := by decide +kernel
theorem d_X11_goesStep_45 : decode prog_13_method_48_code 45 = .ok (.iconst (-1), 1) := by decide +kernel
theorem d_X11_goesStep_46 : decode prog_13_method_48_code 46 = .ok (.iconst 0, 1) := by decide +kernel
theorem d_X11_goesStep_47 : decode prog_13_method_48_code 47 = .ok (.invokevirtual 339, 3) := by decide +kernel
theorem d_X11_goesStep_50 : decode prog_13_method_48_code 50 = .ok (.istore_n 3, 1) := by decide +kernel
theorem d_X11_goesStep_51 : decode prog_13_method_48_code 51 = .ok (.return_, 1) := by decide +kernel
theorem d_X11_goesStep_52 : decode prog_13_method_48_code 52 = .ok (.aload_n 0, 1) := by decide +kernel
theorem d_X11_goesStep_53 : decode prog_13_method_48_code 53 = .ok (.dup, 1) := by decide +kernel
theorem d_X11_goesStep_54 : decode prog_13_method_48_code 54 = .ok (.getfield 327, 3) := by decide +kernel
theorem d_X11_goesStep_57 : decode prog_13_method_48_code 57 = .ok (.iconst 1, 1) := by decide +kernel
theorem d_X11_goesStep_58 : decode prog_13_method_48_code 58 = .ok (.iadd, 1) := by decide +kernel
theorem d_X11_goesStep_59 : decode prog_13_method_48_code 59 = .ok (.putfield 327, 3) := by decide +kernel
theorem d_X11_goesStep_62 : decode prog_13_method_48_code 62 = .ok (.aload_n 0, 1) := by decide +kernel
theorem d_X11_goesStep_63 : decode prog_13_method_48_code 63 = .ok (.getfield 23, 3) := by decide +kernel
theorem d_X11_goesStep_66 : decode prog_13_method_48_code 66 = .ok (.iload_n 2, 1) := by decide +kernel
theorem d_X11_goesStep_67 : decode prog_13_method_48_code 67 = .ok (.iaload, 1) := by decide +kernel
theorem d_X11_goesStep_68 : decode prog_13_method_48_code 68 = .ok (.aload_n 0, 1) := by decide +kernel
theorem d_X11_goesStep_69 : decode prog_13_method_48_code 69 = .ok (.getfield 315, 3) := by decide +kernel
theorem d_X11_goesStep_72 : decode prog_13_method_48_code 72 = .ok (.iadd, 1) := by decide +kernel
theorem d_X11_goesStep_73 : decode prog_13_method_48_code 73 = .ok (.istore_n 3, 1) := by decide +kernel
theorem d_X11_goesStep_74 : decode prog_13_method_48_code 74 = .ok (.aload_n 0, 1) := by decide +kernel
theorem d_X11_goesStep_75 : decode prog_13_method_48_code 75 = .ok (.dup, 1) := by decide +kernel
theorem d_X11_goesStep_76 : decode prog_13_method_48_code 76 = .ok (.getfield 315, 3) := by decide +kernel
theorem d_X11_goesStep_79 : decode prog_13_method_48_code 79 = .ok (.iconst 1, 1) := by decide +kernel
theorem d_X11_goesStep_80 : decode prog_13_method_48_code 80 = .ok (.iadd, 1) := by decide +kernel
theorem d_X11_goesStep_81 : decode prog_13_method_48_code 81 = .ok (.putfield 315, 3) := by decide +kernel
theorem d_X11_goesStep_84 : decode prog_13_method_48_code 84 = .ok (.aload_n 0, 1) := by decide +kernel
theorem d_X11_goesStep_85 : decode prog_13_method_48_code 85 = .ok (.iload_n 1, 1) := by decide +kernel
theorem d_X11_goesStep_86 : decode prog_13_method_48_code 86 = .ok (.aload_n 0, 1) := by decide +kernel
theorem d_X11_goesStep_87 : decode prog_13_method_48_code 87 = .ok (.getfield 41, 3) := by decide +kernel
theorem d_X11_goesStep_90 : decode prog_13_method_48_code 90 = .ok (.iload_n 3, 1) := by decide +kernel
theorem d_X11_goesStep_91 : decode prog_13_method_48_code 91 = .ok (.baload, 1) := by decide +kernel
theorem d_X11_goesStep_92 : decode prog_13_method_48_code 92 = .ok (.aload_n 0, 1) := by decide +kernel
theorem d_X11_goesStep_93 : decode prog_13_method_48_code 93 = .ok (.getfield 45, 3) := by decide +kernel
theorem d_X11_goesStep_96 : decode prog_13_method_48_code 96 = .ok (.iload_n 3, 1) := by decide +kernel
theorem d_X11_goesStep_97 : decode prog_13_method_48_code 97 = .ok (.iaload, 1) := by decide +kernel
theorem d_X11_goesStep_98 : decode prog_13_method_48_code 98 = .ok (.invokevirtual 343, 3) := by decide +kernel
theorem d_X11_goesStep_101 : decode prog_13_method_48_code 101 = .ok (.istore 4, 2) := by decide +kernel
theorem d_X11_goesStep_103 : decode prog_13_method_48_code 103 = .ok (.aload_n 0, 1) := by decide +kernel
theorem d_X11_goesStep_104 : decode prog_13_method_48_code 104 = .ok (.iload_n 1, 1) := by decide +kernel
theorem d_X11_goesStep_105 : decode prog_13_method_48_code 105 = .ok (.aload_n 0, 1) := by decide +kernel
theorem d_X11_goesStep_106 : decode prog_13_method_48_code 106 = .ok (.getfield 48, 3) := by decide +kernel
theorem d_X11_goesStep_109 : decode prog_13_method_48_code 109 = .ok (.iload_n 3, 1) := by decide +kernel
theorem d_X11_goesStep_110 : decode prog_13_method_48_code 110 = .ok (.baload, 1) := by decide +kernel
theorem d_X11_goesStep_111 : decode prog_13_method_48_code 111 = .ok (.aload_n 0, 1) := by decide +kernel
theorem d_X11_goesStep_112 : decode prog_13_method_48_code 112 = .ok (.getfield 51, 3) := by decide +kernel
theorem d_X11_goesStep_115 : decode prog_13_method_48_code 115 = .ok (.iload_n 3, 1) := by decide +kernel
theorem d_X11_goesStep_116 : decode prog_13_method_48_code 116 = .ok (.iaload, 1) := by decide +kernel
theorem d_X11_goesStep_117 : decode prog_13_method_48_code 117 = .ok (.invokevirtual 343, 3) := by decide +kernel
theorem d_X11_goesStep_120 : decode prog_13_method_48_code 120 = .ok (.istore 5, 2) := by decide +kernel
theorem d_X11_goesStep_122 : decode prog_13_method_48_code 122 = .ok (.bipush 8, 2) := by decide +kernel
theorem d_X11_goesStep_124 : decode prog_13_method_48_code 124 = .ok (.iload_n 1, 1) := by decide +kernel
theorem d_X11_goesStep_125 : decode prog_13_method_48_code 125 = .ok (.imul, 1) := by decide +kernel
theorem d_X11_goesStep_126 : decode prog_13_method_48_code 126 = .ok (.aload_n 0, 1) := by decide +kernel
theorem d_X11_goesStep_127 : decode prog_13_method_48_code 127 = .ok (.getfield 38, 3) := by decide +kernel
theorem d_X11_goesStep_130 : decode prog_13_method_48_code 130 = .ok (.iload_n 3, 1) := by decide +kernel
theorem d_X11_goesStep_131 : decode prog_13_method_48_code 131 = .ok (.iaload, 1) := by decide +kernel
theorem d_X11_goesStep_132 : decode prog_13_method_48_code 132 = .ok (.iadd, 1) := by decide +kernel
theorem d_X11_goesStep_133 : decode prog_13_method_48_code 133 = .ok (.istore 6, 2) := by decide +kernel
theorem d_X11_goesStep_135 : decode prog_13_method_48_code 135 = .ok (.aload_n 0, 1) := by decide +kernel
theorem d_X11_goesStep_136 : decode prog_13_method_48_code 136 = .ok (.getfield 35, 3) := by decide +kernel
theorem d_X11_goesStep_139 : decode prog_13_method_48_code 139 = .ok (.iload_n 3, 1) := by decide +kernel
theorem d_X11_goesStep_140 : decode prog_13_method_48_code 140 = .ok (.iaload, 1) := by decide +kernel
theorem d_X11_goesStep_141 : decode prog_13_method_48_code 141 = .ok (.tableswitch 210 0 13 #[71, 83, 98, 113, 128, 150, 210, 210, 210, 210, 210, 210, 172, 197], 71) := by decide +kernel
theorem d_X11_goesStep_212 : decode prog_13_method_48_code 212 = .ok (.aload_n 0, 1) := by decide +kernel
theorem d_X11_goesStep_213 : decode prog_13_method_48_code 213 = .ok (.getfield 125, 3) := by decide +kernel
theorem d_X11_goesStep_216 : decode prog_13_method_48_code 216 = .ok (.iload 6, 2) := by decide +kernel
theorem d_X11_goesStep_218 : decode prog_13_method_48_code 218 = .ok (.iload 4, 2) := by decide +kernel
theorem d_X11_goesStep_220 : decode prog_13_method_48_code 220 = .ok (.iastore, 1) := by decide +kernel
theorem d_X11_goesStep_221 : decode prog_13_method_48_code 221 = .ok (.goto 140, 3) := by decide +kernel
theorem d_X11_goesStep_224 : decode prog_13_method_48_code 224 = .ok (.aload_n 0, 1) := by decide +kernel
theorem d_X11_goesStep_225 : decode prog_13_method_48_code 225 = .ok (.getfield 125, 3) := by decide +kernel
theorem d_X11_goesStep_228 : decode prog_13_method_48_code 228 = .ok (.iload 6, 2) := by decide +kernel
theorem d_X11_goesStep_230 : decode prog_13_method_48_code 230 = .ok (.iload 4, 2) := by decide +kernel
theorem d_X11_goesStep_232 : decode prog_13_method_48_code 232 = .ok (.iload 5, 2) := by decide +kernel
theorem d_X11_goesStep_234 : decode prog_13_method_48_code 234 = .ok (.iadd, 1) := by decide +kernel
theorem d_X11_goesStep_235 : decode prog_13_method_48_code 235 = .ok (.iastore, 1) := by decide +kernel
theorem d_X11_goesStep_236 : decode prog_13_method_48_code 236 = .ok (.goto 125, 3) := by decide +kernel
theorem d_X11_goesStep_239 : decode prog_13_method_48_code 239 = .ok (.aload_n 0, 1) := by decide +kernel
theorem d_X11_goesStep_240 : decode prog_13_method_48_code 240 = .ok (.getfield 125, 3) := by decide +kernel
theorem d_X11_goesStep_243 : decode prog_13_method_48_code 243 = .ok (.iload 6, 2) := by decide +kernel
theorem d_X11_goesStep_245 : decode prog_13_method_48_code 245 = .ok (.iload 4, 2) := by decide +kernel
theorem d_X11_goesStep_247 : decode prog_13_method_48_code 247 = .ok (.iload 5, 2) := by decide +kernel
theorem d_X11_goesStep_249 : decode prog_13_method_48_code 249 = .ok (.isub, 1) := by decide +kernel
theorem d_X11_goesStep_250 : decode prog_13_method_48_code 250 = .ok (.iastore, 1) := by decide +kernel
theorem d_X11_goesStep_251 : decode prog_13_method_48_code 251 = .ok (.goto 110, 3) := by decide +kernel
theorem d_X11_goesStep_254 : decode prog_13_method_48_code 254 = .ok (.aload_n 0, 1) := by decide +kernel
theorem d_X11_goesStep_255 : decode prog_13_method_48_code 255 = .ok (.getfield 125, 3) := by decide +kernel
theorem d_X11_goesStep_258 : decode prog_13_method_48_code 258 = .ok (.iload 6, 2) := by decide +kernel
theorem d_X11_goesStep_260 : decode prog_13_method_48_code 260 = .ok (.iload 4, 2) := by decide +kernel
theorem d_X11_goesStep_262 : decode prog_13_method_48_code 262 = .ok (.iload 5, 2) := by decide +kernel
theorem d_X11_goesStep_264 : decode prog_13_method_48_code 264 = .ok (.imul, 1) := by decide +kernel
theorem d_X11_goesStep_265 : decode prog_13_method_48_code 265 = .ok (.iastore, 1) := by decide +kernel
theorem d_X11_goesStep_266 : decode prog_13_method_48_code 266 = .ok (.goto 95, 3) := by decide +kernel
theorem d_X11_goesStep_269 : decode prog_13_method_48_code 269 = .ok (.aload_n 0, 1) := by decide +kernel
theorem d_X11_goesStep_270 : decode prog_13_method_48_code 270 = .ok (.getfield 125, 3) := by decide +kernel
theorem d_X11_goesStep_273 : decode prog_13_method_48_code 273 = .ok (.iload 6, 2) := by decide +kernel
theorem d_X11_goesStep_275 : decode prog_13_method_48_code 275 = .ok (.iload 4, 2) := by decide +kernel
theorem d_X11_goesStep_277 : decode prog_13_method_48_code 277 = .ok (.iload 5, 2) := by decide +kernel
theorem d_X11_goesStep_279 : decode prog_13_method_48_code 279 = .ok (.if_icmp .ge 7, 3) := by decide +kernel
theorem d_X11_goesStep_282 : decode prog_13_method_48_code 282 = .ok (.iconst 1, 1) := by decide +kernel
theorem d_X11_goesStep_283 : decode prog_13_method_48_code 283 = .ok (.goto 4, 3) := by decide +kernel
theorem d_X11_goesStep_286 : decode prog_13_method_48_code 286 = .ok (.iconst 0, 1) := by decide +kernel
theorem d_X11_goesStep_287 : decode prog_13_method_48_code 287 = .ok (.iastore, 1) := by decide +kernel
theorem d_X11_goesStep_288 : decode prog_13_method_48_code 288 = .ok (.goto 73, 3) := by decide +kernel
theorem d_X11_goesStep_291 : decode prog_13_method_48_code 291 = .ok (.aload_n 0, 1) := by decide +kernel
theorem d_X11_goesStep_292 : decode prog_13_method_48_code 292 = .ok (.getfield 125, 3) := by decide +kernel
theorem d_X11_goesStep_295 : decode prog_13_method_48_code 295 = .ok (.iload 6, 2) := by decide +kernel
theorem d_X11_goesStep_297 : decode prog_13_method_48_code 297 = .ok (.iload 4, 2) := by decide +kernel
theorem d_X11_goesStep_299 : decode prog_13_method_48_code 299 = .ok (.iload 5, 2) := by decide +kernel
theorem d_X11_goesStep_301 : decode prog_13_method_48_code 301 = .ok (.if_icmp .ne 7, 3) := by decide +kernel
theorem d_X11_goesStep_304 : decode prog_13_method_48_code 304 = .ok (.iconst 1, 1) := by decide +kernel
theorem d_X11_goesStep_305 : decode prog_13_method_48_code 305 = .ok (.goto 4, 3) := by decide +kernel
theorem d_X11_goesStep_308 : decode prog_13_method_48_code 308 = .ok (.iconst 0, 1) := by decide +kernel
theorem d_X11_goesStep_309 : decode prog_13_method_48_code 309 = .ok (.iastore, 1) := by decide +kernel
theorem d_X11_goesStep_310 : decode prog_13_method_48_code 310 = .ok (.goto 51, 3) := by decide +kernel
theorem d_X11_goesStep_313 : decode prog_13_method_48_code 313 = .ok (.aload_n 0, 1) := by decide +kernel
theorem d_X11_goesStep_314 : decode prog_13_method_48_code 314 = .ok (.iload 4, 2) := by decide +kernel
theorem d_X11_goesStep_316 : decode prog_13_method_48_code 316 = .ok (.ifCond .eq 12, 3) := by decide +kernel
theorem d_X11_goesStep_319 : decode prog_13_method_48_code 319 = .ok (.aload_n 0, 1) := by decide +kernel
theorem d_X11_goesStep_320 : decode prog_13_method_48_code 320 = .ok (.getfield 54, 3) := by decide +kernel
theorem d_X11_goesStep_323 : decode prog_13_method_48_code 323 = .ok (.iload_n 3, 1) := by decide +kernel
theorem d_X11_goesStep_324 : decode prog_13_method_48_code 324 = .ok (.iaload, 1) := by decide +kernel
theorem d_X11_goesStep_325 : decode prog_13_method_48_code 325 = .ok (.goto 7, 3) := by decide +kernel
theorem d_X11_goesStep_328 : decode prog_13_method_48_code 328 = .ok (.aload_n 0, 1) := by decide +kernel
theorem d_X11_goesStep_329 : decode prog_13_method_48_code 329 = .ok (.getfield 315, 3) := by decide +kernel
theorem d_X11_goesStep_332 : decode prog_13_method_48_code 332 = .ok (.putfield 315, 3) := by decide +kernel
theorem d_X11_goesStep_335 : decode prog_13_method_48_code 335 = .ok (.goto 26, 3) := by decide +kernel
theorem d_X11_goesStep_338 : decode prog_13_method_48_code 338 = .ok (.aload_n 0, 1) := by decide +kernel
theorem d_X11_goesStep_339 : decode prog_13_method_48_code 339 = .ok (.aload_n 0, 1) := by decide +kernel
theorem d_X11_goesStep_340 : decode prog_13_method_48_code 340 = .ok (.getfield 54, 3) := by decide +kernel
theorem d_X11_goesStep_343 : decode prog_13_method_48_code 343 = .ok (.iload_n 3, 1) := by decide +kernel
theorem d_X11_goesStep_344 : decode prog_13_method_48_code 344 = .ok (.iaload, 1) := by decide +kernel
theorem d_X11_goesStep_345 : decode prog_13_method_48_code 345 = .ok (.putfield 315, 3) := by decide +kernel
theorem d_X11_goesStep_348 : decode prog_13_method_48_code 348 = .ok (.goto 13, 3) := by decide +kernel
theorem d_X11_goesStep_351 : decode prog_13_method_48_code 351 = .ok (.aload_n 0, 1) := by decide +kernel
theorem d_X11_goesStep_352 : decode prog_13_method_48_code 352 = .ok (.iload_n 1, 1) := by decide +kernel
theorem d_X11_goesStep_353 : decode prog_13_method_48_code 353 = .ok (.iload_n 3, 1) := by decide +kernel
theorem d_X11_goesStep_354 : decode prog_13_method_48_code 354 = .ok (.iload 4, 2) := by decide +kernel
theorem d_X11_goesStep_356 : decode prog_13_method_48_code 356 = .ok (.iload 5, 2) := by decide +kernel
theorem d_X11_goesStep_358 : decode prog_13_method_48_code 358 = .ok (.invokevirtual 347, 3) := by decide +kernel
theorem d_X11_goesStep_361 : decode prog_13_method_48_code 361 = .ok (.return_, 1) := by decide +kernel
abbrev Y_X11_signals : Yx := (⟨"TaskWeaveModel", "signals", "(II)I"⟩, prog_13_method_43_code, 5, (some .int))
abbrev M_X11_signals : Mx := ("TaskWeaveModel", prog_13_method_43_code, 5, false)
theorem yk_X11_signals : Yk Y_X11_signals 2 := ⟨by decide +kernel, by decide +kernel, ⟨by decide, by decide⟩, by decide +kernel, by decide, by decide +kernel⟩
theorem d_X11_signals_0 : decode prog_13_method_43_code 0 = .ok (.iconst 0, 1) := by decide +kernel
theorem d_X11_signals_1 : decode prog_13_method_43_code 1 = .ok (.istore_n 3, 1) := by decide +kernel
theorem d_X11_signals_2 : decode prog_13_method_43_code 2 = .ok (.iconst 0, 1) := by decide +kernel
theorem d_X11_signals_3 : decode prog_13_method_43_code 3 = .ok (.istore 4, 2) := by decide +kernel
theorem d_X11_signals_5 : decode prog_13_method_43_code 5 = .ok (.iload 4, 2) := by decide +kernel
theorem d_X11_signals_7 : decode prog_13_method_43_code 7 = .ok (.iload_n 2, 1) := by decide +kernel
theorem d_X11_signals_8 : decode prog_13_method_43_code 8 = .ok (.if_icmp .ge 33, 3) := by decide +kernel
theorem d_X11_signals_11 : decode prog_13_method_43_code 11 = .ok (.iload_n 3, 1) := by decide +kernel
theorem d_X11_signals_12 : decode prog_13_method_43_code 12 = .ok (.aload_n 0, 1) := by decide +kernel
theorem d_X11_signals_13 : decode prog_13_method_43_code 13 = .ok (.aload_n 0, 1) := by decide +kernel
theorem d_X11_signals_14 : decode prog_13_method_43_code 14 = .ok (.iload_n 1, 1) := by decide +kernel
theorem d_X11_signals_15 : decode prog_13_method_43_code 15 = .ok (.iload 4, 2) := by decide +kernel
theorem d_X11_signals_17 : decode prog_13_method_43_code 17 = .ok (.invokevirtual 305, 3) := by decide +kernel
theorem d_X11_signals_20 : decode prog_13_method_43_code 20 = .ok (.invokevirtual 286, 3) := by decide +kernel
theorem d_X11_signals_23 : decode prog_13_method_43_code 23 = .ok (.bipush 8, 2) := by decide +kernel
theorem d_X11_signals_25 : decode prog_13_method_43_code 25 = .ok (.if_icmp .ne 7, 3) := by decide +kernel
theorem d_X11_signals_28 : decode prog_13_method_43_code 28 = .ok (.iconst 1, 1) := by decide +kernel
theorem d_X11_signals_29 : decode prog_13_method_43_code 29 = .ok (.goto 4, 3) := by decide +kernel
theorem d_X11_signals_32 : decode prog_13_method_43_code 32 = .ok (.iconst 0, 1) := by decide +kernel
theorem d_X11_signals_33 : decode prog_13_method_43_code 33 = .ok (.iadd, 1) := by decide +kernel
theorem d_X11_signals_34 : decode prog_13_method_43_code 34 = .ok (.istore_n 3, 1) := by decide +kernel
theorem d_X11_signals_35 : decode prog_13_method_43_code 35 = .ok (.iinc 4 1, 3) := by decide +kernel
theorem d_X11_signals_38 : decode prog_13_method_43_code 38 = .ok (.goto (-33), 3) := by decide +kernel
theorem d_X11_signals_41 : decode prog_13_method_43_code 41 = .ok (.iload_n 3, 1) := by decide +kernel
theorem d_X11_signals_42 : decode prog_13_method_43_code 42 = .ok (.ireturn, 1) := by decide +kernel
abbrev Y_X11_goThrough : Yx := (⟨"TaskWeaveModel", "goThrough", "(I)V"⟩, prog_13_method_42_code, 3, none)
abbrev M_X11_goThrough : Mx := ("TaskWeaveModel", prog_13_method_42_code, 3, false)
theorem yk_X11_goThrough : Yk Y_X11_goThrough 1 := ⟨by decide +kernel, by decide +kernel, ⟨by decide, by decide⟩, by decide +kernel, by decide, by decide +kernel⟩
theorem d_X11_goThrough_0 : decode prog_13_method_42_code 0 = .ok (.aload_n 0, 1) := by decide +kernel
theorem d_X11_goThrough_1 : decode prog_13_method_42_code 1 = .ok (.getfield 116, 3) := by decide +kernel
theorem d_X11_goThrough_4 : decode prog_13_method_42_code 4 = .ok (.iload_n 1, 1) := by decide +kernel
theorem d_X11_goThrough_5 : decode prog_13_method_42_code 5 = .ok (.aload_n 0, 1) := by decide +kernel
theorem d_X11_goThrough_6 : decode prog_13_method_42_code 6 = .ok (.aload_n 0, 1) := by decide +kernel
theorem d_X11_goThrough_7 : decode prog_13_method_42_code 7 = .ok (.getfield 70, 3) := by decide +kernel
theorem d_X11_goThrough_10 : decode prog_13_method_42_code 10 = .ok (.aload_n 0, 1) := by decide +kernel
theorem d_X11_goThrough_11 : decode prog_13_method_42_code 11 = .ok (.iload_n 1, 1) := by decide +kernel
theorem d_X11_goThrough_12 : decode prog_13_method_42_code 12 = .ok (.iconst 0, 1) := by decide +kernel
theorem d_X11_goThrough_13 : decode prog_13_method_42_code 13 = .ok (.invokevirtual 305, 3) := by decide +kernel
theorem d_X11_goThrough_16 : decode prog_13_method_42_code 16 = .ok (.iaload, 1) := by decide +kernel
theorem d_X11_goThrough_17 : decode prog_13_method_42_code 17 = .ok (.invokevirtual 312, 3) := by decide +kernel
theorem d_X11_goThrough_20 : decode prog_13_method_42_code 20 = .ok (.iastore, 1) := by decide +kernel
theorem d_X11_goThrough_21 : decode prog_13_method_42_code 21 = .ok (.iconst 0, 1) := by decide +kernel
theorem d_X11_goThrough_22 : decode prog_13_method_42_code 22 = .ok (.istore_n 2, 1) := by decide +kernel
theorem d_X11_goThrough_23 : decode prog_13_method_42_code 23 = .ok (.iload_n 2, 1) := by decide +kernel
theorem d_X11_goThrough_24 : decode prog_13_method_42_code 24 = .ok (.bipush 8, 2) := by decide +kernel
theorem d_X11_goThrough_26 : decode prog_13_method_42_code 26 = .ok (.if_icmp .ge 21, 3) := by decide +kernel
theorem d_X11_goThrough_29 : decode prog_13_method_42_code 29 = .ok (.aload_n 0, 1) := by decide +kernel
theorem d_X11_goThrough_30 : decode prog_13_method_42_code 30 = .ok (.getfield 125, 3) := by decide +kernel
theorem d_X11_goThrough_33 : decode prog_13_method_42_code 33 = .ok (.bipush 8, 2) := by decide +kernel
theorem d_X11_goThrough_35 : decode prog_13_method_42_code 35 = .ok (.iload_n 1, 1) := by decide +kernel
theorem d_X11_goThrough_36 : decode prog_13_method_42_code 36 = .ok (.imul, 1) := by decide +kernel
theorem d_X11_goThrough_37 : decode prog_13_method_42_code 37 = .ok (.iload_n 2, 1) := by decide +kernel
theorem d_X11_goThrough_38 : decode prog_13_method_42_code 38 = .ok (.iadd, 1) := by decide +kernel
theorem d_X11_goThrough_39 : decode prog_13_method_42_code 39 = .ok (.iconst 0, 1) := by decide +kernel
theorem d_X11_goThrough_40 : decode prog_13_method_42_code 40 = .ok (.iastore, 1) := by decide +kernel
theorem d_X11_goThrough_41 : decode prog_13_method_42_code 41 = .ok (.iinc 2 1, 3) := by decide +kernel
theorem d_X11_goThrough_44 : decode prog_13_method_42_code 44 = .ok (.goto (-21), 3) := by decide +kernel
theorem d_X11_goThrough_47 : decode prog_13_method_42_code 47 = .ok (.aload_n 0, 1) := by decide +kernel
theorem d_X11_goThrough_48 : decode prog_13_method_42_code 48 = .ok (.getfield 125, 3) := by decide +kernel
theorem d_X11_goThrough_51 : decode prog_13_method_42_code 51 = .ok (.bipush 8, 2) := by decide +kernel
theorem d_X11_goThrough_53 : decode prog_13_method_42_code 53 = .ok (.iload_n 1, 1) := by decide +kernel
theorem d_X11_goThrough_54 : decode prog_13_method_42_code 54 = .ok (.imul, 1) := by decide +kernel
theorem d_X11_goThrough_55 : decode prog_13_method_42_code 55 = .ok (.aload_n 0, 1) := by decide +kernel
theorem d_X11_goThrough_56 : decode prog_13_method_42_code 56 = .ok (.getfield 73, 3) := by decide +kernel
theorem d_X11_goThrough_59 : decode prog_13_method_42_code 59 = .ok (.aload_n 0, 1) := by decide +kernel
theorem d_X11_goThrough_60 : decode prog_13_method_42_code 60 = .ok (.iload_n 1, 1) := by decide +kernel
theorem d_X11_goThrough_61 : decode prog_13_method_42_code 61 = .ok (.iconst 0, 1) := by decide +kernel
theorem d_X11_goThrough_62 : decode prog_13_method_42_code 62 = .ok (.invokevirtual 305, 3) := by decide +kernel
theorem d_X11_goThrough_65 : decode prog_13_method_42_code 65 = .ok (.iaload, 1) := by decide +kernel
theorem d_X11_goThrough_66 : decode prog_13_method_42_code 66 = .ok (.iastore, 1) := by decide +kernel
theorem d_X11_goThrough_67 : decode prog_13_method_42_code 67 = .ok (.aload_n 0, 1) := by decide +kernel
theorem d_X11_goThrough_68 : decode prog_13_method_42_code 68 = .ok (.iconst 0, 1) := by decide +kernel
theorem d_X11_goThrough_69 : decode prog_13_method_42_code 69 = .ok (.putfield 315, 3) := by decide +kernel
theorem d_X11_goThrough_72 : decode prog_13_method_42_code 72 = .ok (.aload_n 0, 1) := by decide +kernel
theorem d_X11_goThrough_73 : decode prog_13_method_42_code 73 = .ok (.iconst 1, 1) := by decide +kernel
theorem d_X11_goThrough_74 : decode prog_13_method_42_code 74 = .ok (.putfield 318, 3) := by decide +kernel
theorem d_X11_goThrough_77 : decode prog_13_method_42_code 77 = .ok (.aload_n 0, 1) := by decide +kernel
theorem d_X11_goThrough_78 : decode prog_13_method_42_code 78 = .ok (.iconst 0, 1) := by decide +kernel
theorem d_X11_goThrough_79 : decode prog_13_method_42_code 79 = .ok (.putfield 321, 3) := by decide +kernel
theorem d_X11_goThrough_82 : decode prog_13_method_42_code 82 = .ok (.aload_n 0, 1) := by decide +kernel
theorem d_X11_goThrough_83 : decode prog_13_method_42_code 83 = .ok (.iconst 0, 1) := by decide +kernel
theorem d_X11_goThrough_84 : decode prog_13_method_42_code 84 = .ok (.putfield 324, 3) := by decide +kernel
theorem d_X11_goThrough_87 : decode prog_13_method_42_code 87 = .ok (.aload_n 0, 1) := by decide +kernel
theorem d_X11_goThrough_88 : decode prog_13_method_42_code 88 = .ok (.iconst 0, 1) := by decide +kernel
theorem d_X11_goThrough_89 : decode prog_13_method_42_code 89 = .ok (.putfield 327, 3) := by decide +kernel
theorem d_X11_goThrough_92 : decode prog_13_method_42_code 92 = .ok (.aload_n 0, 1) := by decide +kernel
theorem d_X11_goThrough_93 : decode prog_13_method_42_code 93 = .ok (.getfield 119, 3) := by decide +kernel
theorem d_X11_goThrough_96 : decode prog_13_method_42_code 96 = .ok (.iload_n 1, 1) := by decide +kernel
theorem d_X11_goThrough_97 : decode prog_13_method_42_code 97 = .ok (.bipush 6, 2) := by decide +kernel
theorem d_X11_goThrough_99 : decode prog_13_method_42_code 99 = .ok (.iastore, 1) := by decide +kernel
theorem d_X11_goThrough_100 : decode prog_13_method_42_code 100 = .ok (.aload_n 0, 1) := by decide +kernel
theorem d_X11_goThrough_101 : decode prog_13_method_42_code 101 = .ok (.getfield 119, 3) := by decide +kernel
theorem d_X11_goThrough_104 : decode prog_13_method_42_code 104 = .ok (.iload_n 1, 1) := by decide +kernel
theorem d_X11_goThrough_105 : decode prog_13_method_42_code 105 = .ok (.iaload, 1) := by decide +kernel
theorem d_X11_goThrough_106 : decode prog_13_method_42_code 106 = .ok (.bipush 6, 2) := by decide +kernel
theorem d_X11_goThrough_108 : decode prog_13_method_42_code 108 = .ok (.if_icmp .ne 11, 3) := by decide +kernel
theorem d_X11_goThrough_111 : decode prog_13_method_42_code 111 = .ok (.aload_n 0, 1) := by decide +kernel
theorem d_X11_goThrough_112 : decode prog_13_method_42_code 112 = .ok (.iload_n 1, 1) := by decide +kernel
theorem d_X11_goThrough_113 : decode prog_13_method_42_code 113 = .ok (.invokevirtual 330, 3) := by decide +kernel
theorem d_X11_goThrough_116 : decode prog_13_method_42_code 116 = .ok (.goto (-16), 3) := by decide +kernel
theorem d_X11_goThrough_119 : decode prog_13_method_42_code 119 = .ok (.aload_n 0, 1) := by decide +kernel
theorem d_X11_goThrough_120 : decode prog_13_method_42_code 120 = .ok (.getfield 128, 3) := by decide +kernel
theorem d_X11_goThrough_123 : decode prog_13_method_42_code 123 = .ok (.iload_n 1, 1) := by decide +kernel
theorem d_X11_goThrough_124 : decode prog_13_method_42_code 124 = .ok (.aload_n 0, 1) := by decide +kernel
theorem d_X11_goThrough_125 : decode prog_13_method_42_code 125 = .ok (.getfield 324, 3) := by decide +kernel
theorem d_X11_goThrough_128 : decode prog_13_method_42_code 128 = .ok (.iastore, 1) := by decide +kernel
theorem d_X11_goThrough_129 : decode prog_13_method_42_code 129 = .ok (.aload_n 0, 1) := by decide +kernel
theorem d_X11_goThrough_130 : decode prog_13_method_42_code 130 = .ok (.getfield 131, 3) := by decide +kernel
theorem d_X11_goThrough_133 : decode prog_13_method_42_code 133 = .ok (.iload_n 1, 1) := by decide +kernel
theorem d_X11_goThrough_134 : decode prog_13_method_42_code 134 = .ok (.aload_n 0, 1) := by decide +kernel
theorem d_X11_goThrough_135 : decode prog_13_method_42_code 135 = .ok (.iload_n 1, 1) := by decide +kernel
theorem d_X11_goThrough_136 : decode prog_13_method_42_code 136 = .ok (.aload_n 0, 1) := by decide +kernel
theorem d_X11_goThrough_137 : decode prog_13_method_42_code 137 = .ok (.getfield 113, 3) := by decide +kernel
theorem d_X11_goThrough_140 : decode prog_13_method_42_code 140 = .ok (.iload_n 1, 1) := by decide +kernel
theorem d_X11_goThrough_141 : decode prog_13_method_42_code 141 = .ok (.iaload, 1) := by decide +kernel
theorem d_X11_goThrough_142 : decode prog_13_method_42_code 142 = .ok (.invokevirtual 333, 3) := by decide +kernel
theorem d_X11_goThrough_145 : decode prog_13_method_42_code 145 = .ok (.aload_n 0, 1) := by decide +kernel
theorem d_X11_goThrough_146 : decode prog_13_method_42_code 146 = .ok (.getfield 321, 3) := by decide +kernel
theorem d_X11_goThrough_149 : decode prog_13_method_42_code 149 = .ok (.isub, 1) := by decide +kernel
theorem d_X11_goThrough_150 : decode prog_13_method_42_code 150 = .ok (.iastore, 1) := by decide +kernel
theorem d_X11_goThrough_151 : decode prog_13_method_42_code 151 = .ok (.return_, 1) := by decide +kernel
abbrev Y_X11_withOrigin : Yx := (⟨"TaskWeaveModel", "withOrigin", "(II)I"⟩, prog_13_method_57_code, 4, (some .int))
abbrev M_X11_withOrigin : Mx := ("TaskWeaveModel", prog_13_method_57_code, 4, false)
theorem yk_X11_withOrigin : Yk Y_X11_withOrigin 2 := ⟨by decide +kernel, by decide +kernel, ⟨by decide, by decide⟩, by decide +kernel, by decide, by decide +kernel⟩
theorem d_X11_withOrigin_0 : decode prog_13_method_57_code 0 = .ok (.iconst 0, 1) := by decide +kernel
theorem d_X11_withOrigin_1 : decode prog_13_method_57_code 1 = .ok (.istore_n 3, 1) := by decide +kernel
theorem d_X11_withOrigin_2 : decode prog_13_method_57_code 2 = .ok (.iload_n 3, 1) := by decide +kernel
theorem d_X11_withOrigin_3 : decode prog_13_method_57_code 3 = .ok (.aload_n 0, 1) := by decide +kernel
theorem d_X11_withOrigin_4 : decode prog_13_method_57_code 4 = .ok (.getfield 107, 3) := by decide +kernel
theorem d_X11_withOrigin_7 : decode prog_13_method_57_code 7 = .ok (.iload_n 1, 1) := by decide +kernel
theorem d_X11_withOrigin_8 : decode prog_13_method_57_code 8 = .ok (.iaload, 1) := by decide +kernel
theorem d_X11_withOrigin_9 : decode prog_13_method_57_code 9 = .ok (.if_icmp .ge 30, 3) := by decide +kernel
theorem d_X11_withOrigin_12 : decode prog_13_method_57_code 12 = .ok (.aload_n 0, 1) := by decide +kernel
theorem d_X11_withOrigin_13 : decode prog_13_method_57_code 13 = .ok (.bipush 16, 2) := by decide +kernel
theorem d_X11_withOrigin_15 : decode prog_13_method_57_code 15 = .ok (.iload_n 1, 1) := by decide +kernel
theorem d_X11_withOrigin_16 : decode prog_13_method_57_code 16 = .ok (.imul, 1) := by decide +kernel
theorem d_X11_withOrigin_17 : decode prog_13_method_57_code 17 = .ok (.iload_n 3, 1) := by decide +kernel
theorem d_X11_withOrigin_18 : decode prog_13_method_57_code 18 = .ok (.iadd, 1) := by decide +kernel
theorem d_X11_withOrigin_19 : decode prog_13_method_57_code 19 = .ok (.invokevirtual 309, 3) := by decide +kernel
theorem d_X11_withOrigin_22 : decode prog_13_method_57_code 22 = .ok (.iload_n 2, 1) := by decide +kernel
theorem d_X11_withOrigin_23 : decode prog_13_method_57_code 23 = .ok (.if_icmp .ne 10, 3) := by decide +kernel
theorem d_X11_withOrigin_26 : decode prog_13_method_57_code 26 = .ok (.bipush 16, 2) := by decide +kernel
theorem d_X11_withOrigin_28 : decode prog_13_method_57_code 28 = .ok (.iload_n 1, 1) := by decide +kernel
theorem d_X11_withOrigin_29 : decode prog_13_method_57_code 29 = .ok (.imul, 1) := by decide +kernel
theorem d_X11_withOrigin_30 : decode prog_13_method_57_code 30 = .ok (.iload_n 3, 1) := by decide +kernel
theorem d_X11_withOrigin_31 : decode prog_13_method_57_code 31 = .ok (.iadd, 1) := by decide +kernel
theorem d_X11_withOrigin_32 : decode prog_13_method_57_code 32 = .ok (.ireturn, 1) := by decide +kernel
theorem d_X11_withOrigin_33 : decode prog_13_method_57_code 33 = .ok (.iinc 3 1, 3) := by decide +kernel
theorem d_X11_withOrigin_36 : decode prog_13_method_57_code 36 = .ok (.goto (-34), 3) := by decide +kernel
theorem d_X11_withOrigin_39 : decode prog_13_method_57_code 39 = .ok (.iconst (-1), 1) := by decide +kernel
theorem d_X11_withOrigin_40 : decode prog_13_method_57_code 40 = .ok (.ireturn, 1) := by decide +kernel
abbrev Y_X11_hasSignal : Yx := (⟨"TaskWeaveModel", "hasSignal", "(II)Z"⟩, prog_13_method_58_code, 4, (some .boolean))
abbrev M_X11_hasSignal : Mx := ("TaskWeaveModel", prog_13_method_58_code, 4, false)
theorem yk_X11_hasSignal : Yk Y_X11_hasSignal 2 := ⟨by decide +kernel, by decide +kernel, ⟨by decide, by decide⟩, by decide +kernel, by decide, by decide +kernel⟩
theorem d_X11_hasSignal_0 : decode prog_13_method_58_code 0 = .ok (.iconst 0, 1) := by decide +kernel
theorem d_X11_hasSignal_1 : decode prog_13_method_58_code 1 = .ok (.istore_n 3, 1) := by decide +kernel
theorem d_X11_hasSignal_2 : decode prog_13_method_58_code 2 = .ok (.iload_n 3, 1) := by decide +kernel
theorem d_X11_hasSignal_3 : decode prog_13_method_58_code 3 = .ok (.aload_n 0, 1) := by decide +kernel
theorem d_X11_hasSignal_4 : decode prog_13_method_58_code 4 = .ok (.getfield 113, 3) := by decide +kernel
theorem d_X11_hasSignal_7 : decode prog_13_method_58_code 7 = .ok (.iload_n 1, 1) := by decide +kernel
theorem d_X11_hasSignal_8 : decode prog_13_method_58_code 8 = .ok (.iaload, 1) := by decide +kernel
theorem d_X11_hasSignal_9 : decode prog_13_method_58_code 9 = .ok (.if_icmp .ge 41, 3) := by decide +kernel
theorem d_X11_hasSignal_12 : decode prog_13_method_58_code 12 = .ok (.aload_n 0, 1) := by decide +kernel
theorem d_X11_hasSignal_13 : decode prog_13_method_58_code 13 = .ok (.aload_n 0, 1) := by decide +kernel
theorem d_X11_hasSignal_14 : decode prog_13_method_58_code 14 = .ok (.iload_n 1, 1) := by decide +kernel
theorem d_X11_hasSignal_15 : decode prog_13_method_58_code 15 = .ok (.iload_n 3, 1) := by decide +kernel
theorem d_X11_hasSignal_16 : decode prog_13_method_58_code 16 = .ok (.invokevirtual 305, 3) := by decide +kernel
theorem d_X11_hasSignal_19 : decode prog_13_method_58_code 19 = .ok (.invokevirtual 286, 3) := by decide +kernel
theorem d_X11_hasSignal_22 : decode prog_13_method_58_code 22 = .ok (.bipush 8, 2) := by decide +kernel
theorem d_X11_hasSignal_24 : decode prog_13_method_58_code 24 = .ok (.if_icmp .ne 20, 3) := by decide +kernel
theorem d_X11_hasSignal_27 : decode prog_13_method_58_code 27 = .ok (.aload_n 0, 1) := by decide +kernel
theorem d_X11_hasSignal_28 : decode prog_13_method_58_code 28 = .ok (.getfield 76, 3) := by decide +kernel
theorem d_X11_hasSignal_31 : decode prog_13_method_58_code 31 = .ok (.aload_n 0, 1) := by decide +kernel
theorem d_X11_hasSignal_32 : decode prog_13_method_58_code 32 = .ok (.iload_n 1, 1) := by decide +kernel
theorem d_X11_hasSignal_33 : decode prog_13_method_58_code 33 = .ok (.iload_n 3, 1) := by decide +kernel
theorem d_X11_hasSignal_34 : decode prog_13_method_58_code 34 = .ok (.invokevirtual 305, 3) := by decide +kernel
theorem d_X11_hasSignal_37 : decode prog_13_method_58_code 37 = .ok (.iaload, 1) := by decide +kernel
theorem d_X11_hasSignal_38 : decode prog_13_method_58_code 38 = .ok (.iload_n 2, 1) := by decide +kernel
theorem d_X11_hasSignal_39 : decode prog_13_method_58_code 39 = .ok (.if_icmp .ne 5, 3) := by decide +kernel
theorem d_X11_hasSignal_42 : decode prog_13_method_58_code 42 = .ok (.iconst 1, 1) := by decide +kernel
theorem d_X11_hasSignal_43 : decode prog_13_method_58_code 43 = .ok (.ireturn, 1) := by decide +kernel
theorem d_X11_hasSignal_44 : decode prog_13_method_58_code 44 = .ok (.iinc 3 1, 3) := by decide +kernel
theorem d_X11_hasSignal_47 : decode prog_13_method_58_code 47 = .ok (.goto (-45), 3) := by decide +kernel
theorem d_X11_hasSignal_50 : decode prog_13_method_58_code 50 = .ok (.iconst 0, 1) := by decide +kernel
theorem d_X11_hasSignal_51 : decode prog_13_method_58_code 51 = .ok (.ireturn, 1) := by decide +kernel
abbrev Y_X11_works : Yx := (⟨"TaskWeaveModel", "works", "(I)Z"⟩, prog_13_method_60_code, 2, (some .boolean))
abbrev M_X11_works : Mx := ("TaskWeaveModel", prog_13_method_60_code, 2, false)
theorem yk_X11_works : Yk Y_X11_works 1 := ⟨by decide +kernel, by decide +kernel, ⟨by decide, by decide⟩, by decide +kernel, by decide, by decide +kernel⟩
theorem d_X11_works_0 : decode prog_13_method_60_code 0 = .ok (.aload_n 0, 1) := by decide +kernel
theorem d_X11_works_1 : decode prog_13_method_60_code 1 = .ok (.getfield 101, 3) := by decide +kernel
theorem d_X11_works_4 : decode prog_13_method_60_code 4 = .ok (.iload_n 1, 1) := by decide +kernel
theorem d_X11_works_5 : decode prog_13_method_60_code 5 = .ok (.bipush 16, 2) := by decide +kernel
theorem d_X11_works_7 : decode prog_13_method_60_code 7 = .ok (.idiv, 1) := by decide +kernel
theorem d_X11_works_8 : decode prog_13_method_60_code 8 = .ok (.iaload, 1) := by decide +kernel
theorem d_X11_works_9 : decode prog_13_method_60_code 9 = .ok (.iconst (-1), 1) := by decide +kernel
theorem d_X11_works_10 : decode prog_13_method_60_code 10 = .ok (.if_icmp .eq 7, 3) := by decide +kernel
theorem d_X11_works_13 : decode prog_13_method_60_code 13 = .ok (.iconst 1, 1) := by decide +kernel
theorem d_X11_works_14 : decode prog_13_method_60_code 14 = .ok (.goto 4, 3) := by decide +kernel
theorem d_X11_works_17 : decode prog_13_method_60_code 17 = .ok (.iconst 0, 1) := by decide +kernel
theorem d_X11_works_18 : decode prog_13_method_60_code 18 = .ok (.ireturn, 1) := by decide +kernel
abbrev Y_X11_query : Yx := (⟨"TaskWeaveModel", "query", "(II)I"⟩, prog_13_method_63_code, 3, (some .int))
abbrev M_X11_query : Mx := ("TaskWeaveModel", prog_13_method_63_code, 3, false)
theorem yk_X11_query : Yk Y_X11_query 2 := ⟨by decide +kernel, by decide +kernel, ⟨by decide, by decide⟩, by decide +kernel, by decide, by decide +kernel⟩
theorem d_X11_query_0 : decode prog_13_method_63_code 0 = .ok (.aload_n 0, 1) := by decide +kernel
theorem d_X11_query_1 : decode prog_13_method_63_code 1 = .ok (.aload_n 0, 1) := by decide +kernel
theorem d_X11_query_2 : decode prog_13_method_63_code 2 = .ok (.iload_n 1, 1) := by decide +kernel
theorem d_X11_query_3 : decode prog_13_method_63_code 3 = .ok (.invokevirtual 382, 3) := by decide +kernel
theorem d_X11_query_6 : decode prog_13_method_63_code 6 = .ok (.ifCond .eq 12, 3) := by decide +kernel
theorem d_X11_query_9 : decode prog_13_method_63_code 9 = .ok (.iload_n 2, 1) := by decide +kernel
theorem d_X11_query_10 : decode prog_13_method_63_code 10 = .ok (.bipush 8, 2) := by decide +kernel
theorem d_X11_query_12 : decode prog_13_method_63_code 12 = .ok (.invokestatic 230, 3) := by decide +kernel
theorem d_X11_query_15 : decode prog_13_method_63_code 15 = .ok (.ifCond .ne 7, 3) := by decide +kernel
theorem d_X11_query_18 : decode prog_13_method_63_code 18 = .ok (.iconst 1, 1) := by decide +kernel
theorem d_X11_query_19 : decode prog_13_method_63_code 19 = .ok (.goto 19, 3) := by decide +kernel
theorem d_X11_query_22 : decode prog_13_method_63_code 22 = .ok (.aload_n 0, 1) := by decide +kernel
theorem d_X11_query_23 : decode prog_13_method_63_code 23 = .ok (.iload_n 1, 1) := by decide +kernel
theorem d_X11_query_24 : decode prog_13_method_63_code 24 = .ok (.invokestatic 385, 3) := by decide +kernel
theorem d_X11_query_27 : decode prog_13_method_63_code 27 = .ok (.invokevirtual 388, 3) := by decide +kernel
theorem d_X11_query_30 : decode prog_13_method_63_code 30 = .ok (.ifCond .ne 7, 3) := by decide +kernel
theorem d_X11_query_33 : decode prog_13_method_63_code 33 = .ok (.iconst 2, 1) := by decide +kernel
theorem d_X11_query_34 : decode prog_13_method_63_code 34 = .ok (.goto 4, 3) := by decide +kernel
theorem d_X11_query_37 : decode prog_13_method_63_code 37 = .ok (.iconst 0, 1) := by decide +kernel
theorem d_X11_query_38 : decode prog_13_method_63_code 38 = .ok (.putfield 183, 3) := by decide +kernel
theorem d_X11_query_41 : decode prog_13_method_63_code 41 = .ok (.aload_n 0, 1) := by decide +kernel
theorem d_X11_query_42 : decode prog_13_method_63_code 42 = .ok (.getfield 183, 3) := by decide +kernel
theorem d_X11_query_45 : decode prog_13_method_63_code 45 = .ok (.ifCond .le 7, 3) := by decide +kernel
theorem d_X11_query_48 : decode prog_13_method_63_code 48 = .ok (.iconst 0, 1) := by decide +kernel
theorem d_X11_query_49 : decode prog_13_method_63_code 49 = .ok (.goto 17, 3) := by decide +kernel
theorem d_X11_query_52 : decode prog_13_method_63_code 52 = .ok (.aload_n 0, 1) := by decide +kernel
theorem d_X11_query_53 : decode prog_13_method_63_code 53 = .ok (.getfield 125, 3) := by decide +kernel
theorem d_X11_query_56 : decode prog_13_method_63_code 56 = .ok (.bipush 8, 2) := by decide +kernel
theorem d_X11_query_58 : decode prog_13_method_63_code 58 = .ok (.iload_n 1, 1) := by decide +kernel
theorem d_X11_query_59 : decode prog_13_method_63_code 59 = .ok (.invokestatic 385, 3) := by decide +kernel
theorem d_X11_query_62 : decode prog_13_method_63_code 62 = .ok (.imul, 1) := by decide +kernel
theorem d_X11_query_63 : decode prog_13_method_63_code 63 = .ok (.iload_n 2, 1) := by decide +kernel
theorem d_X11_query_64 : decode prog_13_method_63_code 64 = .ok (.iadd, 1) := by decide +kernel
theorem d_X11_query_65 : decode prog_13_method_63_code 65 = .ok (.iaload, 1) := by decide +kernel
theorem d_X11_query_66 : decode prog_13_method_63_code 66 = .ok (.ireturn, 1) := by decide +kernel
abbrev Y_X11_workOf : Yx := (⟨"TaskWeaveModel", "workOf", "(I)I"⟩, prog_13_method_64_code, 3, (some .int))
abbrev M_X11_workOf : Mx := ("TaskWeaveModel", prog_13_method_64_code, 3, false)
theorem yk_X11_workOf : Yk Y_X11_workOf 1 := ⟨by decide +kernel, by decide +kernel, ⟨by decide, by decide⟩, by decide +kernel, by decide, by decide +kernel⟩
theorem d_X11_workOf_0 : decode prog_13_method_64_code 0 = .ok (.aload_n 0, 1) := by decide +kernel
theorem d_X11_workOf_1 : decode prog_13_method_64_code 1 = .ok (.getfield 113, 3) := by decide +kernel
theorem d_X11_workOf_4 : decode prog_13_method_64_code 4 = .ok (.iload_n 1, 1) := by decide +kernel
theorem d_X11_workOf_5 : decode prog_13_method_64_code 5 = .ok (.iaload, 1) := by decide +kernel
theorem d_X11_workOf_6 : decode prog_13_method_64_code 6 = .ok (.iconst 1, 1) := by decide +kernel
theorem d_X11_workOf_7 : decode prog_13_method_64_code 7 = .ok (.isub, 1) := by decide +kernel
theorem d_X11_workOf_8 : decode prog_13_method_64_code 8 = .ok (.istore_n 2, 1) := by decide +kernel
theorem d_X11_workOf_9 : decode prog_13_method_64_code 9 = .ok (.aload_n 0, 1) := by decide +kernel
theorem d_X11_workOf_10 : decode prog_13_method_64_code 10 = .ok (.aload_n 0, 1) := by decide +kernel
theorem d_X11_workOf_11 : decode prog_13_method_64_code 11 = .ok (.iload_n 1, 1) := by decide +kernel
theorem d_X11_workOf_12 : decode prog_13_method_64_code 12 = .ok (.iload_n 2, 1) := by decide +kernel
theorem d_X11_workOf_13 : decode prog_13_method_64_code 13 = .ok (.invokevirtual 305, 3) := by decide +kernel
theorem d_X11_workOf_16 : decode prog_13_method_64_code 16 = .ok (.invokevirtual 286, 3) := by decide +kernel
theorem d_X11_workOf_19 : decode prog_13_method_64_code 19 = .ok (.iconst 1, 1) := by decide +kernel
theorem d_X11_workOf_20 : decode prog_13_method_64_code 20 = .ok (.if_icmp .eq 9, 3) := by decide +kernel
theorem d_X11_workOf_23 : decode prog_13_method_64_code 23 = .ok (.iinc 2 (-1), 3) := by decide +kernel
theorem d_X11_workOf_26 : decode prog_13_method_64_code 26 = .ok (.goto (-17), 3) := by decide +kernel
theorem d_X11_workOf_29 : decode prog_13_method_64_code 29 = .ok (.aload_n 0, 1) := by decide +kernel
theorem d_X11_workOf_30 : decode prog_13_method_64_code 30 = .ok (.iload_n 1, 1) := by decide +kernel
theorem d_X11_workOf_31 : decode prog_13_method_64_code 31 = .ok (.iload_n 2, 1) := by decide +kernel
theorem d_X11_workOf_32 : decode prog_13_method_64_code 32 = .ok (.invokevirtual 305, 3) := by decide +kernel
theorem d_X11_workOf_35 : decode prog_13_method_64_code 35 = .ok (.ireturn, 1) := by decide +kernel
abbrev Y_X11_poll : Yx := (⟨"TaskWeaveModel", "poll", "(I)I"⟩, prog_13_method_65_code, 6, (some .int))
abbrev M_X11_poll : Mx := ("TaskWeaveModel", prog_13_method_65_code, 6, false)
theorem yk_X11_poll : Yk Y_X11_poll 1 := ⟨by decide +kernel, by decide +kernel, ⟨by decide, by decide⟩, by decide +kernel, by decide, by decide +kernel⟩
theorem d_X11_poll_0 : decode prog_13_method_65_code 0 = .ok (.aload_n 0, 1) := by decide +kernel
theorem d_X11_poll_1 : decode prog_13_method_65_code 1 = .ok (.iconst 0, 1) := by decide +kernel
theorem d_X11_poll_2 : decode prog_13_method_65_code 2 = .ok (.putfield 183, 3) := by decide +kernel
theorem d_X11_poll_5 : decode prog_13_method_65_code 5 = .ok (.iconst (-1), 1) := by decide +kernel
theorem d_X11_poll_6 : decode prog_13_method_65_code 6 = .ok (.istore_n 2, 1) := by decide +kernel
theorem d_X11_poll_7 : decode prog_13_method_65_code 7 = .ok (.iconst 0, 1) := by decide +kernel
theorem d_X11_poll_8 : decode prog_13_method_65_code 8 = .ok (.istore_n 3, 1) := by decide +kernel
theorem d_X11_poll_9 : decode prog_13_method_65_code 9 = .ok (.iload_n 3, 1) := by decide +kernel
theorem d_X11_poll_10 : decode prog_13_method_65_code 10 = .ok (.bipush 64, 2) := by decide +kernel
theorem d_X11_poll_12 : decode prog_13_method_65_code 12 = .ok (.if_icmp .ge 111, 3) := by decide +kernel
theorem d_X11_poll_15 : decode prog_13_method_65_code 15 = .ok (.aload_n 0, 1) := by decide +kernel
theorem d_X11_poll_16 : decode prog_13_method_65_code 16 = .ok (.iload_n 3, 1) := by decide +kernel
theorem d_X11_poll_17 : decode prog_13_method_65_code 17 = .ok (.invokevirtual 382, 3) := by decide +kernel
theorem d_X11_poll_20 : decode prog_13_method_65_code 20 = .ok (.ifCond .ne 6, 3) := by decide +kernel
theorem d_X11_poll_23 : decode prog_13_method_65_code 23 = .ok (.goto 94, 3) := by decide +kernel
theorem d_X11_poll_26 : decode prog_13_method_65_code 26 = .ok (.iload_n 3, 1) := by decide +kernel
theorem d_X11_poll_27 : decode prog_13_method_65_code 27 = .ok (.invokestatic 385, 3) := by decide +kernel
theorem d_X11_poll_30 : decode prog_13_method_65_code 30 = .ok (.istore 4, 2) := by decide +kernel
theorem d_X11_poll_32 : decode prog_13_method_65_code 32 = .ok (.aload_n 0, 1) := by decide +kernel
theorem d_X11_poll_33 : decode prog_13_method_65_code 33 = .ok (.iload 4, 2) := by decide +kernel
theorem d_X11_poll_35 : decode prog_13_method_65_code 35 = .ok (.invokevirtual 388, 3) := by decide +kernel
theorem d_X11_poll_38 : decode prog_13_method_65_code 38 = .ok (.ifCond .eq 47, 3) := by decide +kernel
theorem d_X11_poll_41 : decode prog_13_method_65_code 41 = .ok (.aload_n 0, 1) := by decide +kernel
theorem d_X11_poll_42 : decode prog_13_method_65_code 42 = .ok (.getfield 146, 3) := by decide +kernel
theorem d_X11_poll_45 : decode prog_13_method_65_code 45 = .ok (.iload 4, 2) := by decide +kernel
theorem d_X11_poll_47 : decode prog_13_method_65_code 47 = .ok (.iaload, 1) := by decide +kernel
theorem d_X11_poll_48 : decode prog_13_method_65_code 48 = .ok (.iconst 1, 1) := by decide +kernel
theorem d_X11_poll_49 : decode prog_13_method_65_code 49 = .ok (.if_icmp .ne 36, 3) := by decide +kernel
theorem d_X11_poll_52 : decode prog_13_method_65_code 52 = .ok (.aload_n 0, 1) := by decide +kernel
theorem d_X11_poll_53 : decode prog_13_method_65_code 53 = .ok (.getfield 149, 3) := by decide +kernel
theorem d_X11_poll_56 : decode prog_13_method_65_code 56 = .ok (.iload 4, 2) := by decide +kernel
theorem d_X11_poll_58 : decode prog_13_method_65_code 58 = .ok (.iaload, 1) := by decide +kernel
theorem d_X11_poll_59 : decode prog_13_method_65_code 59 = .ok (.aload_n 0, 1) := by decide +kernel
theorem d_X11_poll_60 : decode prog_13_method_65_code 60 = .ok (.getfield 283, 3) := by decide +kernel
theorem d_X11_poll_63 : decode prog_13_method_65_code 63 = .ok (.if_icmp .gt 22, 3) := by decide +kernel
theorem d_X11_poll_66 : decode prog_13_method_65_code 66 = .ok (.aload_n 0, 1) := by decide +kernel
theorem d_X11_poll_67 : decode prog_13_method_65_code 67 = .ok (.getfield 70, 3) := by decide +kernel
theorem d_X11_poll_70 : decode prog_13_method_65_code 70 = .ok (.aload_n 0, 1) := by decide +kernel
theorem d_X11_poll_71 : decode prog_13_method_65_code 71 = .ok (.iload 4, 2) := by decide +kernel
theorem d_X11_poll_73 : decode prog_13_method_65_code 73 = .ok (.invokevirtual 397, 3) := by decide +kernel
theorem d_X11_poll_76 : decode prog_13_method_65_code 76 = .ok (.iaload, 1) := by decide +kernel
theorem d_X11_poll_77 : decode prog_13_method_65_code 77 = .ok (.iload_n 1, 1) := by decide +kernel
theorem d_X11_poll_78 : decode prog_13_method_65_code 78 = .ok (.if_icmp .ne 7, 3) := by decide +kernel
theorem d_X11_poll_81 : decode prog_13_method_65_code 81 = .ok (.iconst 1, 1) := by decide +kernel
theorem d_X11_poll_82 : decode prog_13_method_65_code 82 = .ok (.goto 4, 3) := by decide +kernel
theorem d_X11_poll_85 : decode prog_13_method_65_code 85 = .ok (.iconst 0, 1) := by decide +kernel
theorem d_X11_poll_86 : decode prog_13_method_65_code 86 = .ok (.istore 5, 2) := by decide +kernel
theorem d_X11_poll_88 : decode prog_13_method_65_code 88 = .ok (.iload 5, 2) := by decide +kernel
theorem d_X11_poll_90 : decode prog_13_method_65_code 90 = .ok (.ifCond .eq 27, 3) := by decide +kernel
theorem d_X11_poll_93 : decode prog_13_method_65_code 93 = .ok (.iload_n 2, 1) := by decide +kernel
theorem d_X11_poll_94 : decode prog_13_method_65_code 94 = .ok (.iconst (-1), 1) := by decide +kernel
theorem d_X11_poll_95 : decode prog_13_method_65_code 95 = .ok (.if_icmp .eq 19, 3) := by decide +kernel
theorem d_X11_poll_98 : decode prog_13_method_65_code 98 = .ok (.aload_n 0, 1) := by decide +kernel
theorem d_X11_poll_99 : decode prog_13_method_65_code 99 = .ok (.getfield 149, 3) := by decide +kernel
theorem d_X11_poll_102 : decode prog_13_method_65_code 102 = .ok (.iload 4, 2) := by decide +kernel
theorem d_X11_poll_104 : decode prog_13_method_65_code 104 = .ok (.iaload, 1) := by decide +kernel
theorem d_X11_poll_105 : decode prog_13_method_65_code 105 = .ok (.aload_n 0, 1) := by decide +kernel
theorem d_X11_poll_106 : decode prog_13_method_65_code 106 = .ok (.getfield 149, 3) := by decide +kernel
theorem d_X11_poll_109 : decode prog_13_method_65_code 109 = .ok (.iload_n 2, 1) := by decide +kernel
theorem d_X11_poll_110 : decode prog_13_method_65_code 110 = .ok (.iaload, 1) := by decide +kernel
theorem d_X11_poll_111 : decode prog_13_method_65_code 111 = .ok (.if_icmp .ge 6, 3) := by decide +kernel
theorem d_X11_poll_114 : decode prog_13_method_65_code 114 = .ok (.iload 4, 2) := by decide +kernel
theorem d_X11_poll_116 : decode prog_13_method_65_code 116 = .ok (.istore_n 2, 1) := by decide +kernel
theorem d_X11_poll_117 : decode prog_13_method_65_code 117 = .ok (.iinc 3 1, 3) := by decide +kernel
theorem d_X11_poll_120 : decode prog_13_method_65_code 120 = .ok (.goto (-111), 3) := by decide +kernel
theorem d_X11_poll_123 : decode prog_13_method_65_code 123 = .ok (.iload_n 2, 1) := by decide +kernel
theorem d_X11_poll_124 : decode prog_13_method_65_code 124 = .ok (.iconst (-1), 1) := by decide +kernel
theorem d_X11_poll_125 : decode prog_13_method_65_code 125 = .ok (.if_icmp .ne 5, 3) := by decide +kernel
theorem d_X11_poll_128 : decode prog_13_method_65_code 128 = .ok (.iconst (-1), 1) := by decide +kernel
theorem d_X11_poll_129 : decode prog_13_method_65_code 129 = .ok (.ireturn, 1) := by decide +kernel
theorem d_X11_poll_130 : decode prog_13_method_65_code 130 = .ok (.aload_n 0, 1) := by decide +kernel
theorem d_X11_poll_131 : decode prog_13_method_65_code 131 = .ok (.dup, 1) := by decide +kernel
theorem d_X11_poll_132 : decode prog_13_method_65_code 132 = .ok (.getfield 400, 3) := by decide +kernel
theorem d_X11_poll_135 : decode prog_13_method_65_code 135 = .ok (.iconst 1, 1) := by decide +kernel
theorem d_X11_poll_136 : decode prog_13_method_65_code 136 = .ok (.iadd, 1) := by decide +kernel
theorem d_X11_poll_137 : decode prog_13_method_65_code 137 = .ok (.putfield 400, 3) := by decide +kernel
theorem d_X11_poll_140 : decode prog_13_method_65_code 140 = .ok (.aload_n 0, 1) := by decide +kernel
theorem d_X11_poll_141 : decode prog_13_method_65_code 141 = .ok (.getfield 146, 3) := by decide +kernel
theorem d_X11_poll_144 : decode prog_13_method_65_code 144 = .ok (.iload_n 2, 1) := by decide +kernel
theorem d_X11_poll_145 : decode prog_13_method_65_code 145 = .ok (.iconst 2, 1) := by decide +kernel
theorem d_X11_poll_146 : decode prog_13_method_65_code 146 = .ok (.iastore, 1) := by decide +kernel
theorem d_X11_poll_147 : decode prog_13_method_65_code 147 = .ok (.aload_n 0, 1) := by decide +kernel
theorem d_X11_poll_148 : decode prog_13_method_65_code 148 = .ok (.getfield 155, 3) := by decide +kernel
theorem d_X11_poll_151 : decode prog_13_method_65_code 151 = .ok (.iload_n 2, 1) := by decide +kernel
theorem d_X11_poll_152 : decode prog_13_method_65_code 152 = .ok (.aload_n 0, 1) := by decide +kernel
theorem d_X11_poll_153 : decode prog_13_method_65_code 153 = .ok (.getfield 400, 3) := by decide +kernel
theorem d_X11_poll_156 : decode prog_13_method_65_code 156 = .ok (.iastore, 1) := by decide +kernel
theorem d_X11_poll_157 : decode prog_13_method_65_code 157 = .ok (.aload_n 0, 1) := by decide +kernel
theorem d_X11_poll_158 : decode prog_13_method_65_code 158 = .ok (.getfield 152, 3) := by decide +kernel
theorem d_X11_poll_161 : decode prog_13_method_65_code 161 = .ok (.iload_n 2, 1) := by decide +kernel
theorem d_X11_poll_162 : decode prog_13_method_65_code 162 = .ok (.aload_n 0, 1) := by decide +kernel
theorem d_X11_poll_163 : decode prog_13_method_65_code 163 = .ok (.getfield 283, 3) := by decide +kernel
theorem d_X11_poll_166 : decode prog_13_method_65_code 166 = .ok (.bipush 10, 2) := by decide +kernel
theorem d_X11_poll_168 : decode prog_13_method_65_code 168 = .ok (.iadd, 1) := by decide +kernel
theorem d_X11_poll_169 : decode prog_13_method_65_code 169 = .ok (.iastore, 1) := by decide +kernel
theorem d_X11_poll_170 : decode prog_13_method_65_code 170 = .ok (.aload_n 0, 1) := by decide +kernel
theorem d_X11_poll_171 : decode prog_13_method_65_code 171 = .ok (.getfield 400, 3) := by decide +kernel
theorem d_X11_poll_174 : decode prog_13_method_65_code 174 = .ok (.ireturn, 1) := by decide +kernel
abbrev Y_X11_leased : Yx := (⟨"TaskWeaveModel", "leased", "(I)I"⟩, prog_13_method_66_code, 3, (some .int))
abbrev M_X11_leased : Mx := ("TaskWeaveModel", prog_13_method_66_code, 3, false)
theorem yk_X11_leased : Yk Y_X11_leased 1 := ⟨by decide +kernel, by decide +kernel, ⟨by decide, by decide⟩, by decide +kernel, by decide, by decide +kernel⟩
theorem d_X11_leased_0 : decode prog_13_method_66_code 0 = .ok (.iconst 0, 1) := by decide +kernel
theorem d_X11_leased_1 : decode prog_13_method_66_code 1 = .ok (.istore_n 2, 1) := by decide +kernel
theorem d_X11_leased_2 : decode prog_13_method_66_code 2 = .ok (.iload_n 2, 1) := by decide +kernel
theorem d_X11_leased_3 : decode prog_13_method_66_code 3 = .ok (.bipush 64, 2) := by decide +kernel
theorem d_X11_leased_5 : decode prog_13_method_66_code 5 = .ok (.if_icmp .ge 31, 3) := by decide +kernel
theorem d_X11_leased_8 : decode prog_13_method_66_code 8 = .ok (.aload_n 0, 1) := by decide +kernel
theorem d_X11_leased_9 : decode prog_13_method_66_code 9 = .ok (.getfield 146, 3) := by decide +kernel
theorem d_X11_leased_12 : decode prog_13_method_66_code 12 = .ok (.iload_n 2, 1) := by decide +kernel
theorem d_X11_leased_13 : decode prog_13_method_66_code 13 = .ok (.iaload, 1) := by decide +kernel
theorem d_X11_leased_14 : decode prog_13_method_66_code 14 = .ok (.iconst 2, 1) := by decide +kernel
theorem d_X11_leased_15 : decode prog_13_method_66_code 15 = .ok (.if_icmp .ne 15, 3) := by decide +kernel
theorem d_X11_leased_18 : decode prog_13_method_66_code 18 = .ok (.aload_n 0, 1) := by decide +kernel
theorem d_X11_leased_19 : decode prog_13_method_66_code 19 = .ok (.getfield 155, 3) := by decide +kernel
theorem d_X11_leased_22 : decode prog_13_method_66_code 22 = .ok (.iload_n 2, 1) := by decide +kernel
theorem d_X11_leased_23 : decode prog_13_method_66_code 23 = .ok (.iaload, 1) := by decide +kernel
theorem d_X11_leased_24 : decode prog_13_method_66_code 24 = .ok (.iload_n 1, 1) := by decide +kernel
theorem d_X11_leased_25 : decode prog_13_method_66_code 25 = .ok (.if_icmp .ne 5, 3) := by decide +kernel
theorem d_X11_leased_28 : decode prog_13_method_66_code 28 = .ok (.iload_n 2, 1) := by decide +kernel
theorem d_X11_leased_29 : decode prog_13_method_66_code 29 = .ok (.ireturn, 1) := by decide +kernel
theorem d_X11_leased_30 : decode prog_13_method_66_code 30 = .ok (.iinc 2 1, 3) := by decide +kernel
theorem d_X11_leased_33 : decode prog_13_method_66_code 33 = .ok (.goto (-31), 3) := by decide +kernel
theorem d_X11_leased_36 : decode prog_13_method_66_code 36 = .ok (.iconst (-1), 1) := by decide +kernel
theorem d_X11_leased_37 : decode prog_13_method_66_code 37 = .ok (.ireturn, 1) := by decide +kernel
abbrev Y_X11_beat : Yx := (⟨"TaskWeaveModel", "beat", "(I)Z"⟩, prog_13_method_67_code, 3, (some .boolean))
abbrev M_X11_beat : Mx := ("TaskWeaveModel", prog_13_method_67_code, 3, false)
theorem yk_X11_beat : Yk Y_X11_beat 1 := ⟨by decide +kernel, by decide +kernel, ⟨by decide, by decide⟩, by decide +kernel, by decide, by decide +kernel⟩
theorem d_X11_beat_0 : decode prog_13_method_67_code 0 = .ok (.aload_n 0, 1) := by decide +kernel
theorem d_X11_beat_1 : decode prog_13_method_67_code 1 = .ok (.iconst 0, 1) := by decide +kernel
theorem d_X11_beat_2 : decode prog_13_method_67_code 2 = .ok (.putfield 183, 3) := by decide +kernel
theorem d_X11_beat_5 : decode prog_13_method_67_code 5 = .ok (.aload_n 0, 1) := by decide +kernel
theorem d_X11_beat_6 : decode prog_13_method_67_code 6 = .ok (.iload_n 1, 1) := by decide +kernel
theorem d_X11_beat_7 : decode prog_13_method_67_code 7 = .ok (.invokevirtual 403, 3) := by decide +kernel
theorem d_X11_beat_10 : decode prog_13_method_67_code 10 = .ok (.istore_n 2, 1) := by decide +kernel
theorem d_X11_beat_11 : decode prog_13_method_67_code 11 = .ok (.iload_n 2, 1) := by decide +kernel
theorem d_X11_beat_12 : decode prog_13_method_67_code 12 = .ok (.iconst (-1), 1) := by decide +kernel
theorem d_X11_beat_13 : decode prog_13_method_67_code 13 = .ok (.if_icmp .ne 5, 3) := by decide +kernel
theorem d_X11_beat_16 : decode prog_13_method_67_code 16 = .ok (.iconst 0, 1) := by decide +kernel
theorem d_X11_beat_17 : decode prog_13_method_67_code 17 = .ok (.ireturn, 1) := by decide +kernel
theorem d_X11_beat_18 : decode prog_13_method_67_code 18 = .ok (.aload_n 0, 1) := by decide +kernel
theorem d_X11_beat_19 : decode prog_13_method_67_code 19 = .ok (.getfield 152, 3) := by decide +kernel
theorem d_X11_beat_22 : decode prog_13_method_67_code 22 = .ok (.iload_n 2, 1) := by decide +kernel
theorem d_X11_beat_23 : decode prog_13_method_67_code 23 = .ok (.aload_n 0, 1) := by decide +kernel
theorem d_X11_beat_24 : decode prog_13_method_67_code 24 = .ok (.getfield 283, 3) := by decide +kernel
theorem d_X11_beat_27 : decode prog_13_method_67_code 27 = .ok (.bipush 10, 2) := by decide +kernel
theorem d_X11_beat_29 : decode prog_13_method_67_code 29 = .ok (.iadd, 1) := by decide +kernel
theorem d_X11_beat_30 : decode prog_13_method_67_code 30 = .ok (.iastore, 1) := by decide +kernel
theorem d_X11_beat_31 : decode prog_13_method_67_code 31 = .ok (.iconst 1, 1) := by decide +kernel
theorem d_X11_beat_32 : decode prog_13_method_67_code 32 = .ok (.ireturn, 1) := by decide +kernel
abbrev Y_X11_task : Yx := (⟨"TaskWeaveModel", "task", "(II)I"⟩, prog_13_method_71_code, 4, (some .int))
abbrev M_X11_task : Mx := ("TaskWeaveModel", prog_13_method_71_code, 4, false)
theorem yk_X11_task : Yk Y_X11_task 2 := ⟨by decide +kernel, by decide +kernel, ⟨by decide, by decide⟩, by decide +kernel, by decide, by decide +kernel⟩
theorem d_X11_task_0 : decode prog_13_method_71_code 0 = .ok (.aload_n 0, 1) := by decide +kernel
theorem d_X11_task_1 : decode prog_13_method_71_code 1 = .ok (.iconst 0, 1) := by decide +kernel
theorem d_X11_task_2 : decode prog_13_method_71_code 2 = .ok (.putfield 183, 3) := by decide +kernel
theorem d_X11_task_5 : decode prog_13_method_71_code 5 = .ok (.aload_n 0, 1) := by decide +kernel
theorem d_X11_task_6 : decode prog_13_method_71_code 6 = .ok (.iload_n 1, 1) := by decide +kernel
theorem d_X11_task_7 : decode prog_13_method_71_code 7 = .ok (.invokevirtual 403, 3) := by decide +kernel
theorem d_X11_task_10 : decode prog_13_method_71_code 10 = .ok (.istore_n 3, 1) := by decide +kernel
theorem d_X11_task_11 : decode prog_13_method_71_code 11 = .ok (.iload_n 3, 1) := by decide +kernel
theorem d_X11_task_12 : decode prog_13_method_71_code 12 = .ok (.iconst (-1), 1) := by decide +kernel
theorem d_X11_task_13 : decode prog_13_method_71_code 13 = .ok (.if_icmp .ne 5, 3) := by decide +kernel
theorem d_X11_task_16 : decode prog_13_method_71_code 16 = .ok (.iconst (-1), 1) := by decide +kernel
theorem d_X11_task_17 : decode prog_13_method_71_code 17 = .ok (.ireturn, 1) := by decide +kernel
theorem d_X11_task_18 : decode prog_13_method_71_code 18 = .ok (.iload_n 2, 1) := by decide +kernel
theorem d_X11_task_19 : decode prog_13_method_71_code 19 = .ok (.tableswitch 59 0 3 #[29, 34, 45, 52], 29) := by decide +kernel
theorem d_X11_task_48 : decode prog_13_method_71_code 48 = .ok (.iload_n 3, 1) := by decide +kernel
theorem d_X11_task_49 : decode prog_13_method_71_code 49 = .ok (.invokestatic 372, 3) := by decide +kernel
theorem d_X11_task_52 : decode prog_13_method_71_code 52 = .ok (.ireturn, 1) := by decide +kernel
theorem d_X11_task_53 : decode prog_13_method_71_code 53 = .ok (.aload_n 0, 1) := by decide +kernel
theorem d_X11_task_54 : decode prog_13_method_71_code 54 = .ok (.getfield 73, 3) := by decide +kernel
theorem d_X11_task_57 : decode prog_13_method_71_code 57 = .ok (.aload_n 0, 1) := by decide +kernel
theorem d_X11_task_58 : decode prog_13_method_71_code 58 = .ok (.iload_n 3, 1) := by decide +kernel
theorem d_X11_task_59 : decode prog_13_method_71_code 59 = .ok (.invokevirtual 397, 3) := by decide +kernel
theorem d_X11_task_62 : decode prog_13_method_71_code 62 = .ok (.iaload, 1) := by decide +kernel
theorem d_X11_task_63 : decode prog_13_method_71_code 63 = .ok (.ireturn, 1) := by decide +kernel
theorem d_X11_task_64 : decode prog_13_method_71_code 64 = .ok (.aload_n 0, 1) := by decide +kernel
theorem d_X11_task_65 : decode prog_13_method_71_code 65 = .ok (.getfield 158, 3) := by decide +kernel
theorem d_X11_task_68 : decode prog_13_method_71_code 68 = .ok (.iload_n 3, 1) := by decide +kernel
theorem d_X11_task_69 : decode prog_13_method_71_code 69 = .ok (.iaload, 1) := by decide +kernel
theorem d_X11_task_70 : decode prog_13_method_71_code 70 = .ok (.ireturn, 1) := by decide +kernel
theorem d_X11_task_71 : decode prog_13_method_71_code 71 = .ok (.aload_n 0, 1) := by decide +kernel
theorem d_X11_task_72 : decode prog_13_method_71_code 72 = .ok (.getfield 152, 3) := by decide +kernel
theorem d_X11_task_75 : decode prog_13_method_71_code 75 = .ok (.iload_n 3, 1) := by decide +kernel
theorem d_X11_task_76 : decode prog_13_method_71_code 76 = .ok (.iaload, 1) := by decide +kernel
theorem d_X11_task_77 : decode prog_13_method_71_code 77 = .ok (.ireturn, 1) := by decide +kernel
theorem d_X11_task_78 : decode prog_13_method_71_code 78 = .ok (.iconst (-1), 1) := by decide +kernel
theorem d_X11_task_79 : decode prog_13_method_71_code 79 = .ok (.ireturn, 1) := by decide +kernel
abbrev Y_X11_outOf : Yx := (⟨"TaskWeaveModel", "outOf", "(II)I"⟩, prog_13_method_74_code, 4, (some .int))
abbrev M_X11_outOf : Mx := ("TaskWeaveModel", prog_13_method_74_code, 4, false)
theorem yk_X11_outOf : Yk Y_X11_outOf 2 := ⟨by decide +kernel, by decide +kernel, ⟨by decide, by decide⟩, by decide +kernel, by decide, by decide +kernel⟩
theorem d_X11_outOf_0 : decode prog_13_method_74_code 0 = .ok (.sipush 1024, 3) := by decide +kernel
theorem d_X11_outOf_3 : decode prog_13_method_74_code 3 = .ok (.iload_n 1, 1) := by decide +kernel
theorem d_X11_outOf_4 : decode prog_13_method_74_code 4 = .ok (.imul, 1) := by decide +kernel
theorem d_X11_outOf_5 : decode prog_13_method_74_code 5 = .ok (.istore_n 3, 1) := by decide +kernel
theorem d_X11_outOf_6 : decode prog_13_method_74_code 6 = .ok (.iload_n 3, 1) := by decide +kernel
theorem d_X11_outOf_7 : decode prog_13_method_74_code 7 = .ok (.sipush 1024, 3) := by decide +kernel
theorem d_X11_outOf_10 : decode prog_13_method_74_code 10 = .ok (.iload_n 1, 1) := by decide +kernel
theorem d_X11_outOf_11 : decode prog_13_method_74_code 11 = .ok (.imul, 1) := by decide +kernel
theorem d_X11_outOf_12 : decode prog_13_method_74_code 12 = .ok (.aload_n 0, 1) := by decide +kernel
theorem d_X11_outOf_13 : decode prog_13_method_74_code 13 = .ok (.getfield 161, 3) := by decide +kernel
theorem d_X11_outOf_16 : decode prog_13_method_74_code 16 = .ok (.iload_n 1, 1) := by decide +kernel
theorem d_X11_outOf_17 : decode prog_13_method_74_code 17 = .ok (.iaload, 1) := by decide +kernel
theorem d_X11_outOf_18 : decode prog_13_method_74_code 18 = .ok (.iadd, 1) := by decide +kernel
theorem d_X11_outOf_19 : decode prog_13_method_74_code 19 = .ok (.if_icmp .ge 21, 3) := by decide +kernel
theorem d_X11_outOf_22 : decode prog_13_method_74_code 22 = .ok (.aload_n 0, 1) := by decide +kernel
theorem d_X11_outOf_23 : decode prog_13_method_74_code 23 = .ok (.getfield 164, 3) := by decide +kernel
theorem d_X11_outOf_26 : decode prog_13_method_74_code 26 = .ok (.iload_n 3, 1) := by decide +kernel
theorem d_X11_outOf_27 : decode prog_13_method_74_code 27 = .ok (.iaload, 1) := by decide +kernel
theorem d_X11_outOf_28 : decode prog_13_method_74_code 28 = .ok (.iload_n 2, 1) := by decide +kernel
theorem d_X11_outOf_29 : decode prog_13_method_74_code 29 = .ok (.if_icmp .ne 5, 3) := by decide +kernel
theorem d_X11_outOf_32 : decode prog_13_method_74_code 32 = .ok (.iload_n 3, 1) := by decide +kernel
theorem d_X11_outOf_33 : decode prog_13_method_74_code 33 = .ok (.ireturn, 1) := by decide +kernel
theorem d_X11_outOf_34 : decode prog_13_method_74_code 34 = .ok (.iinc 3 1, 3) := by decide +kernel
theorem d_X11_outOf_37 : decode prog_13_method_74_code 37 = .ok (.goto (-31), 3) := by decide +kernel
theorem d_X11_outOf_40 : decode prog_13_method_74_code 40 = .ok (.iconst (-1), 1) := by decide +kernel
theorem d_X11_outOf_41 : decode prog_13_method_74_code 41 = .ok (.ireturn, 1) := by decide +kernel
abbrev Y_X11_leaves : Yx := (⟨"TaskWeaveModel", "leaves", "(II)V"⟩, prog_13_method_76_code, 4, none)
abbrev M_X11_leaves : Mx := ("TaskWeaveModel", prog_13_method_76_code, 4, false)
theorem yk_X11_leaves : Yk Y_X11_leaves 2 := ⟨by decide +kernel, by decide +kernel, ⟨by decide, by decide⟩, by decide +kernel, by decide, by decide +kernel⟩
theorem d_X11_leaves_0 : decode prog_13_method_76_code 0 = .ok (.aload_n 0, 1) := by decide +kernel
theorem d_X11_leaves_1 : decode prog_13_method_76_code 1 = .ok (.getfield 161, 3) := by decide +kernel
theorem d_X11_leaves_4 : decode prog_13_method_76_code 4 = .ok (.iload_n 1, 1) := by decide +kernel
theorem d_X11_leaves_5 : decode prog_13_method_76_code 5 = .ok (.dup2, 1) := by decide +kernel
theorem d_X11_leaves_6 : decode prog_13_method_76_code 6 = .ok (.iaload, 1) := by decide +kernel
theorem d_X11_leaves_7 : decode prog_13_method_76_code 7 = .ok (.iconst 1, 1) := by decide +kernel
theorem d_X11_leaves_8 : decode prog_13_method_76_code 8 = .ok (.isub, 1) := by decide +kernel
theorem d_X11_leaves_9 : decode prog_13_method_76_code 9 = .ok (.iastore, 1) := by decide +kernel
theorem d_X11_leaves_10 : decode prog_13_method_76_code 10 = .ok (.iload_n 2, 1) := by decide +kernel
theorem d_X11_leaves_11 : decode prog_13_method_76_code 11 = .ok (.istore_n 3, 1) := by decide +kernel
theorem d_X11_leaves_12 : decode prog_13_method_76_code 12 = .ok (.iload_n 3, 1) := by decide +kernel
theorem d_X11_leaves_13 : decode prog_13_method_76_code 13 = .ok (.sipush 1024, 3) := by decide +kernel
theorem d_X11_leaves_16 : decode prog_13_method_76_code 16 = .ok (.iload_n 1, 1) := by decide +kernel
theorem d_X11_leaves_17 : decode prog_13_method_76_code 17 = .ok (.imul, 1) := by decide +kernel
theorem d_X11_leaves_18 : decode prog_13_method_76_code 18 = .ok (.aload_n 0, 1) := by decide +kernel
theorem d_X11_leaves_19 : decode prog_13_method_76_code 19 = .ok (.getfield 161, 3) := by decide +kernel
theorem d_X11_leaves_22 : decode prog_13_method_76_code 22 = .ok (.iload_n 1, 1) := by decide +kernel
theorem d_X11_leaves_23 : decode prog_13_method_76_code 23 = .ok (.iaload, 1) := by decide +kernel
theorem d_X11_leaves_24 : decode prog_13_method_76_code 24 = .ok (.iadd, 1) := by decide +kernel
theorem d_X11_leaves_25 : decode prog_13_method_76_code 25 = .ok (.if_icmp .ge 51, 3) := by decide +kernel
theorem d_X11_leaves_28 : decode prog_13_method_76_code 28 = .ok (.aload_n 0, 1) := by decide +kernel
theorem d_X11_leaves_29 : decode prog_13_method_76_code 29 = .ok (.getfield 164, 3) := by decide +kernel
theorem d_X11_leaves_32 : decode prog_13_method_76_code 32 = .ok (.iload_n 3, 1) := by decide +kernel
theorem d_X11_leaves_33 : decode prog_13_method_76_code 33 = .ok (.aload_n 0, 1) := by decide +kernel
theorem d_X11_leaves_34 : decode prog_13_method_76_code 34 = .ok (.getfield 164, 3) := by decide +kernel
theorem d_X11_leaves_37 : decode prog_13_method_76_code 37 = .ok (.iload_n 3, 1) := by decide +kernel
theorem d_X11_leaves_38 : decode prog_13_method_76_code 38 = .ok (.iconst 1, 1) := by decide +kernel
theorem d_X11_leaves_39 : decode prog_13_method_76_code 39 = .ok (.iadd, 1) := by decide +kernel
theorem d_X11_leaves_40 : decode prog_13_method_76_code 40 = .ok (.iaload, 1) := by decide +kernel
theorem d_X11_leaves_41 : decode prog_13_method_76_code 41 = .ok (.iastore, 1) := by decide +kernel
theorem d_X11_leaves_42 : decode prog_13_method_76_code 42 = .ok (.aload_n 0, 1) := by decide +kernel
theorem d_X11_leaves_43 : decode prog_13_method_76_code 43 = .ok (.getfield 167, 3) := by decide +kernel
theorem d_X11_leaves_46 : decode prog_13_method_76_code 46 = .ok (.iload_n 3, 1) := by decide +kernel
theorem d_X11_leaves_47 : decode prog_13_method_76_code 47 = .ok (.aload_n 0, 1) := by decide +kernel
theorem d_X11_leaves_48 : decode prog_13_method_76_code 48 = .ok (.getfield 167, 3) := by decide +kernel
theorem d_X11_leaves_51 : decode prog_13_method_76_code 51 = .ok (.iload_n 3, 1) := by decide +kernel
theorem d_X11_leaves_52 : decode prog_13_method_76_code 52 = .ok (.iconst 1, 1) := by decide +kernel
theorem d_X11_leaves_53 : decode prog_13_method_76_code 53 = .ok (.iadd, 1) := by decide +kernel
theorem d_X11_leaves_54 : decode prog_13_method_76_code 54 = .ok (.iaload, 1) := by decide +kernel
theorem d_X11_leaves_55 : decode prog_13_method_76_code 55 = .ok (.iastore, 1) := by decide +kernel
theorem d_X11_leaves_56 : decode prog_13_method_76_code 56 = .ok (.aload_n 0, 1) := by decide +kernel
theorem d_X11_leaves_57 : decode prog_13_method_76_code 57 = .ok (.getfield 170, 3) := by decide +kernel
theorem d_X11_leaves_60 : decode prog_13_method_76_code 60 = .ok (.iload_n 3, 1) := by decide +kernel
theorem d_X11_leaves_61 : decode prog_13_method_76_code 61 = .ok (.aload_n 0, 1) := by decide +kernel
theorem d_X11_leaves_62 : decode prog_13_method_76_code 62 = .ok (.getfield 170, 3) := by decide +kernel
theorem d_X11_leaves_65 : decode prog_13_method_76_code 65 = .ok (.iload_n 3, 1) := by decide +kernel
theorem d_X11_leaves_66 : decode prog_13_method_76_code 66 = .ok (.iconst 1, 1) := by decide +kernel
theorem d_X11_leaves_67 : decode prog_13_method_76_code 67 = .ok (.iadd, 1) := by decide +kernel
theorem d_X11_leaves_68 : decode prog_13_method_76_code 68 = .ok (.iaload, 1) := by decide +kernel
theorem d_X11_leaves_69 : decode prog_13_method_76_code 69 = .ok (.iastore, 1) := by decide +kernel
theorem d_X11_leaves_70 : decode prog_13_method_76_code 70 = .ok (.iinc 3 1, 3) := by decide +kernel
theorem d_X11_leaves_73 : decode prog_13_method_76_code 73 = .ok (.goto (-61), 3) := by decide +kernel
theorem d_X11_leaves_76 : decode prog_13_method_76_code 76 = .ok (.return_, 1) := by decide +kernel
def f_X11_valueOf (l0 : Nat) (l1 : Int32) (l2 : Int32) (l3 : Int32) (h : Hp) : Option (Int32 × Hp) := if (l2) = (0) then (some (l3, h)) else (ck (isO (h) (l0) 12) (ck (isO (h) (zR (h) 1245 (l0)) 22) (ck (inR ((((8 : Int32)) * (l1)) + (l3)) (zL (h) (zR (h) 1245 (l0)))) (some (zE (h) (zR (h) 1245 (l0)) ((((8 : Int32)) * (l1)) + (l3)).toNatClampNeg, h)))))
theorem f_X11_valueOf_ok {G : Gd} {d : Nat} (hj : 1 ≤ d) : ∀ (l0 : Nat) (l1 : Int32) (l2 : Int32) (l3 : Int32) (L : List (Nat × Value)) (h : Hp) (o : (Int32 × Hp)), zlk L 0 = some (zrf (l0)) → zlk L 1 = some (.int (l1)) → zlk L 2 = some (.int (l2)) → zlk L 3 = some (.int (l3)) → f_X11_valueOf l0 l1 l2 l3 h = some o → Ev G M_X11_valueOf d 0 L [] h (Ret Y_X11_valueOf (some (.int o.1)) o.2) := by
  intro l0 l1 l2 l3 L h o g0 g1 g2 g3 e
  unfold f_X11_valueOf at e
  refine r_iload_n d_X11_valueOf_0 rfl g2 ?_
  refine r_if_eq d_X11_valueOf_1 (tgt := 18) (by decide) (fun c1 => ?_) (fun c1 => ?_)
  · replace e := (if_pos c1).symm.trans e
    refine r_iload_n d_X11_valueOf_18 rfl g3 ?_
    cases e
    exact g_iret d_X11_valueOf_19 rfl rfl
  · replace e := (if_neg c1).symm.trans e
    refine g_ald_n d_X11_valueOf_4 rfl g0 ?_
    replace e := ckd e
    obtain ⟨k2, e⟩ := e
    refine g_getR d_X11_valueOf_5 (f := 1245) k2 fk_12_125 rfl rfl ?_
    refine r_bipush d_X11_valueOf_8 (v := (8 : Int32)) (by decide +kernel) ?_
    refine r_iload_n d_X11_valueOf_10 rfl g1 ?_
    refine r_imul d_X11_valueOf_11 ?_
    refine r_iload_n d_X11_valueOf_12 rfl g3 ?_
    refine r_iadd d_X11_valueOf_13 ?_
    replace e := ckd e
    obtain ⟨k3, e⟩ := e
    replace e := ckd e
    obtain ⟨k4, e⟩ := e
    refine g_iald d_X11_valueOf_14 k3 k4 rfl ?_
    refine r_goto d_X11_valueOf_15 (tgt := 19) (by decide) ?_
    cases e
    exact g_iret d_X11_valueOf_19 rfl rfl

theorem c_X11_valueOf {G : Gd} {j : Nat} (hj : 1 ≤ j) {l0 : Nat} {l1 : Int32} {l2 : Int32} {l3 : Int32} {h : Hp} {o : (Int32 × Hp)} (e : f_X11_valueOf l0 l1 l2 l3 h = some o) : Cal G j Y_X11_valueOf [zrf (l0), .int (l1), .int (l2), .int (l3)] h (some (.int o.1)) o.2 := Cal.of (n := 0) (I := false) (by decide +kernel) (by decide) (by simp [lg_sl, zrf_cat, cat_int, cat_long]) (f_X11_valueOf_ok hj _ _ _ _ _ h o (by simp [lv_args, zlk, zrf_cat, cat_int, cat_long]) (by simp [lv_args, zlk, zrf_cat, cat_int, cat_long]) (by simp [lv_args, zlk, zrf_cat, cat_int, cat_long]) (by simp [lv_args, zlk, zrf_cat, cat_int, cat_long]) e)
theorem fk_12_315 : Fk "TaskWeaveModel" 315 1263 := ⟨by decide, by decide, by decide +kernel⟩
theorem vk_12_343 : Vk "TaskWeaveModel" 343 3 12 Y_X11_valueOf := ⟨yk_X11_valueOf, by decide +kernel, by decide +kernel, by decide +kernel, by decide⟩
theorem vk_12_347 : Vk "TaskWeaveModel" 347 4 12 Y_X11_asks := ⟨yk_X11_asks, by decide +kernel, by decide +kernel, by decide +kernel, by decide⟩
def f_X11_goesStep (l0 : Nat) (l1 : Int32) (h : Hp) : Option Hp := ck (isO (h) (l0) 12) (ck (isO (h) (zR (h) 1242 (l0)) 22) (ck (inR (l1) (zL (h) (zR (h) 1242 (l0)))) (bh (zE (h) (zR (h) 1242 (l0)) (l1).toNatClampNeg) (fun x4 => ck (isO (h) (zR (h) 1210 (l0)) 22) (ck (inR (x4) (zL (h) (zR (h) 1210 (l0)))) (if (zI (h) 1263 (l0)) = (zE (h) (zR (h) 1210 (l0)) (x4).toNatClampNeg) then ((f_X11_own (l0) (l1) ((10 : Int32)) ((0 : Int32)) ((0 : Int32)) (h)).bind (fun q87 => some (q87.2))) else (if (zI (h) 1267 (l0)) = ((200 : Int32)) then ((f_X11_own (l0) (l1) ((12 : Int32)) ((-1 : Int32)) ((0 : Int32)) (h)).bind (fun q86 => some (q86.2))) else (bh (pI (h) 1267 (l0) ((zI (h) 1267 (l0)) + ((1 : Int32)))) (fun h9 => ck (isO (h9) (zR (h9) 1209 (l0)) 22) (ck (inR (x4) (zL (h9) (zR (h9) 1209 (l0)))) (bh ((zE (h9) (zR (h9) 1209 (l0)) (x4).toNatClampNeg) + (zI (h9) 1263 (l0))) (fun x12 => bh (pI (h9) 1263 (l0) ((zI (h9) 1263 (l0)) + ((1 : Int32)))) (fun h13 => ck (isO (h13) (zR (h13) 1216 (l0)) 23) (ck (inR (x12) (zL (h13) (zR (h13) 1216 (l0)))) (ck (isO (h13) (zR (h13) 1217 (l0)) 22) (ck (inR (x12) (zL (h13) (zR (h13) 1217 (l0)))) ((f_X11_valueOf (l0) (l1) (zE (h13) (zR (h13) 1216 (l0)) (x12).toNatClampNeg) (zE (h13) (zR (h13) 1217 (l0)) (x12).toNatClampNeg) (h13)).bind (fun q18 => ck (isO (q18.2) (l0) 12) (ck (isO (q18.2) (zR (q18.2) 1218 (l0)) 23) (ck (inR (x12) (zL (q18.2) (zR (q18.2) 1218 (l0)))) (ck (isO (q18.2) (zR (q18.2) 1219 (l0)) 22) (ck (inR (x12) (zL (q18.2) (zR (q18.2) 1219 (l0)))) ((f_X11_valueOf (l0) (l1) (zE (q18.2) (zR (q18.2) 1218 (l0)) (x12).toNatClampNeg) (zE (q18.2) (zR (q18.2) 1219 (l0)) (x12).toNatClampNeg) (q18.2)).bind (fun q24 => ck (isO (q24.2) (l0) 12) (ck (isO (q24.2) (zR (q24.2) 1215 (l0)) 22) (ck (inR (x12) (zL (q24.2) (zR (q24.2) 1215 (l0)))) (bh ((((8 : Int32)) * (l1)) + (zE (q24.2) (zR (q24.2) 1215 (l0)) (x12).toNatClampNeg)) (fun x28 => ck (isO (q24.2) (zR (q24.2) 1214 (l0)) 22) (ck (inR (x12) (zL (q24.2) (zR (q24.2) 1214 (l0)))) (if (zE (q24.2) (zR (q24.2) 1214 (l0)) (x12).toNatClampNeg) = (0 : Int32) then (ck (isO (q24.2) (zR (q24.2) 1245 (l0)) 22) (ck (inR (x28) (zL (q24.2) (zR (q24.2) 1245 (l0)))) (bh (pE (q24.2) (zR (q24.2) 1245 (l0)) (x28).toNatClampNeg (q18.1)) (fun h34 => some (h34))))) else (if (zE (q24.2) (zR (q24.2) 1214 (l0)) (x12).toNatClampNeg) = (1 : Int32) then (ck (isO (q24.2) (zR (q24.2) 1245 (l0)) 22) (ck (inR (x28) (zL (q24.2) (zR (q24.2) 1245 (l0)))) (bh (pE (q24.2) (zR (q24.2) 1245 (l0)) (x28).toNatClampNeg ((q18.1) + (q24.1))) (fun h38 => some (h38))))) else (if (zE (q24.2) (zR (q24.2) 1214 (l0)) (x12).toNatClampNeg) = (2 : Int32) then (ck (isO (q24.2) (zR (q24.2) 1245 (l0)) 22) (ck (inR (x28) (zL (q24.2) (zR (q24.2) 1245 (l0)))) (bh (pE (q24.2) (zR (q24.2) 1245 (l0)) (x28).toNatClampNeg ((q18.1) - (q24.1))) (fun h42 => some (h42))))) else (if (zE (q24.2) (zR (q24.2) 1214 (l0)) (x12).toNatClampNeg) = (3 : Int32) then (ck (isO (q24.2) (zR (q24.2) 1245 (l0)) 22) (ck (inR (x28) (zL (q24.2) (zR (q24.2) 1245 (l0)))) (bh (pE (q24.2) (zR (q24.2) 1245 (l0)) (x28).toNatClampNeg ((q18.1) * (q24.1))) (fun h46 => some (h46))))) else (if (zE (q24.2) (zR (q24.2) 1214 (l0)) (x12).toNatClampNeg) = (4 : Int32) then (if (q24.1) ≤ (q18.1) then (ck (isO (q24.2) (zR (q24.2) 1245 (l0)) 22) (ck (inR (x28) (zL (q24.2) (zR (q24.2) 1245 (l0)))) (bh (pE (q24.2) (zR (q24.2) 1245 (l0)) (x28).toNatClampNeg ((0 : Int32))) (fun h51 => some (h51))))) else (ck (isO (q24.2) (zR (q24.2) 1245 (l0)) 22) (ck (inR (x28) (zL (q24.2) (zR (q24.2) 1245 (l0)))) (bh (pE (q24.2) (zR (q24.2) 1245 (l0)) (x28).toNatClampNeg ((1 : Int32))) (fun h54 => some (h54)))))) else (if (zE (q24.2) (zR (q24.2) 1214 (l0)) (x12).toNatClampNeg) = (5 : Int32) then (if (q18.1) = (q24.1) then (ck (isO (q24.2) (zR (q24.2) 1245 (l0)) 22) (ck (inR (x28) (zL (q24.2) (zR (q24.2) 1245 (l0)))) (bh (pE (q24.2) (zR (q24.2) 1245 (l0)) (x28).toNatClampNeg ((1 : Int32))) (fun h62 => some (h62))))) else (ck (isO (q24.2) (zR (q24.2) 1245 (l0)) 22) (ck (inR (x28) (zL (q24.2) (zR (q24.2) 1245 (l0)))) (bh (pE (q24.2) (zR (q24.2) 1245 (l0)) (x28).toNatClampNeg ((0 : Int32))) (fun h59 => some (h59)))))) else (if (zE (q24.2) (zR (q24.2) 1214 (l0)) (x12).toNatClampNeg) = (6 : Int32) then ((f_X11_asks (l0) (l1) (x12) (q18.1) (q24.1) (q24.2)).bind (fun q64 => some (q64))) else (if (zE (q24.2) (zR (q24.2) 1214 (l0)) (x12).toNatClampNeg) = (7 : Int32) then ((f_X11_asks (l0) (l1) (x12) (q18.1) (q24.1) (q24.2)).bind (fun q66 => some (q66))) else (if (zE (q24.2) (zR (q24.2) 1214 (l0)) (x12).toNatClampNeg) = (8 : Int32) then ((f_X11_asks (l0) (l1) (x12) (q18.1) (q24.1) (q24.2)).bind (fun q68 => some (q68))) else (if (zE (q24.2) (zR (q24.2) 1214 (l0)) (x12).toNatClampNeg) = (9 : Int32) then ((f_X11_asks (l0) (l1) (x12) (q18.1) (q24.1) (q24.2)).bind (fun q70 => some (q70))) else (if (zE (q24.2) (zR (q24.2) 1214 (l0)) (x12).toNatClampNeg) = (10 : Int32) then ((f_X11_asks (l0) (l1) (x12) (q18.1) (q24.1) (q24.2)).bind (fun q72 => some (q72))) else (if (zE (q24.2) (zR (q24.2) 1214 (l0)) (x12).toNatClampNeg) = (11 : Int32) then ((f_X11_asks (l0) (l1) (x12) (q18.1) (q24.1) (q24.2)).bind (fun q74 => some (q74))) else (if (zE (q24.2) (zR (q24.2) 1214 (l0)) (x12).toNatClampNeg) = (12 : Int32) then (if (q18.1) = (0) then (bh (pI (q24.2) 1263 (l0) (zI (q24.2) 1263 (l0))) (fun h77 => some (h77))) else (ck (isO (q24.2) (zR (q24.2) 1220 (l0)) 22) (ck (inR (x12) (zL (q24.2) (zR (q24.2) 1220 (l0)))) (bh (pI (q24.2) 1263 (l0) (zE (q24.2) (zR (q24.2) 1220 (l0)) (x12).toNatClampNeg)) (fun h80 => some (h80)))))) else (if (zE (q24.2) (zR (q24.2) 1214 (l0)) (x12).toNatClampNeg) = (13 : Int32) then (ck (isO (q24.2) (zR (q24.2) 1220 (l0)) 22) (ck (inR (x12) (zL (q24.2) (zR (q24.2) 1220 (l0)))) (bh (pI (q24.2) 1263 (l0) (zE (q24.2) (zR (q24.2) 1220 (l0)) (x12).toNatClampNeg)) (fun h84 => some (h84))))) else ((f_X11_asks (l0) (l1) (x12) (q18.1) (q24.1) (q24.2)).bind (fun q85 => some (q85))))))))))))))))))))))))))))))))))))))))))))))
theorem f_X11_goesStep_ok {G : Gd} {d : Nat} (hj : 5 ≤ d) : ∀ (l0 : Nat) (l1 : Int32) (L : List (Nat × Value)) (h : Hp) (o : Hp), zlk L 0 = some (zrf (l0)) → zlk L 1 = some (.int (l1)) → f_X11_goesStep l0 l1 h = some o → Ev G M_X11_goesStep d 0 L [] h (Ret Y_X11_goesStep none o) := by
  intro l0 l1 L h o g0 g1 e
  unfold f_X11_goesStep at e
  refine g_ald_n d_X11_goesStep_0 rfl g0 ?_
  replace e := ckd e
  obtain ⟨k1, e⟩ := e
  refine g_getR d_X11_goesStep_1 (f := 1242) k1 fk_12_116 rfl rfl ?_
  refine r_iload_n d_X11_goesStep_4 rfl g1 ?_
  replace e := ckd e
  obtain ⟨k2, e⟩ := e
  replace e := ckd e
  obtain ⟨k3, e⟩ := e
  refine g_iald d_X11_goesStep_5 k2 k3 rfl ?_
  replace e := bhd e
  obtain ⟨_, rfl, e⟩ := e
  refine s_istore_n d_X11_goesStep_6 rfl (by decide) (fun L g2 gK => ?_)
  replace g0 := gK _ _ (by decide) (Or.inr (zrf_cat _)) g0
  replace g1 := gK _ _ (by decide) (Or.inr rfl) g1
  refine g_ald_n d_X11_goesStep_7 rfl g0 ?_
  refine g_getI d_X11_goesStep_8 (f := 1263) k1 fk_12_315 rfl rfl ?_
  refine g_ald_n d_X11_goesStep_11 rfl g0 ?_
  refine g_getR d_X11_goesStep_12 (f := 1210) k1 fk_12_26 rfl rfl ?_
  refine r_iload_n d_X11_goesStep_15 rfl g2 ?_
  replace e := ckd e
  obtain ⟨k5, e⟩ := e
  replace e := ckd e
  obtain ⟨k6, e⟩ := e
  refine g_iald d_X11_goesStep_16 k5 k6 rfl ?_
  refine r_icmp_ne d_X11_goesStep_17 (tgt := 31) (by decide) (fun c7 => ?_) (fun c7 => ?_)
  · replace e := (if_neg c7).symm.trans e
    refine g_ald_n d_X11_goesStep_31 rfl g0 ?_
    refine g_getI d_X11_goesStep_32 (f := 1267) k1 fk_12_327 rfl rfl ?_
    refine r_sipush d_X11_goesStep_35 (v := (200 : Int32)) (by decide +kernel) ?_
    refine r_icmp_ne d_X11_goesStep_38 (tgt := 52) (by decide) (fun c8 => ?_) (fun c8 => ?_)
    · replace e := (if_neg c8).symm.trans e
      refine g_ald_n d_X11_goesStep_52 rfl g0 ?_
      refine r_dup d_X11_goesStep_53 (zrf_cat _) ?_
      refine g_getI d_X11_goesStep_54 (f := 1267) k1 fk_12_327 rfl rfl ?_
      refine r_iconst d_X11_goesStep_57 (v := (1 : Int32)) (by decide +kernel) ?_
      refine r_iadd d_X11_goesStep_58 ?_
      refine g_putI d_X11_goesStep_59 (f := 1267) k1 fk_12_327 rfl (Or.inl rfl) ⟨rfl, rfl⟩ ?_
      replace e := bhd e
      obtain ⟨_, rfl, e⟩ := e
      refine g_ald_n d_X11_goesStep_62 rfl g0 ?_
      refine g_getR d_X11_goesStep_63 (f := 1209) (tO_pI k1) fk_12_23 rfl rfl ?_
      refine r_iload_n d_X11_goesStep_66 rfl g2 ?_
      replace e := ckd e
      obtain ⟨k10, e⟩ := e
      replace e := ckd e
      obtain ⟨k11, e⟩ := e
      refine g_iald d_X11_goesStep_67 k10 k11 rfl ?_
      refine g_ald_n d_X11_goesStep_68 rfl g0 ?_
      refine g_getI d_X11_goesStep_69 (f := 1263) (tO_pI k1) fk_12_315 rfl rfl ?_
      refine r_iadd d_X11_goesStep_72 ?_
      replace e := bhd e
      obtain ⟨_, rfl, e⟩ := e
      refine s_istore_n d_X11_goesStep_73 rfl (by decide) (fun L g3 gK => ?_)
      replace g0 := gK _ _ (by decide) (Or.inr (zrf_cat _)) g0
      replace g1 := gK _ _ (by decide) (Or.inr rfl) g1
      refine g_ald_n d_X11_goesStep_74 rfl g0 ?_
      refine r_dup d_X11_goesStep_75 (zrf_cat _) ?_
      refine g_getI d_X11_goesStep_76 (f := 1263) (tO_pI k1) fk_12_315 rfl rfl ?_
      refine r_iconst d_X11_goesStep_79 (v := (1 : Int32)) (by decide +kernel) ?_
      refine r_iadd d_X11_goesStep_80 ?_
      refine g_putI d_X11_goesStep_81 (f := 1263) (tO_pI k1) fk_12_315 rfl (Or.inl rfl) ⟨rfl, rfl⟩ ?_
      replace e := bhd e
      obtain ⟨_, rfl, e⟩ := e
      refine g_ald_n d_X11_goesStep_84 rfl g0 ?_
      refine r_iload_n d_X11_goesStep_85 rfl g1 ?_
      refine g_ald_n d_X11_goesStep_86 rfl g0 ?_
      refine g_getR d_X11_goesStep_87 (f := 1216) (tO_pI (tO_pI k1)) fk_12_41 rfl rfl ?_
      refine r_iload_n d_X11_goesStep_90 rfl g3 ?_
      replace e := ckd e
      obtain ⟨k14, e⟩ := e
      replace e := ckd e
      obtain ⟨k15, e⟩ := e
      refine g_zald d_X11_goesStep_91 k14 k15 rfl ?_
      refine g_ald_n d_X11_goesStep_92 rfl g0 ?_
      refine g_getR d_X11_goesStep_93 (f := 1217) (tO_pI (tO_pI k1)) fk_12_45 rfl rfl ?_
      refine r_iload_n d_X11_goesStep_96 rfl g3 ?_
      replace e := ckd e
      obtain ⟨k16, e⟩ := e
      replace e := ckd e
      obtain ⟨k17, e⟩ := e
      refine g_iald d_X11_goesStep_97 k16 k17 rfl ?_
      replace e := bd e
      obtain ⟨q18, eq18, e⟩ := e
      refine g_callV d_X11_goesStep_98 vk_12_343 (as := [_, _, _]) rfl (tO_pI (tO_pI k1)) rfl (by simp [zrf_cat, cat_int, cat_long]) (j := 1) (by omega) (c_X11_valueOf (by omega) eq18) ?_
      refine s_istore d_X11_goesStep_101 (by decide) (fun L g4 gK => ?_)
      replace g0 := gK _ _ (by decide) (Or.inr (zrf_cat _)) g0
      replace g1 := gK _ _ (by decide) (Or.inr rfl) g1
      replace g3 := gK _ _ (by decide) (Or.inr rfl) g3
      refine g_ald_n d_X11_goesStep_103 rfl g0 ?_
      refine r_iload_n d_X11_goesStep_104 rfl g1 ?_
      refine g_ald_n d_X11_goesStep_105 rfl g0 ?_
      replace e := ckd e
      obtain ⟨k19, e⟩ := e
      refine g_getR d_X11_goesStep_106 (f := 1218) k19 fk_12_48 rfl rfl ?_
      refine r_iload_n d_X11_goesStep_109 rfl g3 ?_
      replace e := ckd e
      obtain ⟨k20, e⟩ := e
      replace e := ckd e
      obtain ⟨k21, e⟩ := e
      refine g_zald d_X11_goesStep_110 k20 k21 rfl ?_
      refine g_ald_n d_X11_goesStep_111 rfl g0 ?_
      refine g_getR d_X11_goesStep_112 (f := 1219) k19 fk_12_51 rfl rfl ?_
      refine r_iload_n d_X11_goesStep_115 rfl g3 ?_
      replace e := ckd e
      obtain ⟨k22, e⟩ := e
      replace e := ckd e
      obtain ⟨k23, e⟩ := e
      refine g_iald d_X11_goesStep_116 k22 k23 rfl ?_
      replace e := bd e
      obtain ⟨q24, eq24, e⟩ := e
      refine g_callV d_X11_goesStep_117 vk_12_343 (as := [_, _, _]) rfl k19 rfl (by simp [zrf_cat, cat_int, cat_long]) (j := 1) (by omega) (c_X11_valueOf (by omega) eq24) ?_
      refine s_istore d_X11_goesStep_120 (by decide) (fun L g5 gK => ?_)
      replace g0 := gK _ _ (by decide) (Or.inr (zrf_cat _)) g0
      replace g1 := gK _ _ (by decide) (Or.inr rfl) g1
      replace g3 := gK _ _ (by decide) (Or.inr rfl) g3
      replace g4 := gK _ _ (by decide) (Or.inr rfl) g4
      refine r_bipush d_X11_goesStep_122 (v := (8 : Int32)) (by decide +kernel) ?_
      refine r_iload_n d_X11_goesStep_124 rfl g1 ?_
      refine r_imul d_X11_goesStep_125 ?_
      refine g_ald_n d_X11_goesStep_126 rfl g0 ?_
      replace e := ckd e
      obtain ⟨k25, e⟩ := e
      refine g_getR d_X11_goesStep_127 (f := 1215) k25 fk_12_38 rfl rfl ?_
      refine r_iload_n d_X11_goesStep_130 rfl g3 ?_
      replace e := ckd e
      obtain ⟨k26, e⟩ := e
      replace e := ckd e
      obtain ⟨k27, e⟩ := e
      refine g_iald d_X11_goesStep_131 k26 k27 rfl ?_
      refine r_iadd d_X11_goesStep_132 ?_
      replace e := bhd e
      obtain ⟨_, rfl, e⟩ := e
      refine s_istore d_X11_goesStep_133 (by decide) (fun L g6 gK => ?_)
      replace g0 := gK _ _ (by decide) (Or.inr (zrf_cat _)) g0
      replace g1 := gK _ _ (by decide) (Or.inr rfl) g1
      replace g3 := gK _ _ (by decide) (Or.inr rfl) g3
      replace g4 := gK _ _ (by decide) (Or.inr rfl) g4
      replace g5 := gK _ _ (by decide) (Or.inr rfl) g5
      refine g_ald_n d_X11_goesStep_135 rfl g0 ?_
      refine g_getR d_X11_goesStep_136 (f := 1214) k25 fk_12_35 rfl rfl ?_
      refine r_iload_n d_X11_goesStep_139 rfl g3 ?_
      replace e := ckd e
      obtain ⟨k29, e⟩ := e
      replace e := ckd e
      obtain ⟨k30, e⟩ := e
      refine g_iald d_X11_goesStep_140 k29 k30 rfl ?_
      rcases ite_or e with ⟨c31, e⟩ | ⟨c31, e⟩
      · refine r_tableIn d_X11_goesStep_141 (off := 71) (tgt := 212) (by rw [c31]; decide +kernel) (by rw [c31]; decide +kernel) (by rw [c31] <;> rfl) (by decide) ?_
        refine g_ald_n d_X11_goesStep_212 rfl g0 ?_
        refine g_getR d_X11_goesStep_213 (f := 1245) k25 fk_12_125 rfl rfl ?_
        refine r_iload d_X11_goesStep_216 g6 ?_
        refine r_iload d_X11_goesStep_218 g4 ?_
        replace e := ckd e
        obtain ⟨k32, e⟩ := e
        replace e := ckd e
        obtain ⟨k33, e⟩ := e
        refine g_iast d_X11_goesStep_220 k32 k33 ?_
        replace e := bhd e
        obtain ⟨_, rfl, e⟩ := e
        refine r_goto d_X11_goesStep_221 (tgt := 361) (by decide) ?_
        cases e
        exact g_vret d_X11_goesStep_361 rfl
      · rcases ite_or e with ⟨c35, e⟩ | ⟨c35, e⟩
        · refine r_tableIn d_X11_goesStep_141 (off := 83) (tgt := 224) (by rw [c35]; decide +kernel) (by rw [c35]; decide +kernel) (by rw [c35] <;> rfl) (by decide) ?_
          refine g_ald_n d_X11_goesStep_224 rfl g0 ?_
          refine g_getR d_X11_goesStep_225 (f := 1245) k25 fk_12_125 rfl rfl ?_
          refine r_iload d_X11_goesStep_228 g6 ?_
          refine r_iload d_X11_goesStep_230 g4 ?_
          refine r_iload d_X11_goesStep_232 g5 ?_
          refine r_iadd d_X11_goesStep_234 ?_
          replace e := ckd e
          obtain ⟨k36, e⟩ := e
          replace e := ckd e
          obtain ⟨k37, e⟩ := e
          refine g_iast d_X11_goesStep_235 k36 k37 ?_
          replace e := bhd e
          obtain ⟨_, rfl, e⟩ := e
          refine r_goto d_X11_goesStep_236 (tgt := 361) (by decide) ?_
          cases e
          exact g_vret d_X11_goesStep_361 rfl
        · rcases ite_or e with ⟨c39, e⟩ | ⟨c39, e⟩
          · refine r_tableIn d_X11_goesStep_141 (off := 98) (tgt := 239) (by rw [c39]; decide +kernel) (by rw [c39]; decide +kernel) (by rw [c39] <;> rfl) (by decide) ?_
            refine g_ald_n d_X11_goesStep_239 rfl g0 ?_
            refine g_getR d_X11_goesStep_240 (f := 1245) k25 fk_12_125 rfl rfl ?_
            refine r_iload d_X11_goesStep_243 g6 ?_
            refine r_iload d_X11_goesStep_245 g4 ?_
            refine r_iload d_X11_goesStep_247 g5 ?_
            refine r_isub d_X11_goesStep_249 ?_
            replace e := ckd e
            obtain ⟨k40, e⟩ := e
            replace e := ckd e
            obtain ⟨k41, e⟩ := e
            refine g_iast d_X11_goesStep_250 k40 k41 ?_
            replace e := bhd e
            obtain ⟨_, rfl, e⟩ := e
            refine r_goto d_X11_goesStep_251 (tgt := 361) (by decide) ?_
            cases e
            exact g_vret d_X11_goesStep_361 rfl
          · rcases ite_or e with ⟨c43, e⟩ | ⟨c43, e⟩
            · refine r_tableIn d_X11_goesStep_141 (off := 113) (tgt := 254) (by rw [c43]; decide +kernel) (by rw [c43]; decide +kernel) (by rw [c43] <;> rfl) (by decide) ?_
              refine g_ald_n d_X11_goesStep_254 rfl g0 ?_
              refine g_getR d_X11_goesStep_255 (f := 1245) k25 fk_12_125 rfl rfl ?_
              refine r_iload d_X11_goesStep_258 g6 ?_
              refine r_iload d_X11_goesStep_260 g4 ?_
              refine r_iload d_X11_goesStep_262 g5 ?_
              refine r_imul d_X11_goesStep_264 ?_
              replace e := ckd e
              obtain ⟨k44, e⟩ := e
              replace e := ckd e
              obtain ⟨k45, e⟩ := e
              refine g_iast d_X11_goesStep_265 k44 k45 ?_
              replace e := bhd e
              obtain ⟨_, rfl, e⟩ := e
              refine r_goto d_X11_goesStep_266 (tgt := 361) (by decide) ?_
              cases e
              exact g_vret d_X11_goesStep_361 rfl
            · rcases ite_or e with ⟨c47, e⟩ | ⟨c47, e⟩
              · refine r_tableIn d_X11_goesStep_141 (off := 128) (tgt := 269) (by rw [c47]; decide +kernel) (by rw [c47]; decide +kernel) (by rw [c47] <;> rfl) (by decide) ?_
                refine g_ald_n d_X11_goesStep_269 rfl g0 ?_
                refine g_getR d_X11_goesStep_270 (f := 1245) k25 fk_12_125 rfl rfl ?_
                refine r_iload d_X11_goesStep_273 g6 ?_
                refine r_iload d_X11_goesStep_275 g4 ?_
                refine r_iload d_X11_goesStep_277 g5 ?_
                refine r_icmp_ge d_X11_goesStep_279 (tgt := 286) (by decide) (fun c48 => ?_) (fun c48 => ?_)
                · replace e := (if_pos c48).symm.trans e
                  refine r_iconst d_X11_goesStep_286 (v := (0 : Int32)) (by decide +kernel) ?_
                  replace e := ckd e
                  obtain ⟨k49, e⟩ := e
                  replace e := ckd e
                  obtain ⟨k50, e⟩ := e
                  refine g_iast d_X11_goesStep_287 k49 k50 ?_
                  replace e := bhd e
                  obtain ⟨_, rfl, e⟩ := e
                  refine r_goto d_X11_goesStep_288 (tgt := 361) (by decide) ?_
                  cases e
                  exact g_vret d_X11_goesStep_361 rfl
                · replace e := (if_neg c48).symm.trans e
                  refine r_iconst d_X11_goesStep_282 (v := (1 : Int32)) (by decide +kernel) ?_
                  refine r_goto d_X11_goesStep_283 (tgt := 287) (by decide) ?_
                  replace e := ckd e
                  obtain ⟨k52, e⟩ := e
                  replace e := ckd e
                  obtain ⟨k53, e⟩ := e
                  refine g_iast d_X11_goesStep_287 k52 k53 ?_
                  replace e := bhd e
                  obtain ⟨_, rfl, e⟩ := e
                  refine r_goto d_X11_goesStep_288 (tgt := 361) (by decide) ?_
                  cases e
                  exact g_vret d_X11_goesStep_361 rfl
              · rcases ite_or e with ⟨c55, e⟩ | ⟨c55, e⟩
                · refine r_tableIn d_X11_goesStep_141 (off := 150) (tgt := 291) (by rw [c55]; decide +kernel) (by rw [c55]; decide +kernel) (by rw [c55] <;> rfl) (by decide) ?_
                  refine g_ald_n d_X11_goesStep_291 rfl g0 ?_
                  refine g_getR d_X11_goesStep_292 (f := 1245) k25 fk_12_125 rfl rfl ?_
                  refine r_iload d_X11_goesStep_295 g6 ?_
                  refine r_iload d_X11_goesStep_297 g4 ?_
                  refine r_iload d_X11_goesStep_299 g5 ?_
                  refine r_icmp_ne d_X11_goesStep_301 (tgt := 308) (by decide) (fun c56 => ?_) (fun c56 => ?_)
                  · replace e := (if_neg c56).symm.trans e
                    refine r_iconst d_X11_goesStep_308 (v := (0 : Int32)) (by decide +kernel) ?_
                    replace e := ckd e
                    obtain ⟨k57, e⟩ := e
                    replace e := ckd e
                    obtain ⟨k58, e⟩ := e
                    refine g_iast d_X11_goesStep_309 k57 k58 ?_
                    replace e := bhd e
                    obtain ⟨_, rfl, e⟩ := e
                    refine r_goto d_X11_goesStep_310 (tgt := 361) (by decide) ?_
                    cases e
                    exact g_vret d_X11_goesStep_361 rfl
                  · replace e := (if_pos c56).symm.trans e
                    refine r_iconst d_X11_goesStep_304 (v := (1 : Int32)) (by decide +kernel) ?_
                    refine r_goto d_X11_goesStep_305 (tgt := 309) (by decide) ?_
                    replace e := ckd e
                    obtain ⟨k60, e⟩ := e
                    replace e := ckd e
                    obtain ⟨k61, e⟩ := e
                    refine g_iast d_X11_goesStep_309 k60 k61 ?_
                    replace e := bhd e
                    obtain ⟨_, rfl, e⟩ := e
                    refine r_goto d_X11_goesStep_310 (tgt := 361) (by decide) ?_
                    cases e
                    exact g_vret d_X11_goesStep_361 rfl
                · rcases ite_or e with ⟨c63, e⟩ | ⟨c63, e⟩
                  · refine r_tableIn d_X11_goesStep_141 (off := 210) (tgt := 351) (by rw [c63]; decide +kernel) (by rw [c63]; decide +kernel) (by rw [c63] <;> rfl) (by decide) ?_
                    refine g_ald_n d_X11_goesStep_351 rfl g0 ?_
                    refine r_iload_n d_X11_goesStep_352 rfl g1 ?_
                    refine r_iload_n d_X11_goesStep_353 rfl g3 ?_
                    refine r_iload d_X11_goesStep_354 g4 ?_
                    refine r_iload d_X11_goesStep_356 g5 ?_
                    replace e := bd e
                    obtain ⟨q64, eq64, e⟩ := e
                    refine g_callV d_X11_goesStep_358 vk_12_347 (as := [_, _, _, _]) rfl k25 rfl (by simp [zrf_cat, cat_int, cat_long]) (j := 4) (by omega) (c_X11_asks (by omega) eq64) ?_
                    cases e
                    exact g_vret d_X11_goesStep_361 rfl
                  · rcases ite_or e with ⟨c65, e⟩ | ⟨c65, e⟩
                    · refine r_tableIn d_X11_goesStep_141 (off := 210) (tgt := 351) (by rw [c65]; decide +kernel) (by rw [c65]; decide +kernel) (by rw [c65] <;> rfl) (by decide) ?_
                      refine g_ald_n d_X11_goesStep_351 rfl g0 ?_
                      refine r_iload_n d_X11_goesStep_352 rfl g1 ?_
                      refine r_iload_n d_X11_goesStep_353 rfl g3 ?_
                      refine r_iload d_X11_goesStep_354 g4 ?_
                      refine r_iload d_X11_goesStep_356 g5 ?_
                      replace e := bd e
                      obtain ⟨q66, eq66, e⟩ := e
                      refine g_callV d_X11_goesStep_358 vk_12_347 (as := [_, _, _, _]) rfl k25 rfl (by simp [zrf_cat, cat_int, cat_long]) (j := 4) (by omega) (c_X11_asks (by omega) eq66) ?_
                      cases e
                      exact g_vret d_X11_goesStep_361 rfl
                    · rcases ite_or e with ⟨c67, e⟩ | ⟨c67, e⟩
                      · refine r_tableIn d_X11_goesStep_141 (off := 210) (tgt := 351) (by rw [c67]; decide +kernel) (by rw [c67]; decide +kernel) (by rw [c67] <;> rfl) (by decide) ?_
                        refine g_ald_n d_X11_goesStep_351 rfl g0 ?_
                        refine r_iload_n d_X11_goesStep_352 rfl g1 ?_
                        refine r_iload_n d_X11_goesStep_353 rfl g3 ?_
                        refine r_iload d_X11_goesStep_354 g4 ?_
                        refine r_iload d_X11_goesStep_356 g5 ?_
                        replace e := bd e
                        obtain ⟨q68, eq68, e⟩ := e
                        refine g_callV d_X11_goesStep_358 vk_12_347 (as := [_, _, _, _]) rfl k25 rfl (by simp [zrf_cat, cat_int, cat_long]) (j := 4) (by omega) (c_X11_asks (by omega) eq68) ?_
                        cases e
                        exact g_vret d_X11_goesStep_361 rfl
                      · rcases ite_or e with ⟨c69, e⟩ | ⟨c69, e⟩
                        · refine r_tableIn d_X11_goesStep_141 (off := 210) (tgt := 351) (by rw [c69]; decide +kernel) (by rw [c69]; decide +kernel) (by rw [c69] <;> rfl) (by decide) ?_
                          refine g_ald_n d_X11_goesStep_351 rfl g0 ?_
                          refine r_iload_n d_X11_goesStep_352 rfl g1 ?_
                          refine r_iload_n d_X11_goesStep_353 rfl g3 ?_
                          refine r_iload d_X11_goesStep_354 g4 ?_
                          refine r_iload d_X11_goesStep_356 g5 ?_
                          replace e := bd e
                          obtain ⟨q70, eq70, e⟩ := e
                          refine g_callV d_X11_goesStep_358 vk_12_347 (as := [_, _, _, _]) rfl k25 rfl (by simp [zrf_cat, cat_int, cat_long]) (j := 4) (by omega) (c_X11_asks (by omega) eq70) ?_
                          cases e
                          exact g_vret d_X11_goesStep_361 rfl
                        · rcases ite_or e with ⟨c71, e⟩ | ⟨c71, e⟩
                          · refine r_tableIn d_X11_goesStep_141 (off := 210) (tgt := 351) (by rw [c71]; decide +kernel) (by rw [c71]; decide +kernel) (by rw [c71] <;> rfl) (by decide) ?_
                            refine g_ald_n d_X11_goesStep_351 rfl g0 ?_
                            refine r_iload_n d_X11_goesStep_352 rfl g1 ?_
                            refine r_iload_n d_X11_goesStep_353 rfl g3 ?_
                            refine r_iload d_X11_goesStep_354 g4 ?_
                            refine r_iload d_X11_goesStep_356 g5 ?_
                            replace e := bd e
                            obtain ⟨q72, eq72, e⟩ := e
                            refine g_callV d_X11_goesStep_358 vk_12_347 (as := [_, _, _, _]) rfl k25 rfl (by simp [zrf_cat, cat_int, cat_long]) (j := 4) (by omega) (c_X11_asks (by omega) eq72) ?_
                            cases e
                            exact g_vret d_X11_goesStep_361 rfl
                          · rcases ite_or e with ⟨c73, e⟩ | ⟨c73, e⟩
                            · refine r_tableIn d_X11_goesStep_141 (off := 210) (tgt := 351) (by rw [c73]; decide +kernel) (by rw [c73]; decide +kernel) (by rw [c73] <;> rfl) (by decide) ?_
                              refine g_ald_n d_X11_goesStep_351 rfl g0 ?_
                              refine r_iload_n d_X11_goesStep_352 rfl g1 ?_
                              refine r_iload_n d_X11_goesStep_353 rfl g3 ?_
                              refine r_iload d_X11_goesStep_354 g4 ?_
                              refine r_iload d_X11_goesStep_356 g5 ?_
                              replace e := bd e
                              obtain ⟨q74, eq74, e⟩ := e
                              refine g_callV d_X11_goesStep_358 vk_12_347 (as := [_, _, _, _]) rfl k25 rfl (by simp [zrf_cat, cat_int, cat_long]) (j := 4) (by omega) (c_X11_asks (by omega) eq74) ?_
                              cases e
                              exact g_vret d_X11_goesStep_361 rfl
                            · rcases ite_or e with ⟨c75, e⟩ | ⟨c75, e⟩
                              · refine r_tableIn d_X11_goesStep_141 (off := 172) (tgt := 313) (by rw [c75]; decide +kernel) (by rw [c75]; decide +kernel) (by rw [c75] <;> rfl) (by decide) ?_
                                refine g_ald_n d_X11_goesStep_313 rfl g0 ?_
                                refine r_iload d_X11_goesStep_314 g4 ?_
                                refine r_if_eq d_X11_goesStep_316 (tgt := 328) (by decide) (fun c76 => ?_) (fun c76 => ?_)
                                · replace e := (if_pos c76).symm.trans e
                                  refine g_ald_n d_X11_goesStep_328 rfl g0 ?_
                                  refine g_getI d_X11_goesStep_329 (f := 1263) k25 fk_12_315 rfl rfl ?_
                                  refine g_putI d_X11_goesStep_332 (f := 1263) k25 fk_12_315 rfl (Or.inl rfl) ⟨rfl, rfl⟩ ?_
                                  replace e := bhd e
                                  obtain ⟨_, rfl, e⟩ := e
                                  refine r_goto d_X11_goesStep_335 (tgt := 361) (by decide) ?_
                                  cases e
                                  exact g_vret d_X11_goesStep_361 rfl
                                · replace e := (if_neg c76).symm.trans e
                                  refine g_ald_n d_X11_goesStep_319 rfl g0 ?_
                                  refine g_getR d_X11_goesStep_320 (f := 1220) k25 fk_12_54 rfl rfl ?_
                                  refine r_iload_n d_X11_goesStep_323 rfl g3 ?_
                                  replace e := ckd e
                                  obtain ⟨k78, e⟩ := e
                                  replace e := ckd e
                                  obtain ⟨k79, e⟩ := e
                                  refine g_iald d_X11_goesStep_324 k78 k79 rfl ?_
                                  refine r_goto d_X11_goesStep_325 (tgt := 332) (by decide) ?_
                                  refine g_putI d_X11_goesStep_332 (f := 1263) k25 fk_12_315 rfl (Or.inl rfl) ⟨rfl, rfl⟩ ?_
                                  replace e := bhd e
                                  obtain ⟨_, rfl, e⟩ := e
                                  refine r_goto d_X11_goesStep_335 (tgt := 361) (by decide) ?_
                                  cases e
                                  exact g_vret d_X11_goesStep_361 rfl
                              · rcases ite_or e with ⟨c81, e⟩ | ⟨c81, e⟩
                                · refine r_tableIn d_X11_goesStep_141 (off := 197) (tgt := 338) (by rw [c81]; decide +kernel) (by rw [c81]; decide +kernel) (by rw [c81] <;> rfl) (by decide) ?_
                                  refine g_ald_n d_X11_goesStep_338 rfl g0 ?_
                                  refine g_ald_n d_X11_goesStep_339 rfl g0 ?_
                                  refine g_getR d_X11_goesStep_340 (f := 1220) k25 fk_12_54 rfl rfl ?_
                                  refine r_iload_n d_X11_goesStep_343 rfl g3 ?_
                                  replace e := ckd e
                                  obtain ⟨k82, e⟩ := e
                                  replace e := ckd e
                                  obtain ⟨k83, e⟩ := e
                                  refine g_iald d_X11_goesStep_344 k82 k83 rfl ?_
                                  refine g_putI d_X11_goesStep_345 (f := 1263) k25 fk_12_315 rfl (Or.inl rfl) ⟨rfl, rfl⟩ ?_
                                  replace e := bhd e
                                  obtain ⟨_, rfl, e⟩ := e
                                  refine r_goto d_X11_goesStep_348 (tgt := 361) (by decide) ?_
                                  cases e
                                  exact g_vret d_X11_goesStep_361 rfl
                                · refine r_tableOut d_X11_goesStep_141 (tgt := 351) (by have := lv_neT (a := 0) c31 (by decide +kernel); have := lv_neT (a := 1) c35 (by decide +kernel); have := lv_neT (a := 2) c39 (by decide +kernel); have := lv_neT (a := 3) c43 (by decide +kernel); have := lv_neT (a := 4) c47 (by decide +kernel); have := lv_neT (a := 5) c55 (by decide +kernel); have := lv_neT (a := 6) c63 (by decide +kernel); have := lv_neT (a := 7) c65 (by decide +kernel); have := lv_neT (a := 8) c67 (by decide +kernel); have := lv_neT (a := 9) c69 (by decide +kernel); have := lv_neT (a := 10) c71 (by decide +kernel); have := lv_neT (a := 11) c73 (by decide +kernel); have := lv_neT (a := 12) c75 (by decide +kernel); have := lv_neT (a := 13) c81 (by decide +kernel); omega) (by decide) ?_
                                  refine g_ald_n d_X11_goesStep_351 rfl g0 ?_
                                  refine r_iload_n d_X11_goesStep_352 rfl g1 ?_
                                  refine r_iload_n d_X11_goesStep_353 rfl g3 ?_
                                  refine r_iload d_X11_goesStep_354 g4 ?_
                                  refine r_iload d_X11_goesStep_356 g5 ?_
                                  replace e := bd e
                                  obtain ⟨q85, eq85, e⟩ := e
                                  refine g_callV d_X11_goesStep_358 vk_12_347 (as := [_, _, _, _]) rfl k25 rfl (by simp [zrf_cat, cat_int, cat_long]) (j := 4) (by omega) (c_X11_asks (by omega) eq85) ?_
                                  cases e
                                  exact g_vret d_X11_goesStep_361 rfl
    · replace e := (if_pos c8).symm.trans e
      refine g_ald_n d_X11_goesStep_41 rfl g0 ?_
      refine r_iload_n d_X11_goesStep_42 rfl g1 ?_
      refine r_bipush d_X11_goesStep_43 (v := (12 : Int32)) (by decide +kernel) ?_
      refine r_iconst d_X11_goesStep_45 (v := (-1 : Int32)) (by decide +kernel) ?_
      refine r_iconst d_X11_goesStep_46 (v := (0 : Int32)) (by decide +kernel) ?_
      replace e := bd e
      obtain ⟨q86, eq86, e⟩ := e
      refine g_callV d_X11_goesStep_47 vk_12_339 (as := [_, _, _, _]) rfl k1 rfl (by simp [zrf_cat, cat_int, cat_long]) (j := 2) (by omega) (c_X11_own (by omega) eq86) ?_
      refine s_istore_n d_X11_goesStep_50 rfl (by decide) (fun L g3 gK => ?_)
      cases e
      exact g_vret d_X11_goesStep_51 rfl
  · replace e := (if_pos c7).symm.trans e
    refine g_ald_n d_X11_goesStep_20 rfl g0 ?_
    refine r_iload_n d_X11_goesStep_21 rfl g1 ?_
    refine r_bipush d_X11_goesStep_22 (v := (10 : Int32)) (by decide +kernel) ?_
    refine r_iconst d_X11_goesStep_24 (v := (0 : Int32)) (by decide +kernel) ?_
    refine r_iconst d_X11_goesStep_25 (v := (0 : Int32)) (by decide +kernel) ?_
    replace e := bd e
    obtain ⟨q87, eq87, e⟩ := e
    refine g_callV d_X11_goesStep_26 vk_12_339 (as := [_, _, _, _]) rfl k1 rfl (by simp [zrf_cat, cat_int, cat_long]) (j := 2) (by omega) (c_X11_own (by omega) eq87) ?_
    refine s_istore_n d_X11_goesStep_29 rfl (by decide) (fun L g3 gK => ?_)
    cases e
    exact g_vret d_X11_goesStep_30 rfl

theorem c_X11_goesStep {G : Gd} {j : Nat} (hj : 5 ≤ j) {l0 : Nat} {l1 : Int32} {h : Hp} {o : Hp} (e : f_X11_goesStep l0 l1 h = some o) : Cal G j Y_X11_goesStep [zrf (l0), .int (l1)] h none o := Cal.of (n := 0) (I := false) (by decide +kernel) (by decide) (by simp [lg_sl, zrf_cat, cat_int, cat_long]) (f_X11_goesStep_ok hj _ _ _ h o (by simp [lv_args, zlk, zrf_cat, cat_int, cat_long]) (by simp [lv_args, zlk, zrf_cat, cat_int, cat_long]) e)
def f_X11_signals_33 (K5 : Nat → Int32 → Int32 → Int32 → Int32 → Hp → Option (Int32 × Hp)) (s0 : Int32) (s1 : Int32) (l0 : Nat) (l1 : Int32) (l2 : Int32) (l4 : Int32) (h : Hp) : Option (Int32 × Hp) := bh ((s0) + (s1)) (fun x7 => bh ((l4) + (1 : Int32)) (fun x8 => K5 (l0) (l1) (l2) (x7) (x8) (h)))
theorem f_X11_signals_33_ok {G : Gd} {d : Nat} (K5 : Nat → Int32 → Int32 → Int32 → Int32 → Hp → Option (Int32 × Hp)) (hj : 2 ≤ d) (hK5 : ∀ (l0 : Nat) (l1 : Int32) (l2 : Int32) (l3 : Int32) (l4 : Int32) (L : List (Nat × Value)) (h : Hp) (o : (Int32 × Hp)), zlk L 0 = some (zrf (l0)) → zlk L 1 = some (.int (l1)) → zlk L 2 = some (.int (l2)) → zlk L 3 = some (.int (l3)) → zlk L 4 = some (.int (l4)) → K5 l0 l1 l2 l3 l4 h = some o → Ev G M_X11_signals d 5 L [] h (Ret Y_X11_signals (some (.int o.1)) o.2)) : ∀ (s0 : Int32) (s1 : Int32) (l0 : Nat) (l1 : Int32) (l2 : Int32) (l4 : Int32) (L : List (Nat × Value)) (h : Hp) (o : (Int32 × Hp)), zlk L 0 = some (zrf (l0)) → zlk L 1 = some (.int (l1)) → zlk L 2 = some (.int (l2)) → zlk L 4 = some (.int (l4)) → f_X11_signals_33 K5 s0 s1 l0 l1 l2 l4 h = some o → Ev G M_X11_signals d 33 L [.int (s1), .int (s0)] h (Ret Y_X11_signals (some (.int o.1)) o.2) := by
  intro s0 s1 l0 l1 l2 l4 L h o g0 g1 g2 g4 e
  unfold f_X11_signals_33 at e
  refine r_iadd d_X11_signals_33 ?_
  replace e := bhd e
  obtain ⟨_, rfl, e⟩ := e
  refine s_istore_n d_X11_signals_34 rfl (by decide) (fun L g3 gK => ?_)
  replace g0 := gK _ _ (by decide) (Or.inr (zrf_cat _)) g0
  replace g1 := gK _ _ (by decide) (Or.inr rfl) g1
  replace g2 := gK _ _ (by decide) (Or.inr rfl) g2
  replace g4 := gK _ _ (by decide) (Or.inr rfl) g4
  replace e := bhd e
  obtain ⟨_, rfl, e⟩ := e
  refine s_iinc d_X11_signals_35 g4 (w := (1 : Int32)) (by decide +kernel) (by decide) (fun L g4 gK => ?_)
  replace g0 := gK _ _ (by decide) (Or.inr (zrf_cat _)) g0
  replace g1 := gK _ _ (by decide) (Or.inr rfl) g1
  replace g2 := gK _ _ (by decide) (Or.inr rfl) g2
  replace g3 := gK _ _ (by decide) (Or.inr rfl) g3
  refine r_goto d_X11_signals_38 (tgt := 5) (by decide) ?_
  exact hK5 _ _ _ _ _ _ _ _ g0 g1 g2 g3 g4 e

def f_X11_signals_5 : Nat → Nat → Int32 → Int32 → Int32 → Int32 → Hp → Option (Int32 × Hp)
  | 0, _, _, _, _, _, _ => none
  | n + 1, l0, l1, l2, l3, l4, h => if (l2) ≤ (l4) then (some (l3, h)) else (ck (isO (h) (l0) 12) ((f_X11_event (l0) (l1) (l4) (h)).bind (fun q2 => ck (isO (q2.2) (l0) 12) ((f_X11_kindOf (l0) (q2.1) (q2.2)).bind (fun q4 => if (q4.1) = ((8 : Int32)) then (f_X11_signals_33 (f_X11_signals_5 n ) (l3) ((1 : Int32)) (l0) (l1) (l2) (l4) (q4.2)) else (f_X11_signals_33 (f_X11_signals_5 n ) (l3) ((0 : Int32)) (l0) (l1) (l2) (l4) (q4.2)))))))
theorem f_X11_signals_5_ok {G : Gd} {d : Nat} (hj : 2 ≤ d) : ∀ (n : Nat) (l0 : Nat) (l1 : Int32) (l2 : Int32) (l3 : Int32) (l4 : Int32) (L : List (Nat × Value)) (h : Hp) (o : (Int32 × Hp)), zlk L 0 = some (zrf (l0)) → zlk L 1 = some (.int (l1)) → zlk L 2 = some (.int (l2)) → zlk L 3 = some (.int (l3)) → zlk L 4 = some (.int (l4)) → f_X11_signals_5 n l0 l1 l2 l3 l4 h = some o → Ev G M_X11_signals d 5 L [] h (Ret Y_X11_signals (some (.int o.1)) o.2) := by
  intro n
  induction n with
  | zero =>
    intro l0 l1 l2 l3 l4 L h o g0 g1 g2 g3 g4 e
    cases e
  | succ n ih =>
    intro l0 l1 l2 l3 l4 L h o g0 g1 g2 g3 g4 e
    unfold f_X11_signals_5 at e
    refine r_iload d_X11_signals_5 g4 ?_
    refine r_iload_n d_X11_signals_7 rfl g2 ?_
    refine r_icmp_ge d_X11_signals_8 (tgt := 41) (by decide) (fun c1 => ?_) (fun c1 => ?_)
    · replace e := (if_pos c1).symm.trans e
      refine r_iload_n d_X11_signals_41 rfl g3 ?_
      cases e
      exact g_iret d_X11_signals_42 rfl rfl
    · replace e := (if_neg c1).symm.trans e
      refine r_iload_n d_X11_signals_11 rfl g3 ?_
      refine g_ald_n d_X11_signals_12 rfl g0 ?_
      refine g_ald_n d_X11_signals_13 rfl g0 ?_
      refine r_iload_n d_X11_signals_14 rfl g1 ?_
      refine r_iload d_X11_signals_15 g4 ?_
      replace e := ckd e
      obtain ⟨k3, e⟩ := e
      replace e := bd e
      obtain ⟨q2, eq2, e⟩ := e
      refine g_callV d_X11_signals_17 vk_12_305 (as := [_, _]) rfl k3 rfl (by simp [zrf_cat, cat_int, cat_long]) (j := 1) (by omega) (c_X11_event (by omega) eq2) ?_
      replace e := ckd e
      obtain ⟨k5, e⟩ := e
      replace e := bd e
      obtain ⟨q4, eq4, e⟩ := e
      refine g_callV d_X11_signals_20 vk_12_286 (as := [_]) rfl k5 rfl (by simp [zrf_cat, cat_int, cat_long]) (j := 1) (by omega) (c_X11_kindOf (by omega) eq4) ?_
      refine r_bipush d_X11_signals_23 (v := (8 : Int32)) (by decide +kernel) ?_
      refine r_icmp_ne d_X11_signals_25 (tgt := 32) (by decide) (fun c6 => ?_) (fun c6 => ?_)
      · replace e := (if_neg c6).symm.trans e
        refine r_iconst d_X11_signals_32 (v := (0 : Int32)) (by decide +kernel) ?_
        exact f_X11_signals_33_ok _ hj ih _ _ _ _ _ _ _ _ _ g0 g1 g2 g4 e
      · replace e := (if_pos c6).symm.trans e
        refine r_iconst d_X11_signals_28 (v := (1 : Int32)) (by decide +kernel) ?_
        refine r_goto d_X11_signals_29 (tgt := 33) (by decide) ?_
        exact f_X11_signals_33_ok _ hj ih _ _ _ _ _ _ _ _ _ g0 g1 g2 g4 e

def f_X11_signals (l0 : Nat) (l1 : Int32) (l2 : Int32) (h : Hp) : Option (Int32 × Hp) := f_X11_signals_5 fz (l0) (l1) (l2) ((0 : Int32)) ((0 : Int32)) (h)
theorem f_X11_signals_ok {G : Gd} {d : Nat} (hj : 2 ≤ d) : ∀ (l0 : Nat) (l1 : Int32) (l2 : Int32) (L : List (Nat × Value)) (h : Hp) (o : (Int32 × Hp)), zlk L 0 = some (zrf (l0)) → zlk L 1 = some (.int (l1)) → zlk L 2 = some (.int (l2)) → f_X11_signals l0 l1 l2 h = some o → Ev G M_X11_signals d 0 L [] h (Ret Y_X11_signals (some (.int o.1)) o.2) := by
  intro l0 l1 l2 L h o g0 g1 g2 e
  unfold f_X11_signals at e
  refine r_iconst d_X11_signals_0 (v := (0 : Int32)) (by decide +kernel) ?_
  refine s_istore_n d_X11_signals_1 rfl (by decide) (fun L g3 gK => ?_)
  replace g0 := gK _ _ (by decide) (Or.inr (zrf_cat _)) g0
  replace g1 := gK _ _ (by decide) (Or.inr rfl) g1
  replace g2 := gK _ _ (by decide) (Or.inr rfl) g2
  refine r_iconst d_X11_signals_2 (v := (0 : Int32)) (by decide +kernel) ?_
  refine s_istore d_X11_signals_3 (by decide) (fun L g4 gK => ?_)
  replace g0 := gK _ _ (by decide) (Or.inr (zrf_cat _)) g0
  replace g1 := gK _ _ (by decide) (Or.inr rfl) g1
  replace g2 := gK _ _ (by decide) (Or.inr rfl) g2
  replace g3 := gK _ _ (by decide) (Or.inr rfl) g3
  exact f_X11_signals_5_ok hj _ _ _ _ _ _ _ _ _ g0 g1 g2 g3 g4 e

theorem c_X11_signals {G : Gd} {j : Nat} (hj : 2 ≤ j) {l0 : Nat} {l1 : Int32} {l2 : Int32} {h : Hp} {o : (Int32 × Hp)} (e : f_X11_signals l0 l1 l2 h = some o) : Cal G j Y_X11_signals [zrf (l0), .int (l1), .int (l2)] h (some (.int o.1)) o.2 := Cal.of (n := 0) (I := false) (by decide +kernel) (by decide) (by simp [lg_sl, zrf_cat, cat_int, cat_long]) (f_X11_signals_ok hj _ _ _ _ h o (by simp [lv_args, zlk, zrf_cat, cat_int, cat_long]) (by simp [lv_args, zlk, zrf_cat, cat_int, cat_long]) (by simp [lv_args, zlk, zrf_cat, cat_int, cat_long]) e)
theorem vk_12_312 : Vk "TaskWeaveModel" 312 1 12 Y_X11_textFor := ⟨yk_X11_textFor, by decide +kernel, by decide +kernel, by decide +kernel, by decide⟩
theorem vk_12_333 : Vk "TaskWeaveModel" 333 2 12 Y_X11_signals := ⟨yk_X11_signals, by decide +kernel, by decide +kernel, by decide +kernel, by decide⟩
theorem vk_12_330 : Vk "TaskWeaveModel" 330 1 12 Y_X11_goesStep := ⟨yk_X11_goesStep, by decide +kernel, by decide +kernel, by decide +kernel, by decide⟩
def f_X11_goThrough_100 : Nat → Nat → Int32 → Hp → Option Hp
  | 0, _, _, _ => none
  | n + 1, l0, l1, h => ck (isO (h) (l0) 12) (ck (isO (h) (zR (h) 1243 (l0)) 22) (ck (inR (l1) (zL (h) (zR (h) 1243 (l0)))) (if (zE (h) (zR (h) 1243 (l0)) (l1).toNatClampNeg) = ((6 : Int32)) then ((f_X11_goesStep (l0) (l1) (h)).bind (fun q46 => f_X11_goThrough_100 n (l0) (l1) (q46))) else (ck (isO (h) (zR (h) 1246 (l0)) 22) (ck (inR (l1) (zL (h) (zR (h) 1246 (l0)))) (bh (pE (h) (zR (h) 1246 (l0)) (l1).toNatClampNeg (zI (h) 1266 (l0))) (fun h38 => ck (isO (h38) (zR (h38) 1241 (l0)) 22) (ck (inR (l1) (zL (h38) (zR (h38) 1241 (l0)))) ((f_X11_signals (l0) (l1) (zE (h38) (zR (h38) 1241 (l0)) (l1).toNatClampNeg) (h38)).bind (fun q41 => ck (isO (q41.2) (l0) 12) (ck (isO (q41.2) (zR (h38) 1247 (l0)) 22) (ck (inR (l1) (zL (q41.2) (zR (h38) 1247 (l0)))) (bh (pE (q41.2) (zR (h38) 1247 (l0)) (l1).toNatClampNeg ((q41.1) - (zI (q41.2) 1265 (l0)))) (fun h45 => some (h45)))))))))))))))
theorem f_X11_goThrough_100_ok {G : Gd} {d : Nat} (hj : 6 ≤ d) : ∀ (n : Nat) (l0 : Nat) (l1 : Int32) (L : List (Nat × Value)) (h : Hp) (o : Hp), zlk L 0 = some (zrf (l0)) → zlk L 1 = some (.int (l1)) → f_X11_goThrough_100 n l0 l1 h = some o → Ev G M_X11_goThrough d 100 L [] h (Ret Y_X11_goThrough none o) := by
  intro n
  induction n with
  | zero =>
    intro l0 l1 L h o g0 g1 e
    cases e
  | succ n ih =>
    intro l0 l1 L h o g0 g1 e
    unfold f_X11_goThrough_100 at e
    refine g_ald_n d_X11_goThrough_100 rfl g0 ?_
    replace e := ckd e
    obtain ⟨k32, e⟩ := e
    refine g_getR d_X11_goThrough_101 (f := 1243) k32 fk_12_119 rfl rfl ?_
    refine r_iload_n d_X11_goThrough_104 rfl g1 ?_
    replace e := ckd e
    obtain ⟨k33, e⟩ := e
    replace e := ckd e
    obtain ⟨k34, e⟩ := e
    refine g_iald d_X11_goThrough_105 k33 k34 rfl ?_
    refine r_bipush d_X11_goThrough_106 (v := (6 : Int32)) (by decide +kernel) ?_
    refine r_icmp_ne d_X11_goThrough_108 (tgt := 119) (by decide) (fun c35 => ?_) (fun c35 => ?_)
    · replace e := (if_neg c35).symm.trans e
      refine g_ald_n d_X11_goThrough_119 rfl g0 ?_
      refine g_getR d_X11_goThrough_120 (f := 1246) k32 fk_12_128 rfl rfl ?_
      refine r_iload_n d_X11_goThrough_123 rfl g1 ?_
      refine g_ald_n d_X11_goThrough_124 rfl g0 ?_
      refine g_getI d_X11_goThrough_125 (f := 1266) k32 fk_12_324 rfl rfl ?_
      replace e := ckd e
      obtain ⟨k36, e⟩ := e
      replace e := ckd e
      obtain ⟨k37, e⟩ := e
      refine g_iast d_X11_goThrough_128 k36 k37 ?_
      replace e := bhd e
      obtain ⟨_, rfl, e⟩ := e
      refine g_ald_n d_X11_goThrough_129 rfl g0 ?_
      refine g_getR d_X11_goThrough_130 (f := 1247) (tO_pE k32) fk_12_131 rfl rfl ?_
      refine r_iload_n d_X11_goThrough_133 rfl g1 ?_
      refine g_ald_n d_X11_goThrough_134 rfl g0 ?_
      refine r_iload_n d_X11_goThrough_135 rfl g1 ?_
      refine g_ald_n d_X11_goThrough_136 rfl g0 ?_
      refine g_getR d_X11_goThrough_137 (f := 1241) (tO_pE k32) fk_12_113 rfl rfl ?_
      refine r_iload_n d_X11_goThrough_140 rfl g1 ?_
      replace e := ckd e
      obtain ⟨k39, e⟩ := e
      replace e := ckd e
      obtain ⟨k40, e⟩ := e
      refine g_iald d_X11_goThrough_141 k39 k40 rfl ?_
      replace e := bd e
      obtain ⟨q41, eq41, e⟩ := e
      refine g_callV d_X11_goThrough_142 vk_12_333 (as := [_, _]) rfl (tO_pE k32) rfl (by simp [zrf_cat, cat_int, cat_long]) (j := 2) (by omega) (c_X11_signals (by omega) eq41) ?_
      refine g_ald_n d_X11_goThrough_145 rfl g0 ?_
      replace e := ckd e
      obtain ⟨k42, e⟩ := e
      refine g_getI d_X11_goThrough_146 (f := 1265) k42 fk_12_321 rfl rfl ?_
      refine r_isub d_X11_goThrough_149 ?_
      replace e := ckd e
      obtain ⟨k43, e⟩ := e
      replace e := ckd e
      obtain ⟨k44, e⟩ := e
      refine g_iast d_X11_goThrough_150 k43 k44 ?_
      replace e := bhd e
      obtain ⟨_, rfl, e⟩ := e
      cases e
      exact g_vret d_X11_goThrough_151 rfl
    · replace e := (if_pos c35).symm.trans e
      refine g_ald_n d_X11_goThrough_111 rfl g0 ?_
      refine r_iload_n d_X11_goThrough_112 rfl g1 ?_
      replace e := bd e
      obtain ⟨q46, eq46, e⟩ := e
      refine g_callV d_X11_goThrough_113 vk_12_330 (as := [_]) rfl k32 rfl (by simp [zrf_cat, cat_int, cat_long]) (j := 5) (by omega) (c_X11_goesStep (by omega) eq46) ?_
      refine r_goto d_X11_goThrough_116 (tgt := 100) (by decide) ?_
      exact ih _ _ _ _ _ g0 g1 e

def f_X11_goThrough_23 : Nat → Nat → Int32 → Int32 → Hp → Option Hp
  | 0, _, _, _, _ => none
  | n + 1, l0, l1, l2, h => if ((8 : Int32)) ≤ (l2) then (ck (isO (h) (l0) 12) ((f_X11_event (l0) (l1) ((0 : Int32)) (h)).bind (fun q12 => ck (isO (q12.2) (zR (h) 1228 (l0)) 22) (ck (inR (q12.1) (zL (q12.2) (zR (h) 1228 (l0)))) (ck (isO (q12.2) (zR (h) 1245 (l0)) 22) (ck (inR (((8 : Int32)) * (l1)) (zL (q12.2) (zR (h) 1245 (l0)))) (bh (pE (q12.2) (zR (h) 1245 (l0)) (((8 : Int32)) * (l1)).toNatClampNeg (zE (q12.2) (zR (h) 1228 (l0)) (q12.1).toNatClampNeg)) (fun h17 => ck (isO (h17) (l0) 12) (bh (pI (h17) 1263 (l0) ((0 : Int32))) (fun h19 => bh (pI (h19) 1264 (l0) ((1 : Int32))) (fun h20 => bh (pI (h20) 1265 (l0) ((0 : Int32))) (fun h21 => bh (pI (h21) 1266 (l0) ((0 : Int32))) (fun h22 => bh (pI (h22) 1267 (l0) ((0 : Int32))) (fun h23 => ck (isO (h23) (zR (h23) 1243 (l0)) 22) (ck (inR (l1) (zL (h23) (zR (h23) 1243 (l0)))) (bh (pE (h23) (zR (h23) 1243 (l0)) (l1).toNatClampNeg ((6 : Int32))) (fun h26 => f_X11_goThrough_100 fz (l0) (l1) (h26)))))))))))))))))) else (ck (isO (h) (l0) 12) (ck (isO (h) (zR (h) 1245 (l0)) 22) (ck (inR ((((8 : Int32)) * (l1)) + (l2)) (zL (h) (zR (h) 1245 (l0)))) (bh (pE (h) (zR (h) 1245 (l0)) ((((8 : Int32)) * (l1)) + (l2)).toNatClampNeg ((0 : Int32))) (fun h30 => bh ((l2) + (1 : Int32)) (fun x31 => f_X11_goThrough_23 n (l0) (l1) (x31) (h30)))))))
theorem f_X11_goThrough_23_ok {G : Gd} {d : Nat} (hj : 6 ≤ d) : ∀ (n : Nat) (l0 : Nat) (l1 : Int32) (l2 : Int32) (L : List (Nat × Value)) (h : Hp) (o : Hp), zlk L 0 = some (zrf (l0)) → zlk L 1 = some (.int (l1)) → zlk L 2 = some (.int (l2)) → f_X11_goThrough_23 n l0 l1 l2 h = some o → Ev G M_X11_goThrough d 23 L [] h (Ret Y_X11_goThrough none o) := by
  intro n
  induction n with
  | zero =>
    intro l0 l1 l2 L h o g0 g1 g2 e
    cases e
  | succ n ih =>
    intro l0 l1 l2 L h o g0 g1 g2 e
    unfold f_X11_goThrough_23 at e
    refine r_iload_n d_X11_goThrough_23 rfl g2 ?_
    refine r_bipush d_X11_goThrough_24 (v := (8 : Int32)) (by decide +kernel) ?_
    refine r_icmp_ge d_X11_goThrough_26 (tgt := 47) (by decide) (fun c10 => ?_) (fun c10 => ?_)
    · replace e := (if_pos c10).symm.trans e
      refine g_ald_n d_X11_goThrough_47 rfl g0 ?_
      replace e := ckd e
      obtain ⟨k11, e⟩ := e
      refine g_getR d_X11_goThrough_48 (f := 1245) k11 fk_12_125 rfl rfl ?_
      refine r_bipush d_X11_goThrough_51 (v := (8 : Int32)) (by decide +kernel) ?_
      refine r_iload_n d_X11_goThrough_53 rfl g1 ?_
      refine r_imul d_X11_goThrough_54 ?_
      refine g_ald_n d_X11_goThrough_55 rfl g0 ?_
      refine g_getR d_X11_goThrough_56 (f := 1228) k11 fk_12_73 rfl rfl ?_
      refine g_ald_n d_X11_goThrough_59 rfl g0 ?_
      refine r_iload_n d_X11_goThrough_60 rfl g1 ?_
      refine r_iconst d_X11_goThrough_61 (v := (0 : Int32)) (by decide +kernel) ?_
      replace e := bd e
      obtain ⟨q12, eq12, e⟩ := e
      refine g_callV d_X11_goThrough_62 vk_12_305 (as := [_, _]) rfl k11 rfl (by simp [zrf_cat, cat_int, cat_long]) (j := 1) (by omega) (c_X11_event (by omega) eq12) ?_
      replace e := ckd e
      obtain ⟨k13, e⟩ := e
      replace e := ckd e
      obtain ⟨k14, e⟩ := e
      refine g_iald d_X11_goThrough_65 k13 k14 rfl ?_
      replace e := ckd e
      obtain ⟨k15, e⟩ := e
      replace e := ckd e
      obtain ⟨k16, e⟩ := e
      refine g_iast d_X11_goThrough_66 k15 k16 ?_
      replace e := bhd e
      obtain ⟨_, rfl, e⟩ := e
      refine g_ald_n d_X11_goThrough_67 rfl g0 ?_
      refine r_iconst d_X11_goThrough_68 (v := (0 : Int32)) (by decide +kernel) ?_
      replace e := ckd e
      obtain ⟨k18, e⟩ := e
      refine g_putI d_X11_goThrough_69 (f := 1263) k18 fk_12_315 rfl (Or.inl rfl) ⟨rfl, rfl⟩ ?_
      replace e := bhd e
      obtain ⟨_, rfl, e⟩ := e
      refine g_ald_n d_X11_goThrough_72 rfl g0 ?_
      refine r_iconst d_X11_goThrough_73 (v := (1 : Int32)) (by decide +kernel) ?_
      refine g_putI d_X11_goThrough_74 (f := 1264) (tO_pI k18) fk_12_318 rfl (Or.inl rfl) ⟨rfl, rfl⟩ ?_
      replace e := bhd e
      obtain ⟨_, rfl, e⟩ := e
      refine g_ald_n d_X11_goThrough_77 rfl g0 ?_
      refine r_iconst d_X11_goThrough_78 (v := (0 : Int32)) (by decide +kernel) ?_
      refine g_putI d_X11_goThrough_79 (f := 1265) (tO_pI (tO_pI k18)) fk_12_321 rfl (Or.inl rfl) ⟨rfl, rfl⟩ ?_
      replace e := bhd e
      obtain ⟨_, rfl, e⟩ := e
      refine g_ald_n d_X11_goThrough_82 rfl g0 ?_
      refine r_iconst d_X11_goThrough_83 (v := (0 : Int32)) (by decide +kernel) ?_
      refine g_putI d_X11_goThrough_84 (f := 1266) (tO_pI (tO_pI (tO_pI k18))) fk_12_324 rfl (Or.inl rfl) ⟨rfl, rfl⟩ ?_
      replace e := bhd e
      obtain ⟨_, rfl, e⟩ := e
      refine g_ald_n d_X11_goThrough_87 rfl g0 ?_
      refine r_iconst d_X11_goThrough_88 (v := (0 : Int32)) (by decide +kernel) ?_
      refine g_putI d_X11_goThrough_89 (f := 1267) (tO_pI (tO_pI (tO_pI (tO_pI k18)))) fk_12_327 rfl (Or.inl rfl) ⟨rfl, rfl⟩ ?_
      replace e := bhd e
      obtain ⟨_, rfl, e⟩ := e
      refine g_ald_n d_X11_goThrough_92 rfl g0 ?_
      refine g_getR d_X11_goThrough_93 (f := 1243) (tO_pI (tO_pI (tO_pI (tO_pI (tO_pI k18))))) fk_12_119 rfl rfl ?_
      refine r_iload_n d_X11_goThrough_96 rfl g1 ?_
      refine r_bipush d_X11_goThrough_97 (v := (6 : Int32)) (by decide +kernel) ?_
      replace e := ckd e
      obtain ⟨k24, e⟩ := e
      replace e := ckd e
      obtain ⟨k25, e⟩ := e
      refine g_iast d_X11_goThrough_99 k24 k25 ?_
      replace e := bhd e
      obtain ⟨_, rfl, e⟩ := e
      exact f_X11_goThrough_100_ok hj _ _ _ _ _ _ g0 g1 e
    · replace e := (if_neg c10).symm.trans e
      refine g_ald_n d_X11_goThrough_29 rfl g0 ?_
      replace e := ckd e
      obtain ⟨k27, e⟩ := e
      refine g_getR d_X11_goThrough_30 (f := 1245) k27 fk_12_125 rfl rfl ?_
      refine r_bipush d_X11_goThrough_33 (v := (8 : Int32)) (by decide +kernel) ?_
      refine r_iload_n d_X11_goThrough_35 rfl g1 ?_
      refine r_imul d_X11_goThrough_36 ?_
      refine r_iload_n d_X11_goThrough_37 rfl g2 ?_
      refine r_iadd d_X11_goThrough_38 ?_
      refine r_iconst d_X11_goThrough_39 (v := (0 : Int32)) (by decide +kernel) ?_
      replace e := ckd e
      obtain ⟨k28, e⟩ := e
      replace e := ckd e
      obtain ⟨k29, e⟩ := e
      refine g_iast d_X11_goThrough_40 k28 k29 ?_
      replace e := bhd e
      obtain ⟨_, rfl, e⟩ := e
      replace e := bhd e
      obtain ⟨_, rfl, e⟩ := e
      refine s_iinc d_X11_goThrough_41 g2 (w := (1 : Int32)) (by decide +kernel) (by decide) (fun L g2 gK => ?_)
      replace g0 := gK _ _ (by decide) (Or.inr (zrf_cat _)) g0
      replace g1 := gK _ _ (by decide) (Or.inr rfl) g1
      refine r_goto d_X11_goThrough_44 (tgt := 23) (by decide) ?_
      exact ih _ _ _ _ _ _ g0 g1 g2 e

def f_X11_goThrough (l0 : Nat) (l1 : Int32) (h : Hp) : Option Hp := ck (isO (h) (l0) 12) ((f_X11_event (l0) (l1) ((0 : Int32)) (h)).bind (fun q2 => ck (isO (q2.2) (zR (h) 1227 (l0)) 22) (ck (inR (q2.1) (zL (q2.2) (zR (h) 1227 (l0)))) (ck (isO (q2.2) (l0) 12) ((f_X11_textFor (l0) (zE (q2.2) (zR (h) 1227 (l0)) (q2.1).toNatClampNeg) (q2.2)).bind (fun q5 => ck (isO (q5.2) (zR (h) 1242 (l0)) 22) (ck (inR (l1) (zL (q5.2) (zR (h) 1242 (l0)))) (bh (pE (q5.2) (zR (h) 1242 (l0)) (l1).toNatClampNeg (q5.1)) (fun h9 => f_X11_goThrough_23 fz (l0) (l1) ((0 : Int32)) (h9))))))))))
theorem f_X11_goThrough_ok {G : Gd} {d : Nat} (hj : 6 ≤ d) : ∀ (l0 : Nat) (l1 : Int32) (L : List (Nat × Value)) (h : Hp) (o : Hp), zlk L 0 = some (zrf (l0)) → zlk L 1 = some (.int (l1)) → f_X11_goThrough l0 l1 h = some o → Ev G M_X11_goThrough d 0 L [] h (Ret Y_X11_goThrough none o) := by
  intro l0 l1 L h o g0 g1 e
  unfold f_X11_goThrough at e
  refine g_ald_n d_X11_goThrough_0 rfl g0 ?_
  replace e := ckd e
  obtain ⟨k1, e⟩ := e
  refine g_getR d_X11_goThrough_1 (f := 1242) k1 fk_12_116 rfl rfl ?_
  refine r_iload_n d_X11_goThrough_4 rfl g1 ?_
  refine g_ald_n d_X11_goThrough_5 rfl g0 ?_
  refine g_ald_n d_X11_goThrough_6 rfl g0 ?_
  refine g_getR d_X11_goThrough_7 (f := 1227) k1 fk_12_70 rfl rfl ?_
  refine g_ald_n d_X11_goThrough_10 rfl g0 ?_
  refine r_iload_n d_X11_goThrough_11 rfl g1 ?_
  refine r_iconst d_X11_goThrough_12 (v := (0 : Int32)) (by decide +kernel) ?_
  replace e := bd e
  obtain ⟨q2, eq2, e⟩ := e
  refine g_callV d_X11_goThrough_13 vk_12_305 (as := [_, _]) rfl k1 rfl (by simp [zrf_cat, cat_int, cat_long]) (j := 1) (by omega) (c_X11_event (by omega) eq2) ?_
  replace e := ckd e
  obtain ⟨k3, e⟩ := e
  replace e := ckd e
  obtain ⟨k4, e⟩ := e
  refine g_iald d_X11_goThrough_16 k3 k4 rfl ?_
  replace e := ckd e
  obtain ⟨k6, e⟩ := e
  replace e := bd e
  obtain ⟨q5, eq5, e⟩ := e
  refine g_callV d_X11_goThrough_17 vk_12_312 (as := [_]) rfl k6 rfl (by simp [zrf_cat, cat_int, cat_long]) (j := 1) (by omega) (c_X11_textFor (by omega) eq5) ?_
  replace e := ckd e
  obtain ⟨k7, e⟩ := e
  replace e := ckd e
  obtain ⟨k8, e⟩ := e
  refine g_iast d_X11_goThrough_20 k7 k8 ?_
  replace e := bhd e
  obtain ⟨_, rfl, e⟩ := e
  refine r_iconst d_X11_goThrough_21 (v := (0 : Int32)) (by decide +kernel) ?_
  refine s_istore_n d_X11_goThrough_22 rfl (by decide) (fun L g2 gK => ?_)
  replace g0 := gK _ _ (by decide) (Or.inr (zrf_cat _)) g0
  replace g1 := gK _ _ (by decide) (Or.inr rfl) g1
  exact f_X11_goThrough_23_ok hj _ _ _ _ _ _ _ g0 g1 g2 e

theorem c_X11_goThrough {G : Gd} {j : Nat} (hj : 6 ≤ j) {l0 : Nat} {l1 : Int32} {h : Hp} {o : Hp} (e : f_X11_goThrough l0 l1 h = some o) : Cal G j Y_X11_goThrough [zrf (l0), .int (l1)] h none o := Cal.of (n := 0) (I := false) (by decide +kernel) (by decide) (by simp [lg_sl, zrf_cat, cat_int, cat_long]) (f_X11_goThrough_ok hj _ _ _ h o (by simp [lv_args, zlk, zrf_cat, cat_int, cat_long]) (by simp [lv_args, zlk, zrf_cat, cat_int, cat_long]) e)
def f_X11_withOrigin_2 : Nat → Nat → Int32 → Int32 → Int32 → Hp → Option (Int32 × Hp)
  | 0, _, _, _, _, _ => none
  | n + 1, l0, l1, l2, l3, h => ck (isO (h) (l0) 12) (ck (isO (h) (zR (h) 1239 (l0)) 22) (ck (inR (l1) (zL (h) (zR (h) 1239 (l0)))) (if (zE (h) (zR (h) 1239 (l0)) (l1).toNatClampNeg) ≤ (l3) then (some ((-1 : Int32), h)) else ((f_X11_origin (l0) ((((16 : Int32)) * (l1)) + (l3)) (h)).bind (fun q5 => if (q5.1) = (l2) then (some ((((16 : Int32)) * (l1)) + (l3), q5.2)) else (bh ((l3) + (1 : Int32)) (fun x7 => f_X11_withOrigin_2 n (l0) (l1) (l2) (x7) (q5.2))))))))
theorem f_X11_withOrigin_2_ok {G : Gd} {d : Nat} (hj : 3 ≤ d) : ∀ (n : Nat) (l0 : Nat) (l1 : Int32) (l2 : Int32) (l3 : Int32) (L : List (Nat × Value)) (h : Hp) (o : (Int32 × Hp)), zlk L 0 = some (zrf (l0)) → zlk L 1 = some (.int (l1)) → zlk L 2 = some (.int (l2)) → zlk L 3 = some (.int (l3)) → f_X11_withOrigin_2 n l0 l1 l2 l3 h = some o → Ev G M_X11_withOrigin d 2 L [] h (Ret Y_X11_withOrigin (some (.int o.1)) o.2) := by
  intro n
  induction n with
  | zero =>
    intro l0 l1 l2 l3 L h o g0 g1 g2 g3 e
    cases e
  | succ n ih =>
    intro l0 l1 l2 l3 L h o g0 g1 g2 g3 e
    unfold f_X11_withOrigin_2 at e
    refine r_iload_n d_X11_withOrigin_2 rfl g3 ?_
    refine g_ald_n d_X11_withOrigin_3 rfl g0 ?_
    replace e := ckd e
    obtain ⟨k1, e⟩ := e
    refine g_getR d_X11_withOrigin_4 (f := 1239) k1 fk_12_107 rfl rfl ?_
    refine r_iload_n d_X11_withOrigin_7 rfl g1 ?_
    replace e := ckd e
    obtain ⟨k2, e⟩ := e
    replace e := ckd e
    obtain ⟨k3, e⟩ := e
    refine g_iald d_X11_withOrigin_8 k2 k3 rfl ?_
    refine r_icmp_ge d_X11_withOrigin_9 (tgt := 39) (by decide) (fun c4 => ?_) (fun c4 => ?_)
    · replace e := (if_pos c4).symm.trans e
      refine r_iconst d_X11_withOrigin_39 (v := (-1 : Int32)) (by decide +kernel) ?_
      cases e
      exact g_iret d_X11_withOrigin_40 rfl rfl
    · replace e := (if_neg c4).symm.trans e
      refine g_ald_n d_X11_withOrigin_12 rfl g0 ?_
      refine r_bipush d_X11_withOrigin_13 (v := (16 : Int32)) (by decide +kernel) ?_
      refine r_iload_n d_X11_withOrigin_15 rfl g1 ?_
      refine r_imul d_X11_withOrigin_16 ?_
      refine r_iload_n d_X11_withOrigin_17 rfl g3 ?_
      refine r_iadd d_X11_withOrigin_18 ?_
      replace e := bd e
      obtain ⟨q5, eq5, e⟩ := e
      refine g_callV d_X11_withOrigin_19 vk_12_309 (as := [_]) rfl k1 rfl (by simp [zrf_cat, cat_int, cat_long]) (j := 2) (by omega) (c_X11_origin (by omega) eq5) ?_
      refine r_iload_n d_X11_withOrigin_22 rfl g2 ?_
      refine r_icmp_ne d_X11_withOrigin_23 (tgt := 33) (by decide) (fun c6 => ?_) (fun c6 => ?_)
      · replace e := (if_neg c6).symm.trans e
        replace e := bhd e
        obtain ⟨_, rfl, e⟩ := e
        refine s_iinc d_X11_withOrigin_33 g3 (w := (1 : Int32)) (by decide +kernel) (by decide) (fun L g3 gK => ?_)
        replace g0 := gK _ _ (by decide) (Or.inr (zrf_cat _)) g0
        replace g1 := gK _ _ (by decide) (Or.inr rfl) g1
        replace g2 := gK _ _ (by decide) (Or.inr rfl) g2
        refine r_goto d_X11_withOrigin_36 (tgt := 2) (by decide) ?_
        exact ih _ _ _ _ _ _ _ g0 g1 g2 g3 e
      · replace e := (if_pos c6).symm.trans e
        refine r_bipush d_X11_withOrigin_26 (v := (16 : Int32)) (by decide +kernel) ?_
        refine r_iload_n d_X11_withOrigin_28 rfl g1 ?_
        refine r_imul d_X11_withOrigin_29 ?_
        refine r_iload_n d_X11_withOrigin_30 rfl g3 ?_
        refine r_iadd d_X11_withOrigin_31 ?_
        cases e
        exact g_iret d_X11_withOrigin_32 rfl rfl

def f_X11_withOrigin (l0 : Nat) (l1 : Int32) (l2 : Int32) (h : Hp) : Option (Int32 × Hp) := f_X11_withOrigin_2 fz (l0) (l1) (l2) ((0 : Int32)) (h)
theorem f_X11_withOrigin_ok {G : Gd} {d : Nat} (hj : 3 ≤ d) : ∀ (l0 : Nat) (l1 : Int32) (l2 : Int32) (L : List (Nat × Value)) (h : Hp) (o : (Int32 × Hp)), zlk L 0 = some (zrf (l0)) → zlk L 1 = some (.int (l1)) → zlk L 2 = some (.int (l2)) → f_X11_withOrigin l0 l1 l2 h = some o → Ev G M_X11_withOrigin d 0 L [] h (Ret Y_X11_withOrigin (some (.int o.1)) o.2) := by
  intro l0 l1 l2 L h o g0 g1 g2 e
  unfold f_X11_withOrigin at e
  refine r_iconst d_X11_withOrigin_0 (v := (0 : Int32)) (by decide +kernel) ?_
  refine s_istore_n d_X11_withOrigin_1 rfl (by decide) (fun L g3 gK => ?_)
  replace g0 := gK _ _ (by decide) (Or.inr (zrf_cat _)) g0
  replace g1 := gK _ _ (by decide) (Or.inr rfl) g1
  replace g2 := gK _ _ (by decide) (Or.inr rfl) g2
  exact f_X11_withOrigin_2_ok hj _ _ _ _ _ _ _ _ g0 g1 g2 g3 e

theorem c_X11_withOrigin {G : Gd} {j : Nat} (hj : 3 ≤ j) {l0 : Nat} {l1 : Int32} {l2 : Int32} {h : Hp} {o : (Int32 × Hp)} (e : f_X11_withOrigin l0 l1 l2 h = some o) : Cal G j Y_X11_withOrigin [zrf (l0), .int (l1), .int (l2)] h (some (.int o.1)) o.2 := Cal.of (n := 0) (I := false) (by decide +kernel) (by decide) (by simp [lg_sl, zrf_cat, cat_int, cat_long]) (f_X11_withOrigin_ok hj _ _ _ _ h o (by simp [lv_args, zlk, zrf_cat, cat_int, cat_long]) (by simp [lv_args, zlk, zrf_cat, cat_int, cat_long]) (by simp [lv_args, zlk, zrf_cat, cat_int, cat_long]) e)
def f_X11_hasSignal_44 (K2 : Nat → Int32 → Int32 → Int32 → Hp → Option (Int32 × Hp)) (l0 : Nat) (l1 : Int32) (l2 : Int32) (l3 : Int32) (h : Hp) : Option (Int32 × Hp) := bh ((l3) + (1 : Int32)) (fun x14 => K2 (l0) (l1) (l2) (x14) (h))
theorem f_X11_hasSignal_44_ok {G : Gd} {d : Nat} (K2 : Nat → Int32 → Int32 → Int32 → Hp → Option (Int32 × Hp)) (hj : 2 ≤ d) (hK2 : ∀ (l0 : Nat) (l1 : Int32) (l2 : Int32) (l3 : Int32) (L : List (Nat × Value)) (h : Hp) (o : (Int32 × Hp)), zlk L 0 = some (zrf (l0)) → zlk L 1 = some (.int (l1)) → zlk L 2 = some (.int (l2)) → zlk L 3 = some (.int (l3)) → K2 l0 l1 l2 l3 h = some o → Ev G M_X11_hasSignal d 2 L [] h (Ret Y_X11_hasSignal (some (.int o.1)) o.2)) : ∀ (l0 : Nat) (l1 : Int32) (l2 : Int32) (l3 : Int32) (L : List (Nat × Value)) (h : Hp) (o : (Int32 × Hp)), zlk L 0 = some (zrf (l0)) → zlk L 1 = some (.int (l1)) → zlk L 2 = some (.int (l2)) → zlk L 3 = some (.int (l3)) → f_X11_hasSignal_44 K2 l0 l1 l2 l3 h = some o → Ev G M_X11_hasSignal d 44 L [] h (Ret Y_X11_hasSignal (some (.int o.1)) o.2) := by
  intro l0 l1 l2 l3 L h o g0 g1 g2 g3 e
  unfold f_X11_hasSignal_44 at e
  replace e := bhd e
  obtain ⟨_, rfl, e⟩ := e
  refine s_iinc d_X11_hasSignal_44 g3 (w := (1 : Int32)) (by decide +kernel) (by decide) (fun L g3 gK => ?_)
  replace g0 := gK _ _ (by decide) (Or.inr (zrf_cat _)) g0
  replace g1 := gK _ _ (by decide) (Or.inr rfl) g1
  replace g2 := gK _ _ (by decide) (Or.inr rfl) g2
  refine r_goto d_X11_hasSignal_47 (tgt := 2) (by decide) ?_
  exact hK2 _ _ _ _ _ _ _ g0 g1 g2 g3 e

def f_X11_hasSignal_2 : Nat → Nat → Int32 → Int32 → Int32 → Hp → Option (Int32 × Hp)
  | 0, _, _, _, _, _ => none
  | n + 1, l0, l1, l2, l3, h => ck (isO (h) (l0) 12) (ck (isO (h) (zR (h) 1241 (l0)) 22) (ck (inR (l1) (zL (h) (zR (h) 1241 (l0)))) (if (zE (h) (zR (h) 1241 (l0)) (l1).toNatClampNeg) ≤ (l3) then (some ((0 : Int32), h)) else ((f_X11_event (l0) (l1) (l3) (h)).bind (fun q5 => ck (isO (q5.2) (l0) 12) ((f_X11_kindOf (l0) (q5.1) (q5.2)).bind (fun q6 => if (q6.1) = ((8 : Int32)) then (ck (isO (q6.2) (l0) 12) ((f_X11_event (l0) (l1) (l3) (q6.2)).bind (fun q10 => ck (isO (q10.2) (zR (q6.2) 1229 (l0)) 22) (ck (inR (q10.1) (zL (q10.2) (zR (q6.2) 1229 (l0)))) (if (zE (q10.2) (zR (q6.2) 1229 (l0)) (q10.1).toNatClampNeg) = (l2) then (some ((1 : Int32), q10.2)) else (f_X11_hasSignal_44 (f_X11_hasSignal_2 n ) (l0) (l1) (l2) (l3) (q10.2))))))) else (f_X11_hasSignal_44 (f_X11_hasSignal_2 n ) (l0) (l1) (l2) (l3) (q6.2)))))))))
theorem f_X11_hasSignal_2_ok {G : Gd} {d : Nat} (hj : 2 ≤ d) : ∀ (n : Nat) (l0 : Nat) (l1 : Int32) (l2 : Int32) (l3 : Int32) (L : List (Nat × Value)) (h : Hp) (o : (Int32 × Hp)), zlk L 0 = some (zrf (l0)) → zlk L 1 = some (.int (l1)) → zlk L 2 = some (.int (l2)) → zlk L 3 = some (.int (l3)) → f_X11_hasSignal_2 n l0 l1 l2 l3 h = some o → Ev G M_X11_hasSignal d 2 L [] h (Ret Y_X11_hasSignal (some (.int o.1)) o.2) := by
  intro n
  induction n with
  | zero =>
    intro l0 l1 l2 l3 L h o g0 g1 g2 g3 e
    cases e
  | succ n ih =>
    intro l0 l1 l2 l3 L h o g0 g1 g2 g3 e
    unfold f_X11_hasSignal_2 at e
    refine r_iload_n d_X11_hasSignal_2 rfl g3 ?_
    refine g_ald_n d_X11_hasSignal_3 rfl g0 ?_
    replace e := ckd e
    obtain ⟨k1, e⟩ := e
    refine g_getR d_X11_hasSignal_4 (f := 1241) k1 fk_12_113 rfl rfl ?_
    refine r_iload_n d_X11_hasSignal_7 rfl g1 ?_
    replace e := ckd e
    obtain ⟨k2, e⟩ := e
    replace e := ckd e
    obtain ⟨k3, e⟩ := e
    refine g_iald d_X11_hasSignal_8 k2 k3 rfl ?_
    refine r_icmp_ge d_X11_hasSignal_9 (tgt := 50) (by decide) (fun c4 => ?_) (fun c4 => ?_)
    · replace e := (if_pos c4).symm.trans e
      refine r_iconst d_X11_hasSignal_50 (v := (0 : Int32)) (by decide +kernel) ?_
      cases e
      exact g_iret d_X11_hasSignal_51 rfl rfl
    · replace e := (if_neg c4).symm.trans e
      refine g_ald_n d_X11_hasSignal_12 rfl g0 ?_
      refine g_ald_n d_X11_hasSignal_13 rfl g0 ?_
      refine r_iload_n d_X11_hasSignal_14 rfl g1 ?_
      refine r_iload_n d_X11_hasSignal_15 rfl g3 ?_
      replace e := bd e
      obtain ⟨q5, eq5, e⟩ := e
      refine g_callV d_X11_hasSignal_16 vk_12_305 (as := [_, _]) rfl k1 rfl (by simp [zrf_cat, cat_int, cat_long]) (j := 1) (by omega) (c_X11_event (by omega) eq5) ?_
      replace e := ckd e
      obtain ⟨k7, e⟩ := e
      replace e := bd e
      obtain ⟨q6, eq6, e⟩ := e
      refine g_callV d_X11_hasSignal_19 vk_12_286 (as := [_]) rfl k7 rfl (by simp [zrf_cat, cat_int, cat_long]) (j := 1) (by omega) (c_X11_kindOf (by omega) eq6) ?_
      refine r_bipush d_X11_hasSignal_22 (v := (8 : Int32)) (by decide +kernel) ?_
      refine r_icmp_ne d_X11_hasSignal_24 (tgt := 44) (by decide) (fun c8 => ?_) (fun c8 => ?_)
      · replace e := (if_neg c8).symm.trans e
        exact f_X11_hasSignal_44_ok _ hj ih _ _ _ _ _ _ _ g0 g1 g2 g3 e
      · replace e := (if_pos c8).symm.trans e
        refine g_ald_n d_X11_hasSignal_27 rfl g0 ?_
        replace e := ckd e
        obtain ⟨k9, e⟩ := e
        refine g_getR d_X11_hasSignal_28 (f := 1229) k9 fk_12_76 rfl rfl ?_
        refine g_ald_n d_X11_hasSignal_31 rfl g0 ?_
        refine r_iload_n d_X11_hasSignal_32 rfl g1 ?_
        refine r_iload_n d_X11_hasSignal_33 rfl g3 ?_
        replace e := bd e
        obtain ⟨q10, eq10, e⟩ := e
        refine g_callV d_X11_hasSignal_34 vk_12_305 (as := [_, _]) rfl k9 rfl (by simp [zrf_cat, cat_int, cat_long]) (j := 1) (by omega) (c_X11_event (by omega) eq10) ?_
        replace e := ckd e
        obtain ⟨k11, e⟩ := e
        replace e := ckd e
        obtain ⟨k12, e⟩ := e
        refine g_iald d_X11_hasSignal_37 k11 k12 rfl ?_
        refine r_iload_n d_X11_hasSignal_38 rfl g2 ?_
        refine r_icmp_ne d_X11_hasSignal_39 (tgt := 44) (by decide) (fun c13 => ?_) (fun c13 => ?_)
        · replace e := (if_neg c13).symm.trans e
          exact f_X11_hasSignal_44_ok _ hj ih _ _ _ _ _ _ _ g0 g1 g2 g3 e
        · replace e := (if_pos c13).symm.trans e
          refine r_iconst d_X11_hasSignal_42 (v := (1 : Int32)) (by decide +kernel) ?_
          cases e
          exact g_iret d_X11_hasSignal_43 rfl rfl

def f_X11_hasSignal (l0 : Nat) (l1 : Int32) (l2 : Int32) (h : Hp) : Option (Int32 × Hp) := f_X11_hasSignal_2 fz (l0) (l1) (l2) ((0 : Int32)) (h)
theorem f_X11_hasSignal_ok {G : Gd} {d : Nat} (hj : 2 ≤ d) : ∀ (l0 : Nat) (l1 : Int32) (l2 : Int32) (L : List (Nat × Value)) (h : Hp) (o : (Int32 × Hp)), zlk L 0 = some (zrf (l0)) → zlk L 1 = some (.int (l1)) → zlk L 2 = some (.int (l2)) → f_X11_hasSignal l0 l1 l2 h = some o → Ev G M_X11_hasSignal d 0 L [] h (Ret Y_X11_hasSignal (some (.int o.1)) o.2) := by
  intro l0 l1 l2 L h o g0 g1 g2 e
  unfold f_X11_hasSignal at e
  refine r_iconst d_X11_hasSignal_0 (v := (0 : Int32)) (by decide +kernel) ?_
  refine s_istore_n d_X11_hasSignal_1 rfl (by decide) (fun L g3 gK => ?_)
  replace g0 := gK _ _ (by decide) (Or.inr (zrf_cat _)) g0
  replace g1 := gK _ _ (by decide) (Or.inr rfl) g1
  replace g2 := gK _ _ (by decide) (Or.inr rfl) g2
  exact f_X11_hasSignal_2_ok hj _ _ _ _ _ _ _ _ g0 g1 g2 g3 e

theorem c_X11_hasSignal {G : Gd} {j : Nat} (hj : 2 ≤ j) {l0 : Nat} {l1 : Int32} {l2 : Int32} {h : Hp} {o : (Int32 × Hp)} (e : f_X11_hasSignal l0 l1 l2 h = some o) : Cal G j Y_X11_hasSignal [zrf (l0), .int (l1), .int (l2)] h (some (.int o.1)) o.2 := Cal.of (n := 0) (I := false) (by decide +kernel) (by decide) (by simp [lg_sl, zrf_cat, cat_int, cat_long]) (f_X11_hasSignal_ok hj _ _ _ _ h o (by simp [lv_args, zlk, zrf_cat, cat_int, cat_long]) (by simp [lv_args, zlk, zrf_cat, cat_int, cat_long]) (by simp [lv_args, zlk, zrf_cat, cat_int, cat_long]) e)
def f_X11_works (l0 : Nat) (l1 : Int32) (h : Hp) : Option (Int32 × Hp) := ck (isO (h) (l0) 12) (ck (isO (h) (zR (h) 1237 (l0)) 22) (ck (inR ((l1) / ((16 : Int32))) (zL (h) (zR (h) 1237 (l0)))) (if (zE (h) (zR (h) 1237 (l0)) ((l1) / ((16 : Int32))).toNatClampNeg) = ((-1 : Int32)) then (some ((0 : Int32), h)) else (some ((1 : Int32), h)))))
theorem f_X11_works_ok {G : Gd} {d : Nat} (hj : 1 ≤ d) : ∀ (l0 : Nat) (l1 : Int32) (L : List (Nat × Value)) (h : Hp) (o : (Int32 × Hp)), zlk L 0 = some (zrf (l0)) → zlk L 1 = some (.int (l1)) → f_X11_works l0 l1 h = some o → Ev G M_X11_works d 0 L [] h (Ret Y_X11_works (some (.int o.1)) o.2) := by
  intro l0 l1 L h o g0 g1 e
  unfold f_X11_works at e
  refine g_ald_n d_X11_works_0 rfl g0 ?_
  replace e := ckd e
  obtain ⟨k1, e⟩ := e
  refine g_getR d_X11_works_1 (f := 1237) k1 fk_12_101 rfl rfl ?_
  refine r_iload_n d_X11_works_4 rfl g1 ?_
  refine r_bipush d_X11_works_5 (v := (16 : Int32)) (by decide +kernel) ?_
  refine r_idiv d_X11_works_7 (by decide +kernel) ?_
  replace e := ckd e
  obtain ⟨k2, e⟩ := e
  replace e := ckd e
  obtain ⟨k3, e⟩ := e
  refine g_iald d_X11_works_8 k2 k3 rfl ?_
  refine r_iconst d_X11_works_9 (v := (-1 : Int32)) (by decide +kernel) ?_
  refine r_icmp_eq d_X11_works_10 (tgt := 17) (by decide) (fun c4 => ?_) (fun c4 => ?_)
  · replace e := (if_pos c4).symm.trans e
    refine r_iconst d_X11_works_17 (v := (0 : Int32)) (by decide +kernel) ?_
    cases e
    exact g_iret d_X11_works_18 rfl rfl
  · replace e := (if_neg c4).symm.trans e
    refine r_iconst d_X11_works_13 (v := (1 : Int32)) (by decide +kernel) ?_
    refine r_goto d_X11_works_14 (tgt := 18) (by decide) ?_
    cases e
    exact g_iret d_X11_works_18 rfl rfl

theorem c_X11_works {G : Gd} {j : Nat} (hj : 1 ≤ j) {l0 : Nat} {l1 : Int32} {h : Hp} {o : (Int32 × Hp)} (e : f_X11_works l0 l1 h = some o) : Cal G j Y_X11_works [zrf (l0), .int (l1)] h (some (.int o.1)) o.2 := Cal.of (n := 0) (I := false) (by decide +kernel) (by decide) (by simp [lg_sl, zrf_cat, cat_int, cat_long]) (f_X11_works_ok hj _ _ _ h o (by simp [lv_args, zlk, zrf_cat, cat_int, cat_long]) (by simp [lv_args, zlk, zrf_cat, cat_int, cat_long]) e)
theorem vk_12_382 : Vk "TaskWeaveModel" 382 1 12 Y_X11_isFlow := ⟨yk_X11_isFlow, by decide +kernel, by decide +kernel, by decide +kernel, by decide⟩
theorem sk_12_385 : Sk "TaskWeaveModel" 385 1 Y_X11_placeOf := ⟨yk_X11_placeOf, by decide +kernel, by decide +kernel⟩
theorem vk_12_388 : Vk "TaskWeaveModel" 388 1 12 Y_X11_works := ⟨yk_X11_works, by decide +kernel, by decide +kernel, by decide +kernel, by decide⟩
def f_X11_query_38 (s0 : Nat) (s1 : Int32) (l0 : Nat) (l1 : Int32) (l2 : Int32) (h : Hp) : Option (Int32 × Hp) := ck (isO (h) (s0) 12) (bh (pI (h) 1200 (s0) (s1)) (fun h11 => ck (isO (h11) (l0) 12) (if (zI (h11) 1200 (l0)) ≤ (0) then ((f_X11_placeOf (l1) (h11)).bind (fun q14 => ck (isO (q14.2) (zR (h11) 1245 (l0)) 22) (ck (inR ((((8 : Int32)) * (q14.1)) + (l2)) (zL (q14.2) (zR (h11) 1245 (l0)))) (some (zE (q14.2) (zR (h11) 1245 (l0)) ((((8 : Int32)) * (q14.1)) + (l2)).toNatClampNeg, q14.2))))) else (some ((0 : Int32), h11)))))
theorem f_X11_query_38_ok {G : Gd} {d : Nat} (hj : 2 ≤ d) : ∀ (s0 : Nat) (s1 : Int32) (l0 : Nat) (l1 : Int32) (l2 : Int32) (L : List (Nat × Value)) (h : Hp) (o : (Int32 × Hp)), zlk L 0 = some (zrf (l0)) → zlk L 1 = some (.int (l1)) → zlk L 2 = some (.int (l2)) → f_X11_query_38 s0 s1 l0 l1 l2 h = some o → Ev G M_X11_query d 38 L [.int (s1), zrf (s0)] h (Ret Y_X11_query (some (.int o.1)) o.2) := by
  intro s0 s1 l0 l1 l2 L h o g0 g1 g2 e
  unfold f_X11_query_38 at e
  replace e := ckd e
  obtain ⟨k10, e⟩ := e
  refine g_putI d_X11_query_38 (f := 1200) k10 fk_12_183 rfl (Or.inl rfl) ⟨rfl, rfl⟩ ?_
  replace e := bhd e
  obtain ⟨_, rfl, e⟩ := e
  refine g_ald_n d_X11_query_41 rfl g0 ?_
  replace e := ckd e
  obtain ⟨k12, e⟩ := e
  refine g_getI d_X11_query_42 (f := 1200) k12 fk_12_183 rfl rfl ?_
  refine r_if_le d_X11_query_45 (tgt := 52) (by decide) (fun c13 => ?_) (fun c13 => ?_)
  · replace e := (if_pos c13).symm.trans e
    refine g_ald_n d_X11_query_52 rfl g0 ?_
    refine g_getR d_X11_query_53 (f := 1245) k12 fk_12_125 rfl rfl ?_
    refine r_bipush d_X11_query_56 (v := (8 : Int32)) (by decide +kernel) ?_
    refine r_iload_n d_X11_query_58 rfl g1 ?_
    replace e := bd e
    obtain ⟨q14, eq14, e⟩ := e
    refine g_callS d_X11_query_59 sk_12_385 (as := [_]) rfl rfl (by simp [zrf_cat, cat_int, cat_long]) (j := 1) (by omega) (c_X11_placeOf (by omega) eq14) ?_
    refine r_imul d_X11_query_62 ?_
    refine r_iload_n d_X11_query_63 rfl g2 ?_
    refine r_iadd d_X11_query_64 ?_
    replace e := ckd e
    obtain ⟨k15, e⟩ := e
    replace e := ckd e
    obtain ⟨k16, e⟩ := e
    refine g_iald d_X11_query_65 k15 k16 rfl ?_
    cases e
    exact g_iret d_X11_query_66 rfl rfl
  · replace e := (if_neg c13).symm.trans e
    refine r_iconst d_X11_query_48 (v := (0 : Int32)) (by decide +kernel) ?_
    refine r_goto d_X11_query_49 (tgt := 66) (by decide) ?_
    cases e
    exact g_iret d_X11_query_66 rfl rfl

def f_X11_query_18 (s0 : Nat) (l0 : Nat) (l1 : Int32) (l2 : Int32) (h : Hp) : Option (Int32 × Hp) := f_X11_query_38 (s0) ((1 : Int32)) (l0) (l1) (l2) (h)
theorem f_X11_query_18_ok {G : Gd} {d : Nat} (hj : 2 ≤ d) : ∀ (s0 : Nat) (l0 : Nat) (l1 : Int32) (l2 : Int32) (L : List (Nat × Value)) (h : Hp) (o : (Int32 × Hp)), zlk L 0 = some (zrf (l0)) → zlk L 1 = some (.int (l1)) → zlk L 2 = some (.int (l2)) → f_X11_query_18 s0 l0 l1 l2 h = some o → Ev G M_X11_query d 18 L [zrf (s0)] h (Ret Y_X11_query (some (.int o.1)) o.2) := by
  intro s0 l0 l1 l2 L h o g0 g1 g2 e
  unfold f_X11_query_18 at e
  refine r_iconst d_X11_query_18 (v := (1 : Int32)) (by decide +kernel) ?_
  refine r_goto d_X11_query_19 (tgt := 38) (by decide) ?_
  exact f_X11_query_38_ok hj _ _ _ _ _ _ _ _ g0 g1 g2 e

def f_X11_query (l0 : Nat) (l1 : Int32) (l2 : Int32) (h : Hp) : Option (Int32 × Hp) := ck (isO (h) (l0) 12) ((f_X11_isFlow (l0) (l1) (h)).bind (fun q1 => if (q1.1) = (0) then (f_X11_query_18 (l0) (l0) (l1) (l2) (q1.2)) else ((f_X11_in (l2) ((8 : Int32)) (q1.2)).bind (fun q4 => if (q4.1) = (0) then (f_X11_query_18 (l0) (l0) (l1) (l2) (q4.2)) else ((f_X11_placeOf (l1) (q4.2)).bind (fun q6 => ck (isO (q6.2) (l0) 12) ((f_X11_works (l0) (q6.1) (q6.2)).bind (fun q7 => if (q7.1) = (0) then (f_X11_query_38 (l0) ((2 : Int32)) (l0) (l1) (l2) (q7.2)) else (f_X11_query_38 (l0) ((0 : Int32)) (l0) (l1) (l2) (q7.2))))))))))
theorem f_X11_query_ok {G : Gd} {d : Nat} (hj : 2 ≤ d) : ∀ (l0 : Nat) (l1 : Int32) (l2 : Int32) (L : List (Nat × Value)) (h : Hp) (o : (Int32 × Hp)), zlk L 0 = some (zrf (l0)) → zlk L 1 = some (.int (l1)) → zlk L 2 = some (.int (l2)) → f_X11_query l0 l1 l2 h = some o → Ev G M_X11_query d 0 L [] h (Ret Y_X11_query (some (.int o.1)) o.2) := by
  intro l0 l1 l2 L h o g0 g1 g2 e
  unfold f_X11_query at e
  refine g_ald_n d_X11_query_0 rfl g0 ?_
  refine g_ald_n d_X11_query_1 rfl g0 ?_
  refine r_iload_n d_X11_query_2 rfl g1 ?_
  replace e := ckd e
  obtain ⟨k2, e⟩ := e
  replace e := bd e
  obtain ⟨q1, eq1, e⟩ := e
  refine g_callV d_X11_query_3 vk_12_382 (as := [_]) rfl k2 rfl (by simp [zrf_cat, cat_int, cat_long]) (j := 1) (by omega) (c_X11_isFlow (by omega) eq1) ?_
  refine r_if_eq d_X11_query_6 (tgt := 18) (by decide) (fun c3 => ?_) (fun c3 => ?_)
  · replace e := (if_pos c3).symm.trans e
    exact f_X11_query_18_ok hj _ _ _ _ _ _ _ g0 g1 g2 e
  · replace e := (if_neg c3).symm.trans e
    refine r_iload_n d_X11_query_9 rfl g2 ?_
    refine r_bipush d_X11_query_10 (v := (8 : Int32)) (by decide +kernel) ?_
    replace e := bd e
    obtain ⟨q4, eq4, e⟩ := e
    refine g_callS d_X11_query_12 sk_12_230 (as := [_, _]) rfl rfl (by simp [zrf_cat, cat_int, cat_long]) (j := 1) (by omega) (c_X11_in (by omega) eq4) ?_
    refine r_if_ne d_X11_query_15 (tgt := 22) (by decide) (fun c5 => ?_) (fun c5 => ?_)
    · replace e := (if_neg c5).symm.trans e
      refine g_ald_n d_X11_query_22 rfl g0 ?_
      refine r_iload_n d_X11_query_23 rfl g1 ?_
      replace e := bd e
      obtain ⟨q6, eq6, e⟩ := e
      refine g_callS d_X11_query_24 sk_12_385 (as := [_]) rfl rfl (by simp [zrf_cat, cat_int, cat_long]) (j := 1) (by omega) (c_X11_placeOf (by omega) eq6) ?_
      replace e := ckd e
      obtain ⟨k8, e⟩ := e
      replace e := bd e
      obtain ⟨q7, eq7, e⟩ := e
      refine g_callV d_X11_query_27 vk_12_388 (as := [_]) rfl k8 rfl (by simp [zrf_cat, cat_int, cat_long]) (j := 1) (by omega) (c_X11_works (by omega) eq7) ?_
      refine r_if_ne d_X11_query_30 (tgt := 37) (by decide) (fun c9 => ?_) (fun c9 => ?_)
      · replace e := (if_neg c9).symm.trans e
        refine r_iconst d_X11_query_37 (v := (0 : Int32)) (by decide +kernel) ?_
        exact f_X11_query_38_ok hj _ _ _ _ _ _ _ _ g0 g1 g2 e
      · replace e := (if_pos c9).symm.trans e
        refine r_iconst d_X11_query_33 (v := (2 : Int32)) (by decide +kernel) ?_
        refine r_goto d_X11_query_34 (tgt := 38) (by decide) ?_
        exact f_X11_query_38_ok hj _ _ _ _ _ _ _ _ g0 g1 g2 e
    · replace e := (if_pos c5).symm.trans e
      exact f_X11_query_18_ok hj _ _ _ _ _ _ _ g0 g1 g2 e

theorem c_X11_query {G : Gd} {j : Nat} (hj : 2 ≤ j) {l0 : Nat} {l1 : Int32} {l2 : Int32} {h : Hp} {o : (Int32 × Hp)} (e : f_X11_query l0 l1 l2 h = some o) : Cal G j Y_X11_query [zrf (l0), .int (l1), .int (l2)] h (some (.int o.1)) o.2 := Cal.of (n := 0) (I := false) (by decide +kernel) (by decide) (by simp [lg_sl, zrf_cat, cat_int, cat_long]) (f_X11_query_ok hj _ _ _ _ h o (by simp [lv_args, zlk, zrf_cat, cat_int, cat_long]) (by simp [lv_args, zlk, zrf_cat, cat_int, cat_long]) (by simp [lv_args, zlk, zrf_cat, cat_int, cat_long]) e)
def f_X11_workOf_9 : Nat → Nat → Int32 → Int32 → Hp → Option (Int32 × Hp)
  | 0, _, _, _, _ => none
  | n + 1, l0, l1, l2, h => ck (isO (h) (l0) 12) ((f_X11_event (l0) (l1) (l2) (h)).bind (fun q5 => ck (isO (q5.2) (l0) 12) ((f_X11_kindOf (l0) (q5.1) (q5.2)).bind (fun q7 => if (q7.1) = ((1 : Int32)) then (ck (isO (q7.2) (l0) 12) ((f_X11_event (l0) (l1) (l2) (q7.2)).bind (fun q10 => some (q10.1, q10.2)))) else (bh ((l2) + (-1 : Int32)) (fun x12 => f_X11_workOf_9 n (l0) (l1) (x12) (q7.2)))))))
theorem f_X11_workOf_9_ok {G : Gd} {d : Nat} (hj : 2 ≤ d) : ∀ (n : Nat) (l0 : Nat) (l1 : Int32) (l2 : Int32) (L : List (Nat × Value)) (h : Hp) (o : (Int32 × Hp)), zlk L 0 = some (zrf (l0)) → zlk L 1 = some (.int (l1)) → zlk L 2 = some (.int (l2)) → f_X11_workOf_9 n l0 l1 l2 h = some o → Ev G M_X11_workOf d 9 L [] h (Ret Y_X11_workOf (some (.int o.1)) o.2) := by
  intro n
  induction n with
  | zero =>
    intro l0 l1 l2 L h o g0 g1 g2 e
    cases e
  | succ n ih =>
    intro l0 l1 l2 L h o g0 g1 g2 e
    unfold f_X11_workOf_9 at e
    refine g_ald_n d_X11_workOf_9 rfl g0 ?_
    refine g_ald_n d_X11_workOf_10 rfl g0 ?_
    refine r_iload_n d_X11_workOf_11 rfl g1 ?_
    refine r_iload_n d_X11_workOf_12 rfl g2 ?_
    replace e := ckd e
    obtain ⟨k6, e⟩ := e
    replace e := bd e
    obtain ⟨q5, eq5, e⟩ := e
    refine g_callV d_X11_workOf_13 vk_12_305 (as := [_, _]) rfl k6 rfl (by simp [zrf_cat, cat_int, cat_long]) (j := 1) (by omega) (c_X11_event (by omega) eq5) ?_
    replace e := ckd e
    obtain ⟨k8, e⟩ := e
    replace e := bd e
    obtain ⟨q7, eq7, e⟩ := e
    refine g_callV d_X11_workOf_16 vk_12_286 (as := [_]) rfl k8 rfl (by simp [zrf_cat, cat_int, cat_long]) (j := 1) (by omega) (c_X11_kindOf (by omega) eq7) ?_
    refine r_iconst d_X11_workOf_19 (v := (1 : Int32)) (by decide +kernel) ?_
    refine r_icmp_eq d_X11_workOf_20 (tgt := 29) (by decide) (fun c9 => ?_) (fun c9 => ?_)
    · replace e := (if_pos c9).symm.trans e
      refine g_ald_n d_X11_workOf_29 rfl g0 ?_
      refine r_iload_n d_X11_workOf_30 rfl g1 ?_
      refine r_iload_n d_X11_workOf_31 rfl g2 ?_
      replace e := ckd e
      obtain ⟨k11, e⟩ := e
      replace e := bd e
      obtain ⟨q10, eq10, e⟩ := e
      refine g_callV d_X11_workOf_32 vk_12_305 (as := [_, _]) rfl k11 rfl (by simp [zrf_cat, cat_int, cat_long]) (j := 1) (by omega) (c_X11_event (by omega) eq10) ?_
      cases e
      exact g_iret d_X11_workOf_35 rfl rfl
    · replace e := (if_neg c9).symm.trans e
      replace e := bhd e
      obtain ⟨_, rfl, e⟩ := e
      refine s_iinc d_X11_workOf_23 g2 (w := (-1 : Int32)) (by decide +kernel) (by decide) (fun L g2 gK => ?_)
      replace g0 := gK _ _ (by decide) (Or.inr (zrf_cat _)) g0
      replace g1 := gK _ _ (by decide) (Or.inr rfl) g1
      refine r_goto d_X11_workOf_26 (tgt := 9) (by decide) ?_
      exact ih _ _ _ _ _ _ g0 g1 g2 e

def f_X11_workOf (l0 : Nat) (l1 : Int32) (h : Hp) : Option (Int32 × Hp) := ck (isO (h) (l0) 12) (ck (isO (h) (zR (h) 1241 (l0)) 22) (ck (inR (l1) (zL (h) (zR (h) 1241 (l0)))) (bh ((zE (h) (zR (h) 1241 (l0)) (l1).toNatClampNeg) - ((1 : Int32))) (fun x4 => f_X11_workOf_9 fz (l0) (l1) (x4) (h)))))
theorem f_X11_workOf_ok {G : Gd} {d : Nat} (hj : 2 ≤ d) : ∀ (l0 : Nat) (l1 : Int32) (L : List (Nat × Value)) (h : Hp) (o : (Int32 × Hp)), zlk L 0 = some (zrf (l0)) → zlk L 1 = some (.int (l1)) → f_X11_workOf l0 l1 h = some o → Ev G M_X11_workOf d 0 L [] h (Ret Y_X11_workOf (some (.int o.1)) o.2) := by
  intro l0 l1 L h o g0 g1 e
  unfold f_X11_workOf at e
  refine g_ald_n d_X11_workOf_0 rfl g0 ?_
  replace e := ckd e
  obtain ⟨k1, e⟩ := e
  refine g_getR d_X11_workOf_1 (f := 1241) k1 fk_12_113 rfl rfl ?_
  refine r_iload_n d_X11_workOf_4 rfl g1 ?_
  replace e := ckd e
  obtain ⟨k2, e⟩ := e
  replace e := ckd e
  obtain ⟨k3, e⟩ := e
  refine g_iald d_X11_workOf_5 k2 k3 rfl ?_
  refine r_iconst d_X11_workOf_6 (v := (1 : Int32)) (by decide +kernel) ?_
  refine r_isub d_X11_workOf_7 ?_
  replace e := bhd e
  obtain ⟨_, rfl, e⟩ := e
  refine s_istore_n d_X11_workOf_8 rfl (by decide) (fun L g2 gK => ?_)
  replace g0 := gK _ _ (by decide) (Or.inr (zrf_cat _)) g0
  replace g1 := gK _ _ (by decide) (Or.inr rfl) g1
  exact f_X11_workOf_9_ok hj _ _ _ _ _ _ _ g0 g1 g2 e

theorem c_X11_workOf {G : Gd} {j : Nat} (hj : 2 ≤ j) {l0 : Nat} {l1 : Int32} {h : Hp} {o : (Int32 × Hp)} (e : f_X11_workOf l0 l1 h = some o) : Cal G j Y_X11_workOf [zrf (l0), .int (l1)] h (some (.int o.1)) o.2 := Cal.of (n := 0) (I := false) (by decide +kernel) (by decide) (by simp [lg_sl, zrf_cat, cat_int, cat_long]) (f_X11_workOf_ok hj _ _ _ h o (by simp [lv_args, zlk, zrf_cat, cat_int, cat_long]) (by simp [lv_args, zlk, zrf_cat, cat_int, cat_long]) e)
theorem fk_12_400 : Fk "TaskWeaveModel" 400 1202 := ⟨by decide, by decide, by decide +kernel⟩
theorem vk_12_397 : Vk "TaskWeaveModel" 397 1 12 Y_X11_workOf := ⟨yk_X11_workOf, by decide +kernel, by decide +kernel, by decide +kernel, by decide⟩
def f_X11_poll_117 (K9 : Nat → Int32 → Int32 → Int32 → Hp → Option (Int32 × Hp)) (l0 : Nat) (l1 : Int32) (l2 : Int32) (l3 : Int32) (h : Hp) : Option (Int32 × Hp) := bh ((l3) + (1 : Int32)) (fun x41 => K9 (l0) (l1) (l2) (x41) (h))
theorem f_X11_poll_117_ok {G : Gd} {d : Nat} (K9 : Nat → Int32 → Int32 → Int32 → Hp → Option (Int32 × Hp)) (hj : 3 ≤ d) (hK9 : ∀ (l0 : Nat) (l1 : Int32) (l2 : Int32) (l3 : Int32) (L : List (Nat × Value)) (h : Hp) (o : (Int32 × Hp)), zlk L 0 = some (zrf (l0)) → zlk L 1 = some (.int (l1)) → zlk L 2 = some (.int (l2)) → zlk L 3 = some (.int (l3)) → K9 l0 l1 l2 l3 h = some o → Ev G M_X11_poll d 9 L [] h (Ret Y_X11_poll (some (.int o.1)) o.2)) : ∀ (l0 : Nat) (l1 : Int32) (l2 : Int32) (l3 : Int32) (L : List (Nat × Value)) (h : Hp) (o : (Int32 × Hp)), zlk L 0 = some (zrf (l0)) → zlk L 1 = some (.int (l1)) → zlk L 2 = some (.int (l2)) → zlk L 3 = some (.int (l3)) → f_X11_poll_117 K9 l0 l1 l2 l3 h = some o → Ev G M_X11_poll d 117 L [] h (Ret Y_X11_poll (some (.int o.1)) o.2) := by
  intro l0 l1 l2 l3 L h o g0 g1 g2 g3 e
  unfold f_X11_poll_117 at e
  replace e := bhd e
  obtain ⟨_, rfl, e⟩ := e
  refine s_iinc d_X11_poll_117 g3 (w := (1 : Int32)) (by decide +kernel) (by decide) (fun L g3 gK => ?_)
  replace g0 := gK _ _ (by decide) (Or.inr (zrf_cat _)) g0
  replace g1 := gK _ _ (by decide) (Or.inr rfl) g1
  replace g2 := gK _ _ (by decide) (Or.inr rfl) g2
  refine r_goto d_X11_poll_120 (tgt := 9) (by decide) ?_
  exact hK9 _ _ _ _ _ _ _ g0 g1 g2 g3 e

def f_X11_poll_114 (K9 : Nat → Int32 → Int32 → Int32 → Hp → Option (Int32 × Hp)) (l0 : Nat) (l1 : Int32) (l3 : Int32) (l4 : Int32) (h : Hp) : Option (Int32 × Hp) := f_X11_poll_117 K9 (l0) (l1) (l4) (l3) (h)
theorem f_X11_poll_114_ok {G : Gd} {d : Nat} (K9 : Nat → Int32 → Int32 → Int32 → Hp → Option (Int32 × Hp)) (hj : 3 ≤ d) (hK9 : ∀ (l0 : Nat) (l1 : Int32) (l2 : Int32) (l3 : Int32) (L : List (Nat × Value)) (h : Hp) (o : (Int32 × Hp)), zlk L 0 = some (zrf (l0)) → zlk L 1 = some (.int (l1)) → zlk L 2 = some (.int (l2)) → zlk L 3 = some (.int (l3)) → K9 l0 l1 l2 l3 h = some o → Ev G M_X11_poll d 9 L [] h (Ret Y_X11_poll (some (.int o.1)) o.2)) : ∀ (l0 : Nat) (l1 : Int32) (l3 : Int32) (l4 : Int32) (L : List (Nat × Value)) (h : Hp) (o : (Int32 × Hp)), zlk L 0 = some (zrf (l0)) → zlk L 1 = some (.int (l1)) → zlk L 3 = some (.int (l3)) → zlk L 4 = some (.int (l4)) → f_X11_poll_114 K9 l0 l1 l3 l4 h = some o → Ev G M_X11_poll d 114 L [] h (Ret Y_X11_poll (some (.int o.1)) o.2) := by
  intro l0 l1 l3 l4 L h o g0 g1 g3 g4 e
  unfold f_X11_poll_114 at e
  refine r_iload d_X11_poll_114 g4 ?_
  refine s_istore_n d_X11_poll_116 rfl (by decide) (fun L g2 gK => ?_)
  replace g0 := gK _ _ (by decide) (Or.inr (zrf_cat _)) g0
  replace g1 := gK _ _ (by decide) (Or.inr rfl) g1
  replace g3 := gK _ _ (by decide) (Or.inr rfl) g3
  exact f_X11_poll_117_ok _ hj hK9 _ _ _ _ _ _ _ g0 g1 g2 g3 e

def f_X11_poll_86 (K9 : Nat → Int32 → Int32 → Int32 → Hp → Option (Int32 × Hp)) (s0 : Int32) (l0 : Nat) (l1 : Int32) (l2 : Int32) (l3 : Int32) (l4 : Int32) (h : Hp) : Option (Int32 × Hp) := if (s0) = (0) then (f_X11_poll_117 K9 (l0) (l1) (l2) (l3) (h)) else (if (l2) = ((-1 : Int32)) then (f_X11_poll_114 K9 (l0) (l1) (l3) (l4) (h)) else (ck (isO (h) (l0) 12) (ck (isO (h) (zR (h) 1253 (l0)) 22) (ck (inR (l4) (zL (h) (zR (h) 1253 (l0)))) (ck (inR (l2) (zL (h) (zR (h) 1253 (l0)))) (if (zE (h) (zR (h) 1253 (l0)) (l2).toNatClampNeg) ≤ (zE (h) (zR (h) 1253 (l0)) (l4).toNatClampNeg) then (f_X11_poll_117 K9 (l0) (l1) (l2) (l3) (h)) else (f_X11_poll_114 K9 (l0) (l1) (l3) (l4) (h))))))))
theorem f_X11_poll_86_ok {G : Gd} {d : Nat} (K9 : Nat → Int32 → Int32 → Int32 → Hp → Option (Int32 × Hp)) (hj : 3 ≤ d) (hK9 : ∀ (l0 : Nat) (l1 : Int32) (l2 : Int32) (l3 : Int32) (L : List (Nat × Value)) (h : Hp) (o : (Int32 × Hp)), zlk L 0 = some (zrf (l0)) → zlk L 1 = some (.int (l1)) → zlk L 2 = some (.int (l2)) → zlk L 3 = some (.int (l3)) → K9 l0 l1 l2 l3 h = some o → Ev G M_X11_poll d 9 L [] h (Ret Y_X11_poll (some (.int o.1)) o.2)) : ∀ (s0 : Int32) (l0 : Nat) (l1 : Int32) (l2 : Int32) (l3 : Int32) (l4 : Int32) (L : List (Nat × Value)) (h : Hp) (o : (Int32 × Hp)), zlk L 0 = some (zrf (l0)) → zlk L 1 = some (.int (l1)) → zlk L 2 = some (.int (l2)) → zlk L 3 = some (.int (l3)) → zlk L 4 = some (.int (l4)) → f_X11_poll_86 K9 s0 l0 l1 l2 l3 l4 h = some o → Ev G M_X11_poll d 86 L [.int (s0)] h (Ret Y_X11_poll (some (.int o.1)) o.2) := by
  intro s0 l0 l1 l2 l3 l4 L h o g0 g1 g2 g3 g4 e
  unfold f_X11_poll_86 at e
  refine s_istore d_X11_poll_86 (by decide) (fun L g5 gK => ?_)
  replace g0 := gK _ _ (by decide) (Or.inr (zrf_cat _)) g0
  replace g1 := gK _ _ (by decide) (Or.inr rfl) g1
  replace g2 := gK _ _ (by decide) (Or.inr rfl) g2
  replace g3 := gK _ _ (by decide) (Or.inr rfl) g3
  replace g4 := gK _ _ (by decide) (Or.inr rfl) g4
  refine r_iload d_X11_poll_88 g5 ?_
  refine r_if_eq d_X11_poll_90 (tgt := 117) (by decide) (fun c34 => ?_) (fun c34 => ?_)
  · replace e := (if_pos c34).symm.trans e
    exact f_X11_poll_117_ok _ hj hK9 _ _ _ _ _ _ _ g0 g1 g2 g3 e
  · replace e := (if_neg c34).symm.trans e
    refine r_iload_n d_X11_poll_93 rfl g2 ?_
    refine r_iconst d_X11_poll_94 (v := (-1 : Int32)) (by decide +kernel) ?_
    refine r_icmp_eq d_X11_poll_95 (tgt := 114) (by decide) (fun c35 => ?_) (fun c35 => ?_)
    · replace e := (if_pos c35).symm.trans e
      exact f_X11_poll_114_ok _ hj hK9 _ _ _ _ _ _ _ g0 g1 g3 g4 e
    · replace e := (if_neg c35).symm.trans e
      refine g_ald_n d_X11_poll_98 rfl g0 ?_
      replace e := ckd e
      obtain ⟨k36, e⟩ := e
      refine g_getR d_X11_poll_99 (f := 1253) k36 fk_12_149 rfl rfl ?_
      refine r_iload d_X11_poll_102 g4 ?_
      replace e := ckd e
      obtain ⟨k37, e⟩ := e
      replace e := ckd e
      obtain ⟨k38, e⟩ := e
      refine g_iald d_X11_poll_104 k37 k38 rfl ?_
      refine g_ald_n d_X11_poll_105 rfl g0 ?_
      refine g_getR d_X11_poll_106 (f := 1253) k36 fk_12_149 rfl rfl ?_
      refine r_iload_n d_X11_poll_109 rfl g2 ?_
      replace e := ckd e
      obtain ⟨k39, e⟩ := e
      refine g_iald d_X11_poll_110 k37 k39 rfl ?_
      refine r_icmp_ge d_X11_poll_111 (tgt := 117) (by decide) (fun c40 => ?_) (fun c40 => ?_)
      · replace e := (if_pos c40).symm.trans e
        exact f_X11_poll_117_ok _ hj hK9 _ _ _ _ _ _ _ g0 g1 g2 g3 e
      · replace e := (if_neg c40).symm.trans e
        exact f_X11_poll_114_ok _ hj hK9 _ _ _ _ _ _ _ g0 g1 g3 g4 e

def f_X11_poll_85 (K9 : Nat → Int32 → Int32 → Int32 → Hp → Option (Int32 × Hp)) (l0 : Nat) (l1 : Int32) (l2 : Int32) (l3 : Int32) (l4 : Int32) (h : Hp) : Option (Int32 × Hp) := f_X11_poll_86 K9 ((0 : Int32)) (l0) (l1) (l2) (l3) (l4) (h)
theorem f_X11_poll_85_ok {G : Gd} {d : Nat} (K9 : Nat → Int32 → Int32 → Int32 → Hp → Option (Int32 × Hp)) (hj : 3 ≤ d) (hK9 : ∀ (l0 : Nat) (l1 : Int32) (l2 : Int32) (l3 : Int32) (L : List (Nat × Value)) (h : Hp) (o : (Int32 × Hp)), zlk L 0 = some (zrf (l0)) → zlk L 1 = some (.int (l1)) → zlk L 2 = some (.int (l2)) → zlk L 3 = some (.int (l3)) → K9 l0 l1 l2 l3 h = some o → Ev G M_X11_poll d 9 L [] h (Ret Y_X11_poll (some (.int o.1)) o.2)) : ∀ (l0 : Nat) (l1 : Int32) (l2 : Int32) (l3 : Int32) (l4 : Int32) (L : List (Nat × Value)) (h : Hp) (o : (Int32 × Hp)), zlk L 0 = some (zrf (l0)) → zlk L 1 = some (.int (l1)) → zlk L 2 = some (.int (l2)) → zlk L 3 = some (.int (l3)) → zlk L 4 = some (.int (l4)) → f_X11_poll_85 K9 l0 l1 l2 l3 l4 h = some o → Ev G M_X11_poll d 85 L [] h (Ret Y_X11_poll (some (.int o.1)) o.2) := by
  intro l0 l1 l2 l3 l4 L h o g0 g1 g2 g3 g4 e
  unfold f_X11_poll_85 at e
  refine r_iconst d_X11_poll_85 (v := (0 : Int32)) (by decide +kernel) ?_
  exact f_X11_poll_86_ok _ hj hK9 _ _ _ _ _ _ _ _ _ g0 g1 g2 g3 g4 e

def f_X11_poll_9 : Nat → Nat → Int32 → Int32 → Int32 → Hp → Option (Int32 × Hp)
  | 0, _, _, _, _, _ => none
  | n + 1, l0, l1, l2, l3, h => if ((64 : Int32)) ≤ (l3) then (if (l2) = ((-1 : Int32)) then (some ((-1 : Int32), h)) else (ck (isO (h) (l0) 12) (bh (pI (h) 1202 (l0) ((zI (h) 1202 (l0)) + ((1 : Int32)))) (fun h6 => ck (isO (h6) (zR (h6) 1252 (l0)) 22) (ck (inR (l2) (zL (h6) (zR (h6) 1252 (l0)))) (bh (pE (h6) (zR (h6) 1252 (l0)) (l2).toNatClampNeg ((2 : Int32))) (fun h9 => ck (isO (h9) (zR (h9) 1255 (l0)) 22) (ck (inR (l2) (zL (h9) (zR (h9) 1255 (l0)))) (bh (pE (h9) (zR (h9) 1255 (l0)) (l2).toNatClampNeg (zI (h9) 1202 (l0))) (fun h12 => ck (isO (h12) (zR (h12) 1254 (l0)) 22) (ck (inR (l2) (zL (h12) (zR (h12) 1254 (l0)))) (bh (pE (h12) (zR (h12) 1254 (l0)) (l2).toNatClampNeg ((zI (h12) 1201 (l0)) + ((10 : Int32)))) (fun h15 => some (zI (h15) 1202 (l0), h15)))))))))))))) else (ck (isO (h) (l0) 12) ((f_X11_isFlow (l0) (l3) (h)).bind (fun q16 => if (q16.1) = (0) then (f_X11_poll_117 (f_X11_poll_9 n ) (l0) (l1) (l2) (l3) (q16.2)) else ((f_X11_placeOf (l3) (q16.2)).bind (fun q19 => ck (isO (q19.2) (l0) 12) ((f_X11_works (l0) (q19.1) (q19.2)).bind (fun q20 => if (q20.1) = (0) then (f_X11_poll_85 (f_X11_poll_9 n ) (l0) (l1) (l2) (l3) (q19.1) (q20.2)) else (ck (isO (q20.2) (l0) 12) (ck (isO (q20.2) (zR (q20.2) 1252 (l0)) 22) (ck (inR (q19.1) (zL (q20.2) (zR (q20.2) 1252 (l0)))) (if (zE (q20.2) (zR (q20.2) 1252 (l0)) (q19.1).toNatClampNeg) = ((1 : Int32)) then (ck (isO (q20.2) (zR (q20.2) 1253 (l0)) 22) (ck (inR (q19.1) (zL (q20.2) (zR (q20.2) 1253 (l0)))) (if (zI (q20.2) 1201 (l0)) < (zE (q20.2) (zR (q20.2) 1253 (l0)) (q19.1).toNatClampNeg) then (f_X11_poll_85 (f_X11_poll_9 n ) (l0) (l1) (l2) (l3) (q19.1) (q20.2)) else ((f_X11_workOf (l0) (q19.1) (q20.2)).bind (fun q30 => ck (isO (q30.2) (zR (q20.2) 1227 (l0)) 22) (ck (inR (q30.1) (zL (q30.2) (zR (q20.2) 1227 (l0)))) (if (zE (q30.2) (zR (q20.2) 1227 (l0)) (q30.1).toNatClampNeg) = (l1) then (f_X11_poll_86 (f_X11_poll_9 n ) ((1 : Int32)) (l0) (l1) (l2) (l3) (q19.1) (q30.2)) else (f_X11_poll_85 (f_X11_poll_9 n ) (l0) (l1) (l2) (l3) (q19.1) (q30.2))))))))) else (f_X11_poll_85 (f_X11_poll_9 n ) (l0) (l1) (l2) (l3) (q19.1) (q20.2)))))))))))))
theorem f_X11_poll_9_ok {G : Gd} {d : Nat} (hj : 3 ≤ d) : ∀ (n : Nat) (l0 : Nat) (l1 : Int32) (l2 : Int32) (l3 : Int32) (L : List (Nat × Value)) (h : Hp) (o : (Int32 × Hp)), zlk L 0 = some (zrf (l0)) → zlk L 1 = some (.int (l1)) → zlk L 2 = some (.int (l2)) → zlk L 3 = some (.int (l3)) → f_X11_poll_9 n l0 l1 l2 l3 h = some o → Ev G M_X11_poll d 9 L [] h (Ret Y_X11_poll (some (.int o.1)) o.2) := by
  intro n
  induction n with
  | zero =>
    intro l0 l1 l2 l3 L h o g0 g1 g2 g3 e
    cases e
  | succ n ih =>
    intro l0 l1 l2 l3 L h o g0 g1 g2 g3 e
    unfold f_X11_poll_9 at e
    refine r_iload_n d_X11_poll_9 rfl g3 ?_
    refine r_bipush d_X11_poll_10 (v := (64 : Int32)) (by decide +kernel) ?_
    refine r_icmp_ge d_X11_poll_12 (tgt := 123) (by decide) (fun c3 => ?_) (fun c3 => ?_)
    · replace e := (if_pos c3).symm.trans e
      refine r_iload_n d_X11_poll_123 rfl g2 ?_
      refine r_iconst d_X11_poll_124 (v := (-1 : Int32)) (by decide +kernel) ?_
      refine r_icmp_ne d_X11_poll_125 (tgt := 130) (by decide) (fun c4 => ?_) (fun c4 => ?_)
      · replace e := (if_neg c4).symm.trans e
        refine g_ald_n d_X11_poll_130 rfl g0 ?_
        refine r_dup d_X11_poll_131 (zrf_cat _) ?_
        replace e := ckd e
        obtain ⟨k5, e⟩ := e
        refine g_getI d_X11_poll_132 (f := 1202) k5 fk_12_400 rfl rfl ?_
        refine r_iconst d_X11_poll_135 (v := (1 : Int32)) (by decide +kernel) ?_
        refine r_iadd d_X11_poll_136 ?_
        refine g_putI d_X11_poll_137 (f := 1202) k5 fk_12_400 rfl (Or.inl rfl) ⟨rfl, rfl⟩ ?_
        replace e := bhd e
        obtain ⟨_, rfl, e⟩ := e
        refine g_ald_n d_X11_poll_140 rfl g0 ?_
        refine g_getR d_X11_poll_141 (f := 1252) (tO_pI k5) fk_12_146 rfl rfl ?_
        refine r_iload_n d_X11_poll_144 rfl g2 ?_
        refine r_iconst d_X11_poll_145 (v := (2 : Int32)) (by decide +kernel) ?_
        replace e := ckd e
        obtain ⟨k7, e⟩ := e
        replace e := ckd e
        obtain ⟨k8, e⟩ := e
        refine g_iast d_X11_poll_146 k7 k8 ?_
        replace e := bhd e
        obtain ⟨_, rfl, e⟩ := e
        refine g_ald_n d_X11_poll_147 rfl g0 ?_
        refine g_getR d_X11_poll_148 (f := 1255) (tO_pE (tO_pI k5)) fk_12_155 rfl rfl ?_
        refine r_iload_n d_X11_poll_151 rfl g2 ?_
        refine g_ald_n d_X11_poll_152 rfl g0 ?_
        refine g_getI d_X11_poll_153 (f := 1202) (tO_pE (tO_pI k5)) fk_12_400 rfl rfl ?_
        replace e := ckd e
        obtain ⟨k10, e⟩ := e
        replace e := ckd e
        obtain ⟨k11, e⟩ := e
        refine g_iast d_X11_poll_156 k10 k11 ?_
        replace e := bhd e
        obtain ⟨_, rfl, e⟩ := e
        refine g_ald_n d_X11_poll_157 rfl g0 ?_
        refine g_getR d_X11_poll_158 (f := 1254) (tO_pE (tO_pE (tO_pI k5))) fk_12_152 rfl rfl ?_
        refine r_iload_n d_X11_poll_161 rfl g2 ?_
        refine g_ald_n d_X11_poll_162 rfl g0 ?_
        refine g_getI d_X11_poll_163 (f := 1201) (tO_pE (tO_pE (tO_pI k5))) fk_12_283 rfl rfl ?_
        refine r_bipush d_X11_poll_166 (v := (10 : Int32)) (by decide +kernel) ?_
        refine r_iadd d_X11_poll_168 ?_
        replace e := ckd e
        obtain ⟨k13, e⟩ := e
        replace e := ckd e
        obtain ⟨k14, e⟩ := e
        refine g_iast d_X11_poll_169 k13 k14 ?_
        replace e := bhd e
        obtain ⟨_, rfl, e⟩ := e
        refine g_ald_n d_X11_poll_170 rfl g0 ?_
        refine g_getI d_X11_poll_171 (f := 1202) (tO_pE (tO_pE (tO_pE (tO_pI k5)))) fk_12_400 rfl rfl ?_
        cases e
        exact g_iret d_X11_poll_174 rfl rfl
      · replace e := (if_pos c4).symm.trans e
        refine r_iconst d_X11_poll_128 (v := (-1 : Int32)) (by decide +kernel) ?_
        cases e
        exact g_iret d_X11_poll_129 rfl rfl
    · replace e := (if_neg c3).symm.trans e
      refine g_ald_n d_X11_poll_15 rfl g0 ?_
      refine r_iload_n d_X11_poll_16 rfl g3 ?_
      replace e := ckd e
      obtain ⟨k17, e⟩ := e
      replace e := bd e
      obtain ⟨q16, eq16, e⟩ := e
      refine g_callV d_X11_poll_17 vk_12_382 (as := [_]) rfl k17 rfl (by simp [zrf_cat, cat_int, cat_long]) (j := 1) (by omega) (c_X11_isFlow (by omega) eq16) ?_
      refine r_if_ne d_X11_poll_20 (tgt := 26) (by decide) (fun c18 => ?_) (fun c18 => ?_)
      · replace e := (if_neg c18).symm.trans e
        refine r_iload_n d_X11_poll_26 rfl g3 ?_
        replace e := bd e
        obtain ⟨q19, eq19, e⟩ := e
        refine g_callS d_X11_poll_27 sk_12_385 (as := [_]) rfl rfl (by simp [zrf_cat, cat_int, cat_long]) (j := 1) (by omega) (c_X11_placeOf (by omega) eq19) ?_
        refine s_istore d_X11_poll_30 (by decide) (fun L g4 gK => ?_)
        replace g0 := gK _ _ (by decide) (Or.inr (zrf_cat _)) g0
        replace g1 := gK _ _ (by decide) (Or.inr rfl) g1
        replace g2 := gK _ _ (by decide) (Or.inr rfl) g2
        replace g3 := gK _ _ (by decide) (Or.inr rfl) g3
        refine g_ald_n d_X11_poll_32 rfl g0 ?_
        refine r_iload d_X11_poll_33 g4 ?_
        replace e := ckd e
        obtain ⟨k21, e⟩ := e
        replace e := bd e
        obtain ⟨q20, eq20, e⟩ := e
        refine g_callV d_X11_poll_35 vk_12_388 (as := [_]) rfl k21 rfl (by simp [zrf_cat, cat_int, cat_long]) (j := 1) (by omega) (c_X11_works (by omega) eq20) ?_
        refine r_if_eq d_X11_poll_38 (tgt := 85) (by decide) (fun c22 => ?_) (fun c22 => ?_)
        · replace e := (if_pos c22).symm.trans e
          exact f_X11_poll_85_ok _ hj ih _ _ _ _ _ _ _ _ g0 g1 g2 g3 g4 e
        · replace e := (if_neg c22).symm.trans e
          refine g_ald_n d_X11_poll_41 rfl g0 ?_
          replace e := ckd e
          obtain ⟨k23, e⟩ := e
          refine g_getR d_X11_poll_42 (f := 1252) k23 fk_12_146 rfl rfl ?_
          refine r_iload d_X11_poll_45 g4 ?_
          replace e := ckd e
          obtain ⟨k24, e⟩ := e
          replace e := ckd e
          obtain ⟨k25, e⟩ := e
          refine g_iald d_X11_poll_47 k24 k25 rfl ?_
          refine r_iconst d_X11_poll_48 (v := (1 : Int32)) (by decide +kernel) ?_
          refine r_icmp_ne d_X11_poll_49 (tgt := 85) (by decide) (fun c26 => ?_) (fun c26 => ?_)
          · replace e := (if_neg c26).symm.trans e
            exact f_X11_poll_85_ok _ hj ih _ _ _ _ _ _ _ _ g0 g1 g2 g3 g4 e
          · replace e := (if_pos c26).symm.trans e
            refine g_ald_n d_X11_poll_52 rfl g0 ?_
            refine g_getR d_X11_poll_53 (f := 1253) k23 fk_12_149 rfl rfl ?_
            refine r_iload d_X11_poll_56 g4 ?_
            replace e := ckd e
            obtain ⟨k27, e⟩ := e
            replace e := ckd e
            obtain ⟨k28, e⟩ := e
            refine g_iald d_X11_poll_58 k27 k28 rfl ?_
            refine g_ald_n d_X11_poll_59 rfl g0 ?_
            refine g_getI d_X11_poll_60 (f := 1201) k23 fk_12_283 rfl rfl ?_
            refine r_icmp_gt d_X11_poll_63 (tgt := 85) (by decide) (fun c29 => ?_) (fun c29 => ?_)
            · replace e := (if_pos c29).symm.trans e
              exact f_X11_poll_85_ok _ hj ih _ _ _ _ _ _ _ _ g0 g1 g2 g3 g4 e
            · replace e := (if_neg c29).symm.trans e
              refine g_ald_n d_X11_poll_66 rfl g0 ?_
              refine g_getR d_X11_poll_67 (f := 1227) k23 fk_12_70 rfl rfl ?_
              refine g_ald_n d_X11_poll_70 rfl g0 ?_
              refine r_iload d_X11_poll_71 g4 ?_
              replace e := bd e
              obtain ⟨q30, eq30, e⟩ := e
              refine g_callV d_X11_poll_73 vk_12_397 (as := [_]) rfl k23 rfl (by simp [zrf_cat, cat_int, cat_long]) (j := 2) (by omega) (c_X11_workOf (by omega) eq30) ?_
              replace e := ckd e
              obtain ⟨k31, e⟩ := e
              replace e := ckd e
              obtain ⟨k32, e⟩ := e
              refine g_iald d_X11_poll_76 k31 k32 rfl ?_
              refine r_iload_n d_X11_poll_77 rfl g1 ?_
              refine r_icmp_ne d_X11_poll_78 (tgt := 85) (by decide) (fun c33 => ?_) (fun c33 => ?_)
              · replace e := (if_neg c33).symm.trans e
                exact f_X11_poll_85_ok _ hj ih _ _ _ _ _ _ _ _ g0 g1 g2 g3 g4 e
              · replace e := (if_pos c33).symm.trans e
                refine r_iconst d_X11_poll_81 (v := (1 : Int32)) (by decide +kernel) ?_
                refine r_goto d_X11_poll_82 (tgt := 86) (by decide) ?_
                exact f_X11_poll_86_ok _ hj ih _ _ _ _ _ _ _ _ _ g0 g1 g2 g3 g4 e
      · replace e := (if_pos c18).symm.trans e
        refine r_goto d_X11_poll_23 (tgt := 117) (by decide) ?_
        exact f_X11_poll_117_ok _ hj ih _ _ _ _ _ _ _ g0 g1 g2 g3 e

def f_X11_poll (l0 : Nat) (l1 : Int32) (h : Hp) : Option (Int32 × Hp) := ck (isO (h) (l0) 12) (bh (pI (h) 1200 (l0) ((0 : Int32))) (fun h2 => f_X11_poll_9 fz (l0) (l1) ((-1 : Int32)) ((0 : Int32)) (h2)))
theorem f_X11_poll_ok {G : Gd} {d : Nat} (hj : 3 ≤ d) : ∀ (l0 : Nat) (l1 : Int32) (L : List (Nat × Value)) (h : Hp) (o : (Int32 × Hp)), zlk L 0 = some (zrf (l0)) → zlk L 1 = some (.int (l1)) → f_X11_poll l0 l1 h = some o → Ev G M_X11_poll d 0 L [] h (Ret Y_X11_poll (some (.int o.1)) o.2) := by
  intro l0 l1 L h o g0 g1 e
  unfold f_X11_poll at e
  refine g_ald_n d_X11_poll_0 rfl g0 ?_
  refine r_iconst d_X11_poll_1 (v := (0 : Int32)) (by decide +kernel) ?_
  replace e := ckd e
  obtain ⟨k1, e⟩ := e
  refine g_putI d_X11_poll_2 (f := 1200) k1 fk_12_183 rfl (Or.inl rfl) ⟨rfl, rfl⟩ ?_
  replace e := bhd e
  obtain ⟨_, rfl, e⟩ := e
  refine r_iconst d_X11_poll_5 (v := (-1 : Int32)) (by decide +kernel) ?_
  refine s_istore_n d_X11_poll_6 rfl (by decide) (fun L g2 gK => ?_)
  replace g0 := gK _ _ (by decide) (Or.inr (zrf_cat _)) g0
  replace g1 := gK _ _ (by decide) (Or.inr rfl) g1
  refine r_iconst d_X11_poll_7 (v := (0 : Int32)) (by decide +kernel) ?_
  refine s_istore_n d_X11_poll_8 rfl (by decide) (fun L g3 gK => ?_)
  replace g0 := gK _ _ (by decide) (Or.inr (zrf_cat _)) g0
  replace g1 := gK _ _ (by decide) (Or.inr rfl) g1
  replace g2 := gK _ _ (by decide) (Or.inr rfl) g2
  exact f_X11_poll_9_ok hj _ _ _ _ _ _ _ _ g0 g1 g2 g3 e

theorem c_X11_poll {G : Gd} {j : Nat} (hj : 3 ≤ j) {l0 : Nat} {l1 : Int32} {h : Hp} {o : (Int32 × Hp)} (e : f_X11_poll l0 l1 h = some o) : Cal G j Y_X11_poll [zrf (l0), .int (l1)] h (some (.int o.1)) o.2 := Cal.of (n := 0) (I := false) (by decide +kernel) (by decide) (by simp [lg_sl, zrf_cat, cat_int, cat_long]) (f_X11_poll_ok hj _ _ _ h o (by simp [lv_args, zlk, zrf_cat, cat_int, cat_long]) (by simp [lv_args, zlk, zrf_cat, cat_int, cat_long]) e)
def f_X11_leased_30 (K2 : Nat → Int32 → Int32 → Hp → Option (Int32 × Hp)) (l0 : Nat) (l1 : Int32) (l2 : Int32) (h : Hp) : Option (Int32 × Hp) := bh ((l2) + (1 : Int32)) (fun x9 => K2 (l0) (l1) (x9) (h))
theorem f_X11_leased_30_ok {G : Gd} {d : Nat} (K2 : Nat → Int32 → Int32 → Hp → Option (Int32 × Hp)) (hj : 1 ≤ d) (hK2 : ∀ (l0 : Nat) (l1 : Int32) (l2 : Int32) (L : List (Nat × Value)) (h : Hp) (o : (Int32 × Hp)), zlk L 0 = some (zrf (l0)) → zlk L 1 = some (.int (l1)) → zlk L 2 = some (.int (l2)) → K2 l0 l1 l2 h = some o → Ev G M_X11_leased d 2 L [] h (Ret Y_X11_leased (some (.int o.1)) o.2)) : ∀ (l0 : Nat) (l1 : Int32) (l2 : Int32) (L : List (Nat × Value)) (h : Hp) (o : (Int32 × Hp)), zlk L 0 = some (zrf (l0)) → zlk L 1 = some (.int (l1)) → zlk L 2 = some (.int (l2)) → f_X11_leased_30 K2 l0 l1 l2 h = some o → Ev G M_X11_leased d 30 L [] h (Ret Y_X11_leased (some (.int o.1)) o.2) := by
  intro l0 l1 l2 L h o g0 g1 g2 e
  unfold f_X11_leased_30 at e
  replace e := bhd e
  obtain ⟨_, rfl, e⟩ := e
  refine s_iinc d_X11_leased_30 g2 (w := (1 : Int32)) (by decide +kernel) (by decide) (fun L g2 gK => ?_)
  replace g0 := gK _ _ (by decide) (Or.inr (zrf_cat _)) g0
  replace g1 := gK _ _ (by decide) (Or.inr rfl) g1
  refine r_goto d_X11_leased_33 (tgt := 2) (by decide) ?_
  exact hK2 _ _ _ _ _ _ g0 g1 g2 e

def f_X11_leased_2 : Nat → Nat → Int32 → Int32 → Hp → Option (Int32 × Hp)
  | 0, _, _, _, _ => none
  | n + 1, l0, l1, l2, h => if ((64 : Int32)) ≤ (l2) then (some ((-1 : Int32), h)) else (ck (isO (h) (l0) 12) (ck (isO (h) (zR (h) 1252 (l0)) 22) (ck (inR (l2) (zL (h) (zR (h) 1252 (l0)))) (if (zE (h) (zR (h) 1252 (l0)) (l2).toNatClampNeg) = ((2 : Int32)) then (ck (isO (h) (zR (h) 1255 (l0)) 22) (ck (inR (l2) (zL (h) (zR (h) 1255 (l0)))) (if (zE (h) (zR (h) 1255 (l0)) (l2).toNatClampNeg) = (l1) then (some (l2, h)) else (f_X11_leased_30 (f_X11_leased_2 n ) (l0) (l1) (l2) (h))))) else (f_X11_leased_30 (f_X11_leased_2 n ) (l0) (l1) (l2) (h))))))
theorem f_X11_leased_2_ok {G : Gd} {d : Nat} (hj : 1 ≤ d) : ∀ (n : Nat) (l0 : Nat) (l1 : Int32) (l2 : Int32) (L : List (Nat × Value)) (h : Hp) (o : (Int32 × Hp)), zlk L 0 = some (zrf (l0)) → zlk L 1 = some (.int (l1)) → zlk L 2 = some (.int (l2)) → f_X11_leased_2 n l0 l1 l2 h = some o → Ev G M_X11_leased d 2 L [] h (Ret Y_X11_leased (some (.int o.1)) o.2) := by
  intro n
  induction n with
  | zero =>
    intro l0 l1 l2 L h o g0 g1 g2 e
    cases e
  | succ n ih =>
    intro l0 l1 l2 L h o g0 g1 g2 e
    unfold f_X11_leased_2 at e
    refine r_iload_n d_X11_leased_2 rfl g2 ?_
    refine r_bipush d_X11_leased_3 (v := (64 : Int32)) (by decide +kernel) ?_
    refine r_icmp_ge d_X11_leased_5 (tgt := 36) (by decide) (fun c1 => ?_) (fun c1 => ?_)
    · replace e := (if_pos c1).symm.trans e
      refine r_iconst d_X11_leased_36 (v := (-1 : Int32)) (by decide +kernel) ?_
      cases e
      exact g_iret d_X11_leased_37 rfl rfl
    · replace e := (if_neg c1).symm.trans e
      refine g_ald_n d_X11_leased_8 rfl g0 ?_
      replace e := ckd e
      obtain ⟨k2, e⟩ := e
      refine g_getR d_X11_leased_9 (f := 1252) k2 fk_12_146 rfl rfl ?_
      refine r_iload_n d_X11_leased_12 rfl g2 ?_
      replace e := ckd e
      obtain ⟨k3, e⟩ := e
      replace e := ckd e
      obtain ⟨k4, e⟩ := e
      refine g_iald d_X11_leased_13 k3 k4 rfl ?_
      refine r_iconst d_X11_leased_14 (v := (2 : Int32)) (by decide +kernel) ?_
      refine r_icmp_ne d_X11_leased_15 (tgt := 30) (by decide) (fun c5 => ?_) (fun c5 => ?_)
      · replace e := (if_neg c5).symm.trans e
        exact f_X11_leased_30_ok _ hj ih _ _ _ _ _ _ g0 g1 g2 e
      · replace e := (if_pos c5).symm.trans e
        refine g_ald_n d_X11_leased_18 rfl g0 ?_
        refine g_getR d_X11_leased_19 (f := 1255) k2 fk_12_155 rfl rfl ?_
        refine r_iload_n d_X11_leased_22 rfl g2 ?_
        replace e := ckd e
        obtain ⟨k6, e⟩ := e
        replace e := ckd e
        obtain ⟨k7, e⟩ := e
        refine g_iald d_X11_leased_23 k6 k7 rfl ?_
        refine r_iload_n d_X11_leased_24 rfl g1 ?_
        refine r_icmp_ne d_X11_leased_25 (tgt := 30) (by decide) (fun c8 => ?_) (fun c8 => ?_)
        · replace e := (if_neg c8).symm.trans e
          exact f_X11_leased_30_ok _ hj ih _ _ _ _ _ _ g0 g1 g2 e
        · replace e := (if_pos c8).symm.trans e
          refine r_iload_n d_X11_leased_28 rfl g2 ?_
          cases e
          exact g_iret d_X11_leased_29 rfl rfl

def f_X11_leased (l0 : Nat) (l1 : Int32) (h : Hp) : Option (Int32 × Hp) := f_X11_leased_2 fz (l0) (l1) ((0 : Int32)) (h)
theorem f_X11_leased_ok {G : Gd} {d : Nat} (hj : 1 ≤ d) : ∀ (l0 : Nat) (l1 : Int32) (L : List (Nat × Value)) (h : Hp) (o : (Int32 × Hp)), zlk L 0 = some (zrf (l0)) → zlk L 1 = some (.int (l1)) → f_X11_leased l0 l1 h = some o → Ev G M_X11_leased d 0 L [] h (Ret Y_X11_leased (some (.int o.1)) o.2) := by
  intro l0 l1 L h o g0 g1 e
  unfold f_X11_leased at e
  refine r_iconst d_X11_leased_0 (v := (0 : Int32)) (by decide +kernel) ?_
  refine s_istore_n d_X11_leased_1 rfl (by decide) (fun L g2 gK => ?_)
  replace g0 := gK _ _ (by decide) (Or.inr (zrf_cat _)) g0
  replace g1 := gK _ _ (by decide) (Or.inr rfl) g1
  exact f_X11_leased_2_ok hj _ _ _ _ _ _ _ g0 g1 g2 e

theorem c_X11_leased {G : Gd} {j : Nat} (hj : 1 ≤ j) {l0 : Nat} {l1 : Int32} {h : Hp} {o : (Int32 × Hp)} (e : f_X11_leased l0 l1 h = some o) : Cal G j Y_X11_leased [zrf (l0), .int (l1)] h (some (.int o.1)) o.2 := Cal.of (n := 0) (I := false) (by decide +kernel) (by decide) (by simp [lg_sl, zrf_cat, cat_int, cat_long]) (f_X11_leased_ok hj _ _ _ h o (by simp [lv_args, zlk, zrf_cat, cat_int, cat_long]) (by simp [lv_args, zlk, zrf_cat, cat_int, cat_long]) e)
theorem vk_12_403 : Vk "TaskWeaveModel" 403 1 12 Y_X11_leased := ⟨yk_X11_leased, by decide +kernel, by decide +kernel, by decide +kernel, by decide⟩
def f_X11_beat (l0 : Nat) (l1 : Int32) (h : Hp) : Option (Int32 × Hp) := ck (isO (h) (l0) 12) (bh (pI (h) 1200 (l0) ((0 : Int32))) (fun h2 => (f_X11_leased (l0) (l1) (h2)).bind (fun q3 => if (q3.1) = ((-1 : Int32)) then (some ((0 : Int32), q3.2)) else (ck (isO (q3.2) (l0) 12) (ck (isO (q3.2) (zR (q3.2) 1254 (l0)) 22) (ck (inR (q3.1) (zL (q3.2) (zR (q3.2) 1254 (l0)))) (bh (pE (q3.2) (zR (q3.2) 1254 (l0)) (q3.1).toNatClampNeg ((zI (q3.2) 1201 (l0)) + ((10 : Int32)))) (fun h8 => some ((1 : Int32), h8)))))))))
theorem f_X11_beat_ok {G : Gd} {d : Nat} (hj : 2 ≤ d) : ∀ (l0 : Nat) (l1 : Int32) (L : List (Nat × Value)) (h : Hp) (o : (Int32 × Hp)), zlk L 0 = some (zrf (l0)) → zlk L 1 = some (.int (l1)) → f_X11_beat l0 l1 h = some o → Ev G M_X11_beat d 0 L [] h (Ret Y_X11_beat (some (.int o.1)) o.2) := by
  intro l0 l1 L h o g0 g1 e
  unfold f_X11_beat at e
  refine g_ald_n d_X11_beat_0 rfl g0 ?_
  refine r_iconst d_X11_beat_1 (v := (0 : Int32)) (by decide +kernel) ?_
  replace e := ckd e
  obtain ⟨k1, e⟩ := e
  refine g_putI d_X11_beat_2 (f := 1200) k1 fk_12_183 rfl (Or.inl rfl) ⟨rfl, rfl⟩ ?_
  replace e := bhd e
  obtain ⟨_, rfl, e⟩ := e
  refine g_ald_n d_X11_beat_5 rfl g0 ?_
  refine r_iload_n d_X11_beat_6 rfl g1 ?_
  replace e := bd e
  obtain ⟨q3, eq3, e⟩ := e
  refine g_callV d_X11_beat_7 vk_12_403 (as := [_]) rfl (tO_pI k1) rfl (by simp [zrf_cat, cat_int, cat_long]) (j := 1) (by omega) (c_X11_leased (by omega) eq3) ?_
  refine s_istore_n d_X11_beat_10 rfl (by decide) (fun L g2 gK => ?_)
  replace g0 := gK _ _ (by decide) (Or.inr (zrf_cat _)) g0
  refine r_iload_n d_X11_beat_11 rfl g2 ?_
  refine r_iconst d_X11_beat_12 (v := (-1 : Int32)) (by decide +kernel) ?_
  refine r_icmp_ne d_X11_beat_13 (tgt := 18) (by decide) (fun c4 => ?_) (fun c4 => ?_)
  · replace e := (if_neg c4).symm.trans e
    refine g_ald_n d_X11_beat_18 rfl g0 ?_
    replace e := ckd e
    obtain ⟨k5, e⟩ := e
    refine g_getR d_X11_beat_19 (f := 1254) k5 fk_12_152 rfl rfl ?_
    refine r_iload_n d_X11_beat_22 rfl g2 ?_
    refine g_ald_n d_X11_beat_23 rfl g0 ?_
    refine g_getI d_X11_beat_24 (f := 1201) k5 fk_12_283 rfl rfl ?_
    refine r_bipush d_X11_beat_27 (v := (10 : Int32)) (by decide +kernel) ?_
    refine r_iadd d_X11_beat_29 ?_
    replace e := ckd e
    obtain ⟨k6, e⟩ := e
    replace e := ckd e
    obtain ⟨k7, e⟩ := e
    refine g_iast d_X11_beat_30 k6 k7 ?_
    replace e := bhd e
    obtain ⟨_, rfl, e⟩ := e
    refine r_iconst d_X11_beat_31 (v := (1 : Int32)) (by decide +kernel) ?_
    cases e
    exact g_iret d_X11_beat_32 rfl rfl
  · replace e := (if_pos c4).symm.trans e
    refine r_iconst d_X11_beat_16 (v := (0 : Int32)) (by decide +kernel) ?_
    cases e
    exact g_iret d_X11_beat_17 rfl rfl

theorem c_X11_beat {G : Gd} {j : Nat} (hj : 2 ≤ j) {l0 : Nat} {l1 : Int32} {h : Hp} {o : (Int32 × Hp)} (e : f_X11_beat l0 l1 h = some o) : Cal G j Y_X11_beat [zrf (l0), .int (l1)] h (some (.int o.1)) o.2 := Cal.of (n := 0) (I := false) (by decide +kernel) (by decide) (by simp [lg_sl, zrf_cat, cat_int, cat_long]) (f_X11_beat_ok hj _ _ _ h o (by simp [lv_args, zlk, zrf_cat, cat_int, cat_long]) (by simp [lv_args, zlk, zrf_cat, cat_int, cat_long]) e)
theorem sk_12_372 : Sk "TaskWeaveModel" 372 1 Y_X11_numberOf := ⟨yk_X11_numberOf, by decide +kernel, by decide +kernel⟩
def f_X11_task (l0 : Nat) (l1 : Int32) (l2 : Int32) (h : Hp) : Option (Int32 × Hp) := ck (isO (h) (l0) 12) (bh (pI (h) 1200 (l0) ((0 : Int32))) (fun h2 => (f_X11_leased (l0) (l1) (h2)).bind (fun q3 => if (q3.1) = ((-1 : Int32)) then (some ((-1 : Int32), q3.2)) else (if (l2) = (0 : Int32) then ((f_X11_numberOf (q3.1) (q3.2)).bind (fun q6 => some (q6.1, q6.2))) else (if (l2) = (1 : Int32) then (ck (isO (q3.2) (l0) 12) ((f_X11_workOf (l0) (q3.1) (q3.2)).bind (fun q9 => ck (isO (q9.2) (zR (q3.2) 1228 (l0)) 22) (ck (inR (q9.1) (zL (q9.2) (zR (q3.2) 1228 (l0)))) (some (zE (q9.2) (zR (q3.2) 1228 (l0)) (q9.1).toNatClampNeg, q9.2)))))) else (if (l2) = (2 : Int32) then (ck (isO (q3.2) (l0) 12) (ck (isO (q3.2) (zR (q3.2) 1256 (l0)) 22) (ck (inR (q3.1) (zL (q3.2) (zR (q3.2) 1256 (l0)))) (some (zE (q3.2) (zR (q3.2) 1256 (l0)) (q3.1).toNatClampNeg, q3.2))))) else (if (l2) = (3 : Int32) then (ck (isO (q3.2) (l0) 12) (ck (isO (q3.2) (zR (q3.2) 1254 (l0)) 22) (ck (inR (q3.1) (zL (q3.2) (zR (q3.2) 1254 (l0)))) (some (zE (q3.2) (zR (q3.2) 1254 (l0)) (q3.1).toNatClampNeg, q3.2))))) else (some ((-1 : Int32), q3.2)))))))))
theorem f_X11_task_ok {G : Gd} {d : Nat} (hj : 3 ≤ d) : ∀ (l0 : Nat) (l1 : Int32) (l2 : Int32) (L : List (Nat × Value)) (h : Hp) (o : (Int32 × Hp)), zlk L 0 = some (zrf (l0)) → zlk L 1 = some (.int (l1)) → zlk L 2 = some (.int (l2)) → f_X11_task l0 l1 l2 h = some o → Ev G M_X11_task d 0 L [] h (Ret Y_X11_task (some (.int o.1)) o.2) := by
  intro l0 l1 l2 L h o g0 g1 g2 e
  unfold f_X11_task at e
  refine g_ald_n d_X11_task_0 rfl g0 ?_
  refine r_iconst d_X11_task_1 (v := (0 : Int32)) (by decide +kernel) ?_
  replace e := ckd e
  obtain ⟨k1, e⟩ := e
  refine g_putI d_X11_task_2 (f := 1200) k1 fk_12_183 rfl (Or.inl rfl) ⟨rfl, rfl⟩ ?_
  replace e := bhd e
  obtain ⟨_, rfl, e⟩ := e
  refine g_ald_n d_X11_task_5 rfl g0 ?_
  refine r_iload_n d_X11_task_6 rfl g1 ?_
  replace e := bd e
  obtain ⟨q3, eq3, e⟩ := e
  refine g_callV d_X11_task_7 vk_12_403 (as := [_]) rfl (tO_pI k1) rfl (by simp [zrf_cat, cat_int, cat_long]) (j := 1) (by omega) (c_X11_leased (by omega) eq3) ?_
  refine s_istore_n d_X11_task_10 rfl (by decide) (fun L g3 gK => ?_)
  replace g0 := gK _ _ (by decide) (Or.inr (zrf_cat _)) g0
  replace g2 := gK _ _ (by decide) (Or.inr rfl) g2
  refine r_iload_n d_X11_task_11 rfl g3 ?_
  refine r_iconst d_X11_task_12 (v := (-1 : Int32)) (by decide +kernel) ?_
  refine r_icmp_ne d_X11_task_13 (tgt := 18) (by decide) (fun c4 => ?_) (fun c4 => ?_)
  · replace e := (if_neg c4).symm.trans e
    refine r_iload_n d_X11_task_18 rfl g2 ?_
    rcases ite_or e with ⟨c5, e⟩ | ⟨c5, e⟩
    · refine r_tableIn d_X11_task_19 (off := 29) (tgt := 48) (by rw [c5]; decide +kernel) (by rw [c5]; decide +kernel) (by rw [c5] <;> rfl) (by decide) ?_
      refine r_iload_n d_X11_task_48 rfl g3 ?_
      replace e := bd e
      obtain ⟨q6, eq6, e⟩ := e
      refine g_callS d_X11_task_49 sk_12_372 (as := [_]) rfl rfl (by simp [zrf_cat, cat_int, cat_long]) (j := 1) (by omega) (c_X11_numberOf (by omega) eq6) ?_
      cases e
      exact g_iret d_X11_task_52 rfl rfl
    · rcases ite_or e with ⟨c7, e⟩ | ⟨c7, e⟩
      · refine r_tableIn d_X11_task_19 (off := 34) (tgt := 53) (by rw [c7]; decide +kernel) (by rw [c7]; decide +kernel) (by rw [c7] <;> rfl) (by decide) ?_
        refine g_ald_n d_X11_task_53 rfl g0 ?_
        replace e := ckd e
        obtain ⟨k8, e⟩ := e
        refine g_getR d_X11_task_54 (f := 1228) k8 fk_12_73 rfl rfl ?_
        refine g_ald_n d_X11_task_57 rfl g0 ?_
        refine r_iload_n d_X11_task_58 rfl g3 ?_
        replace e := bd e
        obtain ⟨q9, eq9, e⟩ := e
        refine g_callV d_X11_task_59 vk_12_397 (as := [_]) rfl k8 rfl (by simp [zrf_cat, cat_int, cat_long]) (j := 2) (by omega) (c_X11_workOf (by omega) eq9) ?_
        replace e := ckd e
        obtain ⟨k10, e⟩ := e
        replace e := ckd e
        obtain ⟨k11, e⟩ := e
        refine g_iald d_X11_task_62 k10 k11 rfl ?_
        cases e
        exact g_iret d_X11_task_63 rfl rfl
      · rcases ite_or e with ⟨c12, e⟩ | ⟨c12, e⟩
        · refine r_tableIn d_X11_task_19 (off := 45) (tgt := 64) (by rw [c12]; decide +kernel) (by rw [c12]; decide +kernel) (by rw [c12] <;> rfl) (by decide) ?_
          refine g_ald_n d_X11_task_64 rfl g0 ?_
          replace e := ckd e
          obtain ⟨k13, e⟩ := e
          refine g_getR d_X11_task_65 (f := 1256) k13 fk_12_158 rfl rfl ?_
          refine r_iload_n d_X11_task_68 rfl g3 ?_
          replace e := ckd e
          obtain ⟨k14, e⟩ := e
          replace e := ckd e
          obtain ⟨k15, e⟩ := e
          refine g_iald d_X11_task_69 k14 k15 rfl ?_
          cases e
          exact g_iret d_X11_task_70 rfl rfl
        · rcases ite_or e with ⟨c16, e⟩ | ⟨c16, e⟩
          · refine r_tableIn d_X11_task_19 (off := 52) (tgt := 71) (by rw [c16]; decide +kernel) (by rw [c16]; decide +kernel) (by rw [c16] <;> rfl) (by decide) ?_
            refine g_ald_n d_X11_task_71 rfl g0 ?_
            replace e := ckd e
            obtain ⟨k17, e⟩ := e
            refine g_getR d_X11_task_72 (f := 1254) k17 fk_12_152 rfl rfl ?_
            refine r_iload_n d_X11_task_75 rfl g3 ?_
            replace e := ckd e
            obtain ⟨k18, e⟩ := e
            replace e := ckd e
            obtain ⟨k19, e⟩ := e
            refine g_iald d_X11_task_76 k18 k19 rfl ?_
            cases e
            exact g_iret d_X11_task_77 rfl rfl
          · refine r_tableOut d_X11_task_19 (tgt := 78) (by have := lv_neT (a := 0) c5 (by decide +kernel); have := lv_neT (a := 1) c7 (by decide +kernel); have := lv_neT (a := 2) c12 (by decide +kernel); have := lv_neT (a := 3) c16 (by decide +kernel); omega) (by decide) ?_
            refine r_iconst d_X11_task_78 (v := (-1 : Int32)) (by decide +kernel) ?_
            cases e
            exact g_iret d_X11_task_79 rfl rfl
  · replace e := (if_pos c4).symm.trans e
    refine r_iconst d_X11_task_16 (v := (-1 : Int32)) (by decide +kernel) ?_
    cases e
    exact g_iret d_X11_task_17 rfl rfl

theorem c_X11_task {G : Gd} {j : Nat} (hj : 3 ≤ j) {l0 : Nat} {l1 : Int32} {l2 : Int32} {h : Hp} {o : (Int32 × Hp)} (e : f_X11_task l0 l1 l2 h = some o) : Cal G j Y_X11_task [zrf (l0), .int (l1), .int (l2)] h (some (.int o.1)) o.2 := Cal.of (n := 0) (I := false) (by decide +kernel) (by decide) (by simp [lg_sl, zrf_cat, cat_int, cat_long]) (f_X11_task_ok hj _ _ _ _ h o (by simp [lv_args, zlk, zrf_cat, cat_int, cat_long]) (by simp [lv_args, zlk, zrf_cat, cat_int, cat_long]) (by simp [lv_args, zlk, zrf_cat, cat_int, cat_long]) e)
def f_X11_outOf_6 : Nat → Nat → Int32 → Int32 → Int32 → Hp → Option (Int32 × Hp)
  | 0, _, _, _, _, _ => none
  | n + 1, l0, l1, l2, l3, h => ck (isO (h) (l0) 12) (ck (isO (h) (zR (h) 1257 (l0)) 22) (ck (inR (l1) (zL (h) (zR (h) 1257 (l0)))) (if ((((1024 : Int32)) * (l1)) + (zE (h) (zR (h) 1257 (l0)) (l1).toNatClampNeg)) ≤ (l3) then (some ((-1 : Int32), h)) else (ck (isO (h) (zR (h) 1258 (l0)) 22) (ck (inR (l3) (zL (h) (zR (h) 1258 (l0)))) (if (zE (h) (zR (h) 1258 (l0)) (l3).toNatClampNeg) = (l2) then (some (l3, h)) else (bh ((l3) + (1 : Int32)) (fun x9 => f_X11_outOf_6 n (l0) (l1) (l2) (x9) (h)))))))))
theorem f_X11_outOf_6_ok {G : Gd} {d : Nat} (hj : 1 ≤ d) : ∀ (n : Nat) (l0 : Nat) (l1 : Int32) (l2 : Int32) (l3 : Int32) (L : List (Nat × Value)) (h : Hp) (o : (Int32 × Hp)), zlk L 0 = some (zrf (l0)) → zlk L 1 = some (.int (l1)) → zlk L 2 = some (.int (l2)) → zlk L 3 = some (.int (l3)) → f_X11_outOf_6 n l0 l1 l2 l3 h = some o → Ev G M_X11_outOf d 6 L [] h (Ret Y_X11_outOf (some (.int o.1)) o.2) := by
  intro n
  induction n with
  | zero =>
    intro l0 l1 l2 l3 L h o g0 g1 g2 g3 e
    cases e
  | succ n ih =>
    intro l0 l1 l2 l3 L h o g0 g1 g2 g3 e
    unfold f_X11_outOf_6 at e
    refine r_iload_n d_X11_outOf_6 rfl g3 ?_
    refine r_sipush d_X11_outOf_7 (v := (1024 : Int32)) (by decide +kernel) ?_
    refine r_iload_n d_X11_outOf_10 rfl g1 ?_
    refine r_imul d_X11_outOf_11 ?_
    refine g_ald_n d_X11_outOf_12 rfl g0 ?_
    replace e := ckd e
    obtain ⟨k2, e⟩ := e
    refine g_getR d_X11_outOf_13 (f := 1257) k2 fk_12_161 rfl rfl ?_
    refine r_iload_n d_X11_outOf_16 rfl g1 ?_
    replace e := ckd e
    obtain ⟨k3, e⟩ := e
    replace e := ckd e
    obtain ⟨k4, e⟩ := e
    refine g_iald d_X11_outOf_17 k3 k4 rfl ?_
    refine r_iadd d_X11_outOf_18 ?_
    refine r_icmp_ge d_X11_outOf_19 (tgt := 40) (by decide) (fun c5 => ?_) (fun c5 => ?_)
    · replace e := (if_pos c5).symm.trans e
      refine r_iconst d_X11_outOf_40 (v := (-1 : Int32)) (by decide +kernel) ?_
      cases e
      exact g_iret d_X11_outOf_41 rfl rfl
    · replace e := (if_neg c5).symm.trans e
      refine g_ald_n d_X11_outOf_22 rfl g0 ?_
      refine g_getR d_X11_outOf_23 (f := 1258) k2 fk_12_164 rfl rfl ?_
      refine r_iload_n d_X11_outOf_26 rfl g3 ?_
      replace e := ckd e
      obtain ⟨k6, e⟩ := e
      replace e := ckd e
      obtain ⟨k7, e⟩ := e
      refine g_iald d_X11_outOf_27 k6 k7 rfl ?_
      refine r_iload_n d_X11_outOf_28 rfl g2 ?_
      refine r_icmp_ne d_X11_outOf_29 (tgt := 34) (by decide) (fun c8 => ?_) (fun c8 => ?_)
      · replace e := (if_neg c8).symm.trans e
        replace e := bhd e
        obtain ⟨_, rfl, e⟩ := e
        refine s_iinc d_X11_outOf_34 g3 (w := (1 : Int32)) (by decide +kernel) (by decide) (fun L g3 gK => ?_)
        replace g0 := gK _ _ (by decide) (Or.inr (zrf_cat _)) g0
        replace g1 := gK _ _ (by decide) (Or.inr rfl) g1
        replace g2 := gK _ _ (by decide) (Or.inr rfl) g2
        refine r_goto d_X11_outOf_37 (tgt := 6) (by decide) ?_
        exact ih _ _ _ _ _ _ _ g0 g1 g2 g3 e
      · replace e := (if_pos c8).symm.trans e
        refine r_iload_n d_X11_outOf_32 rfl g3 ?_
        cases e
        exact g_iret d_X11_outOf_33 rfl rfl

def f_X11_outOf (l0 : Nat) (l1 : Int32) (l2 : Int32) (h : Hp) : Option (Int32 × Hp) := bh (((1024 : Int32)) * (l1)) (fun x1 => f_X11_outOf_6 fz (l0) (l1) (l2) (x1) (h))
theorem f_X11_outOf_ok {G : Gd} {d : Nat} (hj : 1 ≤ d) : ∀ (l0 : Nat) (l1 : Int32) (l2 : Int32) (L : List (Nat × Value)) (h : Hp) (o : (Int32 × Hp)), zlk L 0 = some (zrf (l0)) → zlk L 1 = some (.int (l1)) → zlk L 2 = some (.int (l2)) → f_X11_outOf l0 l1 l2 h = some o → Ev G M_X11_outOf d 0 L [] h (Ret Y_X11_outOf (some (.int o.1)) o.2) := by
  intro l0 l1 l2 L h o g0 g1 g2 e
  unfold f_X11_outOf at e
  refine r_sipush d_X11_outOf_0 (v := (1024 : Int32)) (by decide +kernel) ?_
  refine r_iload_n d_X11_outOf_3 rfl g1 ?_
  refine r_imul d_X11_outOf_4 ?_
  replace e := bhd e
  obtain ⟨_, rfl, e⟩ := e
  refine s_istore_n d_X11_outOf_5 rfl (by decide) (fun L g3 gK => ?_)
  replace g0 := gK _ _ (by decide) (Or.inr (zrf_cat _)) g0
  replace g1 := gK _ _ (by decide) (Or.inr rfl) g1
  replace g2 := gK _ _ (by decide) (Or.inr rfl) g2
  exact f_X11_outOf_6_ok hj _ _ _ _ _ _ _ _ g0 g1 g2 g3 e

theorem c_X11_outOf {G : Gd} {j : Nat} (hj : 1 ≤ j) {l0 : Nat} {l1 : Int32} {l2 : Int32} {h : Hp} {o : (Int32 × Hp)} (e : f_X11_outOf l0 l1 l2 h = some o) : Cal G j Y_X11_outOf [zrf (l0), .int (l1), .int (l2)] h (some (.int o.1)) o.2 := Cal.of (n := 0) (I := false) (by decide +kernel) (by decide) (by simp [lg_sl, zrf_cat, cat_int, cat_long]) (f_X11_outOf_ok hj _ _ _ _ h o (by simp [lv_args, zlk, zrf_cat, cat_int, cat_long]) (by simp [lv_args, zlk, zrf_cat, cat_int, cat_long]) (by simp [lv_args, zlk, zrf_cat, cat_int, cat_long]) e)
def f_X11_leaves_12 : Nat → Nat → Int32 → Int32 → Hp → Option Hp
  | 0, _, _, _, _ => none
  | n + 1, l0, l1, l3, h => ck (isO (h) (l0) 12) (ck (isO (h) (zR (h) 1257 (l0)) 22) (ck (inR (l1) (zL (h) (zR (h) 1257 (l0)))) (if ((((1024 : Int32)) * (l1)) + (zE (h) (zR (h) 1257 (l0)) (l1).toNatClampNeg)) ≤ (l3) then (some (h)) else (ck (isO (h) (zR (h) 1258 (l0)) 22) (ck (inR ((l3) + ((1 : Int32))) (zL (h) (zR (h) 1258 (l0)))) (ck (inR (l3) (zL (h) (zR (h) 1258 (l0)))) (bh (pE (h) (zR (h) 1258 (l0)) (l3).toNatClampNeg (zE (h) (zR (h) 1258 (l0)) ((l3) + ((1 : Int32))).toNatClampNeg)) (fun h12 => ck (isO (h12) (zR (h12) 1259 (l0)) 22) (ck (inR ((l3) + ((1 : Int32))) (zL (h12) (zR (h12) 1259 (l0)))) (ck (inR (l3) (zL (h12) (zR (h12) 1259 (l0)))) (bh (pE (h12) (zR (h12) 1259 (l0)) (l3).toNatClampNeg (zE (h12) (zR (h12) 1259 (l0)) ((l3) + ((1 : Int32))).toNatClampNeg)) (fun h16 => ck (isO (h16) (zR (h16) 1260 (l0)) 22) (ck (inR ((l3) + ((1 : Int32))) (zL (h16) (zR (h16) 1260 (l0)))) (ck (inR (l3) (zL (h16) (zR (h16) 1260 (l0)))) (bh (pE (h16) (zR (h16) 1260 (l0)) (l3).toNatClampNeg (zE (h16) (zR (h16) 1260 (l0)) ((l3) + ((1 : Int32))).toNatClampNeg)) (fun h20 => bh ((l3) + (1 : Int32)) (fun x21 => f_X11_leaves_12 n (l0) (l1) (x21) (h20))))))))))))))))))
theorem f_X11_leaves_12_ok {G : Gd} {d : Nat} (hj : 1 ≤ d) : ∀ (n : Nat) (l0 : Nat) (l1 : Int32) (l3 : Int32) (L : List (Nat × Value)) (h : Hp) (o : Hp), zlk L 0 = some (zrf (l0)) → zlk L 1 = some (.int (l1)) → zlk L 3 = some (.int (l3)) → f_X11_leaves_12 n l0 l1 l3 h = some o → Ev G M_X11_leaves d 12 L [] h (Ret Y_X11_leaves none o) := by
  intro n
  induction n with
  | zero =>
    intro l0 l1 l3 L h o g0 g1 g3 e
    cases e
  | succ n ih =>
    intro l0 l1 l3 L h o g0 g1 g3 e
    unfold f_X11_leaves_12 at e
    refine r_iload_n d_X11_leaves_12 rfl g3 ?_
    refine r_sipush d_X11_leaves_13 (v := (1024 : Int32)) (by decide +kernel) ?_
    refine r_iload_n d_X11_leaves_16 rfl g1 ?_
    refine r_imul d_X11_leaves_17 ?_
    refine g_ald_n d_X11_leaves_18 rfl g0 ?_
    replace e := ckd e
    obtain ⟨k5, e⟩ := e
    refine g_getR d_X11_leaves_19 (f := 1257) k5 fk_12_161 rfl rfl ?_
    refine r_iload_n d_X11_leaves_22 rfl g1 ?_
    replace e := ckd e
    obtain ⟨k6, e⟩ := e
    replace e := ckd e
    obtain ⟨k7, e⟩ := e
    refine g_iald d_X11_leaves_23 k6 k7 rfl ?_
    refine r_iadd d_X11_leaves_24 ?_
    refine r_icmp_ge d_X11_leaves_25 (tgt := 76) (by decide) (fun c8 => ?_) (fun c8 => ?_)
    · replace e := (if_pos c8).symm.trans e
      cases e
      exact g_vret d_X11_leaves_76 rfl
    · replace e := (if_neg c8).symm.trans e
      refine g_ald_n d_X11_leaves_28 rfl g0 ?_
      refine g_getR d_X11_leaves_29 (f := 1258) k5 fk_12_164 rfl rfl ?_
      refine r_iload_n d_X11_leaves_32 rfl g3 ?_
      refine g_ald_n d_X11_leaves_33 rfl g0 ?_
      refine g_getR d_X11_leaves_34 (f := 1258) k5 fk_12_164 rfl rfl ?_
      refine r_iload_n d_X11_leaves_37 rfl g3 ?_
      refine r_iconst d_X11_leaves_38 (v := (1 : Int32)) (by decide +kernel) ?_
      refine r_iadd d_X11_leaves_39 ?_
      replace e := ckd e
      obtain ⟨k9, e⟩ := e
      replace e := ckd e
      obtain ⟨k10, e⟩ := e
      refine g_iald d_X11_leaves_40 k9 k10 rfl ?_
      replace e := ckd e
      obtain ⟨k11, e⟩ := e
      refine g_iast d_X11_leaves_41 k9 k11 ?_
      replace e := bhd e
      obtain ⟨_, rfl, e⟩ := e
      refine g_ald_n d_X11_leaves_42 rfl g0 ?_
      refine g_getR d_X11_leaves_43 (f := 1259) (tO_pE k5) fk_12_167 rfl rfl ?_
      refine r_iload_n d_X11_leaves_46 rfl g3 ?_
      refine g_ald_n d_X11_leaves_47 rfl g0 ?_
      refine g_getR d_X11_leaves_48 (f := 1259) (tO_pE k5) fk_12_167 rfl rfl ?_
      refine r_iload_n d_X11_leaves_51 rfl g3 ?_
      refine r_iconst d_X11_leaves_52 (v := (1 : Int32)) (by decide +kernel) ?_
      refine r_iadd d_X11_leaves_53 ?_
      replace e := ckd e
      obtain ⟨k13, e⟩ := e
      replace e := ckd e
      obtain ⟨k14, e⟩ := e
      refine g_iald d_X11_leaves_54 k13 k14 rfl ?_
      replace e := ckd e
      obtain ⟨k15, e⟩ := e
      refine g_iast d_X11_leaves_55 k13 k15 ?_
      replace e := bhd e
      obtain ⟨_, rfl, e⟩ := e
      refine g_ald_n d_X11_leaves_56 rfl g0 ?_
      refine g_getR d_X11_leaves_57 (f := 1260) (tO_pE (tO_pE k5)) fk_12_170 rfl rfl ?_
      refine r_iload_n d_X11_leaves_60 rfl g3 ?_
      refine g_ald_n d_X11_leaves_61 rfl g0 ?_
      refine g_getR d_X11_leaves_62 (f := 1260) (tO_pE (tO_pE k5)) fk_12_170 rfl rfl ?_
      refine r_iload_n d_X11_leaves_65 rfl g3 ?_
      refine r_iconst d_X11_leaves_66 (v := (1 : Int32)) (by decide +kernel) ?_
      refine r_iadd d_X11_leaves_67 ?_
      replace e := ckd e
      obtain ⟨k17, e⟩ := e
      replace e := ckd e
      obtain ⟨k18, e⟩ := e
      refine g_iald d_X11_leaves_68 k17 k18 rfl ?_
      replace e := ckd e
      obtain ⟨k19, e⟩ := e
      refine g_iast d_X11_leaves_69 k17 k19 ?_
      replace e := bhd e
      obtain ⟨_, rfl, e⟩ := e
      replace e := bhd e
      obtain ⟨_, rfl, e⟩ := e
      refine s_iinc d_X11_leaves_70 g3 (w := (1 : Int32)) (by decide +kernel) (by decide) (fun L g3 gK => ?_)
      replace g0 := gK _ _ (by decide) (Or.inr (zrf_cat _)) g0
      replace g1 := gK _ _ (by decide) (Or.inr rfl) g1
      refine r_goto d_X11_leaves_73 (tgt := 12) (by decide) ?_
      exact ih _ _ _ _ _ _ g0 g1 g3 e

def f_X11_leaves (l0 : Nat) (l1 : Int32) (l2 : Int32) (h : Hp) : Option Hp := ck (isO (h) (l0) 12) (ck (isO (h) (zR (h) 1257 (l0)) 22) (ck (inR (l1) (zL (h) (zR (h) 1257 (l0)))) (bh (pE (h) (zR (h) 1257 (l0)) (l1).toNatClampNeg ((zE (h) (zR (h) 1257 (l0)) (l1).toNatClampNeg) - ((1 : Int32)))) (fun h4 => f_X11_leaves_12 fz (l0) (l1) (l2) (h4)))))
theorem f_X11_leaves_ok {G : Gd} {d : Nat} (hj : 1 ≤ d) : ∀ (l0 : Nat) (l1 : Int32) (l2 : Int32) (L : List (Nat × Value)) (h : Hp) (o : Hp), zlk L 0 = some (zrf (l0)) → zlk L 1 = some (.int (l1)) → zlk L 2 = some (.int (l2)) → f_X11_leaves l0 l1 l2 h = some o → Ev G M_X11_leaves d 0 L [] h (Ret Y_X11_leaves none o) := by
  intro l0 l1 l2 L h o g0 g1 g2 e
  unfold f_X11_leaves at e
  refine g_ald_n d_X11_leaves_0 rfl g0 ?_
  replace e := ckd e
  obtain ⟨k1, e⟩ := e
  refine g_getR d_X11_leaves_1 (f := 1257) k1 fk_12_161 rfl rfl ?_
  refine r_iload_n d_X11_leaves_4 rfl g1 ?_
  refine r_dup2 d_X11_leaves_5 rfl (zrf_cat _) ?_
  replace e := ckd e
  obtain ⟨k2, e⟩ := e
  replace e := ckd e
  obtain ⟨k3, e⟩ := e
  refine g_iald d_X11_leaves_6 k2 k3 rfl ?_
  refine r_iconst d_X11_leaves_7 (v := (1 : Int32)) (by decide +kernel) ?_
  refine r_isub d_X11_leaves_8 ?_
  refine g_iast d_X11_leaves_9 k2 k3 ?_
  replace e := bhd e
  obtain ⟨_, rfl, e⟩ := e
  refine r_iload_n d_X11_leaves_10 rfl g2 ?_
  refine s_istore_n d_X11_leaves_11 rfl (by decide) (fun L g3 gK => ?_)
  replace g0 := gK _ _ (by decide) (Or.inr (zrf_cat _)) g0
  replace g1 := gK _ _ (by decide) (Or.inr rfl) g1
  exact f_X11_leaves_12_ok hj _ _ _ _ _ _ _ g0 g1 g3 e

theorem c_X11_leaves {G : Gd} {j : Nat} (hj : 1 ≤ j) {l0 : Nat} {l1 : Int32} {l2 : Int32} {h : Hp} {o : Hp} (e : f_X11_leaves l0 l1 l2 h = some o) : Cal G j Y_X11_leaves [zrf (l0), .int (l1), .int (l2)] h none o := Cal.of (n := 0) (I := false) (by decide +kernel) (by decide) (by simp [lg_sl, zrf_cat, cat_int, cat_long]) (f_X11_leaves_ok hj _ _ _ _ h o (by simp [lv_args, zlk, zrf_cat, cat_int, cat_long]) (by simp [lv_args, zlk, zrf_cat, cat_int, cat_long]) (by simp [lv_args, zlk, zrf_cat, cat_int, cat_long]) e)
