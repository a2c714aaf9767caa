abbrev Y_X9_walk : Yx := (⟨"TaskWeave$Workflow", "walk", "()V"⟩, prog_11_method_15_code, 5, none)
abbrev M_X9_walk : Mx := ("TaskWeave$Workflow", prog_11_method_15_code, 5, false)
theorem yk_X9_walk : Yk Y_X9_walk 0 := ⟨by decide +kernel, by decide +kernel, ⟨by decide, by decide⟩, by decide +kernel, by decide, trivial⟩
theorem d_X9_walk_0 : decode prog_11_method_15_code 0 = .ok (.aload_n 0, 1) := by decide +kernel
theorem d_X9_walk_1 : decode prog_11_method_15_code 1 = .ok (.getfield 53, 3) := by decide +kernel
theorem d_X9_walk_4 : decode prog_11_method_15_code 4 = .ok (.bipush 8, 2) := by decide +kernel
theorem d_X9_walk_6 : decode prog_11_method_15_code 6 = .ok (.imul, 1) := by decide +kernel
theorem d_X9_walk_7 : decode prog_11_method_15_code 7 = .ok (.istore_n 1, 1) := by decide +kernel
theorem d_X9_walk_8 : decode prog_11_method_15_code 8 = .ok (.aload_n 0, 1) := by decide +kernel
theorem d_X9_walk_9 : decode prog_11_method_15_code 9 = .ok (.iload_n 1, 1) := by decide +kernel
theorem d_X9_walk_10 : decode prog_11_method_15_code 10 = .ok (.iconst 4, 1) := by decide +kernel
theorem d_X9_walk_11 : decode prog_11_method_15_code 11 = .ok (.iadd, 1) := by decide +kernel
theorem d_X9_walk_12 : decode prog_11_method_15_code 12 = .ok (.invokevirtual 118, 3) := by decide +kernel
theorem d_X9_walk_15 : decode prog_11_method_15_code 15 = .ok (.istore_n 2, 1) := by decide +kernel
theorem d_X9_walk_16 : decode prog_11_method_15_code 16 = .ok (.aload_n 0, 1) := by decide +kernel
theorem d_X9_walk_17 : decode prog_11_method_15_code 17 = .ok (.getfield 33, 3) := by decide +kernel
theorem d_X9_walk_20 : decode prog_11_method_15_code 20 = .ok (.getfield 121, 3) := by decide +kernel
theorem d_X9_walk_23 : decode prog_11_method_15_code 23 = .ok (.iload_n 1, 1) := by decide +kernel
theorem d_X9_walk_24 : decode prog_11_method_15_code 24 = .ok (.iconst 0, 1) := by decide +kernel
theorem d_X9_walk_25 : decode prog_11_method_15_code 25 = .ok (.iadd, 1) := by decide +kernel
theorem d_X9_walk_26 : decode prog_11_method_15_code 26 = .ok (.iaload, 1) := by decide +kernel
theorem d_X9_walk_27 : decode prog_11_method_15_code 27 = .ok (.istore_n 3, 1) := by decide +kernel
theorem d_X9_walk_28 : decode prog_11_method_15_code 28 = .ok (.iload_n 3, 1) := by decide +kernel
theorem d_X9_walk_29 : decode prog_11_method_15_code 29 = .ok (.lookupswitch 240 #[(71, 51), (73, 69), (74, 170), (83, 100), (87, 113)], 51) := by decide +kernel
theorem d_X9_walk_80 : decode prog_11_method_15_code 80 = .ok (.aload_n 0, 1) := by decide +kernel
theorem d_X9_walk_81 : decode prog_11_method_15_code 81 = .ok (.aload_n 0, 1) := by decide +kernel
theorem d_X9_walk_82 : decode prog_11_method_15_code 82 = .ok (.getfield 33, 3) := by decide +kernel
theorem d_X9_walk_85 : decode prog_11_method_15_code 85 = .ok (.getfield 121, 3) := by decide +kernel
theorem d_X9_walk_88 : decode prog_11_method_15_code 88 = .ok (.iload_n 1, 1) := by decide +kernel
theorem d_X9_walk_89 : decode prog_11_method_15_code 89 = .ok (.iconst 1, 1) := by decide +kernel
theorem d_X9_walk_90 : decode prog_11_method_15_code 90 = .ok (.iadd, 1) := by decide +kernel
theorem d_X9_walk_91 : decode prog_11_method_15_code 91 = .ok (.iaload, 1) := by decide +kernel
theorem d_X9_walk_92 : decode prog_11_method_15_code 92 = .ok (.invokevirtual 137, 3) := by decide +kernel
theorem d_X9_walk_95 : decode prog_11_method_15_code 95 = .ok (.goto 191, 3) := by decide +kernel
theorem d_X9_walk_98 : decode prog_11_method_15_code 98 = .ok (.aload_n 0, 1) := by decide +kernel
theorem d_X9_walk_99 : decode prog_11_method_15_code 99 = .ok (.iload_n 2, 1) := by decide +kernel
theorem d_X9_walk_100 : decode prog_11_method_15_code 100 = .ok (.ifCond .eq 17, 3) := by decide +kernel
theorem d_X9_walk_103 : decode prog_11_method_15_code 103 = .ok (.aload_n 0, 1) := by decide +kernel
theorem d_X9_walk_104 : decode prog_11_method_15_code 104 = .ok (.getfield 33, 3) := by decide +kernel
theorem d_X9_walk_107 : decode prog_11_method_15_code 107 = .ok (.getfield 121, 3) := by decide +kernel
theorem d_X9_walk_110 : decode prog_11_method_15_code 110 = .ok (.iload_n 1, 1) := by decide +kernel
theorem d_X9_walk_111 : decode prog_11_method_15_code 111 = .ok (.iconst 1, 1) := by decide +kernel
theorem d_X9_walk_112 : decode prog_11_method_15_code 112 = .ok (.iadd, 1) := by decide +kernel
theorem d_X9_walk_113 : decode prog_11_method_15_code 113 = .ok (.iaload, 1) := by decide +kernel
theorem d_X9_walk_114 : decode prog_11_method_15_code 114 = .ok (.goto 9, 3) := by decide +kernel
theorem d_X9_walk_117 : decode prog_11_method_15_code 117 = .ok (.aload_n 0, 1) := by decide +kernel
theorem d_X9_walk_118 : decode prog_11_method_15_code 118 = .ok (.getfield 53, 3) := by decide +kernel
theorem d_X9_walk_121 : decode prog_11_method_15_code 121 = .ok (.iconst 1, 1) := by decide +kernel
theorem d_X9_walk_122 : decode prog_11_method_15_code 122 = .ok (.iadd, 1) := by decide +kernel
theorem d_X9_walk_123 : decode prog_11_method_15_code 123 = .ok (.invokevirtual 137, 3) := by decide +kernel
theorem d_X9_walk_126 : decode prog_11_method_15_code 126 = .ok (.goto 160, 3) := by decide +kernel
theorem d_X9_walk_129 : decode prog_11_method_15_code 129 = .ok (.aload_n 0, 1) := by decide +kernel
theorem d_X9_walk_130 : decode prog_11_method_15_code 130 = .ok (.aload_n 0, 1) := by decide +kernel
theorem d_X9_walk_131 : decode prog_11_method_15_code 131 = .ok (.getfield 53, 3) := by decide +kernel
theorem d_X9_walk_134 : decode prog_11_method_15_code 134 = .ok (.iconst 1, 1) := by decide +kernel
theorem d_X9_walk_135 : decode prog_11_method_15_code 135 = .ok (.iadd, 1) := by decide +kernel
theorem d_X9_walk_136 : decode prog_11_method_15_code 136 = .ok (.invokevirtual 137, 3) := by decide +kernel
theorem d_X9_walk_139 : decode prog_11_method_15_code 139 = .ok (.goto 147, 3) := by decide +kernel
theorem d_X9_walk_142 : decode prog_11_method_15_code 142 = .ok (.aload_n 0, 1) := by decide +kernel
theorem d_X9_walk_143 : decode prog_11_method_15_code 143 = .ok (.getfield 18, 3) := by decide +kernel
theorem d_X9_walk_146 : decode prog_11_method_15_code 146 = .ok (.bipush 8, 2) := by decide +kernel
theorem d_X9_walk_148 : decode prog_11_method_15_code 148 = .ok (.aload_n 0, 1) := by decide +kernel
theorem d_X9_walk_149 : decode prog_11_method_15_code 149 = .ok (.getfield 62, 3) := by decide +kernel
theorem d_X9_walk_152 : decode prog_11_method_15_code 152 = .ok (.invokevirtual 74, 3) := by decide +kernel
theorem d_X9_walk_155 : decode prog_11_method_15_code 155 = .ok (.istore 4, 2) := by decide +kernel
theorem d_X9_walk_157 : decode prog_11_method_15_code 157 = .ok (.iload 4, 2) := by decide +kernel
theorem d_X9_walk_159 : decode prog_11_method_15_code 159 = .ok (.iconst (-1), 1) := by decide +kernel
theorem d_X9_walk_160 : decode prog_11_method_15_code 160 = .ok (.if_icmp .ne 12, 3) := by decide +kernel
theorem d_X9_walk_163 : decode prog_11_method_15_code 163 = .ok (.aload_n 0, 1) := by decide +kernel
theorem d_X9_walk_164 : decode prog_11_method_15_code 164 = .ok (.iconst 2, 1) := by decide +kernel
theorem d_X9_walk_165 : decode prog_11_method_15_code 165 = .ok (.iconst 0, 1) := by decide +kernel
theorem d_X9_walk_166 : decode prog_11_method_15_code 166 = .ok (.invokevirtual 141, 3) := by decide +kernel
theorem d_X9_walk_169 : decode prog_11_method_15_code 169 = .ok (.goto 117, 3) := by decide +kernel
theorem d_X9_walk_172 : decode prog_11_method_15_code 172 = .ok (.aload_n 0, 1) := by decide +kernel
theorem d_X9_walk_173 : decode prog_11_method_15_code 173 = .ok (.dup, 1) := by decide +kernel
theorem d_X9_walk_174 : decode prog_11_method_15_code 174 = .ok (.getfield 62, 3) := by decide +kernel
theorem d_X9_walk_177 : decode prog_11_method_15_code 177 = .ok (.iconst 1, 1) := by decide +kernel
theorem d_X9_walk_178 : decode prog_11_method_15_code 178 = .ok (.iadd, 1) := by decide +kernel
theorem d_X9_walk_179 : decode prog_11_method_15_code 179 = .ok (.putfield 62, 3) := by decide +kernel
theorem d_X9_walk_182 : decode prog_11_method_15_code 182 = .ok (.aload_n 0, 1) := by decide +kernel
theorem d_X9_walk_183 : decode prog_11_method_15_code 183 = .ok (.aload_n 0, 1) := by decide +kernel
theorem d_X9_walk_184 : decode prog_11_method_15_code 184 = .ok (.getfield 18, 3) := by decide +kernel
theorem d_X9_walk_187 : decode prog_11_method_15_code 187 = .ok (.getfield 82, 3) := by decide +kernel
theorem d_X9_walk_190 : decode prog_11_method_15_code 190 = .ok (.iload 4, 2) := by decide +kernel
theorem d_X9_walk_192 : decode prog_11_method_15_code 192 = .ok (.iaload, 1) := by decide +kernel
theorem d_X9_walk_193 : decode prog_11_method_15_code 193 = .ok (.invokevirtual 145, 3) := by decide +kernel
theorem d_X9_walk_196 : decode prog_11_method_15_code 196 = .ok (.goto 90, 3) := by decide +kernel
theorem d_X9_walk_199 : decode prog_11_method_15_code 199 = .ok (.aload_n 0, 1) := by decide +kernel
theorem d_X9_walk_200 : decode prog_11_method_15_code 200 = .ok (.getfield 18, 3) := by decide +kernel
theorem d_X9_walk_203 : decode prog_11_method_15_code 203 = .ok (.iload_n 2, 1) := by decide +kernel
theorem d_X9_walk_204 : decode prog_11_method_15_code 204 = .ok (.invokevirtual 148, 3) := by decide +kernel
theorem d_X9_walk_207 : decode prog_11_method_15_code 207 = .ok (.istore 4, 2) := by decide +kernel
theorem d_X9_walk_209 : decode prog_11_method_15_code 209 = .ok (.iload_n 2, 1) := by decide +kernel
theorem d_X9_walk_210 : decode prog_11_method_15_code 210 = .ok (.ifCond .lt 26, 3) := by decide +kernel
theorem d_X9_walk_213 : decode prog_11_method_15_code 213 = .ok (.iload_n 2, 1) := by decide +kernel
theorem d_X9_walk_214 : decode prog_11_method_15_code 214 = .ok (.aload_n 0, 1) := by decide +kernel
theorem d_X9_walk_215 : decode prog_11_method_15_code 215 = .ok (.getfield 65, 3) := by decide +kernel
theorem d_X9_walk_218 : decode prog_11_method_15_code 218 = .ok (.if_icmp .ge 18, 3) := by decide +kernel
theorem d_X9_walk_221 : decode prog_11_method_15_code 221 = .ok (.iload 4, 2) := by decide +kernel
theorem d_X9_walk_223 : decode prog_11_method_15_code 223 = .ok (.iconst (-1), 1) := by decide +kernel
theorem d_X9_walk_224 : decode prog_11_method_15_code 224 = .ok (.if_icmp .ne 12, 3) := by decide +kernel
theorem d_X9_walk_227 : decode prog_11_method_15_code 227 = .ok (.aload_n 0, 1) := by decide +kernel
theorem d_X9_walk_228 : decode prog_11_method_15_code 228 = .ok (.iconst 3, 1) := by decide +kernel
theorem d_X9_walk_229 : decode prog_11_method_15_code 229 = .ok (.iload_n 2, 1) := by decide +kernel
theorem d_X9_walk_230 : decode prog_11_method_15_code 230 = .ok (.invokevirtual 141, 3) := by decide +kernel
theorem d_X9_walk_233 : decode prog_11_method_15_code 233 = .ok (.goto 53, 3) := by decide +kernel
theorem d_X9_walk_236 : decode prog_11_method_15_code 236 = .ok (.aload_n 0, 1) := by decide +kernel
theorem d_X9_walk_237 : decode prog_11_method_15_code 237 = .ok (.iload_n 2, 1) := by decide +kernel
theorem d_X9_walk_238 : decode prog_11_method_15_code 238 = .ok (.ifCond .lt 24, 3) := by decide +kernel
theorem d_X9_walk_241 : decode prog_11_method_15_code 241 = .ok (.iload_n 2, 1) := by decide +kernel
theorem d_X9_walk_242 : decode prog_11_method_15_code 242 = .ok (.aload_n 0, 1) := by decide +kernel
theorem d_X9_walk_243 : decode prog_11_method_15_code 243 = .ok (.getfield 65, 3) := by decide +kernel
theorem d_X9_walk_246 : decode prog_11_method_15_code 246 = .ok (.if_icmp .ge 16, 3) := by decide +kernel
theorem d_X9_walk_249 : decode prog_11_method_15_code 249 = .ok (.aload_n 0, 1) := by decide +kernel
theorem d_X9_walk_250 : decode prog_11_method_15_code 250 = .ok (.getfield 18, 3) := by decide +kernel
theorem d_X9_walk_253 : decode prog_11_method_15_code 253 = .ok (.getfield 151, 3) := by decide +kernel
theorem d_X9_walk_256 : decode prog_11_method_15_code 256 = .ok (.iload 4, 2) := by decide +kernel
theorem d_X9_walk_258 : decode prog_11_method_15_code 258 = .ok (.iaload, 1) := by decide +kernel
theorem d_X9_walk_259 : decode prog_11_method_15_code 259 = .ok (.goto 4, 3) := by decide +kernel
theorem d_X9_walk_262 : decode prog_11_method_15_code 262 = .ok (.iconst (-1), 1) := by decide +kernel
theorem d_X9_walk_263 : decode prog_11_method_15_code 263 = .ok (.invokevirtual 145, 3) := by decide +kernel
theorem d_X9_walk_266 : decode prog_11_method_15_code 266 = .ok (.goto 20, 3) := by decide +kernel
theorem d_X9_walk_269 : decode prog_11_method_15_code 269 = .ok (.aload_n 0, 1) := by decide +kernel
theorem d_X9_walk_270 : decode prog_11_method_15_code 270 = .ok (.iload_n 3, 1) := by decide +kernel
theorem d_X9_walk_271 : decode prog_11_method_15_code 271 = .ok (.iload_n 2, 1) := by decide +kernel
theorem d_X9_walk_272 : decode prog_11_method_15_code 272 = .ok (.aload_n 0, 1) := by decide +kernel
theorem d_X9_walk_273 : decode prog_11_method_15_code 273 = .ok (.iload_n 1, 1) := by decide +kernel
theorem d_X9_walk_274 : decode prog_11_method_15_code 274 = .ok (.bipush 6, 2) := by decide +kernel
theorem d_X9_walk_276 : decode prog_11_method_15_code 276 = .ok (.iadd, 1) := by decide +kernel
theorem d_X9_walk_277 : decode prog_11_method_15_code 277 = .ok (.invokevirtual 118, 3) := by decide +kernel
theorem d_X9_walk_280 : decode prog_11_method_15_code 280 = .ok (.invokestatic 154, 3) := by decide +kernel
theorem d_X9_walk_283 : decode prog_11_method_15_code 283 = .ok (.invokevirtual 145, 3) := by decide +kernel
theorem d_X9_walk_286 : decode prog_11_method_15_code 286 = .ok (.return_, 1) := by decide +kernel
abbrev Y_X9_hasKin : Yx := (⟨"TaskWeave$Workflow", "hasKin", "(I)Z"⟩, prog_11_method_13_code, 2, (some .boolean))
abbrev M_X9_hasKin : Mx := ("TaskWeave$Workflow", prog_11_method_13_code, 2, false)
theorem yk_X9_hasKin : Yk Y_X9_hasKin 1 := ⟨by decide +kernel, by decide +kernel, ⟨by decide, by decide⟩, by decide +kernel, by decide, trivial⟩
theorem d_X9_hasKin_0 : decode prog_11_method_13_code 0 = .ok (.iload_n 1, 1) := by decide +kernel
theorem d_X9_hasKin_1 : decode prog_11_method_13_code 1 = .ok (.iconst (-1), 1) := by decide +kernel
theorem d_X9_hasKin_2 : decode prog_11_method_13_code 2 = .ok (.if_icmp .ne 23, 3) := by decide +kernel
theorem d_X9_hasKin_5 : decode prog_11_method_13_code 5 = .ok (.aload_n 0, 1) := by decide +kernel
theorem d_X9_hasKin_6 : decode prog_11_method_13_code 6 = .ok (.getfield 18, 3) := by decide +kernel
theorem d_X9_hasKin_9 : decode prog_11_method_13_code 9 = .ok (.getfield 71, 3) := by decide +kernel
theorem d_X9_hasKin_12 : decode prog_11_method_13_code 12 = .ok (.iconst 0, 1) := by decide +kernel
theorem d_X9_hasKin_13 : decode prog_11_method_13_code 13 = .ok (.iaload, 1) := by decide +kernel
theorem d_X9_hasKin_14 : decode prog_11_method_13_code 14 = .ok (.ifCond .ge 7, 3) := by decide +kernel
theorem d_X9_hasKin_17 : decode prog_11_method_13_code 17 = .ok (.iconst 1, 1) := by decide +kernel
theorem d_X9_hasKin_18 : decode prog_11_method_13_code 18 = .ok (.goto 24, 3) := by decide +kernel
theorem d_X9_hasKin_21 : decode prog_11_method_13_code 21 = .ok (.iconst 0, 1) := by decide +kernel
theorem d_X9_hasKin_22 : decode prog_11_method_13_code 22 = .ok (.goto 20, 3) := by decide +kernel
theorem d_X9_hasKin_25 : decode prog_11_method_13_code 25 = .ok (.iload_n 1, 1) := by decide +kernel
theorem d_X9_hasKin_26 : decode prog_11_method_13_code 26 = .ok (.ifCond .lt 15, 3) := by decide +kernel
theorem d_X9_hasKin_29 : decode prog_11_method_13_code 29 = .ok (.iload_n 1, 1) := by decide +kernel
theorem d_X9_hasKin_30 : decode prog_11_method_13_code 30 = .ok (.aload_n 0, 1) := by decide +kernel
theorem d_X9_hasKin_31 : decode prog_11_method_13_code 31 = .ok (.getfield 65, 3) := by decide +kernel
theorem d_X9_hasKin_34 : decode prog_11_method_13_code 34 = .ok (.if_icmp .ge 7, 3) := by decide +kernel
theorem d_X9_hasKin_37 : decode prog_11_method_13_code 37 = .ok (.iconst 1, 1) := by decide +kernel
theorem d_X9_hasKin_38 : decode prog_11_method_13_code 38 = .ok (.goto 4, 3) := by decide +kernel
theorem d_X9_hasKin_41 : decode prog_11_method_13_code 41 = .ok (.iconst 0, 1) := by decide +kernel
theorem d_X9_hasKin_42 : decode prog_11_method_13_code 42 = .ok (.ireturn, 1) := by decide +kernel
abbrev Y_X9_want : Yx := (⟨"TaskWeave$Workflow", "want", "(III)I"⟩, prog_11_method_12_code, 4, (some .int))
abbrev M_X9_want : Mx := ("TaskWeave$Workflow", prog_11_method_12_code, 4, false)
theorem yk_X9_want : Yk Y_X9_want 3 := ⟨by decide +kernel, by decide +kernel, ⟨by decide, by decide⟩, by decide +kernel, by decide, trivial⟩
theorem d_X9_want_0 : decode prog_11_method_12_code 0 = .ok (.aload_n 0, 1) := by decide +kernel
theorem d_X9_want_1 : decode prog_11_method_12_code 1 = .ok (.iload_n 2, 1) := by decide +kernel
theorem d_X9_want_2 : decode prog_11_method_12_code 2 = .ok (.putfield 131, 3) := by decide +kernel
theorem d_X9_want_5 : decode prog_11_method_12_code 5 = .ok (.aload_n 0, 1) := by decide +kernel
theorem d_X9_want_6 : decode prog_11_method_12_code 6 = .ok (.iload_n 3, 1) := by decide +kernel
theorem d_X9_want_7 : decode prog_11_method_12_code 7 = .ok (.putfield 134, 3) := by decide +kernel
theorem d_X9_want_10 : decode prog_11_method_12_code 10 = .ok (.iload_n 1, 1) := by decide +kernel
theorem d_X9_want_11 : decode prog_11_method_12_code 11 = .ok (.ireturn, 1) := by decide +kernel
abbrev Y_X9_wish : Yx := (⟨"TaskWeave$Workflow", "wish", "(I)I"⟩, prog_11_method_11_code, 4, (some .int))
abbrev M_X9_wish : Mx := ("TaskWeave$Workflow", prog_11_method_11_code, 4, false)
theorem yk_X9_wish : Yk Y_X9_wish 1 := ⟨by decide +kernel, by decide +kernel, ⟨by decide, by decide⟩, by decide +kernel, by decide, trivial⟩
theorem d_X9_wish_0 : decode prog_11_method_11_code 0 = .ok (.aload_n 0, 1) := by decide +kernel
theorem d_X9_wish_1 : decode prog_11_method_11_code 1 = .ok (.getfield 53, 3) := by decide +kernel
theorem d_X9_wish_4 : decode prog_11_method_11_code 4 = .ok (.aload_n 0, 1) := by decide +kernel
theorem d_X9_wish_5 : decode prog_11_method_11_code 5 = .ok (.getfield 33, 3) := by decide +kernel
theorem d_X9_wish_8 : decode prog_11_method_11_code 8 = .ok (.getfield 109, 3) := by decide +kernel
theorem d_X9_wish_11 : decode prog_11_method_11_code 11 = .ok (.if_icmp .lt 12, 3) := by decide +kernel
theorem d_X9_wish_14 : decode prog_11_method_11_code 14 = .ok (.aload_n 0, 1) := by decide +kernel
theorem d_X9_wish_15 : decode prog_11_method_11_code 15 = .ok (.bipush 10, 2) := by decide +kernel
theorem d_X9_wish_17 : decode prog_11_method_11_code 17 = .ok (.iconst 0, 1) := by decide +kernel
theorem d_X9_wish_18 : decode prog_11_method_11_code 18 = .ok (.iconst 0, 1) := by decide +kernel
theorem d_X9_wish_19 : decode prog_11_method_11_code 19 = .ok (.invokevirtual 114, 3) := by decide +kernel
theorem d_X9_wish_22 : decode prog_11_method_11_code 22 = .ok (.ireturn, 1) := by decide +kernel
theorem d_X9_wish_23 : decode prog_11_method_11_code 23 = .ok (.aload_n 0, 1) := by decide +kernel
theorem d_X9_wish_24 : decode prog_11_method_11_code 24 = .ok (.getfield 56, 3) := by decide +kernel
theorem d_X9_wish_27 : decode prog_11_method_11_code 27 = .ok (.sipush 200, 3) := by decide +kernel
theorem d_X9_wish_30 : decode prog_11_method_11_code 30 = .ok (.if_icmp .lt 12, 3) := by decide +kernel
theorem d_X9_wish_33 : decode prog_11_method_11_code 33 = .ok (.aload_n 0, 1) := by decide +kernel
theorem d_X9_wish_34 : decode prog_11_method_11_code 34 = .ok (.bipush 12, 2) := by decide +kernel
theorem d_X9_wish_36 : decode prog_11_method_11_code 36 = .ok (.iconst (-1), 1) := by decide +kernel
theorem d_X9_wish_37 : decode prog_11_method_11_code 37 = .ok (.iconst 0, 1) := by decide +kernel
theorem d_X9_wish_38 : decode prog_11_method_11_code 38 = .ok (.invokevirtual 114, 3) := by decide +kernel
theorem d_X9_wish_41 : decode prog_11_method_11_code 41 = .ok (.ireturn, 1) := by decide +kernel
theorem d_X9_wish_42 : decode prog_11_method_11_code 42 = .ok (.aload_n 0, 1) := by decide +kernel
theorem d_X9_wish_43 : decode prog_11_method_11_code 43 = .ok (.getfield 53, 3) := by decide +kernel
theorem d_X9_wish_46 : decode prog_11_method_11_code 46 = .ok (.bipush 8, 2) := by decide +kernel
theorem d_X9_wish_48 : decode prog_11_method_11_code 48 = .ok (.imul, 1) := by decide +kernel
theorem d_X9_wish_49 : decode prog_11_method_11_code 49 = .ok (.istore_n 2, 1) := by decide +kernel
theorem d_X9_wish_50 : decode prog_11_method_11_code 50 = .ok (.aload_n 0, 1) := by decide +kernel
theorem d_X9_wish_51 : decode prog_11_method_11_code 51 = .ok (.iload_n 2, 1) := by decide +kernel
theorem d_X9_wish_52 : decode prog_11_method_11_code 52 = .ok (.iconst 4, 1) := by decide +kernel
theorem d_X9_wish_53 : decode prog_11_method_11_code 53 = .ok (.iadd, 1) := by decide +kernel
theorem d_X9_wish_54 : decode prog_11_method_11_code 54 = .ok (.invokevirtual 118, 3) := by decide +kernel
theorem d_X9_wish_57 : decode prog_11_method_11_code 57 = .ok (.istore_n 3, 1) := by decide +kernel
theorem d_X9_wish_58 : decode prog_11_method_11_code 58 = .ok (.aload_n 0, 1) := by decide +kernel
theorem d_X9_wish_59 : decode prog_11_method_11_code 59 = .ok (.getfield 33, 3) := by decide +kernel
theorem d_X9_wish_62 : decode prog_11_method_11_code 62 = .ok (.getfield 121, 3) := by decide +kernel
theorem d_X9_wish_65 : decode prog_11_method_11_code 65 = .ok (.iload_n 2, 1) := by decide +kernel
theorem d_X9_wish_66 : decode prog_11_method_11_code 66 = .ok (.iconst 0, 1) := by decide +kernel
theorem d_X9_wish_67 : decode prog_11_method_11_code 67 = .ok (.iadd, 1) := by decide +kernel
theorem d_X9_wish_68 : decode prog_11_method_11_code 68 = .ok (.iaload, 1) := by decide +kernel
theorem d_X9_wish_69 : decode prog_11_method_11_code 69 = .ok (.lookupswitch 139 #[(65, 51), (67, 83), (69, 130), (83, 102), (84, 69)], 51) := by decide +kernel
theorem d_X9_wish_120 : decode prog_11_method_11_code 120 = .ok (.aload_n 0, 1) := by decide +kernel
theorem d_X9_wish_121 : decode prog_11_method_11_code 121 = .ok (.iconst 1, 1) := by decide +kernel
theorem d_X9_wish_122 : decode prog_11_method_11_code 122 = .ok (.aload_n 0, 1) := by decide +kernel
theorem d_X9_wish_123 : decode prog_11_method_11_code 123 = .ok (.getfield 33, 3) := by decide +kernel
theorem d_X9_wish_126 : decode prog_11_method_11_code 126 = .ok (.getfield 121, 3) := by decide +kernel
theorem d_X9_wish_129 : decode prog_11_method_11_code 129 = .ok (.iload_n 2, 1) := by decide +kernel
theorem d_X9_wish_130 : decode prog_11_method_11_code 130 = .ok (.iconst 2, 1) := by decide +kernel
theorem d_X9_wish_131 : decode prog_11_method_11_code 131 = .ok (.iadd, 1) := by decide +kernel
theorem d_X9_wish_132 : decode prog_11_method_11_code 132 = .ok (.iaload, 1) := by decide +kernel
theorem d_X9_wish_133 : decode prog_11_method_11_code 133 = .ok (.iload_n 3, 1) := by decide +kernel
theorem d_X9_wish_134 : decode prog_11_method_11_code 134 = .ok (.invokevirtual 114, 3) := by decide +kernel
theorem d_X9_wish_137 : decode prog_11_method_11_code 137 = .ok (.ireturn, 1) := by decide +kernel
theorem d_X9_wish_138 : decode prog_11_method_11_code 138 = .ok (.aload_n 0, 1) := by decide +kernel
theorem d_X9_wish_139 : decode prog_11_method_11_code 139 = .ok (.iconst 4, 1) := by decide +kernel
theorem d_X9_wish_140 : decode prog_11_method_11_code 140 = .ok (.iload_n 1, 1) := by decide +kernel
theorem d_X9_wish_141 : decode prog_11_method_11_code 141 = .ok (.iload_n 3, 1) := by decide +kernel
theorem d_X9_wish_142 : decode prog_11_method_11_code 142 = .ok (.iconst 0, 1) := by decide +kernel
theorem d_X9_wish_143 : decode prog_11_method_11_code 143 = .ok (.invokestatic 124, 3) := by decide +kernel
theorem d_X9_wish_146 : decode prog_11_method_11_code 146 = .ok (.iadd, 1) := by decide +kernel
theorem d_X9_wish_147 : decode prog_11_method_11_code 147 = .ok (.iconst 0, 1) := by decide +kernel
theorem d_X9_wish_148 : decode prog_11_method_11_code 148 = .ok (.invokevirtual 114, 3) := by decide +kernel
theorem d_X9_wish_151 : decode prog_11_method_11_code 151 = .ok (.ireturn, 1) := by decide +kernel
theorem d_X9_wish_152 : decode prog_11_method_11_code 152 = .ok (.aload_n 0, 1) := by decide +kernel
theorem d_X9_wish_153 : decode prog_11_method_11_code 153 = .ok (.bipush 6, 2) := by decide +kernel
theorem d_X9_wish_155 : decode prog_11_method_11_code 155 = .ok (.aload_n 0, 1) := by decide +kernel
theorem d_X9_wish_156 : decode prog_11_method_11_code 156 = .ok (.getfield 33, 3) := by decide +kernel
theorem d_X9_wish_159 : decode prog_11_method_11_code 159 = .ok (.getfield 121, 3) := by decide +kernel
theorem d_X9_wish_162 : decode prog_11_method_11_code 162 = .ok (.iload_n 2, 1) := by decide +kernel
theorem d_X9_wish_163 : decode prog_11_method_11_code 163 = .ok (.iconst 2, 1) := by decide +kernel
theorem d_X9_wish_164 : decode prog_11_method_11_code 164 = .ok (.iadd, 1) := by decide +kernel
theorem d_X9_wish_165 : decode prog_11_method_11_code 165 = .ok (.iaload, 1) := by decide +kernel
theorem d_X9_wish_166 : decode prog_11_method_11_code 166 = .ok (.iload_n 3, 1) := by decide +kernel
theorem d_X9_wish_167 : decode prog_11_method_11_code 167 = .ok (.invokevirtual 114, 3) := by decide +kernel
theorem d_X9_wish_170 : decode prog_11_method_11_code 170 = .ok (.ireturn, 1) := by decide +kernel
theorem d_X9_wish_171 : decode prog_11_method_11_code 171 = .ok (.aload_n 0, 1) := by decide +kernel
theorem d_X9_wish_172 : decode prog_11_method_11_code 172 = .ok (.iload_n 3, 1) := by decide +kernel
theorem d_X9_wish_173 : decode prog_11_method_11_code 173 = .ok (.invokevirtual 127, 3) := by decide +kernel
theorem d_X9_wish_176 : decode prog_11_method_11_code 176 = .ok (.ifCond .eq 21, 3) := by decide +kernel
theorem d_X9_wish_179 : decode prog_11_method_11_code 179 = .ok (.aload_n 0, 1) := by decide +kernel
theorem d_X9_wish_180 : decode prog_11_method_11_code 180 = .ok (.bipush 9, 2) := by decide +kernel
theorem d_X9_wish_182 : decode prog_11_method_11_code 182 = .ok (.iload_n 3, 1) := by decide +kernel
theorem d_X9_wish_183 : decode prog_11_method_11_code 183 = .ok (.aload_n 0, 1) := by decide +kernel
theorem d_X9_wish_184 : decode prog_11_method_11_code 184 = .ok (.iload_n 2, 1) := by decide +kernel
theorem d_X9_wish_185 : decode prog_11_method_11_code 185 = .ok (.bipush 6, 2) := by decide +kernel
theorem d_X9_wish_187 : decode prog_11_method_11_code 187 = .ok (.iadd, 1) := by decide +kernel
theorem d_X9_wish_188 : decode prog_11_method_11_code 188 = .ok (.invokevirtual 118, 3) := by decide +kernel
theorem d_X9_wish_191 : decode prog_11_method_11_code 191 = .ok (.invokevirtual 114, 3) := by decide +kernel
theorem d_X9_wish_194 : decode prog_11_method_11_code 194 = .ok (.goto 4, 3) := by decide +kernel
theorem d_X9_wish_197 : decode prog_11_method_11_code 197 = .ok (.iconst (-1), 1) := by decide +kernel
theorem d_X9_wish_198 : decode prog_11_method_11_code 198 = .ok (.ireturn, 1) := by decide +kernel
theorem d_X9_wish_199 : decode prog_11_method_11_code 199 = .ok (.aload_n 0, 1) := by decide +kernel
theorem d_X9_wish_200 : decode prog_11_method_11_code 200 = .ok (.bipush 10, 2) := by decide +kernel
theorem d_X9_wish_202 : decode prog_11_method_11_code 202 = .ok (.iload_n 3, 1) := by decide +kernel
theorem d_X9_wish_203 : decode prog_11_method_11_code 203 = .ok (.iconst 0, 1) := by decide +kernel
theorem d_X9_wish_204 : decode prog_11_method_11_code 204 = .ok (.invokevirtual 114, 3) := by decide +kernel
theorem d_X9_wish_207 : decode prog_11_method_11_code 207 = .ok (.ireturn, 1) := by decide +kernel
theorem d_X9_wish_208 : decode prog_11_method_11_code 208 = .ok (.iconst (-1), 1) := by decide +kernel
theorem d_X9_wish_209 : decode prog_11_method_11_code 209 = .ok (.ireturn, 1) := by decide +kernel
abbrev Y_X9_run : Yx := (⟨"TaskWeave$Workflow", "run", "(I)I"⟩, prog_11_method_10_code, 4, (some .int))
abbrev M_X9_run : Mx := ("TaskWeave$Workflow", prog_11_method_10_code, 4, false)
theorem yk_X9_run : Yk Y_X9_run 1 := ⟨by decide +kernel, by decide +kernel, ⟨by decide, by decide⟩, by decide +kernel, by decide, trivial⟩
theorem d_X9_run_0 : decode prog_11_method_10_code 0 = .ok (.iconst 0, 1) := by decide +kernel
theorem d_X9_run_1 : decode prog_11_method_10_code 1 = .ok (.istore_n 2, 1) := by decide +kernel
theorem d_X9_run_2 : decode prog_11_method_10_code 2 = .ok (.iload_n 2, 1) := by decide +kernel
theorem d_X9_run_3 : decode prog_11_method_10_code 3 = .ok (.sipush 200, 3) := by decide +kernel
theorem d_X9_run_6 : decode prog_11_method_10_code 6 = .ok (.if_icmp .gt 41, 3) := by decide +kernel
theorem d_X9_run_9 : decode prog_11_method_10_code 9 = .ok (.aload_n 0, 1) := by decide +kernel
theorem d_X9_run_10 : decode prog_11_method_10_code 10 = .ok (.getfield 59, 3) := by decide +kernel
theorem d_X9_run_13 : decode prog_11_method_10_code 13 = .ok (.iconst 5, 1) := by decide +kernel
theorem d_X9_run_14 : decode prog_11_method_10_code 14 = .ok (.if_icmp .ne 33, 3) := by decide +kernel
theorem d_X9_run_17 : decode prog_11_method_10_code 17 = .ok (.aload_n 0, 1) := by decide +kernel
theorem d_X9_run_18 : decode prog_11_method_10_code 18 = .ok (.getfield 33, 3) := by decide +kernel
theorem d_X9_run_21 : decode prog_11_method_10_code 21 = .ok (.ifnull 26, 3) := by decide +kernel
theorem d_X9_run_24 : decode prog_11_method_10_code 24 = .ok (.aload_n 0, 1) := by decide +kernel
theorem d_X9_run_25 : decode prog_11_method_10_code 25 = .ok (.iload_n 1, 1) := by decide +kernel
theorem d_X9_run_26 : decode prog_11_method_10_code 26 = .ok (.invokevirtual 102, 3) := by decide +kernel
theorem d_X9_run_29 : decode prog_11_method_10_code 29 = .ok (.istore_n 3, 1) := by decide +kernel
theorem d_X9_run_30 : decode prog_11_method_10_code 30 = .ok (.iload_n 3, 1) := by decide +kernel
theorem d_X9_run_31 : decode prog_11_method_10_code 31 = .ok (.iconst (-1), 1) := by decide +kernel
theorem d_X9_run_32 : decode prog_11_method_10_code 32 = .ok (.if_icmp .eq 5, 3) := by decide +kernel
theorem d_X9_run_35 : decode prog_11_method_10_code 35 = .ok (.iload_n 3, 1) := by decide +kernel
theorem d_X9_run_36 : decode prog_11_method_10_code 36 = .ok (.ireturn, 1) := by decide +kernel
theorem d_X9_run_37 : decode prog_11_method_10_code 37 = .ok (.aload_n 0, 1) := by decide +kernel
theorem d_X9_run_38 : decode prog_11_method_10_code 38 = .ok (.invokevirtual 106, 3) := by decide +kernel
theorem d_X9_run_41 : decode prog_11_method_10_code 41 = .ok (.iinc 2 1, 3) := by decide +kernel
theorem d_X9_run_44 : decode prog_11_method_10_code 44 = .ok (.goto (-42), 3) := by decide +kernel
theorem d_X9_run_47 : decode prog_11_method_10_code 47 = .ok (.iconst (-1), 1) := by decide +kernel
theorem d_X9_run_48 : decode prog_11_method_10_code 48 = .ok (.ireturn, 1) := by decide +kernel
abbrev Y_X6_goOn : Yx := (⟨"TaskWeave$Shard", "goOn", "(LTaskWeave$Workflow;)V"⟩, prog_8_method_12_code, 4, none)
abbrev M_X6_goOn : Mx := ("TaskWeave$Shard", prog_8_method_12_code, 4, false)
theorem yk_X6_goOn : Yk Y_X6_goOn 1 := ⟨by decide +kernel, by decide +kernel, ⟨by decide, by decide⟩, by decide +kernel, by decide, trivial⟩
theorem d_X6_goOn_0 : decode prog_8_method_12_code 0 = .ok (.aload_n 1, 1) := by decide +kernel
theorem d_X6_goOn_1 : decode prog_8_method_12_code 1 = .ok (.aload_n 0, 1) := by decide +kernel
theorem d_X6_goOn_2 : decode prog_8_method_12_code 2 = .ok (.getfield 41, 3) := by decide +kernel
theorem d_X6_goOn_5 : decode prog_8_method_12_code 5 = .ok (.getfield 127, 3) := by decide +kernel
theorem d_X6_goOn_8 : decode prog_8_method_12_code 8 = .ok (.invokevirtual 144, 3) := by decide +kernel
theorem d_X6_goOn_11 : decode prog_8_method_12_code 11 = .ok (.istore_n 2, 1) := by decide +kernel
theorem d_X6_goOn_12 : decode prog_8_method_12_code 12 = .ok (.iconst 0, 1) := by decide +kernel
theorem d_X6_goOn_13 : decode prog_8_method_12_code 13 = .ok (.istore_n 3, 1) := by decide +kernel
theorem d_X6_goOn_14 : decode prog_8_method_12_code 14 = .ok (.iload_n 3, 1) := by decide +kernel
theorem d_X6_goOn_15 : decode prog_8_method_12_code 15 = .ok (.bipush 60, 2) := by decide +kernel
theorem d_X6_goOn_17 : decode prog_8_method_12_code 17 = .ok (.if_icmp .ge 48, 3) := by decide +kernel
theorem d_X6_goOn_20 : decode prog_8_method_12_code 20 = .ok (.iload_n 2, 1) := by decide +kernel
theorem d_X6_goOn_21 : decode prog_8_method_12_code 21 = .ok (.iconst (-1), 1) := by decide +kernel
theorem d_X6_goOn_22 : decode prog_8_method_12_code 22 = .ok (.if_icmp .eq 43, 3) := by decide +kernel
theorem d_X6_goOn_25 : decode prog_8_method_12_code 25 = .ok (.aload_n 0, 1) := by decide +kernel
theorem d_X6_goOn_26 : decode prog_8_method_12_code 26 = .ok (.aload_n 1, 1) := by decide +kernel
theorem d_X6_goOn_27 : decode prog_8_method_12_code 27 = .ok (.iload_n 2, 1) := by decide +kernel
theorem d_X6_goOn_28 : decode prog_8_method_12_code 28 = .ok (.aload_n 1, 1) := by decide +kernel
theorem d_X6_goOn_29 : decode prog_8_method_12_code 29 = .ok (.getfield 148, 3) := by decide +kernel
theorem d_X6_goOn_32 : decode prog_8_method_12_code 32 = .ok (.aload_n 1, 1) := by decide +kernel
theorem d_X6_goOn_33 : decode prog_8_method_12_code 33 = .ok (.getfield 151, 3) := by decide +kernel
theorem d_X6_goOn_36 : decode prog_8_method_12_code 36 = .ok (.iconst 0, 1) := by decide +kernel
theorem d_X6_goOn_37 : decode prog_8_method_12_code 37 = .ok (.invokevirtual 154, 3) := by decide +kernel
theorem d_X6_goOn_40 : decode prog_8_method_12_code 40 = .ok (.ifCond .eq 17, 3) := by decide +kernel
theorem d_X6_goOn_43 : decode prog_8_method_12_code 43 = .ok (.aload_n 1, 1) := by decide +kernel
theorem d_X6_goOn_44 : decode prog_8_method_12_code 44 = .ok (.aload_n 0, 1) := by decide +kernel
theorem d_X6_goOn_45 : decode prog_8_method_12_code 45 = .ok (.getfield 41, 3) := by decide +kernel
theorem d_X6_goOn_48 : decode prog_8_method_12_code 48 = .ok (.getfield 127, 3) := by decide +kernel
theorem d_X6_goOn_51 : decode prog_8_method_12_code 51 = .ok (.invokevirtual 144, 3) := by decide +kernel
theorem d_X6_goOn_54 : decode prog_8_method_12_code 54 = .ok (.goto 4, 3) := by decide +kernel
theorem d_X6_goOn_57 : decode prog_8_method_12_code 57 = .ok (.iconst (-1), 1) := by decide +kernel
theorem d_X6_goOn_58 : decode prog_8_method_12_code 58 = .ok (.istore_n 2, 1) := by decide +kernel
theorem d_X6_goOn_59 : decode prog_8_method_12_code 59 = .ok (.iinc 3 1, 3) := by decide +kernel
theorem d_X6_goOn_62 : decode prog_8_method_12_code 62 = .ok (.goto (-48), 3) := by decide +kernel
theorem d_X6_goOn_65 : decode prog_8_method_12_code 65 = .ok (.return_, 1) := by decide +kernel
abbrev Y_X6_bring : Yx := (⟨"TaskWeave$Shard", "bring", "(LTaskWeave$Workflow;IIII)Z"⟩, prog_8_method_13_code, 6, (some .boolean))
abbrev M_X6_bring : Mx := ("TaskWeave$Shard", prog_8_method_13_code, 6, false)
theorem yk_X6_bring : Yk Y_X6_bring 5 := ⟨by decide +kernel, by decide +kernel, ⟨by decide, by decide⟩, by decide +kernel, by decide, trivial⟩
theorem d_X6_bring_0 : decode prog_8_method_13_code 0 = .ok (.aload_n 0, 1) := by decide +kernel
theorem d_X6_bring_1 : decode prog_8_method_13_code 1 = .ok (.aload_n 1, 1) := by decide +kernel
theorem d_X6_bring_2 : decode prog_8_method_13_code 2 = .ok (.iload_n 2, 1) := by decide +kernel
theorem d_X6_bring_3 : decode prog_8_method_13_code 3 = .ok (.iload_n 3, 1) := by decide +kernel
theorem d_X6_bring_4 : decode prog_8_method_13_code 4 = .ok (.iload 4, 2) := by decide +kernel
theorem d_X6_bring_6 : decode prog_8_method_13_code 6 = .ok (.iload 5, 2) := by decide +kernel
theorem d_X6_bring_8 : decode prog_8_method_13_code 8 = .ok (.invokevirtual 154, 3) := by decide +kernel
theorem d_X6_bring_11 : decode prog_8_method_13_code 11 = .ok (.ifCond .ne 5, 3) := by decide +kernel
theorem d_X6_bring_14 : decode prog_8_method_13_code 14 = .ok (.iconst 0, 1) := by decide +kernel
theorem d_X6_bring_15 : decode prog_8_method_13_code 15 = .ok (.ireturn, 1) := by decide +kernel
theorem d_X6_bring_16 : decode prog_8_method_13_code 16 = .ok (.aload_n 0, 1) := by decide +kernel
theorem d_X6_bring_17 : decode prog_8_method_13_code 17 = .ok (.aload_n 1, 1) := by decide +kernel
theorem d_X6_bring_18 : decode prog_8_method_13_code 18 = .ok (.invokevirtual 158, 3) := by decide +kernel
theorem d_X6_bring_21 : decode prog_8_method_13_code 21 = .ok (.iconst 1, 1) := by decide +kernel
theorem d_X6_bring_22 : decode prog_8_method_13_code 22 = .ok (.ireturn, 1) := by decide +kernel
abbrev Y_Jx4a65c_size_8abf5 : Yx := (⟨"java/util/ArrayList", "size", "()I"⟩, prog_28_method_8_code, 1, (some .int))
abbrev M_Jx4a65c_size_8abf5 : Mx := ("java/util/ArrayList", prog_28_method_8_code, 1, false)
theorem yk_Jx4a65c_size_8abf5 : Yk Y_Jx4a65c_size_8abf5 0 := ⟨by decide +kernel, by decide +kernel, ⟨by decide, by decide⟩, by decide +kernel, by decide, trivial⟩
theorem d_Jx4a65c_size_8abf5_0 : decode prog_28_method_8_code 0 = .ok (.aload_n 0, 1) := by decide +kernel
theorem d_Jx4a65c_size_8abf5_1 : decode prog_28_method_8_code 1 = .ok (.getfield 48, 3) := by decide +kernel
theorem d_Jx4a65c_size_8abf5_4 : decode prog_28_method_8_code 4 = .ok (.ireturn, 1) := by decide +kernel
abbrev Y_J9_floorDiv_7cf53 : Yx := (⟨"java/lang/Math", "floorDiv", "(II)I"⟩, prog_21_method_47_code, 3, (some .int))
abbrev M_J9_floorDiv_7cf53 : Mx := ("java/lang/Math", prog_21_method_47_code, 3, false)
theorem yk_J9_floorDiv_7cf53 : Yk Y_J9_floorDiv_7cf53 2 := ⟨by decide +kernel, by decide +kernel, ⟨by decide, by decide⟩, by decide +kernel, by decide, trivial⟩
theorem d_J9_floorDiv_7cf53_0 : decode prog_21_method_47_code 0 = .ok (.iload_n 0, 1) := by decide +kernel
theorem d_J9_floorDiv_7cf53_1 : decode prog_21_method_47_code 1 = .ok (.iload_n 1, 1) := by decide +kernel
theorem d_J9_floorDiv_7cf53_2 : decode prog_21_method_47_code 2 = .ok (.idiv, 1) := by decide +kernel
theorem d_J9_floorDiv_7cf53_3 : decode prog_21_method_47_code 3 = .ok (.istore_n 2, 1) := by decide +kernel
theorem d_J9_floorDiv_7cf53_4 : decode prog_21_method_47_code 4 = .ok (.iload_n 0, 1) := by decide +kernel
theorem d_J9_floorDiv_7cf53_5 : decode prog_21_method_47_code 5 = .ok (.iload_n 1, 1) := by decide +kernel
theorem d_J9_floorDiv_7cf53_6 : decode prog_21_method_47_code 6 = .ok (.ixor, 1) := by decide +kernel
theorem d_J9_floorDiv_7cf53_7 : decode prog_21_method_47_code 7 = .ok (.ifCond .ge 14, 3) := by decide +kernel
theorem d_J9_floorDiv_7cf53_10 : decode prog_21_method_47_code 10 = .ok (.iload_n 2, 1) := by decide +kernel
theorem d_J9_floorDiv_7cf53_11 : decode prog_21_method_47_code 11 = .ok (.iload_n 1, 1) := by decide +kernel
theorem d_J9_floorDiv_7cf53_12 : decode prog_21_method_47_code 12 = .ok (.imul, 1) := by decide +kernel
theorem d_J9_floorDiv_7cf53_13 : decode prog_21_method_47_code 13 = .ok (.iload_n 0, 1) := by decide +kernel
theorem d_J9_floorDiv_7cf53_14 : decode prog_21_method_47_code 14 = .ok (.if_icmp .eq 7, 3) := by decide +kernel
theorem d_J9_floorDiv_7cf53_17 : decode prog_21_method_47_code 17 = .ok (.iload_n 2, 1) := by decide +kernel
theorem d_J9_floorDiv_7cf53_18 : decode prog_21_method_47_code 18 = .ok (.iconst 1, 1) := by decide +kernel
theorem d_J9_floorDiv_7cf53_19 : decode prog_21_method_47_code 19 = .ok (.isub, 1) := by decide +kernel
theorem d_J9_floorDiv_7cf53_20 : decode prog_21_method_47_code 20 = .ok (.ireturn, 1) := by decide +kernel
theorem d_J9_floorDiv_7cf53_21 : decode prog_21_method_47_code 21 = .ok (.iload_n 2, 1) := by decide +kernel
theorem d_J9_floorDiv_7cf53_22 : decode prog_21_method_47_code 22 = .ok (.ireturn, 1) := by decide +kernel
abbrev Y_J9_floorMod_7cf53 : Yx := (⟨"java/lang/Math", "floorMod", "(II)I"⟩, prog_21_method_50_code, 3, (some .int))
abbrev M_J9_floorMod_7cf53 : Mx := ("java/lang/Math", prog_21_method_50_code, 3, false)
theorem yk_J9_floorMod_7cf53 : Yk Y_J9_floorMod_7cf53 2 := ⟨by decide +kernel, by decide +kernel, ⟨by decide, by decide⟩, by decide +kernel, by decide, trivial⟩
theorem d_J9_floorMod_7cf53_0 : decode prog_21_method_50_code 0 = .ok (.iload_n 0, 1) := by decide +kernel
theorem d_J9_floorMod_7cf53_1 : decode prog_21_method_50_code 1 = .ok (.iload_n 1, 1) := by decide +kernel
theorem d_J9_floorMod_7cf53_2 : decode prog_21_method_50_code 2 = .ok (.irem, 1) := by decide +kernel
theorem d_J9_floorMod_7cf53_3 : decode prog_21_method_50_code 3 = .ok (.istore_n 2, 1) := by decide +kernel
theorem d_J9_floorMod_7cf53_4 : decode prog_21_method_50_code 4 = .ok (.iload_n 0, 1) := by decide +kernel
theorem d_J9_floorMod_7cf53_5 : decode prog_21_method_50_code 5 = .ok (.iload_n 1, 1) := by decide +kernel
theorem d_J9_floorMod_7cf53_6 : decode prog_21_method_50_code 6 = .ok (.ixor, 1) := by decide +kernel
theorem d_J9_floorMod_7cf53_7 : decode prog_21_method_50_code 7 = .ok (.ifCond .ge 11, 3) := by decide +kernel
theorem d_J9_floorMod_7cf53_10 : decode prog_21_method_50_code 10 = .ok (.iload_n 2, 1) := by decide +kernel
theorem d_J9_floorMod_7cf53_11 : decode prog_21_method_50_code 11 = .ok (.ifCond .eq 7, 3) := by decide +kernel
theorem d_J9_floorMod_7cf53_14 : decode prog_21_method_50_code 14 = .ok (.iload_n 2, 1) := by decide +kernel
theorem d_J9_floorMod_7cf53_15 : decode prog_21_method_50_code 15 = .ok (.iload_n 1, 1) := by decide +kernel
theorem d_J9_floorMod_7cf53_16 : decode prog_21_method_50_code 16 = .ok (.iadd, 1) := by decide +kernel
theorem d_J9_floorMod_7cf53_17 : decode prog_21_method_50_code 17 = .ok (.ireturn, 1) := by decide +kernel
theorem d_J9_floorMod_7cf53_18 : decode prog_21_method_50_code 18 = .ok (.iload_n 2, 1) := by decide +kernel
theorem d_J9_floorMod_7cf53_19 : decode prog_21_method_50_code 19 = .ok (.ireturn, 1) := by decide +kernel
abbrev Y_J3_checkIndex_8e157 : Yx := (⟨"jdk/internal/util/Preconditions", "checkIndex", "(IILjava/util/function/BiFunction;)I"⟩, prog_37_method_11_code, 3, (some .int))
abbrev M_J3_checkIndex_8e157 : Mx := ("jdk/internal/util/Preconditions", prog_37_method_11_code, 3, false)
theorem yk_J3_checkIndex_8e157 : Yk Y_J3_checkIndex_8e157 3 := ⟨by decide +kernel, by decide +kernel, ⟨by decide, by decide⟩, by decide +kernel, by decide, trivial⟩
theorem d_J3_checkIndex_8e157_0 : decode prog_37_method_11_code 0 = .ok (.iload_n 0, 1) := by decide +kernel
theorem d_J3_checkIndex_8e157_1 : decode prog_37_method_11_code 1 = .ok (.ifCond .lt 8, 3) := by decide +kernel
theorem d_J3_checkIndex_8e157_4 : decode prog_37_method_11_code 4 = .ok (.iload_n 0, 1) := by decide +kernel
theorem d_J3_checkIndex_8e157_5 : decode prog_37_method_11_code 5 = .ok (.iload_n 1, 1) := by decide +kernel
theorem d_J3_checkIndex_8e157_6 : decode prog_37_method_11_code 6 = .ok (.if_icmp .lt 10, 3) := by decide +kernel
theorem d_J3_checkIndex_8e157_9 : decode prog_37_method_11_code 9 = .ok (.aload_n 2, 1) := by decide +kernel
theorem d_J3_checkIndex_8e157_10 : decode prog_37_method_11_code 10 = .ok (.iload_n 0, 1) := by decide +kernel
theorem d_J3_checkIndex_8e157_11 : decode prog_37_method_11_code 11 = .ok (.iload_n 1, 1) := by decide +kernel
theorem d_J3_checkIndex_8e157_12 : decode prog_37_method_11_code 12 = .ok (.invokestatic 95, 3) := by decide +kernel
theorem d_J3_checkIndex_8e157_15 : decode prog_37_method_11_code 15 = .ok (.athrow, 1) := by decide +kernel
theorem d_J3_checkIndex_8e157_16 : decode prog_37_method_11_code 16 = .ok (.iload_n 0, 1) := by decide +kernel
theorem d_J3_checkIndex_8e157_17 : decode prog_37_method_11_code 17 = .ok (.ireturn, 1) := by decide +kernel
abbrev Y_J15_checkIndex_7cf53 : Yx := (⟨"java/util/Objects", "checkIndex", "(II)I"⟩, prog_33_method_17_code, 2, (some .int))
abbrev M_J15_checkIndex_7cf53 : Mx := ("java/util/Objects", prog_33_method_17_code, 2, false)
theorem yk_J15_checkIndex_7cf53 : Yk Y_J15_checkIndex_7cf53 2 := ⟨by decide +kernel, by decide +kernel, ⟨by decide, by decide⟩, by decide +kernel, by decide, trivial⟩
theorem d_J15_checkIndex_7cf53_0 : decode prog_33_method_17_code 0 = .ok (.iload_n 0, 1) := by decide +kernel
theorem d_J15_checkIndex_7cf53_1 : decode prog_33_method_17_code 1 = .ok (.iload_n 1, 1) := by decide +kernel
theorem d_J15_checkIndex_7cf53_2 : decode prog_33_method_17_code 2 = .ok (.aconst_null, 1) := by decide +kernel
theorem d_J15_checkIndex_7cf53_3 : decode prog_33_method_17_code 3 = .ok (.invokestatic 105, 3) := by decide +kernel
theorem d_J15_checkIndex_7cf53_6 : decode prog_33_method_17_code 6 = .ok (.ireturn, 1) := by decide +kernel
abbrev Y_Jx4a65c_elementData_915e3 : Yx := (⟨"java/util/ArrayList", "elementData", "(I)Ljava/lang/Object;"⟩, prog_28_method_18_code, 2, (some (.object "java/lang/Object")))
abbrev M_Jx4a65c_elementData_915e3 : Mx := ("java/util/ArrayList", prog_28_method_18_code, 2, false)
theorem yk_Jx4a65c_elementData_915e3 : Yk Y_Jx4a65c_elementData_915e3 1 := ⟨by decide +kernel, by decide +kernel, ⟨by decide, by decide⟩, by decide +kernel, by decide, trivial⟩
theorem d_Jx4a65c_elementData_915e3_0 : decode prog_28_method_18_code 0 = .ok (.aload_n 0, 1) := by decide +kernel
theorem d_Jx4a65c_elementData_915e3_1 : decode prog_28_method_18_code 1 = .ok (.getfield 9, 3) := by decide +kernel
theorem d_Jx4a65c_elementData_915e3_4 : decode prog_28_method_18_code 4 = .ok (.iload_n 1, 1) := by decide +kernel
theorem d_Jx4a65c_elementData_915e3_5 : decode prog_28_method_18_code 5 = .ok (.aaload, 1) := by decide +kernel
theorem d_Jx4a65c_elementData_915e3_6 : decode prog_28_method_18_code 6 = .ok (.areturn, 1) := by decide +kernel
abbrev Y_Jx4a65c_get_915e3 : Yx := (⟨"java/util/ArrayList", "get", "(I)Ljava/lang/Object;"⟩, prog_28_method_20_code, 2, (some (.object "java/lang/Object")))
abbrev M_Jx4a65c_get_915e3 : Mx := ("java/util/ArrayList", prog_28_method_20_code, 2, false)
theorem yk_Jx4a65c_get_915e3 : Yk Y_Jx4a65c_get_915e3 1 := ⟨by decide +kernel, by decide +kernel, ⟨by decide, by decide⟩, by decide +kernel, by decide, trivial⟩
theorem d_Jx4a65c_get_915e3_0 : decode prog_28_method_20_code 0 = .ok (.iload_n 1, 1) := by decide +kernel
theorem d_Jx4a65c_get_915e3_1 : decode prog_28_method_20_code 1 = .ok (.aload_n 0, 1) := by decide +kernel
theorem d_Jx4a65c_get_915e3_2 : decode prog_28_method_20_code 2 = .ok (.getfield 48, 3) := by decide +kernel
theorem d_Jx4a65c_get_915e3_5 : decode prog_28_method_20_code 5 = .ok (.invokestatic 118, 3) := by decide +kernel
theorem d_Jx4a65c_get_915e3_8 : decode prog_28_method_20_code 8 = .ok (.pop, 1) := by decide +kernel
theorem d_Jx4a65c_get_915e3_9 : decode prog_28_method_20_code 9 = .ok (.aload_n 0, 1) := by decide +kernel
theorem d_Jx4a65c_get_915e3_10 : decode prog_28_method_20_code 10 = .ok (.iload_n 1, 1) := by decide +kernel
theorem d_Jx4a65c_get_915e3_11 : decode prog_28_method_20_code 11 = .ok (.invokevirtual 123, 3) := by decide +kernel
theorem d_Jx4a65c_get_915e3_14 : decode prog_28_method_20_code 14 = .ok (.areturn, 1) := by decide +kernel
abbrev Y_X9_open : Yx := (⟨"TaskWeave$Workflow", "open", "(LTaskWeave$Program;III)V"⟩, prog_11_method_2_code, 5, none)
abbrev M_X9_open : Mx := ("TaskWeave$Workflow", prog_11_method_2_code, 5, false)
theorem yk_X9_open : Yk Y_X9_open 4 := ⟨by decide +kernel, by decide +kernel, ⟨by decide, by decide⟩, by decide +kernel, by decide, trivial⟩
theorem d_X9_open_0 : decode prog_11_method_2_code 0 = .ok (.aload_n 0, 1) := by decide +kernel
theorem d_X9_open_1 : decode prog_11_method_2_code 1 = .ok (.aload_n 1, 1) := by decide +kernel
theorem d_X9_open_2 : decode prog_11_method_2_code 2 = .ok (.putfield 33, 3) := by decide +kernel
theorem d_X9_open_5 : decode prog_11_method_2_code 5 = .ok (.aload_n 0, 1) := by decide +kernel
theorem d_X9_open_6 : decode prog_11_method_2_code 6 = .ok (.getfield 18, 3) := by decide +kernel
theorem d_X9_open_9 : decode prog_11_method_2_code 9 = .ok (.iconst 0, 1) := by decide +kernel
theorem d_X9_open_10 : decode prog_11_method_2_code 10 = .ok (.putfield 37, 3) := by decide +kernel
theorem d_X9_open_13 : decode prog_11_method_2_code 13 = .ok (.aload_n 0, 1) := by decide +kernel
theorem d_X9_open_14 : decode prog_11_method_2_code 14 = .ok (.getfield 18, 3) := by decide +kernel
theorem d_X9_open_17 : decode prog_11_method_2_code 17 = .ok (.iconst 0, 1) := by decide +kernel
theorem d_X9_open_18 : decode prog_11_method_2_code 18 = .ok (.iload_n 2, 1) := by decide +kernel
theorem d_X9_open_19 : decode prog_11_method_2_code 19 = .ok (.iload_n 3, 1) := by decide +kernel
theorem d_X9_open_20 : decode prog_11_method_2_code 20 = .ok (.iload 4, 2) := by decide +kernel
theorem d_X9_open_22 : decode prog_11_method_2_code 22 = .ok (.invokevirtual 40, 3) := by decide +kernel
theorem d_X9_open_25 : decode prog_11_method_2_code 25 = .ok (.aload_n 0, 1) := by decide +kernel
theorem d_X9_open_26 : decode prog_11_method_2_code 26 = .ok (.getfield 9, 3) := by decide +kernel
theorem d_X9_open_29 : decode prog_11_method_2_code 29 = .ok (.iconst 0, 1) := by decide +kernel
theorem d_X9_open_30 : decode prog_11_method_2_code 30 = .ok (.invokestatic 44, 3) := by decide +kernel
theorem d_X9_open_33 : decode prog_11_method_2_code 33 = .ok (.aload_n 0, 1) := by decide +kernel
theorem d_X9_open_34 : decode prog_11_method_2_code 34 = .ok (.getfield 9, 3) := by decide +kernel
theorem d_X9_open_37 : decode prog_11_method_2_code 37 = .ok (.iconst 0, 1) := by decide +kernel
theorem d_X9_open_38 : decode prog_11_method_2_code 38 = .ok (.iload_n 3, 1) := by decide +kernel
theorem d_X9_open_39 : decode prog_11_method_2_code 39 = .ok (.iastore, 1) := by decide +kernel
theorem d_X9_open_40 : decode prog_11_method_2_code 40 = .ok (.aload_n 0, 1) := by decide +kernel
theorem d_X9_open_41 : decode prog_11_method_2_code 41 = .ok (.getfield 25, 3) := by decide +kernel
theorem d_X9_open_44 : decode prog_11_method_2_code 44 = .ok (.iconst 0, 1) := by decide +kernel
theorem d_X9_open_45 : decode prog_11_method_2_code 45 = .ok (.putfield 50, 3) := by decide +kernel
theorem d_X9_open_48 : decode prog_11_method_2_code 48 = .ok (.aload_n 0, 1) := by decide +kernel
theorem d_X9_open_49 : decode prog_11_method_2_code 49 = .ok (.iconst 0, 1) := by decide +kernel
theorem d_X9_open_50 : decode prog_11_method_2_code 50 = .ok (.putfield 53, 3) := by decide +kernel
theorem d_X9_open_53 : decode prog_11_method_2_code 53 = .ok (.aload_n 0, 1) := by decide +kernel
theorem d_X9_open_54 : decode prog_11_method_2_code 54 = .ok (.iconst 0, 1) := by decide +kernel
theorem d_X9_open_55 : decode prog_11_method_2_code 55 = .ok (.putfield 56, 3) := by decide +kernel
theorem d_X9_open_58 : decode prog_11_method_2_code 58 = .ok (.aload_n 0, 1) := by decide +kernel
theorem d_X9_open_59 : decode prog_11_method_2_code 59 = .ok (.iconst 5, 1) := by decide +kernel
theorem d_X9_open_60 : decode prog_11_method_2_code 60 = .ok (.putfield 59, 3) := by decide +kernel
theorem d_X9_open_63 : decode prog_11_method_2_code 63 = .ok (.aload_n 0, 1) := by decide +kernel
theorem d_X9_open_64 : decode prog_11_method_2_code 64 = .ok (.iconst 0, 1) := by decide +kernel
theorem d_X9_open_65 : decode prog_11_method_2_code 65 = .ok (.putfield 62, 3) := by decide +kernel
theorem d_X9_open_68 : decode prog_11_method_2_code 68 = .ok (.aload_n 0, 1) := by decide +kernel
theorem d_X9_open_69 : decode prog_11_method_2_code 69 = .ok (.iconst 0, 1) := by decide +kernel
theorem d_X9_open_70 : decode prog_11_method_2_code 70 = .ok (.putfield 65, 3) := by decide +kernel
theorem d_X9_open_73 : decode prog_11_method_2_code 73 = .ok (.aload_n 0, 1) := by decide +kernel
theorem d_X9_open_74 : decode prog_11_method_2_code 74 = .ok (.iconst 0, 1) := by decide +kernel
theorem d_X9_open_75 : decode prog_11_method_2_code 75 = .ok (.putfield 68, 3) := by decide +kernel
theorem d_X9_open_78 : decode prog_11_method_2_code 78 = .ok (.return_, 1) := by decide +kernel
abbrev Y_X6_openRow : Yx := (⟨"TaskWeave$Shard", "openRow", "(IIII)V"⟩, prog_8_method_15_code, 7, none)
abbrev M_X6_openRow : Mx := ("TaskWeave$Shard", prog_8_method_15_code, 7, false)
theorem yk_X6_openRow : Yk Y_X6_openRow 4 := ⟨by decide +kernel, by decide +kernel, ⟨by decide, by decide⟩, by decide +kernel, by decide, trivial⟩
theorem d_X6_openRow_0 : decode prog_8_method_15_code 0 = .ok (.aload_n 0, 1) := by decide +kernel
theorem d_X6_openRow_1 : decode prog_8_method_15_code 1 = .ok (.getfield 45, 3) := by decide +kernel
theorem d_X6_openRow_4 : decode prog_8_method_15_code 4 = .ok (.iload_n 2, 1) := by decide +kernel
theorem d_X6_openRow_5 : decode prog_8_method_15_code 5 = .ok (.bipush 8, 2) := by decide +kernel
theorem d_X6_openRow_7 : decode prog_8_method_15_code 7 = .ok (.invokestatic 168, 3) := by decide +kernel
theorem d_X6_openRow_10 : decode prog_8_method_15_code 10 = .ok (.aaload, 1) := by decide +kernel
theorem d_X6_openRow_11 : decode prog_8_method_15_code 11 = .ok (.getfield 70, 3) := by decide +kernel
theorem d_X6_openRow_14 : decode prog_8_method_15_code 14 = .ok (.astore 5, 2) := by decide +kernel
theorem d_X6_openRow_16 : decode prog_8_method_15_code 16 = .ok (.iload_n 2, 1) := by decide +kernel
theorem d_X6_openRow_17 : decode prog_8_method_15_code 17 = .ok (.bipush 8, 2) := by decide +kernel
theorem d_X6_openRow_19 : decode prog_8_method_15_code 19 = .ok (.invokestatic 174, 3) := by decide +kernel
theorem d_X6_openRow_22 : decode prog_8_method_15_code 22 = .ok (.istore 6, 2) := by decide +kernel
theorem d_X6_openRow_24 : decode prog_8_method_15_code 24 = .ok (.iload 6, 2) := by decide +kernel
theorem d_X6_openRow_26 : decode prog_8_method_15_code 26 = .ok (.ifCond .lt 43, 3) := by decide +kernel
theorem d_X6_openRow_29 : decode prog_8_method_15_code 29 = .ok (.iload 6, 2) := by decide +kernel
theorem d_X6_openRow_31 : decode prog_8_method_15_code 31 = .ok (.aload 5, 2) := by decide +kernel
theorem d_X6_openRow_33 : decode prog_8_method_15_code 33 = .ok (.invokevirtual 162, 3) := by decide +kernel
theorem d_X6_openRow_36 : decode prog_8_method_15_code 36 = .ok (.if_icmp .ge 33, 3) := by decide +kernel
theorem d_X6_openRow_39 : decode prog_8_method_15_code 39 = .ok (.aload_n 0, 1) := by decide +kernel
theorem d_X6_openRow_40 : decode prog_8_method_15_code 40 = .ok (.getfield 19, 3) := by decide +kernel
theorem d_X6_openRow_43 : decode prog_8_method_15_code 43 = .ok (.iload_n 1, 1) := by decide +kernel
theorem d_X6_openRow_44 : decode prog_8_method_15_code 44 = .ok (.aaload, 1) := by decide +kernel
theorem d_X6_openRow_45 : decode prog_8_method_15_code 45 = .ok (.aload 5, 2) := by decide +kernel
theorem d_X6_openRow_47 : decode prog_8_method_15_code 47 = .ok (.iload 6, 2) := by decide +kernel
theorem d_X6_openRow_49 : decode prog_8_method_15_code 49 = .ok (.invokevirtual 177, 3) := by decide +kernel
theorem d_X6_openRow_52 : decode prog_8_method_15_code 52 = .ok (.checkcast 181, 3) := by decide +kernel
theorem d_X6_openRow_55 : decode prog_8_method_15_code 55 = .ok (.iload_n 2, 1) := by decide +kernel
theorem d_X6_openRow_56 : decode prog_8_method_15_code 56 = .ok (.iload_n 3, 1) := by decide +kernel
theorem d_X6_openRow_57 : decode prog_8_method_15_code 57 = .ok (.iload 4, 2) := by decide +kernel
theorem d_X6_openRow_59 : decode prog_8_method_15_code 59 = .ok (.invokevirtual 183, 3) := by decide +kernel
theorem d_X6_openRow_62 : decode prog_8_method_15_code 62 = .ok (.aload_n 0, 1) := by decide +kernel
theorem d_X6_openRow_63 : decode prog_8_method_15_code 63 = .ok (.iload_n 1, 1) := by decide +kernel
theorem d_X6_openRow_64 : decode prog_8_method_15_code 64 = .ok (.iconst 1, 1) := by decide +kernel
theorem d_X6_openRow_65 : decode prog_8_method_15_code 65 = .ok (.iadd, 1) := by decide +kernel
theorem d_X6_openRow_66 : decode prog_8_method_15_code 66 = .ok (.putfield 56, 3) := by decide +kernel
theorem d_X6_openRow_69 : decode prog_8_method_15_code 69 = .ok (.return_, 1) := by decide +kernel
abbrev Y_X6_begin : Yx := (⟨"TaskWeave$Shard", "begin", "(III)Z"⟩, prog_8_method_14_code, 6, (some .boolean))
abbrev M_X6_begin : Mx := ("TaskWeave$Shard", prog_8_method_14_code, 6, false)
theorem yk_X6_begin : Yk Y_X6_begin 3 := ⟨by decide +kernel, by decide +kernel, ⟨by decide, by decide⟩, by decide +kernel, by decide, trivial⟩
theorem d_X6_begin_0 : decode prog_8_method_14_code 0 = .ok (.aload_n 0, 1) := by decide +kernel
theorem d_X6_begin_1 : decode prog_8_method_14_code 1 = .ok (.getfield 56, 3) := by decide +kernel
theorem d_X6_begin_4 : decode prog_8_method_14_code 4 = .ok (.istore 4, 2) := by decide +kernel
theorem d_X6_begin_6 : decode prog_8_method_14_code 6 = .ok (.iload_n 1, 1) := by decide +kernel
theorem d_X6_begin_7 : decode prog_8_method_14_code 7 = .ok (.bipush 8, 2) := by decide +kernel
theorem d_X6_begin_9 : decode prog_8_method_14_code 9 = .ok (.aload_n 0, 1) := by decide +kernel
theorem d_X6_begin_10 : decode prog_8_method_14_code 10 = .ok (.getfield 45, 3) := by decide +kernel
theorem d_X6_begin_13 : decode prog_8_method_14_code 13 = .ok (.iload_n 1, 1) := by decide +kernel
theorem d_X6_begin_14 : decode prog_8_method_14_code 14 = .ok (.aaload, 1) := by decide +kernel
theorem d_X6_begin_15 : decode prog_8_method_14_code 15 = .ok (.getfield 70, 3) := by decide +kernel
theorem d_X6_begin_18 : decode prog_8_method_14_code 18 = .ok (.invokevirtual 162, 3) := by decide +kernel
theorem d_X6_begin_21 : decode prog_8_method_14_code 21 = .ok (.iconst 1, 1) := by decide +kernel
theorem d_X6_begin_22 : decode prog_8_method_14_code 22 = .ok (.isub, 1) := by decide +kernel
theorem d_X6_begin_23 : decode prog_8_method_14_code 23 = .ok (.imul, 1) := by decide +kernel
theorem d_X6_begin_24 : decode prog_8_method_14_code 24 = .ok (.iadd, 1) := by decide +kernel
theorem d_X6_begin_25 : decode prog_8_method_14_code 25 = .ok (.istore 5, 2) := by decide +kernel
theorem d_X6_begin_27 : decode prog_8_method_14_code 27 = .ok (.aload_n 0, 1) := by decide +kernel
theorem d_X6_begin_28 : decode prog_8_method_14_code 28 = .ok (.iconst 0, 1) := by decide +kernel
theorem d_X6_begin_29 : decode prog_8_method_14_code 29 = .ok (.iload 4, 2) := by decide +kernel
theorem d_X6_begin_31 : decode prog_8_method_14_code 31 = .ok (.iload 5, 2) := by decide +kernel
theorem d_X6_begin_33 : decode prog_8_method_14_code 33 = .ok (.iload_n 2, 1) := by decide +kernel
theorem d_X6_begin_34 : decode prog_8_method_14_code 34 = .ok (.iload_n 3, 1) := by decide +kernel
theorem d_X6_begin_35 : decode prog_8_method_14_code 35 = .ok (.invokevirtual 123, 3) := by decide +kernel
theorem d_X6_begin_38 : decode prog_8_method_14_code 38 = .ok (.ifCond .ne 5, 3) := by decide +kernel
theorem d_X6_begin_41 : decode prog_8_method_14_code 41 = .ok (.iconst 0, 1) := by decide +kernel
theorem d_X6_begin_42 : decode prog_8_method_14_code 42 = .ok (.ireturn, 1) := by decide +kernel
theorem d_X6_begin_43 : decode prog_8_method_14_code 43 = .ok (.aload_n 0, 1) := by decide +kernel
theorem d_X6_begin_44 : decode prog_8_method_14_code 44 = .ok (.iload 4, 2) := by decide +kernel
theorem d_X6_begin_46 : decode prog_8_method_14_code 46 = .ok (.iload 5, 2) := by decide +kernel
theorem d_X6_begin_48 : decode prog_8_method_14_code 48 = .ok (.iload_n 2, 1) := by decide +kernel
theorem d_X6_begin_49 : decode prog_8_method_14_code 49 = .ok (.iload_n 3, 1) := by decide +kernel
theorem d_X6_begin_50 : decode prog_8_method_14_code 50 = .ok (.invokevirtual 164, 3) := by decide +kernel
theorem d_X6_begin_53 : decode prog_8_method_14_code 53 = .ok (.aload_n 0, 1) := by decide +kernel
theorem d_X6_begin_54 : decode prog_8_method_14_code 54 = .ok (.aload_n 0, 1) := by decide +kernel
theorem d_X6_begin_55 : decode prog_8_method_14_code 55 = .ok (.getfield 19, 3) := by decide +kernel
theorem d_X6_begin_58 : decode prog_8_method_14_code 58 = .ok (.iload 4, 2) := by decide +kernel
theorem d_X6_begin_60 : decode prog_8_method_14_code 60 = .ok (.aaload, 1) := by decide +kernel
theorem d_X6_begin_61 : decode prog_8_method_14_code 61 = .ok (.invokevirtual 158, 3) := by decide +kernel
theorem d_X6_begin_64 : decode prog_8_method_14_code 64 = .ok (.iconst 1, 1) := by decide +kernel
theorem d_X6_begin_65 : decode prog_8_method_14_code 65 = .ok (.ireturn, 1) := by decide +kernel
abbrev Y_X8_ready : Yx := (⟨"TaskWeave$Task", "ready", "(II)V"⟩, prog_10_method_3_code, 3, none)
abbrev M_X8_ready : Mx := ("TaskWeave$Task", prog_10_method_3_code, 3, false)
theorem yk_X8_ready : Yk Y_X8_ready 2 := ⟨by decide +kernel, by decide +kernel, ⟨by decide, by decide⟩, by decide +kernel, by decide, trivial⟩
theorem d_X8_ready_0 : decode prog_10_method_3_code 0 = .ok (.aload_n 0, 1) := by decide +kernel
theorem d_X8_ready_1 : decode prog_10_method_3_code 1 = .ok (.iload_n 1, 1) := by decide +kernel
theorem d_X8_ready_2 : decode prog_10_method_3_code 2 = .ok (.putfield 16, 3) := by decide +kernel
theorem d_X8_ready_5 : decode prog_10_method_3_code 5 = .ok (.aload_n 0, 1) := by decide +kernel
theorem d_X8_ready_6 : decode prog_10_method_3_code 6 = .ok (.iload_n 2, 1) := by decide +kernel
theorem d_X8_ready_7 : decode prog_10_method_3_code 7 = .ok (.putfield 19, 3) := by decide +kernel
theorem d_X8_ready_10 : decode prog_10_method_3_code 10 = .ok (.aload_n 0, 1) := by decide +kernel
theorem d_X8_ready_11 : decode prog_10_method_3_code 11 = .ok (.iconst 0, 1) := by decide +kernel
theorem d_X8_ready_12 : decode prog_10_method_3_code 12 = .ok (.putfield 22, 3) := by decide +kernel
theorem d_X8_ready_15 : decode prog_10_method_3_code 15 = .ok (.return_, 1) := by decide +kernel
abbrev Y_X6_failTask : Yx := (⟨"TaskWeave$Shard", "failTask", "(LTaskWeave$Workflow;)Z"⟩, prog_8_method_16_code, 4, (some .boolean))
abbrev M_X6_failTask : Mx := ("TaskWeave$Shard", prog_8_method_16_code, 4, false)
theorem yk_X6_failTask : Yk Y_X6_failTask 1 := ⟨by decide +kernel, by decide +kernel, ⟨by decide, by decide⟩, by decide +kernel, by decide, trivial⟩
theorem d_X6_failTask_0 : decode prog_8_method_16_code 0 = .ok (.aload_n 1, 1) := by decide +kernel
theorem d_X6_failTask_1 : decode prog_8_method_16_code 1 = .ok (.getfield 85, 3) := by decide +kernel
theorem d_X6_failTask_4 : decode prog_8_method_16_code 4 = .ok (.getfield 187, 3) := by decide +kernel
theorem d_X6_failTask_7 : decode prog_8_method_16_code 7 = .ok (.iconst 1, 1) := by decide +kernel
theorem d_X6_failTask_8 : decode prog_8_method_16_code 8 = .ok (.iadd, 1) := by decide +kernel
theorem d_X6_failTask_9 : decode prog_8_method_16_code 9 = .ok (.istore_n 2, 1) := by decide +kernel
theorem d_X6_failTask_10 : decode prog_8_method_16_code 10 = .ok (.iload_n 2, 1) := by decide +kernel
theorem d_X6_failTask_11 : decode prog_8_method_16_code 11 = .ok (.iconst 5, 1) := by decide +kernel
theorem d_X6_failTask_12 : decode prog_8_method_16_code 12 = .ok (.if_icmp .lt 13, 3) := by decide +kernel
theorem d_X6_failTask_15 : decode prog_8_method_16_code 15 = .ok (.aload_n 0, 1) := by decide +kernel
theorem d_X6_failTask_16 : decode prog_8_method_16_code 16 = .ok (.aload_n 1, 1) := by decide +kernel
theorem d_X6_failTask_17 : decode prog_8_method_16_code 17 = .ok (.iconst 3, 1) := by decide +kernel
theorem d_X6_failTask_18 : decode prog_8_method_16_code 18 = .ok (.iconst (-1), 1) := by decide +kernel
theorem d_X6_failTask_19 : decode prog_8_method_16_code 19 = .ok (.iconst 0, 1) := by decide +kernel
theorem d_X6_failTask_20 : decode prog_8_method_16_code 20 = .ok (.iconst 0, 1) := by decide +kernel
theorem d_X6_failTask_21 : decode prog_8_method_16_code 21 = .ok (.invokevirtual 190, 3) := by decide +kernel
theorem d_X6_failTask_24 : decode prog_8_method_16_code 24 = .ok (.ireturn, 1) := by decide +kernel
theorem d_X6_failTask_25 : decode prog_8_method_16_code 25 = .ok (.aload_n 0, 1) := by decide +kernel
theorem d_X6_failTask_26 : decode prog_8_method_16_code 26 = .ok (.getfield 41, 3) := by decide +kernel
theorem d_X6_failTask_29 : decode prog_8_method_16_code 29 = .ok (.getfield 127, 3) := by decide +kernel
theorem d_X6_failTask_32 : decode prog_8_method_16_code 32 = .ok (.iconst 1, 1) := by decide +kernel
theorem d_X6_failTask_33 : decode prog_8_method_16_code 33 = .ok (.iload_n 2, 1) := by decide +kernel
theorem d_X6_failTask_34 : decode prog_8_method_16_code 34 = .ok (.iconst 1, 1) := by decide +kernel
theorem d_X6_failTask_35 : decode prog_8_method_16_code 35 = .ok (.isub, 1) := by decide +kernel
theorem d_X6_failTask_36 : decode prog_8_method_16_code 36 = .ok (.ishl, 1) := by decide +kernel
theorem d_X6_failTask_37 : decode prog_8_method_16_code 37 = .ok (.iadd, 1) := by decide +kernel
theorem d_X6_failTask_38 : decode prog_8_method_16_code 38 = .ok (.istore_n 3, 1) := by decide +kernel
theorem d_X6_failTask_39 : decode prog_8_method_16_code 39 = .ok (.aload_n 0, 1) := by decide +kernel
theorem d_X6_failTask_40 : decode prog_8_method_16_code 40 = .ok (.bipush 15, 2) := by decide +kernel
theorem d_X6_failTask_42 : decode prog_8_method_16_code 42 = .ok (.aload_n 1, 1) := by decide +kernel
theorem d_X6_failTask_43 : decode prog_8_method_16_code 43 = .ok (.getfield 120, 3) := by decide +kernel
theorem d_X6_failTask_46 : decode prog_8_method_16_code 46 = .ok (.iconst 4, 1) := by decide +kernel
theorem d_X6_failTask_47 : decode prog_8_method_16_code 47 = .ok (.idiv, 1) := by decide +kernel
theorem d_X6_failTask_48 : decode prog_8_method_16_code 48 = .ok (.iload_n 2, 1) := by decide +kernel
theorem d_X6_failTask_49 : decode prog_8_method_16_code 49 = .ok (.iload_n 3, 1) := by decide +kernel
theorem d_X6_failTask_50 : decode prog_8_method_16_code 50 = .ok (.iconst 0, 1) := by decide +kernel
theorem d_X6_failTask_51 : decode prog_8_method_16_code 51 = .ok (.invokevirtual 123, 3) := by decide +kernel
theorem d_X6_failTask_54 : decode prog_8_method_16_code 54 = .ok (.ifCond .ne 5, 3) := by decide +kernel
theorem d_X6_failTask_57 : decode prog_8_method_16_code 57 = .ok (.iconst 0, 1) := by decide +kernel
theorem d_X6_failTask_58 : decode prog_8_method_16_code 58 = .ok (.ireturn, 1) := by decide +kernel
theorem d_X6_failTask_59 : decode prog_8_method_16_code 59 = .ok (.aload_n 1, 1) := by decide +kernel
theorem d_X6_failTask_60 : decode prog_8_method_16_code 60 = .ok (.getfield 85, 3) := by decide +kernel
theorem d_X6_failTask_63 : decode prog_8_method_16_code 63 = .ok (.iload_n 2, 1) := by decide +kernel
theorem d_X6_failTask_64 : decode prog_8_method_16_code 64 = .ok (.iload_n 3, 1) := by decide +kernel
theorem d_X6_failTask_65 : decode prog_8_method_16_code 65 = .ok (.invokevirtual 193, 3) := by decide +kernel
theorem d_X6_failTask_68 : decode prog_8_method_16_code 68 = .ok (.iconst 1, 1) := by decide +kernel
theorem d_X6_failTask_69 : decode prog_8_method_16_code 69 = .ok (.ireturn, 1) := by decide +kernel
abbrev Y_X6_forget : Yx := (⟨"TaskWeave$Shard", "forget", "(I)V"⟩, prog_8_method_17_code, 2, none)
abbrev M_X6_forget : Mx := ("TaskWeave$Shard", prog_8_method_17_code, 2, false)
theorem yk_X6_forget : Yk Y_X6_forget 1 := ⟨by decide +kernel, by decide +kernel, ⟨by decide, by decide⟩, by decide +kernel, by decide, trivial⟩
theorem d_X6_forget_0 : decode prog_8_method_17_code 0 = .ok (.aload_n 0, 1) := by decide +kernel
theorem d_X6_forget_1 : decode prog_8_method_17_code 1 = .ok (.bipush 14, 2) := by decide +kernel
theorem d_X6_forget_3 : decode prog_8_method_17_code 3 = .ok (.iconst 0, 1) := by decide +kernel
theorem d_X6_forget_4 : decode prog_8_method_17_code 4 = .ok (.iload_n 1, 1) := by decide +kernel
theorem d_X6_forget_5 : decode prog_8_method_17_code 5 = .ok (.iconst 0, 1) := by decide +kernel
theorem d_X6_forget_6 : decode prog_8_method_17_code 6 = .ok (.iconst 0, 1) := by decide +kernel
theorem d_X6_forget_7 : decode prog_8_method_17_code 7 = .ok (.invokevirtual 123, 3) := by decide +kernel
theorem d_X6_forget_10 : decode prog_8_method_17_code 10 = .ok (.ifCond .eq 11, 3) := by decide +kernel
theorem d_X6_forget_13 : decode prog_8_method_17_code 13 = .ok (.aload_n 0, 1) := by decide +kernel
theorem d_X6_forget_14 : decode prog_8_method_17_code 14 = .ok (.getfield 30, 3) := by decide +kernel
theorem d_X6_forget_17 : decode prog_8_method_17_code 17 = .ok (.iload_n 1, 1) := by decide +kernel
theorem d_X6_forget_18 : decode prog_8_method_17_code 18 = .ok (.invokevirtual 197, 3) := by decide +kernel
theorem d_X6_forget_21 : decode prog_8_method_17_code 21 = .ok (.return_, 1) := by decide +kernel
abbrev Y_X6_candidate : Yx := (⟨"TaskWeave$Shard", "candidate", "()I"⟩, prog_8_method_25_code, 3, (some .int))
abbrev M_X6_candidate : Mx := ("TaskWeave$Shard", prog_8_method_25_code, 3, false)
theorem yk_X6_candidate : Yk Y_X6_candidate 0 := ⟨by decide +kernel, by decide +kernel, ⟨by decide, by decide⟩, by decide +kernel, by decide, trivial⟩
theorem d_X6_candidate_0 : decode prog_8_method_25_code 0 = .ok (.iconst (-1), 1) := by decide +kernel
theorem d_X6_candidate_1 : decode prog_8_method_25_code 1 = .ok (.istore_n 1, 1) := by decide +kernel
theorem d_X6_candidate_2 : decode prog_8_method_25_code 2 = .ok (.iconst 0, 1) := by decide +kernel
theorem d_X6_candidate_3 : decode prog_8_method_25_code 3 = .ok (.istore_n 2, 1) := by decide +kernel
theorem d_X6_candidate_4 : decode prog_8_method_25_code 4 = .ok (.iload_n 2, 1) := by decide +kernel
theorem d_X6_candidate_5 : decode prog_8_method_25_code 5 = .ok (.aload_n 0, 1) := by decide +kernel
theorem d_X6_candidate_6 : decode prog_8_method_25_code 6 = .ok (.getfield 34, 3) := by decide +kernel
theorem d_X6_candidate_9 : decode prog_8_method_25_code 9 = .ok (.if_icmp .ge 46, 3) := by decide +kernel
theorem d_X6_candidate_12 : decode prog_8_method_25_code 12 = .ok (.aload_n 0, 1) := by decide +kernel
theorem d_X6_candidate_13 : decode prog_8_method_25_code 13 = .ok (.getfield 11, 3) := by decide +kernel
theorem d_X6_candidate_16 : decode prog_8_method_25_code 16 = .ok (.iload_n 2, 1) := by decide +kernel
theorem d_X6_candidate_17 : decode prog_8_method_25_code 17 = .ok (.aaload, 1) := by decide +kernel
theorem d_X6_candidate_18 : decode prog_8_method_25_code 18 = .ok (.getfield 94, 3) := by decide +kernel
theorem d_X6_candidate_21 : decode prog_8_method_25_code 21 = .ok (.ifCond .eq 28, 3) := by decide +kernel
theorem d_X6_candidate_24 : decode prog_8_method_25_code 24 = .ok (.iload_n 1, 1) := by decide +kernel
theorem d_X6_candidate_25 : decode prog_8_method_25_code 25 = .ok (.iconst (-1), 1) := by decide +kernel
theorem d_X6_candidate_26 : decode prog_8_method_25_code 26 = .ok (.if_icmp .eq 21, 3) := by decide +kernel
theorem d_X6_candidate_29 : decode prog_8_method_25_code 29 = .ok (.aload_n 0, 1) := by decide +kernel
theorem d_X6_candidate_30 : decode prog_8_method_25_code 30 = .ok (.getfield 11, 3) := by decide +kernel
theorem d_X6_candidate_33 : decode prog_8_method_25_code 33 = .ok (.iload_n 2, 1) := by decide +kernel
theorem d_X6_candidate_34 : decode prog_8_method_25_code 34 = .ok (.aaload, 1) := by decide +kernel
theorem d_X6_candidate_35 : decode prog_8_method_25_code 35 = .ok (.aload_n 0, 1) := by decide +kernel
theorem d_X6_candidate_36 : decode prog_8_method_25_code 36 = .ok (.getfield 11, 3) := by decide +kernel
theorem d_X6_candidate_39 : decode prog_8_method_25_code 39 = .ok (.iload_n 1, 1) := by decide +kernel
theorem d_X6_candidate_40 : decode prog_8_method_25_code 40 = .ok (.aaload, 1) := by decide +kernel
theorem d_X6_candidate_41 : decode prog_8_method_25_code 41 = .ok (.invokevirtual 244, 3) := by decide +kernel
theorem d_X6_candidate_44 : decode prog_8_method_25_code 44 = .ok (.ifCond .eq 5, 3) := by decide +kernel
theorem d_X6_candidate_47 : decode prog_8_method_25_code 47 = .ok (.iload_n 2, 1) := by decide +kernel
theorem d_X6_candidate_48 : decode prog_8_method_25_code 48 = .ok (.istore_n 1, 1) := by decide +kernel
theorem d_X6_candidate_49 : decode prog_8_method_25_code 49 = .ok (.iinc 2 1, 3) := by decide +kernel
theorem d_X6_candidate_52 : decode prog_8_method_25_code 52 = .ok (.goto (-48), 3) := by decide +kernel
theorem d_X6_candidate_55 : decode prog_8_method_25_code 55 = .ok (.iload_n 1, 1) := by decide +kernel
theorem d_X6_candidate_56 : decode prog_8_method_25_code 56 = .ok (.ireturn, 1) := by decide +kernel
abbrev Y_X6_makeAlike : Yx := (⟨"TaskWeave$Shard", "makeAlike", "(LTaskWeave$Replica;LTaskWeave$Replica;)V"⟩, prog_8_method_22_code, 5, none)
abbrev M_X6_makeAlike : Mx := ("TaskWeave$Shard", prog_8_method_22_code, 5, false)
theorem yk_X6_makeAlike : Yk Y_X6_makeAlike 2 := ⟨by decide +kernel, by decide +kernel, ⟨by decide, by decide⟩, by decide +kernel, by decide, trivial⟩
theorem d_X6_makeAlike_0 : decode prog_8_method_22_code 0 = .ok (.iconst 0, 1) := by decide +kernel
theorem d_X6_makeAlike_1 : decode prog_8_method_22_code 1 = .ok (.istore_n 3, 1) := by decide +kernel
theorem d_X6_makeAlike_2 : decode prog_8_method_22_code 2 = .ok (.aload_n 1, 1) := by decide +kernel
theorem d_X6_makeAlike_3 : decode prog_8_method_22_code 3 = .ok (.getfield 69, 3) := by decide +kernel
theorem d_X6_makeAlike_6 : decode prog_8_method_22_code 6 = .ok (.aload_n 2, 1) := by decide +kernel
theorem d_X6_makeAlike_7 : decode prog_8_method_22_code 7 = .ok (.getfield 69, 3) := by decide +kernel
theorem d_X6_makeAlike_10 : decode prog_8_method_22_code 10 = .ok (.invokestatic 224, 3) := by decide +kernel
theorem d_X6_makeAlike_13 : decode prog_8_method_22_code 13 = .ok (.bipush 16, 2) := by decide +kernel
theorem d_X6_makeAlike_15 : decode prog_8_method_22_code 15 = .ok (.idiv, 1) := by decide +kernel
theorem d_X6_makeAlike_16 : decode prog_8_method_22_code 16 = .ok (.istore 4, 2) := by decide +kernel
theorem d_X6_makeAlike_18 : decode prog_8_method_22_code 18 = .ok (.iload_n 3, 1) := by decide +kernel
theorem d_X6_makeAlike_19 : decode prog_8_method_22_code 19 = .ok (.iload 4, 2) := by decide +kernel
theorem d_X6_makeAlike_21 : decode prog_8_method_22_code 21 = .ok (.if_icmp .ge 18, 3) := by decide +kernel
theorem d_X6_makeAlike_24 : decode prog_8_method_22_code 24 = .ok (.aload_n 1, 1) := by decide +kernel
theorem d_X6_makeAlike_25 : decode prog_8_method_22_code 25 = .ok (.aload_n 2, 1) := by decide +kernel
theorem d_X6_makeAlike_26 : decode prog_8_method_22_code 26 = .ok (.iload_n 3, 1) := by decide +kernel
theorem d_X6_makeAlike_27 : decode prog_8_method_22_code 27 = .ok (.invokevirtual 227, 3) := by decide +kernel
theorem d_X6_makeAlike_30 : decode prog_8_method_22_code 30 = .ok (.ifCond .eq 9, 3) := by decide +kernel
theorem d_X6_makeAlike_33 : decode prog_8_method_22_code 33 = .ok (.iinc 3 1, 3) := by decide +kernel
theorem d_X6_makeAlike_36 : decode prog_8_method_22_code 36 = .ok (.goto (-18), 3) := by decide +kernel
theorem d_X6_makeAlike_39 : decode prog_8_method_22_code 39 = .ok (.aload_n 1, 1) := by decide +kernel
theorem d_X6_makeAlike_40 : decode prog_8_method_22_code 40 = .ok (.iload_n 3, 1) := by decide +kernel
theorem d_X6_makeAlike_41 : decode prog_8_method_22_code 41 = .ok (.bipush 16, 2) := by decide +kernel
theorem d_X6_makeAlike_43 : decode prog_8_method_22_code 43 = .ok (.imul, 1) := by decide +kernel
theorem d_X6_makeAlike_44 : decode prog_8_method_22_code 44 = .ok (.putfield 69, 3) := by decide +kernel
theorem d_X6_makeAlike_47 : decode prog_8_method_22_code 47 = .ok (.aload_n 1, 1) := by decide +kernel
theorem d_X6_makeAlike_48 : decode prog_8_method_22_code 48 = .ok (.aload_n 2, 1) := by decide +kernel
theorem d_X6_makeAlike_49 : decode prog_8_method_22_code 49 = .ok (.getfield 231, 3) := by decide +kernel
theorem d_X6_makeAlike_52 : decode prog_8_method_22_code 52 = .ok (.aload_n 1, 1) := by decide +kernel
theorem d_X6_makeAlike_53 : decode prog_8_method_22_code 53 = .ok (.getfield 69, 3) := by decide +kernel
theorem d_X6_makeAlike_56 : decode prog_8_method_22_code 56 = .ok (.aload_n 2, 1) := by decide +kernel
theorem d_X6_makeAlike_57 : decode prog_8_method_22_code 57 = .ok (.getfield 69, 3) := by decide +kernel
theorem d_X6_makeAlike_60 : decode prog_8_method_22_code 60 = .ok (.invokevirtual 105, 3) := by decide +kernel
theorem d_X6_makeAlike_63 : decode prog_8_method_22_code 63 = .ok (.return_, 1) := by decide +kernel
theorem vk_8_118 : Vk "TaskWeave$Workflow" 118 1 10 Y_X9_value := ⟨yk_X9_value, by decide +kernel, by decide +kernel, by decide +kernel, by decide⟩
theorem vk_8_148 : Vk "TaskWeave$Workflow" 148 1 2 Y_X1_endOfChild := ⟨yk_X1_endOfChild, by decide +kernel, by decide +kernel, by decide +kernel, by decide⟩
theorem vk_8_74 : Vk "TaskWeave$Workflow" 74 2 2 Y_X1_placeOf := ⟨yk_X1_placeOf, by decide +kernel, by decide +kernel, by decide +kernel, by decide⟩
theorem fk_8_82 : Fk "TaskWeave$Workflow" 82 201 := ⟨by decide, by decide, by decide +kernel⟩
theorem sk_8_154 : Sk "TaskWeave$Workflow" 154 3 Y_X9_reckon := ⟨yk_X9_reckon, by decide +kernel, by decide +kernel⟩
theorem fk_8_151 : Fk "TaskWeave$Workflow" 151 202 := ⟨by decide, by decide, by decide +kernel⟩
def f_X9_walk_236 (l0 : Nat) (l2 : Int32) (l4 : Int32) (h : Hp) : Option Hp := if (l2) < (0) then (ck (isO (h) (l0) 10) ((f_X9_set (l0) ((-1 : Int32)) (h)).bind (fun q44 => some (q44)))) else (ck (isO (h) (l0) 10) (if (zI (h) 1010 (l0)) ≤ (l2) then ((f_X9_set (l0) ((-1 : Int32)) (h)).bind (fun q48 => some (q48))) else (ck (isO (h) (zR (h) 1002 (l0)) 2) (ck (isO (h) (zR (h) 202 (zR (h) 1002 (l0))) 22) (ck (inR (l4) (zL (h) (zR (h) 202 (zR (h) 1002 (l0))))) ((f_X9_set (l0) (zE (h) (zR (h) 202 (zR (h) 1002 (l0))) (l4).toNatClampNeg) (h)).bind (fun q52 => some (q52))))))))
theorem f_X9_walk_236_ok {G : Gd} {d : Nat} (hj : 2 ≤ d) : ∀ (l0 : Nat) (l2 : Int32) (l4 : Int32) (L : List (Nat × Value)) (h : Hp) (o : Hp), zlk L 0 = some (zrf (l0)) → zlk L 2 = some (.int (l2)) → zlk L 4 = some (.int (l4)) → f_X9_walk_236 l0 l2 l4 h = some o → Ev G M_X9_walk d 236 L [] h (Ret Y_X9_walk none o) := by
  intro l0 l2 l4 L h o g0 g2 g4 e
  unfold f_X9_walk_236 at e
  refine g_ald_n d_X9_walk_236 rfl g0 ?_
  refine r_iload_n d_X9_walk_237 rfl g2 ?_
  refine r_if_lt d_X9_walk_238 (tgt := 262) (by decide) (fun c43 => ?_) (fun c43 => ?_)
  · replace e := (if_pos c43).symm.trans e
    refine r_iconst d_X9_walk_262 (v := (-1 : Int32)) (by decide +kernel) ?_
    replace e := ckd e
    obtain ⟨k45, e⟩ := e
    replace e := bd e
    obtain ⟨q44, eq44, e⟩ := e
    refine g_callV d_X9_walk_263 vk_8_145 (as := [_]) rfl k45 rfl (by simp [zrf_cat, cat_int, cat_long]) (j := 1) (by omega) (c_X9_set (by omega) eq44) ?_
    refine r_goto d_X9_walk_266 (tgt := 286) (by decide) ?_
    obtain rfl := Option.some.inj e
    exact g_vret d_X9_walk_286 rfl
  · replace e := (if_neg c43).symm.trans e
    refine r_iload_n d_X9_walk_241 rfl g2 ?_
    refine g_ald_n d_X9_walk_242 rfl g0 ?_
    replace e := ckd e
    obtain ⟨k46, e⟩ := e
    refine g_getI d_X9_walk_243 (f := 1010) k46 fk_8_65 rfl rfl ?_
    refine r_icmp_ge d_X9_walk_246 (tgt := 262) (by decide) (fun c47 => ?_) (fun c47 => ?_)
    · replace e := (if_pos c47).symm.trans e
      refine r_iconst d_X9_walk_262 (v := (-1 : Int32)) (by decide +kernel) ?_
      replace e := bd e
      obtain ⟨q48, eq48, e⟩ := e
      refine g_callV d_X9_walk_263 vk_8_145 (as := [_]) rfl k46 rfl (by simp [zrf_cat, cat_int, cat_long]) (j := 1) (by omega) (c_X9_set (by omega) eq48) ?_
      refine r_goto d_X9_walk_266 (tgt := 286) (by decide) ?_
      obtain rfl := Option.some.inj e
      exact g_vret d_X9_walk_286 rfl
    · replace e := (if_neg c47).symm.trans e
      refine g_ald_n d_X9_walk_249 rfl g0 ?_
      refine g_getR d_X9_walk_250 (f := 1002) k46 fk_8_18 rfl rfl ?_
      replace e := ckd e
      obtain ⟨k49, e⟩ := e
      refine g_getR d_X9_walk_253 (f := 202) k49 fk_8_151 rfl rfl ?_
      refine r_iload d_X9_walk_256 g4 ?_
      replace e := ckd e
      obtain ⟨k50, e⟩ := e
      replace e := ckd e
      obtain ⟨k51, e⟩ := e
      refine g_iald d_X9_walk_258 k50 k51 rfl ?_
      refine r_goto d_X9_walk_259 (tgt := 263) (by decide) ?_
      replace e := bd e
      obtain ⟨q52, eq52, e⟩ := e
      refine g_callV d_X9_walk_263 vk_8_145 (as := [_]) rfl k46 rfl (by simp [zrf_cat, cat_int, cat_long]) (j := 1) (by omega) (c_X9_set (by omega) eq52) ?_
      refine r_goto d_X9_walk_266 (tgt := 286) (by decide) ?_
      obtain rfl := Option.some.inj e
      exact g_vret d_X9_walk_286 rfl

def f_X9_walk (l0 : Nat) (h : Hp) : Option Hp := ck (isO (h) (l0) 10) (bh ((zI (h) 1005 (l0)) * ((8 : Int32))) (fun x2 => (f_X9_value (l0) ((x2) + ((4 : Int32))) (h)).bind (fun q3 => ck (isO (q3.2) (l0) 10) (ck (isO (q3.2) (zR (q3.2) 1004 (l0)) 5) (ck (isO (q3.2) (zR (q3.2) 501 (zR (q3.2) 1004 (l0))) 22) (ck (inR ((x2) + ((0 : Int32))) (zL (q3.2) (zR (q3.2) 501 (zR (q3.2) 1004 (l0))))) (bh (zE (q3.2) (zR (q3.2) 501 (zR (q3.2) 1004 (l0))) ((x2) + ((0 : Int32))).toNatClampNeg) (fun x8 => if (x8) = (71 : Int32) then (ck (inR ((x2) + ((1 : Int32))) (zL (q3.2) (zR (q3.2) 501 (zR (q3.2) 1004 (l0))))) ((f_X9_leave (l0) (zE (q3.2) (zR (q3.2) 501 (zR (q3.2) 1004 (l0))) ((x2) + ((1 : Int32))).toNatClampNeg) (q3.2)).bind (fun q11 => some (q11)))) else (if (x8) = (73 : Int32) then (if (q3.1) = (0) then ((f_X9_leave (l0) ((zI (q3.2) 1005 (l0)) + ((1 : Int32))) (q3.2)).bind (fun q14 => some (q14))) else (ck (inR ((x2) + ((1 : Int32))) (zL (q3.2) (zR (q3.2) 501 (zR (q3.2) 1004 (l0))))) ((f_X9_leave (l0) (zE (q3.2) (zR (q3.2) 501 (zR (q3.2) 1004 (l0))) ((x2) + ((1 : Int32))).toNatClampNeg) (q3.2)).bind (fun q16 => some (q16))))) else (if (x8) = (74 : Int32) then (ck (isO (q3.2) (zR (q3.2) 1002 (l0)) 2) ((f_X1_endOfChild (zR (q3.2) 1002 (l0)) (q3.1) (q3.2)).bind (fun q18 => if (q3.1) < (0) then (f_X9_walk_236 (l0) (q3.1) (q18.1) (q18.2)) else (ck (isO (q18.2) (l0) 10) (if (zI (q18.2) 1010 (l0)) ≤ (q3.1) then (f_X9_walk_236 (l0) (q3.1) (q18.1) (q18.2)) else (if (q18.1) = ((-1 : Int32)) then ((f_X9_rest (l0) ((3 : Int32)) (q3.1) (q18.2)).bind (fun q24 => some (q24))) else (f_X9_walk_236 (l0) (q3.1) (q18.1) (q18.2)))))))) else (if (x8) = (83 : Int32) then ((f_X9_leave (l0) ((zI (q3.2) 1005 (l0)) + ((1 : Int32))) (q3.2)).bind (fun q26 => some (q26))) else (if (x8) = (87 : Int32) then (ck (isO (q3.2) (zR (q3.2) 1002 (l0)) 2) ((f_X1_placeOf (zR (q3.2) 1002 (l0)) ((8 : Int32)) (zI (q3.2) 1009 (l0)) (q3.2)).bind (fun q28 => if (q28.1) = ((-1 : Int32)) then (ck (isO (q28.2) (l0) 10) ((f_X9_rest (l0) ((2 : Int32)) ((0 : Int32)) (q28.2)).bind (fun q37 => some (q37)))) else (ck (isO (q28.2) (l0) 10) (bh (pI (q28.2) 1009 (l0) ((zI (q28.2) 1009 (l0)) + ((1 : Int32)))) (fun h32 => ck (isO (h32) (zR (h32) 1002 (l0)) 2) (ck (isO (h32) (zR (h32) 201 (zR (h32) 1002 (l0))) 22) (ck (inR (q28.1) (zL (h32) (zR (h32) 201 (zR (h32) 1002 (l0))))) ((f_X9_set (l0) (zE (h32) (zR (h32) 201 (zR (h32) 1002 (l0))) (q28.1).toNatClampNeg) (h32)).bind (fun q36 => some (q36))))))))))) else ((f_X9_value (l0) ((x2) + ((6 : Int32))) (q3.2)).bind (fun q39 => (f_X9_reckon (x8) (q3.1) (q39.1) (q39.2)).bind (fun q40 => ck (isO (q40.2) (l0) 10) ((f_X9_set (l0) (q40.1) (q40.2)).bind (fun q41 => some (q41))))))))))))))))))
theorem f_X9_walk_ok {G : Gd} {d : Nat} (hj : 2 ≤ d) : ∀ (l0 : Nat) (L : List (Nat × Value)) (h : Hp) (o : Hp), zlk L 0 = some (zrf (l0)) → f_X9_walk l0 h = some o → Ev G M_X9_walk d 0 L [] h (Ret Y_X9_walk none o) := by
  intro l0 L h o g0 e
  unfold f_X9_walk at e
  refine g_ald_n d_X9_walk_0 rfl g0 ?_
  replace e := ckd e
  obtain ⟨k1, e⟩ := e
  refine g_getI d_X9_walk_1 (f := 1005) k1 fk_8_53 rfl rfl ?_
  refine r_bipush d_X9_walk_4 (v := (8 : Int32)) (by decide +kernel) ?_
  refine r_imul d_X9_walk_6 ?_
  replace e := bhd e
  obtain ⟨_, rfl, e⟩ := e
  refine s_istore_n d_X9_walk_7 rfl (by decide) (fun L g1 gK => ?_)
  replace g0 := gK _ _ (by decide) (Or.inr (zrf_cat _)) g0
  refine g_ald_n d_X9_walk_8 rfl g0 ?_
  refine r_iload_n d_X9_walk_9 rfl g1 ?_
  refine r_iconst d_X9_walk_10 (v := (4 : Int32)) (by decide +kernel) ?_
  refine r_iadd d_X9_walk_11 ?_
  replace e := bd e
  obtain ⟨q3, eq3, e⟩ := e
  refine g_callV d_X9_walk_12 vk_8_118 (as := [_]) rfl k1 rfl (by simp [zrf_cat, cat_int, cat_long]) (j := 1) (by omega) (c_X9_value (by omega) eq3) ?_
  refine s_istore_n d_X9_walk_15 rfl (by decide) (fun L g2 gK => ?_)
  replace g0 := gK _ _ (by decide) (Or.inr (zrf_cat _)) g0
  replace g1 := gK _ _ (by decide) (Or.inr rfl) g1
  refine g_ald_n d_X9_walk_16 rfl g0 ?_
  replace e := ckd e
  obtain ⟨k4, e⟩ := e
  refine g_getR d_X9_walk_17 (f := 1004) k4 fk_8_33 rfl rfl ?_
  replace e := ckd e
  obtain ⟨k5, e⟩ := e
  refine g_getR d_X9_walk_20 (f := 501) k5 fk_8_121 rfl rfl ?_
  refine r_iload_n d_X9_walk_23 rfl g1 ?_
  refine r_iconst d_X9_walk_24 (v := (0 : Int32)) (by decide +kernel) ?_
  refine r_iadd d_X9_walk_25 ?_
  replace e := ckd e
  obtain ⟨k6, e⟩ := e
  replace e := ckd e
  obtain ⟨k7, e⟩ := e
  refine g_iald d_X9_walk_26 k6 k7 rfl ?_
  replace e := bhd e
  obtain ⟨_, rfl, e⟩ := e
  refine s_istore_n d_X9_walk_27 rfl (by decide) (fun L g3 gK => ?_)
  replace g0 := gK _ _ (by decide) (Or.inr (zrf_cat _)) g0
  replace g1 := gK _ _ (by decide) (Or.inr rfl) g1
  replace g2 := gK _ _ (by decide) (Or.inr rfl) g2
  refine r_iload_n d_X9_walk_28 rfl g3 ?_
  rcases ite_or e with ⟨c9, e⟩ | ⟨c9, e⟩
  · refine r_lookup d_X9_walk_29 (off := 51) (tgt := 80) (by decide +kernel) (by rw [c9] <;> rfl) (by decide) ?_
    refine g_ald_n d_X9_walk_80 rfl g0 ?_
    refine g_ald_n d_X9_walk_81 rfl g0 ?_
    refine g_getR d_X9_walk_82 (f := 1004) k4 fk_8_33 rfl rfl ?_
    refine g_getR d_X9_walk_85 (f := 501) k5 fk_8_121 rfl rfl ?_
    refine r_iload_n d_X9_walk_88 rfl g1 ?_
    refine r_iconst d_X9_walk_89 (v := (1 : Int32)) (by decide +kernel) ?_
    refine r_iadd d_X9_walk_90 ?_
    replace e := ckd e
    obtain ⟨k10, e⟩ := e
    refine g_iald d_X9_walk_91 k6 k10 rfl ?_
    replace e := bd e
    obtain ⟨q11, eq11, e⟩ := e
    refine g_callV d_X9_walk_92 vk_8_137 (as := [_]) rfl k4 rfl (by simp [zrf_cat, cat_int, cat_long]) (j := 1) (by omega) (c_X9_leave (by omega) eq11) ?_
    refine r_goto d_X9_walk_95 (tgt := 286) (by decide) ?_
    obtain rfl := Option.some.inj e
    exact g_vret d_X9_walk_286 rfl
  · rcases ite_or e with ⟨c12, e⟩ | ⟨c12, e⟩
    · refine r_lookup d_X9_walk_29 (off := 69) (tgt := 98) (by decide +kernel) (by rw [c12] <;> rfl) (by decide) ?_
      refine g_ald_n d_X9_walk_98 rfl g0 ?_
      refine r_iload_n d_X9_walk_99 rfl g2 ?_
      refine r_if_eq d_X9_walk_100 (tgt := 117) (by decide) (fun c13 => ?_) (fun c13 => ?_)
      · replace e := (if_pos c13).symm.trans e
        refine g_ald_n d_X9_walk_117 rfl g0 ?_
        refine g_getI d_X9_walk_118 (f := 1005) k4 fk_8_53 rfl rfl ?_
        refine r_iconst d_X9_walk_121 (v := (1 : Int32)) (by decide +kernel) ?_
        refine r_iadd d_X9_walk_122 ?_
        replace e := bd e
        obtain ⟨q14, eq14, e⟩ := e
        refine g_callV d_X9_walk_123 vk_8_137 (as := [_]) rfl k4 rfl (by simp [zrf_cat, cat_int, cat_long]) (j := 1) (by omega) (c_X9_leave (by omega) eq14) ?_
        refine r_goto d_X9_walk_126 (tgt := 286) (by decide) ?_
        obtain rfl := Option.some.inj e
        exact g_vret d_X9_walk_286 rfl
      · replace e := (if_neg c13).symm.trans e
        refine g_ald_n d_X9_walk_103 rfl g0 ?_
        refine g_getR d_X9_walk_104 (f := 1004) k4 fk_8_33 rfl rfl ?_
        refine g_getR d_X9_walk_107 (f := 501) k5 fk_8_121 rfl rfl ?_
        refine r_iload_n d_X9_walk_110 rfl g1 ?_
        refine r_iconst d_X9_walk_111 (v := (1 : Int32)) (by decide +kernel) ?_
        refine r_iadd d_X9_walk_112 ?_
        replace e := ckd e
        obtain ⟨k15, e⟩ := e
        refine g_iald d_X9_walk_113 k6 k15 rfl ?_
        refine r_goto d_X9_walk_114 (tgt := 123) (by decide) ?_
        replace e := bd e
        obtain ⟨q16, eq16, e⟩ := e
        refine g_callV d_X9_walk_123 vk_8_137 (as := [_]) rfl k4 rfl (by simp [zrf_cat, cat_int, cat_long]) (j := 1) (by omega) (c_X9_leave (by omega) eq16) ?_
        refine r_goto d_X9_walk_126 (tgt := 286) (by decide) ?_
        obtain rfl := Option.some.inj e
        exact g_vret d_X9_walk_286 rfl
    · rcases ite_or e with ⟨c17, e⟩ | ⟨c17, e⟩
      · refine r_lookup d_X9_walk_29 (off := 170) (tgt := 199) (by decide +kernel) (by rw [c17] <;> rfl) (by decide) ?_
        refine g_ald_n d_X9_walk_199 rfl g0 ?_
        refine g_getR d_X9_walk_200 (f := 1002) k4 fk_8_18 rfl rfl ?_
        refine r_iload_n d_X9_walk_203 rfl g2 ?_
        replace e := ckd e
        obtain ⟨k19, e⟩ := e
        replace e := bd e
        obtain ⟨q18, eq18, e⟩ := e
        refine g_callV d_X9_walk_204 vk_8_148 (as := [_]) rfl k19 rfl (by simp [zrf_cat, cat_int, cat_long]) (j := 1) (by omega) (c_X1_endOfChild (by omega) eq18) ?_
        refine s_istore d_X9_walk_207 (by decide) (fun L g4 gK => ?_)
        replace g0 := gK _ _ (by decide) (Or.inr (zrf_cat _)) g0
        replace g2 := gK _ _ (by decide) (Or.inr rfl) g2
        refine r_iload_n d_X9_walk_209 rfl g2 ?_
        refine r_if_lt d_X9_walk_210 (tgt := 236) (by decide) (fun c20 => ?_) (fun c20 => ?_)
        · replace e := (if_pos c20).symm.trans e
          exact f_X9_walk_236_ok hj _ _ _ _ _ _ g0 g2 g4 e
        · replace e := (if_neg c20).symm.trans e
          refine r_iload_n d_X9_walk_213 rfl g2 ?_
          refine g_ald_n d_X9_walk_214 rfl g0 ?_
          replace e := ckd e
          obtain ⟨k21, e⟩ := e
          refine g_getI d_X9_walk_215 (f := 1010) k21 fk_8_65 rfl rfl ?_
          refine r_icmp_ge d_X9_walk_218 (tgt := 236) (by decide) (fun c22 => ?_) (fun c22 => ?_)
          · replace e := (if_pos c22).symm.trans e
            exact f_X9_walk_236_ok hj _ _ _ _ _ _ g0 g2 g4 e
          · replace e := (if_neg c22).symm.trans e
            refine r_iload d_X9_walk_221 g4 ?_
            refine r_iconst d_X9_walk_223 (v := (-1 : Int32)) (by decide +kernel) ?_
            refine r_icmp_ne d_X9_walk_224 (tgt := 236) (by decide) (fun c23 => ?_) (fun c23 => ?_)
            · replace e := (if_neg c23).symm.trans e
              exact f_X9_walk_236_ok hj _ _ _ _ _ _ g0 g2 g4 e
            · replace e := (if_pos c23).symm.trans e
              refine g_ald_n d_X9_walk_227 rfl g0 ?_
              refine r_iconst d_X9_walk_228 (v := (3 : Int32)) (by decide +kernel) ?_
              refine r_iload_n d_X9_walk_229 rfl g2 ?_
              replace e := bd e
              obtain ⟨q24, eq24, e⟩ := e
              refine g_callV d_X9_walk_230 vk_8_141 (as := [_, _]) rfl k21 rfl (by simp [zrf_cat, cat_int, cat_long]) (j := 1) (by omega) (c_X9_rest (by omega) eq24) ?_
              refine r_goto d_X9_walk_233 (tgt := 286) (by decide) ?_
              obtain rfl := Option.some.inj e
              exact g_vret d_X9_walk_286 rfl
      · rcases ite_or e with ⟨c25, e⟩ | ⟨c25, e⟩
        · refine r_lookup d_X9_walk_29 (off := 100) (tgt := 129) (by decide +kernel) (by rw [c25] <;> rfl) (by decide) ?_
          refine g_ald_n d_X9_walk_129 rfl g0 ?_
          refine g_ald_n d_X9_walk_130 rfl g0 ?_
          refine g_getI d_X9_walk_131 (f := 1005) k4 fk_8_53 rfl rfl ?_
          refine r_iconst d_X9_walk_134 (v := (1 : Int32)) (by decide +kernel) ?_
          refine r_iadd d_X9_walk_135 ?_
          replace e := bd e
          obtain ⟨q26, eq26, e⟩ := e
          refine g_callV d_X9_walk_136 vk_8_137 (as := [_]) rfl k4 rfl (by simp [zrf_cat, cat_int, cat_long]) (j := 1) (by omega) (c_X9_leave (by omega) eq26) ?_
          refine r_goto d_X9_walk_139 (tgt := 286) (by decide) ?_
          obtain rfl := Option.some.inj e
          exact g_vret d_X9_walk_286 rfl
        · rcases ite_or e with ⟨c27, e⟩ | ⟨c27, e⟩
          · refine r_lookup d_X9_walk_29 (off := 113) (tgt := 142) (by decide +kernel) (by rw [c27] <;> rfl) (by decide) ?_
            refine g_ald_n d_X9_walk_142 rfl g0 ?_
            refine g_getR d_X9_walk_143 (f := 1002) k4 fk_8_18 rfl rfl ?_
            refine r_bipush d_X9_walk_146 (v := (8 : Int32)) (by decide +kernel) ?_
            refine g_ald_n d_X9_walk_148 rfl g0 ?_
            refine g_getI d_X9_walk_149 (f := 1009) k4 fk_8_62 rfl rfl ?_
            replace e := ckd e
            obtain ⟨k29, e⟩ := e
            replace e := bd e
            obtain ⟨q28, eq28, e⟩ := e
            refine g_callV d_X9_walk_152 vk_8_74 (as := [_, _]) rfl k29 rfl (by simp [zrf_cat, cat_int, cat_long]) (j := 1) (by omega) (c_X1_placeOf (by omega) eq28) ?_
            refine s_istore d_X9_walk_155 (by decide) (fun L g4 gK => ?_)
            replace g0 := gK _ _ (by decide) (Or.inr (zrf_cat _)) g0
            refine r_iload d_X9_walk_157 g4 ?_
            refine r_iconst d_X9_walk_159 (v := (-1 : Int32)) (by decide +kernel) ?_
            refine r_icmp_ne d_X9_walk_160 (tgt := 172) (by decide) (fun c30 => ?_) (fun c30 => ?_)
            · replace e := (if_neg c30).symm.trans e
              refine g_ald_n d_X9_walk_172 rfl g0 ?_
              refine r_dup d_X9_walk_173 (zrf_cat _) ?_
              replace e := ckd e
              obtain ⟨k31, e⟩ := e
              refine g_getI d_X9_walk_174 (f := 1009) k31 fk_8_62 rfl rfl ?_
              refine r_iconst d_X9_walk_177 (v := (1 : Int32)) (by decide +kernel) ?_
              refine r_iadd d_X9_walk_178 ?_
              refine g_putI d_X9_walk_179 (f := 1009) k31 fk_8_62 rfl (Or.inl rfl) ⟨rfl, rfl⟩ ?_
              replace e := bhd e
              obtain ⟨_, rfl, e⟩ := e
              refine g_ald_n d_X9_walk_182 rfl g0 ?_
              refine g_ald_n d_X9_walk_183 rfl g0 ?_
              refine g_getR d_X9_walk_184 (f := 1002) (tO_pI k31) fk_8_18 rfl rfl ?_
              replace e := ckd e
              obtain ⟨k33, e⟩ := e
              refine g_getR d_X9_walk_187 (f := 201) k33 fk_8_82 rfl rfl ?_
              refine r_iload d_X9_walk_190 g4 ?_
              replace e := ckd e
              obtain ⟨k34, e⟩ := e
              replace e := ckd e
              obtain ⟨k35, e⟩ := e
              refine g_iald d_X9_walk_192 k34 k35 rfl ?_
              replace e := bd e
              obtain ⟨q36, eq36, e⟩ := e
              refine g_callV d_X9_walk_193 vk_8_145 (as := [_]) rfl (tO_pI k31) rfl (by simp [zrf_cat, cat_int, cat_long]) (j := 1) (by omega) (c_X9_set (by omega) eq36) ?_
              refine r_goto d_X9_walk_196 (tgt := 286) (by decide) ?_
              obtain rfl := Option.some.inj e
              exact g_vret d_X9_walk_286 rfl
            · replace e := (if_pos c30).symm.trans e
              refine g_ald_n d_X9_walk_163 rfl g0 ?_
              refine r_iconst d_X9_walk_164 (v := (2 : Int32)) (by decide +kernel) ?_
              refine r_iconst d_X9_walk_165 (v := (0 : Int32)) (by decide +kernel) ?_
              replace e := ckd e
              obtain ⟨k38, e⟩ := e
              replace e := bd e
              obtain ⟨q37, eq37, e⟩ := e
              refine g_callV d_X9_walk_166 vk_8_141 (as := [_, _]) rfl k38 rfl (by simp [zrf_cat, cat_int, cat_long]) (j := 1) (by omega) (c_X9_rest (by omega) eq37) ?_
              refine r_goto d_X9_walk_169 (tgt := 286) (by decide) ?_
              obtain rfl := Option.some.inj e
              exact g_vret d_X9_walk_286 rfl
          · refine r_lookup d_X9_walk_29 (off := 240) (tgt := 269) (by decide +kernel) (by rw [lv_osw c9 (by decide +kernel), lv_osw c12 (by decide +kernel), lv_osw c17 (by decide +kernel), lv_osw c25 (by decide +kernel), lv_osw c27 (by decide +kernel)] <;> rfl) (by decide) ?_
            refine g_ald_n d_X9_walk_269 rfl g0 ?_
            refine r_iload_n d_X9_walk_270 rfl g3 ?_
            refine r_iload_n d_X9_walk_271 rfl g2 ?_
            refine g_ald_n d_X9_walk_272 rfl g0 ?_
            refine r_iload_n d_X9_walk_273 rfl g1 ?_
            refine r_bipush d_X9_walk_274 (v := (6 : Int32)) (by decide +kernel) ?_
            refine r_iadd d_X9_walk_276 ?_
            replace e := bd e
            obtain ⟨q39, eq39, e⟩ := e
            refine g_callV d_X9_walk_277 vk_8_118 (as := [_]) rfl k4 rfl (by simp [zrf_cat, cat_int, cat_long]) (j := 1) (by omega) (c_X9_value (by omega) eq39) ?_
            replace e := bd e
            obtain ⟨q40, eq40, e⟩ := e
            refine g_callS d_X9_walk_280 sk_8_154 (as := [_, _, _]) rfl rfl (by simp [zrf_cat, cat_int, cat_long]) (j := 1) (by omega) (c_X9_reckon (by omega) eq40) ?_
            replace e := ckd e
            obtain ⟨k42, e⟩ := e
            replace e := bd e
            obtain ⟨q41, eq41, e⟩ := e
            refine g_callV d_X9_walk_283 vk_8_145 (as := [_]) rfl k42 rfl (by simp [zrf_cat, cat_int, cat_long]) (j := 1) (by omega) (c_X9_set (by omega) eq41) ?_
            obtain rfl := Option.some.inj e
            exact g_vret d_X9_walk_286 rfl

theorem c_X9_walk {G : Gd} {j : Nat} (hj : 2 ≤ j) {l0 : Nat} {h : Hp} {o : Hp} (e : f_X9_walk l0 h = some o) : Cal G j Y_X9_walk [zrf (l0)] h none o := Cal.of (n := 0) (I := false) (by first | exact Or.inl (by decide +kernel) | exact Or.inr (by decide +kernel)) (by decide) (by simp [lg_sl, zrf_cat, cat_int, cat_long]) (f_X9_walk_ok hj _ _ h o (by simp [lv_args, zlk, zrf_cat, cat_int, cat_long]) e)
def f_X9_hasKin (l0 : Nat) (l1 : Int32) (h : Hp) : Option (Int32 × Hp) := if (l1) = ((-1 : Int32)) then (ck (isO (h) (l0) 10) (ck (isO (h) (zR (h) 1002 (l0)) 2) (ck (isO (h) (zR (h) 203 (zR (h) 1002 (l0))) 22) (ck (inR ((0 : Int32)) (zL (h) (zR (h) 203 (zR (h) 1002 (l0))))) (if (0) ≤ (zE (h) (zR (h) 203 (zR (h) 1002 (l0))) ((0 : Int32)).toNatClampNeg) then (some ((0 : Int32), h)) else (some ((1 : Int32), h))))))) else (if (l1) < (0) then (some ((0 : Int32), h)) else (ck (isO (h) (l0) 10) (if (zI (h) 1010 (l0)) ≤ (l1) then (some ((0 : Int32), h)) else (some ((1 : Int32), h)))))
theorem f_X9_hasKin_ok {G : Gd} {d : Nat} (hj : 1 ≤ d) : ∀ (l0 : Nat) (l1 : Int32) (L : List (Nat × Value)) (h : Hp) (o : (Int32 × Hp)), zlk L 0 = some (zrf (l0)) → zlk L 1 = some (.int (l1)) → f_X9_hasKin l0 l1 h = some o → Ev G M_X9_hasKin d 0 L [] h (Ret Y_X9_hasKin (some (.int o.1)) o.2) := by
  intro l0 l1 L h o g0 g1 e
  unfold f_X9_hasKin at e
  refine r_iload_n d_X9_hasKin_0 rfl g1 ?_
  refine r_iconst d_X9_hasKin_1 (v := (-1 : Int32)) (by decide +kernel) ?_
  refine r_icmp_ne d_X9_hasKin_2 (tgt := 25) (by decide) (fun c1 => ?_) (fun c1 => ?_)
  · replace e := (if_neg c1).symm.trans e
    refine r_iload_n d_X9_hasKin_25 rfl g1 ?_
    refine r_if_lt d_X9_hasKin_26 (tgt := 41) (by decide) (fun c2 => ?_) (fun c2 => ?_)
    · replace e := (if_pos c2).symm.trans e
      refine r_iconst d_X9_hasKin_41 (v := (0 : Int32)) (by decide +kernel) ?_
      obtain rfl := Option.some.inj e
      exact g_iret d_X9_hasKin_42 rfl rfl
    · replace e := (if_neg c2).symm.trans e
      refine r_iload_n d_X9_hasKin_29 rfl g1 ?_
      refine g_ald_n d_X9_hasKin_30 rfl g0 ?_
      replace e := ckd e
      obtain ⟨k3, e⟩ := e
      refine g_getI d_X9_hasKin_31 (f := 1010) k3 fk_8_65 rfl rfl ?_
      refine r_icmp_ge d_X9_hasKin_34 (tgt := 41) (by decide) (fun c4 => ?_) (fun c4 => ?_)
      · replace e := (if_pos c4).symm.trans e
        refine r_iconst d_X9_hasKin_41 (v := (0 : Int32)) (by decide +kernel) ?_
        obtain rfl := Option.some.inj e
        exact g_iret d_X9_hasKin_42 rfl rfl
      · replace e := (if_neg c4).symm.trans e
        refine r_iconst d_X9_hasKin_37 (v := (1 : Int32)) (by decide +kernel) ?_
        refine r_goto d_X9_hasKin_38 (tgt := 42) (by decide) ?_
        obtain rfl := Option.some.inj e
        exact g_iret d_X9_hasKin_42 rfl rfl
  · replace e := (if_pos c1).symm.trans e
    refine g_ald_n d_X9_hasKin_5 rfl g0 ?_
    replace e := ckd e
    obtain ⟨k5, e⟩ := e
    refine g_getR d_X9_hasKin_6 (f := 1002) k5 fk_8_18 rfl rfl ?_
    replace e := ckd e
    obtain ⟨k6, e⟩ := e
    refine g_getR d_X9_hasKin_9 (f := 203) k6 fk_8_71 rfl rfl ?_
    refine r_iconst d_X9_hasKin_12 (v := (0 : Int32)) (by decide +kernel) ?_
    replace e := ckd e
    obtain ⟨k7, e⟩ := e
    replace e := ckd e
    obtain ⟨k8, e⟩ := e
    refine g_iald d_X9_hasKin_13 k7 k8 rfl ?_
    refine r_if_ge d_X9_hasKin_14 (tgt := 21) (by decide) (fun c9 => ?_) (fun c9 => ?_)
    · replace e := (if_pos c9).symm.trans e
      refine r_iconst d_X9_hasKin_21 (v := (0 : Int32)) (by decide +kernel) ?_
      refine r_goto d_X9_hasKin_22 (tgt := 42) (by decide) ?_
      obtain rfl := Option.some.inj e
      exact g_iret d_X9_hasKin_42 rfl rfl
    · replace e := (if_neg c9).symm.trans e
      refine r_iconst d_X9_hasKin_17 (v := (1 : Int32)) (by decide +kernel) ?_
      refine r_goto d_X9_hasKin_18 (tgt := 42) (by decide) ?_
      obtain rfl := Option.some.inj e
      exact g_iret d_X9_hasKin_42 rfl rfl

theorem c_X9_hasKin {G : Gd} {j : Nat} (hj : 1 ≤ j) {l0 : Nat} {l1 : Int32} {h : Hp} {o : (Int32 × Hp)} (e : f_X9_hasKin l0 l1 h = some o) : Cal G j Y_X9_hasKin [zrf (l0), .int (l1)] h (some (.int o.1)) o.2 := Cal.of (n := 0) (I := false) (by first | exact Or.inl (by decide +kernel) | exact Or.inr (by decide +kernel)) (by decide) (by simp [lg_sl, zrf_cat, cat_int, cat_long]) (f_X9_hasKin_ok hj _ _ _ h o (by simp [lv_args, zlk, zrf_cat, cat_int, cat_long]) (by simp [lv_args, zlk, zrf_cat, cat_int, cat_long]) e)
theorem fk_8_131 : Fk "TaskWeave$Workflow" 131 1012 := ⟨by decide, by decide, by decide +kernel⟩
theorem fk_8_134 : Fk "TaskWeave$Workflow" 134 1013 := ⟨by decide, by decide, by decide +kernel⟩
def f_X9_want (l0 : Nat) (l1 : Int32) (l2 : Int32) (l3 : Int32) (h : Hp) : Option (Int32 × Hp) := ck (isO (h) (l0) 10) (bh (pI (h) 1012 (l0) (l2)) (fun h2 => bh (pI (h2) 1013 (l0) (l3)) (fun h3 => some (l1, h3))))
theorem f_X9_want_ok {G : Gd} {d : Nat} (hj : 1 ≤ d) : ∀ (l0 : Nat) (l1 : Int32) (l2 : Int32) (l3 : Int32) (L : List (Nat × Value)) (h : Hp) (o : (Int32 × Hp)), zlk L 0 = some (zrf (l0)) → zlk L 1 = some (.int (l1)) → zlk L 2 = some (.int (l2)) → zlk L 3 = some (.int (l3)) → f_X9_want l0 l1 l2 l3 h = some o → Ev G M_X9_want d 0 L [] h (Ret Y_X9_want (some (.int o.1)) o.2) := by
  intro l0 l1 l2 l3 L h o g0 g1 g2 g3 e
  unfold f_X9_want at e
  refine g_ald_n d_X9_want_0 rfl g0 ?_
  refine r_iload_n d_X9_want_1 rfl g2 ?_
  replace e := ckd e
  obtain ⟨k1, e⟩ := e
  refine g_putI d_X9_want_2 (f := 1012) k1 fk_8_131 rfl (Or.inl rfl) ⟨rfl, rfl⟩ ?_
  replace e := bhd e
  obtain ⟨_, rfl, e⟩ := e
  refine g_ald_n d_X9_want_5 rfl g0 ?_
  refine r_iload_n d_X9_want_6 rfl g3 ?_
  refine g_putI d_X9_want_7 (f := 1013) (tO_pI k1) fk_8_134 rfl (Or.inl rfl) ⟨rfl, rfl⟩ ?_
  replace e := bhd e
  obtain ⟨_, rfl, e⟩ := e
  refine r_iload_n d_X9_want_10 rfl g1 ?_
  obtain rfl := Option.some.inj e
  exact g_iret d_X9_want_11 rfl rfl

theorem c_X9_want {G : Gd} {j : Nat} (hj : 1 ≤ j) {l0 : Nat} {l1 : Int32} {l2 : Int32} {l3 : Int32} {h : Hp} {o : (Int32 × Hp)} (e : f_X9_want l0 l1 l2 l3 h = some o) : Cal G j Y_X9_want [zrf (l0), .int (l1), .int (l2), .int (l3)] h (some (.int o.1)) o.2 := Cal.of (n := 0) (I := false) (by first | exact Or.inl (by decide +kernel) | exact Or.inr (by decide +kernel)) (by decide) (by simp [lg_sl, zrf_cat, cat_int, cat_long]) (f_X9_want_ok hj _ _ _ _ _ h o (by simp [lv_args, zlk, zrf_cat, cat_int, cat_long]) (by simp [lv_args, zlk, zrf_cat, cat_int, cat_long]) (by simp [lv_args, zlk, zrf_cat, cat_int, cat_long]) (by simp [lv_args, zlk, zrf_cat, cat_int, cat_long]) e)
theorem vk_8_114 : Vk "TaskWeave$Workflow" 114 3 10 Y_X9_want := ⟨yk_X9_want, by decide +kernel, by decide +kernel, by decide +kernel, by decide⟩
theorem vk_8_127 : Vk "TaskWeave$Workflow" 127 1 10 Y_X9_hasKin := ⟨yk_X9_hasKin, by decide +kernel, by decide +kernel, by decide +kernel, by decide⟩
def f_X9_wish (l0 : Nat) (l1 : Int32) (h : Hp) : Option (Int32 × Hp) := ck (isO (h) (l0) 10) (ck (isO (h) (zR (h) 1004 (l0)) 5) (if (zI (h) 1005 (l0)) < (zI (h) 500 (zR (h) 1004 (l0))) then (if (zI (h) 1006 (l0)) < ((200 : Int32)) then (bh ((zI (h) 1005 (l0)) * ((8 : Int32))) (fun x5 => (f_X9_value (l0) ((x5) + ((4 : Int32))) (h)).bind (fun q6 => ck (isO (q6.2) (l0) 10) (ck (isO (q6.2) (zR (q6.2) 1004 (l0)) 5) (ck (isO (q6.2) (zR (q6.2) 501 (zR (q6.2) 1004 (l0))) 22) (ck (inR ((x5) + ((0 : Int32))) (zL (q6.2) (zR (q6.2) 501 (zR (q6.2) 1004 (l0))))) (if (zE (q6.2) (zR (q6.2) 501 (zR (q6.2) 1004 (l0))) ((x5) + ((0 : Int32))).toNatClampNeg) = (65 : Int32) then (ck (inR ((x5) + ((2 : Int32))) (zL (q6.2) (zR (q6.2) 501 (zR (q6.2) 1004 (l0))))) ((f_X9_want (l0) ((1 : Int32)) (zE (q6.2) (zR (q6.2) 501 (zR (q6.2) 1004 (l0))) ((x5) + ((2 : Int32))).toNatClampNeg) (q6.1) (q6.2)).bind (fun q13 => some (q13.1, q13.2)))) else (if (zE (q6.2) (zR (q6.2) 501 (zR (q6.2) 1004 (l0))) ((x5) + ((0 : Int32))).toNatClampNeg) = (67 : Int32) then (ck (inR ((x5) + ((2 : Int32))) (zL (q6.2) (zR (q6.2) 501 (zR (q6.2) 1004 (l0))))) ((f_X9_want (l0) ((6 : Int32)) (zE (q6.2) (zR (q6.2) 501 (zR (q6.2) 1004 (l0))) ((x5) + ((2 : Int32))).toNatClampNeg) (q6.1) (q6.2)).bind (fun q16 => some (q16.1, q16.2)))) else (if (zE (q6.2) (zR (q6.2) 501 (zR (q6.2) 1004 (l0))) ((x5) + ((0 : Int32))).toNatClampNeg) = (69 : Int32) then ((f_X9_want (l0) ((10 : Int32)) (q6.1) ((0 : Int32)) (q6.2)).bind (fun q18 => some (q18.1, q18.2))) else (if (zE (q6.2) (zR (q6.2) 501 (zR (q6.2) 1004 (l0))) ((x5) + ((0 : Int32))).toNatClampNeg) = (83 : Int32) then ((f_X9_hasKin (l0) (q6.1) (q6.2)).bind (fun q20 => if (q20.1) = (0) then (some ((-1 : Int32), q20.2)) else (ck (isO (q20.2) (l0) 10) ((f_X9_value (l0) ((x5) + ((6 : Int32))) (q20.2)).bind (fun q22 => ck (isO (q22.2) (l0) 10) ((f_X9_want (l0) ((9 : Int32)) (q6.1) (q22.1) (q22.2)).bind (fun q24 => some (q24.1, q24.2)))))))) else (if (zE (q6.2) (zR (q6.2) 501 (zR (q6.2) 1004 (l0))) ((x5) + ((0 : Int32))).toNatClampNeg) = (84 : Int32) then ((f_X9_want (l0) ((4 : Int32)) ((l1) + ((if (q6.1) < ((0 : Int32)) then ((0 : Int32)) else (q6.1)))) ((0 : Int32)) (q6.2)).bind (fun q27 => some (q27.1, q27.2))) else (some ((-1 : Int32), q6.2))))))))))))) else ((f_X9_want (l0) ((12 : Int32)) ((-1 : Int32)) ((0 : Int32)) (h)).bind (fun q28 => some (q28.1, q28.2)))) else ((f_X9_want (l0) ((10 : Int32)) ((0 : Int32)) ((0 : Int32)) (h)).bind (fun q29 => some (q29.1, q29.2)))))
theorem f_X9_wish_ok {G : Gd} {d : Nat} (hj : 2 ≤ d) : ∀ (l0 : Nat) (l1 : Int32) (L : List (Nat × Value)) (h : Hp) (o : (Int32 × Hp)), zlk L 0 = some (zrf (l0)) → zlk L 1 = some (.int (l1)) → f_X9_wish l0 l1 h = some o → Ev G M_X9_wish d 0 L [] h (Ret Y_X9_wish (some (.int o.1)) o.2) := by
  intro l0 l1 L h o g0 g1 e
  unfold f_X9_wish at e
  refine g_ald_n d_X9_wish_0 rfl g0 ?_
  replace e := ckd e
  obtain ⟨k1, e⟩ := e
  refine g_getI d_X9_wish_1 (f := 1005) k1 fk_8_53 rfl rfl ?_
  refine g_ald_n d_X9_wish_4 rfl g0 ?_
  refine g_getR d_X9_wish_5 (f := 1004) k1 fk_8_33 rfl rfl ?_
  replace e := ckd e
  obtain ⟨k2, e⟩ := e
  refine g_getI d_X9_wish_8 (f := 500) k2 fk_8_109 rfl rfl ?_
  refine r_icmp_lt d_X9_wish_11 (tgt := 23) (by decide) (fun c3 => ?_) (fun c3 => ?_)
  · replace e := (if_pos c3).symm.trans e
    refine g_ald_n d_X9_wish_23 rfl g0 ?_
    refine g_getI d_X9_wish_24 (f := 1006) k1 fk_8_56 rfl rfl ?_
    refine r_sipush d_X9_wish_27 (v := (200 : Int32)) (by decide +kernel) ?_
    refine r_icmp_lt d_X9_wish_30 (tgt := 42) (by decide) (fun c4 => ?_) (fun c4 => ?_)
    · replace e := (if_pos c4).symm.trans e
      refine g_ald_n d_X9_wish_42 rfl g0 ?_
      refine g_getI d_X9_wish_43 (f := 1005) k1 fk_8_53 rfl rfl ?_
      refine r_bipush d_X9_wish_46 (v := (8 : Int32)) (by decide +kernel) ?_
      refine r_imul d_X9_wish_48 ?_
      replace e := bhd e
      obtain ⟨_, rfl, e⟩ := e
      refine s_istore_n d_X9_wish_49 rfl (by decide) (fun L g2 gK => ?_)
      replace g0 := gK _ _ (by decide) (Or.inr (zrf_cat _)) g0
      replace g1 := gK _ _ (by decide) (Or.inr rfl) g1
      refine g_ald_n d_X9_wish_50 rfl g0 ?_
      refine r_iload_n d_X9_wish_51 rfl g2 ?_
      refine r_iconst d_X9_wish_52 (v := (4 : Int32)) (by decide +kernel) ?_
      refine r_iadd d_X9_wish_53 ?_
      replace e := bd e
      obtain ⟨q6, eq6, e⟩ := e
      refine g_callV d_X9_wish_54 vk_8_118 (as := [_]) rfl k1 rfl (by simp [zrf_cat, cat_int, cat_long]) (j := 1) (by omega) (c_X9_value (by omega) eq6) ?_
      refine s_istore_n d_X9_wish_57 rfl (by decide) (fun L g3 gK => ?_)
      replace g0 := gK _ _ (by decide) (Or.inr (zrf_cat _)) g0
      replace g1 := gK _ _ (by decide) (Or.inr rfl) g1
      replace g2 := gK _ _ (by decide) (Or.inr rfl) g2
      refine g_ald_n d_X9_wish_58 rfl g0 ?_
      replace e := ckd e
      obtain ⟨k7, e⟩ := e
      refine g_getR d_X9_wish_59 (f := 1004) k7 fk_8_33 rfl rfl ?_
      replace e := ckd e
      obtain ⟨k8, e⟩ := e
      refine g_getR d_X9_wish_62 (f := 501) k8 fk_8_121 rfl rfl ?_
      refine r_iload_n d_X9_wish_65 rfl g2 ?_
      refine r_iconst d_X9_wish_66 (v := (0 : Int32)) (by decide +kernel) ?_
      refine r_iadd d_X9_wish_67 ?_
      replace e := ckd e
      obtain ⟨k9, e⟩ := e
      replace e := ckd e
      obtain ⟨k10, e⟩ := e
      refine g_iald d_X9_wish_68 k9 k10 rfl ?_
      rcases ite_or e with ⟨c11, e⟩ | ⟨c11, e⟩
      · refine r_lookup d_X9_wish_69 (off := 51) (tgt := 120) (by decide +kernel) (by rw [c11] <;> rfl) (by decide) ?_
        refine g_ald_n d_X9_wish_120 rfl g0 ?_
        refine r_iconst d_X9_wish_121 (v := (1 : Int32)) (by decide +kernel) ?_
        refine g_ald_n d_X9_wish_122 rfl g0 ?_
        refine g_getR d_X9_wish_123 (f := 1004) k7 fk_8_33 rfl rfl ?_
        refine g_getR d_X9_wish_126 (f := 501) k8 fk_8_121 rfl rfl ?_
        refine r_iload_n d_X9_wish_129 rfl g2 ?_
        refine r_iconst d_X9_wish_130 (v := (2 : Int32)) (by decide +kernel) ?_
        refine r_iadd d_X9_wish_131 ?_
        replace e := ckd e
        obtain ⟨k12, e⟩ := e
        refine g_iald d_X9_wish_132 k9 k12 rfl ?_
        refine r_iload_n d_X9_wish_133 rfl g3 ?_
        replace e := bd e
        obtain ⟨q13, eq13, e⟩ := e
        refine g_callV d_X9_wish_134 vk_8_114 (as := [_, _, _]) rfl k7 rfl (by simp [zrf_cat, cat_int, cat_long]) (j := 1) (by omega) (c_X9_want (by omega) eq13) ?_
        obtain rfl := Option.some.inj e
        exact g_iret d_X9_wish_137 rfl rfl
      · rcases ite_or e with ⟨c14, e⟩ | ⟨c14, e⟩
        · refine r_lookup d_X9_wish_69 (off := 83) (tgt := 152) (by decide +kernel) (by rw [c14] <;> rfl) (by decide) ?_
          refine g_ald_n d_X9_wish_152 rfl g0 ?_
          refine r_bipush d_X9_wish_153 (v := (6 : Int32)) (by decide +kernel) ?_
          refine g_ald_n d_X9_wish_155 rfl g0 ?_
          refine g_getR d_X9_wish_156 (f := 1004) k7 fk_8_33 rfl rfl ?_
          refine g_getR d_X9_wish_159 (f := 501) k8 fk_8_121 rfl rfl ?_
          refine r_iload_n d_X9_wish_162 rfl g2 ?_
          refine r_iconst d_X9_wish_163 (v := (2 : Int32)) (by decide +kernel) ?_
          refine r_iadd d_X9_wish_164 ?_
          replace e := ckd e
          obtain ⟨k15, e⟩ := e
          refine g_iald d_X9_wish_165 k9 k15 rfl ?_
          refine r_iload_n d_X9_wish_166 rfl g3 ?_
          replace e := bd e
          obtain ⟨q16, eq16, e⟩ := e
          refine g_callV d_X9_wish_167 vk_8_114 (as := [_, _, _]) rfl k7 rfl (by simp [zrf_cat, cat_int, cat_long]) (j := 1) (by omega) (c_X9_want (by omega) eq16) ?_
          obtain rfl := Option.some.inj e
          exact g_iret d_X9_wish_170 rfl rfl
        · rcases ite_or e with ⟨c17, e⟩ | ⟨c17, e⟩
          · refine r_lookup d_X9_wish_69 (off := 130) (tgt := 199) (by decide +kernel) (by rw [c17] <;> rfl) (by decide) ?_
            refine g_ald_n d_X9_wish_199 rfl g0 ?_
            refine r_bipush d_X9_wish_200 (v := (10 : Int32)) (by decide +kernel) ?_
            refine r_iload_n d_X9_wish_202 rfl g3 ?_
            refine r_iconst d_X9_wish_203 (v := (0 : Int32)) (by decide +kernel) ?_
            replace e := bd e
            obtain ⟨q18, eq18, e⟩ := e
            refine g_callV d_X9_wish_204 vk_8_114 (as := [_, _, _]) rfl k7 rfl (by simp [zrf_cat, cat_int, cat_long]) (j := 1) (by omega) (c_X9_want (by omega) eq18) ?_
            obtain rfl := Option.some.inj e
            exact g_iret d_X9_wish_207 rfl rfl
          · rcases ite_or e with ⟨c19, e⟩ | ⟨c19, e⟩
            · refine r_lookup d_X9_wish_69 (off := 102) (tgt := 171) (by decide +kernel) (by rw [c19] <;> rfl) (by decide) ?_
              refine g_ald_n d_X9_wish_171 rfl g0 ?_
              refine r_iload_n d_X9_wish_172 rfl g3 ?_
              replace e := bd e
              obtain ⟨q20, eq20, e⟩ := e
              refine g_callV d_X9_wish_173 vk_8_127 (as := [_]) rfl k7 rfl (by simp [zrf_cat, cat_int, cat_long]) (j := 1) (by omega) (c_X9_hasKin (by omega) eq20) ?_
              refine r_if_eq d_X9_wish_176 (tgt := 197) (by decide) (fun c21 => ?_) (fun c21 => ?_)
              · replace e := (if_pos c21).symm.trans e
                refine r_iconst d_X9_wish_197 (v := (-1 : Int32)) (by decide +kernel) ?_
                obtain rfl := Option.some.inj e
                exact g_iret d_X9_wish_198 rfl rfl
              · replace e := (if_neg c21).symm.trans e
                refine g_ald_n d_X9_wish_179 rfl g0 ?_
                refine r_bipush d_X9_wish_180 (v := (9 : Int32)) (by decide +kernel) ?_
                refine r_iload_n d_X9_wish_182 rfl g3 ?_
                refine g_ald_n d_X9_wish_183 rfl g0 ?_
                refine r_iload_n d_X9_wish_184 rfl g2 ?_
                refine r_bipush d_X9_wish_185 (v := (6 : Int32)) (by decide +kernel) ?_
                refine r_iadd d_X9_wish_187 ?_
                replace e := ckd e
                obtain ⟨k23, e⟩ := e
                replace e := bd e
                obtain ⟨q22, eq22, e⟩ := e
                refine g_callV d_X9_wish_188 vk_8_118 (as := [_]) rfl k23 rfl (by simp [zrf_cat, cat_int, cat_long]) (j := 1) (by omega) (c_X9_value (by omega) eq22) ?_
                replace e := ckd e
                obtain ⟨k25, e⟩ := e
                replace e := bd e
                obtain ⟨q24, eq24, e⟩ := e
                refine g_callV d_X9_wish_191 vk_8_114 (as := [_, _, _]) rfl k25 rfl (by simp [zrf_cat, cat_int, cat_long]) (j := 1) (by omega) (c_X9_want (by omega) eq24) ?_
                refine r_goto d_X9_wish_194 (tgt := 198) (by decide) ?_
                obtain rfl := Option.some.inj e
                exact g_iret d_X9_wish_198 rfl rfl
            · rcases ite_or e with ⟨c26, e⟩ | ⟨c26, e⟩
              · refine r_lookup d_X9_wish_69 (off := 69) (tgt := 138) (by decide +kernel) (by rw [c26] <;> rfl) (by decide) ?_
                refine g_ald_n d_X9_wish_138 rfl g0 ?_
                refine r_iconst d_X9_wish_139 (v := (4 : Int32)) (by decide +kernel) ?_
                refine r_iload_n d_X9_wish_140 rfl g1 ?_
                refine r_iload_n d_X9_wish_141 rfl g3 ?_
                refine r_iconst d_X9_wish_142 (v := (0 : Int32)) (by decide +kernel) ?_
                refine g_mmax d_X9_wish_143 (by decide +kernel) (by omega) (by simp [zrf_cat, cat_int, cat_long]) ?_
                refine r_iadd d_X9_wish_146 ?_
                refine r_iconst d_X9_wish_147 (v := (0 : Int32)) (by decide +kernel) ?_
                replace e := bd e
                obtain ⟨q27, eq27, e⟩ := e
                refine g_callV d_X9_wish_148 vk_8_114 (as := [_, _, _]) rfl k7 rfl (by simp [zrf_cat, cat_int, cat_long]) (j := 1) (by omega) (c_X9_want (by omega) eq27) ?_
                obtain rfl := Option.some.inj e
                exact g_iret d_X9_wish_151 rfl rfl
              · refine r_lookup d_X9_wish_69 (off := 139) (tgt := 208) (by decide +kernel) (by rw [lv_osw c11 (by decide +kernel), lv_osw c14 (by decide +kernel), lv_osw c17 (by decide +kernel), lv_osw c19 (by decide +kernel), lv_osw c26 (by decide +kernel)] <;> rfl) (by decide) ?_
                refine r_iconst d_X9_wish_208 (v := (-1 : Int32)) (by decide +kernel) ?_
                obtain rfl := Option.some.inj e
                exact g_iret d_X9_wish_209 rfl rfl
    · replace e := (if_neg c4).symm.trans e
      refine g_ald_n d_X9_wish_33 rfl g0 ?_
      refine r_bipush d_X9_wish_34 (v := (12 : Int32)) (by decide +kernel) ?_
      refine r_iconst d_X9_wish_36 (v := (-1 : Int32)) (by decide +kernel) ?_
      refine r_iconst d_X9_wish_37 (v := (0 : Int32)) (by decide +kernel) ?_
      replace e := bd e
      obtain ⟨q28, eq28, e⟩ := e
      refine g_callV d_X9_wish_38 vk_8_114 (as := [_, _, _]) rfl k1 rfl (by simp [zrf_cat, cat_int, cat_long]) (j := 1) (by omega) (c_X9_want (by omega) eq28) ?_
      obtain rfl := Option.some.inj e
      exact g_iret d_X9_wish_41 rfl rfl
  · replace e := (if_neg c3).symm.trans e
    refine g_ald_n d_X9_wish_14 rfl g0 ?_
    refine r_bipush d_X9_wish_15 (v := (10 : Int32)) (by decide +kernel) ?_
    refine r_iconst d_X9_wish_17 (v := (0 : Int32)) (by decide +kernel) ?_
    refine r_iconst d_X9_wish_18 (v := (0 : Int32)) (by decide +kernel) ?_
    replace e := bd e
    obtain ⟨q29, eq29, e⟩ := e
    refine g_callV d_X9_wish_19 vk_8_114 (as := [_, _, _]) rfl k1 rfl (by simp [zrf_cat, cat_int, cat_long]) (j := 1) (by omega) (c_X9_want (by omega) eq29) ?_
    obtain rfl := Option.some.inj e
    exact g_iret d_X9_wish_22 rfl rfl

theorem c_X9_wish {G : Gd} {j : Nat} (hj : 2 ≤ j) {l0 : Nat} {l1 : Int32} {h : Hp} {o : (Int32 × Hp)} (e : f_X9_wish l0 l1 h = some o) : Cal G j Y_X9_wish [zrf (l0), .int (l1)] h (some (.int o.1)) o.2 := Cal.of (n := 0) (I := false) (by first | exact Or.inl (by decide +kernel) | exact Or.inr (by decide +kernel)) (by decide) (by simp [lg_sl, zrf_cat, cat_int, cat_long]) (f_X9_wish_ok hj _ _ _ h o (by simp [lv_args, zlk, zrf_cat, cat_int, cat_long]) (by simp [lv_args, zlk, zrf_cat, cat_int, cat_long]) e)
theorem vk_8_102 : Vk "TaskWeave$Workflow" 102 1 10 Y_X9_wish := ⟨yk_X9_wish, by decide +kernel, by decide +kernel, by decide +kernel, by decide⟩
theorem vk_8_106 : Vk "TaskWeave$Workflow" 106 0 10 Y_X9_walk := ⟨yk_X9_walk, by decide +kernel, by decide +kernel, by decide +kernel, by decide⟩
def f_X9_run_2 : Nat → Nat → Int32 → Int32 → Hp → Option (Int32 × Hp)
  | 0, _, _, _, _ => none
  | n + 1, l0, l1, l2, h => if ((200 : Int32)) < (l2) then (some ((-1 : Int32), h)) else (ck (isO (h) (l0) 10) (if (zI (h) 1007 (l0)) = ((5 : Int32)) then (if (zR (h) 1004 (l0)) = 0 then (some ((-1 : Int32), h)) else ((f_X9_wish (l0) (l1) (h)).bind (fun q5 => if (q5.1) = ((-1 : Int32)) then (ck (isO (q5.2) (l0) 10) ((f_X9_walk (l0) (q5.2)).bind (fun q7 => bh ((l2) + (1 : Int32)) (fun x9 => f_X9_run_2 n (l0) (l1) (x9) (q7))))) else (some (q5.1, q5.2))))) else (some ((-1 : Int32), h))))
theorem f_X9_run_2_ok {G : Gd} {d : Nat} (hj : 3 ≤ d) : ∀ (n : Nat) (l0 : Nat) (l1 : Int32) (l2 : Int32) (L : List (Nat × Value)) (h : Hp) (o : (Int32 × Hp)), zlk L 0 = some (zrf (l0)) → zlk L 1 = some (.int (l1)) → zlk L 2 = some (.int (l2)) → f_X9_run_2 n l0 l1 l2 h = some o → Ev G M_X9_run d 2 L [] h (Ret Y_X9_run (some (.int o.1)) o.2) := by
  intro n
  induction n with
  | zero =>
    intro l0 l1 l2 L h o g0 g1 g2 e
    cases e
  | succ n ih =>
    intro l0 l1 l2 L h o g0 g1 g2 e
    unfold f_X9_run_2 at e
    refine r_iload_n d_X9_run_2 rfl g2 ?_
    refine r_sipush d_X9_run_3 (v := (200 : Int32)) (by decide +kernel) ?_
    refine r_icmp_gt d_X9_run_6 (tgt := 47) (by decide) (fun c1 => ?_) (fun c1 => ?_)
    · replace e := (if_pos c1).symm.trans e
      refine r_iconst d_X9_run_47 (v := (-1 : Int32)) (by decide +kernel) ?_
      obtain rfl := Option.some.inj e
      exact g_iret d_X9_run_48 rfl rfl
    · replace e := (if_neg c1).symm.trans e
      refine g_ald_n d_X9_run_9 rfl g0 ?_
      replace e := ckd e
      obtain ⟨k2, e⟩ := e
      refine g_getI d_X9_run_10 (f := 1007) k2 fk_8_59 rfl rfl ?_
      refine r_iconst d_X9_run_13 (v := (5 : Int32)) (by decide +kernel) ?_
      refine r_icmp_ne d_X9_run_14 (tgt := 47) (by decide) (fun c3 => ?_) (fun c3 => ?_)
      · replace e := (if_neg c3).symm.trans e
        refine r_iconst d_X9_run_47 (v := (-1 : Int32)) (by decide +kernel) ?_
        obtain rfl := Option.some.inj e
        exact g_iret d_X9_run_48 rfl rfl
      · replace e := (if_pos c3).symm.trans e
        refine g_ald_n d_X9_run_17 rfl g0 ?_
        refine g_getR d_X9_run_18 (f := 1004) k2 fk_8_33 rfl rfl ?_
        refine g_ifnull d_X9_run_21 (tgt := 47) (by decide) (fun c4 => ?_) (fun c4 => ?_)
        · replace e := (if_pos c4).symm.trans e
          refine r_iconst d_X9_run_47 (v := (-1 : Int32)) (by decide +kernel) ?_
          obtain rfl := Option.some.inj e
          exact g_iret d_X9_run_48 rfl rfl
        · replace e := (if_neg c4).symm.trans e
          refine g_ald_n d_X9_run_24 rfl g0 ?_
          refine r_iload_n d_X9_run_25 rfl g1 ?_
          replace e := bd e
          obtain ⟨q5, eq5, e⟩ := e
          refine g_callV d_X9_run_26 vk_8_102 (as := [_]) rfl k2 rfl (by simp [zrf_cat, cat_int, cat_long]) (j := 2) (by omega) (c_X9_wish (by omega) eq5) ?_
          refine s_istore_n d_X9_run_29 rfl (by decide) (fun L g3 gK => ?_)
          replace g0 := gK _ _ (by decide) (Or.inr (zrf_cat _)) g0
          replace g1 := gK _ _ (by decide) (Or.inr rfl) g1
          replace g2 := gK _ _ (by decide) (Or.inr rfl) g2
          refine r_iload_n d_X9_run_30 rfl g3 ?_
          refine r_iconst d_X9_run_31 (v := (-1 : Int32)) (by decide +kernel) ?_
          refine r_icmp_eq d_X9_run_32 (tgt := 37) (by decide) (fun c6 => ?_) (fun c6 => ?_)
          · replace e := (if_pos c6).symm.trans e
            refine g_ald_n d_X9_run_37 rfl g0 ?_
            replace e := ckd e
            obtain ⟨k8, e⟩ := e
            replace e := bd e
            obtain ⟨q7, eq7, e⟩ := e
            refine g_callV d_X9_run_38 vk_8_106 (as := []) rfl k8 rfl (by simp [zrf_cat, cat_int, cat_long]) (j := 2) (by omega) (c_X9_walk (by omega) eq7) ?_
            replace e := bhd e
            obtain ⟨_, rfl, e⟩ := e
            refine s_iinc d_X9_run_41 g2 (w := (1 : Int32)) (by decide +kernel) (by decide) (fun L g2 gK => ?_)
            replace g0 := gK _ _ (by decide) (Or.inr (zrf_cat _)) g0
            replace g1 := gK _ _ (by decide) (Or.inr rfl) g1
            refine r_goto d_X9_run_44 (tgt := 2) (by decide) ?_
            exact ih _ _ _ _ _ _ g0 g1 g2 e
          · replace e := (if_neg c6).symm.trans e
            refine r_iload_n d_X9_run_35 rfl g3 ?_
            obtain rfl := Option.some.inj e
            exact g_iret d_X9_run_36 rfl rfl

def f_X9_run (l0 : Nat) (l1 : Int32) (h : Hp) : Option (Int32 × Hp) := f_X9_run_2 fz (l0) (l1) ((0 : Int32)) (h)
theorem f_X9_run_ok {G : Gd} {d : Nat} (hj : 3 ≤ d) : ∀ (l0 : Nat) (l1 : Int32) (L : List (Nat × Value)) (h : Hp) (o : (Int32 × Hp)), zlk L 0 = some (zrf (l0)) → zlk L 1 = some (.int (l1)) → f_X9_run l0 l1 h = some o → Ev G M_X9_run d 0 L [] h (Ret Y_X9_run (some (.int o.1)) o.2) := by
  intro l0 l1 L h o g0 g1 e
  unfold f_X9_run at e
  refine r_iconst d_X9_run_0 (v := (0 : Int32)) (by decide +kernel) ?_
  refine s_istore_n d_X9_run_1 rfl (by decide) (fun L g2 gK => ?_)
  replace g0 := gK _ _ (by decide) (Or.inr (zrf_cat _)) g0
  replace g1 := gK _ _ (by decide) (Or.inr rfl) g1
  exact f_X9_run_2_ok hj _ _ _ _ _ _ _ g0 g1 g2 e

theorem c_X9_run {G : Gd} {j : Nat} (hj : 3 ≤ j) {l0 : Nat} {l1 : Int32} {h : Hp} {o : (Int32 × Hp)} (e : f_X9_run l0 l1 h = some o) : Cal G j Y_X9_run [zrf (l0), .int (l1)] h (some (.int o.1)) o.2 := Cal.of (n := 0) (I := false) (by first | exact Or.inl (by decide +kernel) | exact Or.inr (by decide +kernel)) (by decide) (by simp [lg_sl, zrf_cat, cat_int, cat_long]) (f_X9_run_ok hj _ _ _ h o (by simp [lv_args, zlk, zrf_cat, cat_int, cat_long]) (by simp [lv_args, zlk, zrf_cat, cat_int, cat_long]) e)
theorem vk_5_144 : Vk "TaskWeave$Shard" 144 1 10 Y_X9_run := ⟨yk_X9_run, by decide +kernel, by decide +kernel, by decide +kernel, by decide⟩
theorem fk_5_148 : Fk "TaskWeave$Shard" 148 1012 := ⟨by decide, by decide, by decide +kernel⟩
theorem fk_5_151 : Fk "TaskWeave$Shard" 151 1013 := ⟨by decide, by decide, by decide +kernel⟩
theorem vk_5_154 : Vk "TaskWeave$Shard" 154 5 7 Y_X6_happen := ⟨yk_X6_happen, by decide +kernel, by decide +kernel, by decide +kernel, by decide⟩
def f_X6_goOn_58 (K14 : Nat → Nat → Int32 → Int32 → Hp → Option Hp) (s0 : Int32) (l0 : Nat) (l1 : Nat) (l3 : Int32) (h : Hp) : Option Hp := bh ((l3) + (1 : Int32)) (fun x15 => K14 (l0) (l1) (s0) (x15) (h))
theorem f_X6_goOn_58_ok {G : Gd} {d : Nat} (K14 : Nat → Nat → Int32 → Int32 → Hp → Option Hp) (hj : 5 ≤ d) (hK14 : ∀ (l0 : Nat) (l1 : Nat) (l2 : Int32) (l3 : Int32) (L : List (Nat × Value)) (h : Hp) (o : Hp), zlk L 0 = some (zrf (l0)) → zlk L 1 = some (zrf (l1)) → zlk L 2 = some (.int (l2)) → zlk L 3 = some (.int (l3)) → K14 l0 l1 l2 l3 h = some o → Ev G M_X6_goOn d 14 L [] h (Ret Y_X6_goOn none o)) : ∀ (s0 : Int32) (l0 : Nat) (l1 : Nat) (l3 : Int32) (L : List (Nat × Value)) (h : Hp) (o : Hp), zlk L 0 = some (zrf (l0)) → zlk L 1 = some (zrf (l1)) → zlk L 3 = some (.int (l3)) → f_X6_goOn_58 K14 s0 l0 l1 l3 h = some o → Ev G M_X6_goOn d 58 L [.int (s0)] h (Ret Y_X6_goOn none o) := by
  intro s0 l0 l1 l3 L h o g0 g1 g3 e
  unfold f_X6_goOn_58 at e
  refine s_istore_n d_X6_goOn_58 rfl (by decide) (fun L g2 gK => ?_)
  replace g0 := gK _ _ (by decide) (Or.inr (zrf_cat _)) g0
  replace g1 := gK _ _ (by decide) (Or.inr (zrf_cat _)) g1
  replace g3 := gK _ _ (by decide) (Or.inr rfl) g3
  replace e := bhd e
  obtain ⟨_, rfl, e⟩ := e
  refine s_iinc d_X6_goOn_59 g3 (w := (1 : Int32)) (by decide +kernel) (by decide) (fun L g3 gK => ?_)
  replace g0 := gK _ _ (by decide) (Or.inr (zrf_cat _)) g0
  replace g1 := gK _ _ (by decide) (Or.inr (zrf_cat _)) g1
  replace g2 := gK _ _ (by decide) (Or.inr rfl) g2
  refine r_goto d_X6_goOn_62 (tgt := 14) (by decide) ?_
  exact hK14 _ _ _ _ _ _ _ g0 g1 g2 g3 e

def f_X6_goOn_14 : Nat → Nat → Nat → Int32 → Int32 → Hp → Option Hp
  | 0, _, _, _, _, _ => none
  | n + 1, l0, l1, l2, l3, h => if ((60 : Int32)) ≤ (l3) then (some (h)) else (if (l2) = ((-1 : Int32)) then (some (h)) else (ck (isO (h) (l1) 10) (ck (isO (h) (l0) 7) ((f_X6_happen (l0) (l1) (l2) (zI (h) 1012 (l1)) (zI (h) 1013 (l1)) ((0 : Int32)) (h)).bind (fun q8 => if (q8.1) = (0) then (f_X6_goOn_58 (f_X6_goOn_14 n) ((-1 : Int32)) (l0) (l1) (l3) (q8.2)) else (ck (isO (q8.2) (l0) 7) (ck (isO (q8.2) (zR (q8.2) 701 (l0)) 1) (ck (isO (q8.2) (l1) 10) ((f_X9_run (l1) (zI (q8.2) 100 (zR (q8.2) 701 (l0))) (q8.2)).bind (fun q13 => f_X6_goOn_58 (f_X6_goOn_14 n) (q13.1) (l0) (l1) (l3) (q13.2)))))))))))
theorem f_X6_goOn_14_ok {G : Gd} {d : Nat} (hj : 5 ≤ d) : ∀ (n : Nat) (l0 : Nat) (l1 : Nat) (l2 : Int32) (l3 : Int32) (L : List (Nat × Value)) (h : Hp) (o : Hp), zlk L 0 = some (zrf (l0)) → zlk L 1 = some (zrf (l1)) → zlk L 2 = some (.int (l2)) → zlk L 3 = some (.int (l3)) → f_X6_goOn_14 n l0 l1 l2 l3 h = some o → Ev G M_X6_goOn d 14 L [] h (Ret Y_X6_goOn none o) := by
  intro n
  induction n with
  | zero =>
    intro l0 l1 l2 l3 L h o g0 g1 g2 g3 e
    cases e
  | succ n ih =>
    intro l0 l1 l2 l3 L h o g0 g1 g2 g3 e
    unfold f_X6_goOn_14 at e
    refine r_iload_n d_X6_goOn_14 rfl g3 ?_
    refine r_bipush d_X6_goOn_15 (v := (60 : Int32)) (by decide +kernel) ?_
    refine r_icmp_ge d_X6_goOn_17 (tgt := 65) (by decide) (fun c5 => ?_) (fun c5 => ?_)
    · replace e := (if_pos c5).symm.trans e
      obtain rfl := Option.some.inj e
      exact g_vret d_X6_goOn_65 rfl
    · replace e := (if_neg c5).symm.trans e
      refine r_iload_n d_X6_goOn_20 rfl g2 ?_
      refine r_iconst d_X6_goOn_21 (v := (-1 : Int32)) (by decide +kernel) ?_
      refine r_icmp_eq d_X6_goOn_22 (tgt := 65) (by decide) (fun c6 => ?_) (fun c6 => ?_)
      · replace e := (if_pos c6).symm.trans e
        obtain rfl := Option.some.inj e
        exact g_vret d_X6_goOn_65 rfl
      · replace e := (if_neg c6).symm.trans e
        refine g_ald_n d_X6_goOn_25 rfl g0 ?_
        refine g_ald_n d_X6_goOn_26 rfl g1 ?_
        refine r_iload_n d_X6_goOn_27 rfl g2 ?_
        refine g_ald_n d_X6_goOn_28 rfl g1 ?_
        replace e := ckd e
        obtain ⟨k7, e⟩ := e
        refine g_getI d_X6_goOn_29 (f := 1012) k7 fk_5_148 rfl rfl ?_
        refine g_ald_n d_X6_goOn_32 rfl g1 ?_
        refine g_getI d_X6_goOn_33 (f := 1013) k7 fk_5_151 rfl rfl ?_
        refine r_iconst d_X6_goOn_36 (v := (0 : Int32)) (by decide +kernel) ?_
        replace e := ckd e
        obtain ⟨k9, e⟩ := e
        replace e := bd e
        obtain ⟨q8, eq8, e⟩ := e
        refine g_callV d_X6_goOn_37 vk_5_154 (as := [_, _, _, _, _]) rfl k9 rfl (by simp [zrf_cat, cat_int, cat_long]) (j := 4) (by omega) (c_X6_happen (by omega) eq8) ?_
        refine r_if_eq d_X6_goOn_40 (tgt := 57) (by decide) (fun c10 => ?_) (fun c10 => ?_)
        · replace e := (if_pos c10).symm.trans e
          refine r_iconst d_X6_goOn_57 (v := (-1 : Int32)) (by decide +kernel) ?_
          exact f_X6_goOn_58_ok _ hj ih _ _ _ _ _ _ _ g0 g1 g3 e
        · replace e := (if_neg c10).symm.trans e
          refine g_ald_n d_X6_goOn_43 rfl g1 ?_
          refine g_ald_n d_X6_goOn_44 rfl g0 ?_
          replace e := ckd e
          obtain ⟨k11, e⟩ := e
          refine g_getR d_X6_goOn_45 (f := 701) k11 fk_5_41 rfl rfl ?_
          replace e := ckd e
          obtain ⟨k12, e⟩ := e
          refine g_getI d_X6_goOn_48 (f := 100) k12 fk_5_127 rfl rfl ?_
          replace e := ckd e
          obtain ⟨k14, e⟩ := e
          replace e := bd e
          obtain ⟨q13, eq13, e⟩ := e
          refine g_callV d_X6_goOn_51 vk_5_144 (as := [_]) rfl k14 rfl (by simp [zrf_cat, cat_int, cat_long]) (j := 3) (by omega) (c_X9_run (by omega) eq13) ?_
          refine r_goto d_X6_goOn_54 (tgt := 58) (by decide) ?_
          exact f_X6_goOn_58_ok _ hj ih _ _ _ _ _ _ _ g0 g1 g3 e

def f_X6_goOn (l0 : Nat) (l1 : Nat) (h : Hp) : Option Hp := ck (isO (h) (l0) 7) (ck (isO (h) (zR (h) 701 (l0)) 1) (ck (isO (h) (l1) 10) ((f_X9_run (l1) (zI (h) 100 (zR (h) 701 (l0))) (h)).bind (fun q3 => f_X6_goOn_14 fz (l0) (l1) (q3.1) ((0 : Int32)) (q3.2)))))
theorem f_X6_goOn_ok {G : Gd} {d : Nat} (hj : 5 ≤ d) : ∀ (l0 : Nat) (l1 : Nat) (L : List (Nat × Value)) (h : Hp) (o : Hp), zlk L 0 = some (zrf (l0)) → zlk L 1 = some (zrf (l1)) → f_X6_goOn l0 l1 h = some o → Ev G M_X6_goOn d 0 L [] h (Ret Y_X6_goOn none o) := by
  intro l0 l1 L h o g0 g1 e
  unfold f_X6_goOn at e
  refine g_ald_n d_X6_goOn_0 rfl g1 ?_
  refine g_ald_n d_X6_goOn_1 rfl g0 ?_
  replace e := ckd e
  obtain ⟨k1, e⟩ := e
  refine g_getR d_X6_goOn_2 (f := 701) k1 fk_5_41 rfl rfl ?_
  replace e := ckd e
  obtain ⟨k2, e⟩ := e
  refine g_getI d_X6_goOn_5 (f := 100) k2 fk_5_127 rfl rfl ?_
  replace e := ckd e
  obtain ⟨k4, e⟩ := e
  replace e := bd e
  obtain ⟨q3, eq3, e⟩ := e
  refine g_callV d_X6_goOn_8 vk_5_144 (as := [_]) rfl k4 rfl (by simp [zrf_cat, cat_int, cat_long]) (j := 3) (by omega) (c_X9_run (by omega) eq3) ?_
  refine s_istore_n d_X6_goOn_11 rfl (by decide) (fun L g2 gK => ?_)
  replace g0 := gK _ _ (by decide) (Or.inr (zrf_cat _)) g0
  replace g1 := gK _ _ (by decide) (Or.inr (zrf_cat _)) g1
  refine r_iconst d_X6_goOn_12 (v := (0 : Int32)) (by decide +kernel) ?_
  refine s_istore_n d_X6_goOn_13 rfl (by decide) (fun L g3 gK => ?_)
  replace g0 := gK _ _ (by decide) (Or.inr (zrf_cat _)) g0
  replace g1 := gK _ _ (by decide) (Or.inr (zrf_cat _)) g1
  replace g2 := gK _ _ (by decide) (Or.inr rfl) g2
  exact f_X6_goOn_14_ok hj _ _ _ _ _ _ _ _ g0 g1 g2 g3 e

theorem c_X6_goOn {G : Gd} {j : Nat} (hj : 5 ≤ j) {l0 : Nat} {l1 : Nat} {h : Hp} {o : Hp} (e : f_X6_goOn l0 l1 h = some o) : Cal G j Y_X6_goOn [zrf (l0), zrf (l1)] h none o := Cal.of (n := 0) (I := false) (by first | exact Or.inl (by decide +kernel) | exact Or.inr (by decide +kernel)) (by decide) (by simp [lg_sl, zrf_cat, cat_int, cat_long]) (f_X6_goOn_ok hj _ _ _ h o (by simp [lv_args, zlk, zrf_cat, cat_int, cat_long]) (by simp [lv_args, zlk, zrf_cat, cat_int, cat_long]) e)
theorem vk_5_158 : Vk "TaskWeave$Shard" 158 1 7 Y_X6_goOn := ⟨yk_X6_goOn, by decide +kernel, by decide +kernel, by decide +kernel, by decide⟩
def f_X6_bring (l0 : Nat) (l1 : Nat) (l2 : Int32) (l3 : Int32) (l4 : Int32) (l5 : Int32) (h : Hp) : Option (Int32 × Hp) := ck (isO (h) (l0) 7) ((f_X6_happen (l0) (l1) (l2) (l3) (l4) (l5) (h)).bind (fun q1 => if (q1.1) = (0) then (some ((0 : Int32), q1.2)) else (ck (isO (q1.2) (l0) 7) ((f_X6_goOn (l0) (l1) (q1.2)).bind (fun q4 => some ((1 : Int32), q4))))))
theorem f_X6_bring_ok {G : Gd} {d : Nat} (hj : 6 ≤ d) : ∀ (l0 : Nat) (l1 : Nat) (l2 : Int32) (l3 : Int32) (l4 : Int32) (l5 : Int32) (L : List (Nat × Value)) (h : Hp) (o : (Int32 × Hp)), zlk L 0 = some (zrf (l0)) → zlk L 1 = some (zrf (l1)) → zlk L 2 = some (.int (l2)) → zlk L 3 = some (.int (l3)) → zlk L 4 = some (.int (l4)) → zlk L 5 = some (.int (l5)) → f_X6_bring l0 l1 l2 l3 l4 l5 h = some o → Ev G M_X6_bring d 0 L [] h (Ret Y_X6_bring (some (.int o.1)) o.2) := by
  intro l0 l1 l2 l3 l4 l5 L h o g0 g1 g2 g3 g4 g5 e
  unfold f_X6_bring at e
  refine g_ald_n d_X6_bring_0 rfl g0 ?_
  refine g_ald_n d_X6_bring_1 rfl g1 ?_
  refine r_iload_n d_X6_bring_2 rfl g2 ?_
  refine r_iload_n d_X6_bring_3 rfl g3 ?_
  refine r_iload d_X6_bring_4 g4 ?_
  refine r_iload d_X6_bring_6 g5 ?_
  replace e := ckd e
  obtain ⟨k2, e⟩ := e
  replace e := bd e
  obtain ⟨q1, eq1, e⟩ := e
  refine g_callV d_X6_bring_8 vk_5_154 (as := [_, _, _, _, _]) rfl k2 rfl (by simp [zrf_cat, cat_int, cat_long]) (j := 4) (by omega) (c_X6_happen (by omega) eq1) ?_
  refine r_if_ne d_X6_bring_11 (tgt := 16) (by decide) (fun c3 => ?_) (fun c3 => ?_)
  · replace e := (if_neg c3).symm.trans e
    refine g_ald_n d_X6_bring_16 rfl g0 ?_
    refine g_ald_n d_X6_bring_17 rfl g1 ?_
    replace e := ckd e
    obtain ⟨k5, e⟩ := e
    replace e := bd e
    obtain ⟨q4, eq4, e⟩ := e
    refine g_callV d_X6_bring_18 vk_5_158 (as := [_]) rfl k5 rfl (by simp [zrf_cat, cat_int, cat_long]) (j := 5) (by omega) (c_X6_goOn (by omega) eq4) ?_
    refine r_iconst d_X6_bring_21 (v := (1 : Int32)) (by decide +kernel) ?_
    obtain rfl := Option.some.inj e
    exact g_iret d_X6_bring_22 rfl rfl
  · replace e := (if_pos c3).symm.trans e
    refine r_iconst d_X6_bring_14 (v := (0 : Int32)) (by decide +kernel) ?_
    obtain rfl := Option.some.inj e
    exact g_iret d_X6_bring_15 rfl rfl

theorem c_X6_bring {G : Gd} {j : Nat} (hj : 6 ≤ j) {l0 : Nat} {l1 : Nat} {l2 : Int32} {l3 : Int32} {l4 : Int32} {l5 : Int32} {h : Hp} {o : (Int32 × Hp)} (e : f_X6_bring l0 l1 l2 l3 l4 l5 h = some o) : Cal G j Y_X6_bring [zrf (l0), zrf (l1), .int (l2), .int (l3), .int (l4), .int (l5)] h (some (.int o.1)) o.2 := Cal.of (n := 0) (I := false) (by first | exact Or.inl (by decide +kernel) | exact Or.inr (by decide +kernel)) (by decide) (by simp [lg_sl, zrf_cat, cat_int, cat_long]) (f_X6_bring_ok hj _ _ _ _ _ _ _ h o (by simp [lv_args, zlk, zrf_cat, cat_int, cat_long]) (by simp [lv_args, zlk, zrf_cat, cat_int, cat_long]) (by simp [lv_args, zlk, zrf_cat, cat_int, cat_long]) (by simp [lv_args, zlk, zrf_cat, cat_int, cat_long]) (by simp [lv_args, zlk, zrf_cat, cat_int, cat_long]) (by simp [lv_args, zlk, zrf_cat, cat_int, cat_long]) e)
def f_Jx4a65c_size_8abf5 (l0 : Nat) (h : Hp) : Option (Int32 × Hp) := ck (isO (h) (l0) 0) (some (zI (h) 2 (l0), h))
theorem f_Jx4a65c_size_8abf5_ok {G : Gd} {d : Nat} (hj : 1 ≤ d) : ∀ (l0 : Nat) (L : List (Nat × Value)) (h : Hp) (o : (Int32 × Hp)), zlk L 0 = some (zrf (l0)) → f_Jx4a65c_size_8abf5 l0 h = some o → Ev G M_Jx4a65c_size_8abf5 d 0 L [] h (Ret Y_Jx4a65c_size_8abf5 (some (.int o.1)) o.2) := by
  intro l0 L h o g0 e
  unfold f_Jx4a65c_size_8abf5 at e
  refine g_ald_n d_Jx4a65c_size_8abf5_0 rfl g0 ?_
  replace e := ckd e
  obtain ⟨k1, e⟩ := e
  refine g_getI d_Jx4a65c_size_8abf5_1 (f := 2) k1 fk_12_48 rfl rfl ?_
  obtain rfl := Option.some.inj e
  exact g_iret d_Jx4a65c_size_8abf5_4 rfl rfl

theorem c_Jx4a65c_size_8abf5 {G : Gd} {j : Nat} (hj : 1 ≤ j) {l0 : Nat} {h : Hp} {o : (Int32 × Hp)} (e : f_Jx4a65c_size_8abf5 l0 h = some o) : Cal G j Y_Jx4a65c_size_8abf5 [zrf (l0)] h (some (.int o.1)) o.2 := Cal.of (n := 0) (I := false) (by first | exact Or.inl (by decide +kernel) | exact Or.inr (by decide +kernel)) (by decide) (by simp [lg_sl, zrf_cat, cat_int, cat_long]) (f_Jx4a65c_size_8abf5_ok hj _ _ h o (by simp [lv_args, zlk, zrf_cat, cat_int, cat_long]) e)
def f_J9_floorDiv_7cf53 (l0 : Int32) (l1 : Int32) (h : Hp) : Option (Int32 × Hp) := ck (¬ (l1) = 0) (bh ((l0) / (l1)) (fun x2 => if (0) ≤ ((l0) ^^^ (l1)) then (some (x2, h)) else (if ((x2) * (l1)) = (l0) then (some (x2, h)) else (some ((x2) - ((1 : Int32)), h)))))
theorem f_J9_floorDiv_7cf53_ok {G : Gd} {d : Nat} (hj : 1 ≤ d) : ∀ (l0 : Int32) (l1 : Int32) (L : List (Nat × Value)) (h : Hp) (o : (Int32 × Hp)), zlk L 0 = some (.int (l0)) → zlk L 1 = some (.int (l1)) → f_J9_floorDiv_7cf53 l0 l1 h = some o → Ev G M_J9_floorDiv_7cf53 d 0 L [] h (Ret Y_J9_floorDiv_7cf53 (some (.int o.1)) o.2) := by
  intro l0 l1 L h o g0 g1 e
  unfold f_J9_floorDiv_7cf53 at e
  refine r_iload_n d_J9_floorDiv_7cf53_0 rfl g0 ?_
  refine r_iload_n d_J9_floorDiv_7cf53_1 rfl g1 ?_
  replace e := ckd e
  obtain ⟨k1, e⟩ := e
  refine r_idiv d_J9_floorDiv_7cf53_2 k1 ?_
  replace e := bhd e
  obtain ⟨_, rfl, e⟩ := e
  refine s_istore_n d_J9_floorDiv_7cf53_3 rfl (by decide) (fun L g2 gK => ?_)
  replace g0 := gK _ _ (by decide) (Or.inr rfl) g0
  replace g1 := gK _ _ (by decide) (Or.inr rfl) g1
  refine r_iload_n d_J9_floorDiv_7cf53_4 rfl g0 ?_
  refine r_iload_n d_J9_floorDiv_7cf53_5 rfl g1 ?_
  refine r_ixor d_J9_floorDiv_7cf53_6 ?_
  refine r_if_ge d_J9_floorDiv_7cf53_7 (tgt := 21) (by decide) (fun c3 => ?_) (fun c3 => ?_)
  · replace e := (if_pos c3).symm.trans e
    refine r_iload_n d_J9_floorDiv_7cf53_21 rfl g2 ?_
    obtain rfl := Option.some.inj e
    exact g_iret d_J9_floorDiv_7cf53_22 rfl rfl
  · replace e := (if_neg c3).symm.trans e
    refine r_iload_n d_J9_floorDiv_7cf53_10 rfl g2 ?_
    refine r_iload_n d_J9_floorDiv_7cf53_11 rfl g1 ?_
    refine r_imul d_J9_floorDiv_7cf53_12 ?_
    refine r_iload_n d_J9_floorDiv_7cf53_13 rfl g0 ?_
    refine r_icmp_eq d_J9_floorDiv_7cf53_14 (tgt := 21) (by decide) (fun c4 => ?_) (fun c4 => ?_)
    · replace e := (if_pos c4).symm.trans e
      refine r_iload_n d_J9_floorDiv_7cf53_21 rfl g2 ?_
      obtain rfl := Option.some.inj e
      exact g_iret d_J9_floorDiv_7cf53_22 rfl rfl
    · replace e := (if_neg c4).symm.trans e
      refine r_iload_n d_J9_floorDiv_7cf53_17 rfl g2 ?_
      refine r_iconst d_J9_floorDiv_7cf53_18 (v := (1 : Int32)) (by decide +kernel) ?_
      refine r_isub d_J9_floorDiv_7cf53_19 ?_
      obtain rfl := Option.some.inj e
      exact g_iret d_J9_floorDiv_7cf53_20 rfl rfl

theorem c_J9_floorDiv_7cf53 {G : Gd} {j : Nat} (hj : 1 ≤ j) {l0 : Int32} {l1 : Int32} {h : Hp} {o : (Int32 × Hp)} (e : f_J9_floorDiv_7cf53 l0 l1 h = some o) : Cal G j Y_J9_floorDiv_7cf53 [.int (l0), .int (l1)] h (some (.int o.1)) o.2 := Cal.of (n := 0) (I := false) (by first | exact Or.inl (by decide +kernel) | exact Or.inr (by decide +kernel)) (by decide) (by simp [lg_sl, zrf_cat, cat_int, cat_long]) (f_J9_floorDiv_7cf53_ok hj _ _ _ h o (by simp [lv_args, zlk, zrf_cat, cat_int, cat_long]) (by simp [lv_args, zlk, zrf_cat, cat_int, cat_long]) e)
def f_J9_floorMod_7cf53 (l0 : Int32) (l1 : Int32) (h : Hp) : Option (Int32 × Hp) := ck (¬ (l1) = 0) (bh ((l0) - (l0) / (l1) * (l1)) (fun x2 => if (0) ≤ ((l0) ^^^ (l1)) then (some (x2, h)) else (if (x2) = (0) then (some (x2, h)) else (some ((x2) + (l1), h)))))
theorem f_J9_floorMod_7cf53_ok {G : Gd} {d : Nat} (hj : 1 ≤ d) : ∀ (l0 : Int32) (l1 : Int32) (L : List (Nat × Value)) (h : Hp) (o : (Int32 × Hp)), zlk L 0 = some (.int (l0)) → zlk L 1 = some (.int (l1)) → f_J9_floorMod_7cf53 l0 l1 h = some o → Ev G M_J9_floorMod_7cf53 d 0 L [] h (Ret Y_J9_floorMod_7cf53 (some (.int o.1)) o.2) := by
  intro l0 l1 L h o g0 g1 e
  unfold f_J9_floorMod_7cf53 at e
  refine r_iload_n d_J9_floorMod_7cf53_0 rfl g0 ?_
  refine r_iload_n d_J9_floorMod_7cf53_1 rfl g1 ?_
  replace e := ckd e
  obtain ⟨k1, e⟩ := e
  refine r_irem d_J9_floorMod_7cf53_2 k1 ?_
  replace e := bhd e
  obtain ⟨_, rfl, e⟩ := e
  refine s_istore_n d_J9_floorMod_7cf53_3 rfl (by decide) (fun L g2 gK => ?_)
  replace g0 := gK _ _ (by decide) (Or.inr rfl) g0
  replace g1 := gK _ _ (by decide) (Or.inr rfl) g1
  refine r_iload_n d_J9_floorMod_7cf53_4 rfl g0 ?_
  refine r_iload_n d_J9_floorMod_7cf53_5 rfl g1 ?_
  refine r_ixor d_J9_floorMod_7cf53_6 ?_
  refine r_if_ge d_J9_floorMod_7cf53_7 (tgt := 18) (by decide) (fun c3 => ?_) (fun c3 => ?_)
  · replace e := (if_pos c3).symm.trans e
    refine r_iload_n d_J9_floorMod_7cf53_18 rfl g2 ?_
    obtain rfl := Option.some.inj e
    exact g_iret d_J9_floorMod_7cf53_19 rfl rfl
  · replace e := (if_neg c3).symm.trans e
    refine r_iload_n d_J9_floorMod_7cf53_10 rfl g2 ?_
    refine r_if_eq d_J9_floorMod_7cf53_11 (tgt := 18) (by decide) (fun c4 => ?_) (fun c4 => ?_)
    · replace e := (if_pos c4).symm.trans e
      refine r_iload_n d_J9_floorMod_7cf53_18 rfl g2 ?_
      obtain rfl := Option.some.inj e
      exact g_iret d_J9_floorMod_7cf53_19 rfl rfl
    · replace e := (if_neg c4).symm.trans e
      refine r_iload_n d_J9_floorMod_7cf53_14 rfl g2 ?_
      refine r_iload_n d_J9_floorMod_7cf53_15 rfl g1 ?_
      refine r_iadd d_J9_floorMod_7cf53_16 ?_
      obtain rfl := Option.some.inj e
      exact g_iret d_J9_floorMod_7cf53_17 rfl rfl

theorem c_J9_floorMod_7cf53 {G : Gd} {j : Nat} (hj : 1 ≤ j) {l0 : Int32} {l1 : Int32} {h : Hp} {o : (Int32 × Hp)} (e : f_J9_floorMod_7cf53 l0 l1 h = some o) : Cal G j Y_J9_floorMod_7cf53 [.int (l0), .int (l1)] h (some (.int o.1)) o.2 := Cal.of (n := 0) (I := false) (by first | exact Or.inl (by decide +kernel) | exact Or.inr (by decide +kernel)) (by decide) (by simp [lg_sl, zrf_cat, cat_int, cat_long]) (f_J9_floorMod_7cf53_ok hj _ _ _ h o (by simp [lv_args, zlk, zrf_cat, cat_int, cat_long]) (by simp [lv_args, zlk, zrf_cat, cat_int, cat_long]) e)
def f_J3_checkIndex_8e157 (l0 : Int32) (l1 : Int32) (l2 : Nat) (h : Hp) : Option (Int32 × Hp) := if (l0) < (0) then (none) else (if (l0) < (l1) then (some (l0, h)) else (none))
theorem f_J3_checkIndex_8e157_ok {G : Gd} {d : Nat} (hj : 1 ≤ d) : ∀ (l0 : Int32) (l1 : Int32) (l2 : Nat) (L : List (Nat × Value)) (h : Hp) (o : (Int32 × Hp)), zlk L 0 = some (.int (l0)) → zlk L 1 = some (.int (l1)) → zlk L 2 = some (zrf (l2)) → f_J3_checkIndex_8e157 l0 l1 l2 h = some o → Ev G M_J3_checkIndex_8e157 d 0 L [] h (Ret Y_J3_checkIndex_8e157 (some (.int o.1)) o.2) := by
  intro l0 l1 l2 L h o g0 g1 g2 e
  unfold f_J3_checkIndex_8e157 at e
  refine r_iload_n d_J3_checkIndex_8e157_0 rfl g0 ?_
  refine r_if_lt d_J3_checkIndex_8e157_1 (tgt := 9) (by decide) (fun c1 => ?_) (fun c1 => ?_)
  · replace e := (if_pos c1).symm.trans e
    refine g_ald_n d_J3_checkIndex_8e157_9 rfl g2 ?_
    refine r_iload_n d_J3_checkIndex_8e157_10 rfl g0 ?_
    refine r_iload_n d_J3_checkIndex_8e157_11 rfl g1 ?_
    cases e
  · replace e := (if_neg c1).symm.trans e
    refine r_iload_n d_J3_checkIndex_8e157_4 rfl g0 ?_
    refine r_iload_n d_J3_checkIndex_8e157_5 rfl g1 ?_
    refine r_icmp_lt d_J3_checkIndex_8e157_6 (tgt := 16) (by decide) (fun c2 => ?_) (fun c2 => ?_)
    · replace e := (if_pos c2).symm.trans e
      refine r_iload_n d_J3_checkIndex_8e157_16 rfl g0 ?_
      obtain rfl := Option.some.inj e
      exact g_iret d_J3_checkIndex_8e157_17 rfl rfl
    · replace e := (if_neg c2).symm.trans e
      refine g_ald_n d_J3_checkIndex_8e157_9 rfl g2 ?_
      refine r_iload_n d_J3_checkIndex_8e157_10 rfl g0 ?_
      refine r_iload_n d_J3_checkIndex_8e157_11 rfl g1 ?_
      cases e

theorem c_J3_checkIndex_8e157 {G : Gd} {j : Nat} (hj : 1 ≤ j) {l0 : Int32} {l1 : Int32} {l2 : Nat} {h : Hp} {o : (Int32 × Hp)} (e : f_J3_checkIndex_8e157 l0 l1 l2 h = some o) : Cal G j Y_J3_checkIndex_8e157 [.int (l0), .int (l1), zrf (l2)] h (some (.int o.1)) o.2 := Cal.of (n := 0) (I := false) (by first | exact Or.inl (by decide +kernel) | exact Or.inr (by decide +kernel)) (by decide) (by simp [lg_sl, zrf_cat, cat_int, cat_long]) (f_J3_checkIndex_8e157_ok hj _ _ _ _ h o (by simp [lv_args, zlk, zrf_cat, cat_int, cat_long]) (by simp [lv_args, zlk, zrf_cat, cat_int, cat_long]) (by simp [lv_args, zlk, zrf_cat, cat_int, cat_long]) e)
theorem sk_14_105 : Sk "java/util/Objects" 105 3 Y_J3_checkIndex_8e157 := ⟨yk_J3_checkIndex_8e157, by decide +kernel, by decide +kernel⟩
def f_J15_checkIndex_7cf53 (l0 : Int32) (l1 : Int32) (h : Hp) : Option (Int32 × Hp) := (f_J3_checkIndex_8e157 (l0) (l1) (0) (h)).bind (fun q1 => some (q1.1, q1.2))
theorem f_J15_checkIndex_7cf53_ok {G : Gd} {d : Nat} (hj : 2 ≤ d) : ∀ (l0 : Int32) (l1 : Int32) (L : List (Nat × Value)) (h : Hp) (o : (Int32 × Hp)), zlk L 0 = some (.int (l0)) → zlk L 1 = some (.int (l1)) → f_J15_checkIndex_7cf53 l0 l1 h = some o → Ev G M_J15_checkIndex_7cf53 d 0 L [] h (Ret Y_J15_checkIndex_7cf53 (some (.int o.1)) o.2) := by
  intro l0 l1 L h o g0 g1 e
  unfold f_J15_checkIndex_7cf53 at e
  refine r_iload_n d_J15_checkIndex_7cf53_0 rfl g0 ?_
  refine r_iload_n d_J15_checkIndex_7cf53_1 rfl g1 ?_
  refine g_null d_J15_checkIndex_7cf53_2 ?_
  replace e := bd e
  obtain ⟨q1, eq1, e⟩ := e
  refine g_callS d_J15_checkIndex_7cf53_3 sk_14_105 (as := [_, _, _]) rfl rfl (by simp [zrf_cat, cat_int, cat_long]) (j := 1) (by omega) (c_J3_checkIndex_8e157 (by omega) eq1) ?_
  obtain rfl := Option.some.inj e
  exact g_iret d_J15_checkIndex_7cf53_6 rfl rfl

theorem c_J15_checkIndex_7cf53 {G : Gd} {j : Nat} (hj : 2 ≤ j) {l0 : Int32} {l1 : Int32} {h : Hp} {o : (Int32 × Hp)} (e : f_J15_checkIndex_7cf53 l0 l1 h = some o) : Cal G j Y_J15_checkIndex_7cf53 [.int (l0), .int (l1)] h (some (.int o.1)) o.2 := Cal.of (n := 0) (I := false) (by first | exact Or.inl (by decide +kernel) | exact Or.inr (by decide +kernel)) (by decide) (by simp [lg_sl, zrf_cat, cat_int, cat_long]) (f_J15_checkIndex_7cf53_ok hj _ _ _ h o (by simp [lv_args, zlk, zrf_cat, cat_int, cat_long]) (by simp [lv_args, zlk, zrf_cat, cat_int, cat_long]) e)
theorem fk_12_9 : Fk "java/util/ArrayList" 9 1 := ⟨by decide, by decide, by decide +kernel⟩
def f_Jx4a65c_elementData_915e3 (l0 : Nat) (l1 : Int32) (h : Hp) : Option (Nat × Hp) := ck (isO (h) (l0) 0) (ck (isO (h) (zR (h) 1 (l0)) 29) (ck (inR (l1) (zL (h) (zR (h) 1 (l0)))) (some (zQ (h) (zR (h) 1 (l0)) (l1).toNatClampNeg, h))))
theorem f_Jx4a65c_elementData_915e3_ok {G : Gd} {d : Nat} (hj : 1 ≤ d) : ∀ (l0 : Nat) (l1 : Int32) (L : List (Nat × Value)) (h : Hp) (o : (Nat × Hp)), zlk L 0 = some (zrf (l0)) → zlk L 1 = some (.int (l1)) → f_Jx4a65c_elementData_915e3 l0 l1 h = some o → Ev G M_Jx4a65c_elementData_915e3 d 0 L [] h (Ret Y_Jx4a65c_elementData_915e3 (some (zrf o.1)) o.2) := by
  intro l0 l1 L h o g0 g1 e
  unfold f_Jx4a65c_elementData_915e3 at e
  refine g_ald_n d_Jx4a65c_elementData_915e3_0 rfl g0 ?_
  replace e := ckd e
  obtain ⟨k1, e⟩ := e
  refine g_getR d_Jx4a65c_elementData_915e3_1 (f := 1) k1 fk_12_9 rfl rfl ?_
  refine r_iload_n d_Jx4a65c_elementData_915e3_4 rfl g1 ?_
  replace e := ckd e
  obtain ⟨k2, e⟩ := e
  replace e := ckd e
  obtain ⟨k3, e⟩ := e
  refine g_aald d_Jx4a65c_elementData_915e3_5 k2 (by decide) (by decide) k3 rfl ?_
  obtain rfl := Option.some.inj e
  exact g_aret d_Jx4a65c_elementData_915e3_6 rfl (Or.inl ⟨_, rfl⟩)

theorem c_Jx4a65c_elementData_915e3 {G : Gd} {j : Nat} (hj : 1 ≤ j) {l0 : Nat} {l1 : Int32} {h : Hp} {o : (Nat × Hp)} (e : f_Jx4a65c_elementData_915e3 l0 l1 h = some o) : Cal G j Y_Jx4a65c_elementData_915e3 [zrf (l0), .int (l1)] h (some (zrf o.1)) o.2 := Cal.of (n := 0) (I := false) (by first | exact Or.inl (by decide +kernel) | exact Or.inr (by decide +kernel)) (by decide) (by simp [lg_sl, zrf_cat, cat_int, cat_long]) (f_Jx4a65c_elementData_915e3_ok hj _ _ _ h o (by simp [lv_args, zlk, zrf_cat, cat_int, cat_long]) (by simp [lv_args, zlk, zrf_cat, cat_int, cat_long]) e)
theorem sk_12_118 : Sk "java/util/ArrayList" 118 2 Y_J15_checkIndex_7cf53 := ⟨yk_J15_checkIndex_7cf53, by decide +kernel, by decide +kernel⟩
theorem vk_12_123 : Vk "java/util/ArrayList" 123 1 0 Y_Jx4a65c_elementData_915e3 := ⟨yk_Jx4a65c_elementData_915e3, by decide +kernel, by decide +kernel, by decide +kernel, by decide⟩
def f_Jx4a65c_get_915e3 (l0 : Nat) (l1 : Int32) (h : Hp) : Option (Nat × Hp) := ck (isO (h) (l0) 0) ((f_J15_checkIndex_7cf53 (l1) (zI (h) 2 (l0)) (h)).bind (fun q2 => ck (isO (q2.2) (l0) 0) ((f_Jx4a65c_elementData_915e3 (l0) (l1) (q2.2)).bind (fun q3 => some (q3.1, q3.2)))))
theorem f_Jx4a65c_get_915e3_ok {G : Gd} {d : Nat} (hj : 3 ≤ d) : ∀ (l0 : Nat) (l1 : Int32) (L : List (Nat × Value)) (h : Hp) (o : (Nat × Hp)), zlk L 0 = some (zrf (l0)) → zlk L 1 = some (.int (l1)) → f_Jx4a65c_get_915e3 l0 l1 h = some o → Ev G M_Jx4a65c_get_915e3 d 0 L [] h (Ret Y_Jx4a65c_get_915e3 (some (zrf o.1)) o.2) := by
  intro l0 l1 L h o g0 g1 e
  unfold f_Jx4a65c_get_915e3 at e
  refine r_iload_n d_Jx4a65c_get_915e3_0 rfl g1 ?_
  refine g_ald_n d_Jx4a65c_get_915e3_1 rfl g0 ?_
  replace e := ckd e
  obtain ⟨k1, e⟩ := e
  refine g_getI d_Jx4a65c_get_915e3_2 (f := 2) k1 fk_12_48 rfl rfl ?_
  replace e := bd e
  obtain ⟨q2, eq2, e⟩ := e
  refine g_callS d_Jx4a65c_get_915e3_5 sk_12_118 (as := [_, _]) rfl rfl (by simp [zrf_cat, cat_int, cat_long]) (j := 2) (by omega) (c_J15_checkIndex_7cf53 (by omega) eq2) ?_
  refine r_pop d_Jx4a65c_get_915e3_8 rfl ?_
  refine g_ald_n d_Jx4a65c_get_915e3_9 rfl g0 ?_
  refine r_iload_n d_Jx4a65c_get_915e3_10 rfl g1 ?_
  replace e := ckd e
  obtain ⟨k4, e⟩ := e
  replace e := bd e
  obtain ⟨q3, eq3, e⟩ := e
  refine g_callV d_Jx4a65c_get_915e3_11 vk_12_123 (as := [_]) rfl k4 rfl (by simp [zrf_cat, cat_int, cat_long]) (j := 1) (by omega) (c_Jx4a65c_elementData_915e3 (by omega) eq3) ?_
  obtain rfl := Option.some.inj e
  exact g_aret d_Jx4a65c_get_915e3_14 rfl (Or.inl ⟨_, rfl⟩)

theorem c_Jx4a65c_get_915e3 {G : Gd} {j : Nat} (hj : 3 ≤ j) {l0 : Nat} {l1 : Int32} {h : Hp} {o : (Nat × Hp)} (e : f_Jx4a65c_get_915e3 l0 l1 h = some o) : Cal G j Y_Jx4a65c_get_915e3 [zrf (l0), .int (l1)] h (some (zrf o.1)) o.2 := Cal.of (n := 0) (I := false) (by first | exact Or.inl (by decide +kernel) | exact Or.inr (by decide +kernel)) (by decide) (by simp [lg_sl, zrf_cat, cat_int, cat_long]) (f_Jx4a65c_get_915e3_ok hj _ _ _ h o (by simp [lv_args, zlk, zrf_cat, cat_int, cat_long]) (by simp [lv_args, zlk, zrf_cat, cat_int, cat_long]) e)
theorem fk_8_37 : Fk "TaskWeave$Workflow" 37 204 := ⟨by decide, by decide, by decide +kernel⟩
theorem sk_8_44 : Sk "TaskWeave$Workflow" 44 2 Y_J7_fill_53178 := ⟨yk_J7_fill_53178, by decide +kernel, by decide +kernel⟩
def f_X9_open (l0 : Nat) (l1 : Nat) (l2 : Int32) (l3 : Int32) (l4 : Int32) (h : Hp) : Option Hp := ck (isO (h) (l0) 10) (bh (pR (h) 1004 (l0) (l1)) (fun h2 => ck (isO (h2) (zR (h2) 1002 (l0)) 2) (bh (pI (h2) 204 (zR (h2) 1002 (l0)) ((0 : Int32))) (fun h4 => ck (isO (h4) (zR (h4) 1002 (l0)) 2) ((f_X1_add (zR (h4) 1002 (l0)) ((0 : Int32)) (l2) (l3) (l4) (h4)).bind (fun q5 => ck (isO (q5) (l0) 10) ((f_J7_fill_53178 (zR (q5) 1001 (l0)) ((0 : Int32)) (q5)).bind (fun q8 => ck (isO (q8) (l0) 10) (ck (isO (q8) (zR (q8) 1001 (l0)) 22) (ck (inR ((0 : Int32)) (zL (q8) (zR (q8) 1001 (l0)))) (bh (pE (q8) (zR (q8) 1001 (l0)) ((0 : Int32)).toNatClampNeg (l3)) (fun h12 => ck (isO (h12) (zR (h12) 1003 (l0)) 9) (bh (pI (h12) 904 (zR (h12) 1003 (l0)) ((0 : Int32))) (fun h14 => bh (pI (h14) 1005 (l0) ((0 : Int32))) (fun h15 => bh (pI (h15) 1006 (l0) ((0 : Int32))) (fun h16 => bh (pI (h16) 1007 (l0) ((5 : Int32))) (fun h17 => bh (pI (h17) 1009 (l0) ((0 : Int32))) (fun h18 => bh (pI (h18) 1010 (l0) ((0 : Int32))) (fun h19 => bh (pI (h19) 1011 (l0) ((0 : Int32))) (fun h20 => some (h20)))))))))))))))))))))
theorem f_X9_open_ok {G : Gd} {d : Nat} (hj : 2 ≤ d) : ∀ (l0 : Nat) (l1 : Nat) (l2 : Int32) (l3 : Int32) (l4 : Int32) (L : List (Nat × Value)) (h : Hp) (o : Hp), zlk L 0 = some (zrf (l0)) → zlk L 1 = some (zrf (l1)) → zlk L 2 = some (.int (l2)) → zlk L 3 = some (.int (l3)) → zlk L 4 = some (.int (l4)) → f_X9_open l0 l1 l2 l3 l4 h = some o → Ev G M_X9_open d 0 L [] h (Ret Y_X9_open none o) := by
  intro l0 l1 l2 l3 l4 L h o g0 g1 g2 g3 g4 e
  unfold f_X9_open at e
  refine g_ald_n d_X9_open_0 rfl g0 ?_
  refine g_ald_n d_X9_open_1 rfl g1 ?_
  replace e := ckd e
  obtain ⟨k1, e⟩ := e
  refine g_putR d_X9_open_2 (f := 1004) k1 fk_8_33 rfl (Or.inl rfl) (Or.inl ⟨_, rfl⟩) ?_
  replace e := bhd e
  obtain ⟨_, rfl, e⟩ := e
  refine g_ald_n d_X9_open_5 rfl g0 ?_
  refine g_getR d_X9_open_6 (f := 1002) (tO_pR k1) fk_8_18 rfl rfl ?_
  refine r_iconst d_X9_open_9 (v := (0 : Int32)) (by decide +kernel) ?_
  replace e := ckd e
  obtain ⟨k3, e⟩ := e
  refine g_putI d_X9_open_10 (f := 204) k3 fk_8_37 rfl (Or.inl rfl) ⟨rfl, rfl⟩ ?_
  replace e := bhd e
  obtain ⟨_, rfl, e⟩ := e
  refine g_ald_n d_X9_open_13 rfl g0 ?_
  refine g_getR d_X9_open_14 (f := 1002) (tO_pI (tO_pR k1)) fk_8_18 rfl rfl ?_
  refine r_iconst d_X9_open_17 (v := (0 : Int32)) (by decide +kernel) ?_
  refine r_iload_n d_X9_open_18 rfl g2 ?_
  refine r_iload_n d_X9_open_19 rfl g3 ?_
  refine r_iload d_X9_open_20 g4 ?_
  replace e := ckd e
  obtain ⟨k6, e⟩ := e
  replace e := bd e
  obtain ⟨q5, eq5, e⟩ := e
  refine g_callV d_X9_open_22 vk_8_40 (as := [_, _, _, _]) rfl k6 rfl (by simp [zrf_cat, cat_int, cat_long]) (j := 1) (by omega) (c_X1_add (by omega) eq5) ?_
  refine g_ald_n d_X9_open_25 rfl g0 ?_
  replace e := ckd e
  obtain ⟨k7, e⟩ := e
  refine g_getR d_X9_open_26 (f := 1001) k7 fk_8_9 rfl rfl ?_
  refine r_iconst d_X9_open_29 (v := (0 : Int32)) (by decide +kernel) ?_
  replace e := bd e
  obtain ⟨q8, eq8, e⟩ := e
  refine g_callS d_X9_open_30 sk_8_44 (as := [_, _]) rfl rfl (by simp [zrf_cat, cat_int, cat_long]) (j := 1) (by omega) (c_J7_fill_53178 (by omega) eq8) ?_
  refine g_ald_n d_X9_open_33 rfl g0 ?_
  replace e := ckd e
  obtain ⟨k9, e⟩ := e
  refine g_getR d_X9_open_34 (f := 1001) k9 fk_8_9 rfl rfl ?_
  refine r_iconst d_X9_open_37 (v := (0 : Int32)) (by decide +kernel) ?_
  refine r_iload_n d_X9_open_38 rfl g3 ?_
  replace e := ckd e
  obtain ⟨k10, e⟩ := e
  replace e := ckd e
  obtain ⟨k11, e⟩ := e
  refine g_iast d_X9_open_39 k10 k11 ?_
  replace e := bhd e
  obtain ⟨_, rfl, e⟩ := e
  refine g_ald_n d_X9_open_40 rfl g0 ?_
  refine g_getR d_X9_open_41 (f := 1003) (tO_pE k9) fk_8_25 rfl rfl ?_
  refine r_iconst d_X9_open_44 (v := (0 : Int32)) (by decide +kernel) ?_
  replace e := ckd e
  obtain ⟨k13, e⟩ := e
  refine g_putI d_X9_open_45 (f := 904) k13 fk_8_50 rfl (Or.inl rfl) ⟨rfl, rfl⟩ ?_
  replace e := bhd e
  obtain ⟨_, rfl, e⟩ := e
  refine g_ald_n d_X9_open_48 rfl g0 ?_
  refine r_iconst d_X9_open_49 (v := (0 : Int32)) (by decide +kernel) ?_
  refine g_putI d_X9_open_50 (f := 1005) (tO_pI (tO_pE k9)) fk_8_53 rfl (Or.inl rfl) ⟨rfl, rfl⟩ ?_
  replace e := bhd e
  obtain ⟨_, rfl, e⟩ := e
  refine g_ald_n d_X9_open_53 rfl g0 ?_
  refine r_iconst d_X9_open_54 (v := (0 : Int32)) (by decide +kernel) ?_
  refine g_putI d_X9_open_55 (f := 1006) (tO_pI (tO_pI (tO_pE k9))) fk_8_56 rfl (Or.inl rfl) ⟨rfl, rfl⟩ ?_
  replace e := bhd e
  obtain ⟨_, rfl, e⟩ := e
  refine g_ald_n d_X9_open_58 rfl g0 ?_
  refine r_iconst d_X9_open_59 (v := (5 : Int32)) (by decide +kernel) ?_
  refine g_putI d_X9_open_60 (f := 1007) (tO_pI (tO_pI (tO_pI (tO_pE k9)))) fk_8_59 rfl (Or.inl rfl) ⟨rfl, rfl⟩ ?_
  replace e := bhd e
  obtain ⟨_, rfl, e⟩ := e
  refine g_ald_n d_X9_open_63 rfl g0 ?_
  refine r_iconst d_X9_open_64 (v := (0 : Int32)) (by decide +kernel) ?_
  refine g_putI d_X9_open_65 (f := 1009) (tO_pI (tO_pI (tO_pI (tO_pI (tO_pE k9))))) fk_8_62 rfl (Or.inl rfl) ⟨rfl, rfl⟩ ?_
  replace e := bhd e
  obtain ⟨_, rfl, e⟩ := e
  refine g_ald_n d_X9_open_68 rfl g0 ?_
  refine r_iconst d_X9_open_69 (v := (0 : Int32)) (by decide +kernel) ?_
  refine g_putI d_X9_open_70 (f := 1010) (tO_pI (tO_pI (tO_pI (tO_pI (tO_pI (tO_pE k9)))))) fk_8_65 rfl (Or.inl rfl) ⟨rfl, rfl⟩ ?_
  replace e := bhd e
  obtain ⟨_, rfl, e⟩ := e
  refine g_ald_n d_X9_open_73 rfl g0 ?_
  refine r_iconst d_X9_open_74 (v := (0 : Int32)) (by decide +kernel) ?_
  refine g_putI d_X9_open_75 (f := 1011) (tO_pI (tO_pI (tO_pI (tO_pI (tO_pI (tO_pI (tO_pE k9))))))) fk_8_68 rfl (Or.inl rfl) ⟨rfl, rfl⟩ ?_
  replace e := bhd e
  obtain ⟨_, rfl, e⟩ := e
  obtain rfl := Option.some.inj e
  exact g_vret d_X9_open_78 rfl

theorem c_X9_open {G : Gd} {j : Nat} (hj : 2 ≤ j) {l0 : Nat} {l1 : Nat} {l2 : Int32} {l3 : Int32} {l4 : Int32} {h : Hp} {o : Hp} (e : f_X9_open l0 l1 l2 l3 l4 h = some o) : Cal G j Y_X9_open [zrf (l0), zrf (l1), .int (l2), .int (l3), .int (l4)] h none o := Cal.of (n := 0) (I := false) (by first | exact Or.inl (by decide +kernel) | exact Or.inr (by decide +kernel)) (by decide) (by simp [lg_sl, zrf_cat, cat_int, cat_long]) (f_X9_open_ok hj _ _ _ _ _ _ h o (by simp [lv_args, zlk, zrf_cat, cat_int, cat_long]) (by simp [lv_args, zlk, zrf_cat, cat_int, cat_long]) (by simp [lv_args, zlk, zrf_cat, cat_int, cat_long]) (by simp [lv_args, zlk, zrf_cat, cat_int, cat_long]) (by simp [lv_args, zlk, zrf_cat, cat_int, cat_long]) e)
theorem sk_5_168 : Sk "TaskWeave$Shard" 168 2 Y_J9_floorMod_7cf53 := ⟨yk_J9_floorMod_7cf53, by decide +kernel, by decide +kernel⟩
theorem sk_5_174 : Sk "TaskWeave$Shard" 174 2 Y_J9_floorDiv_7cf53 := ⟨yk_J9_floorDiv_7cf53, by decide +kernel, by decide +kernel⟩
theorem vk_5_162 : Vk "TaskWeave$Shard" 162 0 0 Y_Jx4a65c_size_8abf5 := ⟨yk_Jx4a65c_size_8abf5, by decide +kernel, by decide +kernel, by decide +kernel, by decide⟩
theorem vk_5_177 : Vk "TaskWeave$Shard" 177 1 0 Y_Jx4a65c_get_915e3 := ⟨yk_Jx4a65c_get_915e3, by decide +kernel, by decide +kernel, by decide +kernel, by decide⟩
theorem vk_5_183 : Vk "TaskWeave$Shard" 183 4 10 Y_X9_open := ⟨yk_X9_open, by decide +kernel, by decide +kernel, by decide +kernel, by decide⟩
def f_X6_openRow (l0 : Nat) (l1 : Int32) (l2 : Int32) (l3 : Int32) (l4 : Int32) (h : Hp) : Option Hp := ck (isO (h) (l0) 7) ((f_J9_floorMod_7cf53 (l2) ((8 : Int32)) (h)).bind (fun q2 => ck (isO (q2.2) (zR (h) 702 (l0)) 27) (ck (inR (q2.1) (zL (q2.2) (zR (h) 702 (l0)))) (ck (isO (q2.2) (zQ (q2.2) (zR (h) 702 (l0)) (q2.1).toNatClampNeg) 8) (bh (zR (q2.2) 800 (zQ (q2.2) (zR (h) 702 (l0)) (q2.1).toNatClampNeg)) (fun x6 => (f_J9_floorDiv_7cf53 (l2) ((8 : Int32)) (q2.2)).bind (fun q7 => if (q7.1) < (0) then (some (q7.2)) else (ck (isO (q7.2) (x6) 0) ((f_Jx4a65c_size_8abf5 (x6) (q7.2)).bind (fun q9 => if (q9.1) ≤ (q7.1) then (some (q9.2)) else (ck (isO (q9.2) (l0) 7) (ck (isO (q9.2) (zR (q9.2) 704 (l0)) 28) (ck (inR (l1) (zL (q9.2) (zR (q9.2) 704 (l0)))) (ck (isO (q9.2) (x6) 0) ((f_Jx4a65c_get_915e3 (x6) (q7.1) (q9.2)).bind (fun q15 => ck (isO (q15.2) (q15.1) 5) (ck (isO (q15.2) (zQ (q9.2) (zR (q9.2) 704 (l0)) (l1).toNatClampNeg) 10) ((f_X9_open (zQ (q9.2) (zR (q9.2) 704 (l0)) (l1).toNatClampNeg) (q15.1) (l2) (l3) (l4) (q15.2)).bind (fun q18 => ck (isO (q18) (l0) 7) (bh (pI (q18) 710 (l0) ((l1) + ((1 : Int32)))) (fun h21 => some (h21))))))))))))))))))))))
theorem f_X6_openRow_ok {G : Gd} {d : Nat} (hj : 4 ≤ d) : ∀ (l0 : Nat) (l1 : Int32) (l2 : Int32) (l3 : Int32) (l4 : Int32) (L : List (Nat × Value)) (h : Hp) (o : Hp), zlk L 0 = some (zrf (l0)) → zlk L 1 = some (.int (l1)) → zlk L 2 = some (.int (l2)) → zlk L 3 = some (.int (l3)) → zlk L 4 = some (.int (l4)) → f_X6_openRow l0 l1 l2 l3 l4 h = some o → Ev G M_X6_openRow d 0 L [] h (Ret Y_X6_openRow none o) := by
  intro l0 l1 l2 l3 l4 L h o g0 g1 g2 g3 g4 e
  unfold f_X6_openRow at e
  refine g_ald_n d_X6_openRow_0 rfl g0 ?_
  replace e := ckd e
  obtain ⟨k1, e⟩ := e
  refine g_getR d_X6_openRow_1 (f := 702) k1 fk_5_45 rfl rfl ?_
  refine r_iload_n d_X6_openRow_4 rfl g2 ?_
  refine r_bipush d_X6_openRow_5 (v := (8 : Int32)) (by decide +kernel) ?_
  replace e := bd e
  obtain ⟨q2, eq2, e⟩ := e
  refine g_callS d_X6_openRow_7 sk_5_168 (as := [_, _]) rfl rfl (by simp [zrf_cat, cat_int, cat_long]) (j := 1) (by omega) (c_J9_floorMod_7cf53 (by omega) eq2) ?_
  replace e := ckd e
  obtain ⟨k3, e⟩ := e
  replace e := ckd e
  obtain ⟨k4, e⟩ := e
  refine g_aald d_X6_openRow_10 k3 (by decide) (by decide) k4 rfl ?_
  replace e := ckd e
  obtain ⟨k5, e⟩ := e
  refine g_getR d_X6_openRow_11 (f := 800) k5 fk_5_70 rfl rfl ?_
  replace e := bhd e
  obtain ⟨_, rfl, e⟩ := e
  refine s_ast d_X6_openRow_14 (by decide) (fun L g5 gK => ?_)
  replace g0 := gK _ _ (by decide) (Or.inr (zrf_cat _)) g0
  replace g1 := gK _ _ (by decide) (Or.inr rfl) g1
  replace g2 := gK _ _ (by decide) (Or.inr rfl) g2
  replace g3 := gK _ _ (by decide) (Or.inr rfl) g3
  replace g4 := gK _ _ (by decide) (Or.inr rfl) g4
  refine r_iload_n d_X6_openRow_16 rfl g2 ?_
  refine r_bipush d_X6_openRow_17 (v := (8 : Int32)) (by decide +kernel) ?_
  replace e := bd e
  obtain ⟨q7, eq7, e⟩ := e
  refine g_callS d_X6_openRow_19 sk_5_174 (as := [_, _]) rfl rfl (by simp [zrf_cat, cat_int, cat_long]) (j := 1) (by omega) (c_J9_floorDiv_7cf53 (by omega) eq7) ?_
  refine s_istore d_X6_openRow_22 (by decide) (fun L g6 gK => ?_)
  replace g0 := gK _ _ (by decide) (Or.inr (zrf_cat _)) g0
  replace g1 := gK _ _ (by decide) (Or.inr rfl) g1
  replace g2 := gK _ _ (by decide) (Or.inr rfl) g2
  replace g3 := gK _ _ (by decide) (Or.inr rfl) g3
  replace g4 := gK _ _ (by decide) (Or.inr rfl) g4
  replace g5 := gK _ _ (by decide) (Or.inr (zrf_cat _)) g5
  refine r_iload d_X6_openRow_24 g6 ?_
  refine r_if_lt d_X6_openRow_26 (tgt := 69) (by decide) (fun c8 => ?_) (fun c8 => ?_)
  · replace e := (if_pos c8).symm.trans e
    obtain rfl := Option.some.inj e
    exact g_vret d_X6_openRow_69 rfl
  · replace e := (if_neg c8).symm.trans e
    refine r_iload d_X6_openRow_29 g6 ?_
    refine g_ald d_X6_openRow_31 g5 ?_
    replace e := ckd e
    obtain ⟨k10, e⟩ := e
    replace e := bd e
    obtain ⟨q9, eq9, e⟩ := e
    refine g_callV d_X6_openRow_33 vk_5_162 (as := []) rfl k10 rfl (by simp [zrf_cat, cat_int, cat_long]) (j := 1) (by omega) (c_Jx4a65c_size_8abf5 (by omega) eq9) ?_
    refine r_icmp_ge d_X6_openRow_36 (tgt := 69) (by decide) (fun c11 => ?_) (fun c11 => ?_)
    · replace e := (if_pos c11).symm.trans e
      obtain rfl := Option.some.inj e
      exact g_vret d_X6_openRow_69 rfl
    · replace e := (if_neg c11).symm.trans e
      refine g_ald_n d_X6_openRow_39 rfl g0 ?_
      replace e := ckd e
      obtain ⟨k12, e⟩ := e
      refine g_getR d_X6_openRow_40 (f := 704) k12 fk_5_19 rfl rfl ?_
      refine r_iload_n d_X6_openRow_43 rfl g1 ?_
      replace e := ckd e
      obtain ⟨k13, e⟩ := e
      replace e := ckd e
      obtain ⟨k14, e⟩ := e
      refine g_aald d_X6_openRow_44 k13 (by decide) (by decide) k14 rfl ?_
      refine g_ald d_X6_openRow_45 g5 ?_
      refine r_iload d_X6_openRow_47 g6 ?_
      replace e := ckd e
      obtain ⟨k16, e⟩ := e
      replace e := bd e
      obtain ⟨q15, eq15, e⟩ := e
      refine g_callV d_X6_openRow_49 vk_5_177 (as := [_]) rfl k16 rfl (by simp [zrf_cat, cat_int, cat_long]) (j := 3) (by omega) (c_Jx4a65c_get_915e3 (by omega) eq15) ?_
      replace e := ckd e
      obtain ⟨k17, e⟩ := e
      refine g_castS d_X6_openRow_52 k17 (by decide) (by decide +kernel) ?_
      refine r_iload_n d_X6_openRow_55 rfl g2 ?_
      refine r_iload_n d_X6_openRow_56 rfl g3 ?_
      refine r_iload d_X6_openRow_57 g4 ?_
      replace e := ckd e
      obtain ⟨k19, e⟩ := e
      replace e := bd e
      obtain ⟨q18, eq18, e⟩ := e
      refine g_callV d_X6_openRow_59 vk_5_183 (as := [_, _, _, _]) rfl k19 rfl (by simp [zrf_cat, cat_int, cat_long]) (j := 2) (by omega) (c_X9_open (by omega) eq18) ?_
      refine g_ald_n d_X6_openRow_62 rfl g0 ?_
      refine r_iload_n d_X6_openRow_63 rfl g1 ?_
      refine r_iconst d_X6_openRow_64 (v := (1 : Int32)) (by decide +kernel) ?_
      refine r_iadd d_X6_openRow_65 ?_
      replace e := ckd e
      obtain ⟨k20, e⟩ := e
      refine g_putI d_X6_openRow_66 (f := 710) k20 fk_5_56 rfl (Or.inl rfl) ⟨rfl, rfl⟩ ?_
      replace e := bhd e
      obtain ⟨_, rfl, e⟩ := e
      obtain rfl := Option.some.inj e
      exact g_vret d_X6_openRow_69 rfl

theorem c_X6_openRow {G : Gd} {j : Nat} (hj : 4 ≤ j) {l0 : Nat} {l1 : Int32} {l2 : Int32} {l3 : Int32} {l4 : Int32} {h : Hp} {o : Hp} (e : f_X6_openRow l0 l1 l2 l3 l4 h = some o) : Cal G j Y_X6_openRow [zrf (l0), .int (l1), .int (l2), .int (l3), .int (l4)] h none o := Cal.of (n := 0) (I := false) (by first | exact Or.inl (by decide +kernel) | exact Or.inr (by decide +kernel)) (by decide) (by simp [lg_sl, zrf_cat, cat_int, cat_long]) (f_X6_openRow_ok hj _ _ _ _ _ _ h o (by simp [lv_args, zlk, zrf_cat, cat_int, cat_long]) (by simp [lv_args, zlk, zrf_cat, cat_int, cat_long]) (by simp [lv_args, zlk, zrf_cat, cat_int, cat_long]) (by simp [lv_args, zlk, zrf_cat, cat_int, cat_long]) (by simp [lv_args, zlk, zrf_cat, cat_int, cat_long]) e)
theorem vk_5_164 : Vk "TaskWeave$Shard" 164 4 7 Y_X6_openRow := ⟨yk_X6_openRow, by decide +kernel, by decide +kernel, by decide +kernel, by decide⟩
def f_X6_begin (l0 : Nat) (l1 : Int32) (l2 : Int32) (l3 : Int32) (h : Hp) : Option (Int32 × Hp) := ck (isO (h) (l0) 7) (bh (zI (h) 710 (l0)) (fun x2 => ck (isO (h) (zR (h) 702 (l0)) 27) (ck (inR (l1) (zL (h) (zR (h) 702 (l0)))) (ck (isO (h) (zQ (h) (zR (h) 702 (l0)) (l1).toNatClampNeg) 8) (ck (isO (h) (zR (h) 800 (zQ (h) (zR (h) 702 (l0)) (l1).toNatClampNeg)) 0) ((f_Jx4a65c_size_8abf5 (zR (h) 800 (zQ (h) (zR (h) 702 (l0)) (l1).toNatClampNeg)) (h)).bind (fun q6 => bh ((l1) + (((8 : Int32)) * ((q6.1) - ((1 : Int32))))) (fun x8 => ck (isO (q6.2) (l0) 7) ((f_X6_commit (l0) ((0 : Int32)) (x2) (x8) (l2) (l3) (q6.2)).bind (fun q9 => if (q9.1) = (0) then (some ((0 : Int32), q9.2)) else (ck (isO (q9.2) (l0) 7) ((f_X6_openRow (l0) (x2) (x8) (l2) (l3) (q9.2)).bind (fun q12 => ck (isO (q12) (l0) 7) (ck (isO (q12) (zR (q12) 704 (l0)) 28) (ck (inR (x2) (zL (q12) (zR (q12) 704 (l0)))) ((f_X6_goOn (l0) (zQ (q12) (zR (q12) 704 (l0)) (x2).toNatClampNeg) (q12)).bind (fun q17 => some ((1 : Int32), q17))))))))))))))))))
theorem f_X6_begin_ok {G : Gd} {d : Nat} (hj : 6 ≤ d) : ∀ (l0 : Nat) (l1 : Int32) (l2 : Int32) (l3 : Int32) (L : List (Nat × Value)) (h : Hp) (o : (Int32 × Hp)), zlk L 0 = some (zrf (l0)) → zlk L 1 = some (.int (l1)) → zlk L 2 = some (.int (l2)) → zlk L 3 = some (.int (l3)) → f_X6_begin l0 l1 l2 l3 h = some o → Ev G M_X6_begin d 0 L [] h (Ret Y_X6_begin (some (.int o.1)) o.2) := by
  intro l0 l1 l2 l3 L h o g0 g1 g2 g3 e
  unfold f_X6_begin at e
  refine g_ald_n d_X6_begin_0 rfl g0 ?_
  replace e := ckd e
  obtain ⟨k1, e⟩ := e
  refine g_getI d_X6_begin_1 (f := 710) k1 fk_5_56 rfl rfl ?_
  replace e := bhd e
  obtain ⟨_, rfl, e⟩ := e
  refine s_istore d_X6_begin_4 (by decide) (fun L g4 gK => ?_)
  replace g0 := gK _ _ (by decide) (Or.inr (zrf_cat _)) g0
  replace g1 := gK _ _ (by decide) (Or.inr rfl) g1
  replace g2 := gK _ _ (by decide) (Or.inr rfl) g2
  replace g3 := gK _ _ (by decide) (Or.inr rfl) g3
  refine r_iload_n d_X6_begin_6 rfl g1 ?_
  refine r_bipush d_X6_begin_7 (v := (8 : Int32)) (by decide +kernel) ?_
  refine g_ald_n d_X6_begin_9 rfl g0 ?_
  refine g_getR d_X6_begin_10 (f := 702) k1 fk_5_45 rfl rfl ?_
  refine r_iload_n d_X6_begin_13 rfl g1 ?_
  replace e := ckd e
  obtain ⟨k3, e⟩ := e
  replace e := ckd e
  obtain ⟨k4, e⟩ := e
  refine g_aald d_X6_begin_14 k3 (by decide) (by decide) k4 rfl ?_
  replace e := ckd e
  obtain ⟨k5, e⟩ := e
  refine g_getR d_X6_begin_15 (f := 800) k5 fk_5_70 rfl rfl ?_
  replace e := ckd e
  obtain ⟨k7, e⟩ := e
  replace e := bd e
  obtain ⟨q6, eq6, e⟩ := e
  refine g_callV d_X6_begin_18 vk_5_162 (as := []) rfl k7 rfl (by simp [zrf_cat, cat_int, cat_long]) (j := 1) (by omega) (c_Jx4a65c_size_8abf5 (by omega) eq6) ?_
  refine r_iconst d_X6_begin_21 (v := (1 : Int32)) (by decide +kernel) ?_
  refine r_isub d_X6_begin_22 ?_
  refine r_imul d_X6_begin_23 ?_
  refine r_iadd d_X6_begin_24 ?_
  replace e := bhd e
  obtain ⟨_, rfl, e⟩ := e
  refine s_istore d_X6_begin_25 (by decide) (fun L g5 gK => ?_)
  replace g0 := gK _ _ (by decide) (Or.inr (zrf_cat _)) g0
  replace g2 := gK _ _ (by decide) (Or.inr rfl) g2
  replace g3 := gK _ _ (by decide) (Or.inr rfl) g3
  replace g4 := gK _ _ (by decide) (Or.inr rfl) g4
  refine g_ald_n d_X6_begin_27 rfl g0 ?_
  refine r_iconst d_X6_begin_28 (v := (0 : Int32)) (by decide +kernel) ?_
  refine r_iload d_X6_begin_29 g4 ?_
  refine r_iload d_X6_begin_31 g5 ?_
  refine r_iload_n d_X6_begin_33 rfl g2 ?_
  refine r_iload_n d_X6_begin_34 rfl g3 ?_
  replace e := ckd e
  obtain ⟨k10, e⟩ := e
  replace e := bd e
  obtain ⟨q9, eq9, e⟩ := e
  refine g_callV d_X6_begin_35 vk_5_123 (as := [_, _, _, _, _]) rfl k10 rfl (by simp [zrf_cat, cat_int, cat_long]) (j := 3) (by omega) (c_X6_commit (by omega) eq9) ?_
  refine r_if_ne d_X6_begin_38 (tgt := 43) (by decide) (fun c11 => ?_) (fun c11 => ?_)
  · replace e := (if_neg c11).symm.trans e
    refine g_ald_n d_X6_begin_43 rfl g0 ?_
    refine r_iload d_X6_begin_44 g4 ?_
    refine r_iload d_X6_begin_46 g5 ?_
    refine r_iload_n d_X6_begin_48 rfl g2 ?_
    refine r_iload_n d_X6_begin_49 rfl g3 ?_
    replace e := ckd e
    obtain ⟨k13, e⟩ := e
    replace e := bd e
    obtain ⟨q12, eq12, e⟩ := e
    refine g_callV d_X6_begin_50 vk_5_164 (as := [_, _, _, _]) rfl k13 rfl (by simp [zrf_cat, cat_int, cat_long]) (j := 4) (by omega) (c_X6_openRow (by omega) eq12) ?_
    refine g_ald_n d_X6_begin_53 rfl g0 ?_
    refine g_ald_n d_X6_begin_54 rfl g0 ?_
    replace e := ckd e
    obtain ⟨k14, e⟩ := e
    refine g_getR d_X6_begin_55 (f := 704) k14 fk_5_19 rfl rfl ?_
    refine r_iload d_X6_begin_58 g4 ?_
    replace e := ckd e
    obtain ⟨k15, e⟩ := e
    replace e := ckd e
    obtain ⟨k16, e⟩ := e
    refine g_aald d_X6_begin_60 k15 (by decide) (by decide) k16 rfl ?_
    replace e := bd e
    obtain ⟨q17, eq17, e⟩ := e
    refine g_callV d_X6_begin_61 vk_5_158 (as := [_]) rfl k14 rfl (by simp [zrf_cat, cat_int, cat_long]) (j := 5) (by omega) (c_X6_goOn (by omega) eq17) ?_
    refine r_iconst d_X6_begin_64 (v := (1 : Int32)) (by decide +kernel) ?_
    obtain rfl := Option.some.inj e
    exact g_iret d_X6_begin_65 rfl rfl
  · replace e := (if_pos c11).symm.trans e
    refine r_iconst d_X6_begin_41 (v := (0 : Int32)) (by decide +kernel) ?_
    obtain rfl := Option.some.inj e
    exact g_iret d_X6_begin_42 rfl rfl

theorem c_X6_begin {G : Gd} {j : Nat} (hj : 6 ≤ j) {l0 : Nat} {l1 : Int32} {l2 : Int32} {l3 : Int32} {h : Hp} {o : (Int32 × Hp)} (e : f_X6_begin l0 l1 l2 l3 h = some o) : Cal G j Y_X6_begin [zrf (l0), .int (l1), .int (l2), .int (l3)] h (some (.int o.1)) o.2 := Cal.of (n := 0) (I := false) (by first | exact Or.inl (by decide +kernel) | exact Or.inr (by decide +kernel)) (by decide) (by simp [lg_sl, zrf_cat, cat_int, cat_long]) (f_X6_begin_ok hj _ _ _ _ _ h o (by simp [lv_args, zlk, zrf_cat, cat_int, cat_long]) (by simp [lv_args, zlk, zrf_cat, cat_int, cat_long]) (by simp [lv_args, zlk, zrf_cat, cat_int, cat_long]) (by simp [lv_args, zlk, zrf_cat, cat_int, cat_long]) e)
def f_X8_ready (l0 : Nat) (l1 : Int32) (l2 : Int32) (h : Hp) : Option Hp := ck (isO (h) (l0) 9) (bh (pI (h) 902 (l0) (l1)) (fun h2 => bh (pI (h2) 903 (l0) (l2)) (fun h3 => bh (pI (h3) 904 (l0) ((0 : Int32))) (fun h4 => some (h4)))))
theorem f_X8_ready_ok {G : Gd} {d : Nat} (hj : 1 ≤ d) : ∀ (l0 : Nat) (l1 : Int32) (l2 : Int32) (L : List (Nat × Value)) (h : Hp) (o : Hp), zlk L 0 = some (zrf (l0)) → zlk L 1 = some (.int (l1)) → zlk L 2 = some (.int (l2)) → f_X8_ready l0 l1 l2 h = some o → Ev G M_X8_ready d 0 L [] h (Ret Y_X8_ready none o) := by
  intro l0 l1 l2 L h o g0 g1 g2 e
  unfold f_X8_ready at e
  refine g_ald_n d_X8_ready_0 rfl g0 ?_
  refine r_iload_n d_X8_ready_1 rfl g1 ?_
  replace e := ckd e
  obtain ⟨k1, e⟩ := e
  refine g_putI d_X8_ready_2 (f := 902) k1 fk_7_16 rfl (Or.inl rfl) ⟨rfl, rfl⟩ ?_
  replace e := bhd e
  obtain ⟨_, rfl, e⟩ := e
  refine g_ald_n d_X8_ready_5 rfl g0 ?_
  refine r_iload_n d_X8_ready_6 rfl g2 ?_
  refine g_putI d_X8_ready_7 (f := 903) (tO_pI k1) fk_7_19 rfl (Or.inl rfl) ⟨rfl, rfl⟩ ?_
  replace e := bhd e
  obtain ⟨_, rfl, e⟩ := e
  refine g_ald_n d_X8_ready_10 rfl g0 ?_
  refine r_iconst d_X8_ready_11 (v := (0 : Int32)) (by decide +kernel) ?_
  refine g_putI d_X8_ready_12 (f := 904) (tO_pI (tO_pI k1)) fk_7_22 rfl (Or.inl rfl) ⟨rfl, rfl⟩ ?_
  replace e := bhd e
  obtain ⟨_, rfl, e⟩ := e
  obtain rfl := Option.some.inj e
  exact g_vret d_X8_ready_15 rfl

theorem c_X8_ready {G : Gd} {j : Nat} (hj : 1 ≤ j) {l0 : Nat} {l1 : Int32} {l2 : Int32} {h : Hp} {o : Hp} (e : f_X8_ready l0 l1 l2 h = some o) : Cal G j Y_X8_ready [zrf (l0), .int (l1), .int (l2)] h none o := Cal.of (n := 0) (I := false) (by first | exact Or.inl (by decide +kernel) | exact Or.inr (by decide +kernel)) (by decide) (by simp [lg_sl, zrf_cat, cat_int, cat_long]) (f_X8_ready_ok hj _ _ _ _ h o (by simp [lv_args, zlk, zrf_cat, cat_int, cat_long]) (by simp [lv_args, zlk, zrf_cat, cat_int, cat_long]) (by simp [lv_args, zlk, zrf_cat, cat_int, cat_long]) e)
theorem fk_5_187 : Fk "TaskWeave$Shard" 187 902 := ⟨by decide, by decide, by decide +kernel⟩
theorem vk_5_193 : Vk "TaskWeave$Shard" 193 2 9 Y_X8_ready := ⟨yk_X8_ready, by decide +kernel, by decide +kernel, by decide +kernel, by decide⟩
theorem vk_5_190 : Vk "TaskWeave$Shard" 190 5 7 Y_X6_bring := ⟨yk_X6_bring, by decide +kernel, by decide +kernel, by decide +kernel, by decide⟩
def f_X6_failTask (l0 : Nat) (l1 : Nat) (h : Hp) : Option (Int32 × Hp) := ck (isO (h) (l1) 10) (ck (isO (h) (zR (h) 1003 (l1)) 9) (bh ((zI (h) 902 (zR (h) 1003 (l1))) + ((1 : Int32))) (fun x3 => if (x3) < ((5 : Int32)) then (ck (isO (h) (l0) 7) (ck (isO (h) (zR (h) 701 (l0)) 1) (bh ((zI (h) 100 (zR (h) 701 (l0))) + (((1 : Int32)) <<< (((x3) - ((1 : Int32))) &&& 31))) (fun x7 => (f_X6_commit (l0) ((15 : Int32)) ((zI (h) 1000 (l1)) / ((4 : Int32))) (x3) (x7) ((0 : Int32)) (h)).bind (fun q8 => if (q8.1) = (0) then (some ((0 : Int32), q8.2)) else (ck (isO (q8.2) (l1) 10) (ck (isO (q8.2) (zR (q8.2) 1003 (l1)) 9) ((f_X8_ready (zR (q8.2) 1003 (l1)) (x3) (x7) (q8.2)).bind (fun q11 => some ((1 : Int32), q11)))))))))) else (ck (isO (h) (l0) 7) ((f_X6_bring (l0) (l1) ((3 : Int32)) ((-1 : Int32)) ((0 : Int32)) ((0 : Int32)) (h)).bind (fun q13 => ck (isB (q13.1)) (some (q13.1, q13.2))))))))
theorem f_X6_failTask_ok {G : Gd} {d : Nat} (hj : 7 ≤ d) : ∀ (l0 : Nat) (l1 : Nat) (L : List (Nat × Value)) (h : Hp) (o : (Int32 × Hp)), zlk L 0 = some (zrf (l0)) → zlk L 1 = some (zrf (l1)) → f_X6_failTask l0 l1 h = some o → Ev G M_X6_failTask d 0 L [] h (Ret Y_X6_failTask (some (.int o.1)) o.2) := by
  intro l0 l1 L h o g0 g1 e
  unfold f_X6_failTask at e
  refine g_ald_n d_X6_failTask_0 rfl g1 ?_
  replace e := ckd e
  obtain ⟨k1, e⟩ := e
  refine g_getR d_X6_failTask_1 (f := 1003) k1 fk_5_85 rfl rfl ?_
  replace e := ckd e
  obtain ⟨k2, e⟩ := e
  refine g_getI d_X6_failTask_4 (f := 902) k2 fk_5_187 rfl rfl ?_
  refine r_iconst d_X6_failTask_7 (v := (1 : Int32)) (by decide +kernel) ?_
  refine r_iadd d_X6_failTask_8 ?_
  replace e := bhd e
  obtain ⟨_, rfl, e⟩ := e
  refine s_istore_n d_X6_failTask_9 rfl (by decide) (fun L g2 gK => ?_)
  replace g0 := gK _ _ (by decide) (Or.inr (zrf_cat _)) g0
  replace g1 := gK _ _ (by decide) (Or.inr (zrf_cat _)) g1
  refine r_iload_n d_X6_failTask_10 rfl g2 ?_
  refine r_iconst d_X6_failTask_11 (v := (5 : Int32)) (by decide +kernel) ?_
  refine r_icmp_lt d_X6_failTask_12 (tgt := 25) (by decide) (fun c4 => ?_) (fun c4 => ?_)
  · replace e := (if_pos c4).symm.trans e
    refine g_ald_n d_X6_failTask_25 rfl g0 ?_
    replace e := ckd e
    obtain ⟨k5, e⟩ := e
    refine g_getR d_X6_failTask_26 (f := 701) k5 fk_5_41 rfl rfl ?_
    replace e := ckd e
    obtain ⟨k6, e⟩ := e
    refine g_getI d_X6_failTask_29 (f := 100) k6 fk_5_127 rfl rfl ?_
    refine r_iconst d_X6_failTask_32 (v := (1 : Int32)) (by decide +kernel) ?_
    refine r_iload_n d_X6_failTask_33 rfl g2 ?_
    refine r_iconst d_X6_failTask_34 (v := (1 : Int32)) (by decide +kernel) ?_
    refine r_isub d_X6_failTask_35 ?_
    refine r_ishl d_X6_failTask_36 ?_
    refine r_iadd d_X6_failTask_37 ?_
    replace e := bhd e
    obtain ⟨_, rfl, e⟩ := e
    refine s_istore_n d_X6_failTask_38 rfl (by decide) (fun L g3 gK => ?_)
    replace g0 := gK _ _ (by decide) (Or.inr (zrf_cat _)) g0
    replace g1 := gK _ _ (by decide) (Or.inr (zrf_cat _)) g1
    replace g2 := gK _ _ (by decide) (Or.inr rfl) g2
    refine g_ald_n d_X6_failTask_39 rfl g0 ?_
    refine r_bipush d_X6_failTask_40 (v := (15 : Int32)) (by decide +kernel) ?_
    refine g_ald_n d_X6_failTask_42 rfl g1 ?_
    refine g_getI d_X6_failTask_43 (f := 1000) k1 fk_5_120 rfl rfl ?_
    refine r_iconst d_X6_failTask_46 (v := (4 : Int32)) (by decide +kernel) ?_
    refine r_idiv d_X6_failTask_47 (by decide +kernel) ?_
    refine r_iload_n d_X6_failTask_48 rfl g2 ?_
    refine r_iload_n d_X6_failTask_49 rfl g3 ?_
    refine r_iconst d_X6_failTask_50 (v := (0 : Int32)) (by decide +kernel) ?_
    replace e := bd e
    obtain ⟨q8, eq8, e⟩ := e
    refine g_callV d_X6_failTask_51 vk_5_123 (as := [_, _, _, _, _]) rfl k5 rfl (by simp [zrf_cat, cat_int, cat_long]) (j := 3) (by omega) (c_X6_commit (by omega) eq8) ?_
    refine r_if_ne d_X6_failTask_54 (tgt := 59) (by decide) (fun c9 => ?_) (fun c9 => ?_)
    · replace e := (if_neg c9).symm.trans e
      refine g_ald_n d_X6_failTask_59 rfl g1 ?_
      replace e := ckd e
      obtain ⟨k10, e⟩ := e
      refine g_getR d_X6_failTask_60 (f := 1003) k10 fk_5_85 rfl rfl ?_
      refine r_iload_n d_X6_failTask_63 rfl g2 ?_
      refine r_iload_n d_X6_failTask_64 rfl g3 ?_
      replace e := ckd e
      obtain ⟨k12, e⟩ := e
      replace e := bd e
      obtain ⟨q11, eq11, e⟩ := e
      refine g_callV d_X6_failTask_65 vk_5_193 (as := [_, _]) rfl k12 rfl (by simp [zrf_cat, cat_int, cat_long]) (j := 1) (by omega) (c_X8_ready (by omega) eq11) ?_
      refine r_iconst d_X6_failTask_68 (v := (1 : Int32)) (by decide +kernel) ?_
      obtain rfl := Option.some.inj e
      exact g_iret d_X6_failTask_69 rfl rfl
    · replace e := (if_pos c9).symm.trans e
      refine r_iconst d_X6_failTask_57 (v := (0 : Int32)) (by decide +kernel) ?_
      obtain rfl := Option.some.inj e
      exact g_iret d_X6_failTask_58 rfl rfl
  · replace e := (if_neg c4).symm.trans e
    refine g_ald_n d_X6_failTask_15 rfl g0 ?_
    refine g_ald_n d_X6_failTask_16 rfl g1 ?_
    refine r_iconst d_X6_failTask_17 (v := (3 : Int32)) (by decide +kernel) ?_
    refine r_iconst d_X6_failTask_18 (v := (-1 : Int32)) (by decide +kernel) ?_
    refine r_iconst d_X6_failTask_19 (v := (0 : Int32)) (by decide +kernel) ?_
    refine r_iconst d_X6_failTask_20 (v := (0 : Int32)) (by decide +kernel) ?_
    replace e := ckd e
    obtain ⟨k14, e⟩ := e
    replace e := bd e
    obtain ⟨q13, eq13, e⟩ := e
    refine g_callV d_X6_failTask_21 vk_5_190 (as := [_, _, _, _, _]) rfl k14 rfl (by simp [zrf_cat, cat_int, cat_long]) (j := 6) (by omega) (c_X6_bring (by omega) eq13) ?_
    replace e := ckd e
    obtain ⟨k15, e⟩ := e
    obtain rfl := Option.some.inj e
    exact g_iret d_X6_failTask_24 rfl k15

theorem c_X6_failTask {G : Gd} {j : Nat} (hj : 7 ≤ j) {l0 : Nat} {l1 : Nat} {h : Hp} {o : (Int32 × Hp)} (e : f_X6_failTask l0 l1 h = some o) : Cal G j Y_X6_failTask [zrf (l0), zrf (l1)] h (some (.int o.1)) o.2 := Cal.of (n := 0) (I := false) (by first | exact Or.inl (by decide +kernel) | exact Or.inr (by decide +kernel)) (by decide) (by simp [lg_sl, zrf_cat, cat_int, cat_long]) (f_X6_failTask_ok hj _ _ _ h o (by simp [lv_args, zlk, zrf_cat, cat_int, cat_long]) (by simp [lv_args, zlk, zrf_cat, cat_int, cat_long]) e)
theorem vk_5_197 : Vk "TaskWeave$Shard" 197 1 3 Y_X2_remove := ⟨yk_X2_remove, by decide +kernel, by decide +kernel, by decide +kernel, by decide⟩
def f_X6_forget (l0 : Nat) (l1 : Int32) (h : Hp) : Option Hp := ck (isO (h) (l0) 7) ((f_X6_commit (l0) ((14 : Int32)) ((0 : Int32)) (l1) ((0 : Int32)) ((0 : Int32)) (h)).bind (fun q1 => if (q1.1) = (0) then (some (q1.2)) else (ck (isO (q1.2) (l0) 7) (ck (isO (q1.2) (zR (q1.2) 706 (l0)) 3) ((f_X2_remove (zR (q1.2) 706 (l0)) (l1) (q1.2)).bind (fun q5 => some (q5)))))))
theorem f_X6_forget_ok {G : Gd} {d : Nat} (hj : 4 ≤ d) : ∀ (l0 : Nat) (l1 : Int32) (L : List (Nat × Value)) (h : Hp) (o : Hp), zlk L 0 = some (zrf (l0)) → zlk L 1 = some (.int (l1)) → f_X6_forget l0 l1 h = some o → Ev G M_X6_forget d 0 L [] h (Ret Y_X6_forget none o) := by
  intro l0 l1 L h o g0 g1 e
  unfold f_X6_forget at e
  refine g_ald_n d_X6_forget_0 rfl g0 ?_
  refine r_bipush d_X6_forget_1 (v := (14 : Int32)) (by decide +kernel) ?_
  refine r_iconst d_X6_forget_3 (v := (0 : Int32)) (by decide +kernel) ?_
  refine r_iload_n d_X6_forget_4 rfl g1 ?_
  refine r_iconst d_X6_forget_5 (v := (0 : Int32)) (by decide +kernel) ?_
  refine r_iconst d_X6_forget_6 (v := (0 : Int32)) (by decide +kernel) ?_
  replace e := ckd e
  obtain ⟨k2, e⟩ := e
  replace e := bd e
  obtain ⟨q1, eq1, e⟩ := e
  refine g_callV d_X6_forget_7 vk_5_123 (as := [_, _, _, _, _]) rfl k2 rfl (by simp [zrf_cat, cat_int, cat_long]) (j := 3) (by omega) (c_X6_commit (by omega) eq1) ?_
  refine r_if_eq d_X6_forget_10 (tgt := 21) (by decide) (fun c3 => ?_) (fun c3 => ?_)
  · replace e := (if_pos c3).symm.trans e
    obtain rfl := Option.some.inj e
    exact g_vret d_X6_forget_21 rfl
  · replace e := (if_neg c3).symm.trans e
    refine g_ald_n d_X6_forget_13 rfl g0 ?_
    replace e := ckd e
    obtain ⟨k4, e⟩ := e
    refine g_getR d_X6_forget_14 (f := 706) k4 fk_5_30 rfl rfl ?_
    refine r_iload_n d_X6_forget_17 rfl g1 ?_
    replace e := ckd e
    obtain ⟨k6, e⟩ := e
    replace e := bd e
    obtain ⟨q5, eq5, e⟩ := e
    refine g_callV d_X6_forget_18 vk_5_197 (as := [_]) rfl k6 rfl (by simp [zrf_cat, cat_int, cat_long]) (j := 1) (by omega) (c_X2_remove (by omega) eq5) ?_
    obtain rfl := Option.some.inj e
    exact g_vret d_X6_forget_21 rfl

theorem c_X6_forget {G : Gd} {j : Nat} (hj : 4 ≤ j) {l0 : Nat} {l1 : Int32} {h : Hp} {o : Hp} (e : f_X6_forget l0 l1 h = some o) : Cal G j Y_X6_forget [zrf (l0), .int (l1)] h none o := Cal.of (n := 0) (I := false) (by first | exact Or.inl (by decide +kernel) | exact Or.inr (by decide +kernel)) (by decide) (by simp [lg_sl, zrf_cat, cat_int, cat_long]) (f_X6_forget_ok hj _ _ _ h o (by simp [lv_args, zlk, zrf_cat, cat_int, cat_long]) (by simp [lv_args, zlk, zrf_cat, cat_int, cat_long]) e)
theorem vk_5_244 : Vk "TaskWeave$Shard" 244 1 6 Y_X5_isAheadOf := ⟨yk_X5_isAheadOf, by decide +kernel, by decide +kernel, by decide +kernel, by decide⟩
def f_X6_candidate_49 (K4 : Nat → Int32 → Int32 → Hp → Option (Int32 × Hp)) (l0 : Nat) (l1 : Int32) (l2 : Int32) (h : Hp) : Option (Int32 × Hp) := bh ((l2) + (1 : Int32)) (fun x11 => K4 (l0) (l1) (x11) (h))
theorem f_X6_candidate_49_ok {G : Gd} {d : Nat} (K4 : Nat → Int32 → Int32 → Hp → Option (Int32 × Hp)) (hj : 3 ≤ d) (hK4 : ∀ (l0 : Nat) (l1 : Int32) (l2 : Int32) (L : List (Nat × Value)) (h : Hp) (o : (Int32 × Hp)), zlk L 0 = some (zrf (l0)) → zlk L 1 = some (.int (l1)) → zlk L 2 = some (.int (l2)) → K4 l0 l1 l2 h = some o → Ev G M_X6_candidate d 4 L [] h (Ret Y_X6_candidate (some (.int o.1)) o.2)) : ∀ (l0 : Nat) (l1 : Int32) (l2 : Int32) (L : List (Nat × Value)) (h : Hp) (o : (Int32 × Hp)), zlk L 0 = some (zrf (l0)) → zlk L 1 = some (.int (l1)) → zlk L 2 = some (.int (l2)) → f_X6_candidate_49 K4 l0 l1 l2 h = some o → Ev G M_X6_candidate d 49 L [] h (Ret Y_X6_candidate (some (.int o.1)) o.2) := by
  intro l0 l1 l2 L h o g0 g1 g2 e
  unfold f_X6_candidate_49 at e
  replace e := bhd e
  obtain ⟨_, rfl, e⟩ := e
  refine s_iinc d_X6_candidate_49 g2 (w := (1 : Int32)) (by decide +kernel) (by decide) (fun L g2 gK => ?_)
  replace g0 := gK _ _ (by decide) (Or.inr (zrf_cat _)) g0
  replace g1 := gK _ _ (by decide) (Or.inr rfl) g1
  refine r_goto d_X6_candidate_52 (tgt := 4) (by decide) ?_
  exact hK4 _ _ _ _ _ _ g0 g1 g2 e

def f_X6_candidate_47 (K4 : Nat → Int32 → Int32 → Hp → Option (Int32 × Hp)) (l0 : Nat) (l2 : Int32) (h : Hp) : Option (Int32 × Hp) := f_X6_candidate_49 K4 (l0) (l2) (l2) (h)
theorem f_X6_candidate_47_ok {G : Gd} {d : Nat} (K4 : Nat → Int32 → Int32 → Hp → Option (Int32 × Hp)) (hj : 3 ≤ d) (hK4 : ∀ (l0 : Nat) (l1 : Int32) (l2 : Int32) (L : List (Nat × Value)) (h : Hp) (o : (Int32 × Hp)), zlk L 0 = some (zrf (l0)) → zlk L 1 = some (.int (l1)) → zlk L 2 = some (.int (l2)) → K4 l0 l1 l2 h = some o → Ev G M_X6_candidate d 4 L [] h (Ret Y_X6_candidate (some (.int o.1)) o.2)) : ∀ (l0 : Nat) (l2 : Int32) (L : List (Nat × Value)) (h : Hp) (o : (Int32 × Hp)), zlk L 0 = some (zrf (l0)) → zlk L 2 = some (.int (l2)) → f_X6_candidate_47 K4 l0 l2 h = some o → Ev G M_X6_candidate d 47 L [] h (Ret Y_X6_candidate (some (.int o.1)) o.2) := by
  intro l0 l2 L h o g0 g2 e
  unfold f_X6_candidate_47 at e
  refine r_iload_n d_X6_candidate_47 rfl g2 ?_
  refine s_istore_n d_X6_candidate_48 rfl (by decide) (fun L g1 gK => ?_)
  replace g0 := gK _ _ (by decide) (Or.inr (zrf_cat _)) g0
  replace g2 := gK _ _ (by decide) (Or.inr rfl) g2
  exact f_X6_candidate_49_ok _ hj hK4 _ _ _ _ _ _ g0 g1 g2 e

def f_X6_candidate_4 : Nat → Nat → Int32 → Int32 → Hp → Option (Int32 × Hp)
  | 0, _, _, _, _ => none
  | n + 1, l0, l1, l2, h => ck (isO (h) (l0) 7) (if (zI (h) 707 (l0)) ≤ (l2) then (some (l1, h)) else (ck (isO (h) (zR (h) 703 (l0)) 25) (ck (inR (l2) (zL (h) (zR (h) 703 (l0)))) (ck (isO (h) (zQ (h) (zR (h) 703 (l0)) (l2).toNatClampNeg) 6) (if (zI (h) 603 (zQ (h) (zR (h) 703 (l0)) (l2).toNatClampNeg)) = (0) then (f_X6_candidate_49 (f_X6_candidate_4 n) (l0) (l1) (l2) (h)) else (if (l1) = ((-1 : Int32)) then (f_X6_candidate_47 (f_X6_candidate_4 n) (l0) (l2) (h)) else (ck (inR (l1) (zL (h) (zR (h) 703 (l0)))) ((f_X5_isAheadOf (zQ (h) (zR (h) 703 (l0)) (l2).toNatClampNeg) (zQ (h) (zR (h) 703 (l0)) (l1).toNatClampNeg) (h)).bind (fun q9 => if (q9.1) = (0) then (f_X6_candidate_49 (f_X6_candidate_4 n) (l0) (l1) (l2) (q9.2)) else (f_X6_candidate_47 (f_X6_candidate_4 n) (l0) (l2) (q9.2)))))))))))
theorem f_X6_candidate_4_ok {G : Gd} {d : Nat} (hj : 3 ≤ d) : ∀ (n : Nat) (l0 : Nat) (l1 : Int32) (l2 : Int32) (L : List (Nat × Value)) (h : Hp) (o : (Int32 × Hp)), zlk L 0 = some (zrf (l0)) → zlk L 1 = some (.int (l1)) → zlk L 2 = some (.int (l2)) → f_X6_candidate_4 n l0 l1 l2 h = some o → Ev G M_X6_candidate d 4 L [] h (Ret Y_X6_candidate (some (.int o.1)) o.2) := by
  intro n
  induction n with
  | zero =>
    intro l0 l1 l2 L h o g0 g1 g2 e
    cases e
  | succ n ih =>
    intro l0 l1 l2 L h o g0 g1 g2 e
    unfold f_X6_candidate_4 at e
    refine r_iload_n d_X6_candidate_4 rfl g2 ?_
    refine g_ald_n d_X6_candidate_5 rfl g0 ?_
    replace e := ckd e
    obtain ⟨k1, e⟩ := e
    refine g_getI d_X6_candidate_6 (f := 707) k1 fk_5_34 rfl rfl ?_
    refine r_icmp_ge d_X6_candidate_9 (tgt := 55) (by decide) (fun c2 => ?_) (fun c2 => ?_)
    · replace e := (if_pos c2).symm.trans e
      refine r_iload_n d_X6_candidate_55 rfl g1 ?_
      obtain rfl := Option.some.inj e
      exact g_iret d_X6_candidate_56 rfl rfl
    · replace e := (if_neg c2).symm.trans e
      refine g_ald_n d_X6_candidate_12 rfl g0 ?_
      refine g_getR d_X6_candidate_13 (f := 703) k1 fk_5_11 rfl rfl ?_
      refine r_iload_n d_X6_candidate_16 rfl g2 ?_
      replace e := ckd e
      obtain ⟨k3, e⟩ := e
      replace e := ckd e
      obtain ⟨k4, e⟩ := e
      refine g_aald d_X6_candidate_17 k3 (by decide) (by decide) k4 rfl ?_
      replace e := ckd e
      obtain ⟨k5, e⟩ := e
      refine g_getI d_X6_candidate_18 (f := 603) k5 fk_5_94 rfl rfl ?_
      refine r_if_eq d_X6_candidate_21 (tgt := 49) (by decide) (fun c6 => ?_) (fun c6 => ?_)
      · replace e := (if_pos c6).symm.trans e
        exact f_X6_candidate_49_ok _ hj ih _ _ _ _ _ _ g0 g1 g2 e
      · replace e := (if_neg c6).symm.trans e
        refine r_iload_n d_X6_candidate_24 rfl g1 ?_
        refine r_iconst d_X6_candidate_25 (v := (-1 : Int32)) (by decide +kernel) ?_
        refine r_icmp_eq d_X6_candidate_26 (tgt := 47) (by decide) (fun c7 => ?_) (fun c7 => ?_)
        · replace e := (if_pos c7).symm.trans e
          exact f_X6_candidate_47_ok _ hj ih _ _ _ _ _ g0 g2 e
        · replace e := (if_neg c7).symm.trans e
          refine g_ald_n d_X6_candidate_29 rfl g0 ?_
          refine g_getR d_X6_candidate_30 (f := 703) k1 fk_5_11 rfl rfl ?_
          refine r_iload_n d_X6_candidate_33 rfl g2 ?_
          refine g_aald d_X6_candidate_34 k3 (by decide) (by decide) k4 rfl ?_
          refine g_ald_n d_X6_candidate_35 rfl g0 ?_
          refine g_getR d_X6_candidate_36 (f := 703) k1 fk_5_11 rfl rfl ?_
          refine r_iload_n d_X6_candidate_39 rfl g1 ?_
          replace e := ckd e
          obtain ⟨k8, e⟩ := e
          refine g_aald d_X6_candidate_40 k3 (by decide) (by decide) k8 rfl ?_
          replace e := bd e
          obtain ⟨q9, eq9, e⟩ := e
          refine g_callV d_X6_candidate_41 vk_5_244 (as := [_]) rfl k5 rfl (by simp [zrf_cat, cat_int, cat_long]) (j := 2) (by omega) (c_X5_isAheadOf (by omega) eq9) ?_
          refine r_if_eq d_X6_candidate_44 (tgt := 49) (by decide) (fun c10 => ?_) (fun c10 => ?_)
          · replace e := (if_pos c10).symm.trans e
            exact f_X6_candidate_49_ok _ hj ih _ _ _ _ _ _ g0 g1 g2 e
          · replace e := (if_neg c10).symm.trans e
            exact f_X6_candidate_47_ok _ hj ih _ _ _ _ _ g0 g2 e

def f_X6_candidate (l0 : Nat) (h : Hp) : Option (Int32 × Hp) := f_X6_candidate_4 fz (l0) ((-1 : Int32)) ((0 : Int32)) (h)
theorem f_X6_candidate_ok {G : Gd} {d : Nat} (hj : 3 ≤ d) : ∀ (l0 : Nat) (L : List (Nat × Value)) (h : Hp) (o : (Int32 × Hp)), zlk L 0 = some (zrf (l0)) → f_X6_candidate l0 h = some o → Ev G M_X6_candidate d 0 L [] h (Ret Y_X6_candidate (some (.int o.1)) o.2) := by
  intro l0 L h o g0 e
  unfold f_X6_candidate at e
  refine r_iconst d_X6_candidate_0 (v := (-1 : Int32)) (by decide +kernel) ?_
  refine s_istore_n d_X6_candidate_1 rfl (by decide) (fun L g1 gK => ?_)
  replace g0 := gK _ _ (by decide) (Or.inr (zrf_cat _)) g0
  refine r_iconst d_X6_candidate_2 (v := (0 : Int32)) (by decide +kernel) ?_
  refine s_istore_n d_X6_candidate_3 rfl (by decide) (fun L g2 gK => ?_)
  replace g0 := gK _ _ (by decide) (Or.inr (zrf_cat _)) g0
  replace g1 := gK _ _ (by decide) (Or.inr rfl) g1
  exact f_X6_candidate_4_ok hj _ _ _ _ _ _ _ g0 g1 g2 e

theorem c_X6_candidate {G : Gd} {j : Nat} (hj : 3 ≤ j) {l0 : Nat} {h : Hp} {o : (Int32 × Hp)} (e : f_X6_candidate l0 h = some o) : Cal G j Y_X6_candidate [zrf (l0)] h (some (.int o.1)) o.2 := Cal.of (n := 0) (I := false) (by first | exact Or.inl (by decide +kernel) | exact Or.inr (by decide +kernel)) (by decide) (by simp [lg_sl, zrf_cat, cat_int, cat_long]) (f_X6_candidate_ok hj _ _ h o (by simp [lv_args, zlk, zrf_cat, cat_int, cat_long]) e)
theorem vk_5_227 : Vk "TaskWeave$Shard" 227 2 6 Y_X5_sameRecord := ⟨yk_X5_sameRecord, by decide +kernel, by decide +kernel, by decide +kernel, by decide⟩
theorem fk_5_231 : Fk "TaskWeave$Shard" 231 601 := ⟨by decide, by decide, by decide +kernel⟩
def f_X6_makeAlike_39 (l1 : Nat) (l2 : Nat) (l3 : Int32) (h : Hp) : Option Hp := ck (isO (h) (l1) 6) (bh (pI (h) 602 (l1) ((l3) * ((16 : Int32)))) (fun h10 => ck (isO (h10) (l2) 6) ((f_X5_write (l1) (zR (h10) 601 (l2)) (zI (h10) 602 (l1)) (zI (h10) 602 (l2)) (h10)).bind (fun q12 => some (q12)))))
theorem f_X6_makeAlike_39_ok {G : Gd} {d : Nat} (hj : 3 ≤ d) : ∀ (l1 : Nat) (l2 : Nat) (l3 : Int32) (L : List (Nat × Value)) (h : Hp) (o : Hp), zlk L 1 = some (zrf (l1)) → zlk L 2 = some (zrf (l2)) → zlk L 3 = some (.int (l3)) → f_X6_makeAlike_39 l1 l2 l3 h = some o → Ev G M_X6_makeAlike d 39 L [] h (Ret Y_X6_makeAlike none o) := by
  intro l1 l2 l3 L h o g1 g2 g3 e
  unfold f_X6_makeAlike_39 at e
  refine g_ald_n d_X6_makeAlike_39 rfl g1 ?_
  refine r_iload_n d_X6_makeAlike_40 rfl g3 ?_
  refine r_bipush d_X6_makeAlike_41 (v := (16 : Int32)) (by decide +kernel) ?_
  refine r_imul d_X6_makeAlike_43 ?_
  replace e := ckd e
  obtain ⟨k9, e⟩ := e
  refine g_putI d_X6_makeAlike_44 (f := 602) k9 fk_5_69 rfl (Or.inl rfl) ⟨rfl, rfl⟩ ?_
  replace e := bhd e
  obtain ⟨_, rfl, e⟩ := e
  refine g_ald_n d_X6_makeAlike_47 rfl g1 ?_
  refine g_ald_n d_X6_makeAlike_48 rfl g2 ?_
  replace e := ckd e
  obtain ⟨k11, e⟩ := e
  refine g_getR d_X6_makeAlike_49 (f := 601) k11 fk_5_231 rfl rfl ?_
  refine g_ald_n d_X6_makeAlike_52 rfl g1 ?_
  refine g_getI d_X6_makeAlike_53 (f := 602) (tO_pI k9) fk_5_69 rfl rfl ?_
  refine g_ald_n d_X6_makeAlike_56 rfl g2 ?_
  refine g_getI d_X6_makeAlike_57 (f := 602) k11 fk_5_69 rfl rfl ?_
  replace e := bd e
  obtain ⟨q12, eq12, e⟩ := e
  refine g_callV d_X6_makeAlike_60 vk_5_105 (as := [_, _, _]) rfl (tO_pI k9) rfl (by simp [zrf_cat, cat_int, cat_long]) (j := 2) (by omega) (c_X5_write (by omega) eq12) ?_
  obtain rfl := Option.some.inj e
  exact g_vret d_X6_makeAlike_63 rfl

def f_X6_makeAlike_18 : Nat → Nat → Nat → Int32 → Int32 → Hp → Option Hp
  | 0, _, _, _, _, _ => none
  | n + 1, l1, l2, l3, l4, h => if (l4) ≤ (l3) then (f_X6_makeAlike_39 (l1) (l2) (l3) (h)) else (ck (isO (h) (l1) 6) ((f_X5_sameRecord (l1) (l2) (l3) (h)).bind (fun q5 => if (q5.1) = (0) then (f_X6_makeAlike_39 (l1) (l2) (l3) (q5.2)) else (bh ((l3) + (1 : Int32)) (fun x8 => f_X6_makeAlike_18 n (l1) (l2) (x8) (l4) (q5.2))))))
theorem f_X6_makeAlike_18_ok {G : Gd} {d : Nat} (hj : 3 ≤ d) : ∀ (n : Nat) (l1 : Nat) (l2 : Nat) (l3 : Int32) (l4 : Int32) (L : List (Nat × Value)) (h : Hp) (o : Hp), zlk L 1 = some (zrf (l1)) → zlk L 2 = some (zrf (l2)) → zlk L 3 = some (.int (l3)) → zlk L 4 = some (.int (l4)) → f_X6_makeAlike_18 n l1 l2 l3 l4 h = some o → Ev G M_X6_makeAlike d 18 L [] h (Ret Y_X6_makeAlike none o) := by
  intro n
  induction n with
  | zero =>
    intro l1 l2 l3 l4 L h o g1 g2 g3 g4 e
    cases e
  | succ n ih =>
    intro l1 l2 l3 l4 L h o g1 g2 g3 g4 e
    unfold f_X6_makeAlike_18 at e
    refine r_iload_n d_X6_makeAlike_18 rfl g3 ?_
    refine r_iload d_X6_makeAlike_19 g4 ?_
    refine r_icmp_ge d_X6_makeAlike_21 (tgt := 39) (by decide) (fun c4 => ?_) (fun c4 => ?_)
    · replace e := (if_pos c4).symm.trans e
      exact f_X6_makeAlike_39_ok hj _ _ _ _ _ _ g1 g2 g3 e
    · replace e := (if_neg c4).symm.trans e
      refine g_ald_n d_X6_makeAlike_24 rfl g1 ?_
      refine g_ald_n d_X6_makeAlike_25 rfl g2 ?_
      refine r_iload_n d_X6_makeAlike_26 rfl g3 ?_
      replace e := ckd e
      obtain ⟨k6, e⟩ := e
      replace e := bd e
      obtain ⟨q5, eq5, e⟩ := e
      refine g_callV d_X6_makeAlike_27 vk_5_227 (as := [_, _]) rfl k6 rfl (by simp [zrf_cat, cat_int, cat_long]) (j := 1) (by omega) (c_X5_sameRecord (by omega) eq5) ?_
      refine r_if_eq d_X6_makeAlike_30 (tgt := 39) (by decide) (fun c7 => ?_) (fun c7 => ?_)
      · replace e := (if_pos c7).symm.trans e
        exact f_X6_makeAlike_39_ok hj _ _ _ _ _ _ g1 g2 g3 e
      · replace e := (if_neg c7).symm.trans e
        replace e := bhd e
        obtain ⟨_, rfl, e⟩ := e
        refine s_iinc d_X6_makeAlike_33 g3 (w := (1 : Int32)) (by decide +kernel) (by decide) (fun L g3 gK => ?_)
        replace g1 := gK _ _ (by decide) (Or.inr (zrf_cat _)) g1
        replace g2 := gK _ _ (by decide) (Or.inr (zrf_cat _)) g2
        replace g4 := gK _ _ (by decide) (Or.inr rfl) g4
        refine r_goto d_X6_makeAlike_36 (tgt := 18) (by decide) ?_
        exact ih _ _ _ _ _ _ _ g1 g2 g3 g4 e

def f_X6_makeAlike (l0 : Nat) (l1 : Nat) (l2 : Nat) (h : Hp) : Option Hp := ck (isO (h) (l1) 6) (ck (isO (h) (l2) 6) (bh (((if (zI (h) 602 (l2)) < (zI (h) 602 (l1)) then (zI (h) 602 (l2)) else (zI (h) 602 (l1)))) / ((16 : Int32))) (fun x3 => f_X6_makeAlike_18 fz (l1) (l2) ((0 : Int32)) (x3) (h))))
theorem f_X6_makeAlike_ok {G : Gd} {d : Nat} (hj : 3 ≤ d) : ∀ (l0 : Nat) (l1 : Nat) (l2 : Nat) (L : List (Nat × Value)) (h : Hp) (o : Hp), zlk L 0 = some (zrf (l0)) → zlk L 1 = some (zrf (l1)) → zlk L 2 = some (zrf (l2)) → f_X6_makeAlike l0 l1 l2 h = some o → Ev G M_X6_makeAlike d 0 L [] h (Ret Y_X6_makeAlike none o) := by
  intro l0 l1 l2 L h o g0 g1 g2 e
  unfold f_X6_makeAlike at e
  refine r_iconst d_X6_makeAlike_0 (v := (0 : Int32)) (by decide +kernel) ?_
  refine s_istore_n d_X6_makeAlike_1 rfl (by decide) (fun L g3 gK => ?_)
  replace g1 := gK _ _ (by decide) (Or.inr (zrf_cat _)) g1
  replace g2 := gK _ _ (by decide) (Or.inr (zrf_cat _)) g2
  refine g_ald_n d_X6_makeAlike_2 rfl g1 ?_
  replace e := ckd e
  obtain ⟨k1, e⟩ := e
  refine g_getI d_X6_makeAlike_3 (f := 602) k1 fk_5_69 rfl rfl ?_
  refine g_ald_n d_X6_makeAlike_6 rfl g2 ?_
  replace e := ckd e
  obtain ⟨k2, e⟩ := e
  refine g_getI d_X6_makeAlike_7 (f := 602) k2 fk_5_69 rfl rfl ?_
  refine g_mmin d_X6_makeAlike_10 (by decide +kernel) (by omega) (by simp [zrf_cat, cat_int, cat_long]) ?_
  refine r_bipush d_X6_makeAlike_13 (v := (16 : Int32)) (by decide +kernel) ?_
  refine r_idiv d_X6_makeAlike_15 (by decide +kernel) ?_
  replace e := bhd e
  obtain ⟨_, rfl, e⟩ := e
  refine s_istore d_X6_makeAlike_16 (by decide) (fun L g4 gK => ?_)
  replace g1 := gK _ _ (by decide) (Or.inr (zrf_cat _)) g1
  replace g2 := gK _ _ (by decide) (Or.inr (zrf_cat _)) g2
  replace g3 := gK _ _ (by decide) (Or.inr rfl) g3
  exact f_X6_makeAlike_18_ok hj _ _ _ _ _ _ _ _ g1 g2 g3 g4 e

theorem c_X6_makeAlike {G : Gd} {j : Nat} (hj : 3 ≤ j) {l0 : Nat} {l1 : Nat} {l2 : Nat} {h : Hp} {o : Hp} (e : f_X6_makeAlike l0 l1 l2 h = some o) : Cal G j Y_X6_makeAlike [zrf (l0), zrf (l1), zrf (l2)] h none o := Cal.of (n := 0) (I := false) (by first | exact Or.inl (by decide +kernel) | exact Or.inr (by decide +kernel)) (by decide) (by simp [lg_sl, zrf_cat, cat_int, cat_long]) (f_X6_makeAlike_ok hj _ _ _ _ h o (by simp [lv_args, zlk, zrf_cat, cat_int, cat_long]) (by simp [lv_args, zlk, zrf_cat, cat_int, cat_long]) (by simp [lv_args, zlk, zrf_cat, cat_int, cat_long]) e)
