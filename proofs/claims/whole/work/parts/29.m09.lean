abbrev Y_X11_asks : Yx := (⟨"TaskWeaveModel", "asks", "(IIII)V"⟩, prog_13_method_49_code, 7, none)
abbrev M_X11_asks : Mx := ("TaskWeaveModel", prog_13_method_49_code, 7, false)
theorem yk_X11_asks : Yk Y_X11_asks 4 := ⟨by decide +kernel, by decide +kernel, ⟨by decide, by decide⟩, by decide +kernel, by decide, trivial⟩
theorem d_X11_asks_0 : decode prog_13_method_49_code 0 = .ok (.aload_n 0, 1) := by decide +kernel
theorem d_X11_asks_1 : decode prog_13_method_49_code 1 = .ok (.getfield 35, 3) := by decide +kernel
theorem d_X11_asks_4 : decode prog_13_method_49_code 4 = .ok (.iload_n 2, 1) := by decide +kernel
theorem d_X11_asks_5 : decode prog_13_method_49_code 5 = .ok (.iaload, 1) := by decide +kernel
theorem d_X11_asks_6 : decode prog_13_method_49_code 6 = .ok (.tableswitch 257 6 11 #[38, 127, 141, 191, 70, 206], 38) := by decide +kernel
theorem d_X11_asks_44 : decode prog_13_method_49_code 44 = .ok (.aload_n 0, 1) := by decide +kernel
theorem d_X11_asks_45 : decode prog_13_method_49_code 45 = .ok (.iload_n 1, 1) := by decide +kernel
theorem d_X11_asks_46 : decode prog_13_method_49_code 46 = .ok (.iconst 1, 1) := by decide +kernel
theorem d_X11_asks_47 : decode prog_13_method_49_code 47 = .ok (.aload_n 0, 1) := by decide +kernel
theorem d_X11_asks_48 : decode prog_13_method_49_code 48 = .ok (.getfield 54, 3) := by decide +kernel
theorem d_X11_asks_51 : decode prog_13_method_49_code 51 = .ok (.iload_n 2, 1) := by decide +kernel
theorem d_X11_asks_52 : decode prog_13_method_49_code 52 = .ok (.iaload, 1) := by decide +kernel
theorem d_X11_asks_53 : decode prog_13_method_49_code 53 = .ok (.iload_n 3, 1) := by decide +kernel
theorem d_X11_asks_54 : decode prog_13_method_49_code 54 = .ok (.invokevirtual 339, 3) := by decide +kernel
theorem d_X11_asks_57 : decode prog_13_method_49_code 57 = .ok (.ifCond .eq 217, 3) := by decide +kernel
theorem d_X11_asks_60 : decode prog_13_method_49_code 60 = .ok (.aload_n 0, 1) := by decide +kernel
theorem d_X11_asks_61 : decode prog_13_method_49_code 61 = .ok (.iload_n 1, 1) := by decide +kernel
theorem d_X11_asks_62 : decode prog_13_method_49_code 62 = .ok (.iconst 0, 1) := by decide +kernel
theorem d_X11_asks_63 : decode prog_13_method_49_code 63 = .ok (.iconst 0, 1) := by decide +kernel
theorem d_X11_asks_64 : decode prog_13_method_49_code 64 = .ok (.aload_n 0, 1) := by decide +kernel
theorem d_X11_asks_65 : decode prog_13_method_49_code 65 = .ok (.getfield 38, 3) := by decide +kernel
theorem d_X11_asks_68 : decode prog_13_method_49_code 68 = .ok (.iload_n 2, 1) := by decide +kernel
theorem d_X11_asks_69 : decode prog_13_method_49_code 69 = .ok (.iaload, 1) := by decide +kernel
theorem d_X11_asks_70 : decode prog_13_method_49_code 70 = .ok (.invokevirtual 351, 3) := by decide +kernel
theorem d_X11_asks_73 : decode prog_13_method_49_code 73 = .ok (.goto 201, 3) := by decide +kernel
theorem d_X11_asks_76 : decode prog_13_method_49_code 76 = .ok (.aload_n 0, 1) := by decide +kernel
theorem d_X11_asks_77 : decode prog_13_method_49_code 77 = .ok (.iload_n 1, 1) := by decide +kernel
theorem d_X11_asks_78 : decode prog_13_method_49_code 78 = .ok (.iconst 4, 1) := by decide +kernel
theorem d_X11_asks_79 : decode prog_13_method_49_code 79 = .ok (.aload_n 0, 1) := by decide +kernel
theorem d_X11_asks_80 : decode prog_13_method_49_code 80 = .ok (.getfield 283, 3) := by decide +kernel
theorem d_X11_asks_83 : decode prog_13_method_49_code 83 = .ok (.iload_n 3, 1) := by decide +kernel
theorem d_X11_asks_84 : decode prog_13_method_49_code 84 = .ok (.ifCond .ge 7, 3) := by decide +kernel
theorem d_X11_asks_87 : decode prog_13_method_49_code 87 = .ok (.iconst 0, 1) := by decide +kernel
theorem d_X11_asks_88 : decode prog_13_method_49_code 88 = .ok (.goto 4, 3) := by decide +kernel
theorem d_X11_asks_91 : decode prog_13_method_49_code 91 = .ok (.iload_n 3, 1) := by decide +kernel
theorem d_X11_asks_92 : decode prog_13_method_49_code 92 = .ok (.iadd, 1) := by decide +kernel
theorem d_X11_asks_93 : decode prog_13_method_49_code 93 = .ok (.iconst 0, 1) := by decide +kernel
theorem d_X11_asks_94 : decode prog_13_method_49_code 94 = .ok (.invokevirtual 339, 3) := by decide +kernel
theorem d_X11_asks_97 : decode prog_13_method_49_code 97 = .ok (.ifCond .eq 177, 3) := by decide +kernel
theorem d_X11_asks_100 : decode prog_13_method_49_code 100 = .ok (.aload_n 0, 1) := by decide +kernel
theorem d_X11_asks_101 : decode prog_13_method_49_code 101 = .ok (.getfield 143, 3) := by decide +kernel
theorem d_X11_asks_104 : decode prog_13_method_49_code 104 = .ok (.iload_n 1, 1) := by decide +kernel
theorem d_X11_asks_105 : decode prog_13_method_49_code 105 = .ok (.aload_n 0, 1) := by decide +kernel
theorem d_X11_asks_106 : decode prog_13_method_49_code 106 = .ok (.getfield 70, 3) := by decide +kernel
theorem d_X11_asks_109 : decode prog_13_method_49_code 109 = .ok (.aload_n 0, 1) := by decide +kernel
theorem d_X11_asks_110 : decode prog_13_method_49_code 110 = .ok (.iload_n 1, 1) := by decide +kernel
theorem d_X11_asks_111 : decode prog_13_method_49_code 111 = .ok (.aload_n 0, 1) := by decide +kernel
theorem d_X11_asks_112 : decode prog_13_method_49_code 112 = .ok (.getfield 318, 3) := by decide +kernel
theorem d_X11_asks_115 : decode prog_13_method_49_code 115 = .ok (.iconst 1, 1) := by decide +kernel
theorem d_X11_asks_116 : decode prog_13_method_49_code 116 = .ok (.isub, 1) := by decide +kernel
theorem d_X11_asks_117 : decode prog_13_method_49_code 117 = .ok (.invokevirtual 305, 3) := by decide +kernel
theorem d_X11_asks_120 : decode prog_13_method_49_code 120 = .ok (.iaload, 1) := by decide +kernel
theorem d_X11_asks_121 : decode prog_13_method_49_code 121 = .ok (.iastore, 1) := by decide +kernel
theorem d_X11_asks_122 : decode prog_13_method_49_code 122 = .ok (.aload_n 0, 1) := by decide +kernel
theorem d_X11_asks_123 : decode prog_13_method_49_code 123 = .ok (.iload_n 1, 1) := by decide +kernel
theorem d_X11_asks_124 : decode prog_13_method_49_code 124 = .ok (.iconst 1, 1) := by decide +kernel
theorem d_X11_asks_125 : decode prog_13_method_49_code 125 = .ok (.iconst 0, 1) := by decide +kernel
theorem d_X11_asks_126 : decode prog_13_method_49_code 126 = .ok (.iconst 0, 1) := by decide +kernel
theorem d_X11_asks_127 : decode prog_13_method_49_code 127 = .ok (.invokevirtual 351, 3) := by decide +kernel
theorem d_X11_asks_130 : decode prog_13_method_49_code 130 = .ok (.goto 144, 3) := by decide +kernel
theorem d_X11_asks_133 : decode prog_13_method_49_code 133 = .ok (.aload_n 0, 1) := by decide +kernel
theorem d_X11_asks_134 : decode prog_13_method_49_code 134 = .ok (.iload_n 1, 1) := by decide +kernel
theorem d_X11_asks_135 : decode prog_13_method_49_code 135 = .ok (.aload_n 0, 1) := by decide +kernel
theorem d_X11_asks_136 : decode prog_13_method_49_code 136 = .ok (.getfield 38, 3) := by decide +kernel
theorem d_X11_asks_139 : decode prog_13_method_49_code 139 = .ok (.iload_n 2, 1) := by decide +kernel
theorem d_X11_asks_140 : decode prog_13_method_49_code 140 = .ok (.iaload, 1) := by decide +kernel
theorem d_X11_asks_141 : decode prog_13_method_49_code 141 = .ok (.invokevirtual 354, 3) := by decide +kernel
theorem d_X11_asks_144 : decode prog_13_method_49_code 144 = .ok (.goto 130, 3) := by decide +kernel
theorem d_X11_asks_147 : decode prog_13_method_49_code 147 = .ok (.aload_n 0, 1) := by decide +kernel
theorem d_X11_asks_148 : decode prog_13_method_49_code 148 = .ok (.iload_n 1, 1) := by decide +kernel
theorem d_X11_asks_149 : decode prog_13_method_49_code 149 = .ok (.bipush 6, 2) := by decide +kernel
theorem d_X11_asks_151 : decode prog_13_method_49_code 151 = .ok (.aload_n 0, 1) := by decide +kernel
theorem d_X11_asks_152 : decode prog_13_method_49_code 152 = .ok (.getfield 54, 3) := by decide +kernel
theorem d_X11_asks_155 : decode prog_13_method_49_code 155 = .ok (.iload_n 2, 1) := by decide +kernel
theorem d_X11_asks_156 : decode prog_13_method_49_code 156 = .ok (.iaload, 1) := by decide +kernel
theorem d_X11_asks_157 : decode prog_13_method_49_code 157 = .ok (.iload_n 3, 1) := by decide +kernel
theorem d_X11_asks_158 : decode prog_13_method_49_code 158 = .ok (.invokevirtual 339, 3) := by decide +kernel
theorem d_X11_asks_161 : decode prog_13_method_49_code 161 = .ok (.ifCond .eq 113, 3) := by decide +kernel
theorem d_X11_asks_164 : decode prog_13_method_49_code 164 = .ok (.aload_n 0, 1) := by decide +kernel
theorem d_X11_asks_165 : decode prog_13_method_49_code 165 = .ok (.getfield 125, 3) := by decide +kernel
theorem d_X11_asks_168 : decode prog_13_method_49_code 168 = .ok (.bipush 8, 2) := by decide +kernel
theorem d_X11_asks_170 : decode prog_13_method_49_code 170 = .ok (.iload_n 1, 1) := by decide +kernel
theorem d_X11_asks_171 : decode prog_13_method_49_code 171 = .ok (.imul, 1) := by decide +kernel
theorem d_X11_asks_172 : decode prog_13_method_49_code 172 = .ok (.aload_n 0, 1) := by decide +kernel
theorem d_X11_asks_173 : decode prog_13_method_49_code 173 = .ok (.getfield 38, 3) := by decide +kernel
theorem d_X11_asks_176 : decode prog_13_method_49_code 176 = .ok (.iload_n 2, 1) := by decide +kernel
theorem d_X11_asks_177 : decode prog_13_method_49_code 177 = .ok (.iaload, 1) := by decide +kernel
theorem d_X11_asks_178 : decode prog_13_method_49_code 178 = .ok (.iadd, 1) := by decide +kernel
theorem d_X11_asks_179 : decode prog_13_method_49_code 179 = .ok (.aload_n 0, 1) := by decide +kernel
theorem d_X11_asks_180 : decode prog_13_method_49_code 180 = .ok (.getfield 324, 3) := by decide +kernel
theorem d_X11_asks_183 : decode prog_13_method_49_code 183 = .ok (.iastore, 1) := by decide +kernel
theorem d_X11_asks_184 : decode prog_13_method_49_code 184 = .ok (.aload_n 0, 1) := by decide +kernel
theorem d_X11_asks_185 : decode prog_13_method_49_code 185 = .ok (.dup, 1) := by decide +kernel
theorem d_X11_asks_186 : decode prog_13_method_49_code 186 = .ok (.getfield 324, 3) := by decide +kernel
theorem d_X11_asks_189 : decode prog_13_method_49_code 189 = .ok (.iconst 1, 1) := by decide +kernel
theorem d_X11_asks_190 : decode prog_13_method_49_code 190 = .ok (.iadd, 1) := by decide +kernel
theorem d_X11_asks_191 : decode prog_13_method_49_code 191 = .ok (.putfield 324, 3) := by decide +kernel
theorem d_X11_asks_194 : decode prog_13_method_49_code 194 = .ok (.goto 80, 3) := by decide +kernel
theorem d_X11_asks_197 : decode prog_13_method_49_code 197 = .ok (.aload_n 0, 1) := by decide +kernel
theorem d_X11_asks_198 : decode prog_13_method_49_code 198 = .ok (.iload_n 1, 1) := by decide +kernel
theorem d_X11_asks_199 : decode prog_13_method_49_code 199 = .ok (.iload_n 3, 1) := by decide +kernel
theorem d_X11_asks_200 : decode prog_13_method_49_code 200 = .ok (.aload_n 0, 1) := by decide +kernel
theorem d_X11_asks_201 : decode prog_13_method_49_code 201 = .ok (.getfield 38, 3) := by decide +kernel
theorem d_X11_asks_204 : decode prog_13_method_49_code 204 = .ok (.iload_n 2, 1) := by decide +kernel
theorem d_X11_asks_205 : decode prog_13_method_49_code 205 = .ok (.iaload, 1) := by decide +kernel
theorem d_X11_asks_206 : decode prog_13_method_49_code 206 = .ok (.invokevirtual 357, 3) := by decide +kernel
theorem d_X11_asks_209 : decode prog_13_method_49_code 209 = .ok (.goto 65, 3) := by decide +kernel
theorem d_X11_asks_212 : decode prog_13_method_49_code 212 = .ok (.iload_n 3, 1) := by decide +kernel
theorem d_X11_asks_213 : decode prog_13_method_49_code 213 = .ok (.iconst (-1), 1) := by decide +kernel
theorem d_X11_asks_214 : decode prog_13_method_49_code 214 = .ok (.if_icmp .ne 15, 3) := by decide +kernel
theorem d_X11_asks_217 : decode prog_13_method_49_code 217 = .ok (.aload_n 0, 1) := by decide +kernel
theorem d_X11_asks_218 : decode prog_13_method_49_code 218 = .ok (.iload_n 1, 1) := by decide +kernel
theorem d_X11_asks_219 : decode prog_13_method_49_code 219 = .ok (.invokevirtual 302, 3) := by decide +kernel
theorem d_X11_asks_222 : decode prog_13_method_49_code 222 = .ok (.iconst (-1), 1) := by decide +kernel
theorem d_X11_asks_223 : decode prog_13_method_49_code 223 = .ok (.if_icmp .eq 34, 3) := by decide +kernel
theorem d_X11_asks_226 : decode prog_13_method_49_code 226 = .ok (.goto 14, 3) := by decide +kernel
theorem d_X11_asks_229 : decode prog_13_method_49_code 229 = .ok (.iload_n 3, 1) := by decide +kernel
theorem d_X11_asks_230 : decode prog_13_method_49_code 230 = .ok (.aload_n 0, 1) := by decide +kernel
theorem d_X11_asks_231 : decode prog_13_method_49_code 231 = .ok (.getfield 324, 3) := by decide +kernel
theorem d_X11_asks_234 : decode prog_13_method_49_code 234 = .ok (.invokestatic 230, 3) := by decide +kernel
theorem d_X11_asks_237 : decode prog_13_method_49_code 237 = .ok (.ifCond .eq 20, 3) := by decide +kernel
theorem d_X11_asks_240 : decode prog_13_method_49_code 240 = .ok (.aload_n 0, 1) := by decide +kernel
theorem d_X11_asks_241 : decode prog_13_method_49_code 241 = .ok (.iload_n 1, 1) := by decide +kernel
theorem d_X11_asks_242 : decode prog_13_method_49_code 242 = .ok (.bipush 9, 2) := by decide +kernel
theorem d_X11_asks_244 : decode prog_13_method_49_code 244 = .ok (.iload_n 3, 1) := by decide +kernel
theorem d_X11_asks_245 : decode prog_13_method_49_code 245 = .ok (.iload 4, 2) := by decide +kernel
theorem d_X11_asks_247 : decode prog_13_method_49_code 247 = .ok (.invokevirtual 339, 3) := by decide +kernel
theorem d_X11_asks_250 : decode prog_13_method_49_code 250 = .ok (.ifCond .eq 7, 3) := by decide +kernel
theorem d_X11_asks_253 : decode prog_13_method_49_code 253 = .ok (.iconst 1, 1) := by decide +kernel
theorem d_X11_asks_254 : decode prog_13_method_49_code 254 = .ok (.goto 4, 3) := by decide +kernel
theorem d_X11_asks_257 : decode prog_13_method_49_code 257 = .ok (.iconst 0, 1) := by decide +kernel
theorem d_X11_asks_258 : decode prog_13_method_49_code 258 = .ok (.istore 5, 2) := by decide +kernel
theorem d_X11_asks_260 : decode prog_13_method_49_code 260 = .ok (.goto 14, 3) := by decide +kernel
theorem d_X11_asks_263 : decode prog_13_method_49_code 263 = .ok (.aload_n 0, 1) := by decide +kernel
theorem d_X11_asks_264 : decode prog_13_method_49_code 264 = .ok (.iload_n 1, 1) := by decide +kernel
theorem d_X11_asks_265 : decode prog_13_method_49_code 265 = .ok (.bipush 10, 2) := by decide +kernel
theorem d_X11_asks_267 : decode prog_13_method_49_code 267 = .ok (.iload_n 3, 1) := by decide +kernel
theorem d_X11_asks_268 : decode prog_13_method_49_code 268 = .ok (.iconst 0, 1) := by decide +kernel
theorem d_X11_asks_269 : decode prog_13_method_49_code 269 = .ok (.invokevirtual 339, 3) := by decide +kernel
theorem d_X11_asks_272 : decode prog_13_method_49_code 272 = .ok (.istore 6, 2) := by decide +kernel
theorem d_X11_asks_274 : decode prog_13_method_49_code 274 = .ok (.return_, 1) := by decide +kernel
abbrev Y_X11_valueOf : Yx := (⟨"TaskWeaveModel", "valueOf", "(IZI)I"⟩, prog_13_method_47_code, 4, (some .int))
abbrev M_X11_valueOf : Mx := ("TaskWeaveModel", prog_13_method_47_code, 4, false)
theorem yk_X11_valueOf : Yk Y_X11_valueOf 3 := ⟨by decide +kernel, by decide +kernel, ⟨by decide, by decide⟩, by decide +kernel, by decide, trivial⟩
theorem d_X11_valueOf_0 : decode prog_13_method_47_code 0 = .ok (.iload_n 2, 1) := by decide +kernel
theorem d_X11_valueOf_1 : decode prog_13_method_47_code 1 = .ok (.ifCond .eq 17, 3) := by decide +kernel
theorem d_X11_valueOf_4 : decode prog_13_method_47_code 4 = .ok (.aload_n 0, 1) := by decide +kernel
theorem d_X11_valueOf_5 : decode prog_13_method_47_code 5 = .ok (.getfield 125, 3) := by decide +kernel
theorem d_X11_valueOf_8 : decode prog_13_method_47_code 8 = .ok (.bipush 8, 2) := by decide +kernel
theorem d_X11_valueOf_10 : decode prog_13_method_47_code 10 = .ok (.iload_n 1, 1) := by decide +kernel
theorem d_X11_valueOf_11 : decode prog_13_method_47_code 11 = .ok (.imul, 1) := by decide +kernel
theorem d_X11_valueOf_12 : decode prog_13_method_47_code 12 = .ok (.iload_n 3, 1) := by decide +kernel
theorem d_X11_valueOf_13 : decode prog_13_method_47_code 13 = .ok (.iadd, 1) := by decide +kernel
theorem d_X11_valueOf_14 : decode prog_13_method_47_code 14 = .ok (.iaload, 1) := by decide +kernel
theorem d_X11_valueOf_15 : decode prog_13_method_47_code 15 = .ok (.goto 4, 3) := by decide +kernel
theorem d_X11_valueOf_18 : decode prog_13_method_47_code 18 = .ok (.iload_n 3, 1) := by decide +kernel
theorem d_X11_valueOf_19 : decode prog_13_method_47_code 19 = .ok (.ireturn, 1) := by decide +kernel
abbrev Y_X11_goesStep : Yx := (⟨"TaskWeaveModel", "goesStep", "(I)V"⟩, prog_13_method_48_code, 7, none)
abbrev M_X11_goesStep : Mx := ("TaskWeaveModel", prog_13_method_48_code, 7, false)
theorem yk_X11_goesStep : Yk Y_X11_goesStep 1 := ⟨by decide +kernel, by decide +kernel, ⟨by decide, by decide⟩, by decide +kernel, by decide, trivial⟩
theorem d_X11_goesStep_0 : decode prog_13_method_48_code 0 = .ok (.aload_n 0, 1) := by decide +kernel
theorem d_X11_goesStep_1 : decode prog_13_method_48_code 1 = .ok (.getfield 116, 3) := by decide +kernel
theorem d_X11_goesStep_4 : decode prog_13_method_48_code 4 = .ok (.iload_n 1, 1) := by decide +kernel
theorem d_X11_goesStep_5 : decode prog_13_method_48_code 5 = .ok (.iaload, 1) := by decide +kernel
theorem d_X11_goesStep_6 : decode prog_13_method_48_code 6 = .ok (.istore_n 2, 1) := by decide +kernel
theorem d_X11_goesStep_7 : decode prog_13_method_48_code 7 = .ok (.aload_n 0, 1) := by decide +kernel
theorem d_X11_goesStep_8 : decode prog_13_method_48_code 8 = .ok (.getfield 315, 3) := by decide +kernel
theorem d_X11_goesStep_11 : decode prog_13_method_48_code 11 = .ok (.aload_n 0, 1) := by decide +kernel
theorem d_X11_goesStep_12 : decode prog_13_method_48_code 12 = .ok (.getfield 26, 3) := by decide +kernel
theorem d_X11_goesStep_15 : decode prog_13_method_48_code 15 = .ok (.iload_n 2, 1) := by decide +kernel
theorem d_X11_goesStep_16 : decode prog_13_method_48_code 16 = .ok (.iaload, 1) := by decide +kernel
theorem d_X11_goesStep_17 : decode prog_13_method_48_code 17 = .ok (.if_icmp .ne 14, 3) := by decide +kernel
theorem d_X11_goesStep_20 : decode prog_13_method_48_code 20 = .ok (.aload_n 0, 1) := by decide +kernel
theorem d_X11_goesStep_21 : decode prog_13_method_48_code 21 = .ok (.iload_n 1, 1) := by decide +kernel
theorem d_X11_goesStep_22 : decode prog_13_method_48_code 22 = .ok (.bipush 10, 2) := by decide +kernel
theorem d_X11_goesStep_24 : decode prog_13_method_48_code 24 = .ok (.iconst 0, 1) := by decide +kernel
theorem d_X11_goesStep_25 : decode prog_13_method_48_code 25 = .ok (.iconst 0, 1) := by decide +kernel
theorem d_X11_goesStep_26 : decode prog_13_method_48_code 26 = .ok (.invokevirtual 339, 3) := by decide +kernel
theorem d_X11_goesStep_29 : decode prog_13_method_48_code 29 = .ok (.istore_n 3, 1) := by decide +kernel
theorem d_X11_goesStep_30 : decode prog_13_method_48_code 30 = .ok (.return_, 1) := by decide +kernel
theorem d_X11_goesStep_31 : decode prog_13_method_48_code 31 = .ok (.aload_n 0, 1) := by decide +kernel
theorem d_X11_goesStep_32 : decode prog_13_method_48_code 32 = .ok (.getfield 327, 3) := by decide +kernel
theorem d_X11_goesStep_35 : decode prog_13_method_48_code 35 = .ok (.sipush 200, 3) := by decide +kernel
theorem d_X11_goesStep_38 : decode prog_13_method_48_code 38 = .ok (.if_icmp .ne 14, 3) := by decide +kernel
theorem d_X11_goesStep_41 : decode prog_13_method_48_code 41 = .ok (.aload_n 0, 1) := by decide +kernel
theorem d_X11_goesStep_42 : decode prog_13_method_48_code 42 = .ok (.iload_n 1, 1) := by decide +kernel
theorem d_X11_goesStep_43 : decode prog_13_method_48_code 43 = .ok (.bipush 12, 2) := by decide +kernel
theorem d_X11_goesStep_45 : decode prog_13_method_48_code 45 = .ok (.iconst (-1), 1) := by decide +kernel
theorem d_X11_goesStep_46 : decode prog_13_method_48_code 46 = .ok (.iconst 0, 1) := by decide +kernel
theorem d_X11_goesStep_47 : decode prog_13_method_48_code 47 = .ok (.invokevirtual 339, 3) := by decide +kernel
theorem d_X11_goesStep_50 : decode prog_13_method_48_code 50 = .ok (.istore_n 3, 1) := by decide +kernel
theorem d_X11_goesStep_51 : decode prog_13_method_48_code 51 = .ok (.return_, 1) := by decide +kernel
theorem d_X11_goesStep_52 : decode prog_13_method_48_code 52 = .ok (.aload_n 0, 1) := by decide +kernel
theorem d_X11_goesStep_53 : decode prog_13_method_48_code 53 = .ok (.dup, 1) := by decide +kernel
theorem d_X11_goesStep_54 : decode prog_13_method_48_code 54 = .ok (.getfield 327, 3) := by decide +kernel
theorem d_X11_goesStep_57 : decode prog_13_method_48_code 57 = .ok (.iconst 1, 1) := by decide +kernel
theorem d_X11_goesStep_58 : decode prog_13_method_48_code 58 = .ok (.iadd, 1) := by decide +kernel
theorem d_X11_goesStep_59 : decode prog_13_method_48_code 59 = .ok (.putfield 327, 3) := by decide +kernel
theorem d_X11_goesStep_62 : decode prog_13_method_48_code 62 = .ok (.aload_n 0, 1) := by decide +kernel
theorem d_X11_goesStep_63 : decode prog_13_method_48_code 63 = .ok (.getfield 23, 3) := by decide +kernel
theorem d_X11_goesStep_66 : decode prog_13_method_48_code 66 = .ok (.iload_n 2, 1) := by decide +kernel
theorem d_X11_goesStep_67 : decode prog_13_method_48_code 67 = .ok (.iaload, 1) := by decide +kernel
theorem d_X11_goesStep_68 : decode prog_13_method_48_code 68 = .ok (.aload_n 0, 1) := by decide +kernel
theorem d_X11_goesStep_69 : decode prog_13_method_48_code 69 = .ok (.getfield 315, 3) := by decide +kernel
theorem d_X11_goesStep_72 : decode prog_13_method_48_code 72 = .ok (.iadd, 1) := by decide +kernel
theorem d_X11_goesStep_73 : decode prog_13_method_48_code 73 = .ok (.istore_n 3, 1) := by decide +kernel
theorem d_X11_goesStep_74 : decode prog_13_method_48_code 74 = .ok (.aload_n 0, 1) := by decide +kernel
theorem d_X11_goesStep_75 : decode prog_13_method_48_code 75 = .ok (.dup, 1) := by decide +kernel
theorem d_X11_goesStep_76 : decode prog_13_method_48_code 76 = .ok (.getfield 315, 3) := by decide +kernel
theorem d_X11_goesStep_79 : decode prog_13_method_48_code 79 = .ok (.iconst 1, 1) := by decide +kernel
theorem d_X11_goesStep_80 : decode prog_13_method_48_code 80 = .ok (.iadd, 1) := by decide +kernel
theorem d_X11_goesStep_81 : decode prog_13_method_48_code 81 = .ok (.putfield 315, 3) := by decide +kernel
theorem d_X11_goesStep_84 : decode prog_13_method_48_code 84 = .ok (.aload_n 0, 1) := by decide +kernel
theorem d_X11_goesStep_85 : decode prog_13_method_48_code 85 = .ok (.iload_n 1, 1) := by decide +kernel
theorem d_X11_goesStep_86 : decode prog_13_method_48_code 86 = .ok (.aload_n 0, 1) := by decide +kernel
theorem d_X11_goesStep_87 : decode prog_13_method_48_code 87 = .ok (.getfield 41, 3) := by decide +kernel
theorem d_X11_goesStep_90 : decode prog_13_method_48_code 90 = .ok (.iload_n 3, 1) := by decide +kernel
theorem d_X11_goesStep_91 : decode prog_13_method_48_code 91 = .ok (.baload, 1) := by decide +kernel
theorem d_X11_goesStep_92 : decode prog_13_method_48_code 92 = .ok (.aload_n 0, 1) := by decide +kernel
theorem d_X11_goesStep_93 : decode prog_13_method_48_code 93 = .ok (.getfield 45, 3) := by decide +kernel
theorem d_X11_goesStep_96 : decode prog_13_method_48_code 96 = .ok (.iload_n 3, 1) := by decide +kernel
theorem d_X11_goesStep_97 : decode prog_13_method_48_code 97 = .ok (.iaload, 1) := by decide +kernel
theorem d_X11_goesStep_98 : decode prog_13_method_48_code 98 = .ok (.invokevirtual 343, 3) := by decide +kernel
theorem d_X11_goesStep_101 : decode prog_13_method_48_code 101 = .ok (.istore 4, 2) := by decide +kernel
theorem d_X11_goesStep_103 : decode prog_13_method_48_code 103 = .ok (.aload_n 0, 1) := by decide +kernel
theorem d_X11_goesStep_104 : decode prog_13_method_48_code 104 = .ok (.iload_n 1, 1) := by decide +kernel
theorem d_X11_goesStep_105 : decode prog_13_method_48_code 105 = .ok (.aload_n 0, 1) := by decide +kernel
theorem d_X11_goesStep_106 : decode prog_13_method_48_code 106 = .ok (.getfield 48, 3) := by decide +kernel
theorem d_X11_goesStep_109 : decode prog_13_method_48_code 109 = .ok (.iload_n 3, 1) := by decide +kernel
theorem d_X11_goesStep_110 : decode prog_13_method_48_code 110 = .ok (.baload, 1) := by decide +kernel
theorem d_X11_goesStep_111 : decode prog_13_method_48_code 111 = .ok (.aload_n 0, 1) := by decide +kernel
theorem d_X11_goesStep_112 : decode prog_13_method_48_code 112 = .ok (.getfield 51, 3) := by decide +kernel
theorem d_X11_goesStep_115 : decode prog_13_method_48_code 115 = .ok (.iload_n 3, 1) := by decide +kernel
theorem d_X11_goesStep_116 : decode prog_13_method_48_code 116 = .ok (.iaload, 1) := by decide +kernel
theorem d_X11_goesStep_117 : decode prog_13_method_48_code 117 = .ok (.invokevirtual 343, 3) := by decide +kernel
theorem d_X11_goesStep_120 : decode prog_13_method_48_code 120 = .ok (.istore 5, 2) := by decide +kernel
theorem d_X11_goesStep_122 : decode prog_13_method_48_code 122 = .ok (.bipush 8, 2) := by decide +kernel
theorem d_X11_goesStep_124 : decode prog_13_method_48_code 124 = .ok (.iload_n 1, 1) := by decide +kernel
theorem d_X11_goesStep_125 : decode prog_13_method_48_code 125 = .ok (.imul, 1) := by decide +kernel
theorem d_X11_goesStep_126 : decode prog_13_method_48_code 126 = .ok (.aload_n 0, 1) := by decide +kernel
theorem d_X11_goesStep_127 : decode prog_13_method_48_code 127 = .ok (.getfield 38, 3) := by decide +kernel
theorem d_X11_goesStep_130 : decode prog_13_method_48_code 130 = .ok (.iload_n 3, 1) := by decide +kernel
theorem d_X11_goesStep_131 : decode prog_13_method_48_code 131 = .ok (.iaload, 1) := by decide +kernel
theorem d_X11_goesStep_132 : decode prog_13_method_48_code 132 = .ok (.iadd, 1) := by decide +kernel
theorem d_X11_goesStep_133 : decode prog_13_method_48_code 133 = .ok (.istore 6, 2) := by decide +kernel
theorem d_X11_goesStep_135 : decode prog_13_method_48_code 135 = .ok (.aload_n 0, 1) := by decide +kernel
theorem d_X11_goesStep_136 : decode prog_13_method_48_code 136 = .ok (.getfield 35, 3) := by decide +kernel
theorem d_X11_goesStep_139 : decode prog_13_method_48_code 139 = .ok (.iload_n 3, 1) := by decide +kernel
theorem d_X11_goesStep_140 : decode prog_13_method_48_code 140 = .ok (.iaload, 1) := by decide +kernel
theorem d_X11_goesStep_141 : decode prog_13_method_48_code 141 = .ok (.tableswitch 210 0 13 #[71, 83, 98, 113, 128, 150, 210, 210, 210, 210, 210, 210, 172, 197], 71) := by decide +kernel
theorem d_X11_goesStep_212 : decode prog_13_method_48_code 212 = .ok (.aload_n 0, 1) := by decide +kernel
theorem d_X11_goesStep_213 : decode prog_13_method_48_code 213 = .ok (.getfield 125, 3) := by decide +kernel
theorem d_X11_goesStep_216 : decode prog_13_method_48_code 216 = .ok (.iload 6, 2) := by decide +kernel
theorem d_X11_goesStep_218 : decode prog_13_method_48_code 218 = .ok (.iload 4, 2) := by decide +kernel
theorem d_X11_goesStep_220 : decode prog_13_method_48_code 220 = .ok (.iastore, 1) := by decide +kernel
theorem d_X11_goesStep_221 : decode prog_13_method_48_code 221 = .ok (.goto 140, 3) := by decide +kernel
theorem d_X11_goesStep_224 : decode prog_13_method_48_code 224 = .ok (.aload_n 0, 1) := by decide +kernel
theorem d_X11_goesStep_225 : decode prog_13_method_48_code 225 = .ok (.getfield 125, 3) := by decide +kernel
theorem d_X11_goesStep_228 : decode prog_13_method_48_code 228 = .ok (.iload 6, 2) := by decide +kernel
theorem d_X11_goesStep_230 : decode prog_13_method_48_code 230 = .ok (.iload 4, 2) := by decide +kernel
theorem d_X11_goesStep_232 : decode prog_13_method_48_code 232 = .ok (.iload 5, 2) := by decide +kernel
theorem d_X11_goesStep_234 : decode prog_13_method_48_code 234 = .ok (.iadd, 1) := by decide +kernel
theorem d_X11_goesStep_235 : decode prog_13_method_48_code 235 = .ok (.iastore, 1) := by decide +kernel
theorem d_X11_goesStep_236 : decode prog_13_method_48_code 236 = .ok (.goto 125, 3) := by decide +kernel
theorem d_X11_goesStep_239 : decode prog_13_method_48_code 239 = .ok (.aload_n 0, 1) := by decide +kernel
theorem d_X11_goesStep_240 : decode prog_13_method_48_code 240 = .ok (.getfield 125, 3) := by decide +kernel
theorem d_X11_goesStep_243 : decode prog_13_method_48_code 243 = .ok (.iload 6, 2) := by decide +kernel
theorem d_X11_goesStep_245 : decode prog_13_method_48_code 245 = .ok (.iload 4, 2) := by decide +kernel
theorem d_X11_goesStep_247 : decode prog_13_method_48_code 247 = .ok (.iload 5, 2) := by decide +kernel
theorem d_X11_goesStep_249 : decode prog_13_method_48_code 249 = .ok (.isub, 1) := by decide +kernel
theorem d_X11_goesStep_250 : decode prog_13_method_48_code 250 = .ok (.iastore, 1) := by decide +kernel
theorem d_X11_goesStep_251 : decode prog_13_method_48_code 251 = .ok (.goto 110, 3) := by decide +kernel
theorem d_X11_goesStep_254 : decode prog_13_method_48_code 254 = .ok (.aload_n 0, 1) := by decide +kernel
theorem d_X11_goesStep_255 : decode prog_13_method_48_code 255 = .ok (.getfield 125, 3) := by decide +kernel
theorem d_X11_goesStep_258 : decode prog_13_method_48_code 258 = .ok (.iload 6, 2) := by decide +kernel
theorem d_X11_goesStep_260 : decode prog_13_method_48_code 260 = .ok (.iload 4, 2) := by decide +kernel
theorem d_X11_goesStep_262 : decode prog_13_method_48_code 262 = .ok (.iload 5, 2) := by decide +kernel
theorem d_X11_goesStep_264 : decode prog_13_method_48_code 264 = .ok (.imul, 1) := by decide +kernel
theorem d_X11_goesStep_265 : decode prog_13_method_48_code 265 = .ok (.iastore, 1) := by decide +kernel
theorem d_X11_goesStep_266 : decode prog_13_method_48_code 266 = .ok (.goto 95, 3) := by decide +kernel
theorem d_X11_goesStep_269 : decode prog_13_method_48_code 269 = .ok (.aload_n 0, 1) := by decide +kernel
theorem d_X11_goesStep_270 : decode prog_13_method_48_code 270 = .ok (.getfield 125, 3) := by decide +kernel
theorem d_X11_goesStep_273 : decode prog_13_method_48_code 273 = .ok (.iload 6, 2) := by decide +kernel
theorem d_X11_goesStep_275 : decode prog_13_method_48_code 275 = .ok (.iload 4, 2) := by decide +kernel
theorem d_X11_goesStep_277 : decode prog_13_method_48_code 277 = .ok (.iload 5, 2) := by decide +kernel
theorem d_X11_goesStep_279 : decode prog_13_method_48_code 279 = .ok (.if_icmp .ge 7, 3) := by decide +kernel
theorem d_X11_goesStep_282 : decode prog_13_method_48_code 282 = .ok (.iconst 1, 1) := by decide +kernel
theorem d_X11_goesStep_283 : decode prog_13_method_48_code 283 = .ok (.goto 4, 3) := by decide +kernel
theorem d_X11_goesStep_286 : decode prog_13_method_48_code 286 = .ok (.iconst 0, 1) := by decide +kernel
theorem d_X11_goesStep_287 : decode prog_13_method_48_code 287 = .ok (.iastore, 1) := by decide +kernel
theorem d_X11_goesStep_288 : decode prog_13_method_48_code 288 = .ok (.goto 73, 3) := by decide +kernel
theorem d_X11_goesStep_291 : decode prog_13_method_48_code 291 = .ok (.aload_n 0, 1) := by decide +kernel
theorem d_X11_goesStep_292 : decode prog_13_method_48_code 292 = .ok (.getfield 125, 3) := by decide +kernel
theorem d_X11_goesStep_295 : decode prog_13_method_48_code 295 = .ok (.iload 6, 2) := by decide +kernel
theorem d_X11_goesStep_297 : decode prog_13_method_48_code 297 = .ok (.iload 4, 2) := by decide +kernel
theorem d_X11_goesStep_299 : decode prog_13_method_48_code 299 = .ok (.iload 5, 2) := by decide +kernel
theorem d_X11_goesStep_301 : decode prog_13_method_48_code 301 = .ok (.if_icmp .ne 7, 3) := by decide +kernel
theorem d_X11_goesStep_304 : decode prog_13_method_48_code 304 = .ok (.iconst 1, 1) := by decide +kernel
theorem d_X11_goesStep_305 : decode prog_13_method_48_code 305 = .ok (.goto 4, 3) := by decide +kernel
theorem d_X11_goesStep_308 : decode prog_13_method_48_code 308 = .ok (.iconst 0, 1) := by decide +kernel
theorem d_X11_goesStep_309 : decode prog_13_method_48_code 309 = .ok (.iastore, 1) := by decide +kernel
theorem d_X11_goesStep_310 : decode prog_13_method_48_code 310 = .ok (.goto 51, 3) := by decide +kernel
theorem d_X11_goesStep_313 : decode prog_13_method_48_code 313 = .ok (.aload_n 0, 1) := by decide +kernel
theorem d_X11_goesStep_314 : decode prog_13_method_48_code 314 = .ok (.iload 4, 2) := by decide +kernel
theorem d_X11_goesStep_316 : decode prog_13_method_48_code 316 = .ok (.ifCond .eq 12, 3) := by decide +kernel
theorem d_X11_goesStep_319 : decode prog_13_method_48_code 319 = .ok (.aload_n 0, 1) := by decide +kernel
theorem d_X11_goesStep_320 : decode prog_13_method_48_code 320 = .ok (.getfield 54, 3) := by decide +kernel
theorem d_X11_goesStep_323 : decode prog_13_method_48_code 323 = .ok (.iload_n 3, 1) := by decide +kernel
theorem d_X11_goesStep_324 : decode prog_13_method_48_code 324 = .ok (.iaload, 1) := by decide +kernel
theorem d_X11_goesStep_325 : decode prog_13_method_48_code 325 = .ok (.goto 7, 3) := by decide +kernel
theorem d_X11_goesStep_328 : decode prog_13_method_48_code 328 = .ok (.aload_n 0, 1) := by decide +kernel
theorem d_X11_goesStep_329 : decode prog_13_method_48_code 329 = .ok (.getfield 315, 3) := by decide +kernel
theorem d_X11_goesStep_332 : decode prog_13_method_48_code 332 = .ok (.putfield 315, 3) := by decide +kernel
theorem d_X11_goesStep_335 : decode prog_13_method_48_code 335 = .ok (.goto 26, 3) := by decide +kernel
theorem d_X11_goesStep_338 : decode prog_13_method_48_code 338 = .ok (.aload_n 0, 1) := by decide +kernel
theorem d_X11_goesStep_339 : decode prog_13_method_48_code 339 = .ok (.aload_n 0, 1) := by decide +kernel
theorem d_X11_goesStep_340 : decode prog_13_method_48_code 340 = .ok (.getfield 54, 3) := by decide +kernel
theorem d_X11_goesStep_343 : decode prog_13_method_48_code 343 = .ok (.iload_n 3, 1) := by decide +kernel
theorem d_X11_goesStep_344 : decode prog_13_method_48_code 344 = .ok (.iaload, 1) := by decide +kernel
theorem d_X11_goesStep_345 : decode prog_13_method_48_code 345 = .ok (.putfield 315, 3) := by decide +kernel
theorem d_X11_goesStep_348 : decode prog_13_method_48_code 348 = .ok (.goto 13, 3) := by decide +kernel
theorem d_X11_goesStep_351 : decode prog_13_method_48_code 351 = .ok (.aload_n 0, 1) := by decide +kernel
theorem d_X11_goesStep_352 : decode prog_13_method_48_code 352 = .ok (.iload_n 1, 1) := by decide +kernel
theorem d_X11_goesStep_353 : decode prog_13_method_48_code 353 = .ok (.iload_n 3, 1) := by decide +kernel
theorem d_X11_goesStep_354 : decode prog_13_method_48_code 354 = .ok (.iload 4, 2) := by decide +kernel
theorem d_X11_goesStep_356 : decode prog_13_method_48_code 356 = .ok (.iload 5, 2) := by decide +kernel
theorem d_X11_goesStep_358 : decode prog_13_method_48_code 358 = .ok (.invokevirtual 347, 3) := by decide +kernel
theorem d_X11_goesStep_361 : decode prog_13_method_48_code 361 = .ok (.return_, 1) := by decide +kernel
abbrev Y_X11_signals : Yx := (⟨"TaskWeaveModel", "signals", "(II)I"⟩, prog_13_method_43_code, 5, (some .int))
abbrev M_X11_signals : Mx := ("TaskWeaveModel", prog_13_method_43_code, 5, false)
theorem yk_X11_signals : Yk Y_X11_signals 2 := ⟨by decide +kernel, by decide +kernel, ⟨by decide, by decide⟩, by decide +kernel, by decide, trivial⟩
theorem d_X11_signals_0 : decode prog_13_method_43_code 0 = .ok (.iconst 0, 1) := by decide +kernel
theorem d_X11_signals_1 : decode prog_13_method_43_code 1 = .ok (.istore_n 3, 1) := by decide +kernel
theorem d_X11_signals_2 : decode prog_13_method_43_code 2 = .ok (.iconst 0, 1) := by decide +kernel
theorem d_X11_signals_3 : decode prog_13_method_43_code 3 = .ok (.istore 4, 2) := by decide +kernel
theorem d_X11_signals_5 : decode prog_13_method_43_code 5 = .ok (.iload 4, 2) := by decide +kernel
theorem d_X11_signals_7 : decode prog_13_method_43_code 7 = .ok (.iload_n 2, 1) := by decide +kernel
theorem d_X11_signals_8 : decode prog_13_method_43_code 8 = .ok (.if_icmp .ge 33, 3) := by decide +kernel
theorem d_X11_signals_11 : decode prog_13_method_43_code 11 = .ok (.iload_n 3, 1) := by decide +kernel
theorem d_X11_signals_12 : decode prog_13_method_43_code 12 = .ok (.aload_n 0, 1) := by decide +kernel
theorem d_X11_signals_13 : decode prog_13_method_43_code 13 = .ok (.aload_n 0, 1) := by decide +kernel
theorem d_X11_signals_14 : decode prog_13_method_43_code 14 = .ok (.iload_n 1, 1) := by decide +kernel
theorem d_X11_signals_15 : decode prog_13_method_43_code 15 = .ok (.iload 4, 2) := by decide +kernel
theorem d_X11_signals_17 : decode prog_13_method_43_code 17 = .ok (.invokevirtual 305, 3) := by decide +kernel
theorem d_X11_signals_20 : decode prog_13_method_43_code 20 = .ok (.invokevirtual 286, 3) := by decide +kernel
theorem d_X11_signals_23 : decode prog_13_method_43_code 23 = .ok (.bipush 8, 2) := by decide +kernel
theorem d_X11_signals_25 : decode prog_13_method_43_code 25 = .ok (.if_icmp .ne 7, 3) := by decide +kernel
theorem d_X11_signals_28 : decode prog_13_method_43_code 28 = .ok (.iconst 1, 1) := by decide +kernel
theorem d_X11_signals_29 : decode prog_13_method_43_code 29 = .ok (.goto 4, 3) := by decide +kernel
theorem d_X11_signals_32 : decode prog_13_method_43_code 32 = .ok (.iconst 0, 1) := by decide +kernel
theorem d_X11_signals_33 : decode prog_13_method_43_code 33 = .ok (.iadd, 1) := by decide +kernel
theorem d_X11_signals_34 : decode prog_13_method_43_code 34 = .ok (.istore_n 3, 1) := by decide +kernel
theorem d_X11_signals_35 : decode prog_13_method_43_code 35 = .ok (.iinc 4 1, 3) := by decide +kernel
theorem d_X11_signals_38 : decode prog_13_method_43_code 38 = .ok (.goto (-33), 3) := by decide +kernel
theorem d_X11_signals_41 : decode prog_13_method_43_code 41 = .ok (.iload_n 3, 1) := by decide +kernel
theorem d_X11_signals_42 : decode prog_13_method_43_code 42 = .ok (.ireturn, 1) := by decide +kernel
abbrev Y_X11_goThrough : Yx := (⟨"TaskWeaveModel", "goThrough", "(I)V"⟩, prog_13_method_42_code, 3, none)
abbrev M_X11_goThrough : Mx := ("TaskWeaveModel", prog_13_method_42_code, 3, false)
theorem yk_X11_goThrough : Yk Y_X11_goThrough 1 := ⟨by decide +kernel, by decide +kernel, ⟨by decide, by decide⟩, by decide +kernel, by decide, trivial⟩
theorem d_X11_goThrough_0 : decode prog_13_method_42_code 0 = .ok (.aload_n 0, 1) := by decide +kernel
theorem d_X11_goThrough_1 : decode prog_13_method_42_code 1 = .ok (.getfield 116, 3) := by decide +kernel
theorem d_X11_goThrough_4 : decode prog_13_method_42_code 4 = .ok (.iload_n 1, 1) := by decide +kernel
theorem d_X11_goThrough_5 : decode prog_13_method_42_code 5 = .ok (.aload_n 0, 1) := by decide +kernel
theorem d_X11_goThrough_6 : decode prog_13_method_42_code 6 = .ok (.aload_n 0, 1) := by decide +kernel
theorem d_X11_goThrough_7 : decode prog_13_method_42_code 7 = .ok (.getfield 70, 3) := by decide +kernel
theorem d_X11_goThrough_10 : decode prog_13_method_42_code 10 = .ok (.aload_n 0, 1) := by decide +kernel
theorem d_X11_goThrough_11 : decode prog_13_method_42_code 11 = .ok (.iload_n 1, 1) := by decide +kernel
theorem d_X11_goThrough_12 : decode prog_13_method_42_code 12 = .ok (.iconst 0, 1) := by decide +kernel
theorem d_X11_goThrough_13 : decode prog_13_method_42_code 13 = .ok (.invokevirtual 305, 3) := by decide +kernel
theorem d_X11_goThrough_16 : decode prog_13_method_42_code 16 = .ok (.iaload, 1) := by decide +kernel
theorem d_X11_goThrough_17 : decode prog_13_method_42_code 17 = .ok (.invokevirtual 312, 3) := by decide +kernel
theorem d_X11_goThrough_20 : decode prog_13_method_42_code 20 = .ok (.iastore, 1) := by decide +kernel
theorem d_X11_goThrough_21 : decode prog_13_method_42_code 21 = .ok (.iconst 0, 1) := by decide +kernel
theorem d_X11_goThrough_22 : decode prog_13_method_42_code 22 = .ok (.istore_n 2, 1) := by decide +kernel
theorem d_X11_goThrough_23 : decode prog_13_method_42_code 23 = .ok (.iload_n 2, 1) := by decide +kernel
theorem d_X11_goThrough_24 : decode prog_13_method_42_code 24 = .ok (.bipush 8, 2) := by decide +kernel
theorem d_X11_goThrough_26 : decode prog_13_method_42_code 26 = .ok (.if_icmp .ge 21, 3) := by decide +kernel
theorem d_X11_goThrough_29 : decode prog_13_method_42_code 29 = .ok (.aload_n 0, 1) := by decide +kernel
theorem d_X11_goThrough_30 : decode prog_13_method_42_code 30 = .ok (.getfield 125, 3) := by decide +kernel
theorem d_X11_goThrough_33 : decode prog_13_method_42_code 33 = .ok (.bipush 8, 2) := by decide +kernel
theorem d_X11_goThrough_35 : decode prog_13_method_42_code 35 = .ok (.iload_n 1, 1) := by decide +kernel
theorem d_X11_goThrough_36 : decode prog_13_method_42_code 36 = .ok (.imul, 1) := by decide +kernel
theorem d_X11_goThrough_37 : decode prog_13_method_42_code 37 = .ok (.iload_n 2, 1) := by decide +kernel
theorem d_X11_goThrough_38 : decode prog_13_method_42_code 38 = .ok (.iadd, 1) := by decide +kernel
theorem d_X11_goThrough_39 : decode prog_13_method_42_code 39 = .ok (.iconst 0, 1) := by decide +kernel
theorem d_X11_goThrough_40 : decode prog_13_method_42_code 40 = .ok (.iastore, 1) := by decide +kernel
theorem d_X11_goThrough_41 : decode prog_13_method_42_code 41 = .ok (.iinc 2 1, 3) := by decide +kernel
theorem d_X11_goThrough_44 : decode prog_13_method_42_code 44 = .ok (.goto (-21), 3) := by decide +kernel
theorem d_X11_goThrough_47 : decode prog_13_method_42_code 47 = .ok (.aload_n 0, 1) := by decide +kernel
theorem d_X11_goThrough_48 : decode prog_13_method_42_code 48 = .ok (.getfield 125, 3) := by decide +kernel
theorem d_X11_goThrough_51 : decode prog_13_method_42_code 51 = .ok (.bipush 8, 2) := by decide +kernel
theorem d_X11_goThrough_53 : decode prog_13_method_42_code 53 = .ok (.iload_n 1, 1) := by decide +kernel
theorem d_X11_goThrough_54 : decode prog_13_method_42_code 54 = .ok (.imul, 1) := by decide +kernel
theorem d_X11_goThrough_55 : decode prog_13_method_42_code 55 = .ok (.aload_n 0, 1) := by decide +kernel
theorem d_X11_goThrough_56 : decode prog_13_method_42_code 56 = .ok (.getfield 73, 3) := by decide +kernel
theorem d_X11_goThrough_59 : decode prog_13_method_42_code 59 = .ok (.aload_n 0, 1) := by decide +kernel
theorem d_X11_goThrough_60 : decode prog_13_method_42_code 60 = .ok (.iload_n 1, 1) := by decide +kernel
theorem d_X11_goThrough_61 : decode prog_13_method_42_code 61 = .ok (.iconst 0, 1) := by decide +kernel
theorem d_X11_goThrough_62 : decode prog_13_method_42_code 62 = .ok (.invokevirtual 305, 3) := by decide +kernel
theorem d_X11_goThrough_65 : decode prog_13_method_42_code 65 = .ok (.iaload, 1) := by decide +kernel
theorem d_X11_goThrough_66 : decode prog_13_method_42_code 66 = .ok (.iastore, 1) := by decide +kernel
theorem d_X11_goThrough_67 : decode prog_13_method_42_code 67 = .ok (.aload_n 0, 1) := by decide +kernel
theorem d_X11_goThrough_68 : decode prog_13_method_42_code 68 = .ok (.iconst 0, 1) := by decide +kernel
theorem d_X11_goThrough_69 : decode prog_13_method_42_code 69 = .ok (.putfield 315, 3) := by decide +kernel
theorem d_X11_goThrough_72 : decode prog_13_method_42_code 72 = .ok (.aload_n 0, 1) := by decide +kernel
theorem d_X11_goThrough_73 : decode prog_13_method_42_code 73 = .ok (.iconst 1, 1) := by decide +kernel
theorem d_X11_goThrough_74 : decode prog_13_method_42_code 74 = .ok (.putfield 318, 3) := by decide +kernel
theorem d_X11_goThrough_77 : decode prog_13_method_42_code 77 = .ok (.aload_n 0, 1) := by decide +kernel
theorem d_X11_goThrough_78 : decode prog_13_method_42_code 78 = .ok (.iconst 0, 1) := by decide +kernel
theorem d_X11_goThrough_79 : decode prog_13_method_42_code 79 = .ok (.putfield 321, 3) := by decide +kernel
theorem d_X11_goThrough_82 : decode prog_13_method_42_code 82 = .ok (.aload_n 0, 1) := by decide +kernel
theorem d_X11_goThrough_83 : decode prog_13_method_42_code 83 = .ok (.iconst 0, 1) := by decide +kernel
theorem d_X11_goThrough_84 : decode prog_13_method_42_code 84 = .ok (.putfield 324, 3) := by decide +kernel
theorem d_X11_goThrough_87 : decode prog_13_method_42_code 87 = .ok (.aload_n 0, 1) := by decide +kernel
theorem d_X11_goThrough_88 : decode prog_13_method_42_code 88 = .ok (.iconst 0, 1) := by decide +kernel
theorem d_X11_goThrough_89 : decode prog_13_method_42_code 89 = .ok (.putfield 327, 3) := by decide +kernel
theorem d_X11_goThrough_92 : decode prog_13_method_42_code 92 = .ok (.aload_n 0, 1) := by decide +kernel
theorem d_X11_goThrough_93 : decode prog_13_method_42_code 93 = .ok (.getfield 119, 3) := by decide +kernel
theorem d_X11_goThrough_96 : decode prog_13_method_42_code 96 = .ok (.iload_n 1, 1) := by decide +kernel
theorem d_X11_goThrough_97 : decode prog_13_method_42_code 97 = .ok (.bipush 6, 2) := by decide +kernel
theorem d_X11_goThrough_99 : decode prog_13_method_42_code 99 = .ok (.iastore, 1) := by decide +kernel
theorem d_X11_goThrough_100 : decode prog_13_method_42_code 100 = .ok (.aload_n 0, 1) := by decide +kernel
theorem d_X11_goThrough_101 : decode prog_13_method_42_code 101 = .ok (.getfield 119, 3) := by decide +kernel
theorem d_X11_goThrough_104 : decode prog_13_method_42_code 104 = .ok (.iload_n 1, 1) := by decide +kernel
theorem d_X11_goThrough_105 : decode prog_13_method_42_code 105 = .ok (.iaload, 1) := by decide +kernel
theorem d_X11_goThrough_106 : decode prog_13_method_42_code 106 = .ok (.bipush 6, 2) := by decide +kernel
theorem d_X11_goThrough_108 : decode prog_13_method_42_code 108 = .ok (.if_icmp .ne 11, 3) := by decide +kernel
theorem d_X11_goThrough_111 : decode prog_13_method_42_code 111 = .ok (.aload_n 0, 1) := by decide +kernel
theorem d_X11_goThrough_112 : decode prog_13_method_42_code 112 = .ok (.iload_n 1, 1) := by decide +kernel
theorem d_X11_goThrough_113 : decode prog_13_method_42_code 113 = .ok (.invokevirtual 330, 3) := by decide +kernel
theorem d_X11_goThrough_116 : decode prog_13_method_42_code 116 = .ok (.goto (-16), 3) := by decide +kernel
theorem d_X11_goThrough_119 : decode prog_13_method_42_code 119 = .ok (.aload_n 0, 1) := by decide +kernel
theorem d_X11_goThrough_120 : decode prog_13_method_42_code 120 = .ok (.getfield 128, 3) := by decide +kernel
theorem d_X11_goThrough_123 : decode prog_13_method_42_code 123 = .ok (.iload_n 1, 1) := by decide +kernel
theorem d_X11_goThrough_124 : decode prog_13_method_42_code 124 = .ok (.aload_n 0, 1) := by decide +kernel
theorem d_X11_goThrough_125 : decode prog_13_method_42_code 125 = .ok (.getfield 324, 3) := by decide +kernel
theorem d_X11_goThrough_128 : decode prog_13_method_42_code 128 = .ok (.iastore, 1) := by decide +kernel
theorem d_X11_goThrough_129 : decode prog_13_method_42_code 129 = .ok (.aload_n 0, 1) := by decide +kernel
theorem d_X11_goThrough_130 : decode prog_13_method_42_code 130 = .ok (.getfield 131, 3) := by decide +kernel
theorem d_X11_goThrough_133 : decode prog_13_method_42_code 133 = .ok (.iload_n 1, 1) := by decide +kernel
theorem d_X11_goThrough_134 : decode prog_13_method_42_code 134 = .ok (.aload_n 0, 1) := by decide +kernel
theorem d_X11_goThrough_135 : decode prog_13_method_42_code 135 = .ok (.iload_n 1, 1) := by decide +kernel
theorem d_X11_goThrough_136 : decode prog_13_method_42_code 136 = .ok (.aload_n 0, 1) := by decide +kernel
theorem d_X11_goThrough_137 : decode prog_13_method_42_code 137 = .ok (.getfield 113, 3) := by decide +kernel
theorem d_X11_goThrough_140 : decode prog_13_method_42_code 140 = .ok (.iload_n 1, 1) := by decide +kernel
theorem d_X11_goThrough_141 : decode prog_13_method_42_code 141 = .ok (.iaload, 1) := by decide +kernel
theorem d_X11_goThrough_142 : decode prog_13_method_42_code 142 = .ok (.invokevirtual 333, 3) := by decide +kernel
theorem d_X11_goThrough_145 : decode prog_13_method_42_code 145 = .ok (.aload_n 0, 1) := by decide +kernel
theorem d_X11_goThrough_146 : decode prog_13_method_42_code 146 = .ok (.getfield 321, 3) := by decide +kernel
theorem d_X11_goThrough_149 : decode prog_13_method_42_code 149 = .ok (.isub, 1) := by decide +kernel
theorem d_X11_goThrough_150 : decode prog_13_method_42_code 150 = .ok (.iastore, 1) := by decide +kernel
theorem d_X11_goThrough_151 : decode prog_13_method_42_code 151 = .ok (.return_, 1) := by decide +kernel
abbrev Y_X11_keep : Yx := (⟨"TaskWeaveModel", "keep", "(III)V"⟩, prog_13_method_35_code, 8, none)
abbrev M_X11_keep : Mx := ("TaskWeaveModel", prog_13_method_35_code, 8, false)
theorem yk_X11_keep : Yk Y_X11_keep 3 := ⟨by decide +kernel, by decide +kernel, ⟨by decide, by decide⟩, by decide +kernel, by decide, trivial⟩
theorem d_X11_keep_0 : decode prog_13_method_35_code 0 = .ok (.aload_n 0, 1) := by decide +kernel
theorem d_X11_keep_1 : decode prog_13_method_35_code 1 = .ok (.iload_n 2, 1) := by decide +kernel
theorem d_X11_keep_2 : decode prog_13_method_35_code 2 = .ok (.invokevirtual 286, 3) := by decide +kernel
theorem d_X11_keep_5 : decode prog_13_method_35_code 5 = .ok (.istore 4, 2) := by decide +kernel
theorem d_X11_keep_7 : decode prog_13_method_35_code 7 = .ok (.aload_n 0, 1) := by decide +kernel
theorem d_X11_keep_8 : decode prog_13_method_35_code 8 = .ok (.getfield 110, 3) := by decide +kernel
theorem d_X11_keep_11 : decode prog_13_method_35_code 11 = .ok (.bipush 60, 2) := by decide +kernel
theorem d_X11_keep_13 : decode prog_13_method_35_code 13 = .ok (.iload_n 1, 1) := by decide +kernel
theorem d_X11_keep_14 : decode prog_13_method_35_code 14 = .ok (.imul, 1) := by decide +kernel
theorem d_X11_keep_15 : decode prog_13_method_35_code 15 = .ok (.aload_n 0, 1) := by decide +kernel
theorem d_X11_keep_16 : decode prog_13_method_35_code 16 = .ok (.getfield 113, 3) := by decide +kernel
theorem d_X11_keep_19 : decode prog_13_method_35_code 19 = .ok (.iload_n 1, 1) := by decide +kernel
theorem d_X11_keep_20 : decode prog_13_method_35_code 20 = .ok (.iaload, 1) := by decide +kernel
theorem d_X11_keep_21 : decode prog_13_method_35_code 21 = .ok (.iadd, 1) := by decide +kernel
theorem d_X11_keep_22 : decode prog_13_method_35_code 22 = .ok (.iload_n 2, 1) := by decide +kernel
theorem d_X11_keep_23 : decode prog_13_method_35_code 23 = .ok (.iastore, 1) := by decide +kernel
theorem d_X11_keep_24 : decode prog_13_method_35_code 24 = .ok (.aload_n 0, 1) := by decide +kernel
theorem d_X11_keep_25 : decode prog_13_method_35_code 25 = .ok (.getfield 113, 3) := by decide +kernel
theorem d_X11_keep_28 : decode prog_13_method_35_code 28 = .ok (.iload_n 1, 1) := by decide +kernel
theorem d_X11_keep_29 : decode prog_13_method_35_code 29 = .ok (.dup2, 1) := by decide +kernel
theorem d_X11_keep_30 : decode prog_13_method_35_code 30 = .ok (.iaload, 1) := by decide +kernel
theorem d_X11_keep_31 : decode prog_13_method_35_code 31 = .ok (.iconst 1, 1) := by decide +kernel
theorem d_X11_keep_32 : decode prog_13_method_35_code 32 = .ok (.iadd, 1) := by decide +kernel
theorem d_X11_keep_33 : decode prog_13_method_35_code 33 = .ok (.iastore, 1) := by decide +kernel
theorem d_X11_keep_34 : decode prog_13_method_35_code 34 = .ok (.iload 4, 2) := by decide +kernel
theorem d_X11_keep_36 : decode prog_13_method_35_code 36 = .ok (.bipush 6, 2) := by decide +kernel
theorem d_X11_keep_38 : decode prog_13_method_35_code 38 = .ok (.if_icmp .eq 26, 3) := by decide +kernel
theorem d_X11_keep_41 : decode prog_13_method_35_code 41 = .ok (.iload 4, 2) := by decide +kernel
theorem d_X11_keep_43 : decode prog_13_method_35_code 43 = .ok (.bipush 9, 2) := by decide +kernel
theorem d_X11_keep_45 : decode prog_13_method_35_code 45 = .ok (.if_icmp .eq 19, 3) := by decide +kernel
theorem d_X11_keep_48 : decode prog_13_method_35_code 48 = .ok (.iload 4, 2) := by decide +kernel
theorem d_X11_keep_50 : decode prog_13_method_35_code 50 = .ok (.bipush 10, 2) := by decide +kernel
theorem d_X11_keep_52 : decode prog_13_method_35_code 52 = .ok (.if_icmp .lt 16, 3) := by decide +kernel
theorem d_X11_keep_55 : decode prog_13_method_35_code 55 = .ok (.aload_n 0, 1) := by decide +kernel
theorem d_X11_keep_56 : decode prog_13_method_35_code 56 = .ok (.iload_n 1, 1) := by decide +kernel
theorem d_X11_keep_57 : decode prog_13_method_35_code 57 = .ok (.invokevirtual 302, 3) := by decide +kernel
theorem d_X11_keep_60 : decode prog_13_method_35_code 60 = .ok (.iconst (-1), 1) := by decide +kernel
theorem d_X11_keep_61 : decode prog_13_method_35_code 61 = .ok (.if_icmp .eq 7, 3) := by decide +kernel
theorem d_X11_keep_64 : decode prog_13_method_35_code 64 = .ok (.iconst 1, 1) := by decide +kernel
theorem d_X11_keep_65 : decode prog_13_method_35_code 65 = .ok (.goto 4, 3) := by decide +kernel
theorem d_X11_keep_68 : decode prog_13_method_35_code 68 = .ok (.iconst 0, 1) := by decide +kernel
theorem d_X11_keep_69 : decode prog_13_method_35_code 69 = .ok (.istore 5, 2) := by decide +kernel
theorem d_X11_keep_71 : decode prog_13_method_35_code 71 = .ok (.iload 5, 2) := by decide +kernel
theorem d_X11_keep_73 : decode prog_13_method_35_code 73 = .ok (.ifCond .eq 8, 3) := by decide +kernel
theorem d_X11_keep_76 : decode prog_13_method_35_code 76 = .ok (.iload_n 3, 1) := by decide +kernel
theorem d_X11_keep_77 : decode prog_13_method_35_code 77 = .ok (.iconst (-1), 1) := by decide +kernel
theorem d_X11_keep_78 : decode prog_13_method_35_code 78 = .ok (.if_icmp .ne 4, 3) := by decide +kernel
theorem d_X11_keep_81 : decode prog_13_method_35_code 81 = .ok (.return_, 1) := by decide +kernel
theorem d_X11_keep_82 : decode prog_13_method_35_code 82 = .ok (.iload_n 1, 1) := by decide +kernel
theorem d_X11_keep_83 : decode prog_13_method_35_code 83 = .ok (.bipush 16, 2) := by decide +kernel
theorem d_X11_keep_85 : decode prog_13_method_35_code 85 = .ok (.idiv, 1) := by decide +kernel
theorem d_X11_keep_86 : decode prog_13_method_35_code 86 = .ok (.istore 6, 2) := by decide +kernel
theorem d_X11_keep_88 : decode prog_13_method_35_code 88 = .ok (.sipush 1024, 3) := by decide +kernel
theorem d_X11_keep_91 : decode prog_13_method_35_code 91 = .ok (.iload 6, 2) := by decide +kernel
theorem d_X11_keep_93 : decode prog_13_method_35_code 93 = .ok (.imul, 1) := by decide +kernel
theorem d_X11_keep_94 : decode prog_13_method_35_code 94 = .ok (.aload_n 0, 1) := by decide +kernel
theorem d_X11_keep_95 : decode prog_13_method_35_code 95 = .ok (.getfield 161, 3) := by decide +kernel
theorem d_X11_keep_98 : decode prog_13_method_35_code 98 = .ok (.iload 6, 2) := by decide +kernel
theorem d_X11_keep_100 : decode prog_13_method_35_code 100 = .ok (.iaload, 1) := by decide +kernel
theorem d_X11_keep_101 : decode prog_13_method_35_code 101 = .ok (.iadd, 1) := by decide +kernel
theorem d_X11_keep_102 : decode prog_13_method_35_code 102 = .ok (.istore 7, 2) := by decide +kernel
theorem d_X11_keep_104 : decode prog_13_method_35_code 104 = .ok (.aload_n 0, 1) := by decide +kernel
theorem d_X11_keep_105 : decode prog_13_method_35_code 105 = .ok (.getfield 164, 3) := by decide +kernel
theorem d_X11_keep_108 : decode prog_13_method_35_code 108 = .ok (.iload 7, 2) := by decide +kernel
theorem d_X11_keep_110 : decode prog_13_method_35_code 110 = .ok (.iload_n 3, 1) := by decide +kernel
theorem d_X11_keep_111 : decode prog_13_method_35_code 111 = .ok (.iastore, 1) := by decide +kernel
theorem d_X11_keep_112 : decode prog_13_method_35_code 112 = .ok (.aload_n 0, 1) := by decide +kernel
theorem d_X11_keep_113 : decode prog_13_method_35_code 113 = .ok (.getfield 167, 3) := by decide +kernel
theorem d_X11_keep_116 : decode prog_13_method_35_code 116 = .ok (.iload 7, 2) := by decide +kernel
theorem d_X11_keep_118 : decode prog_13_method_35_code 118 = .ok (.iload_n 1, 1) := by decide +kernel
theorem d_X11_keep_119 : decode prog_13_method_35_code 119 = .ok (.iastore, 1) := by decide +kernel
theorem d_X11_keep_120 : decode prog_13_method_35_code 120 = .ok (.aload_n 0, 1) := by decide +kernel
theorem d_X11_keep_121 : decode prog_13_method_35_code 121 = .ok (.getfield 170, 3) := by decide +kernel
theorem d_X11_keep_124 : decode prog_13_method_35_code 124 = .ok (.iload 7, 2) := by decide +kernel
theorem d_X11_keep_126 : decode prog_13_method_35_code 126 = .ok (.aload_n 0, 1) := by decide +kernel
theorem d_X11_keep_127 : decode prog_13_method_35_code 127 = .ok (.getfield 113, 3) := by decide +kernel
theorem d_X11_keep_130 : decode prog_13_method_35_code 130 = .ok (.iload_n 1, 1) := by decide +kernel
theorem d_X11_keep_131 : decode prog_13_method_35_code 131 = .ok (.iaload, 1) := by decide +kernel
theorem d_X11_keep_132 : decode prog_13_method_35_code 132 = .ok (.iconst 1, 1) := by decide +kernel
theorem d_X11_keep_133 : decode prog_13_method_35_code 133 = .ok (.isub, 1) := by decide +kernel
theorem d_X11_keep_134 : decode prog_13_method_35_code 134 = .ok (.iastore, 1) := by decide +kernel
theorem d_X11_keep_135 : decode prog_13_method_35_code 135 = .ok (.aload_n 0, 1) := by decide +kernel
theorem d_X11_keep_136 : decode prog_13_method_35_code 136 = .ok (.getfield 161, 3) := by decide +kernel
theorem d_X11_keep_139 : decode prog_13_method_35_code 139 = .ok (.iload 6, 2) := by decide +kernel
theorem d_X11_keep_141 : decode prog_13_method_35_code 141 = .ok (.dup2, 1) := by decide +kernel
theorem d_X11_keep_142 : decode prog_13_method_35_code 142 = .ok (.iaload, 1) := by decide +kernel
theorem d_X11_keep_143 : decode prog_13_method_35_code 143 = .ok (.iconst 1, 1) := by decide +kernel
theorem d_X11_keep_144 : decode prog_13_method_35_code 144 = .ok (.iadd, 1) := by decide +kernel
theorem d_X11_keep_145 : decode prog_13_method_35_code 145 = .ok (.iastore, 1) := by decide +kernel
theorem d_X11_keep_146 : decode prog_13_method_35_code 146 = .ok (.return_, 1) := by decide +kernel
abbrev Y_X11_reads : Yx := (⟨"TaskWeaveModel", "reads", "(III)V"⟩, prog_13_method_34_code, 6, none)
abbrev M_X11_reads : Mx := ("TaskWeaveModel", prog_13_method_34_code, 6, false)
theorem yk_X11_reads : Yk Y_X11_reads 3 := ⟨by decide +kernel, by decide +kernel, ⟨by decide, by decide⟩, by decide +kernel, by decide, trivial⟩
theorem d_X11_reads_0 : decode prog_13_method_34_code 0 = .ok (.bipush 16, 2) := by decide +kernel
theorem d_X11_reads_2 : decode prog_13_method_34_code 2 = .ok (.iload_n 1, 1) := by decide +kernel
theorem d_X11_reads_3 : decode prog_13_method_34_code 3 = .ok (.imul, 1) := by decide +kernel
theorem d_X11_reads_4 : decode prog_13_method_34_code 4 = .ok (.aload_n 0, 1) := by decide +kernel
theorem d_X11_reads_5 : decode prog_13_method_34_code 5 = .ok (.getfield 64, 3) := by decide +kernel
theorem d_X11_reads_8 : decode prog_13_method_34_code 8 = .ok (.iload_n 2, 1) := by decide +kernel
theorem d_X11_reads_9 : decode prog_13_method_34_code 9 = .ok (.iaload, 1) := by decide +kernel
theorem d_X11_reads_10 : decode prog_13_method_34_code 10 = .ok (.bipush 16, 2) := by decide +kernel
theorem d_X11_reads_12 : decode prog_13_method_34_code 12 = .ok (.idiv, 1) := by decide +kernel
theorem d_X11_reads_13 : decode prog_13_method_34_code 13 = .ok (.iadd, 1) := by decide +kernel
theorem d_X11_reads_14 : decode prog_13_method_34_code 14 = .ok (.istore 4, 2) := by decide +kernel
theorem d_X11_reads_16 : decode prog_13_method_34_code 16 = .ok (.aload_n 0, 1) := by decide +kernel
theorem d_X11_reads_17 : decode prog_13_method_34_code 17 = .ok (.iload_n 2, 1) := by decide +kernel
theorem d_X11_reads_18 : decode prog_13_method_34_code 18 = .ok (.invokevirtual 286, 3) := by decide +kernel
theorem d_X11_reads_21 : decode prog_13_method_34_code 21 = .ok (.istore 5, 2) := by decide +kernel
theorem d_X11_reads_23 : decode prog_13_method_34_code 23 = .ok (.iload 5, 2) := by decide +kernel
theorem d_X11_reads_25 : decode prog_13_method_34_code 25 = .ok (.ifCond .ne 13, 3) := by decide +kernel
theorem d_X11_reads_28 : decode prog_13_method_34_code 28 = .ok (.aload_n 0, 1) := by decide +kernel
theorem d_X11_reads_29 : decode prog_13_method_34_code 29 = .ok (.getfield 107, 3) := by decide +kernel
theorem d_X11_reads_32 : decode prog_13_method_34_code 32 = .ok (.iload_n 1, 1) := by decide +kernel
theorem d_X11_reads_33 : decode prog_13_method_34_code 33 = .ok (.dup2, 1) := by decide +kernel
theorem d_X11_reads_34 : decode prog_13_method_34_code 34 = .ok (.iaload, 1) := by decide +kernel
theorem d_X11_reads_35 : decode prog_13_method_34_code 35 = .ok (.iconst 1, 1) := by decide +kernel
theorem d_X11_reads_36 : decode prog_13_method_34_code 36 = .ok (.iadd, 1) := by decide +kernel
theorem d_X11_reads_37 : decode prog_13_method_34_code 37 = .ok (.iastore, 1) := by decide +kernel
theorem d_X11_reads_38 : decode prog_13_method_34_code 38 = .ok (.iload 5, 2) := by decide +kernel
theorem d_X11_reads_40 : decode prog_13_method_34_code 40 = .ok (.bipush 12, 2) := by decide +kernel
theorem d_X11_reads_42 : decode prog_13_method_34_code 42 = .ok (.if_icmp .gt 24, 3) := by decide +kernel
theorem d_X11_reads_45 : decode prog_13_method_34_code 45 = .ok (.aload_n 0, 1) := by decide +kernel
theorem d_X11_reads_46 : decode prog_13_method_34_code 46 = .ok (.iload 4, 2) := by decide +kernel
theorem d_X11_reads_48 : decode prog_13_method_34_code 48 = .ok (.iload_n 2, 1) := by decide +kernel
theorem d_X11_reads_49 : decode prog_13_method_34_code 49 = .ok (.aload_n 0, 1) := by decide +kernel
theorem d_X11_reads_50 : decode prog_13_method_34_code 50 = .ok (.getfield 176, 3) := by decide +kernel
theorem d_X11_reads_53 : decode prog_13_method_34_code 53 = .ok (.iload_n 3, 1) := by decide +kernel
theorem d_X11_reads_54 : decode prog_13_method_34_code 54 = .ok (.baload, 1) := by decide +kernel
theorem d_X11_reads_55 : decode prog_13_method_34_code 55 = .ok (.ifCond .eq 7, 3) := by decide +kernel
theorem d_X11_reads_58 : decode prog_13_method_34_code 58 = .ok (.iconst (-1), 1) := by decide +kernel
theorem d_X11_reads_59 : decode prog_13_method_34_code 59 = .ok (.goto 4, 3) := by decide +kernel
theorem d_X11_reads_62 : decode prog_13_method_34_code 62 = .ok (.iload_n 3, 1) := by decide +kernel
theorem d_X11_reads_63 : decode prog_13_method_34_code 63 = .ok (.invokevirtual 299, 3) := by decide +kernel
theorem d_X11_reads_66 : decode prog_13_method_34_code 66 = .ok (.iload 5, 2) := by decide +kernel
theorem d_X11_reads_68 : decode prog_13_method_34_code 68 = .ok (.iconst 1, 1) := by decide +kernel
theorem d_X11_reads_69 : decode prog_13_method_34_code 69 = .ok (.if_icmp .ne 22, 3) := by decide +kernel
theorem d_X11_reads_72 : decode prog_13_method_34_code 72 = .ok (.aload_n 0, 1) := by decide +kernel
theorem d_X11_reads_73 : decode prog_13_method_34_code 73 = .ok (.getfield 158, 3) := by decide +kernel
theorem d_X11_reads_76 : decode prog_13_method_34_code 76 = .ok (.iload 4, 2) := by decide +kernel
theorem d_X11_reads_78 : decode prog_13_method_34_code 78 = .ok (.iconst 1, 1) := by decide +kernel
theorem d_X11_reads_79 : decode prog_13_method_34_code 79 = .ok (.iastore, 1) := by decide +kernel
theorem d_X11_reads_80 : decode prog_13_method_34_code 80 = .ok (.aload_n 0, 1) := by decide +kernel
theorem d_X11_reads_81 : decode prog_13_method_34_code 81 = .ok (.getfield 149, 3) := by decide +kernel
theorem d_X11_reads_84 : decode prog_13_method_34_code 84 = .ok (.iload 4, 2) := by decide +kernel
theorem d_X11_reads_86 : decode prog_13_method_34_code 86 = .ok (.aload_n 0, 1) := by decide +kernel
theorem d_X11_reads_87 : decode prog_13_method_34_code 87 = .ok (.getfield 283, 3) := by decide +kernel
theorem d_X11_reads_90 : decode prog_13_method_34_code 90 = .ok (.iastore, 1) := by decide +kernel
theorem d_X11_reads_91 : decode prog_13_method_34_code 91 = .ok (.iload 5, 2) := by decide +kernel
theorem d_X11_reads_93 : decode prog_13_method_34_code 93 = .ok (.bipush 15, 2) := by decide +kernel
theorem d_X11_reads_95 : decode prog_13_method_34_code 95 = .ok (.if_icmp .ne 49, 3) := by decide +kernel
theorem d_X11_reads_98 : decode prog_13_method_34_code 98 = .ok (.aload_n 0, 1) := by decide +kernel
theorem d_X11_reads_99 : decode prog_13_method_34_code 99 = .ok (.getfield 158, 3) := by decide +kernel
theorem d_X11_reads_102 : decode prog_13_method_34_code 102 = .ok (.iload 4, 2) := by decide +kernel
theorem d_X11_reads_104 : decode prog_13_method_34_code 104 = .ok (.aload_n 0, 1) := by decide +kernel
theorem d_X11_reads_105 : decode prog_13_method_34_code 105 = .ok (.getfield 70, 3) := by decide +kernel
theorem d_X11_reads_108 : decode prog_13_method_34_code 108 = .ok (.iload_n 2, 1) := by decide +kernel
theorem d_X11_reads_109 : decode prog_13_method_34_code 109 = .ok (.iaload, 1) := by decide +kernel
theorem d_X11_reads_110 : decode prog_13_method_34_code 110 = .ok (.iastore, 1) := by decide +kernel
theorem d_X11_reads_111 : decode prog_13_method_34_code 111 = .ok (.aload_n 0, 1) := by decide +kernel
theorem d_X11_reads_112 : decode prog_13_method_34_code 112 = .ok (.getfield 149, 3) := by decide +kernel
theorem d_X11_reads_115 : decode prog_13_method_34_code 115 = .ok (.iload 4, 2) := by decide +kernel
theorem d_X11_reads_117 : decode prog_13_method_34_code 117 = .ok (.aload_n 0, 1) := by decide +kernel
theorem d_X11_reads_118 : decode prog_13_method_34_code 118 = .ok (.getfield 73, 3) := by decide +kernel
theorem d_X11_reads_121 : decode prog_13_method_34_code 121 = .ok (.iload_n 2, 1) := by decide +kernel
theorem d_X11_reads_122 : decode prog_13_method_34_code 122 = .ok (.iaload, 1) := by decide +kernel
theorem d_X11_reads_123 : decode prog_13_method_34_code 123 = .ok (.aload_n 0, 1) := by decide +kernel
theorem d_X11_reads_124 : decode prog_13_method_34_code 124 = .ok (.getfield 283, 3) := by decide +kernel
theorem d_X11_reads_127 : decode prog_13_method_34_code 127 = .ok (.if_icmp .le 12, 3) := by decide +kernel
theorem d_X11_reads_130 : decode prog_13_method_34_code 130 = .ok (.aload_n 0, 1) := by decide +kernel
theorem d_X11_reads_131 : decode prog_13_method_34_code 131 = .ok (.getfield 73, 3) := by decide +kernel
theorem d_X11_reads_134 : decode prog_13_method_34_code 134 = .ok (.iload_n 2, 1) := by decide +kernel
theorem d_X11_reads_135 : decode prog_13_method_34_code 135 = .ok (.iaload, 1) := by decide +kernel
theorem d_X11_reads_136 : decode prog_13_method_34_code 136 = .ok (.goto 7, 3) := by decide +kernel
theorem d_X11_reads_139 : decode prog_13_method_34_code 139 = .ok (.aload_n 0, 1) := by decide +kernel
theorem d_X11_reads_140 : decode prog_13_method_34_code 140 = .ok (.getfield 283, 3) := by decide +kernel
theorem d_X11_reads_143 : decode prog_13_method_34_code 143 = .ok (.iastore, 1) := by decide +kernel
theorem d_X11_reads_144 : decode prog_13_method_34_code 144 = .ok (.return_, 1) := by decide +kernel
abbrev Y_X11_lastTerm : Yx := (⟨"TaskWeaveModel", "lastTerm", "(I)I"⟩, prog_13_method_30_code, 2, (some .int))
abbrev M_X11_lastTerm : Mx := ("TaskWeaveModel", prog_13_method_30_code, 2, false)
theorem yk_X11_lastTerm : Yk Y_X11_lastTerm 1 := ⟨by decide +kernel, by decide +kernel, ⟨by decide, by decide⟩, by decide +kernel, by decide, trivial⟩
theorem d_X11_lastTerm_0 : decode prog_13_method_30_code 0 = .ok (.aload_n 0, 1) := by decide +kernel
theorem d_X11_lastTerm_1 : decode prog_13_method_30_code 1 = .ok (.getfield 83, 3) := by decide +kernel
theorem d_X11_lastTerm_4 : decode prog_13_method_30_code 4 = .ok (.iload_n 1, 1) := by decide +kernel
theorem d_X11_lastTerm_5 : decode prog_13_method_30_code 5 = .ok (.iaload, 1) := by decide +kernel
theorem d_X11_lastTerm_6 : decode prog_13_method_30_code 6 = .ok (.ifCond .ne 7, 3) := by decide +kernel
theorem d_X11_lastTerm_9 : decode prog_13_method_30_code 9 = .ok (.iconst 0, 1) := by decide +kernel
theorem d_X11_lastTerm_10 : decode prog_13_method_30_code 10 = .ok (.goto 27, 3) := by decide +kernel
theorem d_X11_lastTerm_13 : decode prog_13_method_30_code 13 = .ok (.aload_n 0, 1) := by decide +kernel
theorem d_X11_lastTerm_14 : decode prog_13_method_30_code 14 = .ok (.getfield 67, 3) := by decide +kernel
theorem d_X11_lastTerm_17 : decode prog_13_method_30_code 17 = .ok (.aload_n 0, 1) := by decide +kernel
theorem d_X11_lastTerm_18 : decode prog_13_method_30_code 18 = .ok (.getfield 80, 3) := by decide +kernel
theorem d_X11_lastTerm_21 : decode prog_13_method_30_code 21 = .ok (.sipush 8192, 3) := by decide +kernel
theorem d_X11_lastTerm_24 : decode prog_13_method_30_code 24 = .ok (.iload_n 1, 1) := by decide +kernel
theorem d_X11_lastTerm_25 : decode prog_13_method_30_code 25 = .ok (.imul, 1) := by decide +kernel
theorem d_X11_lastTerm_26 : decode prog_13_method_30_code 26 = .ok (.aload_n 0, 1) := by decide +kernel
theorem d_X11_lastTerm_27 : decode prog_13_method_30_code 27 = .ok (.getfield 83, 3) := by decide +kernel
theorem d_X11_lastTerm_30 : decode prog_13_method_30_code 30 = .ok (.iload_n 1, 1) := by decide +kernel
theorem d_X11_lastTerm_31 : decode prog_13_method_30_code 31 = .ok (.iaload, 1) := by decide +kernel
theorem d_X11_lastTerm_32 : decode prog_13_method_30_code 32 = .ok (.iadd, 1) := by decide +kernel
theorem d_X11_lastTerm_33 : decode prog_13_method_30_code 33 = .ok (.iconst 1, 1) := by decide +kernel
theorem d_X11_lastTerm_34 : decode prog_13_method_30_code 34 = .ok (.isub, 1) := by decide +kernel
theorem d_X11_lastTerm_35 : decode prog_13_method_30_code 35 = .ok (.iaload, 1) := by decide +kernel
theorem d_X11_lastTerm_36 : decode prog_13_method_30_code 36 = .ok (.iaload, 1) := by decide +kernel
theorem d_X11_lastTerm_37 : decode prog_13_method_30_code 37 = .ok (.ireturn, 1) := by decide +kernel
abbrev Y_X11_isBetter : Yx := (⟨"TaskWeaveModel", "isBetter", "(II)Z"⟩, prog_13_method_31_code, 3, (some .boolean))
abbrev M_X11_isBetter : Mx := ("TaskWeaveModel", prog_13_method_31_code, 3, false)
theorem yk_X11_isBetter : Yk Y_X11_isBetter 2 := ⟨by decide +kernel, by decide +kernel, ⟨by decide, by decide⟩, by decide +kernel, by decide, trivial⟩
theorem d_X11_isBetter_0 : decode prog_13_method_31_code 0 = .ok (.aload_n 0, 1) := by decide +kernel
theorem d_X11_isBetter_1 : decode prog_13_method_31_code 1 = .ok (.iload_n 1, 1) := by decide +kernel
theorem d_X11_isBetter_2 : decode prog_13_method_31_code 2 = .ok (.invokevirtual 271, 3) := by decide +kernel
theorem d_X11_isBetter_5 : decode prog_13_method_31_code 5 = .ok (.aload_n 0, 1) := by decide +kernel
theorem d_X11_isBetter_6 : decode prog_13_method_31_code 6 = .ok (.iload_n 2, 1) := by decide +kernel
theorem d_X11_isBetter_7 : decode prog_13_method_31_code 7 = .ok (.invokevirtual 271, 3) := by decide +kernel
theorem d_X11_isBetter_10 : decode prog_13_method_31_code 10 = .ok (.if_icmp .eq 24, 3) := by decide +kernel
theorem d_X11_isBetter_13 : decode prog_13_method_31_code 13 = .ok (.aload_n 0, 1) := by decide +kernel
theorem d_X11_isBetter_14 : decode prog_13_method_31_code 14 = .ok (.iload_n 1, 1) := by decide +kernel
theorem d_X11_isBetter_15 : decode prog_13_method_31_code 15 = .ok (.invokevirtual 271, 3) := by decide +kernel
theorem d_X11_isBetter_18 : decode prog_13_method_31_code 18 = .ok (.aload_n 0, 1) := by decide +kernel
theorem d_X11_isBetter_19 : decode prog_13_method_31_code 19 = .ok (.iload_n 2, 1) := by decide +kernel
theorem d_X11_isBetter_20 : decode prog_13_method_31_code 20 = .ok (.invokevirtual 271, 3) := by decide +kernel
theorem d_X11_isBetter_23 : decode prog_13_method_31_code 23 = .ok (.if_icmp .le 7, 3) := by decide +kernel
theorem d_X11_isBetter_26 : decode prog_13_method_31_code 26 = .ok (.iconst 1, 1) := by decide +kernel
theorem d_X11_isBetter_27 : decode prog_13_method_31_code 27 = .ok (.goto 27, 3) := by decide +kernel
theorem d_X11_isBetter_30 : decode prog_13_method_31_code 30 = .ok (.iconst 0, 1) := by decide +kernel
theorem d_X11_isBetter_31 : decode prog_13_method_31_code 31 = .ok (.goto 23, 3) := by decide +kernel
theorem d_X11_isBetter_34 : decode prog_13_method_31_code 34 = .ok (.aload_n 0, 1) := by decide +kernel
theorem d_X11_isBetter_35 : decode prog_13_method_31_code 35 = .ok (.getfield 83, 3) := by decide +kernel
theorem d_X11_isBetter_38 : decode prog_13_method_31_code 38 = .ok (.iload_n 1, 1) := by decide +kernel
theorem d_X11_isBetter_39 : decode prog_13_method_31_code 39 = .ok (.iaload, 1) := by decide +kernel
theorem d_X11_isBetter_40 : decode prog_13_method_31_code 40 = .ok (.aload_n 0, 1) := by decide +kernel
theorem d_X11_isBetter_41 : decode prog_13_method_31_code 41 = .ok (.getfield 83, 3) := by decide +kernel
theorem d_X11_isBetter_44 : decode prog_13_method_31_code 44 = .ok (.iload_n 2, 1) := by decide +kernel
theorem d_X11_isBetter_45 : decode prog_13_method_31_code 45 = .ok (.iaload, 1) := by decide +kernel
theorem d_X11_isBetter_46 : decode prog_13_method_31_code 46 = .ok (.if_icmp .le 7, 3) := by decide +kernel
theorem d_X11_isBetter_49 : decode prog_13_method_31_code 49 = .ok (.iconst 1, 1) := by decide +kernel
theorem d_X11_isBetter_50 : decode prog_13_method_31_code 50 = .ok (.goto 4, 3) := by decide +kernel
theorem d_X11_isBetter_53 : decode prog_13_method_31_code 53 = .ok (.iconst 0, 1) := by decide +kernel
theorem d_X11_isBetter_54 : decode prog_13_method_31_code 54 = .ok (.ireturn, 1) := by decide +kernel
abbrev Y_X11_does : Yx := (⟨"TaskWeaveModel", "does", "(IIIIII)Z"⟩, prog_13_method_28_code, 7, (some .boolean))
abbrev M_X11_does : Mx := ("TaskWeaveModel", prog_13_method_28_code, 7, false)
theorem yk_X11_does : Yk Y_X11_does 6 := ⟨by decide +kernel, by decide +kernel, ⟨by decide, by decide⟩, by decide +kernel, by decide, trivial⟩
theorem d_X11_does_0 : decode prog_13_method_28_code 0 = .ok (.aload_n 0, 1) := by decide +kernel
theorem d_X11_does_1 : decode prog_13_method_28_code 1 = .ok (.iload_n 1, 1) := by decide +kernel
theorem d_X11_does_2 : decode prog_13_method_28_code 2 = .ok (.aload_n 0, 1) := by decide +kernel
theorem d_X11_does_3 : decode prog_13_method_28_code 3 = .ok (.getfield 101, 3) := by decide +kernel
theorem d_X11_does_6 : decode prog_13_method_28_code 6 = .ok (.iload_n 1, 1) := by decide +kernel
theorem d_X11_does_7 : decode prog_13_method_28_code 7 = .ok (.iaload, 1) := by decide +kernel
theorem d_X11_does_8 : decode prog_13_method_28_code 8 = .ok (.aload_n 0, 1) := by decide +kernel
theorem d_X11_does_9 : decode prog_13_method_28_code 9 = .ok (.iload_n 2, 1) := by decide +kernel
theorem d_X11_does_10 : decode prog_13_method_28_code 10 = .ok (.iload_n 3, 1) := by decide +kernel
theorem d_X11_does_11 : decode prog_13_method_28_code 11 = .ok (.aload_n 0, 1) := by decide +kernel
theorem d_X11_does_12 : decode prog_13_method_28_code 12 = .ok (.getfield 104, 3) := by decide +kernel
theorem d_X11_does_15 : decode prog_13_method_28_code 15 = .ok (.iload_n 1, 1) := by decide +kernel
theorem d_X11_does_16 : decode prog_13_method_28_code 16 = .ok (.iaload, 1) := by decide +kernel
theorem d_X11_does_17 : decode prog_13_method_28_code 17 = .ok (.iload 4, 2) := by decide +kernel
theorem d_X11_does_19 : decode prog_13_method_28_code 19 = .ok (.iload 5, 2) := by decide +kernel
theorem d_X11_does_21 : decode prog_13_method_28_code 21 = .ok (.iload 6, 2) := by decide +kernel
theorem d_X11_does_23 : decode prog_13_method_28_code 23 = .ok (.invokevirtual 254, 3) := by decide +kernel
theorem d_X11_does_26 : decode prog_13_method_28_code 26 = .ok (.invokevirtual 258, 3) := by decide +kernel
theorem d_X11_does_29 : decode prog_13_method_28_code 29 = .ok (.ifCond .eq 5, 3) := by decide +kernel
theorem d_X11_does_32 : decode prog_13_method_28_code 32 = .ok (.iconst 1, 1) := by decide +kernel
theorem d_X11_does_33 : decode prog_13_method_28_code 33 = .ok (.ireturn, 1) := by decide +kernel
theorem d_X11_does_34 : decode prog_13_method_28_code 34 = .ok (.aload_n 0, 1) := by decide +kernel
theorem d_X11_does_35 : decode prog_13_method_28_code 35 = .ok (.iload_n 1, 1) := by decide +kernel
theorem d_X11_does_36 : decode prog_13_method_28_code 36 = .ok (.invokevirtual 262, 3) := by decide +kernel
theorem d_X11_does_39 : decode prog_13_method_28_code 39 = .ok (.iconst 0, 1) := by decide +kernel
theorem d_X11_does_40 : decode prog_13_method_28_code 40 = .ok (.ireturn, 1) := by decide +kernel
abbrev Y_X11_makes : Yx := (⟨"TaskWeaveModel", "makes", "(IIIII)Z"⟩, prog_13_method_53_code, 9, (some .boolean))
abbrev M_X11_makes : Mx := ("TaskWeaveModel", prog_13_method_53_code, 9, false)
theorem yk_X11_makes : Yk Y_X11_makes 5 := ⟨by decide +kernel, by decide +kernel, ⟨by decide, by decide⟩, by decide +kernel, by decide, trivial⟩
theorem d_X11_makes_0 : decode prog_13_method_53_code 0 = .ok (.iload_n 1, 1) := by decide +kernel
theorem d_X11_makes_1 : decode prog_13_method_53_code 1 = .ok (.bipush 16, 2) := by decide +kernel
theorem d_X11_makes_3 : decode prog_13_method_53_code 3 = .ok (.idiv, 1) := by decide +kernel
theorem d_X11_makes_4 : decode prog_13_method_53_code 4 = .ok (.istore 6, 2) := by decide +kernel
theorem d_X11_makes_6 : decode prog_13_method_53_code 6 = .ok (.aload_n 0, 1) := by decide +kernel
theorem d_X11_makes_7 : decode prog_13_method_53_code 7 = .ok (.getfield 113, 3) := by decide +kernel
theorem d_X11_makes_10 : decode prog_13_method_53_code 10 = .ok (.iload_n 1, 1) := by decide +kernel
theorem d_X11_makes_11 : decode prog_13_method_53_code 11 = .ok (.iaload, 1) := by decide +kernel
theorem d_X11_makes_12 : decode prog_13_method_53_code 12 = .ok (.bipush 59, 2) := by decide +kernel
theorem d_X11_makes_14 : decode prog_13_method_53_code 14 = .ok (.if_icmp .ne 13, 3) := by decide +kernel
theorem d_X11_makes_17 : decode prog_13_method_53_code 17 = .ok (.iload_n 2, 1) := by decide +kernel
theorem d_X11_makes_18 : decode prog_13_method_53_code 18 = .ok (.bipush 10, 2) := by decide +kernel
theorem d_X11_makes_20 : decode prog_13_method_53_code 20 = .ok (.if_icmp .ge 7, 3) := by decide +kernel
theorem d_X11_makes_23 : decode prog_13_method_53_code 23 = .ok (.iconst 1, 1) := by decide +kernel
theorem d_X11_makes_24 : decode prog_13_method_53_code 24 = .ok (.goto 4, 3) := by decide +kernel
theorem d_X11_makes_27 : decode prog_13_method_53_code 27 = .ok (.iconst 0, 1) := by decide +kernel
theorem d_X11_makes_28 : decode prog_13_method_53_code 28 = .ok (.istore 7, 2) := by decide +kernel
theorem d_X11_makes_30 : decode prog_13_method_53_code 30 = .ok (.aload_n 0, 1) := by decide +kernel
theorem d_X11_makes_31 : decode prog_13_method_53_code 31 = .ok (.iload 6, 2) := by decide +kernel
theorem d_X11_makes_33 : decode prog_13_method_53_code 33 = .ok (.iload_n 1, 1) := by decide +kernel
theorem d_X11_makes_34 : decode prog_13_method_53_code 34 = .ok (.bipush 16, 2) := by decide +kernel
theorem d_X11_makes_36 : decode prog_13_method_53_code 36 = .ok (.irem, 1) := by decide +kernel
theorem d_X11_makes_37 : decode prog_13_method_53_code 37 = .ok (.iload 7, 2) := by decide +kernel
theorem d_X11_makes_39 : decode prog_13_method_53_code 39 = .ok (.ifCond .eq 8, 3) := by decide +kernel
theorem d_X11_makes_42 : decode prog_13_method_53_code 42 = .ok (.bipush 12, 2) := by decide +kernel
theorem d_X11_makes_44 : decode prog_13_method_53_code 44 = .ok (.goto 4, 3) := by decide +kernel
theorem d_X11_makes_47 : decode prog_13_method_53_code 47 = .ok (.iload_n 2, 1) := by decide +kernel
theorem d_X11_makes_48 : decode prog_13_method_53_code 48 = .ok (.iload 7, 2) := by decide +kernel
theorem d_X11_makes_50 : decode prog_13_method_53_code 50 = .ok (.ifCond .eq 7, 3) := by decide +kernel
theorem d_X11_makes_53 : decode prog_13_method_53_code 53 = .ok (.iconst (-1), 1) := by decide +kernel
theorem d_X11_makes_54 : decode prog_13_method_53_code 54 = .ok (.goto 4, 3) := by decide +kernel
theorem d_X11_makes_57 : decode prog_13_method_53_code 57 = .ok (.iload_n 3, 1) := by decide +kernel
theorem d_X11_makes_58 : decode prog_13_method_53_code 58 = .ok (.iload 7, 2) := by decide +kernel
theorem d_X11_makes_60 : decode prog_13_method_53_code 60 = .ok (.ifCond .eq 7, 3) := by decide +kernel
theorem d_X11_makes_63 : decode prog_13_method_53_code 63 = .ok (.iconst 0, 1) := by decide +kernel
theorem d_X11_makes_64 : decode prog_13_method_53_code 64 = .ok (.goto 5, 3) := by decide +kernel
theorem d_X11_makes_67 : decode prog_13_method_53_code 67 = .ok (.iload 4, 2) := by decide +kernel
theorem d_X11_makes_69 : decode prog_13_method_53_code 69 = .ok (.iload 7, 2) := by decide +kernel
theorem d_X11_makes_71 : decode prog_13_method_53_code 71 = .ok (.ifCond .eq 7, 3) := by decide +kernel
theorem d_X11_makes_74 : decode prog_13_method_53_code 74 = .ok (.iconst 0, 1) := by decide +kernel
theorem d_X11_makes_75 : decode prog_13_method_53_code 75 = .ok (.goto 5, 3) := by decide +kernel
theorem d_X11_makes_78 : decode prog_13_method_53_code 78 = .ok (.iload 5, 2) := by decide +kernel
theorem d_X11_makes_80 : decode prog_13_method_53_code 80 = .ok (.invokevirtual 364, 3) := by decide +kernel
theorem d_X11_makes_83 : decode prog_13_method_53_code 83 = .ok (.ifCond .ne 5, 3) := by decide +kernel
theorem d_X11_makes_86 : decode prog_13_method_53_code 86 = .ok (.iconst 0, 1) := by decide +kernel
theorem d_X11_makes_87 : decode prog_13_method_53_code 87 = .ok (.ireturn, 1) := by decide +kernel
theorem d_X11_makes_88 : decode prog_13_method_53_code 88 = .ok (.iconst 5, 1) := by decide +kernel
theorem d_X11_makes_89 : decode prog_13_method_53_code 89 = .ok (.iload 6, 2) := by decide +kernel
theorem d_X11_makes_91 : decode prog_13_method_53_code 91 = .ok (.imul, 1) := by decide +kernel
theorem d_X11_makes_92 : decode prog_13_method_53_code 92 = .ok (.aload_n 0, 1) := by decide +kernel
theorem d_X11_makes_93 : decode prog_13_method_53_code 93 = .ok (.getfield 101, 3) := by decide +kernel
theorem d_X11_makes_96 : decode prog_13_method_53_code 96 = .ok (.iload 6, 2) := by decide +kernel
theorem d_X11_makes_98 : decode prog_13_method_53_code 98 = .ok (.iaload, 1) := by decide +kernel
theorem d_X11_makes_99 : decode prog_13_method_53_code 99 = .ok (.iadd, 1) := by decide +kernel
theorem d_X11_makes_100 : decode prog_13_method_53_code 100 = .ok (.istore 8, 2) := by decide +kernel
theorem d_X11_makes_102 : decode prog_13_method_53_code 102 = .ok (.aload_n 0, 1) := by decide +kernel
theorem d_X11_makes_103 : decode prog_13_method_53_code 103 = .ok (.iload_n 1, 1) := by decide +kernel
theorem d_X11_makes_104 : decode prog_13_method_53_code 104 = .ok (.aload_n 0, 1) := by decide +kernel
theorem d_X11_makes_105 : decode prog_13_method_53_code 105 = .ok (.getfield 80, 3) := by decide +kernel
theorem d_X11_makes_108 : decode prog_13_method_53_code 108 = .ok (.sipush 8192, 3) := by decide +kernel
theorem d_X11_makes_111 : decode prog_13_method_53_code 111 = .ok (.iload 8, 2) := by decide +kernel
theorem d_X11_makes_113 : decode prog_13_method_53_code 113 = .ok (.imul, 1) := by decide +kernel
theorem d_X11_makes_114 : decode prog_13_method_53_code 114 = .ok (.aload_n 0, 1) := by decide +kernel
theorem d_X11_makes_115 : decode prog_13_method_53_code 115 = .ok (.getfield 83, 3) := by decide +kernel
theorem d_X11_makes_118 : decode prog_13_method_53_code 118 = .ok (.iload 8, 2) := by decide +kernel
theorem d_X11_makes_120 : decode prog_13_method_53_code 120 = .ok (.iaload, 1) := by decide +kernel
theorem d_X11_makes_121 : decode prog_13_method_53_code 121 = .ok (.iadd, 1) := by decide +kernel
theorem d_X11_makes_122 : decode prog_13_method_53_code 122 = .ok (.iconst 1, 1) := by decide +kernel
theorem d_X11_makes_123 : decode prog_13_method_53_code 123 = .ok (.isub, 1) := by decide +kernel
theorem d_X11_makes_124 : decode prog_13_method_53_code 124 = .ok (.iaload, 1) := by decide +kernel
theorem d_X11_makes_125 : decode prog_13_method_53_code 125 = .ok (.aload_n 0, 1) := by decide +kernel
theorem d_X11_makes_126 : decode prog_13_method_53_code 126 = .ok (.getfield 83, 3) := by decide +kernel
theorem d_X11_makes_129 : decode prog_13_method_53_code 129 = .ok (.iload 8, 2) := by decide +kernel
theorem d_X11_makes_131 : decode prog_13_method_53_code 131 = .ok (.iaload, 1) := by decide +kernel
theorem d_X11_makes_132 : decode prog_13_method_53_code 132 = .ok (.iconst 1, 1) := by decide +kernel
theorem d_X11_makes_133 : decode prog_13_method_53_code 133 = .ok (.isub, 1) := by decide +kernel
theorem d_X11_makes_134 : decode prog_13_method_53_code 134 = .ok (.invokevirtual 299, 3) := by decide +kernel
theorem d_X11_makes_137 : decode prog_13_method_53_code 137 = .ok (.aload_n 0, 1) := by decide +kernel
theorem d_X11_makes_138 : decode prog_13_method_53_code 138 = .ok (.iload_n 1, 1) := by decide +kernel
theorem d_X11_makes_139 : decode prog_13_method_53_code 139 = .ok (.invokevirtual 293, 3) := by decide +kernel
theorem d_X11_makes_142 : decode prog_13_method_53_code 142 = .ok (.aload_n 0, 1) := by decide +kernel
theorem d_X11_makes_143 : decode prog_13_method_53_code 143 = .ok (.getfield 119, 3) := by decide +kernel
theorem d_X11_makes_146 : decode prog_13_method_53_code 146 = .ok (.iload_n 1, 1) := by decide +kernel
theorem d_X11_makes_147 : decode prog_13_method_53_code 147 = .ok (.iaload, 1) := by decide +kernel
theorem d_X11_makes_148 : decode prog_13_method_53_code 148 = .ok (.ifCond .eq 10, 3) := by decide +kernel
theorem d_X11_makes_151 : decode prog_13_method_53_code 151 = .ok (.aload_n 0, 1) := by decide +kernel
theorem d_X11_makes_152 : decode prog_13_method_53_code 152 = .ok (.getfield 146, 3) := by decide +kernel
theorem d_X11_makes_155 : decode prog_13_method_53_code 155 = .ok (.iload_n 1, 1) := by decide +kernel
theorem d_X11_makes_156 : decode prog_13_method_53_code 156 = .ok (.iconst 0, 1) := by decide +kernel
theorem d_X11_makes_157 : decode prog_13_method_53_code 157 = .ok (.iastore, 1) := by decide +kernel
theorem d_X11_makes_158 : decode prog_13_method_53_code 158 = .ok (.aload_n 0, 1) := by decide +kernel
theorem d_X11_makes_159 : decode prog_13_method_53_code 159 = .ok (.getfield 119, 3) := by decide +kernel
theorem d_X11_makes_162 : decode prog_13_method_53_code 162 = .ok (.iload_n 1, 1) := by decide +kernel
theorem d_X11_makes_163 : decode prog_13_method_53_code 163 = .ok (.iaload, 1) := by decide +kernel
theorem d_X11_makes_164 : decode prog_13_method_53_code 164 = .ok (.ifCond .ne 37, 3) := by decide +kernel
theorem d_X11_makes_167 : decode prog_13_method_53_code 167 = .ok (.iload_n 2, 1) := by decide +kernel
theorem d_X11_makes_168 : decode prog_13_method_53_code 168 = .ok (.iconst 1, 1) := by decide +kernel
theorem d_X11_makes_169 : decode prog_13_method_53_code 169 = .ok (.if_icmp .ne 32, 3) := by decide +kernel
theorem d_X11_makes_172 : decode prog_13_method_53_code 172 = .ok (.iload 7, 2) := by decide +kernel
theorem d_X11_makes_174 : decode prog_13_method_53_code 174 = .ok (.ifCond .ne 27, 3) := by decide +kernel
theorem d_X11_makes_177 : decode prog_13_method_53_code 177 = .ok (.aload_n 0, 1) := by decide +kernel
theorem d_X11_makes_178 : decode prog_13_method_53_code 178 = .ok (.getfield 146, 3) := by decide +kernel
theorem d_X11_makes_181 : decode prog_13_method_53_code 181 = .ok (.iload_n 1, 1) := by decide +kernel
theorem d_X11_makes_182 : decode prog_13_method_53_code 182 = .ok (.iconst 1, 1) := by decide +kernel
theorem d_X11_makes_183 : decode prog_13_method_53_code 183 = .ok (.iastore, 1) := by decide +kernel
theorem d_X11_makes_184 : decode prog_13_method_53_code 184 = .ok (.aload_n 0, 1) := by decide +kernel
theorem d_X11_makes_185 : decode prog_13_method_53_code 185 = .ok (.getfield 158, 3) := by decide +kernel
theorem d_X11_makes_188 : decode prog_13_method_53_code 188 = .ok (.iload_n 1, 1) := by decide +kernel
theorem d_X11_makes_189 : decode prog_13_method_53_code 189 = .ok (.iconst 1, 1) := by decide +kernel
theorem d_X11_makes_190 : decode prog_13_method_53_code 190 = .ok (.iastore, 1) := by decide +kernel
theorem d_X11_makes_191 : decode prog_13_method_53_code 191 = .ok (.aload_n 0, 1) := by decide +kernel
theorem d_X11_makes_192 : decode prog_13_method_53_code 192 = .ok (.getfield 149, 3) := by decide +kernel
theorem d_X11_makes_195 : decode prog_13_method_53_code 195 = .ok (.iload_n 1, 1) := by decide +kernel
theorem d_X11_makes_196 : decode prog_13_method_53_code 196 = .ok (.aload_n 0, 1) := by decide +kernel
theorem d_X11_makes_197 : decode prog_13_method_53_code 197 = .ok (.getfield 283, 3) := by decide +kernel
theorem d_X11_makes_200 : decode prog_13_method_53_code 200 = .ok (.iastore, 1) := by decide +kernel
theorem d_X11_makes_201 : decode prog_13_method_53_code 201 = .ok (.iconst 1, 1) := by decide +kernel
theorem d_X11_makes_202 : decode prog_13_method_53_code 202 = .ok (.ireturn, 1) := by decide +kernel
abbrev Y_X11_goesOn : Yx := (⟨"TaskWeaveModel", "goesOn", "(I)Z"⟩, prog_13_method_54_code, 3, (some .boolean))
abbrev M_X11_goesOn : Mx := ("TaskWeaveModel", prog_13_method_54_code, 3, false)
theorem yk_X11_goesOn : Yk Y_X11_goesOn 1 := ⟨by decide +kernel, by decide +kernel, ⟨by decide, by decide⟩, by decide +kernel, by decide, trivial⟩
theorem d_X11_goesOn_0 : decode prog_13_method_54_code 0 = .ok (.iconst 1, 1) := by decide +kernel
theorem d_X11_goesOn_1 : decode prog_13_method_54_code 1 = .ok (.istore_n 2, 1) := by decide +kernel
theorem d_X11_goesOn_2 : decode prog_13_method_54_code 2 = .ok (.iload_n 2, 1) := by decide +kernel
theorem d_X11_goesOn_3 : decode prog_13_method_54_code 3 = .ok (.ifCond .eq 41, 3) := by decide +kernel
theorem d_X11_goesOn_6 : decode prog_13_method_54_code 6 = .ok (.aload_n 0, 1) := by decide +kernel
theorem d_X11_goesOn_7 : decode prog_13_method_54_code 7 = .ok (.getfield 119, 3) := by decide +kernel
theorem d_X11_goesOn_10 : decode prog_13_method_54_code 10 = .ok (.iload_n 1, 1) := by decide +kernel
theorem d_X11_goesOn_11 : decode prog_13_method_54_code 11 = .ok (.iaload, 1) := by decide +kernel
theorem d_X11_goesOn_12 : decode prog_13_method_54_code 12 = .ok (.iconst 5, 1) := by decide +kernel
theorem d_X11_goesOn_13 : decode prog_13_method_54_code 13 = .ok (.if_icmp .ne 31, 3) := by decide +kernel
theorem d_X11_goesOn_16 : decode prog_13_method_54_code 16 = .ok (.aload_n 0, 1) := by decide +kernel
theorem d_X11_goesOn_17 : decode prog_13_method_54_code 17 = .ok (.iload_n 1, 1) := by decide +kernel
theorem d_X11_goesOn_18 : decode prog_13_method_54_code 18 = .ok (.aload_n 0, 1) := by decide +kernel
theorem d_X11_goesOn_19 : decode prog_13_method_54_code 19 = .ok (.getfield 134, 3) := by decide +kernel
theorem d_X11_goesOn_22 : decode prog_13_method_54_code 22 = .ok (.iload_n 1, 1) := by decide +kernel
theorem d_X11_goesOn_23 : decode prog_13_method_54_code 23 = .ok (.iaload, 1) := by decide +kernel
theorem d_X11_goesOn_24 : decode prog_13_method_54_code 24 = .ok (.aload_n 0, 1) := by decide +kernel
theorem d_X11_goesOn_25 : decode prog_13_method_54_code 25 = .ok (.getfield 137, 3) := by decide +kernel
theorem d_X11_goesOn_28 : decode prog_13_method_54_code 28 = .ok (.iload_n 1, 1) := by decide +kernel
theorem d_X11_goesOn_29 : decode prog_13_method_54_code 29 = .ok (.iaload, 1) := by decide +kernel
theorem d_X11_goesOn_30 : decode prog_13_method_54_code 30 = .ok (.aload_n 0, 1) := by decide +kernel
theorem d_X11_goesOn_31 : decode prog_13_method_54_code 31 = .ok (.getfield 140, 3) := by decide +kernel
theorem d_X11_goesOn_34 : decode prog_13_method_54_code 34 = .ok (.iload_n 1, 1) := by decide +kernel
theorem d_X11_goesOn_35 : decode prog_13_method_54_code 35 = .ok (.iaload, 1) := by decide +kernel
theorem d_X11_goesOn_36 : decode prog_13_method_54_code 36 = .ok (.iconst 0, 1) := by decide +kernel
theorem d_X11_goesOn_37 : decode prog_13_method_54_code 37 = .ok (.invokevirtual 368, 3) := by decide +kernel
theorem d_X11_goesOn_40 : decode prog_13_method_54_code 40 = .ok (.istore_n 2, 1) := by decide +kernel
theorem d_X11_goesOn_41 : decode prog_13_method_54_code 41 = .ok (.goto (-39), 3) := by decide +kernel
theorem d_X11_goesOn_44 : decode prog_13_method_54_code 44 = .ok (.iload_n 2, 1) := by decide +kernel
theorem d_X11_goesOn_45 : decode prog_13_method_54_code 45 = .ok (.ireturn, 1) := by decide +kernel
abbrev Y_X11_build : Yx := (⟨"TaskWeaveModel", "build", "(I)V"⟩, prog_13_method_33_code, 5, none)
abbrev M_X11_build : Mx := ("TaskWeaveModel", prog_13_method_33_code, 5, false)
theorem yk_X11_build : Yk Y_X11_build 1 := ⟨by decide +kernel, by decide +kernel, ⟨by decide, by decide⟩, by decide +kernel, by decide, trivial⟩
theorem d_X11_build_0 : decode prog_13_method_33_code 0 = .ok (.iconst 5, 1) := by decide +kernel
theorem d_X11_build_1 : decode prog_13_method_33_code 1 = .ok (.iload_n 1, 1) := by decide +kernel
theorem d_X11_build_2 : decode prog_13_method_33_code 2 = .ok (.imul, 1) := by decide +kernel
theorem d_X11_build_3 : decode prog_13_method_33_code 3 = .ok (.aload_n 0, 1) := by decide +kernel
theorem d_X11_build_4 : decode prog_13_method_33_code 4 = .ok (.getfield 101, 3) := by decide +kernel
theorem d_X11_build_7 : decode prog_13_method_33_code 7 = .ok (.iload_n 1, 1) := by decide +kernel
theorem d_X11_build_8 : decode prog_13_method_33_code 8 = .ok (.iaload, 1) := by decide +kernel
theorem d_X11_build_9 : decode prog_13_method_33_code 9 = .ok (.iadd, 1) := by decide +kernel
theorem d_X11_build_10 : decode prog_13_method_33_code 10 = .ok (.istore_n 2, 1) := by decide +kernel
theorem d_X11_build_11 : decode prog_13_method_33_code 11 = .ok (.aload_n 0, 1) := by decide +kernel
theorem d_X11_build_12 : decode prog_13_method_33_code 12 = .ok (.getfield 107, 3) := by decide +kernel
theorem d_X11_build_15 : decode prog_13_method_33_code 15 = .ok (.iload_n 1, 1) := by decide +kernel
theorem d_X11_build_16 : decode prog_13_method_33_code 16 = .ok (.iconst 0, 1) := by decide +kernel
theorem d_X11_build_17 : decode prog_13_method_33_code 17 = .ok (.iastore, 1) := by decide +kernel
theorem d_X11_build_18 : decode prog_13_method_33_code 18 = .ok (.aload_n 0, 1) := by decide +kernel
theorem d_X11_build_19 : decode prog_13_method_33_code 19 = .ok (.getfield 161, 3) := by decide +kernel
theorem d_X11_build_22 : decode prog_13_method_33_code 22 = .ok (.iload_n 1, 1) := by decide +kernel
theorem d_X11_build_23 : decode prog_13_method_33_code 23 = .ok (.iconst 0, 1) := by decide +kernel
theorem d_X11_build_24 : decode prog_13_method_33_code 24 = .ok (.iastore, 1) := by decide +kernel
theorem d_X11_build_25 : decode prog_13_method_33_code 25 = .ok (.bipush 16, 2) := by decide +kernel
theorem d_X11_build_27 : decode prog_13_method_33_code 27 = .ok (.iload_n 1, 1) := by decide +kernel
theorem d_X11_build_28 : decode prog_13_method_33_code 28 = .ok (.imul, 1) := by decide +kernel
theorem d_X11_build_29 : decode prog_13_method_33_code 29 = .ok (.istore_n 3, 1) := by decide +kernel
theorem d_X11_build_30 : decode prog_13_method_33_code 30 = .ok (.iload_n 3, 1) := by decide +kernel
theorem d_X11_build_31 : decode prog_13_method_33_code 31 = .ok (.bipush 16, 2) := by decide +kernel
theorem d_X11_build_33 : decode prog_13_method_33_code 33 = .ok (.iload_n 1, 1) := by decide +kernel
theorem d_X11_build_34 : decode prog_13_method_33_code 34 = .ok (.imul, 1) := by decide +kernel
theorem d_X11_build_35 : decode prog_13_method_33_code 35 = .ok (.bipush 16, 2) := by decide +kernel
theorem d_X11_build_37 : decode prog_13_method_33_code 37 = .ok (.iadd, 1) := by decide +kernel
theorem d_X11_build_38 : decode prog_13_method_33_code 38 = .ok (.if_icmp .ge 40, 3) := by decide +kernel
theorem d_X11_build_41 : decode prog_13_method_33_code 41 = .ok (.aload_n 0, 1) := by decide +kernel
theorem d_X11_build_42 : decode prog_13_method_33_code 42 = .ok (.getfield 113, 3) := by decide +kernel
theorem d_X11_build_45 : decode prog_13_method_33_code 45 = .ok (.iload_n 3, 1) := by decide +kernel
theorem d_X11_build_46 : decode prog_13_method_33_code 46 = .ok (.iconst 0, 1) := by decide +kernel
theorem d_X11_build_47 : decode prog_13_method_33_code 47 = .ok (.iastore, 1) := by decide +kernel
theorem d_X11_build_48 : decode prog_13_method_33_code 48 = .ok (.aload_n 0, 1) := by decide +kernel
theorem d_X11_build_49 : decode prog_13_method_33_code 49 = .ok (.getfield 146, 3) := by decide +kernel
theorem d_X11_build_52 : decode prog_13_method_33_code 52 = .ok (.iload_n 3, 1) := by decide +kernel
theorem d_X11_build_53 : decode prog_13_method_33_code 53 = .ok (.iconst 0, 1) := by decide +kernel
theorem d_X11_build_54 : decode prog_13_method_33_code 54 = .ok (.iastore, 1) := by decide +kernel
theorem d_X11_build_55 : decode prog_13_method_33_code 55 = .ok (.aload_n 0, 1) := by decide +kernel
theorem d_X11_build_56 : decode prog_13_method_33_code 56 = .ok (.getfield 158, 3) := by decide +kernel
theorem d_X11_build_59 : decode prog_13_method_33_code 59 = .ok (.iload_n 3, 1) := by decide +kernel
theorem d_X11_build_60 : decode prog_13_method_33_code 60 = .ok (.iconst 1, 1) := by decide +kernel
theorem d_X11_build_61 : decode prog_13_method_33_code 61 = .ok (.iastore, 1) := by decide +kernel
theorem d_X11_build_62 : decode prog_13_method_33_code 62 = .ok (.aload_n 0, 1) := by decide +kernel
theorem d_X11_build_63 : decode prog_13_method_33_code 63 = .ok (.getfield 149, 3) := by decide +kernel
theorem d_X11_build_66 : decode prog_13_method_33_code 66 = .ok (.iload_n 3, 1) := by decide +kernel
theorem d_X11_build_67 : decode prog_13_method_33_code 67 = .ok (.aload_n 0, 1) := by decide +kernel
theorem d_X11_build_68 : decode prog_13_method_33_code 68 = .ok (.getfield 283, 3) := by decide +kernel
theorem d_X11_build_71 : decode prog_13_method_33_code 71 = .ok (.iastore, 1) := by decide +kernel
theorem d_X11_build_72 : decode prog_13_method_33_code 72 = .ok (.iinc 3 1, 3) := by decide +kernel
theorem d_X11_build_75 : decode prog_13_method_33_code 75 = .ok (.goto (-45), 3) := by decide +kernel
theorem d_X11_build_78 : decode prog_13_method_33_code 78 = .ok (.iconst 0, 1) := by decide +kernel
theorem d_X11_build_79 : decode prog_13_method_33_code 79 = .ok (.istore_n 3, 1) := by decide +kernel
theorem d_X11_build_80 : decode prog_13_method_33_code 80 = .ok (.iload_n 3, 1) := by decide +kernel
theorem d_X11_build_81 : decode prog_13_method_33_code 81 = .ok (.aload_n 0, 1) := by decide +kernel
theorem d_X11_build_82 : decode prog_13_method_33_code 82 = .ok (.getfield 83, 3) := by decide +kernel
theorem d_X11_build_85 : decode prog_13_method_33_code 85 = .ok (.iload_n 2, 1) := by decide +kernel
theorem d_X11_build_86 : decode prog_13_method_33_code 86 = .ok (.iaload, 1) := by decide +kernel
theorem d_X11_build_87 : decode prog_13_method_33_code 87 = .ok (.if_icmp .ge 16, 3) := by decide +kernel
theorem d_X11_build_90 : decode prog_13_method_33_code 90 = .ok (.aload_n 0, 1) := by decide +kernel
theorem d_X11_build_91 : decode prog_13_method_33_code 91 = .ok (.getfield 176, 3) := by decide +kernel
theorem d_X11_build_94 : decode prog_13_method_33_code 94 = .ok (.iload_n 3, 1) := by decide +kernel
theorem d_X11_build_95 : decode prog_13_method_33_code 95 = .ok (.iconst 0, 1) := by decide +kernel
theorem d_X11_build_96 : decode prog_13_method_33_code 96 = .ok (.bastore, 1) := by decide +kernel
theorem d_X11_build_97 : decode prog_13_method_33_code 97 = .ok (.iinc 3 1, 3) := by decide +kernel
theorem d_X11_build_100 : decode prog_13_method_33_code 100 = .ok (.goto (-20), 3) := by decide +kernel
theorem d_X11_build_103 : decode prog_13_method_33_code 103 = .ok (.iconst 0, 1) := by decide +kernel
theorem d_X11_build_104 : decode prog_13_method_33_code 104 = .ok (.istore_n 3, 1) := by decide +kernel
theorem d_X11_build_105 : decode prog_13_method_33_code 105 = .ok (.iload_n 3, 1) := by decide +kernel
theorem d_X11_build_106 : decode prog_13_method_33_code 106 = .ok (.aload_n 0, 1) := by decide +kernel
theorem d_X11_build_107 : decode prog_13_method_33_code 107 = .ok (.getfield 83, 3) := by decide +kernel
theorem d_X11_build_110 : decode prog_13_method_33_code 110 = .ok (.iload_n 2, 1) := by decide +kernel
theorem d_X11_build_111 : decode prog_13_method_33_code 111 = .ok (.iaload, 1) := by decide +kernel
theorem d_X11_build_112 : decode prog_13_method_33_code 112 = .ok (.if_icmp .ge 53, 3) := by decide +kernel
theorem d_X11_build_115 : decode prog_13_method_33_code 115 = .ok (.aload_n 0, 1) := by decide +kernel
theorem d_X11_build_116 : decode prog_13_method_33_code 116 = .ok (.aload_n 0, 1) := by decide +kernel
theorem d_X11_build_117 : decode prog_13_method_33_code 117 = .ok (.getfield 80, 3) := by decide +kernel
theorem d_X11_build_120 : decode prog_13_method_33_code 120 = .ok (.sipush 8192, 3) := by decide +kernel
theorem d_X11_build_123 : decode prog_13_method_33_code 123 = .ok (.iload_n 2, 1) := by decide +kernel
theorem d_X11_build_124 : decode prog_13_method_33_code 124 = .ok (.imul, 1) := by decide +kernel
theorem d_X11_build_125 : decode prog_13_method_33_code 125 = .ok (.iload_n 3, 1) := by decide +kernel
theorem d_X11_build_126 : decode prog_13_method_33_code 126 = .ok (.iadd, 1) := by decide +kernel
theorem d_X11_build_127 : decode prog_13_method_33_code 127 = .ok (.iaload, 1) := by decide +kernel
theorem d_X11_build_128 : decode prog_13_method_33_code 128 = .ok (.invokevirtual 286, 3) := by decide +kernel
theorem d_X11_build_131 : decode prog_13_method_33_code 131 = .ok (.bipush 14, 2) := by decide +kernel
theorem d_X11_build_133 : decode prog_13_method_33_code 133 = .ok (.if_icmp .ne 26, 3) := by decide +kernel
theorem d_X11_build_136 : decode prog_13_method_33_code 136 = .ok (.aload_n 0, 1) := by decide +kernel
theorem d_X11_build_137 : decode prog_13_method_33_code 137 = .ok (.getfield 176, 3) := by decide +kernel
theorem d_X11_build_140 : decode prog_13_method_33_code 140 = .ok (.aload_n 0, 1) := by decide +kernel
theorem d_X11_build_141 : decode prog_13_method_33_code 141 = .ok (.getfield 70, 3) := by decide +kernel
theorem d_X11_build_144 : decode prog_13_method_33_code 144 = .ok (.aload_n 0, 1) := by decide +kernel
theorem d_X11_build_145 : decode prog_13_method_33_code 145 = .ok (.getfield 80, 3) := by decide +kernel
theorem d_X11_build_148 : decode prog_13_method_33_code 148 = .ok (.sipush 8192, 3) := by decide +kernel
theorem d_X11_build_151 : decode prog_13_method_33_code 151 = .ok (.iload_n 2, 1) := by decide +kernel
theorem d_X11_build_152 : decode prog_13_method_33_code 152 = .ok (.imul, 1) := by decide +kernel
theorem d_X11_build_153 : decode prog_13_method_33_code 153 = .ok (.iload_n 3, 1) := by decide +kernel
theorem d_X11_build_154 : decode prog_13_method_33_code 154 = .ok (.iadd, 1) := by decide +kernel
theorem d_X11_build_155 : decode prog_13_method_33_code 155 = .ok (.iaload, 1) := by decide +kernel
theorem d_X11_build_156 : decode prog_13_method_33_code 156 = .ok (.iaload, 1) := by decide +kernel
theorem d_X11_build_157 : decode prog_13_method_33_code 157 = .ok (.iconst 1, 1) := by decide +kernel
theorem d_X11_build_158 : decode prog_13_method_33_code 158 = .ok (.bastore, 1) := by decide +kernel
theorem d_X11_build_159 : decode prog_13_method_33_code 159 = .ok (.iinc 3 1, 3) := by decide +kernel
theorem d_X11_build_162 : decode prog_13_method_33_code 162 = .ok (.goto (-57), 3) := by decide +kernel
theorem d_X11_build_165 : decode prog_13_method_33_code 165 = .ok (.iconst 0, 1) := by decide +kernel
theorem d_X11_build_166 : decode prog_13_method_33_code 166 = .ok (.istore_n 3, 1) := by decide +kernel
theorem d_X11_build_167 : decode prog_13_method_33_code 167 = .ok (.iload_n 3, 1) := by decide +kernel
theorem d_X11_build_168 : decode prog_13_method_33_code 168 = .ok (.aload_n 0, 1) := by decide +kernel
theorem d_X11_build_169 : decode prog_13_method_33_code 169 = .ok (.getfield 83, 3) := by decide +kernel
theorem d_X11_build_172 : decode prog_13_method_33_code 172 = .ok (.iload_n 2, 1) := by decide +kernel
theorem d_X11_build_173 : decode prog_13_method_33_code 173 = .ok (.iaload, 1) := by decide +kernel
theorem d_X11_build_174 : decode prog_13_method_33_code 174 = .ok (.if_icmp .ge 27, 3) := by decide +kernel
theorem d_X11_build_177 : decode prog_13_method_33_code 177 = .ok (.aload_n 0, 1) := by decide +kernel
theorem d_X11_build_178 : decode prog_13_method_33_code 178 = .ok (.iload_n 1, 1) := by decide +kernel
theorem d_X11_build_179 : decode prog_13_method_33_code 179 = .ok (.aload_n 0, 1) := by decide +kernel
theorem d_X11_build_180 : decode prog_13_method_33_code 180 = .ok (.getfield 80, 3) := by decide +kernel
theorem d_X11_build_183 : decode prog_13_method_33_code 183 = .ok (.sipush 8192, 3) := by decide +kernel
theorem d_X11_build_186 : decode prog_13_method_33_code 186 = .ok (.iload_n 2, 1) := by decide +kernel
theorem d_X11_build_187 : decode prog_13_method_33_code 187 = .ok (.imul, 1) := by decide +kernel
theorem d_X11_build_188 : decode prog_13_method_33_code 188 = .ok (.iload_n 3, 1) := by decide +kernel
theorem d_X11_build_189 : decode prog_13_method_33_code 189 = .ok (.iadd, 1) := by decide +kernel
theorem d_X11_build_190 : decode prog_13_method_33_code 190 = .ok (.iaload, 1) := by decide +kernel
theorem d_X11_build_191 : decode prog_13_method_33_code 191 = .ok (.iload_n 3, 1) := by decide +kernel
theorem d_X11_build_192 : decode prog_13_method_33_code 192 = .ok (.invokevirtual 289, 3) := by decide +kernel
theorem d_X11_build_195 : decode prog_13_method_33_code 195 = .ok (.iinc 3 1, 3) := by decide +kernel
theorem d_X11_build_198 : decode prog_13_method_33_code 198 = .ok (.goto (-31), 3) := by decide +kernel
theorem d_X11_build_201 : decode prog_13_method_33_code 201 = .ok (.iconst 0, 1) := by decide +kernel
theorem d_X11_build_202 : decode prog_13_method_33_code 202 = .ok (.istore_n 3, 1) := by decide +kernel
theorem d_X11_build_203 : decode prog_13_method_33_code 203 = .ok (.iload_n 3, 1) := by decide +kernel
theorem d_X11_build_204 : decode prog_13_method_33_code 204 = .ok (.aload_n 0, 1) := by decide +kernel
theorem d_X11_build_205 : decode prog_13_method_33_code 205 = .ok (.getfield 107, 3) := by decide +kernel
theorem d_X11_build_208 : decode prog_13_method_33_code 208 = .ok (.iload_n 1, 1) := by decide +kernel
theorem d_X11_build_209 : decode prog_13_method_33_code 209 = .ok (.iaload, 1) := by decide +kernel
theorem d_X11_build_210 : decode prog_13_method_33_code 210 = .ok (.if_icmp .ge 45, 3) := by decide +kernel
theorem d_X11_build_213 : decode prog_13_method_33_code 213 = .ok (.bipush 16, 2) := by decide +kernel
theorem d_X11_build_215 : decode prog_13_method_33_code 215 = .ok (.iload_n 1, 1) := by decide +kernel
theorem d_X11_build_216 : decode prog_13_method_33_code 216 = .ok (.imul, 1) := by decide +kernel
theorem d_X11_build_217 : decode prog_13_method_33_code 217 = .ok (.iload_n 3, 1) := by decide +kernel
theorem d_X11_build_218 : decode prog_13_method_33_code 218 = .ok (.iadd, 1) := by decide +kernel
theorem d_X11_build_219 : decode prog_13_method_33_code 219 = .ok (.istore 4, 2) := by decide +kernel
theorem d_X11_build_221 : decode prog_13_method_33_code 221 = .ok (.aload_n 0, 1) := by decide +kernel
theorem d_X11_build_222 : decode prog_13_method_33_code 222 = .ok (.iload 4, 2) := by decide +kernel
theorem d_X11_build_224 : decode prog_13_method_33_code 224 = .ok (.invokevirtual 293, 3) := by decide +kernel
theorem d_X11_build_227 : decode prog_13_method_33_code 227 = .ok (.aload_n 0, 1) := by decide +kernel
theorem d_X11_build_228 : decode prog_13_method_33_code 228 = .ok (.getfield 146, 3) := by decide +kernel
theorem d_X11_build_231 : decode prog_13_method_33_code 231 = .ok (.iload 4, 2) := by decide +kernel
theorem d_X11_build_233 : decode prog_13_method_33_code 233 = .ok (.aload_n 0, 1) := by decide +kernel
theorem d_X11_build_234 : decode prog_13_method_33_code 234 = .ok (.getfield 119, 3) := by decide +kernel
theorem d_X11_build_237 : decode prog_13_method_33_code 237 = .ok (.iload 4, 2) := by decide +kernel
theorem d_X11_build_239 : decode prog_13_method_33_code 239 = .ok (.iaload, 1) := by decide +kernel
theorem d_X11_build_240 : decode prog_13_method_33_code 240 = .ok (.ifCond .ne 7, 3) := by decide +kernel
theorem d_X11_build_243 : decode prog_13_method_33_code 243 = .ok (.iconst 1, 1) := by decide +kernel
theorem d_X11_build_244 : decode prog_13_method_33_code 244 = .ok (.goto 4, 3) := by decide +kernel
theorem d_X11_build_247 : decode prog_13_method_33_code 247 = .ok (.iconst 0, 1) := by decide +kernel
theorem d_X11_build_248 : decode prog_13_method_33_code 248 = .ok (.iastore, 1) := by decide +kernel
theorem d_X11_build_249 : decode prog_13_method_33_code 249 = .ok (.iinc 3 1, 3) := by decide +kernel
theorem d_X11_build_252 : decode prog_13_method_33_code 252 = .ok (.goto (-49), 3) := by decide +kernel
theorem d_X11_build_255 : decode prog_13_method_33_code 255 = .ok (.iconst 1, 1) := by decide +kernel
theorem d_X11_build_256 : decode prog_13_method_33_code 256 = .ok (.istore_n 3, 1) := by decide +kernel
theorem d_X11_build_257 : decode prog_13_method_33_code 257 = .ok (.iconst 0, 1) := by decide +kernel
theorem d_X11_build_258 : decode prog_13_method_33_code 258 = .ok (.istore 4, 2) := by decide +kernel
theorem d_X11_build_260 : decode prog_13_method_33_code 260 = .ok (.iload_n 3, 1) := by decide +kernel
theorem d_X11_build_261 : decode prog_13_method_33_code 261 = .ok (.ifCond .eq 32, 3) := by decide +kernel
theorem d_X11_build_264 : decode prog_13_method_33_code 264 = .ok (.iload 4, 2) := by decide +kernel
theorem d_X11_build_266 : decode prog_13_method_33_code 266 = .ok (.aload_n 0, 1) := by decide +kernel
theorem d_X11_build_267 : decode prog_13_method_33_code 267 = .ok (.getfield 107, 3) := by decide +kernel
theorem d_X11_build_270 : decode prog_13_method_33_code 270 = .ok (.iload_n 1, 1) := by decide +kernel
theorem d_X11_build_271 : decode prog_13_method_33_code 271 = .ok (.iaload, 1) := by decide +kernel
theorem d_X11_build_272 : decode prog_13_method_33_code 272 = .ok (.if_icmp .ge 21, 3) := by decide +kernel
theorem d_X11_build_275 : decode prog_13_method_33_code 275 = .ok (.aload_n 0, 1) := by decide +kernel
theorem d_X11_build_276 : decode prog_13_method_33_code 276 = .ok (.bipush 16, 2) := by decide +kernel
theorem d_X11_build_278 : decode prog_13_method_33_code 278 = .ok (.iload_n 1, 1) := by decide +kernel
theorem d_X11_build_279 : decode prog_13_method_33_code 279 = .ok (.imul, 1) := by decide +kernel
theorem d_X11_build_280 : decode prog_13_method_33_code 280 = .ok (.iload 4, 2) := by decide +kernel
theorem d_X11_build_282 : decode prog_13_method_33_code 282 = .ok (.iadd, 1) := by decide +kernel
theorem d_X11_build_283 : decode prog_13_method_33_code 283 = .ok (.invokevirtual 296, 3) := by decide +kernel
theorem d_X11_build_286 : decode prog_13_method_33_code 286 = .ok (.istore_n 3, 1) := by decide +kernel
theorem d_X11_build_287 : decode prog_13_method_33_code 287 = .ok (.iinc 4 1, 3) := by decide +kernel
theorem d_X11_build_290 : decode prog_13_method_33_code 290 = .ok (.goto (-30), 3) := by decide +kernel
theorem d_X11_build_293 : decode prog_13_method_33_code 293 = .ok (.return_, 1) := by decide +kernel
abbrev Y_X11_elect : Yx := (⟨"TaskWeaveModel", "elect", "(I)V"⟩, prog_13_method_32_code, 4, none)
abbrev M_X11_elect : Mx := ("TaskWeaveModel", prog_13_method_32_code, 4, false)
theorem yk_X11_elect : Yk Y_X11_elect 1 := ⟨by decide +kernel, by decide +kernel, ⟨by decide, by decide⟩, by decide +kernel, by decide, trivial⟩
theorem d_X11_elect_0 : decode prog_13_method_32_code 0 = .ok (.aload_n 0, 1) := by decide +kernel
theorem d_X11_elect_1 : decode prog_13_method_32_code 1 = .ok (.getfield 104, 3) := by decide +kernel
theorem d_X11_elect_4 : decode prog_13_method_32_code 4 = .ok (.iload_n 1, 1) := by decide +kernel
theorem d_X11_elect_5 : decode prog_13_method_32_code 5 = .ok (.dup2, 1) := by decide +kernel
theorem d_X11_elect_6 : decode prog_13_method_32_code 6 = .ok (.iaload, 1) := by decide +kernel
theorem d_X11_elect_7 : decode prog_13_method_32_code 7 = .ok (.iconst 1, 1) := by decide +kernel
theorem d_X11_elect_8 : decode prog_13_method_32_code 8 = .ok (.iadd, 1) := by decide +kernel
theorem d_X11_elect_9 : decode prog_13_method_32_code 9 = .ok (.iastore, 1) := by decide +kernel
theorem d_X11_elect_10 : decode prog_13_method_32_code 10 = .ok (.iconst (-1), 1) := by decide +kernel
theorem d_X11_elect_11 : decode prog_13_method_32_code 11 = .ok (.istore_n 2, 1) := by decide +kernel
theorem d_X11_elect_12 : decode prog_13_method_32_code 12 = .ok (.iconst 0, 1) := by decide +kernel
theorem d_X11_elect_13 : decode prog_13_method_32_code 13 = .ok (.istore_n 3, 1) := by decide +kernel
theorem d_X11_elect_14 : decode prog_13_method_32_code 14 = .ok (.iload_n 3, 1) := by decide +kernel
theorem d_X11_elect_15 : decode prog_13_method_32_code 15 = .ok (.aload_n 0, 1) := by decide +kernel
theorem d_X11_elect_16 : decode prog_13_method_32_code 16 = .ok (.getfield 98, 3) := by decide +kernel
theorem d_X11_elect_19 : decode prog_13_method_32_code 19 = .ok (.iload_n 1, 1) := by decide +kernel
theorem d_X11_elect_20 : decode prog_13_method_32_code 20 = .ok (.iaload, 1) := by decide +kernel
theorem d_X11_elect_21 : decode prog_13_method_32_code 21 = .ok (.if_icmp .ge 46, 3) := by decide +kernel
theorem d_X11_elect_24 : decode prog_13_method_32_code 24 = .ok (.aload_n 0, 1) := by decide +kernel
theorem d_X11_elect_25 : decode prog_13_method_32_code 25 = .ok (.getfield 92, 3) := by decide +kernel
theorem d_X11_elect_28 : decode prog_13_method_32_code 28 = .ok (.iconst 5, 1) := by decide +kernel
theorem d_X11_elect_29 : decode prog_13_method_32_code 29 = .ok (.iload_n 1, 1) := by decide +kernel
theorem d_X11_elect_30 : decode prog_13_method_32_code 30 = .ok (.imul, 1) := by decide +kernel
theorem d_X11_elect_31 : decode prog_13_method_32_code 31 = .ok (.iload_n 3, 1) := by decide +kernel
theorem d_X11_elect_32 : decode prog_13_method_32_code 32 = .ok (.iadd, 1) := by decide +kernel
theorem d_X11_elect_33 : decode prog_13_method_32_code 33 = .ok (.baload, 1) := by decide +kernel
theorem d_X11_elect_34 : decode prog_13_method_32_code 34 = .ok (.ifCond .eq 27, 3) := by decide +kernel
theorem d_X11_elect_37 : decode prog_13_method_32_code 37 = .ok (.iload_n 2, 1) := by decide +kernel
theorem d_X11_elect_38 : decode prog_13_method_32_code 38 = .ok (.iconst (-1), 1) := by decide +kernel
theorem d_X11_elect_39 : decode prog_13_method_32_code 39 = .ok (.if_icmp .eq 20, 3) := by decide +kernel
theorem d_X11_elect_42 : decode prog_13_method_32_code 42 = .ok (.aload_n 0, 1) := by decide +kernel
theorem d_X11_elect_43 : decode prog_13_method_32_code 43 = .ok (.iconst 5, 1) := by decide +kernel
theorem d_X11_elect_44 : decode prog_13_method_32_code 44 = .ok (.iload_n 1, 1) := by decide +kernel
theorem d_X11_elect_45 : decode prog_13_method_32_code 45 = .ok (.imul, 1) := by decide +kernel
theorem d_X11_elect_46 : decode prog_13_method_32_code 46 = .ok (.iload_n 3, 1) := by decide +kernel
theorem d_X11_elect_47 : decode prog_13_method_32_code 47 = .ok (.iadd, 1) := by decide +kernel
theorem d_X11_elect_48 : decode prog_13_method_32_code 48 = .ok (.iconst 5, 1) := by decide +kernel
theorem d_X11_elect_49 : decode prog_13_method_32_code 49 = .ok (.iload_n 1, 1) := by decide +kernel
theorem d_X11_elect_50 : decode prog_13_method_32_code 50 = .ok (.imul, 1) := by decide +kernel
theorem d_X11_elect_51 : decode prog_13_method_32_code 51 = .ok (.iload_n 2, 1) := by decide +kernel
theorem d_X11_elect_52 : decode prog_13_method_32_code 52 = .ok (.iadd, 1) := by decide +kernel
theorem d_X11_elect_53 : decode prog_13_method_32_code 53 = .ok (.invokevirtual 274, 3) := by decide +kernel
theorem d_X11_elect_56 : decode prog_13_method_32_code 56 = .ok (.ifCond .eq 5, 3) := by decide +kernel
theorem d_X11_elect_59 : decode prog_13_method_32_code 59 = .ok (.iload_n 3, 1) := by decide +kernel
theorem d_X11_elect_60 : decode prog_13_method_32_code 60 = .ok (.istore_n 2, 1) := by decide +kernel
theorem d_X11_elect_61 : decode prog_13_method_32_code 61 = .ok (.iinc 3 1, 3) := by decide +kernel
theorem d_X11_elect_64 : decode prog_13_method_32_code 64 = .ok (.goto (-50), 3) := by decide +kernel
theorem d_X11_elect_67 : decode prog_13_method_32_code 67 = .ok (.iconst 0, 1) := by decide +kernel
theorem d_X11_elect_68 : decode prog_13_method_32_code 68 = .ok (.istore_n 3, 1) := by decide +kernel
theorem d_X11_elect_69 : decode prog_13_method_32_code 69 = .ok (.iload_n 3, 1) := by decide +kernel
theorem d_X11_elect_70 : decode prog_13_method_32_code 70 = .ok (.aload_n 0, 1) := by decide +kernel
theorem d_X11_elect_71 : decode prog_13_method_32_code 71 = .ok (.getfield 98, 3) := by decide +kernel
theorem d_X11_elect_74 : decode prog_13_method_32_code 74 = .ok (.iload_n 1, 1) := by decide +kernel
theorem d_X11_elect_75 : decode prog_13_method_32_code 75 = .ok (.iaload, 1) := by decide +kernel
theorem d_X11_elect_76 : decode prog_13_method_32_code 76 = .ok (.if_icmp .ge 41, 3) := by decide +kernel
theorem d_X11_elect_79 : decode prog_13_method_32_code 79 = .ok (.iload_n 3, 1) := by decide +kernel
theorem d_X11_elect_80 : decode prog_13_method_32_code 80 = .ok (.iload_n 2, 1) := by decide +kernel
theorem d_X11_elect_81 : decode prog_13_method_32_code 81 = .ok (.if_icmp .eq 30, 3) := by decide +kernel
theorem d_X11_elect_84 : decode prog_13_method_32_code 84 = .ok (.aload_n 0, 1) := by decide +kernel
theorem d_X11_elect_85 : decode prog_13_method_32_code 85 = .ok (.getfield 92, 3) := by decide +kernel
theorem d_X11_elect_88 : decode prog_13_method_32_code 88 = .ok (.iconst 5, 1) := by decide +kernel
theorem d_X11_elect_89 : decode prog_13_method_32_code 89 = .ok (.iload_n 1, 1) := by decide +kernel
theorem d_X11_elect_90 : decode prog_13_method_32_code 90 = .ok (.imul, 1) := by decide +kernel
theorem d_X11_elect_91 : decode prog_13_method_32_code 91 = .ok (.iload_n 3, 1) := by decide +kernel
theorem d_X11_elect_92 : decode prog_13_method_32_code 92 = .ok (.iadd, 1) := by decide +kernel
theorem d_X11_elect_93 : decode prog_13_method_32_code 93 = .ok (.baload, 1) := by decide +kernel
theorem d_X11_elect_94 : decode prog_13_method_32_code 94 = .ok (.ifCond .eq 17, 3) := by decide +kernel
theorem d_X11_elect_97 : decode prog_13_method_32_code 97 = .ok (.aload_n 0, 1) := by decide +kernel
theorem d_X11_elect_98 : decode prog_13_method_32_code 98 = .ok (.iconst 5, 1) := by decide +kernel
theorem d_X11_elect_99 : decode prog_13_method_32_code 99 = .ok (.iload_n 1, 1) := by decide +kernel
theorem d_X11_elect_100 : decode prog_13_method_32_code 100 = .ok (.imul, 1) := by decide +kernel
theorem d_X11_elect_101 : decode prog_13_method_32_code 101 = .ok (.iload_n 3, 1) := by decide +kernel
theorem d_X11_elect_102 : decode prog_13_method_32_code 102 = .ok (.iadd, 1) := by decide +kernel
theorem d_X11_elect_103 : decode prog_13_method_32_code 103 = .ok (.iconst 5, 1) := by decide +kernel
theorem d_X11_elect_104 : decode prog_13_method_32_code 104 = .ok (.iload_n 1, 1) := by decide +kernel
theorem d_X11_elect_105 : decode prog_13_method_32_code 105 = .ok (.imul, 1) := by decide +kernel
theorem d_X11_elect_106 : decode prog_13_method_32_code 106 = .ok (.iload_n 2, 1) := by decide +kernel
theorem d_X11_elect_107 : decode prog_13_method_32_code 107 = .ok (.iadd, 1) := by decide +kernel
theorem d_X11_elect_108 : decode prog_13_method_32_code 108 = .ok (.invokevirtual 277, 3) := by decide +kernel
theorem d_X11_elect_111 : decode prog_13_method_32_code 111 = .ok (.iinc 3 1, 3) := by decide +kernel
theorem d_X11_elect_114 : decode prog_13_method_32_code 114 = .ok (.goto (-45), 3) := by decide +kernel
theorem d_X11_elect_117 : decode prog_13_method_32_code 117 = .ok (.aload_n 0, 1) := by decide +kernel
theorem d_X11_elect_118 : decode prog_13_method_32_code 118 = .ok (.iload_n 1, 1) := by decide +kernel
theorem d_X11_elect_119 : decode prog_13_method_32_code 119 = .ok (.iload_n 2, 1) := by decide +kernel
theorem d_X11_elect_120 : decode prog_13_method_32_code 120 = .ok (.aload_n 0, 1) := by decide +kernel
theorem d_X11_elect_121 : decode prog_13_method_32_code 121 = .ok (.iconst 0, 1) := by decide +kernel
theorem d_X11_elect_122 : decode prog_13_method_32_code 122 = .ok (.bipush 13, 2) := by decide +kernel
theorem d_X11_elect_124 : decode prog_13_method_32_code 124 = .ok (.aload_n 0, 1) := by decide +kernel
theorem d_X11_elect_125 : decode prog_13_method_32_code 125 = .ok (.getfield 104, 3) := by decide +kernel
theorem d_X11_elect_128 : decode prog_13_method_32_code 128 = .ok (.iload_n 1, 1) := by decide +kernel
theorem d_X11_elect_129 : decode prog_13_method_32_code 129 = .ok (.iaload, 1) := by decide +kernel
theorem d_X11_elect_130 : decode prog_13_method_32_code 130 = .ok (.iload_n 2, 1) := by decide +kernel
theorem d_X11_elect_131 : decode prog_13_method_32_code 131 = .ok (.iconst 0, 1) := by decide +kernel
theorem d_X11_elect_132 : decode prog_13_method_32_code 132 = .ok (.iconst 0, 1) := by decide +kernel
theorem d_X11_elect_133 : decode prog_13_method_32_code 133 = .ok (.invokevirtual 254, 3) := by decide +kernel
theorem d_X11_elect_136 : decode prog_13_method_32_code 136 = .ok (.invokevirtual 258, 3) := by decide +kernel
theorem d_X11_elect_139 : decode prog_13_method_32_code 139 = .ok (.ifCond .ne 4, 3) := by decide +kernel
theorem d_X11_elect_142 : decode prog_13_method_32_code 142 = .ok (.return_, 1) := by decide +kernel
theorem d_X11_elect_143 : decode prog_13_method_32_code 143 = .ok (.aload_n 0, 1) := by decide +kernel
theorem d_X11_elect_144 : decode prog_13_method_32_code 144 = .ok (.getfield 101, 3) := by decide +kernel
theorem d_X11_elect_147 : decode prog_13_method_32_code 147 = .ok (.iload_n 1, 1) := by decide +kernel
theorem d_X11_elect_148 : decode prog_13_method_32_code 148 = .ok (.iload_n 2, 1) := by decide +kernel
theorem d_X11_elect_149 : decode prog_13_method_32_code 149 = .ok (.iastore, 1) := by decide +kernel
theorem d_X11_elect_150 : decode prog_13_method_32_code 150 = .ok (.aload_n 0, 1) := by decide +kernel
theorem d_X11_elect_151 : decode prog_13_method_32_code 151 = .ok (.iload_n 1, 1) := by decide +kernel
theorem d_X11_elect_152 : decode prog_13_method_32_code 152 = .ok (.invokevirtual 280, 3) := by decide +kernel
theorem d_X11_elect_155 : decode prog_13_method_32_code 155 = .ok (.return_, 1) := by decide +kernel
abbrev Y_X11_loses : Yx := (⟨"TaskWeaveModel", "loses", "(I)V"⟩, prog_13_method_29_code, 3, none)
abbrev M_X11_loses : Mx := ("TaskWeaveModel", prog_13_method_29_code, 3, false)
theorem yk_X11_loses : Yk Y_X11_loses 1 := ⟨by decide +kernel, by decide +kernel, ⟨by decide, by decide⟩, by decide +kernel, by decide, trivial⟩
theorem d_X11_loses_0 : decode prog_13_method_29_code 0 = .ok (.aload_n 0, 1) := by decide +kernel
theorem d_X11_loses_1 : decode prog_13_method_29_code 1 = .ok (.getfield 101, 3) := by decide +kernel
theorem d_X11_loses_4 : decode prog_13_method_29_code 4 = .ok (.iload_n 1, 1) := by decide +kernel
theorem d_X11_loses_5 : decode prog_13_method_29_code 5 = .ok (.iconst (-1), 1) := by decide +kernel
theorem d_X11_loses_6 : decode prog_13_method_29_code 6 = .ok (.iastore, 1) := by decide +kernel
theorem d_X11_loses_7 : decode prog_13_method_29_code 7 = .ok (.bipush 16, 2) := by decide +kernel
theorem d_X11_loses_9 : decode prog_13_method_29_code 9 = .ok (.iload_n 1, 1) := by decide +kernel
theorem d_X11_loses_10 : decode prog_13_method_29_code 10 = .ok (.imul, 1) := by decide +kernel
theorem d_X11_loses_11 : decode prog_13_method_29_code 11 = .ok (.istore_n 2, 1) := by decide +kernel
theorem d_X11_loses_12 : decode prog_13_method_29_code 12 = .ok (.iload_n 2, 1) := by decide +kernel
theorem d_X11_loses_13 : decode prog_13_method_29_code 13 = .ok (.bipush 16, 2) := by decide +kernel
theorem d_X11_loses_15 : decode prog_13_method_29_code 15 = .ok (.iload_n 1, 1) := by decide +kernel
theorem d_X11_loses_16 : decode prog_13_method_29_code 16 = .ok (.imul, 1) := by decide +kernel
theorem d_X11_loses_17 : decode prog_13_method_29_code 17 = .ok (.bipush 16, 2) := by decide +kernel
theorem d_X11_loses_19 : decode prog_13_method_29_code 19 = .ok (.iadd, 1) := by decide +kernel
theorem d_X11_loses_20 : decode prog_13_method_29_code 20 = .ok (.if_icmp .ge 26, 3) := by decide +kernel
theorem d_X11_loses_23 : decode prog_13_method_29_code 23 = .ok (.aload_n 0, 1) := by decide +kernel
theorem d_X11_loses_24 : decode prog_13_method_29_code 24 = .ok (.getfield 146, 3) := by decide +kernel
theorem d_X11_loses_27 : decode prog_13_method_29_code 27 = .ok (.iload_n 2, 1) := by decide +kernel
theorem d_X11_loses_28 : decode prog_13_method_29_code 28 = .ok (.iaload, 1) := by decide +kernel
theorem d_X11_loses_29 : decode prog_13_method_29_code 29 = .ok (.iconst 2, 1) := by decide +kernel
theorem d_X11_loses_30 : decode prog_13_method_29_code 30 = .ok (.if_icmp .ne 10, 3) := by decide +kernel
theorem d_X11_loses_33 : decode prog_13_method_29_code 33 = .ok (.aload_n 0, 1) := by decide +kernel
theorem d_X11_loses_34 : decode prog_13_method_29_code 34 = .ok (.getfield 146, 3) := by decide +kernel
theorem d_X11_loses_37 : decode prog_13_method_29_code 37 = .ok (.iload_n 2, 1) := by decide +kernel
theorem d_X11_loses_38 : decode prog_13_method_29_code 38 = .ok (.iconst 1, 1) := by decide +kernel
theorem d_X11_loses_39 : decode prog_13_method_29_code 39 = .ok (.iastore, 1) := by decide +kernel
theorem d_X11_loses_40 : decode prog_13_method_29_code 40 = .ok (.iinc 2 1, 3) := by decide +kernel
theorem d_X11_loses_43 : decode prog_13_method_29_code 43 = .ok (.goto (-31), 3) := by decide +kernel
theorem d_X11_loses_46 : decode prog_13_method_29_code 46 = .ok (.aload_n 0, 1) := by decide +kernel
theorem d_X11_loses_47 : decode prog_13_method_29_code 47 = .ok (.getfield 101, 3) := by decide +kernel
theorem d_X11_loses_50 : decode prog_13_method_29_code 50 = .ok (.iload_n 1, 1) := by decide +kernel
theorem d_X11_loses_51 : decode prog_13_method_29_code 51 = .ok (.iaload, 1) := by decide +kernel
theorem d_X11_loses_52 : decode prog_13_method_29_code 52 = .ok (.iconst (-1), 1) := by decide +kernel
theorem d_X11_loses_53 : decode prog_13_method_29_code 53 = .ok (.if_icmp .ne 27, 3) := by decide +kernel
theorem d_X11_loses_56 : decode prog_13_method_29_code 56 = .ok (.iconst 2, 1) := by decide +kernel
theorem d_X11_loses_57 : decode prog_13_method_29_code 57 = .ok (.aload_n 0, 1) := by decide +kernel
theorem d_X11_loses_58 : decode prog_13_method_29_code 58 = .ok (.iload_n 1, 1) := by decide +kernel
theorem d_X11_loses_59 : decode prog_13_method_29_code 59 = .ok (.invokevirtual 265, 3) := by decide +kernel
theorem d_X11_loses_62 : decode prog_13_method_29_code 62 = .ok (.imul, 1) := by decide +kernel
theorem d_X11_loses_63 : decode prog_13_method_29_code 63 = .ok (.aload_n 0, 1) := by decide +kernel
theorem d_X11_loses_64 : decode prog_13_method_29_code 64 = .ok (.getfield 98, 3) := by decide +kernel
theorem d_X11_loses_67 : decode prog_13_method_29_code 67 = .ok (.iload_n 1, 1) := by decide +kernel
theorem d_X11_loses_68 : decode prog_13_method_29_code 68 = .ok (.iaload, 1) := by decide +kernel
theorem d_X11_loses_69 : decode prog_13_method_29_code 69 = .ok (.if_icmp .le 11, 3) := by decide +kernel
theorem d_X11_loses_72 : decode prog_13_method_29_code 72 = .ok (.aload_n 0, 1) := by decide +kernel
theorem d_X11_loses_73 : decode prog_13_method_29_code 73 = .ok (.iload_n 1, 1) := by decide +kernel
theorem d_X11_loses_74 : decode prog_13_method_29_code 74 = .ok (.invokevirtual 268, 3) := by decide +kernel
theorem d_X11_loses_77 : decode prog_13_method_29_code 77 = .ok (.goto (-31), 3) := by decide +kernel
theorem d_X11_loses_80 : decode prog_13_method_29_code 80 = .ok (.return_, 1) := by decide +kernel
theorem vk_10_339 : Vk "TaskWeaveModel" 339 4 12 Y_X11_own := ⟨yk_X11_own, by decide +kernel, by decide +kernel, by decide +kernel, by decide⟩
theorem vk_10_354 : Vk "TaskWeaveModel" 354 2 12 Y_X11_takesSignal := ⟨yk_X11_takesSignal, by decide +kernel, by decide +kernel, by decide +kernel, by decide⟩
theorem vk_10_357 : Vk "TaskWeaveModel" 357 3 12 Y_X11_joins := ⟨yk_X11_joins, by decide +kernel, by decide +kernel, by decide +kernel, by decide⟩
theorem fk_10_283 : Fk "TaskWeaveModel" 283 1201 := ⟨by decide, by decide, by decide +kernel⟩
theorem vk_10_302 : Vk "TaskWeaveModel" 302 1 12 Y_X11_parent := ⟨yk_X11_parent, by decide +kernel, by decide +kernel, by decide +kernel, by decide⟩
def f_X11_asks_92 (s0 : Nat) (s1 : Int32) (s2 : Int32) (s3 : Int32) (s4 : Int32) (l0 : Nat) (l1 : Int32) (h : Hp) : Option Hp := ck (isO (h) (s0) 12) ((f_X11_own (s0) (s1) (s2) ((s3) + (s4)) ((0 : Int32)) (h)).bind (fun q42 => if (q42.1) = (0) then (some (q42.2)) else (ck (isO (q42.2) (l0) 12) ((f_X11_event (l0) (l1) ((zI (q42.2) 1264 (l0)) - ((1 : Int32))) (q42.2)).bind (fun q46 => ck (isO (q46.2) (zR (q42.2) 1227 (l0)) 22) (ck (inR (q46.1) (zL (q46.2) (zR (q42.2) 1227 (l0)))) (ck (isO (q46.2) (zR (q42.2) 1251 (l0)) 22) (ck (inR (l1) (zL (q46.2) (zR (q42.2) 1251 (l0)))) (bh (pE (q46.2) (zR (q42.2) 1251 (l0)) (l1).toNatClampNeg (zE (q46.2) (zR (q42.2) 1227 (l0)) (q46.1).toNatClampNeg)) (fun h51 => ck (isO (h51) (l0) 12) ((f_X11_waits (l0) (l1) ((1 : Int32)) ((0 : Int32)) ((0 : Int32)) (h51)).bind (fun q52 => some (q52)))))))))))))
theorem f_X11_asks_92_ok {G : Gd} {d : Nat} (hj : 4 ≤ d) : ∀ (s0 : Nat) (s1 : Int32) (s2 : Int32) (s3 : Int32) (s4 : Int32) (l0 : Nat) (l1 : Int32) (L : List (Nat × Value)) (h : Hp) (o : Hp), zlk L 0 = some (zrf (l0)) → zlk L 1 = some (.int (l1)) → f_X11_asks_92 s0 s1 s2 s3 s4 l0 l1 h = some o → Ev G M_X11_asks d 92 L [.int (s4), .int (s3), .int (s2), .int (s1), zrf (s0)] h (Ret Y_X11_asks none o) := by
  intro s0 s1 s2 s3 s4 l0 l1 L h o g0 g1 e
  unfold f_X11_asks_92 at e
  refine r_iadd d_X11_asks_92 ?_
  refine r_iconst d_X11_asks_93 (v := (0 : Int32)) (by decide +kernel) ?_
  replace e := ckd e
  obtain ⟨k43, e⟩ := e
  replace e := bd e
  obtain ⟨q42, eq42, e⟩ := e
  refine g_callV d_X11_asks_94 vk_10_339 (as := [_, _, _, _]) rfl k43 rfl (by simp [zrf_cat, cat_int, cat_long]) (j := 2) (by omega) (c_X11_own (by omega) eq42) ?_
  refine r_if_eq d_X11_asks_97 (tgt := 274) (by decide) (fun c44 => ?_) (fun c44 => ?_)
  · replace e := (if_pos c44).symm.trans e
    obtain rfl := Option.some.inj e
    exact g_vret d_X11_asks_274 rfl
  · replace e := (if_neg c44).symm.trans e
    refine g_ald_n d_X11_asks_100 rfl g0 ?_
    replace e := ckd e
    obtain ⟨k45, e⟩ := e
    refine g_getR d_X11_asks_101 (f := 1251) k45 fk_10_143 rfl rfl ?_
    refine r_iload_n d_X11_asks_104 rfl g1 ?_
    refine g_ald_n d_X11_asks_105 rfl g0 ?_
    refine g_getR d_X11_asks_106 (f := 1227) k45 fk_10_70 rfl rfl ?_
    refine g_ald_n d_X11_asks_109 rfl g0 ?_
    refine r_iload_n d_X11_asks_110 rfl g1 ?_
    refine g_ald_n d_X11_asks_111 rfl g0 ?_
    refine g_getI d_X11_asks_112 (f := 1264) k45 fk_10_318 rfl rfl ?_
    refine r_iconst d_X11_asks_115 (v := (1 : Int32)) (by decide +kernel) ?_
    refine r_isub d_X11_asks_116 ?_
    replace e := bd e
    obtain ⟨q46, eq46, e⟩ := e
    refine g_callV d_X11_asks_117 vk_10_305 (as := [_, _]) rfl k45 rfl (by simp [zrf_cat, cat_int, cat_long]) (j := 1) (by omega) (c_X11_event (by omega) eq46) ?_
    replace e := ckd e
    obtain ⟨k47, e⟩ := e
    replace e := ckd e
    obtain ⟨k48, e⟩ := e
    refine g_iald d_X11_asks_120 k47 k48 rfl ?_
    replace e := ckd e
    obtain ⟨k49, e⟩ := e
    replace e := ckd e
    obtain ⟨k50, e⟩ := e
    refine g_iast d_X11_asks_121 k49 k50 ?_
    replace e := bhd e
    obtain ⟨_, rfl, e⟩ := e
    refine g_ald_n d_X11_asks_122 rfl g0 ?_
    refine r_iload_n d_X11_asks_123 rfl g1 ?_
    refine r_iconst d_X11_asks_124 (v := (1 : Int32)) (by decide +kernel) ?_
    refine r_iconst d_X11_asks_125 (v := (0 : Int32)) (by decide +kernel) ?_
    refine r_iconst d_X11_asks_126 (v := (0 : Int32)) (by decide +kernel) ?_
    replace e := ckd e
    obtain ⟨k53, e⟩ := e
    replace e := bd e
    obtain ⟨q52, eq52, e⟩ := e
    refine g_callV d_X11_asks_127 vk_10_351 (as := [_, _, _, _]) rfl k53 rfl (by simp [zrf_cat, cat_int, cat_long]) (j := 2) (by omega) (c_X11_waits (by omega) eq52) ?_
    refine r_goto d_X11_asks_130 (tgt := 274) (by decide) ?_
    obtain rfl := Option.some.inj e
    exact g_vret d_X11_asks_274 rfl

def f_X11_asks_240 (l0 : Nat) (l1 : Int32) (l3 : Int32) (l4 : Int32) (h : Hp) : Option Hp := ck (isO (h) (l0) 12) ((f_X11_own (l0) (l1) ((9 : Int32)) (l3) (l4) (h)).bind (fun q54 => if (q54.1) = (0) then (some (q54.2)) else (some (q54.2))))
theorem f_X11_asks_240_ok {G : Gd} {d : Nat} (hj : 4 ≤ d) : ∀ (l0 : Nat) (l1 : Int32) (l3 : Int32) (l4 : Int32) (L : List (Nat × Value)) (h : Hp) (o : Hp), zlk L 0 = some (zrf (l0)) → zlk L 1 = some (.int (l1)) → zlk L 3 = some (.int (l3)) → zlk L 4 = some (.int (l4)) → f_X11_asks_240 l0 l1 l3 l4 h = some o → Ev G M_X11_asks d 240 L [] h (Ret Y_X11_asks none o) := by
  intro l0 l1 l3 l4 L h o g0 g1 g3 g4 e
  unfold f_X11_asks_240 at e
  refine g_ald_n d_X11_asks_240 rfl g0 ?_
  refine r_iload_n d_X11_asks_241 rfl g1 ?_
  refine r_bipush d_X11_asks_242 (v := (9 : Int32)) (by decide +kernel) ?_
  refine r_iload_n d_X11_asks_244 rfl g3 ?_
  refine r_iload d_X11_asks_245 g4 ?_
  replace e := ckd e
  obtain ⟨k55, e⟩ := e
  replace e := bd e
  obtain ⟨q54, eq54, e⟩ := e
  refine g_callV d_X11_asks_247 vk_10_339 (as := [_, _, _, _]) rfl k55 rfl (by simp [zrf_cat, cat_int, cat_long]) (j := 2) (by omega) (c_X11_own (by omega) eq54) ?_
  refine r_if_eq d_X11_asks_250 (tgt := 257) (by decide) (fun c56 => ?_) (fun c56 => ?_)
  · replace e := (if_pos c56).symm.trans e
    refine r_iconst d_X11_asks_257 (v := (0 : Int32)) (by decide +kernel) ?_
    refine s_istore d_X11_asks_258 (by decide) (fun L g5 gK => ?_)
    refine r_goto d_X11_asks_260 (tgt := 274) (by decide) ?_
    obtain rfl := Option.some.inj e
    exact g_vret d_X11_asks_274 rfl
  · replace e := (if_neg c56).symm.trans e
    refine r_iconst d_X11_asks_253 (v := (1 : Int32)) (by decide +kernel) ?_
    refine r_goto d_X11_asks_254 (tgt := 258) (by decide) ?_
    refine s_istore d_X11_asks_258 (by decide) (fun L g5 gK => ?_)
    refine r_goto d_X11_asks_260 (tgt := 274) (by decide) ?_
    obtain rfl := Option.some.inj e
    exact g_vret d_X11_asks_274 rfl

def f_X11_asks (l0 : Nat) (l1 : Int32) (l2 : Int32) (l3 : Int32) (l4 : Int32) (h : Hp) : Option Hp := ck (isO (h) (l0) 12) (ck (isO (h) (zR (h) 1214 (l0)) 22) (ck (inR (l2) (zL (h) (zR (h) 1214 (l0)))) (if (zE (h) (zR (h) 1214 (l0)) (l2).toNatClampNeg) = (6 : Int32) then (ck (isO (h) (zR (h) 1220 (l0)) 22) (ck (inR (l2) (zL (h) (zR (h) 1220 (l0)))) ((f_X11_own (l0) (l1) ((1 : Int32)) (zE (h) (zR (h) 1220 (l0)) (l2).toNatClampNeg) (l3) (h)).bind (fun q7 => if (q7.1) = (0) then (some (q7.2)) else (ck (isO (q7.2) (l0) 12) (ck (isO (q7.2) (zR (q7.2) 1215 (l0)) 22) (ck (inR (l2) (zL (q7.2) (zR (q7.2) 1215 (l0)))) ((f_X11_waits (l0) (l1) ((0 : Int32)) ((0 : Int32)) (zE (q7.2) (zR (q7.2) 1215 (l0)) (l2).toNatClampNeg) (q7.2)).bind (fun q12 => some (q12)))))))))) else (if (zE (h) (zR (h) 1214 (l0)) (l2).toNatClampNeg) = (7 : Int32) then (ck (isO (h) (zR (h) 1215 (l0)) 22) (ck (inR (l2) (zL (h) (zR (h) 1215 (l0)))) ((f_X11_takesSignal (l0) (l1) (zE (h) (zR (h) 1215 (l0)) (l2).toNatClampNeg) (h)).bind (fun q16 => some (q16))))) else (if (zE (h) (zR (h) 1214 (l0)) (l2).toNatClampNeg) = (8 : Int32) then (ck (isO (h) (zR (h) 1220 (l0)) 22) (ck (inR (l2) (zL (h) (zR (h) 1220 (l0)))) ((f_X11_own (l0) (l1) ((6 : Int32)) (zE (h) (zR (h) 1220 (l0)) (l2).toNatClampNeg) (l3) (h)).bind (fun q20 => if (q20.1) = (0) then (some (q20.2)) else (ck (isO (q20.2) (l0) 12) (ck (isO (q20.2) (zR (q20.2) 1215 (l0)) 22) (ck (inR (l2) (zL (q20.2) (zR (q20.2) 1215 (l0)))) (ck (isO (q20.2) (zR (q20.2) 1245 (l0)) 22) (ck (inR ((((8 : Int32)) * (l1)) + (zE (q20.2) (zR (q20.2) 1215 (l0)) (l2).toNatClampNeg)) (zL (q20.2) (zR (q20.2) 1245 (l0)))) (bh (pE (q20.2) (zR (q20.2) 1245 (l0)) ((((8 : Int32)) * (l1)) + (zE (q20.2) (zR (q20.2) 1215 (l0)) (l2).toNatClampNeg)).toNatClampNeg (zI (q20.2) 1266 (l0))) (fun h27 => bh (pI (h27) 1266 (l0) ((zI (h27) 1266 (l0)) + ((1 : Int32)))) (fun h28 => some (h28))))))))))))) else (if (zE (h) (zR (h) 1214 (l0)) (l2).toNatClampNeg) = (9 : Int32) then (ck (isO (h) (zR (h) 1215 (l0)) 22) (ck (inR (l2) (zL (h) (zR (h) 1215 (l0)))) ((f_X11_joins (l0) (l1) (l3) (zE (h) (zR (h) 1215 (l0)) (l2).toNatClampNeg) (h)).bind (fun q32 => some (q32))))) else (if (zE (h) (zR (h) 1214 (l0)) (l2).toNatClampNeg) = (10 : Int32) then (if (0) ≤ (l3) then (f_X11_asks_92 (l0) (l1) ((4 : Int32)) (zI (h) 1201 (l0)) (l3) (l0) (l1) (h)) else (f_X11_asks_92 (l0) (l1) ((4 : Int32)) (zI (h) 1201 (l0)) ((0 : Int32)) (l0) (l1) (h))) else (if (zE (h) (zR (h) 1214 (l0)) (l2).toNatClampNeg) = (11 : Int32) then (if (l3) = ((-1 : Int32)) then ((f_X11_parent (l0) (l1) (h)).bind (fun q39 => if (q39.1) = ((-1 : Int32)) then (some (q39.2)) else (f_X11_asks_240 (l0) (l1) (l3) (l4) (q39.2)))) else ((f_X11_in (l3) (zI (h) 1266 (l0)) (h)).bind (fun q37 => if (q37.1) = (0) then (some (q37.2)) else (f_X11_asks_240 (l0) (l1) (l3) (l4) (q37.2))))) else ((f_X11_own (l0) (l1) ((10 : Int32)) (l3) ((0 : Int32)) (h)).bind (fun q41 => some (q41.2)))))))))))
theorem f_X11_asks_ok {G : Gd} {d : Nat} (hj : 4 ≤ d) : ∀ (l0 : Nat) (l1 : Int32) (l2 : Int32) (l3 : Int32) (l4 : Int32) (L : List (Nat × Value)) (h : Hp) (o : Hp), zlk L 0 = some (zrf (l0)) → zlk L 1 = some (.int (l1)) → zlk L 2 = some (.int (l2)) → zlk L 3 = some (.int (l3)) → zlk L 4 = some (.int (l4)) → f_X11_asks l0 l1 l2 l3 l4 h = some o → Ev G M_X11_asks d 0 L [] h (Ret Y_X11_asks none o) := by
  intro l0 l1 l2 l3 l4 L h o g0 g1 g2 g3 g4 e
  unfold f_X11_asks at e
  refine g_ald_n d_X11_asks_0 rfl g0 ?_
  replace e := ckd e
  obtain ⟨k1, e⟩ := e
  refine g_getR d_X11_asks_1 (f := 1214) k1 fk_10_35 rfl rfl ?_
  refine r_iload_n d_X11_asks_4 rfl g2 ?_
  replace e := ckd e
  obtain ⟨k2, e⟩ := e
  replace e := ckd e
  obtain ⟨k3, e⟩ := e
  refine g_iald d_X11_asks_5 k2 k3 rfl ?_
  rcases ite_or e with ⟨c4, e⟩ | ⟨c4, e⟩
  · refine r_tableIn d_X11_asks_6 (off := 38) (tgt := 44) (by rw [c4]; decide +kernel) (by rw [c4]; decide +kernel) (by rw [c4] <;> rfl) (by decide) ?_
    refine g_ald_n d_X11_asks_44 rfl g0 ?_
    refine r_iload_n d_X11_asks_45 rfl g1 ?_
    refine r_iconst d_X11_asks_46 (v := (1 : Int32)) (by decide +kernel) ?_
    refine g_ald_n d_X11_asks_47 rfl g0 ?_
    refine g_getR d_X11_asks_48 (f := 1220) k1 fk_10_54 rfl rfl ?_
    refine r_iload_n d_X11_asks_51 rfl g2 ?_
    replace e := ckd e
    obtain ⟨k5, e⟩ := e
    replace e := ckd e
    obtain ⟨k6, e⟩ := e
    refine g_iald d_X11_asks_52 k5 k6 rfl ?_
    refine r_iload_n d_X11_asks_53 rfl g3 ?_
    replace e := bd e
    obtain ⟨q7, eq7, e⟩ := e
    refine g_callV d_X11_asks_54 vk_10_339 (as := [_, _, _, _]) rfl k1 rfl (by simp [zrf_cat, cat_int, cat_long]) (j := 2) (by omega) (c_X11_own (by omega) eq7) ?_
    refine r_if_eq d_X11_asks_57 (tgt := 274) (by decide) (fun c8 => ?_) (fun c8 => ?_)
    · replace e := (if_pos c8).symm.trans e
      obtain rfl := Option.some.inj e
      exact g_vret d_X11_asks_274 rfl
    · replace e := (if_neg c8).symm.trans e
      refine g_ald_n d_X11_asks_60 rfl g0 ?_
      refine r_iload_n d_X11_asks_61 rfl g1 ?_
      refine r_iconst d_X11_asks_62 (v := (0 : Int32)) (by decide +kernel) ?_
      refine r_iconst d_X11_asks_63 (v := (0 : Int32)) (by decide +kernel) ?_
      refine g_ald_n d_X11_asks_64 rfl g0 ?_
      replace e := ckd e
      obtain ⟨k9, e⟩ := e
      refine g_getR d_X11_asks_65 (f := 1215) k9 fk_10_38 rfl rfl ?_
      refine r_iload_n d_X11_asks_68 rfl g2 ?_
      replace e := ckd e
      obtain ⟨k10, e⟩ := e
      replace e := ckd e
      obtain ⟨k11, e⟩ := e
      refine g_iald d_X11_asks_69 k10 k11 rfl ?_
      replace e := bd e
      obtain ⟨q12, eq12, e⟩ := e
      refine g_callV d_X11_asks_70 vk_10_351 (as := [_, _, _, _]) rfl k9 rfl (by simp [zrf_cat, cat_int, cat_long]) (j := 2) (by omega) (c_X11_waits (by omega) eq12) ?_
      refine r_goto d_X11_asks_73 (tgt := 274) (by decide) ?_
      obtain rfl := Option.some.inj e
      exact g_vret d_X11_asks_274 rfl
  · rcases ite_or e with ⟨c13, e⟩ | ⟨c13, e⟩
    · refine r_tableIn d_X11_asks_6 (off := 127) (tgt := 133) (by rw [c13]; decide +kernel) (by rw [c13]; decide +kernel) (by rw [c13] <;> rfl) (by decide) ?_
      refine g_ald_n d_X11_asks_133 rfl g0 ?_
      refine r_iload_n d_X11_asks_134 rfl g1 ?_
      refine g_ald_n d_X11_asks_135 rfl g0 ?_
      refine g_getR d_X11_asks_136 (f := 1215) k1 fk_10_38 rfl rfl ?_
      refine r_iload_n d_X11_asks_139 rfl g2 ?_
      replace e := ckd e
      obtain ⟨k14, e⟩ := e
      replace e := ckd e
      obtain ⟨k15, e⟩ := e
      refine g_iald d_X11_asks_140 k14 k15 rfl ?_
      replace e := bd e
      obtain ⟨q16, eq16, e⟩ := e
      refine g_callV d_X11_asks_141 vk_10_354 (as := [_, _]) rfl k1 rfl (by simp [zrf_cat, cat_int, cat_long]) (j := 3) (by omega) (c_X11_takesSignal (by omega) eq16) ?_
      refine r_goto d_X11_asks_144 (tgt := 274) (by decide) ?_
      obtain rfl := Option.some.inj e
      exact g_vret d_X11_asks_274 rfl
    · rcases ite_or e with ⟨c17, e⟩ | ⟨c17, e⟩
      · refine r_tableIn d_X11_asks_6 (off := 141) (tgt := 147) (by rw [c17]; decide +kernel) (by rw [c17]; decide +kernel) (by rw [c17] <;> rfl) (by decide) ?_
        refine g_ald_n d_X11_asks_147 rfl g0 ?_
        refine r_iload_n d_X11_asks_148 rfl g1 ?_
        refine r_bipush d_X11_asks_149 (v := (6 : Int32)) (by decide +kernel) ?_
        refine g_ald_n d_X11_asks_151 rfl g0 ?_
        refine g_getR d_X11_asks_152 (f := 1220) k1 fk_10_54 rfl rfl ?_
        refine r_iload_n d_X11_asks_155 rfl g2 ?_
        replace e := ckd e
        obtain ⟨k18, e⟩ := e
        replace e := ckd e
        obtain ⟨k19, e⟩ := e
        refine g_iald d_X11_asks_156 k18 k19 rfl ?_
        refine r_iload_n d_X11_asks_157 rfl g3 ?_
        replace e := bd e
        obtain ⟨q20, eq20, e⟩ := e
        refine g_callV d_X11_asks_158 vk_10_339 (as := [_, _, _, _]) rfl k1 rfl (by simp [zrf_cat, cat_int, cat_long]) (j := 2) (by omega) (c_X11_own (by omega) eq20) ?_
        refine r_if_eq d_X11_asks_161 (tgt := 274) (by decide) (fun c21 => ?_) (fun c21 => ?_)
        · replace e := (if_pos c21).symm.trans e
          obtain rfl := Option.some.inj e
          exact g_vret d_X11_asks_274 rfl
        · replace e := (if_neg c21).symm.trans e
          refine g_ald_n d_X11_asks_164 rfl g0 ?_
          replace e := ckd e
          obtain ⟨k22, e⟩ := e
          refine g_getR d_X11_asks_165 (f := 1245) k22 fk_10_125 rfl rfl ?_
          refine r_bipush d_X11_asks_168 (v := (8 : Int32)) (by decide +kernel) ?_
          refine r_iload_n d_X11_asks_170 rfl g1 ?_
          refine r_imul d_X11_asks_171 ?_
          refine g_ald_n d_X11_asks_172 rfl g0 ?_
          refine g_getR d_X11_asks_173 (f := 1215) k22 fk_10_38 rfl rfl ?_
          refine r_iload_n d_X11_asks_176 rfl g2 ?_
          replace e := ckd e
          obtain ⟨k23, e⟩ := e
          replace e := ckd e
          obtain ⟨k24, e⟩ := e
          refine g_iald d_X11_asks_177 k23 k24 rfl ?_
          refine r_iadd d_X11_asks_178 ?_
          refine g_ald_n d_X11_asks_179 rfl g0 ?_
          refine g_getI d_X11_asks_180 (f := 1266) k22 fk_10_324 rfl rfl ?_
          replace e := ckd e
          obtain ⟨k25, e⟩ := e
          replace e := ckd e
          obtain ⟨k26, e⟩ := e
          refine g_iast d_X11_asks_183 k25 k26 ?_
          replace e := bhd e
          obtain ⟨_, rfl, e⟩ := e
          refine g_ald_n d_X11_asks_184 rfl g0 ?_
          refine r_dup d_X11_asks_185 (zrf_cat _) ?_
          refine g_getI d_X11_asks_186 (f := 1266) (tO_pE k22) fk_10_324 rfl rfl ?_
          refine r_iconst d_X11_asks_189 (v := (1 : Int32)) (by decide +kernel) ?_
          refine r_iadd d_X11_asks_190 ?_
          refine g_putI d_X11_asks_191 (f := 1266) (tO_pE k22) fk_10_324 rfl (Or.inl rfl) ⟨rfl, rfl⟩ ?_
          replace e := bhd e
          obtain ⟨_, rfl, e⟩ := e
          refine r_goto d_X11_asks_194 (tgt := 274) (by decide) ?_
          obtain rfl := Option.some.inj e
          exact g_vret d_X11_asks_274 rfl
      · rcases ite_or e with ⟨c29, e⟩ | ⟨c29, e⟩
        · refine r_tableIn d_X11_asks_6 (off := 191) (tgt := 197) (by rw [c29]; decide +kernel) (by rw [c29]; decide +kernel) (by rw [c29] <;> rfl) (by decide) ?_
          refine g_ald_n d_X11_asks_197 rfl g0 ?_
          refine r_iload_n d_X11_asks_198 rfl g1 ?_
          refine r_iload_n d_X11_asks_199 rfl g3 ?_
          refine g_ald_n d_X11_asks_200 rfl g0 ?_
          refine g_getR d_X11_asks_201 (f := 1215) k1 fk_10_38 rfl rfl ?_
          refine r_iload_n d_X11_asks_204 rfl g2 ?_
          replace e := ckd e
          obtain ⟨k30, e⟩ := e
          replace e := ckd e
          obtain ⟨k31, e⟩ := e
          refine g_iald d_X11_asks_205 k30 k31 rfl ?_
          replace e := bd e
          obtain ⟨q32, eq32, e⟩ := e
          refine g_callV d_X11_asks_206 vk_10_357 (as := [_, _, _]) rfl k1 rfl (by simp [zrf_cat, cat_int, cat_long]) (j := 3) (by omega) (c_X11_joins (by omega) eq32) ?_
          refine r_goto d_X11_asks_209 (tgt := 274) (by decide) ?_
          obtain rfl := Option.some.inj e
          exact g_vret d_X11_asks_274 rfl
        · rcases ite_or e with ⟨c33, e⟩ | ⟨c33, e⟩
          · refine r_tableIn d_X11_asks_6 (off := 70) (tgt := 76) (by rw [c33]; decide +kernel) (by rw [c33]; decide +kernel) (by rw [c33] <;> rfl) (by decide) ?_
            refine g_ald_n d_X11_asks_76 rfl g0 ?_
            refine r_iload_n d_X11_asks_77 rfl g1 ?_
            refine r_iconst d_X11_asks_78 (v := (4 : Int32)) (by decide +kernel) ?_
            refine g_ald_n d_X11_asks_79 rfl g0 ?_
            refine g_getI d_X11_asks_80 (f := 1201) k1 fk_10_283 rfl rfl ?_
            refine r_iload_n d_X11_asks_83 rfl g3 ?_
            refine r_if_ge d_X11_asks_84 (tgt := 91) (by decide) (fun c34 => ?_) (fun c34 => ?_)
            · replace e := (if_pos c34).symm.trans e
              refine r_iload_n d_X11_asks_91 rfl g3 ?_
              exact f_X11_asks_92_ok hj _ _ _ _ _ _ _ _ _ _ g0 g1 e
            · replace e := (if_neg c34).symm.trans e
              refine r_iconst d_X11_asks_87 (v := (0 : Int32)) (by decide +kernel) ?_
              refine r_goto d_X11_asks_88 (tgt := 92) (by decide) ?_
              exact f_X11_asks_92_ok hj _ _ _ _ _ _ _ _ _ _ g0 g1 e
          · rcases ite_or e with ⟨c35, e⟩ | ⟨c35, e⟩
            · refine r_tableIn d_X11_asks_6 (off := 206) (tgt := 212) (by rw [c35]; decide +kernel) (by rw [c35]; decide +kernel) (by rw [c35] <;> rfl) (by decide) ?_
              refine r_iload_n d_X11_asks_212 rfl g3 ?_
              refine r_iconst d_X11_asks_213 (v := (-1 : Int32)) (by decide +kernel) ?_
              refine r_icmp_ne d_X11_asks_214 (tgt := 229) (by decide) (fun c36 => ?_) (fun c36 => ?_)
              · replace e := (if_neg c36).symm.trans e
                refine r_iload_n d_X11_asks_229 rfl g3 ?_
                refine g_ald_n d_X11_asks_230 rfl g0 ?_
                refine g_getI d_X11_asks_231 (f := 1266) k1 fk_10_324 rfl rfl ?_
                replace e := bd e
                obtain ⟨q37, eq37, e⟩ := e
                refine g_callS d_X11_asks_234 sk_10_230 (as := [_, _]) rfl rfl (by simp [zrf_cat, cat_int, cat_long]) (j := 1) (by omega) (c_X11_in (by omega) eq37) ?_
                refine r_if_eq d_X11_asks_237 (tgt := 257) (by decide) (fun c38 => ?_) (fun c38 => ?_)
                · replace e := (if_pos c38).symm.trans e
                  refine r_iconst d_X11_asks_257 (v := (0 : Int32)) (by decide +kernel) ?_
                  refine s_istore d_X11_asks_258 (by decide) (fun L g5 gK => ?_)
                  refine r_goto d_X11_asks_260 (tgt := 274) (by decide) ?_
                  obtain rfl := Option.some.inj e
                  exact g_vret d_X11_asks_274 rfl
                · replace e := (if_neg c38).symm.trans e
                  exact f_X11_asks_240_ok hj _ _ _ _ _ _ _ g0 g1 g3 g4 e
              · replace e := (if_pos c36).symm.trans e
                refine g_ald_n d_X11_asks_217 rfl g0 ?_
                refine r_iload_n d_X11_asks_218 rfl g1 ?_
                replace e := bd e
                obtain ⟨q39, eq39, e⟩ := e
                refine g_callV d_X11_asks_219 vk_10_302 (as := [_]) rfl k1 rfl (by simp [zrf_cat, cat_int, cat_long]) (j := 3) (by omega) (c_X11_parent (by omega) eq39) ?_
                refine r_iconst d_X11_asks_222 (v := (-1 : Int32)) (by decide +kernel) ?_
                refine r_icmp_eq d_X11_asks_223 (tgt := 257) (by decide) (fun c40 => ?_) (fun c40 => ?_)
                · replace e := (if_pos c40).symm.trans e
                  refine r_iconst d_X11_asks_257 (v := (0 : Int32)) (by decide +kernel) ?_
                  refine s_istore d_X11_asks_258 (by decide) (fun L g5 gK => ?_)
                  refine r_goto d_X11_asks_260 (tgt := 274) (by decide) ?_
                  obtain rfl := Option.some.inj e
                  exact g_vret d_X11_asks_274 rfl
                · replace e := (if_neg c40).symm.trans e
                  refine r_goto d_X11_asks_226 (tgt := 240) (by decide) ?_
                  exact f_X11_asks_240_ok hj _ _ _ _ _ _ _ g0 g1 g3 g4 e
            · refine r_tableOut d_X11_asks_6 (tgt := 263) (by have := lv_neT (a := 6) c4 (by decide +kernel); have := lv_neT (a := 7) c13 (by decide +kernel); have := lv_neT (a := 8) c17 (by decide +kernel); have := lv_neT (a := 9) c29 (by decide +kernel); have := lv_neT (a := 10) c33 (by decide +kernel); have := lv_neT (a := 11) c35 (by decide +kernel); omega) (by decide) ?_
              refine g_ald_n d_X11_asks_263 rfl g0 ?_
              refine r_iload_n d_X11_asks_264 rfl g1 ?_
              refine r_bipush d_X11_asks_265 (v := (10 : Int32)) (by decide +kernel) ?_
              refine r_iload_n d_X11_asks_267 rfl g3 ?_
              refine r_iconst d_X11_asks_268 (v := (0 : Int32)) (by decide +kernel) ?_
              replace e := bd e
              obtain ⟨q41, eq41, e⟩ := e
              refine g_callV d_X11_asks_269 vk_10_339 (as := [_, _, _, _]) rfl k1 rfl (by simp [zrf_cat, cat_int, cat_long]) (j := 2) (by omega) (c_X11_own (by omega) eq41) ?_
              refine s_istore d_X11_asks_272 (by decide) (fun L g6 gK => ?_)
              obtain rfl := Option.some.inj e
              exact g_vret d_X11_asks_274 rfl

theorem c_X11_asks {G : Gd} {j : Nat} (hj : 4 ≤ j) {l0 : Nat} {l1 : Int32} {l2 : Int32} {l3 : Int32} {l4 : Int32} {h : Hp} {o : Hp} (e : f_X11_asks l0 l1 l2 l3 l4 h = some o) : Cal G j Y_X11_asks [zrf (l0), .int (l1), .int (l2), .int (l3), .int (l4)] h none o := Cal.of (n := 0) (I := false) (by first | exact Or.inl (by decide +kernel) | exact Or.inr (by decide +kernel)) (by decide) (by simp [lg_sl, zrf_cat, cat_int, cat_long]) (f_X11_asks_ok hj _ _ _ _ _ _ h o (by simp [lv_args, zlk, zrf_cat, cat_int, cat_long]) (by simp [lv_args, zlk, zrf_cat, cat_int, cat_long]) (by simp [lv_args, zlk, zrf_cat, cat_int, cat_long]) (by simp [lv_args, zlk, zrf_cat, cat_int, cat_long]) (by simp [lv_args, zlk, zrf_cat, cat_int, cat_long]) e)
def f_X11_valueOf (l0 : Nat) (l1 : Int32) (l2 : Int32) (l3 : Int32) (h : Hp) : Option (Int32 × Hp) := if (l2) = (0) then (some (l3, h)) else (ck (isO (h) (l0) 12) (ck (isO (h) (zR (h) 1245 (l0)) 22) (ck (inR ((((8 : Int32)) * (l1)) + (l3)) (zL (h) (zR (h) 1245 (l0)))) (some (zE (h) (zR (h) 1245 (l0)) ((((8 : Int32)) * (l1)) + (l3)).toNatClampNeg, h)))))
theorem f_X11_valueOf_ok {G : Gd} {d : Nat} (hj : 1 ≤ d) : ∀ (l0 : Nat) (l1 : Int32) (l2 : Int32) (l3 : Int32) (L : List (Nat × Value)) (h : Hp) (o : (Int32 × Hp)), zlk L 0 = some (zrf (l0)) → zlk L 1 = some (.int (l1)) → zlk L 2 = some (.int (l2)) → zlk L 3 = some (.int (l3)) → f_X11_valueOf l0 l1 l2 l3 h = some o → Ev G M_X11_valueOf d 0 L [] h (Ret Y_X11_valueOf (some (.int o.1)) o.2) := by
  intro l0 l1 l2 l3 L h o g0 g1 g2 g3 e
  unfold f_X11_valueOf at e
  refine r_iload_n d_X11_valueOf_0 rfl g2 ?_
  refine r_if_eq d_X11_valueOf_1 (tgt := 18) (by decide) (fun c1 => ?_) (fun c1 => ?_)
  · replace e := (if_pos c1).symm.trans e
    refine r_iload_n d_X11_valueOf_18 rfl g3 ?_
    obtain rfl := Option.some.inj e
    exact g_iret d_X11_valueOf_19 rfl rfl
  · replace e := (if_neg c1).symm.trans e
    refine g_ald_n d_X11_valueOf_4 rfl g0 ?_
    replace e := ckd e
    obtain ⟨k2, e⟩ := e
    refine g_getR d_X11_valueOf_5 (f := 1245) k2 fk_10_125 rfl rfl ?_
    refine r_bipush d_X11_valueOf_8 (v := (8 : Int32)) (by decide +kernel) ?_
    refine r_iload_n d_X11_valueOf_10 rfl g1 ?_
    refine r_imul d_X11_valueOf_11 ?_
    refine r_iload_n d_X11_valueOf_12 rfl g3 ?_
    refine r_iadd d_X11_valueOf_13 ?_
    replace e := ckd e
    obtain ⟨k3, e⟩ := e
    replace e := ckd e
    obtain ⟨k4, e⟩ := e
    refine g_iald d_X11_valueOf_14 k3 k4 rfl ?_
    refine r_goto d_X11_valueOf_15 (tgt := 19) (by decide) ?_
    obtain rfl := Option.some.inj e
    exact g_iret d_X11_valueOf_19 rfl rfl

theorem c_X11_valueOf {G : Gd} {j : Nat} (hj : 1 ≤ j) {l0 : Nat} {l1 : Int32} {l2 : Int32} {l3 : Int32} {h : Hp} {o : (Int32 × Hp)} (e : f_X11_valueOf l0 l1 l2 l3 h = some o) : Cal G j Y_X11_valueOf [zrf (l0), .int (l1), .int (l2), .int (l3)] h (some (.int o.1)) o.2 := Cal.of (n := 0) (I := false) (by first | exact Or.inl (by decide +kernel) | exact Or.inr (by decide +kernel)) (by decide) (by simp [lg_sl, zrf_cat, cat_int, cat_long]) (f_X11_valueOf_ok hj _ _ _ _ _ h o (by simp [lv_args, zlk, zrf_cat, cat_int, cat_long]) (by simp [lv_args, zlk, zrf_cat, cat_int, cat_long]) (by simp [lv_args, zlk, zrf_cat, cat_int, cat_long]) (by simp [lv_args, zlk, zrf_cat, cat_int, cat_long]) e)
theorem fk_10_315 : Fk "TaskWeaveModel" 315 1263 := ⟨by decide, by decide, by decide +kernel⟩
theorem vk_10_343 : Vk "TaskWeaveModel" 343 3 12 Y_X11_valueOf := ⟨yk_X11_valueOf, by decide +kernel, by decide +kernel, by decide +kernel, by decide⟩
theorem vk_10_347 : Vk "TaskWeaveModel" 347 4 12 Y_X11_asks := ⟨yk_X11_asks, by decide +kernel, by decide +kernel, by decide +kernel, by decide⟩
def f_X11_goesStep (l0 : Nat) (l1 : Int32) (h : Hp) : Option Hp := ck (isO (h) (l0) 12) (ck (isO (h) (zR (h) 1242 (l0)) 22) (ck (inR (l1) (zL (h) (zR (h) 1242 (l0)))) (bh (zE (h) (zR (h) 1242 (l0)) (l1).toNatClampNeg) (fun x4 => ck (isO (h) (zR (h) 1210 (l0)) 22) (ck (inR (x4) (zL (h) (zR (h) 1210 (l0)))) (if (zI (h) 1263 (l0)) = (zE (h) (zR (h) 1210 (l0)) (x4).toNatClampNeg) then ((f_X11_own (l0) (l1) ((10 : Int32)) ((0 : Int32)) ((0 : Int32)) (h)).bind (fun q87 => some (q87.2))) else (if (zI (h) 1267 (l0)) = ((200 : Int32)) then ((f_X11_own (l0) (l1) ((12 : Int32)) ((-1 : Int32)) ((0 : Int32)) (h)).bind (fun q86 => some (q86.2))) else (bh (pI (h) 1267 (l0) ((zI (h) 1267 (l0)) + ((1 : Int32)))) (fun h9 => ck (isO (h9) (zR (h9) 1209 (l0)) 22) (ck (inR (x4) (zL (h9) (zR (h9) 1209 (l0)))) (bh ((zE (h9) (zR (h9) 1209 (l0)) (x4).toNatClampNeg) + (zI (h9) 1263 (l0))) (fun x12 => bh (pI (h9) 1263 (l0) ((zI (h9) 1263 (l0)) + ((1 : Int32)))) (fun h13 => ck (isO (h13) (zR (h13) 1216 (l0)) 23) (ck (inR (x12) (zL (h13) (zR (h13) 1216 (l0)))) (ck (isO (h13) (zR (h13) 1217 (l0)) 22) (ck (inR (x12) (zL (h13) (zR (h13) 1217 (l0)))) ((f_X11_valueOf (l0) (l1) (zE (h13) (zR (h13) 1216 (l0)) (x12).toNatClampNeg) (zE (h13) (zR (h13) 1217 (l0)) (x12).toNatClampNeg) (h13)).bind (fun q18 => ck (isO (q18.2) (l0) 12) (ck (isO (q18.2) (zR (q18.2) 1218 (l0)) 23) (ck (inR (x12) (zL (q18.2) (zR (q18.2) 1218 (l0)))) (ck (isO (q18.2) (zR (q18.2) 1219 (l0)) 22) (ck (inR (x12) (zL (q18.2) (zR (q18.2) 1219 (l0)))) ((f_X11_valueOf (l0) (l1) (zE (q18.2) (zR (q18.2) 1218 (l0)) (x12).toNatClampNeg) (zE (q18.2) (zR (q18.2) 1219 (l0)) (x12).toNatClampNeg) (q18.2)).bind (fun q24 => ck (isO (q24.2) (l0) 12) (ck (isO (q24.2) (zR (q24.2) 1215 (l0)) 22) (ck (inR (x12) (zL (q24.2) (zR (q24.2) 1215 (l0)))) (bh ((((8 : Int32)) * (l1)) + (zE (q24.2) (zR (q24.2) 1215 (l0)) (x12).toNatClampNeg)) (fun x28 => ck (isO (q24.2) (zR (q24.2) 1214 (l0)) 22) (ck (inR (x12) (zL (q24.2) (zR (q24.2) 1214 (l0)))) (if (zE (q24.2) (zR (q24.2) 1214 (l0)) (x12).toNatClampNeg) = (0 : Int32) then (ck (isO (q24.2) (zR (q24.2) 1245 (l0)) 22) (ck (inR (x28) (zL (q24.2) (zR (q24.2) 1245 (l0)))) (bh (pE (q24.2) (zR (q24.2) 1245 (l0)) (x28).toNatClampNeg (q18.1)) (fun h34 => some (h34))))) else (if (zE (q24.2) (zR (q24.2) 1214 (l0)) (x12).toNatClampNeg) = (1 : Int32) then (ck (isO (q24.2) (zR (q24.2) 1245 (l0)) 22) (ck (inR (x28) (zL (q24.2) (zR (q24.2) 1245 (l0)))) (bh (pE (q24.2) (zR (q24.2) 1245 (l0)) (x28).toNatClampNeg ((q18.1) + (q24.1))) (fun h38 => some (h38))))) else (if (zE (q24.2) (zR (q24.2) 1214 (l0)) (x12).toNatClampNeg) = (2 : Int32) then (ck (isO (q24.2) (zR (q24.2) 1245 (l0)) 22) (ck (inR (x28) (zL (q24.2) (zR (q24.2) 1245 (l0)))) (bh (pE (q24.2) (zR (q24.2) 1245 (l0)) (x28).toNatClampNeg ((q18.1) - (q24.1))) (fun h42 => some (h42))))) else (if (zE (q24.2) (zR (q24.2) 1214 (l0)) (x12).toNatClampNeg) = (3 : Int32) then (ck (isO (q24.2) (zR (q24.2) 1245 (l0)) 22) (ck (inR (x28) (zL (q24.2) (zR (q24.2) 1245 (l0)))) (bh (pE (q24.2) (zR (q24.2) 1245 (l0)) (x28).toNatClampNeg ((q18.1) * (q24.1))) (fun h46 => some (h46))))) else (if (zE (q24.2) (zR (q24.2) 1214 (l0)) (x12).toNatClampNeg) = (4 : Int32) then (if (q24.1) ≤ (q18.1) then (ck (isO (q24.2) (zR (q24.2) 1245 (l0)) 22) (ck (inR (x28) (zL (q24.2) (zR (q24.2) 1245 (l0)))) (bh (pE (q24.2) (zR (q24.2) 1245 (l0)) (x28).toNatClampNeg ((0 : Int32))) (fun h51 => some (h51))))) else (ck (isO (q24.2) (zR (q24.2) 1245 (l0)) 22) (ck (inR (x28) (zL (q24.2) (zR (q24.2) 1245 (l0)))) (bh (pE (q24.2) (zR (q24.2) 1245 (l0)) (x28).toNatClampNeg ((1 : Int32))) (fun h54 => some (h54)))))) else (if (zE (q24.2) (zR (q24.2) 1214 (l0)) (x12).toNatClampNeg) = (5 : Int32) then (if (q18.1) = (q24.1) then (ck (isO (q24.2) (zR (q24.2) 1245 (l0)) 22) (ck (inR (x28) (zL (q24.2) (zR (q24.2) 1245 (l0)))) (bh (pE (q24.2) (zR (q24.2) 1245 (l0)) (x28).toNatClampNeg ((1 : Int32))) (fun h62 => some (h62))))) else (ck (isO (q24.2) (zR (q24.2) 1245 (l0)) 22) (ck (inR (x28) (zL (q24.2) (zR (q24.2) 1245 (l0)))) (bh (pE (q24.2) (zR (q24.2) 1245 (l0)) (x28).toNatClampNeg ((0 : Int32))) (fun h59 => some (h59)))))) else (if (zE (q24.2) (zR (q24.2) 1214 (l0)) (x12).toNatClampNeg) = (6 : Int32) then ((f_X11_asks (l0) (l1) (x12) (q18.1) (q24.1) (q24.2)).bind (fun q64 => some (q64))) else (if (zE (q24.2) (zR (q24.2) 1214 (l0)) (x12).toNatClampNeg) = (7 : Int32) then ((f_X11_asks (l0) (l1) (x12) (q18.1) (q24.1) (q24.2)).bind (fun q66 => some (q66))) else (if (zE (q24.2) (zR (q24.2) 1214 (l0)) (x12).toNatClampNeg) = (8 : Int32) then ((f_X11_asks (l0) (l1) (x12) (q18.1) (q24.1) (q24.2)).bind (fun q68 => some (q68))) else (if (zE (q24.2) (zR (q24.2) 1214 (l0)) (x12).toNatClampNeg) = (9 : Int32) then ((f_X11_asks (l0) (l1) (x12) (q18.1) (q24.1) (q24.2)).bind (fun q70 => some (q70))) else (if (zE (q24.2) (zR (q24.2) 1214 (l0)) (x12).toNatClampNeg) = (10 : Int32) then ((f_X11_asks (l0) (l1) (x12) (q18.1) (q24.1) (q24.2)).bind (fun q72 => some (q72))) else (if (zE (q24.2) (zR (q24.2) 1214 (l0)) (x12).toNatClampNeg) = (11 : Int32) then ((f_X11_asks (l0) (l1) (x12) (q18.1) (q24.1) (q24.2)).bind (fun q74 => some (q74))) else (if (zE (q24.2) (zR (q24.2) 1214 (l0)) (x12).toNatClampNeg) = (12 : Int32) then (if (q18.1) = (0) then (bh (pI (q24.2) 1263 (l0) (zI (q24.2) 1263 (l0))) (fun h77 => some (h77))) else (ck (isO (q24.2) (zR (q24.2) 1220 (l0)) 22) (ck (inR (x12) (zL (q24.2) (zR (q24.2) 1220 (l0)))) (bh (pI (q24.2) 1263 (l0) (zE (q24.2) (zR (q24.2) 1220 (l0)) (x12).toNatClampNeg)) (fun h80 => some (h80)))))) else (if (zE (q24.2) (zR (q24.2) 1214 (l0)) (x12).toNatClampNeg) = (13 : Int32) then (ck (isO (q24.2) (zR (q24.2) 1220 (l0)) 22) (ck (inR (x12) (zL (q24.2) (zR (q24.2) 1220 (l0)))) (bh (pI (q24.2) 1263 (l0) (zE (q24.2) (zR (q24.2) 1220 (l0)) (x12).toNatClampNeg)) (fun h84 => some (h84))))) else ((f_X11_asks (l0) (l1) (x12) (q18.1) (q24.1) (q24.2)).bind (fun q85 => some (q85))))))))))))))))))))))))))))))))))))))))))))))
theorem f_X11_goesStep_ok {G : Gd} {d : Nat} (hj : 5 ≤ d) : ∀ (l0 : Nat) (l1 : Int32) (L : List (Nat × Value)) (h : Hp) (o : Hp), zlk L 0 = some (zrf (l0)) → zlk L 1 = some (.int (l1)) → f_X11_goesStep l0 l1 h = some o → Ev G M_X11_goesStep d 0 L [] h (Ret Y_X11_goesStep none o) := by
  intro l0 l1 L h o g0 g1 e
  unfold f_X11_goesStep at e
  refine g_ald_n d_X11_goesStep_0 rfl g0 ?_
  replace e := ckd e
  obtain ⟨k1, e⟩ := e
  refine g_getR d_X11_goesStep_1 (f := 1242) k1 fk_10_116 rfl rfl ?_
  refine r_iload_n d_X11_goesStep_4 rfl g1 ?_
  replace e := ckd e
  obtain ⟨k2, e⟩ := e
  replace e := ckd e
  obtain ⟨k3, e⟩ := e
  refine g_iald d_X11_goesStep_5 k2 k3 rfl ?_
  replace e := bhd e
  obtain ⟨_, rfl, e⟩ := e
  refine s_istore_n d_X11_goesStep_6 rfl (by decide) (fun L g2 gK => ?_)
  replace g0 := gK _ _ (by decide) (Or.inr (zrf_cat _)) g0
  replace g1 := gK _ _ (by decide) (Or.inr rfl) g1
  refine g_ald_n d_X11_goesStep_7 rfl g0 ?_
  refine g_getI d_X11_goesStep_8 (f := 1263) k1 fk_10_315 rfl rfl ?_
  refine g_ald_n d_X11_goesStep_11 rfl g0 ?_
  refine g_getR d_X11_goesStep_12 (f := 1210) k1 fk_10_26 rfl rfl ?_
  refine r_iload_n d_X11_goesStep_15 rfl g2 ?_
  replace e := ckd e
  obtain ⟨k5, e⟩ := e
  replace e := ckd e
  obtain ⟨k6, e⟩ := e
  refine g_iald d_X11_goesStep_16 k5 k6 rfl ?_
  refine r_icmp_ne d_X11_goesStep_17 (tgt := 31) (by decide) (fun c7 => ?_) (fun c7 => ?_)
  · replace e := (if_neg c7).symm.trans e
    refine g_ald_n d_X11_goesStep_31 rfl g0 ?_
    refine g_getI d_X11_goesStep_32 (f := 1267) k1 fk_10_327 rfl rfl ?_
    refine r_sipush d_X11_goesStep_35 (v := (200 : Int32)) (by decide +kernel) ?_
    refine r_icmp_ne d_X11_goesStep_38 (tgt := 52) (by decide) (fun c8 => ?_) (fun c8 => ?_)
    · replace e := (if_neg c8).symm.trans e
      refine g_ald_n d_X11_goesStep_52 rfl g0 ?_
      refine r_dup d_X11_goesStep_53 (zrf_cat _) ?_
      refine g_getI d_X11_goesStep_54 (f := 1267) k1 fk_10_327 rfl rfl ?_
      refine r_iconst d_X11_goesStep_57 (v := (1 : Int32)) (by decide +kernel) ?_
      refine r_iadd d_X11_goesStep_58 ?_
      refine g_putI d_X11_goesStep_59 (f := 1267) k1 fk_10_327 rfl (Or.inl rfl) ⟨rfl, rfl⟩ ?_
      replace e := bhd e
      obtain ⟨_, rfl, e⟩ := e
      refine g_ald_n d_X11_goesStep_62 rfl g0 ?_
      refine g_getR d_X11_goesStep_63 (f := 1209) (tO_pI k1) fk_10_23 rfl rfl ?_
      refine r_iload_n d_X11_goesStep_66 rfl g2 ?_
      replace e := ckd e
      obtain ⟨k10, e⟩ := e
      replace e := ckd e
      obtain ⟨k11, e⟩ := e
      refine g_iald d_X11_goesStep_67 k10 k11 rfl ?_
      refine g_ald_n d_X11_goesStep_68 rfl g0 ?_
      refine g_getI d_X11_goesStep_69 (f := 1263) (tO_pI k1) fk_10_315 rfl rfl ?_
      refine r_iadd d_X11_goesStep_72 ?_
      replace e := bhd e
      obtain ⟨_, rfl, e⟩ := e
      refine s_istore_n d_X11_goesStep_73 rfl (by decide) (fun L g3 gK => ?_)
      replace g0 := gK _ _ (by decide) (Or.inr (zrf_cat _)) g0
      replace g1 := gK _ _ (by decide) (Or.inr rfl) g1
      refine g_ald_n d_X11_goesStep_74 rfl g0 ?_
      refine r_dup d_X11_goesStep_75 (zrf_cat _) ?_
      refine g_getI d_X11_goesStep_76 (f := 1263) (tO_pI k1) fk_10_315 rfl rfl ?_
      refine r_iconst d_X11_goesStep_79 (v := (1 : Int32)) (by decide +kernel) ?_
      refine r_iadd d_X11_goesStep_80 ?_
      refine g_putI d_X11_goesStep_81 (f := 1263) (tO_pI k1) fk_10_315 rfl (Or.inl rfl) ⟨rfl, rfl⟩ ?_
      replace e := bhd e
      obtain ⟨_, rfl, e⟩ := e
      refine g_ald_n d_X11_goesStep_84 rfl g0 ?_
      refine r_iload_n d_X11_goesStep_85 rfl g1 ?_
      refine g_ald_n d_X11_goesStep_86 rfl g0 ?_
      refine g_getR d_X11_goesStep_87 (f := 1216) (tO_pI (tO_pI k1)) fk_10_41 rfl rfl ?_
      refine r_iload_n d_X11_goesStep_90 rfl g3 ?_
      replace e := ckd e
      obtain ⟨k14, e⟩ := e
      replace e := ckd e
      obtain ⟨k15, e⟩ := e
      refine g_zald d_X11_goesStep_91 k14 k15 rfl ?_
      refine g_ald_n d_X11_goesStep_92 rfl g0 ?_
      refine g_getR d_X11_goesStep_93 (f := 1217) (tO_pI (tO_pI k1)) fk_10_45 rfl rfl ?_
      refine r_iload_n d_X11_goesStep_96 rfl g3 ?_
      replace e := ckd e
      obtain ⟨k16, e⟩ := e
      replace e := ckd e
      obtain ⟨k17, e⟩ := e
      refine g_iald d_X11_goesStep_97 k16 k17 rfl ?_
      replace e := bd e
      obtain ⟨q18, eq18, e⟩ := e
      refine g_callV d_X11_goesStep_98 vk_10_343 (as := [_, _, _]) rfl (tO_pI (tO_pI k1)) rfl (by simp [zrf_cat, cat_int, cat_long]) (j := 1) (by omega) (c_X11_valueOf (by omega) eq18) ?_
      refine s_istore d_X11_goesStep_101 (by decide) (fun L g4 gK => ?_)
      replace g0 := gK _ _ (by decide) (Or.inr (zrf_cat _)) g0
      replace g1 := gK _ _ (by decide) (Or.inr rfl) g1
      replace g3 := gK _ _ (by decide) (Or.inr rfl) g3
      refine g_ald_n d_X11_goesStep_103 rfl g0 ?_
      refine r_iload_n d_X11_goesStep_104 rfl g1 ?_
      refine g_ald_n d_X11_goesStep_105 rfl g0 ?_
      replace e := ckd e
      obtain ⟨k19, e⟩ := e
      refine g_getR d_X11_goesStep_106 (f := 1218) k19 fk_10_48 rfl rfl ?_
      refine r_iload_n d_X11_goesStep_109 rfl g3 ?_
      replace e := ckd e
      obtain ⟨k20, e⟩ := e
      replace e := ckd e
      obtain ⟨k21, e⟩ := e
      refine g_zald d_X11_goesStep_110 k20 k21 rfl ?_
      refine g_ald_n d_X11_goesStep_111 rfl g0 ?_
      refine g_getR d_X11_goesStep_112 (f := 1219) k19 fk_10_51 rfl rfl ?_
      refine r_iload_n d_X11_goesStep_115 rfl g3 ?_
      replace e := ckd e
      obtain ⟨k22, e⟩ := e
      replace e := ckd e
      obtain ⟨k23, e⟩ := e
      refine g_iald d_X11_goesStep_116 k22 k23 rfl ?_
      replace e := bd e
      obtain ⟨q24, eq24, e⟩ := e
      refine g_callV d_X11_goesStep_117 vk_10_343 (as := [_, _, _]) rfl k19 rfl (by simp [zrf_cat, cat_int, cat_long]) (j := 1) (by omega) (c_X11_valueOf (by omega) eq24) ?_
      refine s_istore d_X11_goesStep_120 (by decide) (fun L g5 gK => ?_)
      replace g0 := gK _ _ (by decide) (Or.inr (zrf_cat _)) g0
      replace g1 := gK _ _ (by decide) (Or.inr rfl) g1
      replace g3 := gK _ _ (by decide) (Or.inr rfl) g3
      replace g4 := gK _ _ (by decide) (Or.inr rfl) g4
      refine r_bipush d_X11_goesStep_122 (v := (8 : Int32)) (by decide +kernel) ?_
      refine r_iload_n d_X11_goesStep_124 rfl g1 ?_
      refine r_imul d_X11_goesStep_125 ?_
      refine g_ald_n d_X11_goesStep_126 rfl g0 ?_
      replace e := ckd e
      obtain ⟨k25, e⟩ := e
      refine g_getR d_X11_goesStep_127 (f := 1215) k25 fk_10_38 rfl rfl ?_
      refine r_iload_n d_X11_goesStep_130 rfl g3 ?_
      replace e := ckd e
      obtain ⟨k26, e⟩ := e
      replace e := ckd e
      obtain ⟨k27, e⟩ := e
      refine g_iald d_X11_goesStep_131 k26 k27 rfl ?_
      refine r_iadd d_X11_goesStep_132 ?_
      replace e := bhd e
      obtain ⟨_, rfl, e⟩ := e
      refine s_istore d_X11_goesStep_133 (by decide) (fun L g6 gK => ?_)
      replace g0 := gK _ _ (by decide) (Or.inr (zrf_cat _)) g0
      replace g1 := gK _ _ (by decide) (Or.inr rfl) g1
      replace g3 := gK _ _ (by decide) (Or.inr rfl) g3
      replace g4 := gK _ _ (by decide) (Or.inr rfl) g4
      replace g5 := gK _ _ (by decide) (Or.inr rfl) g5
      refine g_ald_n d_X11_goesStep_135 rfl g0 ?_
      refine g_getR d_X11_goesStep_136 (f := 1214) k25 fk_10_35 rfl rfl ?_
      refine r_iload_n d_X11_goesStep_139 rfl g3 ?_
      replace e := ckd e
      obtain ⟨k29, e⟩ := e
      replace e := ckd e
      obtain ⟨k30, e⟩ := e
      refine g_iald d_X11_goesStep_140 k29 k30 rfl ?_
      rcases ite_or e with ⟨c31, e⟩ | ⟨c31, e⟩
      · refine r_tableIn d_X11_goesStep_141 (off := 71) (tgt := 212) (by rw [c31]; decide +kernel) (by rw [c31]; decide +kernel) (by rw [c31] <;> rfl) (by decide) ?_
        refine g_ald_n d_X11_goesStep_212 rfl g0 ?_
        refine g_getR d_X11_goesStep_213 (f := 1245) k25 fk_10_125 rfl rfl ?_
        refine r_iload d_X11_goesStep_216 g6 ?_
        refine r_iload d_X11_goesStep_218 g4 ?_
        replace e := ckd e
        obtain ⟨k32, e⟩ := e
        replace e := ckd e
        obtain ⟨k33, e⟩ := e
        refine g_iast d_X11_goesStep_220 k32 k33 ?_
        replace e := bhd e
        obtain ⟨_, rfl, e⟩ := e
        refine r_goto d_X11_goesStep_221 (tgt := 361) (by decide) ?_
        obtain rfl := Option.some.inj e
        exact g_vret d_X11_goesStep_361 rfl
      · rcases ite_or e with ⟨c35, e⟩ | ⟨c35, e⟩
        · refine r_tableIn d_X11_goesStep_141 (off := 83) (tgt := 224) (by rw [c35]; decide +kernel) (by rw [c35]; decide +kernel) (by rw [c35] <;> rfl) (by decide) ?_
          refine g_ald_n d_X11_goesStep_224 rfl g0 ?_
          refine g_getR d_X11_goesStep_225 (f := 1245) k25 fk_10_125 rfl rfl ?_
          refine r_iload d_X11_goesStep_228 g6 ?_
          refine r_iload d_X11_goesStep_230 g4 ?_
          refine r_iload d_X11_goesStep_232 g5 ?_
          refine r_iadd d_X11_goesStep_234 ?_
          replace e := ckd e
          obtain ⟨k36, e⟩ := e
          replace e := ckd e
          obtain ⟨k37, e⟩ := e
          refine g_iast d_X11_goesStep_235 k36 k37 ?_
          replace e := bhd e
          obtain ⟨_, rfl, e⟩ := e
          refine r_goto d_X11_goesStep_236 (tgt := 361) (by decide) ?_
          obtain rfl := Option.some.inj e
          exact g_vret d_X11_goesStep_361 rfl
        · rcases ite_or e with ⟨c39, e⟩ | ⟨c39, e⟩
          · refine r_tableIn d_X11_goesStep_141 (off := 98) (tgt := 239) (by rw [c39]; decide +kernel) (by rw [c39]; decide +kernel) (by rw [c39] <;> rfl) (by decide) ?_
            refine g_ald_n d_X11_goesStep_239 rfl g0 ?_
            refine g_getR d_X11_goesStep_240 (f := 1245) k25 fk_10_125 rfl rfl ?_
            refine r_iload d_X11_goesStep_243 g6 ?_
            refine r_iload d_X11_goesStep_245 g4 ?_
            refine r_iload d_X11_goesStep_247 g5 ?_
            refine r_isub d_X11_goesStep_249 ?_
            replace e := ckd e
            obtain ⟨k40, e⟩ := e
            replace e := ckd e
            obtain ⟨k41, e⟩ := e
            refine g_iast d_X11_goesStep_250 k40 k41 ?_
            replace e := bhd e
            obtain ⟨_, rfl, e⟩ := e
            refine r_goto d_X11_goesStep_251 (tgt := 361) (by decide) ?_
            obtain rfl := Option.some.inj e
            exact g_vret d_X11_goesStep_361 rfl
          · rcases ite_or e with ⟨c43, e⟩ | ⟨c43, e⟩
            · refine r_tableIn d_X11_goesStep_141 (off := 113) (tgt := 254) (by rw [c43]; decide +kernel) (by rw [c43]; decide +kernel) (by rw [c43] <;> rfl) (by decide) ?_
              refine g_ald_n d_X11_goesStep_254 rfl g0 ?_
              refine g_getR d_X11_goesStep_255 (f := 1245) k25 fk_10_125 rfl rfl ?_
              refine r_iload d_X11_goesStep_258 g6 ?_
              refine r_iload d_X11_goesStep_260 g4 ?_
              refine r_iload d_X11_goesStep_262 g5 ?_
              refine r_imul d_X11_goesStep_264 ?_
              replace e := ckd e
              obtain ⟨k44, e⟩ := e
              replace e := ckd e
              obtain ⟨k45, e⟩ := e
              refine g_iast d_X11_goesStep_265 k44 k45 ?_
              replace e := bhd e
              obtain ⟨_, rfl, e⟩ := e
              refine r_goto d_X11_goesStep_266 (tgt := 361) (by decide) ?_
              obtain rfl := Option.some.inj e
              exact g_vret d_X11_goesStep_361 rfl
            · rcases ite_or e with ⟨c47, e⟩ | ⟨c47, e⟩
              · refine r_tableIn d_X11_goesStep_141 (off := 128) (tgt := 269) (by rw [c47]; decide +kernel) (by rw [c47]; decide +kernel) (by rw [c47] <;> rfl) (by decide) ?_
                refine g_ald_n d_X11_goesStep_269 rfl g0 ?_
                refine g_getR d_X11_goesStep_270 (f := 1245) k25 fk_10_125 rfl rfl ?_
                refine r_iload d_X11_goesStep_273 g6 ?_
                refine r_iload d_X11_goesStep_275 g4 ?_
                refine r_iload d_X11_goesStep_277 g5 ?_
                refine r_icmp_ge d_X11_goesStep_279 (tgt := 286) (by decide) (fun c48 => ?_) (fun c48 => ?_)
                · replace e := (if_pos c48).symm.trans e
                  refine r_iconst d_X11_goesStep_286 (v := (0 : Int32)) (by decide +kernel) ?_
                  replace e := ckd e
                  obtain ⟨k49, e⟩ := e
                  replace e := ckd e
                  obtain ⟨k50, e⟩ := e
                  refine g_iast d_X11_goesStep_287 k49 k50 ?_
                  replace e := bhd e
                  obtain ⟨_, rfl, e⟩ := e
                  refine r_goto d_X11_goesStep_288 (tgt := 361) (by decide) ?_
                  obtain rfl := Option.some.inj e
                  exact g_vret d_X11_goesStep_361 rfl
                · replace e := (if_neg c48).symm.trans e
                  refine r_iconst d_X11_goesStep_282 (v := (1 : Int32)) (by decide +kernel) ?_
                  refine r_goto d_X11_goesStep_283 (tgt := 287) (by decide) ?_
                  replace e := ckd e
                  obtain ⟨k52, e⟩ := e
                  replace e := ckd e
                  obtain ⟨k53, e⟩ := e
                  refine g_iast d_X11_goesStep_287 k52 k53 ?_
                  replace e := bhd e
                  obtain ⟨_, rfl, e⟩ := e
                  refine r_goto d_X11_goesStep_288 (tgt := 361) (by decide) ?_
                  obtain rfl := Option.some.inj e
                  exact g_vret d_X11_goesStep_361 rfl
              · rcases ite_or e with ⟨c55, e⟩ | ⟨c55, e⟩
                · refine r_tableIn d_X11_goesStep_141 (off := 150) (tgt := 291) (by rw [c55]; decide +kernel) (by rw [c55]; decide +kernel) (by rw [c55] <;> rfl) (by decide) ?_
                  refine g_ald_n d_X11_goesStep_291 rfl g0 ?_
                  refine g_getR d_X11_goesStep_292 (f := 1245) k25 fk_10_125 rfl rfl ?_
                  refine r_iload d_X11_goesStep_295 g6 ?_
                  refine r_iload d_X11_goesStep_297 g4 ?_
                  refine r_iload d_X11_goesStep_299 g5 ?_
                  refine r_icmp_ne d_X11_goesStep_301 (tgt := 308) (by decide) (fun c56 => ?_) (fun c56 => ?_)
                  · replace e := (if_neg c56).symm.trans e
                    refine r_iconst d_X11_goesStep_308 (v := (0 : Int32)) (by decide +kernel) ?_
                    replace e := ckd e
                    obtain ⟨k57, e⟩ := e
                    replace e := ckd e
                    obtain ⟨k58, e⟩ := e
                    refine g_iast d_X11_goesStep_309 k57 k58 ?_
                    replace e := bhd e
                    obtain ⟨_, rfl, e⟩ := e
                    refine r_goto d_X11_goesStep_310 (tgt := 361) (by decide) ?_
                    obtain rfl := Option.some.inj e
                    exact g_vret d_X11_goesStep_361 rfl
                  · replace e := (if_pos c56).symm.trans e
                    refine r_iconst d_X11_goesStep_304 (v := (1 : Int32)) (by decide +kernel) ?_
                    refine r_goto d_X11_goesStep_305 (tgt := 309) (by decide) ?_
                    replace e := ckd e
                    obtain ⟨k60, e⟩ := e
                    replace e := ckd e
                    obtain ⟨k61, e⟩ := e
                    refine g_iast d_X11_goesStep_309 k60 k61 ?_
                    replace e := bhd e
                    obtain ⟨_, rfl, e⟩ := e
                    refine r_goto d_X11_goesStep_310 (tgt := 361) (by decide) ?_
                    obtain rfl := Option.some.inj e
                    exact g_vret d_X11_goesStep_361 rfl
                · rcases ite_or e with ⟨c63, e⟩ | ⟨c63, e⟩
                  · refine r_tableIn d_X11_goesStep_141 (off := 210) (tgt := 351) (by rw [c63]; decide +kernel) (by rw [c63]; decide +kernel) (by rw [c63] <;> rfl) (by decide) ?_
                    refine g_ald_n d_X11_goesStep_351 rfl g0 ?_
                    refine r_iload_n d_X11_goesStep_352 rfl g1 ?_
                    refine r_iload_n d_X11_goesStep_353 rfl g3 ?_
                    refine r_iload d_X11_goesStep_354 g4 ?_
                    refine r_iload d_X11_goesStep_356 g5 ?_
                    replace e := bd e
                    obtain ⟨q64, eq64, e⟩ := e
                    refine g_callV d_X11_goesStep_358 vk_10_347 (as := [_, _, _, _]) rfl k25 rfl (by simp [zrf_cat, cat_int, cat_long]) (j := 4) (by omega) (c_X11_asks (by omega) eq64) ?_
                    obtain rfl := Option.some.inj e
                    exact g_vret d_X11_goesStep_361 rfl
                  · rcases ite_or e with ⟨c65, e⟩ | ⟨c65, e⟩
                    · refine r_tableIn d_X11_goesStep_141 (off := 210) (tgt := 351) (by rw [c65]; decide +kernel) (by rw [c65]; decide +kernel) (by rw [c65] <;> rfl) (by decide) ?_
                      refine g_ald_n d_X11_goesStep_351 rfl g0 ?_
                      refine r_iload_n d_X11_goesStep_352 rfl g1 ?_
                      refine r_iload_n d_X11_goesStep_353 rfl g3 ?_
                      refine r_iload d_X11_goesStep_354 g4 ?_
                      refine r_iload d_X11_goesStep_356 g5 ?_
                      replace e := bd e
                      obtain ⟨q66, eq66, e⟩ := e
                      refine g_callV d_X11_goesStep_358 vk_10_347 (as := [_, _, _, _]) rfl k25 rfl (by simp [zrf_cat, cat_int, cat_long]) (j := 4) (by omega) (c_X11_asks (by omega) eq66) ?_
                      obtain rfl := Option.some.inj e
                      exact g_vret d_X11_goesStep_361 rfl
                    · rcases ite_or e with ⟨c67, e⟩ | ⟨c67, e⟩
                      · refine r_tableIn d_X11_goesStep_141 (off := 210) (tgt := 351) (by rw [c67]; decide +kernel) (by rw [c67]; decide +kernel) (by rw [c67] <;> rfl) (by decide) ?_
                        refine g_ald_n d_X11_goesStep_351 rfl g0 ?_
                        refine r_iload_n d_X11_goesStep_352 rfl g1 ?_
                        refine r_iload_n d_X11_goesStep_353 rfl g3 ?_
                        refine r_iload d_X11_goesStep_354 g4 ?_
                        refine r_iload d_X11_goesStep_356 g5 ?_
                        replace e := bd e
                        obtain ⟨q68, eq68, e⟩ := e
                        refine g_callV d_X11_goesStep_358 vk_10_347 (as := [_, _, _, _]) rfl k25 rfl (by simp [zrf_cat, cat_int, cat_long]) (j := 4) (by omega) (c_X11_asks (by omega) eq68) ?_
                        obtain rfl := Option.some.inj e
                        exact g_vret d_X11_goesStep_361 rfl
                      · rcases ite_or e with ⟨c69, e⟩ | ⟨c69, e⟩
                        · refine r_tableIn d_X11_goesStep_141 (off := 210) (tgt := 351) (by rw [c69]; decide +kernel) (by rw [c69]; decide +kernel) (by rw [c69] <;> rfl) (by decide) ?_
                          refine g_ald_n d_X11_goesStep_351 rfl g0 ?_
                          refine r_iload_n d_X11_goesStep_352 rfl g1 ?_
                          refine r_iload_n d_X11_goesStep_353 rfl g3 ?_
                          refine r_iload d_X11_goesStep_354 g4 ?_
                          refine r_iload d_X11_goesStep_356 g5 ?_
                          replace e := bd e
                          obtain ⟨q70, eq70, e⟩ := e
                          refine g_callV d_X11_goesStep_358 vk_10_347 (as := [_, _, _, _]) rfl k25 rfl (by simp [zrf_cat, cat_int, cat_long]) (j := 4) (by omega) (c_X11_asks (by omega) eq70) ?_
                          obtain rfl := Option.some.inj e
                          exact g_vret d_X11_goesStep_361 rfl
                        · rcases ite_or e with ⟨c71, e⟩ | ⟨c71, e⟩
                          · refine r_tableIn d_X11_goesStep_141 (off := 210) (tgt := 351) (by rw [c71]; decide +kernel) (by rw [c71]; decide +kernel) (by rw [c71] <;> rfl) (by decide) ?_
                            refine g_ald_n d_X11_goesStep_351 rfl g0 ?_
                            refine r_iload_n d_X11_goesStep_352 rfl g1 ?_
                            refine r_iload_n d_X11_goesStep_353 rfl g3 ?_
                            refine r_iload d_X11_goesStep_354 g4 ?_
                            refine r_iload d_X11_goesStep_356 g5 ?_
                            replace e := bd e
                            obtain ⟨q72, eq72, e⟩ := e
                            refine g_callV d_X11_goesStep_358 vk_10_347 (as := [_, _, _, _]) rfl k25 rfl (by simp [zrf_cat, cat_int, cat_long]) (j := 4) (by omega) (c_X11_asks (by omega) eq72) ?_
                            obtain rfl := Option.some.inj e
                            exact g_vret d_X11_goesStep_361 rfl
                          · rcases ite_or e with ⟨c73, e⟩ | ⟨c73, e⟩
                            · refine r_tableIn d_X11_goesStep_141 (off := 210) (tgt := 351) (by rw [c73]; decide +kernel) (by rw [c73]; decide +kernel) (by rw [c73] <;> rfl) (by decide) ?_
                              refine g_ald_n d_X11_goesStep_351 rfl g0 ?_
                              refine r_iload_n d_X11_goesStep_352 rfl g1 ?_
                              refine r_iload_n d_X11_goesStep_353 rfl g3 ?_
                              refine r_iload d_X11_goesStep_354 g4 ?_
                              refine r_iload d_X11_goesStep_356 g5 ?_
                              replace e := bd e
                              obtain ⟨q74, eq74, e⟩ := e
                              refine g_callV d_X11_goesStep_358 vk_10_347 (as := [_, _, _, _]) rfl k25 rfl (by simp [zrf_cat, cat_int, cat_long]) (j := 4) (by omega) (c_X11_asks (by omega) eq74) ?_
                              obtain rfl := Option.some.inj e
                              exact g_vret d_X11_goesStep_361 rfl
                            · rcases ite_or e with ⟨c75, e⟩ | ⟨c75, e⟩
                              · refine r_tableIn d_X11_goesStep_141 (off := 172) (tgt := 313) (by rw [c75]; decide +kernel) (by rw [c75]; decide +kernel) (by rw [c75] <;> rfl) (by decide) ?_
                                refine g_ald_n d_X11_goesStep_313 rfl g0 ?_
                                refine r_iload d_X11_goesStep_314 g4 ?_
                                refine r_if_eq d_X11_goesStep_316 (tgt := 328) (by decide) (fun c76 => ?_) (fun c76 => ?_)
                                · replace e := (if_pos c76).symm.trans e
                                  refine g_ald_n d_X11_goesStep_328 rfl g0 ?_
                                  refine g_getI d_X11_goesStep_329 (f := 1263) k25 fk_10_315 rfl rfl ?_
                                  refine g_putI d_X11_goesStep_332 (f := 1263) k25 fk_10_315 rfl (Or.inl rfl) ⟨rfl, rfl⟩ ?_
                                  replace e := bhd e
                                  obtain ⟨_, rfl, e⟩ := e
                                  refine r_goto d_X11_goesStep_335 (tgt := 361) (by decide) ?_
                                  obtain rfl := Option.some.inj e
                                  exact g_vret d_X11_goesStep_361 rfl
                                · replace e := (if_neg c76).symm.trans e
                                  refine g_ald_n d_X11_goesStep_319 rfl g0 ?_
                                  refine g_getR d_X11_goesStep_320 (f := 1220) k25 fk_10_54 rfl rfl ?_
                                  refine r_iload_n d_X11_goesStep_323 rfl g3 ?_
                                  replace e := ckd e
                                  obtain ⟨k78, e⟩ := e
                                  replace e := ckd e
                                  obtain ⟨k79, e⟩ := e
                                  refine g_iald d_X11_goesStep_324 k78 k79 rfl ?_
                                  refine r_goto d_X11_goesStep_325 (tgt := 332) (by decide) ?_
                                  refine g_putI d_X11_goesStep_332 (f := 1263) k25 fk_10_315 rfl (Or.inl rfl) ⟨rfl, rfl⟩ ?_
                                  replace e := bhd e
                                  obtain ⟨_, rfl, e⟩ := e
                                  refine r_goto d_X11_goesStep_335 (tgt := 361) (by decide) ?_
                                  obtain rfl := Option.some.inj e
                                  exact g_vret d_X11_goesStep_361 rfl
                              · rcases ite_or e with ⟨c81, e⟩ | ⟨c81, e⟩
                                · refine r_tableIn d_X11_goesStep_141 (off := 197) (tgt := 338) (by rw [c81]; decide +kernel) (by rw [c81]; decide +kernel) (by rw [c81] <;> rfl) (by decide) ?_
                                  refine g_ald_n d_X11_goesStep_338 rfl g0 ?_
                                  refine g_ald_n d_X11_goesStep_339 rfl g0 ?_
                                  refine g_getR d_X11_goesStep_340 (f := 1220) k25 fk_10_54 rfl rfl ?_
                                  refine r_iload_n d_X11_goesStep_343 rfl g3 ?_
                                  replace e := ckd e
                                  obtain ⟨k82, e⟩ := e
                                  replace e := ckd e
                                  obtain ⟨k83, e⟩ := e
                                  refine g_iald d_X11_goesStep_344 k82 k83 rfl ?_
                                  refine g_putI d_X11_goesStep_345 (f := 1263) k25 fk_10_315 rfl (Or.inl rfl) ⟨rfl, rfl⟩ ?_
                                  replace e := bhd e
                                  obtain ⟨_, rfl, e⟩ := e
                                  refine r_goto d_X11_goesStep_348 (tgt := 361) (by decide) ?_
                                  obtain rfl := Option.some.inj e
                                  exact g_vret d_X11_goesStep_361 rfl
                                · refine r_tableOut d_X11_goesStep_141 (tgt := 351) (by have := lv_neT (a := 0) c31 (by decide +kernel); have := lv_neT (a := 1) c35 (by decide +kernel); have := lv_neT (a := 2) c39 (by decide +kernel); have := lv_neT (a := 3) c43 (by decide +kernel); have := lv_neT (a := 4) c47 (by decide +kernel); have := lv_neT (a := 5) c55 (by decide +kernel); have := lv_neT (a := 6) c63 (by decide +kernel); have := lv_neT (a := 7) c65 (by decide +kernel); have := lv_neT (a := 8) c67 (by decide +kernel); have := lv_neT (a := 9) c69 (by decide +kernel); have := lv_neT (a := 10) c71 (by decide +kernel); have := lv_neT (a := 11) c73 (by decide +kernel); have := lv_neT (a := 12) c75 (by decide +kernel); have := lv_neT (a := 13) c81 (by decide +kernel); omega) (by decide) ?_
                                  refine g_ald_n d_X11_goesStep_351 rfl g0 ?_
                                  refine r_iload_n d_X11_goesStep_352 rfl g1 ?_
                                  refine r_iload_n d_X11_goesStep_353 rfl g3 ?_
                                  refine r_iload d_X11_goesStep_354 g4 ?_
                                  refine r_iload d_X11_goesStep_356 g5 ?_
                                  replace e := bd e
                                  obtain ⟨q85, eq85, e⟩ := e
                                  refine g_callV d_X11_goesStep_358 vk_10_347 (as := [_, _, _, _]) rfl k25 rfl (by simp [zrf_cat, cat_int, cat_long]) (j := 4) (by omega) (c_X11_asks (by omega) eq85) ?_
                                  obtain rfl := Option.some.inj e
                                  exact g_vret d_X11_goesStep_361 rfl
    · replace e := (if_pos c8).symm.trans e
      refine g_ald_n d_X11_goesStep_41 rfl g0 ?_
      refine r_iload_n d_X11_goesStep_42 rfl g1 ?_
      refine r_bipush d_X11_goesStep_43 (v := (12 : Int32)) (by decide +kernel) ?_
      refine r_iconst d_X11_goesStep_45 (v := (-1 : Int32)) (by decide +kernel) ?_
      refine r_iconst d_X11_goesStep_46 (v := (0 : Int32)) (by decide +kernel) ?_
      replace e := bd e
      obtain ⟨q86, eq86, e⟩ := e
      refine g_callV d_X11_goesStep_47 vk_10_339 (as := [_, _, _, _]) rfl k1 rfl (by simp [zrf_cat, cat_int, cat_long]) (j := 2) (by omega) (c_X11_own (by omega) eq86) ?_
      refine s_istore_n d_X11_goesStep_50 rfl (by decide) (fun L g3 gK => ?_)
      obtain rfl := Option.some.inj e
      exact g_vret d_X11_goesStep_51 rfl
  · replace e := (if_pos c7).symm.trans e
    refine g_ald_n d_X11_goesStep_20 rfl g0 ?_
    refine r_iload_n d_X11_goesStep_21 rfl g1 ?_
    refine r_bipush d_X11_goesStep_22 (v := (10 : Int32)) (by decide +kernel) ?_
    refine r_iconst d_X11_goesStep_24 (v := (0 : Int32)) (by decide +kernel) ?_
    refine r_iconst d_X11_goesStep_25 (v := (0 : Int32)) (by decide +kernel) ?_
    replace e := bd e
    obtain ⟨q87, eq87, e⟩ := e
    refine g_callV d_X11_goesStep_26 vk_10_339 (as := [_, _, _, _]) rfl k1 rfl (by simp [zrf_cat, cat_int, cat_long]) (j := 2) (by omega) (c_X11_own (by omega) eq87) ?_
    refine s_istore_n d_X11_goesStep_29 rfl (by decide) (fun L g3 gK => ?_)
    obtain rfl := Option.some.inj e
    exact g_vret d_X11_goesStep_30 rfl

theorem c_X11_goesStep {G : Gd} {j : Nat} (hj : 5 ≤ j) {l0 : Nat} {l1 : Int32} {h : Hp} {o : Hp} (e : f_X11_goesStep l0 l1 h = some o) : Cal G j Y_X11_goesStep [zrf (l0), .int (l1)] h none o := Cal.of (n := 0) (I := false) (by first | exact Or.inl (by decide +kernel) | exact Or.inr (by decide +kernel)) (by decide) (by simp [lg_sl, zrf_cat, cat_int, cat_long]) (f_X11_goesStep_ok hj _ _ _ h o (by simp [lv_args, zlk, zrf_cat, cat_int, cat_long]) (by simp [lv_args, zlk, zrf_cat, cat_int, cat_long]) e)
def f_X11_signals_33 (K5 : Nat → Int32 → Int32 → Int32 → Int32 → Hp → Option (Int32 × Hp)) (s0 : Int32) (s1 : Int32) (l0 : Nat) (l1 : Int32) (l2 : Int32) (l4 : Int32) (h : Hp) : Option (Int32 × Hp) := bh ((s0) + (s1)) (fun x7 => bh ((l4) + (1 : Int32)) (fun x8 => K5 (l0) (l1) (l2) (x7) (x8) (h)))
theorem f_X11_signals_33_ok {G : Gd} {d : Nat} (K5 : Nat → Int32 → Int32 → Int32 → Int32 → Hp → Option (Int32 × Hp)) (hj : 2 ≤ d) (hK5 : ∀ (l0 : Nat) (l1 : Int32) (l2 : Int32) (l3 : Int32) (l4 : Int32) (L : List (Nat × Value)) (h : Hp) (o : (Int32 × Hp)), zlk L 0 = some (zrf (l0)) → zlk L 1 = some (.int (l1)) → zlk L 2 = some (.int (l2)) → zlk L 3 = some (.int (l3)) → zlk L 4 = some (.int (l4)) → K5 l0 l1 l2 l3 l4 h = some o → Ev G M_X11_signals d 5 L [] h (Ret Y_X11_signals (some (.int o.1)) o.2)) : ∀ (s0 : Int32) (s1 : Int32) (l0 : Nat) (l1 : Int32) (l2 : Int32) (l4 : Int32) (L : List (Nat × Value)) (h : Hp) (o : (Int32 × Hp)), zlk L 0 = some (zrf (l0)) → zlk L 1 = some (.int (l1)) → zlk L 2 = some (.int (l2)) → zlk L 4 = some (.int (l4)) → f_X11_signals_33 K5 s0 s1 l0 l1 l2 l4 h = some o → Ev G M_X11_signals d 33 L [.int (s1), .int (s0)] h (Ret Y_X11_signals (some (.int o.1)) o.2) := by
  intro s0 s1 l0 l1 l2 l4 L h o g0 g1 g2 g4 e
  unfold f_X11_signals_33 at e
  refine r_iadd d_X11_signals_33 ?_
  replace e := bhd e
  obtain ⟨_, rfl, e⟩ := e
  refine s_istore_n d_X11_signals_34 rfl (by decide) (fun L g3 gK => ?_)
  replace g0 := gK _ _ (by decide) (Or.inr (zrf_cat _)) g0
  replace g1 := gK _ _ (by decide) (Or.inr rfl) g1
  replace g2 := gK _ _ (by decide) (Or.inr rfl) g2
  replace g4 := gK _ _ (by decide) (Or.inr rfl) g4
  replace e := bhd e
  obtain ⟨_, rfl, e⟩ := e
  refine s_iinc d_X11_signals_35 g4 (w := (1 : Int32)) (by decide +kernel) (by decide) (fun L g4 gK => ?_)
  replace g0 := gK _ _ (by decide) (Or.inr (zrf_cat _)) g0
  replace g1 := gK _ _ (by decide) (Or.inr rfl) g1
  replace g2 := gK _ _ (by decide) (Or.inr rfl) g2
  replace g3 := gK _ _ (by decide) (Or.inr rfl) g3
  refine r_goto d_X11_signals_38 (tgt := 5) (by decide) ?_
  exact hK5 _ _ _ _ _ _ _ _ g0 g1 g2 g3 g4 e

def f_X11_signals_5 : Nat → Nat → Int32 → Int32 → Int32 → Int32 → Hp → Option (Int32 × Hp)
  | 0, _, _, _, _, _, _ => none
  | n + 1, l0, l1, l2, l3, l4, h => if (l2) ≤ (l4) then (some (l3, h)) else (ck (isO (h) (l0) 12) ((f_X11_event (l0) (l1) (l4) (h)).bind (fun q2 => ck (isO (q2.2) (l0) 12) ((f_X11_kindOf (l0) (q2.1) (q2.2)).bind (fun q4 => if (q4.1) = ((8 : Int32)) then (f_X11_signals_33 (f_X11_signals_5 n) (l3) ((1 : Int32)) (l0) (l1) (l2) (l4) (q4.2)) else (f_X11_signals_33 (f_X11_signals_5 n) (l3) ((0 : Int32)) (l0) (l1) (l2) (l4) (q4.2)))))))
theorem f_X11_signals_5_ok {G : Gd} {d : Nat} (hj : 2 ≤ d) : ∀ (n : Nat) (l0 : Nat) (l1 : Int32) (l2 : Int32) (l3 : Int32) (l4 : Int32) (L : List (Nat × Value)) (h : Hp) (o : (Int32 × Hp)), zlk L 0 = some (zrf (l0)) → zlk L 1 = some (.int (l1)) → zlk L 2 = some (.int (l2)) → zlk L 3 = some (.int (l3)) → zlk L 4 = some (.int (l4)) → f_X11_signals_5 n l0 l1 l2 l3 l4 h = some o → Ev G M_X11_signals d 5 L [] h (Ret Y_X11_signals (some (.int o.1)) o.2) := by
  intro n
  induction n with
  | zero =>
    intro l0 l1 l2 l3 l4 L h o g0 g1 g2 g3 g4 e
    cases e
  | succ n ih =>
    intro l0 l1 l2 l3 l4 L h o g0 g1 g2 g3 g4 e
    unfold f_X11_signals_5 at e
    refine r_iload d_X11_signals_5 g4 ?_
    refine r_iload_n d_X11_signals_7 rfl g2 ?_
    refine r_icmp_ge d_X11_signals_8 (tgt := 41) (by decide) (fun c1 => ?_) (fun c1 => ?_)
    · replace e := (if_pos c1).symm.trans e
      refine r_iload_n d_X11_signals_41 rfl g3 ?_
      obtain rfl := Option.some.inj e
      exact g_iret d_X11_signals_42 rfl rfl
    · replace e := (if_neg c1).symm.trans e
      refine r_iload_n d_X11_signals_11 rfl g3 ?_
      refine g_ald_n d_X11_signals_12 rfl g0 ?_
      refine g_ald_n d_X11_signals_13 rfl g0 ?_
      refine r_iload_n d_X11_signals_14 rfl g1 ?_
      refine r_iload d_X11_signals_15 g4 ?_
      replace e := ckd e
      obtain ⟨k3, e⟩ := e
      replace e := bd e
      obtain ⟨q2, eq2, e⟩ := e
      refine g_callV d_X11_signals_17 vk_10_305 (as := [_, _]) rfl k3 rfl (by simp [zrf_cat, cat_int, cat_long]) (j := 1) (by omega) (c_X11_event (by omega) eq2) ?_
      replace e := ckd e
      obtain ⟨k5, e⟩ := e
      replace e := bd e
      obtain ⟨q4, eq4, e⟩ := e
      refine g_callV d_X11_signals_20 vk_10_286 (as := [_]) rfl k5 rfl (by simp [zrf_cat, cat_int, cat_long]) (j := 1) (by omega) (c_X11_kindOf (by omega) eq4) ?_
      refine r_bipush d_X11_signals_23 (v := (8 : Int32)) (by decide +kernel) ?_
      refine r_icmp_ne d_X11_signals_25 (tgt := 32) (by decide) (fun c6 => ?_) (fun c6 => ?_)
      · replace e := (if_neg c6).symm.trans e
        refine r_iconst d_X11_signals_32 (v := (0 : Int32)) (by decide +kernel) ?_
        exact f_X11_signals_33_ok _ hj ih _ _ _ _ _ _ _ _ _ g0 g1 g2 g4 e
      · replace e := (if_pos c6).symm.trans e
        refine r_iconst d_X11_signals_28 (v := (1 : Int32)) (by decide +kernel) ?_
        refine r_goto d_X11_signals_29 (tgt := 33) (by decide) ?_
        exact f_X11_signals_33_ok _ hj ih _ _ _ _ _ _ _ _ _ g0 g1 g2 g4 e

def f_X11_signals (l0 : Nat) (l1 : Int32) (l2 : Int32) (h : Hp) : Option (Int32 × Hp) := f_X11_signals_5 fz (l0) (l1) (l2) ((0 : Int32)) ((0 : Int32)) (h)
theorem f_X11_signals_ok {G : Gd} {d : Nat} (hj : 2 ≤ d) : ∀ (l0 : Nat) (l1 : Int32) (l2 : Int32) (L : List (Nat × Value)) (h : Hp) (o : (Int32 × Hp)), zlk L 0 = some (zrf (l0)) → zlk L 1 = some (.int (l1)) → zlk L 2 = some (.int (l2)) → f_X11_signals l0 l1 l2 h = some o → Ev G M_X11_signals d 0 L [] h (Ret Y_X11_signals (some (.int o.1)) o.2) := by
  intro l0 l1 l2 L h o g0 g1 g2 e
  unfold f_X11_signals at e
  refine r_iconst d_X11_signals_0 (v := (0 : Int32)) (by decide +kernel) ?_
  refine s_istore_n d_X11_signals_1 rfl (by decide) (fun L g3 gK => ?_)
  replace g0 := gK _ _ (by decide) (Or.inr (zrf_cat _)) g0
  replace g1 := gK _ _ (by decide) (Or.inr rfl) g1
  replace g2 := gK _ _ (by decide) (Or.inr rfl) g2
  refine r_iconst d_X11_signals_2 (v := (0 : Int32)) (by decide +kernel) ?_
  refine s_istore d_X11_signals_3 (by decide) (fun L g4 gK => ?_)
  replace g0 := gK _ _ (by decide) (Or.inr (zrf_cat _)) g0
  replace g1 := gK _ _ (by decide) (Or.inr rfl) g1
  replace g2 := gK _ _ (by decide) (Or.inr rfl) g2
  replace g3 := gK _ _ (by decide) (Or.inr rfl) g3
  exact f_X11_signals_5_ok hj _ _ _ _ _ _ _ _ _ g0 g1 g2 g3 g4 e

theorem c_X11_signals {G : Gd} {j : Nat} (hj : 2 ≤ j) {l0 : Nat} {l1 : Int32} {l2 : Int32} {h : Hp} {o : (Int32 × Hp)} (e : f_X11_signals l0 l1 l2 h = some o) : Cal G j Y_X11_signals [zrf (l0), .int (l1), .int (l2)] h (some (.int o.1)) o.2 := Cal.of (n := 0) (I := false) (by first | exact Or.inl (by decide +kernel) | exact Or.inr (by decide +kernel)) (by decide) (by simp [lg_sl, zrf_cat, cat_int, cat_long]) (f_X11_signals_ok hj _ _ _ _ h o (by simp [lv_args, zlk, zrf_cat, cat_int, cat_long]) (by simp [lv_args, zlk, zrf_cat, cat_int, cat_long]) (by simp [lv_args, zlk, zrf_cat, cat_int, cat_long]) e)
theorem vk_10_312 : Vk "TaskWeaveModel" 312 1 12 Y_X11_textFor := ⟨yk_X11_textFor, by decide +kernel, by decide +kernel, by decide +kernel, by decide⟩
theorem vk_10_333 : Vk "TaskWeaveModel" 333 2 12 Y_X11_signals := ⟨yk_X11_signals, by decide +kernel, by decide +kernel, by decide +kernel, by decide⟩
theorem vk_10_330 : Vk "TaskWeaveModel" 330 1 12 Y_X11_goesStep := ⟨yk_X11_goesStep, by decide +kernel, by decide +kernel, by decide +kernel, by decide⟩
def f_X11_goThrough_100 : Nat → Nat → Int32 → Hp → Option Hp
  | 0, _, _, _ => none
  | n + 1, l0, l1, h => ck (isO (h) (l0) 12) (ck (isO (h) (zR (h) 1243 (l0)) 22) (ck (inR (l1) (zL (h) (zR (h) 1243 (l0)))) (if (zE (h) (zR (h) 1243 (l0)) (l1).toNatClampNeg) = ((6 : Int32)) then ((f_X11_goesStep (l0) (l1) (h)).bind (fun q46 => f_X11_goThrough_100 n (l0) (l1) (q46))) else (ck (isO (h) (zR (h) 1246 (l0)) 22) (ck (inR (l1) (zL (h) (zR (h) 1246 (l0)))) (bh (pE (h) (zR (h) 1246 (l0)) (l1).toNatClampNeg (zI (h) 1266 (l0))) (fun h38 => ck (isO (h38) (zR (h38) 1241 (l0)) 22) (ck (inR (l1) (zL (h38) (zR (h38) 1241 (l0)))) ((f_X11_signals (l0) (l1) (zE (h38) (zR (h38) 1241 (l0)) (l1).toNatClampNeg) (h38)).bind (fun q41 => ck (isO (q41.2) (l0) 12) (ck (isO (q41.2) (zR (h38) 1247 (l0)) 22) (ck (inR (l1) (zL (q41.2) (zR (h38) 1247 (l0)))) (bh (pE (q41.2) (zR (h38) 1247 (l0)) (l1).toNatClampNeg ((q41.1) - (zI (q41.2) 1265 (l0)))) (fun h45 => some (h45)))))))))))))))
theorem f_X11_goThrough_100_ok {G : Gd} {d : Nat} (hj : 6 ≤ d) : ∀ (n : Nat) (l0 : Nat) (l1 : Int32) (L : List (Nat × Value)) (h : Hp) (o : Hp), zlk L 0 = some (zrf (l0)) → zlk L 1 = some (.int (l1)) → f_X11_goThrough_100 n l0 l1 h = some o → Ev G M_X11_goThrough d 100 L [] h (Ret Y_X11_goThrough none o) := by
  intro n
  induction n with
  | zero =>
    intro l0 l1 L h o g0 g1 e
    cases e
  | succ n ih =>
    intro l0 l1 L h o g0 g1 e
    unfold f_X11_goThrough_100 at e
    refine g_ald_n d_X11_goThrough_100 rfl g0 ?_
    replace e := ckd e
    obtain ⟨k32, e⟩ := e
    refine g_getR d_X11_goThrough_101 (f := 1243) k32 fk_10_119 rfl rfl ?_
    refine r_iload_n d_X11_goThrough_104 rfl g1 ?_
    replace e := ckd e
    obtain ⟨k33, e⟩ := e
    replace e := ckd e
    obtain ⟨k34, e⟩ := e
    refine g_iald d_X11_goThrough_105 k33 k34 rfl ?_
    refine r_bipush d_X11_goThrough_106 (v := (6 : Int32)) (by decide +kernel) ?_
    refine r_icmp_ne d_X11_goThrough_108 (tgt := 119) (by decide) (fun c35 => ?_) (fun c35 => ?_)
    · replace e := (if_neg c35).symm.trans e
      refine g_ald_n d_X11_goThrough_119 rfl g0 ?_
      refine g_getR d_X11_goThrough_120 (f := 1246) k32 fk_10_128 rfl rfl ?_
      refine r_iload_n d_X11_goThrough_123 rfl g1 ?_
      refine g_ald_n d_X11_goThrough_124 rfl g0 ?_
      refine g_getI d_X11_goThrough_125 (f := 1266) k32 fk_10_324 rfl rfl ?_
      replace e := ckd e
      obtain ⟨k36, e⟩ := e
      replace e := ckd e
      obtain ⟨k37, e⟩ := e
      refine g_iast d_X11_goThrough_128 k36 k37 ?_
      replace e := bhd e
      obtain ⟨_, rfl, e⟩ := e
      refine g_ald_n d_X11_goThrough_129 rfl g0 ?_
      refine g_getR d_X11_goThrough_130 (f := 1247) (tO_pE k32) fk_10_131 rfl rfl ?_
      refine r_iload_n d_X11_goThrough_133 rfl g1 ?_
      refine g_ald_n d_X11_goThrough_134 rfl g0 ?_
      refine r_iload_n d_X11_goThrough_135 rfl g1 ?_
      refine g_ald_n d_X11_goThrough_136 rfl g0 ?_
      refine g_getR d_X11_goThrough_137 (f := 1241) (tO_pE k32) fk_10_113 rfl rfl ?_
      refine r_iload_n d_X11_goThrough_140 rfl g1 ?_
      replace e := ckd e
      obtain ⟨k39, e⟩ := e
      replace e := ckd e
      obtain ⟨k40, e⟩ := e
      refine g_iald d_X11_goThrough_141 k39 k40 rfl ?_
      replace e := bd e
      obtain ⟨q41, eq41, e⟩ := e
      refine g_callV d_X11_goThrough_142 vk_10_333 (as := [_, _]) rfl (tO_pE k32) rfl (by simp [zrf_cat, cat_int, cat_long]) (j := 2) (by omega) (c_X11_signals (by omega) eq41) ?_
      refine g_ald_n d_X11_goThrough_145 rfl g0 ?_
      replace e := ckd e
      obtain ⟨k42, e⟩ := e
      refine g_getI d_X11_goThrough_146 (f := 1265) k42 fk_10_321 rfl rfl ?_
      refine r_isub d_X11_goThrough_149 ?_
      replace e := ckd e
      obtain ⟨k43, e⟩ := e
      replace e := ckd e
      obtain ⟨k44, e⟩ := e
      refine g_iast d_X11_goThrough_150 k43 k44 ?_
      replace e := bhd e
      obtain ⟨_, rfl, e⟩ := e
      obtain rfl := Option.some.inj e
      exact g_vret d_X11_goThrough_151 rfl
    · replace e := (if_pos c35).symm.trans e
      refine g_ald_n d_X11_goThrough_111 rfl g0 ?_
      refine r_iload_n d_X11_goThrough_112 rfl g1 ?_
      replace e := bd e
      obtain ⟨q46, eq46, e⟩ := e
      refine g_callV d_X11_goThrough_113 vk_10_330 (as := [_]) rfl k32 rfl (by simp [zrf_cat, cat_int, cat_long]) (j := 5) (by omega) (c_X11_goesStep (by omega) eq46) ?_
      refine r_goto d_X11_goThrough_116 (tgt := 100) (by decide) ?_
      exact ih _ _ _ _ _ g0 g1 e

def f_X11_goThrough_23 : Nat → Nat → Int32 → Int32 → Hp → Option Hp
  | 0, _, _, _, _ => none
  | n + 1, l0, l1, l2, h => if ((8 : Int32)) ≤ (l2) then (ck (isO (h) (l0) 12) ((f_X11_event (l0) (l1) ((0 : Int32)) (h)).bind (fun q12 => ck (isO (q12.2) (zR (h) 1228 (l0)) 22) (ck (inR (q12.1) (zL (q12.2) (zR (h) 1228 (l0)))) (ck (isO (q12.2) (zR (h) 1245 (l0)) 22) (ck (inR (((8 : Int32)) * (l1)) (zL (q12.2) (zR (h) 1245 (l0)))) (bh (pE (q12.2) (zR (h) 1245 (l0)) (((8 : Int32)) * (l1)).toNatClampNeg (zE (q12.2) (zR (h) 1228 (l0)) (q12.1).toNatClampNeg)) (fun h17 => ck (isO (h17) (l0) 12) (bh (pI (h17) 1263 (l0) ((0 : Int32))) (fun h19 => bh (pI (h19) 1264 (l0) ((1 : Int32))) (fun h20 => bh (pI (h20) 1265 (l0) ((0 : Int32))) (fun h21 => bh (pI (h21) 1266 (l0) ((0 : Int32))) (fun h22 => bh (pI (h22) 1267 (l0) ((0 : Int32))) (fun h23 => ck (isO (h23) (zR (h23) 1243 (l0)) 22) (ck (inR (l1) (zL (h23) (zR (h23) 1243 (l0)))) (bh (pE (h23) (zR (h23) 1243 (l0)) (l1).toNatClampNeg ((6 : Int32))) (fun h26 => f_X11_goThrough_100 fz (l0) (l1) (h26)))))))))))))))))) else (ck (isO (h) (l0) 12) (ck (isO (h) (zR (h) 1245 (l0)) 22) (ck (inR ((((8 : Int32)) * (l1)) + (l2)) (zL (h) (zR (h) 1245 (l0)))) (bh (pE (h) (zR (h) 1245 (l0)) ((((8 : Int32)) * (l1)) + (l2)).toNatClampNeg ((0 : Int32))) (fun h30 => bh ((l2) + (1 : Int32)) (fun x31 => f_X11_goThrough_23 n (l0) (l1) (x31) (h30)))))))
theorem f_X11_goThrough_23_ok {G : Gd} {d : Nat} (hj : 6 ≤ d) : ∀ (n : Nat) (l0 : Nat) (l1 : Int32) (l2 : Int32) (L : List (Nat × Value)) (h : Hp) (o : Hp), zlk L 0 = some (zrf (l0)) → zlk L 1 = some (.int (l1)) → zlk L 2 = some (.int (l2)) → f_X11_goThrough_23 n l0 l1 l2 h = some o → Ev G M_X11_goThrough d 23 L [] h (Ret Y_X11_goThrough none o) := by
  intro n
  induction n with
  | zero =>
    intro l0 l1 l2 L h o g0 g1 g2 e
    cases e
  | succ n ih =>
    intro l0 l1 l2 L h o g0 g1 g2 e
    unfold f_X11_goThrough_23 at e
    refine r_iload_n d_X11_goThrough_23 rfl g2 ?_
    refine r_bipush d_X11_goThrough_24 (v := (8 : Int32)) (by decide +kernel) ?_
    refine r_icmp_ge d_X11_goThrough_26 (tgt := 47) (by decide) (fun c10 => ?_) (fun c10 => ?_)
    · replace e := (if_pos c10).symm.trans e
      refine g_ald_n d_X11_goThrough_47 rfl g0 ?_
      replace e := ckd e
      obtain ⟨k11, e⟩ := e
      refine g_getR d_X11_goThrough_48 (f := 1245) k11 fk_10_125 rfl rfl ?_
      refine r_bipush d_X11_goThrough_51 (v := (8 : Int32)) (by decide +kernel) ?_
      refine r_iload_n d_X11_goThrough_53 rfl g1 ?_
      refine r_imul d_X11_goThrough_54 ?_
      refine g_ald_n d_X11_goThrough_55 rfl g0 ?_
      refine g_getR d_X11_goThrough_56 (f := 1228) k11 fk_10_73 rfl rfl ?_
      refine g_ald_n d_X11_goThrough_59 rfl g0 ?_
      refine r_iload_n d_X11_goThrough_60 rfl g1 ?_
      refine r_iconst d_X11_goThrough_61 (v := (0 : Int32)) (by decide +kernel) ?_
      replace e := bd e
      obtain ⟨q12, eq12, e⟩ := e
      refine g_callV d_X11_goThrough_62 vk_10_305 (as := [_, _]) rfl k11 rfl (by simp [zrf_cat, cat_int, cat_long]) (j := 1) (by omega) (c_X11_event (by omega) eq12) ?_
      replace e := ckd e
      obtain ⟨k13, e⟩ := e
      replace e := ckd e
      obtain ⟨k14, e⟩ := e
      refine g_iald d_X11_goThrough_65 k13 k14 rfl ?_
      replace e := ckd e
      obtain ⟨k15, e⟩ := e
      replace e := ckd e
      obtain ⟨k16, e⟩ := e
      refine g_iast d_X11_goThrough_66 k15 k16 ?_
      replace e := bhd e
      obtain ⟨_, rfl, e⟩ := e
      refine g_ald_n d_X11_goThrough_67 rfl g0 ?_
      refine r_iconst d_X11_goThrough_68 (v := (0 : Int32)) (by decide +kernel) ?_
      replace e := ckd e
      obtain ⟨k18, e⟩ := e
      refine g_putI d_X11_goThrough_69 (f := 1263) k18 fk_10_315 rfl (Or.inl rfl) ⟨rfl, rfl⟩ ?_
      replace e := bhd e
      obtain ⟨_, rfl, e⟩ := e
      refine g_ald_n d_X11_goThrough_72 rfl g0 ?_
      refine r_iconst d_X11_goThrough_73 (v := (1 : Int32)) (by decide +kernel) ?_
      refine g_putI d_X11_goThrough_74 (f := 1264) (tO_pI k18) fk_10_318 rfl (Or.inl rfl) ⟨rfl, rfl⟩ ?_
      replace e := bhd e
      obtain ⟨_, rfl, e⟩ := e
      refine g_ald_n d_X11_goThrough_77 rfl g0 ?_
      refine r_iconst d_X11_goThrough_78 (v := (0 : Int32)) (by decide +kernel) ?_
      refine g_putI d_X11_goThrough_79 (f := 1265) (tO_pI (tO_pI k18)) fk_10_321 rfl (Or.inl rfl) ⟨rfl, rfl⟩ ?_
      replace e := bhd e
      obtain ⟨_, rfl, e⟩ := e
      refine g_ald_n d_X11_goThrough_82 rfl g0 ?_
      refine r_iconst d_X11_goThrough_83 (v := (0 : Int32)) (by decide +kernel) ?_
      refine g_putI d_X11_goThrough_84 (f := 1266) (tO_pI (tO_pI (tO_pI k18))) fk_10_324 rfl (Or.inl rfl) ⟨rfl, rfl⟩ ?_
      replace e := bhd e
      obtain ⟨_, rfl, e⟩ := e
      refine g_ald_n d_X11_goThrough_87 rfl g0 ?_
      refine r_iconst d_X11_goThrough_88 (v := (0 : Int32)) (by decide +kernel) ?_
      refine g_putI d_X11_goThrough_89 (f := 1267) (tO_pI (tO_pI (tO_pI (tO_pI k18)))) fk_10_327 rfl (Or.inl rfl) ⟨rfl, rfl⟩ ?_
      replace e := bhd e
      obtain ⟨_, rfl, e⟩ := e
      refine g_ald_n d_X11_goThrough_92 rfl g0 ?_
      refine g_getR d_X11_goThrough_93 (f := 1243) (tO_pI (tO_pI (tO_pI (tO_pI (tO_pI k18))))) fk_10_119 rfl rfl ?_
      refine r_iload_n d_X11_goThrough_96 rfl g1 ?_
      refine r_bipush d_X11_goThrough_97 (v := (6 : Int32)) (by decide +kernel) ?_
      replace e := ckd e
      obtain ⟨k24, e⟩ := e
      replace e := ckd e
      obtain ⟨k25, e⟩ := e
      refine g_iast d_X11_goThrough_99 k24 k25 ?_
      replace e := bhd e
      obtain ⟨_, rfl, e⟩ := e
      exact f_X11_goThrough_100_ok hj _ _ _ _ _ _ g0 g1 e
    · replace e := (if_neg c10).symm.trans e
      refine g_ald_n d_X11_goThrough_29 rfl g0 ?_
      replace e := ckd e
      obtain ⟨k27, e⟩ := e
      refine g_getR d_X11_goThrough_30 (f := 1245) k27 fk_10_125 rfl rfl ?_
      refine r_bipush d_X11_goThrough_33 (v := (8 : Int32)) (by decide +kernel) ?_
      refine r_iload_n d_X11_goThrough_35 rfl g1 ?_
      refine r_imul d_X11_goThrough_36 ?_
      refine r_iload_n d_X11_goThrough_37 rfl g2 ?_
      refine r_iadd d_X11_goThrough_38 ?_
      refine r_iconst d_X11_goThrough_39 (v := (0 : Int32)) (by decide +kernel) ?_
      replace e := ckd e
      obtain ⟨k28, e⟩ := e
      replace e := ckd e
      obtain ⟨k29, e⟩ := e
      refine g_iast d_X11_goThrough_40 k28 k29 ?_
      replace e := bhd e
      obtain ⟨_, rfl, e⟩ := e
      replace e := bhd e
      obtain ⟨_, rfl, e⟩ := e
      refine s_iinc d_X11_goThrough_41 g2 (w := (1 : Int32)) (by decide +kernel) (by decide) (fun L g2 gK => ?_)
      replace g0 := gK _ _ (by decide) (Or.inr (zrf_cat _)) g0
      replace g1 := gK _ _ (by decide) (Or.inr rfl) g1
      refine r_goto d_X11_goThrough_44 (tgt := 23) (by decide) ?_
      exact ih _ _ _ _ _ _ g0 g1 g2 e

def f_X11_goThrough (l0 : Nat) (l1 : Int32) (h : Hp) : Option Hp := ck (isO (h) (l0) 12) ((f_X11_event (l0) (l1) ((0 : Int32)) (h)).bind (fun q2 => ck (isO (q2.2) (zR (h) 1227 (l0)) 22) (ck (inR (q2.1) (zL (q2.2) (zR (h) 1227 (l0)))) (ck (isO (q2.2) (l0) 12) ((f_X11_textFor (l0) (zE (q2.2) (zR (h) 1227 (l0)) (q2.1).toNatClampNeg) (q2.2)).bind (fun q5 => ck (isO (q5.2) (zR (h) 1242 (l0)) 22) (ck (inR (l1) (zL (q5.2) (zR (h) 1242 (l0)))) (bh (pE (q5.2) (zR (h) 1242 (l0)) (l1).toNatClampNeg (q5.1)) (fun h9 => f_X11_goThrough_23 fz (l0) (l1) ((0 : Int32)) (h9))))))))))
theorem f_X11_goThrough_ok {G : Gd} {d : Nat} (hj : 6 ≤ d) : ∀ (l0 : Nat) (l1 : Int32) (L : List (Nat × Value)) (h : Hp) (o : Hp), zlk L 0 = some (zrf (l0)) → zlk L 1 = some (.int (l1)) → f_X11_goThrough l0 l1 h = some o → Ev G M_X11_goThrough d 0 L [] h (Ret Y_X11_goThrough none o) := by
  intro l0 l1 L h o g0 g1 e
  unfold f_X11_goThrough at e
  refine g_ald_n d_X11_goThrough_0 rfl g0 ?_
  replace e := ckd e
  obtain ⟨k1, e⟩ := e
  refine g_getR d_X11_goThrough_1 (f := 1242) k1 fk_10_116 rfl rfl ?_
  refine r_iload_n d_X11_goThrough_4 rfl g1 ?_
  refine g_ald_n d_X11_goThrough_5 rfl g0 ?_
  refine g_ald_n d_X11_goThrough_6 rfl g0 ?_
  refine g_getR d_X11_goThrough_7 (f := 1227) k1 fk_10_70 rfl rfl ?_
  refine g_ald_n d_X11_goThrough_10 rfl g0 ?_
  refine r_iload_n d_X11_goThrough_11 rfl g1 ?_
  refine r_iconst d_X11_goThrough_12 (v := (0 : Int32)) (by decide +kernel) ?_
  replace e := bd e
  obtain ⟨q2, eq2, e⟩ := e
  refine g_callV d_X11_goThrough_13 vk_10_305 (as := [_, _]) rfl k1 rfl (by simp [zrf_cat, cat_int, cat_long]) (j := 1) (by omega) (c_X11_event (by omega) eq2) ?_
  replace e := ckd e
  obtain ⟨k3, e⟩ := e
  replace e := ckd e
  obtain ⟨k4, e⟩ := e
  refine g_iald d_X11_goThrough_16 k3 k4 rfl ?_
  replace e := ckd e
  obtain ⟨k6, e⟩ := e
  replace e := bd e
  obtain ⟨q5, eq5, e⟩ := e
  refine g_callV d_X11_goThrough_17 vk_10_312 (as := [_]) rfl k6 rfl (by simp [zrf_cat, cat_int, cat_long]) (j := 1) (by omega) (c_X11_textFor (by omega) eq5) ?_
  replace e := ckd e
  obtain ⟨k7, e⟩ := e
  replace e := ckd e
  obtain ⟨k8, e⟩ := e
  refine g_iast d_X11_goThrough_20 k7 k8 ?_
  replace e := bhd e
  obtain ⟨_, rfl, e⟩ := e
  refine r_iconst d_X11_goThrough_21 (v := (0 : Int32)) (by decide +kernel) ?_
  refine s_istore_n d_X11_goThrough_22 rfl (by decide) (fun L g2 gK => ?_)
  replace g0 := gK _ _ (by decide) (Or.inr (zrf_cat _)) g0
  replace g1 := gK _ _ (by decide) (Or.inr rfl) g1
  exact f_X11_goThrough_23_ok hj _ _ _ _ _ _ _ g0 g1 g2 e

theorem c_X11_goThrough {G : Gd} {j : Nat} (hj : 6 ≤ j) {l0 : Nat} {l1 : Int32} {h : Hp} {o : Hp} (e : f_X11_goThrough l0 l1 h = some o) : Cal G j Y_X11_goThrough [zrf (l0), .int (l1)] h none o := Cal.of (n := 0) (I := false) (by first | exact Or.inl (by decide +kernel) | exact Or.inr (by decide +kernel)) (by decide) (by simp [lg_sl, zrf_cat, cat_int, cat_long]) (f_X11_goThrough_ok hj _ _ _ h o (by simp [lv_args, zlk, zrf_cat, cat_int, cat_long]) (by simp [lv_args, zlk, zrf_cat, cat_int, cat_long]) e)
def f_X11_keep_69 (s0 : Int32) (l0 : Nat) (l1 : Int32) (l3 : Int32) (h : Hp) : Option Hp := if (s0) = (0) then (some (h)) else (if (l3) = ((-1 : Int32)) then (some (h)) else (bh ((l1) / ((16 : Int32))) (fun x19 => ck (isO (h) (l0) 12) (ck (isO (h) (zR (h) 1257 (l0)) 22) (ck (inR (x19) (zL (h) (zR (h) 1257 (l0)))) (bh ((((1024 : Int32)) * (x19)) + (zE (h) (zR (h) 1257 (l0)) (x19).toNatClampNeg)) (fun x23 => ck (isO (h) (zR (h) 1258 (l0)) 22) (ck (inR (x23) (zL (h) (zR (h) 1258 (l0)))) (bh (pE (h) (zR (h) 1258 (l0)) (x23).toNatClampNeg (l3)) (fun h26 => ck (isO (h26) (zR (h26) 1259 (l0)) 22) (ck (inR (x23) (zL (h26) (zR (h26) 1259 (l0)))) (bh (pE (h26) (zR (h26) 1259 (l0)) (x23).toNatClampNeg (l1)) (fun h29 => ck (isO (h29) (zR (h29) 1241 (l0)) 22) (ck (inR (l1) (zL (h29) (zR (h29) 1241 (l0)))) (ck (isO (h29) (zR (h29) 1260 (l0)) 22) (ck (inR (x23) (zL (h29) (zR (h29) 1260 (l0)))) (bh (pE (h29) (zR (h29) 1260 (l0)) (x23).toNatClampNeg ((zE (h29) (zR (h29) 1241 (l0)) (l1).toNatClampNeg) - ((1 : Int32)))) (fun h34 => ck (isO (h34) (zR (h34) 1257 (l0)) 22) (ck (inR (x19) (zL (h34) (zR (h34) 1257 (l0)))) (bh (pE (h34) (zR (h34) 1257 (l0)) (x19).toNatClampNeg ((zE (h34) (zR (h34) 1257 (l0)) (x19).toNatClampNeg) + ((1 : Int32)))) (fun h37 => some (h37))))))))))))))))))))))
theorem f_X11_keep_69_ok {G : Gd} {d : Nat} (hj : 4 ≤ d) : ∀ (s0 : Int32) (l0 : Nat) (l1 : Int32) (l3 : Int32) (L : List (Nat × Value)) (h : Hp) (o : Hp), zlk L 0 = some (zrf (l0)) → zlk L 1 = some (.int (l1)) → zlk L 3 = some (.int (l3)) → f_X11_keep_69 s0 l0 l1 l3 h = some o → Ev G M_X11_keep d 69 L [.int (s0)] h (Ret Y_X11_keep none o) := by
  intro s0 l0 l1 l3 L h o g0 g1 g3 e
  unfold f_X11_keep_69 at e
  refine s_istore d_X11_keep_69 (by decide) (fun L g5 gK => ?_)
  replace g0 := gK _ _ (by decide) (Or.inr (zrf_cat _)) g0
  replace g1 := gK _ _ (by decide) (Or.inr rfl) g1
  replace g3 := gK _ _ (by decide) (Or.inr rfl) g3
  refine r_iload d_X11_keep_71 g5 ?_
  refine r_if_eq d_X11_keep_73 (tgt := 81) (by decide) (fun c17 => ?_) (fun c17 => ?_)
  · replace e := (if_pos c17).symm.trans e
    obtain rfl := Option.some.inj e
    exact g_vret d_X11_keep_81 rfl
  · replace e := (if_neg c17).symm.trans e
    refine r_iload_n d_X11_keep_76 rfl g3 ?_
    refine r_iconst d_X11_keep_77 (v := (-1 : Int32)) (by decide +kernel) ?_
    refine r_icmp_ne d_X11_keep_78 (tgt := 82) (by decide) (fun c18 => ?_) (fun c18 => ?_)
    · replace e := (if_neg c18).symm.trans e
      refine r_iload_n d_X11_keep_82 rfl g1 ?_
      refine r_bipush d_X11_keep_83 (v := (16 : Int32)) (by decide +kernel) ?_
      refine r_idiv d_X11_keep_85 (by decide +kernel) ?_
      replace e := bhd e
      obtain ⟨_, rfl, e⟩ := e
      refine s_istore d_X11_keep_86 (by decide) (fun L g6 gK => ?_)
      replace g0 := gK _ _ (by decide) (Or.inr (zrf_cat _)) g0
      replace g1 := gK _ _ (by decide) (Or.inr rfl) g1
      replace g3 := gK _ _ (by decide) (Or.inr rfl) g3
      refine r_sipush d_X11_keep_88 (v := (1024 : Int32)) (by decide +kernel) ?_
      refine r_iload d_X11_keep_91 g6 ?_
      refine r_imul d_X11_keep_93 ?_
      refine g_ald_n d_X11_keep_94 rfl g0 ?_
      replace e := ckd e
      obtain ⟨k20, e⟩ := e
      refine g_getR d_X11_keep_95 (f := 1257) k20 fk_10_161 rfl rfl ?_
      refine r_iload d_X11_keep_98 g6 ?_
      replace e := ckd e
      obtain ⟨k21, e⟩ := e
      replace e := ckd e
      obtain ⟨k22, e⟩ := e
      refine g_iald d_X11_keep_100 k21 k22 rfl ?_
      refine r_iadd d_X11_keep_101 ?_
      replace e := bhd e
      obtain ⟨_, rfl, e⟩ := e
      refine s_istore d_X11_keep_102 (by decide) (fun L g7 gK => ?_)
      replace g0 := gK _ _ (by decide) (Or.inr (zrf_cat _)) g0
      replace g1 := gK _ _ (by decide) (Or.inr rfl) g1
      replace g3 := gK _ _ (by decide) (Or.inr rfl) g3
      replace g6 := gK _ _ (by decide) (Or.inr rfl) g6
      refine g_ald_n d_X11_keep_104 rfl g0 ?_
      refine g_getR d_X11_keep_105 (f := 1258) k20 fk_10_164 rfl rfl ?_
      refine r_iload d_X11_keep_108 g7 ?_
      refine r_iload_n d_X11_keep_110 rfl g3 ?_
      replace e := ckd e
      obtain ⟨k24, e⟩ := e
      replace e := ckd e
      obtain ⟨k25, e⟩ := e
      refine g_iast d_X11_keep_111 k24 k25 ?_
      replace e := bhd e
      obtain ⟨_, rfl, e⟩ := e
      refine g_ald_n d_X11_keep_112 rfl g0 ?_
      refine g_getR d_X11_keep_113 (f := 1259) (tO_pE k20) fk_10_167 rfl rfl ?_
      refine r_iload d_X11_keep_116 g7 ?_
      refine r_iload_n d_X11_keep_118 rfl g1 ?_
      replace e := ckd e
      obtain ⟨k27, e⟩ := e
      replace e := ckd e
      obtain ⟨k28, e⟩ := e
      refine g_iast d_X11_keep_119 k27 k28 ?_
      replace e := bhd e
      obtain ⟨_, rfl, e⟩ := e
      refine g_ald_n d_X11_keep_120 rfl g0 ?_
      refine g_getR d_X11_keep_121 (f := 1260) (tO_pE (tO_pE k20)) fk_10_170 rfl rfl ?_
      refine r_iload d_X11_keep_124 g7 ?_
      refine g_ald_n d_X11_keep_126 rfl g0 ?_
      refine g_getR d_X11_keep_127 (f := 1241) (tO_pE (tO_pE k20)) fk_10_113 rfl rfl ?_
      refine r_iload_n d_X11_keep_130 rfl g1 ?_
      replace e := ckd e
      obtain ⟨k30, e⟩ := e
      replace e := ckd e
      obtain ⟨k31, e⟩ := e
      refine g_iald d_X11_keep_131 k30 k31 rfl ?_
      refine r_iconst d_X11_keep_132 (v := (1 : Int32)) (by decide +kernel) ?_
      refine r_isub d_X11_keep_133 ?_
      replace e := ckd e
      obtain ⟨k32, e⟩ := e
      replace e := ckd e
      obtain ⟨k33, e⟩ := e
      refine g_iast d_X11_keep_134 k32 k33 ?_
      replace e := bhd e
      obtain ⟨_, rfl, e⟩ := e
      refine g_ald_n d_X11_keep_135 rfl g0 ?_
      refine g_getR d_X11_keep_136 (f := 1257) (tO_pE (tO_pE (tO_pE k20))) fk_10_161 rfl rfl ?_
      refine r_iload d_X11_keep_139 g6 ?_
      refine r_dup2 d_X11_keep_141 rfl (zrf_cat _) ?_
      replace e := ckd e
      obtain ⟨k35, e⟩ := e
      replace e := ckd e
      obtain ⟨k36, e⟩ := e
      refine g_iald d_X11_keep_142 k35 k36 rfl ?_
      refine r_iconst d_X11_keep_143 (v := (1 : Int32)) (by decide +kernel) ?_
      refine r_iadd d_X11_keep_144 ?_
      refine g_iast d_X11_keep_145 k35 k36 ?_
      replace e := bhd e
      obtain ⟨_, rfl, e⟩ := e
      obtain rfl := Option.some.inj e
      exact g_vret d_X11_keep_146 rfl
    · replace e := (if_pos c18).symm.trans e
      obtain rfl := Option.some.inj e
      exact g_vret d_X11_keep_81 rfl

def f_X11_keep_64 (l0 : Nat) (l1 : Int32) (l3 : Int32) (h : Hp) : Option Hp := f_X11_keep_69 ((1 : Int32)) (l0) (l1) (l3) (h)
theorem f_X11_keep_64_ok {G : Gd} {d : Nat} (hj : 4 ≤ d) : ∀ (l0 : Nat) (l1 : Int32) (l3 : Int32) (L : List (Nat × Value)) (h : Hp) (o : Hp), zlk L 0 = some (zrf (l0)) → zlk L 1 = some (.int (l1)) → zlk L 3 = some (.int (l3)) → f_X11_keep_64 l0 l1 l3 h = some o → Ev G M_X11_keep d 64 L [] h (Ret Y_X11_keep none o) := by
  intro l0 l1 l3 L h o g0 g1 g3 e
  unfold f_X11_keep_64 at e
  refine r_iconst d_X11_keep_64 (v := (1 : Int32)) (by decide +kernel) ?_
  refine r_goto d_X11_keep_65 (tgt := 69) (by decide) ?_
  exact f_X11_keep_69_ok hj _ _ _ _ _ _ _ g0 g1 g3 e

def f_X11_keep_68 (l0 : Nat) (l1 : Int32) (l3 : Int32) (h : Hp) : Option Hp := f_X11_keep_69 ((0 : Int32)) (l0) (l1) (l3) (h)
theorem f_X11_keep_68_ok {G : Gd} {d : Nat} (hj : 4 ≤ d) : ∀ (l0 : Nat) (l1 : Int32) (l3 : Int32) (L : List (Nat × Value)) (h : Hp) (o : Hp), zlk L 0 = some (zrf (l0)) → zlk L 1 = some (.int (l1)) → zlk L 3 = some (.int (l3)) → f_X11_keep_68 l0 l1 l3 h = some o → Ev G M_X11_keep d 68 L [] h (Ret Y_X11_keep none o) := by
  intro l0 l1 l3 L h o g0 g1 g3 e
  unfold f_X11_keep_68 at e
  refine r_iconst d_X11_keep_68 (v := (0 : Int32)) (by decide +kernel) ?_
  exact f_X11_keep_69_ok hj _ _ _ _ _ _ _ g0 g1 g3 e

def f_X11_keep (l0 : Nat) (l1 : Int32) (l2 : Int32) (l3 : Int32) (h : Hp) : Option Hp := ck (isO (h) (l0) 12) ((f_X11_kindOf (l0) (l2) (h)).bind (fun q1 => ck (isO (q1.2) (l0) 12) (ck (isO (q1.2) (zR (q1.2) 1241 (l0)) 22) (ck (inR (l1) (zL (q1.2) (zR (q1.2) 1241 (l0)))) (ck (isO (q1.2) (zR (q1.2) 1240 (l0)) 22) (ck (inR ((((60 : Int32)) * (l1)) + (zE (q1.2) (zR (q1.2) 1241 (l0)) (l1).toNatClampNeg)) (zL (q1.2) (zR (q1.2) 1240 (l0)))) (bh (pE (q1.2) (zR (q1.2) 1240 (l0)) ((((60 : Int32)) * (l1)) + (zE (q1.2) (zR (q1.2) 1241 (l0)) (l1).toNatClampNeg)).toNatClampNeg (l2)) (fun h8 => ck (isO (h8) (zR (h8) 1241 (l0)) 22) (ck (inR (l1) (zL (h8) (zR (h8) 1241 (l0)))) (bh (pE (h8) (zR (h8) 1241 (l0)) (l1).toNatClampNeg ((zE (h8) (zR (h8) 1241 (l0)) (l1).toNatClampNeg) + ((1 : Int32)))) (fun h11 => if (q1.1) = ((6 : Int32)) then (f_X11_keep_64 (l0) (l1) (l3) (h11)) else (if (q1.1) = ((9 : Int32)) then (f_X11_keep_64 (l0) (l1) (l3) (h11)) else (if (q1.1) < ((10 : Int32)) then (f_X11_keep_68 (l0) (l1) (l3) (h11)) else ((f_X11_parent (l0) (l1) (h11)).bind (fun q15 => if (q15.1) = ((-1 : Int32)) then (f_X11_keep_68 (l0) (l1) (l3) (q15.2)) else (f_X11_keep_64 (l0) (l1) (l3) (q15.2)))))))))))))))))
theorem f_X11_keep_ok {G : Gd} {d : Nat} (hj : 4 ≤ d) : ∀ (l0 : Nat) (l1 : Int32) (l2 : Int32) (l3 : Int32) (L : List (Nat × Value)) (h : Hp) (o : Hp), zlk L 0 = some (zrf (l0)) → zlk L 1 = some (.int (l1)) → zlk L 2 = some (.int (l2)) → zlk L 3 = some (.int (l3)) → f_X11_keep l0 l1 l2 l3 h = some o → Ev G M_X11_keep d 0 L [] h (Ret Y_X11_keep none o) := by
  intro l0 l1 l2 l3 L h o g0 g1 g2 g3 e
  unfold f_X11_keep at e
  refine g_ald_n d_X11_keep_0 rfl g0 ?_
  refine r_iload_n d_X11_keep_1 rfl g2 ?_
  replace e := ckd e
  obtain ⟨k2, e⟩ := e
  replace e := bd e
  obtain ⟨q1, eq1, e⟩ := e
  refine g_callV d_X11_keep_2 vk_10_286 (as := [_]) rfl k2 rfl (by simp [zrf_cat, cat_int, cat_long]) (j := 1) (by omega) (c_X11_kindOf (by omega) eq1) ?_
  refine s_istore d_X11_keep_5 (by decide) (fun L g4 gK => ?_)
  replace g0 := gK _ _ (by decide) (Or.inr (zrf_cat _)) g0
  replace g1 := gK _ _ (by decide) (Or.inr rfl) g1
  replace g2 := gK _ _ (by decide) (Or.inr rfl) g2
  replace g3 := gK _ _ (by decide) (Or.inr rfl) g3
  refine g_ald_n d_X11_keep_7 rfl g0 ?_
  replace e := ckd e
  obtain ⟨k3, e⟩ := e
  refine g_getR d_X11_keep_8 (f := 1240) k3 fk_10_110 rfl rfl ?_
  refine r_bipush d_X11_keep_11 (v := (60 : Int32)) (by decide +kernel) ?_
  refine r_iload_n d_X11_keep_13 rfl g1 ?_
  refine r_imul d_X11_keep_14 ?_
  refine g_ald_n d_X11_keep_15 rfl g0 ?_
  refine g_getR d_X11_keep_16 (f := 1241) k3 fk_10_113 rfl rfl ?_
  refine r_iload_n d_X11_keep_19 rfl g1 ?_
  replace e := ckd e
  obtain ⟨k4, e⟩ := e
  replace e := ckd e
  obtain ⟨k5, e⟩ := e
  refine g_iald d_X11_keep_20 k4 k5 rfl ?_
  refine r_iadd d_X11_keep_21 ?_
  refine r_iload_n d_X11_keep_22 rfl g2 ?_
  replace e := ckd e
  obtain ⟨k6, e⟩ := e
  replace e := ckd e
  obtain ⟨k7, e⟩ := e
  refine g_iast d_X11_keep_23 k6 k7 ?_
  replace e := bhd e
  obtain ⟨_, rfl, e⟩ := e
  refine g_ald_n d_X11_keep_24 rfl g0 ?_
  refine g_getR d_X11_keep_25 (f := 1241) (tO_pE k3) fk_10_113 rfl rfl ?_
  refine r_iload_n d_X11_keep_28 rfl g1 ?_
  refine r_dup2 d_X11_keep_29 rfl (zrf_cat _) ?_
  replace e := ckd e
  obtain ⟨k9, e⟩ := e
  replace e := ckd e
  obtain ⟨k10, e⟩ := e
  refine g_iald d_X11_keep_30 k9 k10 rfl ?_
  refine r_iconst d_X11_keep_31 (v := (1 : Int32)) (by decide +kernel) ?_
  refine r_iadd d_X11_keep_32 ?_
  refine g_iast d_X11_keep_33 k9 k10 ?_
  replace e := bhd e
  obtain ⟨_, rfl, e⟩ := e
  refine r_iload d_X11_keep_34 g4 ?_
  refine r_bipush d_X11_keep_36 (v := (6 : Int32)) (by decide +kernel) ?_
  refine r_icmp_eq d_X11_keep_38 (tgt := 64) (by decide) (fun c12 => ?_) (fun c12 => ?_)
  · replace e := (if_pos c12).symm.trans e
    exact f_X11_keep_64_ok hj _ _ _ _ _ _ g0 g1 g3 e
  · replace e := (if_neg c12).symm.trans e
    refine r_iload d_X11_keep_41 g4 ?_
    refine r_bipush d_X11_keep_43 (v := (9 : Int32)) (by decide +kernel) ?_
    refine r_icmp_eq d_X11_keep_45 (tgt := 64) (by decide) (fun c13 => ?_) (fun c13 => ?_)
    · replace e := (if_pos c13).symm.trans e
      exact f_X11_keep_64_ok hj _ _ _ _ _ _ g0 g1 g3 e
    · replace e := (if_neg c13).symm.trans e
      refine r_iload d_X11_keep_48 g4 ?_
      refine r_bipush d_X11_keep_50 (v := (10 : Int32)) (by decide +kernel) ?_
      refine r_icmp_lt d_X11_keep_52 (tgt := 68) (by decide) (fun c14 => ?_) (fun c14 => ?_)
      · replace e := (if_pos c14).symm.trans e
        exact f_X11_keep_68_ok hj _ _ _ _ _ _ g0 g1 g3 e
      · replace e := (if_neg c14).symm.trans e
        refine g_ald_n d_X11_keep_55 rfl g0 ?_
        refine r_iload_n d_X11_keep_56 rfl g1 ?_
        replace e := bd e
        obtain ⟨q15, eq15, e⟩ := e
        refine g_callV d_X11_keep_57 vk_10_302 (as := [_]) rfl (tO_pE (tO_pE k3)) rfl (by simp [zrf_cat, cat_int, cat_long]) (j := 3) (by omega) (c_X11_parent (by omega) eq15) ?_
        refine r_iconst d_X11_keep_60 (v := (-1 : Int32)) (by decide +kernel) ?_
        refine r_icmp_eq d_X11_keep_61 (tgt := 68) (by decide) (fun c16 => ?_) (fun c16 => ?_)
        · replace e := (if_pos c16).symm.trans e
          exact f_X11_keep_68_ok hj _ _ _ _ _ _ g0 g1 g3 e
        · replace e := (if_neg c16).symm.trans e
          exact f_X11_keep_64_ok hj _ _ _ _ _ _ g0 g1 g3 e

theorem c_X11_keep {G : Gd} {j : Nat} (hj : 4 ≤ j) {l0 : Nat} {l1 : Int32} {l2 : Int32} {l3 : Int32} {h : Hp} {o : Hp} (e : f_X11_keep l0 l1 l2 l3 h = some o) : Cal G j Y_X11_keep [zrf (l0), .int (l1), .int (l2), .int (l3)] h none o := Cal.of (n := 0) (I := false) (by first | exact Or.inl (by decide +kernel) | exact Or.inr (by decide +kernel)) (by decide) (by simp [lg_sl, zrf_cat, cat_int, cat_long]) (f_X11_keep_ok hj _ _ _ _ _ h o (by simp [lv_args, zlk, zrf_cat, cat_int, cat_long]) (by simp [lv_args, zlk, zrf_cat, cat_int, cat_long]) (by simp [lv_args, zlk, zrf_cat, cat_int, cat_long]) (by simp [lv_args, zlk, zrf_cat, cat_int, cat_long]) e)
theorem vk_10_299 : Vk "TaskWeaveModel" 299 3 12 Y_X11_keep := ⟨yk_X11_keep, by decide +kernel, by decide +kernel, by decide +kernel, by decide⟩
def f_X11_reads_91 (l0 : Nat) (l2 : Int32) (l4 : Int32) (l5 : Int32) (h : Hp) : Option Hp := if (l5) = ((15 : Int32)) then (ck (isO (h) (l0) 12) (ck (isO (h) (zR (h) 1227 (l0)) 22) (ck (inR (l2) (zL (h) (zR (h) 1227 (l0)))) (ck (isO (h) (zR (h) 1256 (l0)) 22) (ck (inR (l4) (zL (h) (zR (h) 1256 (l0)))) (bh (pE (h) (zR (h) 1256 (l0)) (l4).toNatClampNeg (zE (h) (zR (h) 1227 (l0)) (l2).toNatClampNeg)) (fun h32 => ck (isO (h32) (zR (h32) 1228 (l0)) 22) (ck (inR (l2) (zL (h32) (zR (h32) 1228 (l0)))) (if (zE (h32) (zR (h32) 1228 (l0)) (l2).toNatClampNeg) ≤ (zI (h32) 1201 (l0)) then (ck (isO (h32) (zR (h32) 1253 (l0)) 22) (ck (inR (l4) (zL (h32) (zR (h32) 1253 (l0)))) (bh (pE (h32) (zR (h32) 1253 (l0)) (l4).toNatClampNeg (zI (h32) 1201 (l0))) (fun h38 => some (h38))))) else (ck (isO (h32) (zR (h32) 1253 (l0)) 22) (ck (inR (l4) (zL (h32) (zR (h32) 1253 (l0)))) (bh (pE (h32) (zR (h32) 1253 (l0)) (l4).toNatClampNeg (zE (h32) (zR (h32) 1228 (l0)) (l2).toNatClampNeg)) (fun h41 => some (h41)))))))))))))) else (some (h))
theorem f_X11_reads_91_ok {G : Gd} {d : Nat} (hj : 5 ≤ d) : ∀ (l0 : Nat) (l2 : Int32) (l4 : Int32) (l5 : Int32) (L : List (Nat × Value)) (h : Hp) (o : Hp), zlk L 0 = some (zrf (l0)) → zlk L 2 = some (.int (l2)) → zlk L 4 = some (.int (l4)) → zlk L 5 = some (.int (l5)) → f_X11_reads_91 l0 l2 l4 l5 h = some o → Ev G M_X11_reads d 91 L [] h (Ret Y_X11_reads none o) := by
  intro l0 l2 l4 l5 L h o g0 g2 g4 g5 e
  unfold f_X11_reads_91 at e
  refine r_iload d_X11_reads_91 g5 ?_
  refine r_bipush d_X11_reads_93 (v := (15 : Int32)) (by decide +kernel) ?_
  refine r_icmp_ne d_X11_reads_95 (tgt := 144) (by decide) (fun c26 => ?_) (fun c26 => ?_)
  · replace e := (if_neg c26).symm.trans e
    obtain rfl := Option.some.inj e
    exact g_vret d_X11_reads_144 rfl
  · replace e := (if_pos c26).symm.trans e
    refine g_ald_n d_X11_reads_98 rfl g0 ?_
    replace e := ckd e
    obtain ⟨k27, e⟩ := e
    refine g_getR d_X11_reads_99 (f := 1256) k27 fk_10_158 rfl rfl ?_
    refine r_iload d_X11_reads_102 g4 ?_
    refine g_ald_n d_X11_reads_104 rfl g0 ?_
    refine g_getR d_X11_reads_105 (f := 1227) k27 fk_10_70 rfl rfl ?_
    refine r_iload_n d_X11_reads_108 rfl g2 ?_
    replace e := ckd e
    obtain ⟨k28, e⟩ := e
    replace e := ckd e
    obtain ⟨k29, e⟩ := e
    refine g_iald d_X11_reads_109 k28 k29 rfl ?_
    replace e := ckd e
    obtain ⟨k30, e⟩ := e
    replace e := ckd e
    obtain ⟨k31, e⟩ := e
    refine g_iast d_X11_reads_110 k30 k31 ?_
    replace e := bhd e
    obtain ⟨_, rfl, e⟩ := e
    refine g_ald_n d_X11_reads_111 rfl g0 ?_
    refine g_getR d_X11_reads_112 (f := 1253) (tO_pE k27) fk_10_149 rfl rfl ?_
    refine r_iload d_X11_reads_115 g4 ?_
    refine g_ald_n d_X11_reads_117 rfl g0 ?_
    refine g_getR d_X11_reads_118 (f := 1228) (tO_pE k27) fk_10_73 rfl rfl ?_
    refine r_iload_n d_X11_reads_121 rfl g2 ?_
    replace e := ckd e
    obtain ⟨k33, e⟩ := e
    replace e := ckd e
    obtain ⟨k34, e⟩ := e
    refine g_iald d_X11_reads_122 k33 k34 rfl ?_
    refine g_ald_n d_X11_reads_123 rfl g0 ?_
    refine g_getI d_X11_reads_124 (f := 1201) (tO_pE k27) fk_10_283 rfl rfl ?_
    refine r_icmp_le d_X11_reads_127 (tgt := 139) (by decide) (fun c35 => ?_) (fun c35 => ?_)
    · replace e := (if_pos c35).symm.trans e
      refine g_ald_n d_X11_reads_139 rfl g0 ?_
      refine g_getI d_X11_reads_140 (f := 1201) (tO_pE k27) fk_10_283 rfl rfl ?_
      replace e := ckd e
      obtain ⟨k36, e⟩ := e
      replace e := ckd e
      obtain ⟨k37, e⟩ := e
      refine g_iast d_X11_reads_143 k36 k37 ?_
      replace e := bhd e
      obtain ⟨_, rfl, e⟩ := e
      obtain rfl := Option.some.inj e
      exact g_vret d_X11_reads_144 rfl
    · replace e := (if_neg c35).symm.trans e
      refine g_ald_n d_X11_reads_130 rfl g0 ?_
      refine g_getR d_X11_reads_131 (f := 1228) (tO_pE k27) fk_10_73 rfl rfl ?_
      refine r_iload_n d_X11_reads_134 rfl g2 ?_
      refine g_iald d_X11_reads_135 k33 k34 rfl ?_
      refine r_goto d_X11_reads_136 (tgt := 143) (by decide) ?_
      replace e := ckd e
      obtain ⟨k39, e⟩ := e
      replace e := ckd e
      obtain ⟨k40, e⟩ := e
      refine g_iast d_X11_reads_143 k39 k40 ?_
      replace e := bhd e
      obtain ⟨_, rfl, e⟩ := e
      obtain rfl := Option.some.inj e
      exact g_vret d_X11_reads_144 rfl

def f_X11_reads_66 (l0 : Nat) (l2 : Int32) (l4 : Int32) (l5 : Int32) (h : Hp) : Option Hp := if (l5) = ((1 : Int32)) then (ck (isO (h) (l0) 12) (ck (isO (h) (zR (h) 1256 (l0)) 22) (ck (inR (l4) (zL (h) (zR (h) 1256 (l0)))) (bh (pE (h) (zR (h) 1256 (l0)) (l4).toNatClampNeg ((1 : Int32))) (fun h20 => ck (isO (h20) (zR (h20) 1253 (l0)) 22) (ck (inR (l4) (zL (h20) (zR (h20) 1253 (l0)))) (bh (pE (h20) (zR (h20) 1253 (l0)) (l4).toNatClampNeg (zI (h20) 1201 (l0))) (fun h23 => f_X11_reads_91 (l0) (l2) (l4) (l5) (h23))))))))) else (f_X11_reads_91 (l0) (l2) (l4) (l5) (h))
theorem f_X11_reads_66_ok {G : Gd} {d : Nat} (hj : 5 ≤ d) : ∀ (l0 : Nat) (l2 : Int32) (l4 : Int32) (l5 : Int32) (L : List (Nat × Value)) (h : Hp) (o : Hp), zlk L 0 = some (zrf (l0)) → zlk L 2 = some (.int (l2)) → zlk L 4 = some (.int (l4)) → zlk L 5 = some (.int (l5)) → f_X11_reads_66 l0 l2 l4 l5 h = some o → Ev G M_X11_reads d 66 L [] h (Ret Y_X11_reads none o) := by
  intro l0 l2 l4 l5 L h o g0 g2 g4 g5 e
  unfold f_X11_reads_66 at e
  refine r_iload d_X11_reads_66 g5 ?_
  refine r_iconst d_X11_reads_68 (v := (1 : Int32)) (by decide +kernel) ?_
  refine r_icmp_ne d_X11_reads_69 (tgt := 91) (by decide) (fun c16 => ?_) (fun c16 => ?_)
  · replace e := (if_neg c16).symm.trans e
    exact f_X11_reads_91_ok hj _ _ _ _ _ _ _ g0 g2 g4 g5 e
  · replace e := (if_pos c16).symm.trans e
    refine g_ald_n d_X11_reads_72 rfl g0 ?_
    replace e := ckd e
    obtain ⟨k17, e⟩ := e
    refine g_getR d_X11_reads_73 (f := 1256) k17 fk_10_158 rfl rfl ?_
    refine r_iload d_X11_reads_76 g4 ?_
    refine r_iconst d_X11_reads_78 (v := (1 : Int32)) (by decide +kernel) ?_
    replace e := ckd e
    obtain ⟨k18, e⟩ := e
    replace e := ckd e
    obtain ⟨k19, e⟩ := e
    refine g_iast d_X11_reads_79 k18 k19 ?_
    replace e := bhd e
    obtain ⟨_, rfl, e⟩ := e
    refine g_ald_n d_X11_reads_80 rfl g0 ?_
    refine g_getR d_X11_reads_81 (f := 1253) (tO_pE k17) fk_10_149 rfl rfl ?_
    refine r_iload d_X11_reads_84 g4 ?_
    refine g_ald_n d_X11_reads_86 rfl g0 ?_
    refine g_getI d_X11_reads_87 (f := 1201) (tO_pE k17) fk_10_283 rfl rfl ?_
    replace e := ckd e
    obtain ⟨k21, e⟩ := e
    replace e := ckd e
    obtain ⟨k22, e⟩ := e
    refine g_iast d_X11_reads_90 k21 k22 ?_
    replace e := bhd e
    obtain ⟨_, rfl, e⟩ := e
    exact f_X11_reads_91_ok hj _ _ _ _ _ _ _ g0 g2 g4 g5 e

def f_X11_reads_63 (s0 : Nat) (s1 : Int32) (s2 : Int32) (s3 : Int32) (l0 : Nat) (l2 : Int32) (l4 : Int32) (l5 : Int32) (h : Hp) : Option Hp := ck (isO (h) (s0) 12) ((f_X11_keep (s0) (s1) (s2) (s3) (h)).bind (fun q24 => f_X11_reads_66 (l0) (l2) (l4) (l5) (q24)))
theorem f_X11_reads_63_ok {G : Gd} {d : Nat} (hj : 5 ≤ d) : ∀ (s0 : Nat) (s1 : Int32) (s2 : Int32) (s3 : Int32) (l0 : Nat) (l2 : Int32) (l4 : Int32) (l5 : Int32) (L : List (Nat × Value)) (h : Hp) (o : Hp), zlk L 0 = some (zrf (l0)) → zlk L 2 = some (.int (l2)) → zlk L 4 = some (.int (l4)) → zlk L 5 = some (.int (l5)) → f_X11_reads_63 s0 s1 s2 s3 l0 l2 l4 l5 h = some o → Ev G M_X11_reads d 63 L [.int (s3), .int (s2), .int (s1), zrf (s0)] h (Ret Y_X11_reads none o) := by
  intro s0 s1 s2 s3 l0 l2 l4 l5 L h o g0 g2 g4 g5 e
  unfold f_X11_reads_63 at e
  replace e := ckd e
  obtain ⟨k25, e⟩ := e
  replace e := bd e
  obtain ⟨q24, eq24, e⟩ := e
  refine g_callV d_X11_reads_63 vk_10_299 (as := [_, _, _]) rfl k25 rfl (by simp [zrf_cat, cat_int, cat_long]) (j := 4) (by omega) (c_X11_keep (by omega) eq24) ?_
  exact f_X11_reads_66_ok hj _ _ _ _ _ _ _ g0 g2 g4 g5 e

def f_X11_reads_38 (l0 : Nat) (l2 : Int32) (l3 : Int32) (l4 : Int32) (l5 : Int32) (h : Hp) : Option Hp := if ((12 : Int32)) < (l5) then (f_X11_reads_66 (l0) (l2) (l4) (l5) (h)) else (ck (isO (h) (l0) 12) (ck (isO (h) (zR (h) 1262 (l0)) 23) (ck (inR (l3) (zL (h) (zR (h) 1262 (l0)))) (if (zE (h) (zR (h) 1262 (l0)) (l3).toNatClampNeg) = (0) then (f_X11_reads_63 (l0) (l4) (l2) (l3) (l0) (l2) (l4) (l5) (h)) else (f_X11_reads_63 (l0) (l4) (l2) ((-1 : Int32)) (l0) (l2) (l4) (l5) (h))))))
theorem f_X11_reads_38_ok {G : Gd} {d : Nat} (hj : 5 ≤ d) : ∀ (l0 : Nat) (l2 : Int32) (l3 : Int32) (l4 : Int32) (l5 : Int32) (L : List (Nat × Value)) (h : Hp) (o : Hp), zlk L 0 = some (zrf (l0)) → zlk L 2 = some (.int (l2)) → zlk L 3 = some (.int (l3)) → zlk L 4 = some (.int (l4)) → zlk L 5 = some (.int (l5)) → f_X11_reads_38 l0 l2 l3 l4 l5 h = some o → Ev G M_X11_reads d 38 L [] h (Ret Y_X11_reads none o) := by
  intro l0 l2 l3 l4 l5 L h o g0 g2 g3 g4 g5 e
  unfold f_X11_reads_38 at e
  refine r_iload d_X11_reads_38 g5 ?_
  refine r_bipush d_X11_reads_40 (v := (12 : Int32)) (by decide +kernel) ?_
  refine r_icmp_gt d_X11_reads_42 (tgt := 66) (by decide) (fun c11 => ?_) (fun c11 => ?_)
  · replace e := (if_pos c11).symm.trans e
    exact f_X11_reads_66_ok hj _ _ _ _ _ _ _ g0 g2 g4 g5 e
  · replace e := (if_neg c11).symm.trans e
    refine g_ald_n d_X11_reads_45 rfl g0 ?_
    refine r_iload d_X11_reads_46 g4 ?_
    refine r_iload_n d_X11_reads_48 rfl g2 ?_
    refine g_ald_n d_X11_reads_49 rfl g0 ?_
    replace e := ckd e
    obtain ⟨k12, e⟩ := e
    refine g_getR d_X11_reads_50 (f := 1262) k12 fk_10_176 rfl rfl ?_
    refine r_iload_n d_X11_reads_53 rfl g3 ?_
    replace e := ckd e
    obtain ⟨k13, e⟩ := e
    replace e := ckd e
    obtain ⟨k14, e⟩ := e
    refine g_zald d_X11_reads_54 k13 k14 rfl ?_
    refine r_if_eq d_X11_reads_55 (tgt := 62) (by decide) (fun c15 => ?_) (fun c15 => ?_)
    · replace e := (if_pos c15).symm.trans e
      refine r_iload_n d_X11_reads_62 rfl g3 ?_
      exact f_X11_reads_63_ok hj _ _ _ _ _ _ _ _ _ _ _ g0 g2 g4 g5 e
    · replace e := (if_neg c15).symm.trans e
      refine r_iconst d_X11_reads_58 (v := (-1 : Int32)) (by decide +kernel) ?_
      refine r_goto d_X11_reads_59 (tgt := 63) (by decide) ?_
      exact f_X11_reads_63_ok hj _ _ _ _ _ _ _ _ _ _ _ g0 g2 g4 g5 e

def f_X11_reads (l0 : Nat) (l1 : Int32) (l2 : Int32) (l3 : Int32) (h : Hp) : Option Hp := ck (isO (h) (l0) 12) (ck (isO (h) (zR (h) 1225 (l0)) 22) (ck (inR (l2) (zL (h) (zR (h) 1225 (l0)))) (bh ((((16 : Int32)) * (l1)) + ((zE (h) (zR (h) 1225 (l0)) (l2).toNatClampNeg) / ((16 : Int32)))) (fun x4 => (f_X11_kindOf (l0) (l2) (h)).bind (fun q5 => if (q5.1) = (0) then (ck (isO (q5.2) (l0) 12) (ck (isO (q5.2) (zR (q5.2) 1239 (l0)) 22) (ck (inR (l1) (zL (q5.2) (zR (q5.2) 1239 (l0)))) (bh (pE (q5.2) (zR (q5.2) 1239 (l0)) (l1).toNatClampNeg ((zE (q5.2) (zR (q5.2) 1239 (l0)) (l1).toNatClampNeg) + ((1 : Int32)))) (fun h10 => f_X11_reads_38 (l0) (l2) (l3) (x4) (q5.1) (h10)))))) else (f_X11_reads_38 (l0) (l2) (l3) (x4) (q5.1) (q5.2)))))))
theorem f_X11_reads_ok {G : Gd} {d : Nat} (hj : 5 ≤ d) : ∀ (l0 : Nat) (l1 : Int32) (l2 : Int32) (l3 : Int32) (L : List (Nat × Value)) (h : Hp) (o : Hp), zlk L 0 = some (zrf (l0)) → zlk L 1 = some (.int (l1)) → zlk L 2 = some (.int (l2)) → zlk L 3 = some (.int (l3)) → f_X11_reads l0 l1 l2 l3 h = some o → Ev G M_X11_reads d 0 L [] h (Ret Y_X11_reads none o) := by
  intro l0 l1 l2 l3 L h o g0 g1 g2 g3 e
  unfold f_X11_reads at e
  refine r_bipush d_X11_reads_0 (v := (16 : Int32)) (by decide +kernel) ?_
  refine r_iload_n d_X11_reads_2 rfl g1 ?_
  refine r_imul d_X11_reads_3 ?_
  refine g_ald_n d_X11_reads_4 rfl g0 ?_
  replace e := ckd e
  obtain ⟨k1, e⟩ := e
  refine g_getR d_X11_reads_5 (f := 1225) k1 fk_10_64 rfl rfl ?_
  refine r_iload_n d_X11_reads_8 rfl g2 ?_
  replace e := ckd e
  obtain ⟨k2, e⟩ := e
  replace e := ckd e
  obtain ⟨k3, e⟩ := e
  refine g_iald d_X11_reads_9 k2 k3 rfl ?_
  refine r_bipush d_X11_reads_10 (v := (16 : Int32)) (by decide +kernel) ?_
  refine r_idiv d_X11_reads_12 (by decide +kernel) ?_
  refine r_iadd d_X11_reads_13 ?_
  replace e := bhd e
  obtain ⟨_, rfl, e⟩ := e
  refine s_istore d_X11_reads_14 (by decide) (fun L g4 gK => ?_)
  replace g0 := gK _ _ (by decide) (Or.inr (zrf_cat _)) g0
  replace g1 := gK _ _ (by decide) (Or.inr rfl) g1
  replace g2 := gK _ _ (by decide) (Or.inr rfl) g2
  replace g3 := gK _ _ (by decide) (Or.inr rfl) g3
  refine g_ald_n d_X11_reads_16 rfl g0 ?_
  refine r_iload_n d_X11_reads_17 rfl g2 ?_
  replace e := bd e
  obtain ⟨q5, eq5, e⟩ := e
  refine g_callV d_X11_reads_18 vk_10_286 (as := [_]) rfl k1 rfl (by simp [zrf_cat, cat_int, cat_long]) (j := 1) (by omega) (c_X11_kindOf (by omega) eq5) ?_
  refine s_istore d_X11_reads_21 (by decide) (fun L g5 gK => ?_)
  replace g0 := gK _ _ (by decide) (Or.inr (zrf_cat _)) g0
  replace g1 := gK _ _ (by decide) (Or.inr rfl) g1
  replace g2 := gK _ _ (by decide) (Or.inr rfl) g2
  replace g3 := gK _ _ (by decide) (Or.inr rfl) g3
  replace g4 := gK _ _ (by decide) (Or.inr rfl) g4
  refine r_iload d_X11_reads_23 g5 ?_
  refine r_if_ne d_X11_reads_25 (tgt := 38) (by decide) (fun c6 => ?_) (fun c6 => ?_)
  · replace e := (if_neg c6).symm.trans e
    exact f_X11_reads_38_ok hj _ _ _ _ _ _ _ _ g0 g2 g3 g4 g5 e
  · replace e := (if_pos c6).symm.trans e
    refine g_ald_n d_X11_reads_28 rfl g0 ?_
    replace e := ckd e
    obtain ⟨k7, e⟩ := e
    refine g_getR d_X11_reads_29 (f := 1239) k7 fk_10_107 rfl rfl ?_
    refine r_iload_n d_X11_reads_32 rfl g1 ?_
    refine r_dup2 d_X11_reads_33 rfl (zrf_cat _) ?_
    replace e := ckd e
    obtain ⟨k8, e⟩ := e
    replace e := ckd e
    obtain ⟨k9, e⟩ := e
    refine g_iald d_X11_reads_34 k8 k9 rfl ?_
    refine r_iconst d_X11_reads_35 (v := (1 : Int32)) (by decide +kernel) ?_
    refine r_iadd d_X11_reads_36 ?_
    refine g_iast d_X11_reads_37 k8 k9 ?_
    replace e := bhd e
    obtain ⟨_, rfl, e⟩ := e
    exact f_X11_reads_38_ok hj _ _ _ _ _ _ _ _ g0 g2 g3 g4 g5 e

theorem c_X11_reads {G : Gd} {j : Nat} (hj : 5 ≤ j) {l0 : Nat} {l1 : Int32} {l2 : Int32} {l3 : Int32} {h : Hp} {o : Hp} (e : f_X11_reads l0 l1 l2 l3 h = some o) : Cal G j Y_X11_reads [zrf (l0), .int (l1), .int (l2), .int (l3)] h none o := Cal.of (n := 0) (I := false) (by first | exact Or.inl (by decide +kernel) | exact Or.inr (by decide +kernel)) (by decide) (by simp [lg_sl, zrf_cat, cat_int, cat_long]) (f_X11_reads_ok hj _ _ _ _ _ h o (by simp [lv_args, zlk, zrf_cat, cat_int, cat_long]) (by simp [lv_args, zlk, zrf_cat, cat_int, cat_long]) (by simp [lv_args, zlk, zrf_cat, cat_int, cat_long]) (by simp [lv_args, zlk, zrf_cat, cat_int, cat_long]) e)
def f_X11_lastTerm (l0 : Nat) (l1 : Int32) (h : Hp) : Option (Int32 × Hp) := ck (isO (h) (l0) 12) (ck (isO (h) (zR (h) 1231 (l0)) 22) (ck (inR (l1) (zL (h) (zR (h) 1231 (l0)))) (if (zE (h) (zR (h) 1231 (l0)) (l1).toNatClampNeg) = (0) then (some ((0 : Int32), h)) else (ck (isO (h) (zR (h) 1230 (l0)) 22) (ck (inR (((((8192 : Int32)) * (l1)) + (zE (h) (zR (h) 1231 (l0)) (l1).toNatClampNeg)) - ((1 : Int32))) (zL (h) (zR (h) 1230 (l0)))) (ck (isO (h) (zR (h) 1226 (l0)) 22) (ck (inR (zE (h) (zR (h) 1230 (l0)) (((((8192 : Int32)) * (l1)) + (zE (h) (zR (h) 1231 (l0)) (l1).toNatClampNeg)) - ((1 : Int32))).toNatClampNeg) (zL (h) (zR (h) 1226 (l0)))) (some (zE (h) (zR (h) 1226 (l0)) (zE (h) (zR (h) 1230 (l0)) (((((8192 : Int32)) * (l1)) + (zE (h) (zR (h) 1231 (l0)) (l1).toNatClampNeg)) - ((1 : Int32))).toNatClampNeg).toNatClampNeg, h)))))))))
theorem f_X11_lastTerm_ok {G : Gd} {d : Nat} (hj : 1 ≤ d) : ∀ (l0 : Nat) (l1 : Int32) (L : List (Nat × Value)) (h : Hp) (o : (Int32 × Hp)), zlk L 0 = some (zrf (l0)) → zlk L 1 = some (.int (l1)) → f_X11_lastTerm l0 l1 h = some o → Ev G M_X11_lastTerm d 0 L [] h (Ret Y_X11_lastTerm (some (.int o.1)) o.2) := by
  intro l0 l1 L h o g0 g1 e
  unfold f_X11_lastTerm at e
  refine g_ald_n d_X11_lastTerm_0 rfl g0 ?_
  replace e := ckd e
  obtain ⟨k1, e⟩ := e
  refine g_getR d_X11_lastTerm_1 (f := 1231) k1 fk_10_83 rfl rfl ?_
  refine r_iload_n d_X11_lastTerm_4 rfl g1 ?_
  replace e := ckd e
  obtain ⟨k2, e⟩ := e
  replace e := ckd e
  obtain ⟨k3, e⟩ := e
  refine g_iald d_X11_lastTerm_5 k2 k3 rfl ?_
  refine r_if_ne d_X11_lastTerm_6 (tgt := 13) (by decide) (fun c4 => ?_) (fun c4 => ?_)
  · replace e := (if_neg c4).symm.trans e
    refine g_ald_n d_X11_lastTerm_13 rfl g0 ?_
    refine g_getR d_X11_lastTerm_14 (f := 1226) k1 fk_10_67 rfl rfl ?_
    refine g_ald_n d_X11_lastTerm_17 rfl g0 ?_
    refine g_getR d_X11_lastTerm_18 (f := 1230) k1 fk_10_80 rfl rfl ?_
    refine r_sipush d_X11_lastTerm_21 (v := (8192 : Int32)) (by decide +kernel) ?_
    refine r_iload_n d_X11_lastTerm_24 rfl g1 ?_
    refine r_imul d_X11_lastTerm_25 ?_
    refine g_ald_n d_X11_lastTerm_26 rfl g0 ?_
    refine g_getR d_X11_lastTerm_27 (f := 1231) k1 fk_10_83 rfl rfl ?_
    refine r_iload_n d_X11_lastTerm_30 rfl g1 ?_
    refine g_iald d_X11_lastTerm_31 k2 k3 rfl ?_
    refine r_iadd d_X11_lastTerm_32 ?_
    refine r_iconst d_X11_lastTerm_33 (v := (1 : Int32)) (by decide +kernel) ?_
    refine r_isub d_X11_lastTerm_34 ?_
    replace e := ckd e
    obtain ⟨k5, e⟩ := e
    replace e := ckd e
    obtain ⟨k6, e⟩ := e
    refine g_iald d_X11_lastTerm_35 k5 k6 rfl ?_
    replace e := ckd e
    obtain ⟨k7, e⟩ := e
    replace e := ckd e
    obtain ⟨k8, e⟩ := e
    refine g_iald d_X11_lastTerm_36 k7 k8 rfl ?_
    obtain rfl := Option.some.inj e
    exact g_iret d_X11_lastTerm_37 rfl rfl
  · replace e := (if_pos c4).symm.trans e
    refine r_iconst d_X11_lastTerm_9 (v := (0 : Int32)) (by decide +kernel) ?_
    refine r_goto d_X11_lastTerm_10 (tgt := 37) (by decide) ?_
    obtain rfl := Option.some.inj e
    exact g_iret d_X11_lastTerm_37 rfl rfl

theorem c_X11_lastTerm {G : Gd} {j : Nat} (hj : 1 ≤ j) {l0 : Nat} {l1 : Int32} {h : Hp} {o : (Int32 × Hp)} (e : f_X11_lastTerm l0 l1 h = some o) : Cal G j Y_X11_lastTerm [zrf (l0), .int (l1)] h (some (.int o.1)) o.2 := Cal.of (n := 0) (I := false) (by first | exact Or.inl (by decide +kernel) | exact Or.inr (by decide +kernel)) (by decide) (by simp [lg_sl, zrf_cat, cat_int, cat_long]) (f_X11_lastTerm_ok hj _ _ _ h o (by simp [lv_args, zlk, zrf_cat, cat_int, cat_long]) (by simp [lv_args, zlk, zrf_cat, cat_int, cat_long]) e)
theorem vk_10_271 : Vk "TaskWeaveModel" 271 1 12 Y_X11_lastTerm := ⟨yk_X11_lastTerm, by decide +kernel, by decide +kernel, by decide +kernel, by decide⟩
def f_X11_isBetter (l0 : Nat) (l1 : Int32) (l2 : Int32) (h : Hp) : Option (Int32 × Hp) := ck (isO (h) (l0) 12) ((f_X11_lastTerm (l0) (l1) (h)).bind (fun q1 => ck (isO (q1.2) (l0) 12) ((f_X11_lastTerm (l0) (l2) (q1.2)).bind (fun q3 => if (q1.1) = (q3.1) then (ck (isO (q3.2) (l0) 12) (ck (isO (q3.2) (zR (q3.2) 1231 (l0)) 22) (ck (inR (l1) (zL (q3.2) (zR (q3.2) 1231 (l0)))) (ck (inR (l2) (zL (q3.2) (zR (q3.2) 1231 (l0)))) (if (zE (q3.2) (zR (q3.2) 1231 (l0)) (l1).toNatClampNeg) ≤ (zE (q3.2) (zR (q3.2) 1231 (l0)) (l2).toNatClampNeg) then (some ((0 : Int32), q3.2)) else (some ((1 : Int32), q3.2))))))) else (ck (isO (q3.2) (l0) 12) ((f_X11_lastTerm (l0) (l1) (q3.2)).bind (fun q11 => ck (isO (q11.2) (l0) 12) ((f_X11_lastTerm (l0) (l2) (q11.2)).bind (fun q13 => if (q11.1) ≤ (q13.1) then (some ((0 : Int32), q13.2)) else (some ((1 : Int32), q13.2)))))))))))
theorem f_X11_isBetter_ok {G : Gd} {d : Nat} (hj : 2 ≤ d) : ∀ (l0 : Nat) (l1 : Int32) (l2 : Int32) (L : List (Nat × Value)) (h : Hp) (o : (Int32 × Hp)), zlk L 0 = some (zrf (l0)) → zlk L 1 = some (.int (l1)) → zlk L 2 = some (.int (l2)) → f_X11_isBetter l0 l1 l2 h = some o → Ev G M_X11_isBetter d 0 L [] h (Ret Y_X11_isBetter (some (.int o.1)) o.2) := by
  intro l0 l1 l2 L h o g0 g1 g2 e
  unfold f_X11_isBetter at e
  refine g_ald_n d_X11_isBetter_0 rfl g0 ?_
  refine r_iload_n d_X11_isBetter_1 rfl g1 ?_
  replace e := ckd e
  obtain ⟨k2, e⟩ := e
  replace e := bd e
  obtain ⟨q1, eq1, e⟩ := e
  refine g_callV d_X11_isBetter_2 vk_10_271 (as := [_]) rfl k2 rfl (by simp [zrf_cat, cat_int, cat_long]) (j := 1) (by omega) (c_X11_lastTerm (by omega) eq1) ?_
  refine g_ald_n d_X11_isBetter_5 rfl g0 ?_
  refine r_iload_n d_X11_isBetter_6 rfl g2 ?_
  replace e := ckd e
  obtain ⟨k4, e⟩ := e
  replace e := bd e
  obtain ⟨q3, eq3, e⟩ := e
  refine g_callV d_X11_isBetter_7 vk_10_271 (as := [_]) rfl k4 rfl (by simp [zrf_cat, cat_int, cat_long]) (j := 1) (by omega) (c_X11_lastTerm (by omega) eq3) ?_
  refine r_icmp_eq d_X11_isBetter_10 (tgt := 34) (by decide) (fun c5 => ?_) (fun c5 => ?_)
  · replace e := (if_pos c5).symm.trans e
    refine g_ald_n d_X11_isBetter_34 rfl g0 ?_
    replace e := ckd e
    obtain ⟨k6, e⟩ := e
    refine g_getR d_X11_isBetter_35 (f := 1231) k6 fk_10_83 rfl rfl ?_
    refine r_iload_n d_X11_isBetter_38 rfl g1 ?_
    replace e := ckd e
    obtain ⟨k7, e⟩ := e
    replace e := ckd e
    obtain ⟨k8, e⟩ := e
    refine g_iald d_X11_isBetter_39 k7 k8 rfl ?_
    refine g_ald_n d_X11_isBetter_40 rfl g0 ?_
    refine g_getR d_X11_isBetter_41 (f := 1231) k6 fk_10_83 rfl rfl ?_
    refine r_iload_n d_X11_isBetter_44 rfl g2 ?_
    replace e := ckd e
    obtain ⟨k9, e⟩ := e
    refine g_iald d_X11_isBetter_45 k7 k9 rfl ?_
    refine r_icmp_le d_X11_isBetter_46 (tgt := 53) (by decide) (fun c10 => ?_) (fun c10 => ?_)
    · replace e := (if_pos c10).symm.trans e
      refine r_iconst d_X11_isBetter_53 (v := (0 : Int32)) (by decide +kernel) ?_
      obtain rfl := Option.some.inj e
      exact g_iret d_X11_isBetter_54 rfl rfl
    · replace e := (if_neg c10).symm.trans e
      refine r_iconst d_X11_isBetter_49 (v := (1 : Int32)) (by decide +kernel) ?_
      refine r_goto d_X11_isBetter_50 (tgt := 54) (by decide) ?_
      obtain rfl := Option.some.inj e
      exact g_iret d_X11_isBetter_54 rfl rfl
  · replace e := (if_neg c5).symm.trans e
    refine g_ald_n d_X11_isBetter_13 rfl g0 ?_
    refine r_iload_n d_X11_isBetter_14 rfl g1 ?_
    replace e := ckd e
    obtain ⟨k12, e⟩ := e
    replace e := bd e
    obtain ⟨q11, eq11, e⟩ := e
    refine g_callV d_X11_isBetter_15 vk_10_271 (as := [_]) rfl k12 rfl (by simp [zrf_cat, cat_int, cat_long]) (j := 1) (by omega) (c_X11_lastTerm (by omega) eq11) ?_
    refine g_ald_n d_X11_isBetter_18 rfl g0 ?_
    refine r_iload_n d_X11_isBetter_19 rfl g2 ?_
    replace e := ckd e
    obtain ⟨k14, e⟩ := e
    replace e := bd e
    obtain ⟨q13, eq13, e⟩ := e
    refine g_callV d_X11_isBetter_20 vk_10_271 (as := [_]) rfl k14 rfl (by simp [zrf_cat, cat_int, cat_long]) (j := 1) (by omega) (c_X11_lastTerm (by omega) eq13) ?_
    refine r_icmp_le d_X11_isBetter_23 (tgt := 30) (by decide) (fun c15 => ?_) (fun c15 => ?_)
    · replace e := (if_pos c15).symm.trans e
      refine r_iconst d_X11_isBetter_30 (v := (0 : Int32)) (by decide +kernel) ?_
      refine r_goto d_X11_isBetter_31 (tgt := 54) (by decide) ?_
      obtain rfl := Option.some.inj e
      exact g_iret d_X11_isBetter_54 rfl rfl
    · replace e := (if_neg c15).symm.trans e
      refine r_iconst d_X11_isBetter_26 (v := (1 : Int32)) (by decide +kernel) ?_
      refine r_goto d_X11_isBetter_27 (tgt := 54) (by decide) ?_
      obtain rfl := Option.some.inj e
      exact g_iret d_X11_isBetter_54 rfl rfl

theorem c_X11_isBetter {G : Gd} {j : Nat} (hj : 2 ≤ j) {l0 : Nat} {l1 : Int32} {l2 : Int32} {h : Hp} {o : (Int32 × Hp)} (e : f_X11_isBetter l0 l1 l2 h = some o) : Cal G j Y_X11_isBetter [zrf (l0), .int (l1), .int (l2)] h (some (.int o.1)) o.2 := Cal.of (n := 0) (I := false) (by first | exact Or.inl (by decide +kernel) | exact Or.inr (by decide +kernel)) (by decide) (by simp [lg_sl, zrf_cat, cat_int, cat_long]) (f_X11_isBetter_ok hj _ _ _ _ h o (by simp [lv_args, zlk, zrf_cat, cat_int, cat_long]) (by simp [lv_args, zlk, zrf_cat, cat_int, cat_long]) (by simp [lv_args, zlk, zrf_cat, cat_int, cat_long]) e)
theorem vk_10_254 : Vk "TaskWeaveModel" 254 6 12 Y_X11_newRecord := ⟨yk_X11_newRecord, by decide +kernel, by decide +kernel, by decide +kernel, by decide⟩
theorem vk_10_258 : Vk "TaskWeaveModel" 258 3 12 Y_X11_spread := ⟨yk_X11_spread, by decide +kernel, by decide +kernel, by decide +kernel, by decide⟩
theorem vk_10_262 : Vk "TaskWeaveModel" 262 1 12 Y_X11_loses := ⟨yk_X11_loses, by decide +kernel, by decide +kernel, by decide +kernel, by decide⟩
def f_X11_does (KL : Nat → Int32 → Hp → Option Hp) (l0 : Nat) (l1 : Int32) (l2 : Int32) (l3 : Int32) (l4 : Int32) (l5 : Int32) (l6 : Int32) (h : Hp) : Option (Int32 × Hp) := ck (isO (h) (l0) 12) (ck (isO (h) (zR (h) 1237 (l0)) 22) (ck (inR (l1) (zL (h) (zR (h) 1237 (l0)))) (ck (isO (h) (zR (h) 1238 (l0)) 22) (ck (inR (l1) (zL (h) (zR (h) 1238 (l0)))) ((f_X11_newRecord (l0) (l2) (l3) (zE (h) (zR (h) 1238 (l0)) (l1).toNatClampNeg) (l4) (l5) (l6) (h)).bind (fun q6 => ck (isO (q6.2) (l0) 12) ((f_X11_spread (l0) (l1) (zE (h) (zR (h) 1237 (l0)) (l1).toNatClampNeg) (q6.1) (q6.2)).bind (fun q7 => if (q7.1) = (0) then (ck (isO (q7.2) (l0) 12) ((KL (l0) (l1) (q7.2)).bind (fun q10 => some ((0 : Int32), q10)))) else (some ((1 : Int32), q7.2))))))))))
theorem f_X11_does_ok {G : Gd} {d jl : Nat} (KL : Nat → Int32 → Hp → Option Hp) (hKL : ∀ {a : Nat} {b : Int32} {h o : Hp}, KL a b h = some o → Cal G jl Y_X11_loses [zrf a, .int b] h none o) (h20 : 20 ≤ jl) (hj : jl + 2 ≤ d) : ∀ (l0 : Nat) (l1 : Int32) (l2 : Int32) (l3 : Int32) (l4 : Int32) (l5 : Int32) (l6 : Int32) (L : List (Nat × Value)) (h : Hp) (o : (Int32 × Hp)), zlk L 0 = some (zrf (l0)) → zlk L 1 = some (.int (l1)) → zlk L 2 = some (.int (l2)) → zlk L 3 = some (.int (l3)) → zlk L 4 = some (.int (l4)) → zlk L 5 = some (.int (l5)) → zlk L 6 = some (.int (l6)) → f_X11_does KL l0 l1 l2 l3 l4 l5 l6 h = some o → Ev G M_X11_does d 0 L [] h (Ret Y_X11_does (some (.int o.1)) o.2) := by
  intro l0 l1 l2 l3 l4 l5 l6 L h o g0 g1 g2 g3 g4 g5 g6 e
  unfold f_X11_does at e
  refine g_ald_n d_X11_does_0 rfl g0 ?_
  refine r_iload_n d_X11_does_1 rfl g1 ?_
  refine g_ald_n d_X11_does_2 rfl g0 ?_
  replace e := ckd e
  obtain ⟨k1, e⟩ := e
  refine g_getR d_X11_does_3 (f := 1237) k1 fk_10_101 rfl rfl ?_
  refine r_iload_n d_X11_does_6 rfl g1 ?_
  replace e := ckd e
  obtain ⟨k2, e⟩ := e
  replace e := ckd e
  obtain ⟨k3, e⟩ := e
  refine g_iald d_X11_does_7 k2 k3 rfl ?_
  refine g_ald_n d_X11_does_8 rfl g0 ?_
  refine r_iload_n d_X11_does_9 rfl g2 ?_
  refine r_iload_n d_X11_does_10 rfl g3 ?_
  refine g_ald_n d_X11_does_11 rfl g0 ?_
  refine g_getR d_X11_does_12 (f := 1238) k1 fk_10_104 rfl rfl ?_
  refine r_iload_n d_X11_does_15 rfl g1 ?_
  replace e := ckd e
  obtain ⟨k4, e⟩ := e
  replace e := ckd e
  obtain ⟨k5, e⟩ := e
  refine g_iald d_X11_does_16 k4 k5 rfl ?_
  refine r_iload d_X11_does_17 g4 ?_
  refine r_iload d_X11_does_19 g5 ?_
  refine r_iload d_X11_does_21 g6 ?_
  replace e := bd e
  obtain ⟨q6, eq6, e⟩ := e
  refine g_callV d_X11_does_23 vk_10_254 (as := [_, _, _, _, _, _]) rfl k1 rfl (by simp [zrf_cat, cat_int, cat_long]) (j := 1) (by omega) (c_X11_newRecord (by omega) eq6) ?_
  replace e := ckd e
  obtain ⟨k8, e⟩ := e
  replace e := bd e
  obtain ⟨q7, eq7, e⟩ := e
  refine g_callV d_X11_does_26 vk_10_258 (as := [_, _, _]) rfl k8 rfl (by simp [zrf_cat, cat_int, cat_long]) (j := 3) (by omega) (c_X11_spread (by omega) eq7) ?_
  refine r_if_eq d_X11_does_29 (tgt := 34) (by decide) (fun c9 => ?_) (fun c9 => ?_)
  · replace e := (if_pos c9).symm.trans e
    refine g_ald_n d_X11_does_34 rfl g0 ?_
    refine r_iload_n d_X11_does_35 rfl g1 ?_
    replace e := ckd e
    obtain ⟨k11, e⟩ := e
    replace e := bd e
    obtain ⟨q10, eq10, e⟩ := e
    refine g_callV d_X11_does_36 vk_10_262 (as := [_]) rfl k11 rfl (by simp [zrf_cat, cat_int, cat_long]) (j := jl) (by omega) (hKL eq10) ?_
    refine r_iconst d_X11_does_39 (v := (0 : Int32)) (by decide +kernel) ?_
    obtain rfl := Option.some.inj e
    exact g_iret d_X11_does_40 rfl rfl
  · replace e := (if_neg c9).symm.trans e
    refine r_iconst d_X11_does_32 (v := (1 : Int32)) (by decide +kernel) ?_
    obtain rfl := Option.some.inj e
    exact g_iret d_X11_does_33 rfl rfl

theorem c_X11_does {G : Gd} {j : Nat} {jl : Nat} {KL : Nat → Int32 → Hp → Option Hp} (hKL : ∀ {a : Nat} {b : Int32} {h o : Hp}, KL a b h = some o → Cal G jl Y_X11_loses [zrf a, .int b] h none o) (h20 : 20 ≤ jl) (hj : jl + 2 ≤ j) {l0 : Nat} {l1 : Int32} {l2 : Int32} {l3 : Int32} {l4 : Int32} {l5 : Int32} {l6 : Int32} {h : Hp} {o : (Int32 × Hp)} (e : f_X11_does KL l0 l1 l2 l3 l4 l5 l6 h = some o) : Cal G j Y_X11_does [zrf (l0), .int (l1), .int (l2), .int (l3), .int (l4), .int (l5), .int (l6)] h (some (.int o.1)) o.2 := Cal.of (n := 0) (I := false) (by first | exact Or.inl (by decide +kernel) | exact Or.inr (by decide +kernel)) (by decide) (by simp [lg_sl, zrf_cat, cat_int, cat_long]) (f_X11_does_ok KL hKL h20 hj _ _ _ _ _ _ _ _ h o (by simp [lv_args, zlk, zrf_cat, cat_int, cat_long]) (by simp [lv_args, zlk, zrf_cat, cat_int, cat_long]) (by simp [lv_args, zlk, zrf_cat, cat_int, cat_long]) (by simp [lv_args, zlk, zrf_cat, cat_int, cat_long]) (by simp [lv_args, zlk, zrf_cat, cat_int, cat_long]) (by simp [lv_args, zlk, zrf_cat, cat_int, cat_long]) (by simp [lv_args, zlk, zrf_cat, cat_int, cat_long]) e)
theorem vk_10_364 : Vk "TaskWeaveModel" 364 6 12 Y_X11_does := ⟨yk_X11_does, by decide +kernel, by decide +kernel, by decide +kernel, by decide⟩
theorem vk_10_293 : Vk "TaskWeaveModel" 293 1 12 Y_X11_goThrough := ⟨yk_X11_goThrough, by decide +kernel, by decide +kernel, by decide +kernel, by decide⟩
def f_X11_makes_158 (KL : Nat → Int32 → Hp → Option Hp) (l0 : Nat) (l1 : Int32) (l2 : Int32) (l7 : Int32) (h : Hp) : Option (Int32 × Hp) := ck (isO (h) (l0) 12) (ck (isO (h) (zR (h) 1243 (l0)) 22) (ck (inR (l1) (zL (h) (zR (h) 1243 (l0)))) (if (zE (h) (zR (h) 1243 (l0)) (l1).toNatClampNeg) = (0) then (if (l2) = ((1 : Int32)) then (if (l7) = (0) then (ck (isO (h) (zR (h) 1252 (l0)) 22) (ck (inR (l1) (zL (h) (zR (h) 1252 (l0)))) (bh (pE (h) (zR (h) 1252 (l0)) (l1).toNatClampNeg ((1 : Int32))) (fun h40 => ck (isO (h40) (zR (h40) 1256 (l0)) 22) (ck (inR (l1) (zL (h40) (zR (h40) 1256 (l0)))) (bh (pE (h40) (zR (h40) 1256 (l0)) (l1).toNatClampNeg ((1 : Int32))) (fun h43 => ck (isO (h43) (zR (h43) 1253 (l0)) 22) (ck (inR (l1) (zL (h43) (zR (h43) 1253 (l0)))) (bh (pE (h43) (zR (h43) 1253 (l0)) (l1).toNatClampNeg (zI (h43) 1201 (l0))) (fun h46 => some ((1 : Int32), h46))))))))))) else (some ((1 : Int32), h))) else (some ((1 : Int32), h))) else (some ((1 : Int32), h)))))
theorem f_X11_makes_158_ok {G : Gd} {d jl : Nat} (KL : Nat → Int32 → Hp → Option Hp) (hKL : ∀ {a : Nat} {b : Int32} {h o : Hp}, KL a b h = some o → Cal G jl Y_X11_loses [zrf a, .int b] h none o) (h20 : 20 ≤ jl) (hj : jl + 3 ≤ d) : ∀ (l0 : Nat) (l1 : Int32) (l2 : Int32) (l7 : Int32) (L : List (Nat × Value)) (h : Hp) (o : (Int32 × Hp)), zlk L 0 = some (zrf (l0)) → zlk L 1 = some (.int (l1)) → zlk L 2 = some (.int (l2)) → zlk L 7 = some (.int (l7)) → f_X11_makes_158 KL l0 l1 l2 l7 h = some o → Ev G M_X11_makes d 158 L [] h (Ret Y_X11_makes (some (.int o.1)) o.2) := by
  intro l0 l1 l2 l7 L h o g0 g1 g2 g7 e
  unfold f_X11_makes_158 at e
  refine g_ald_n d_X11_makes_158 rfl g0 ?_
  replace e := ckd e
  obtain ⟨k32, e⟩ := e
  refine g_getR d_X11_makes_159 (f := 1243) k32 fk_10_119 rfl rfl ?_
  refine r_iload_n d_X11_makes_162 rfl g1 ?_
  replace e := ckd e
  obtain ⟨k33, e⟩ := e
  replace e := ckd e
  obtain ⟨k34, e⟩ := e
  refine g_iald d_X11_makes_163 k33 k34 rfl ?_
  refine r_if_ne d_X11_makes_164 (tgt := 201) (by decide) (fun c35 => ?_) (fun c35 => ?_)
  · replace e := (if_neg c35).symm.trans e
    refine r_iconst d_X11_makes_201 (v := (1 : Int32)) (by decide +kernel) ?_
    obtain rfl := Option.some.inj e
    exact g_iret d_X11_makes_202 rfl rfl
  · replace e := (if_pos c35).symm.trans e
    refine r_iload_n d_X11_makes_167 rfl g2 ?_
    refine r_iconst d_X11_makes_168 (v := (1 : Int32)) (by decide +kernel) ?_
    refine r_icmp_ne d_X11_makes_169 (tgt := 201) (by decide) (fun c36 => ?_) (fun c36 => ?_)
    · replace e := (if_neg c36).symm.trans e
      refine r_iconst d_X11_makes_201 (v := (1 : Int32)) (by decide +kernel) ?_
      obtain rfl := Option.some.inj e
      exact g_iret d_X11_makes_202 rfl rfl
    · replace e := (if_pos c36).symm.trans e
      refine r_iload d_X11_makes_172 g7 ?_
      refine r_if_ne d_X11_makes_174 (tgt := 201) (by decide) (fun c37 => ?_) (fun c37 => ?_)
      · replace e := (if_neg c37).symm.trans e
        refine r_iconst d_X11_makes_201 (v := (1 : Int32)) (by decide +kernel) ?_
        obtain rfl := Option.some.inj e
        exact g_iret d_X11_makes_202 rfl rfl
      · replace e := (if_pos c37).symm.trans e
        refine g_ald_n d_X11_makes_177 rfl g0 ?_
        refine g_getR d_X11_makes_178 (f := 1252) k32 fk_10_146 rfl rfl ?_
        refine r_iload_n d_X11_makes_181 rfl g1 ?_
        refine r_iconst d_X11_makes_182 (v := (1 : Int32)) (by decide +kernel) ?_
        replace e := ckd e
        obtain ⟨k38, e⟩ := e
        replace e := ckd e
        obtain ⟨k39, e⟩ := e
        refine g_iast d_X11_makes_183 k38 k39 ?_
        replace e := bhd e
        obtain ⟨_, rfl, e⟩ := e
        refine g_ald_n d_X11_makes_184 rfl g0 ?_
        refine g_getR d_X11_makes_185 (f := 1256) (tO_pE k32) fk_10_158 rfl rfl ?_
        refine r_iload_n d_X11_makes_188 rfl g1 ?_
        refine r_iconst d_X11_makes_189 (v := (1 : Int32)) (by decide +kernel) ?_
        replace e := ckd e
        obtain ⟨k41, e⟩ := e
        replace e := ckd e
        obtain ⟨k42, e⟩ := e
        refine g_iast d_X11_makes_190 k41 k42 ?_
        replace e := bhd e
        obtain ⟨_, rfl, e⟩ := e
        refine g_ald_n d_X11_makes_191 rfl g0 ?_
        refine g_getR d_X11_makes_192 (f := 1253) (tO_pE (tO_pE k32)) fk_10_149 rfl rfl ?_
        refine r_iload_n d_X11_makes_195 rfl g1 ?_
        refine g_ald_n d_X11_makes_196 rfl g0 ?_
        refine g_getI d_X11_makes_197 (f := 1201) (tO_pE (tO_pE k32)) fk_10_283 rfl rfl ?_
        replace e := ckd e
        obtain ⟨k44, e⟩ := e
        replace e := ckd e
        obtain ⟨k45, e⟩ := e
        refine g_iast d_X11_makes_200 k44 k45 ?_
        replace e := bhd e
        obtain ⟨_, rfl, e⟩ := e
        refine r_iconst d_X11_makes_201 (v := (1 : Int32)) (by decide +kernel) ?_
        obtain rfl := Option.some.inj e
        exact g_iret d_X11_makes_202 rfl rfl

def f_X11_makes_80 (KL : Nat → Int32 → Hp → Option Hp) (s0 : Nat) (s1 : Int32) (s2 : Int32) (s3 : Int32) (s4 : Int32) (s5 : Int32) (s6 : Int32) (l0 : Nat) (l1 : Int32) (l2 : Int32) (l6 : Int32) (l7 : Int32) (h : Hp) : Option (Int32 × Hp) := ck (isO (h) (s0) 12) ((f_X11_does KL (s0) (s1) (s2) (s3) (s4) (s5) (s6) (h)).bind (fun q11 => if (q11.1) = (0) then (some ((0 : Int32), q11.2)) else (ck (isO (q11.2) (l0) 12) (ck (isO (q11.2) (zR (q11.2) 1237 (l0)) 22) (ck (inR (l6) (zL (q11.2) (zR (q11.2) 1237 (l0)))) (bh ((((5 : Int32)) * (l6)) + (zE (q11.2) (zR (q11.2) 1237 (l0)) (l6).toNatClampNeg)) (fun x17 => ck (isO (q11.2) (zR (q11.2) 1231 (l0)) 22) (ck (inR (x17) (zL (q11.2) (zR (q11.2) 1231 (l0)))) (ck (isO (q11.2) (zR (q11.2) 1230 (l0)) 22) (ck (inR (((((8192 : Int32)) * (x17)) + (zE (q11.2) (zR (q11.2) 1231 (l0)) (x17).toNatClampNeg)) - ((1 : Int32))) (zL (q11.2) (zR (q11.2) 1230 (l0)))) ((f_X11_keep (l0) (l1) (zE (q11.2) (zR (q11.2) 1230 (l0)) (((((8192 : Int32)) * (x17)) + (zE (q11.2) (zR (q11.2) 1231 (l0)) (x17).toNatClampNeg)) - ((1 : Int32))).toNatClampNeg) ((zE (q11.2) (zR (q11.2) 1231 (l0)) (x17).toNatClampNeg) - ((1 : Int32))) (q11.2)).bind (fun q22 => ck (isO (q22) (l0) 12) ((f_X11_goThrough (l0) (l1) (q22)).bind (fun q23 => ck (isO (q23) (l0) 12) (ck (isO (q23) (zR (q23) 1243 (l0)) 22) (ck (inR (l1) (zL (q23) (zR (q23) 1243 (l0)))) (if (zE (q23) (zR (q23) 1243 (l0)) (l1).toNatClampNeg) = (0) then (f_X11_makes_158 KL (l0) (l1) (l2) (l7) (q23)) else (ck (isO (q23) (zR (q23) 1252 (l0)) 22) (ck (inR (l1) (zL (q23) (zR (q23) 1252 (l0)))) (bh (pE (q23) (zR (q23) 1252 (l0)) (l1).toNatClampNeg ((0 : Int32))) (fun h31 => f_X11_makes_158 KL (l0) (l1) (l2) (l7) (h31))))))))))))))))))))))
theorem f_X11_makes_80_ok {G : Gd} {d jl : Nat} (KL : Nat → Int32 → Hp → Option Hp) (hKL : ∀ {a : Nat} {b : Int32} {h o : Hp}, KL a b h = some o → Cal G jl Y_X11_loses [zrf a, .int b] h none o) (h20 : 20 ≤ jl) (hj : jl + 3 ≤ d) : ∀ (s0 : Nat) (s1 : Int32) (s2 : Int32) (s3 : Int32) (s4 : Int32) (s5 : Int32) (s6 : Int32) (l0 : Nat) (l1 : Int32) (l2 : Int32) (l6 : Int32) (l7 : Int32) (L : List (Nat × Value)) (h : Hp) (o : (Int32 × Hp)), zlk L 0 = some (zrf (l0)) → zlk L 1 = some (.int (l1)) → zlk L 2 = some (.int (l2)) → zlk L 6 = some (.int (l6)) → zlk L 7 = some (.int (l7)) → f_X11_makes_80 KL s0 s1 s2 s3 s4 s5 s6 l0 l1 l2 l6 l7 h = some o → Ev G M_X11_makes d 80 L [.int (s6), .int (s5), .int (s4), .int (s3), .int (s2), .int (s1), zrf (s0)] h (Ret Y_X11_makes (some (.int o.1)) o.2) := by
  intro s0 s1 s2 s3 s4 s5 s6 l0 l1 l2 l6 l7 L h o g0 g1 g2 g6 g7 e
  unfold f_X11_makes_80 at e
  replace e := ckd e
  obtain ⟨k12, e⟩ := e
  replace e := bd e
  obtain ⟨q11, eq11, e⟩ := e
  refine g_callV d_X11_makes_80 vk_10_364 (as := [_, _, _, _, _, _]) rfl k12 rfl (by simp [zrf_cat, cat_int, cat_long]) (j := jl + 2) (by omega) (c_X11_does hKL h20 (by omega) eq11) ?_
  refine r_if_ne d_X11_makes_83 (tgt := 88) (by decide) (fun c13 => ?_) (fun c13 => ?_)
  · replace e := (if_neg c13).symm.trans e
    refine r_iconst d_X11_makes_88 (v := (5 : Int32)) (by decide +kernel) ?_
    refine r_iload d_X11_makes_89 g6 ?_
    refine r_imul d_X11_makes_91 ?_
    refine g_ald_n d_X11_makes_92 rfl g0 ?_
    replace e := ckd e
    obtain ⟨k14, e⟩ := e
    refine g_getR d_X11_makes_93 (f := 1237) k14 fk_10_101 rfl rfl ?_
    refine r_iload d_X11_makes_96 g6 ?_
    replace e := ckd e
    obtain ⟨k15, e⟩ := e
    replace e := ckd e
    obtain ⟨k16, e⟩ := e
    refine g_iald d_X11_makes_98 k15 k16 rfl ?_
    refine r_iadd d_X11_makes_99 ?_
    replace e := bhd e
    obtain ⟨_, rfl, e⟩ := e
    refine s_istore d_X11_makes_100 (by decide) (fun L g8 gK => ?_)
    replace g0 := gK _ _ (by decide) (Or.inr (zrf_cat _)) g0
    replace g1 := gK _ _ (by decide) (Or.inr rfl) g1
    replace g2 := gK _ _ (by decide) (Or.inr rfl) g2
    replace g7 := gK _ _ (by decide) (Or.inr rfl) g7
    refine g_ald_n d_X11_makes_102 rfl g0 ?_
    refine r_iload_n d_X11_makes_103 rfl g1 ?_
    refine g_ald_n d_X11_makes_104 rfl g0 ?_
    refine g_getR d_X11_makes_105 (f := 1230) k14 fk_10_80 rfl rfl ?_
    refine r_sipush d_X11_makes_108 (v := (8192 : Int32)) (by decide +kernel) ?_
    refine r_iload d_X11_makes_111 g8 ?_
    refine r_imul d_X11_makes_113 ?_
    refine g_ald_n d_X11_makes_114 rfl g0 ?_
    refine g_getR d_X11_makes_115 (f := 1231) k14 fk_10_83 rfl rfl ?_
    refine r_iload d_X11_makes_118 g8 ?_
    replace e := ckd e
    obtain ⟨k18, e⟩ := e
    replace e := ckd e
    obtain ⟨k19, e⟩ := e
    refine g_iald d_X11_makes_120 k18 k19 rfl ?_
    refine r_iadd d_X11_makes_121 ?_
    refine r_iconst d_X11_makes_122 (v := (1 : Int32)) (by decide +kernel) ?_
    refine r_isub d_X11_makes_123 ?_
    replace e := ckd e
    obtain ⟨k20, e⟩ := e
    replace e := ckd e
    obtain ⟨k21, e⟩ := e
    refine g_iald d_X11_makes_124 k20 k21 rfl ?_
    refine g_ald_n d_X11_makes_125 rfl g0 ?_
    refine g_getR d_X11_makes_126 (f := 1231) k14 fk_10_83 rfl rfl ?_
    refine r_iload d_X11_makes_129 g8 ?_
    refine g_iald d_X11_makes_131 k18 k19 rfl ?_
    refine r_iconst d_X11_makes_132 (v := (1 : Int32)) (by decide +kernel) ?_
    refine r_isub d_X11_makes_133 ?_
    replace e := bd e
    obtain ⟨q22, eq22, e⟩ := e
    refine g_callV d_X11_makes_134 vk_10_299 (as := [_, _, _]) rfl k14 rfl (by simp [zrf_cat, cat_int, cat_long]) (j := 4) (by omega) (c_X11_keep (by omega) eq22) ?_
    refine g_ald_n d_X11_makes_137 rfl g0 ?_
    refine r_iload_n d_X11_makes_138 rfl g1 ?_
    replace e := ckd e
    obtain ⟨k24, e⟩ := e
    replace e := bd e
    obtain ⟨q23, eq23, e⟩ := e
    refine g_callV d_X11_makes_139 vk_10_293 (as := [_]) rfl k24 rfl (by simp [zrf_cat, cat_int, cat_long]) (j := 6) (by omega) (c_X11_goThrough (by omega) eq23) ?_
    refine g_ald_n d_X11_makes_142 rfl g0 ?_
    replace e := ckd e
    obtain ⟨k25, e⟩ := e
    refine g_getR d_X11_makes_143 (f := 1243) k25 fk_10_119 rfl rfl ?_
    refine r_iload_n d_X11_makes_146 rfl g1 ?_
    replace e := ckd e
    obtain ⟨k26, e⟩ := e
    replace e := ckd e
    obtain ⟨k27, e⟩ := e
    refine g_iald d_X11_makes_147 k26 k27 rfl ?_
    refine r_if_eq d_X11_makes_148 (tgt := 158) (by decide) (fun c28 => ?_) (fun c28 => ?_)
    · replace e := (if_pos c28).symm.trans e
      exact f_X11_makes_158_ok _ hKL h20 hj _ _ _ _ _ _ _ g0 g1 g2 g7 e
    · replace e := (if_neg c28).symm.trans e
      refine g_ald_n d_X11_makes_151 rfl g0 ?_
      refine g_getR d_X11_makes_152 (f := 1252) k25 fk_10_146 rfl rfl ?_
      refine r_iload_n d_X11_makes_155 rfl g1 ?_
      refine r_iconst d_X11_makes_156 (v := (0 : Int32)) (by decide +kernel) ?_
      replace e := ckd e
      obtain ⟨k29, e⟩ := e
      replace e := ckd e
      obtain ⟨k30, e⟩ := e
      refine g_iast d_X11_makes_157 k29 k30 ?_
      replace e := bhd e
      obtain ⟨_, rfl, e⟩ := e
      exact f_X11_makes_158_ok _ hKL h20 hj _ _ _ _ _ _ _ g0 g1 g2 g7 e
  · replace e := (if_pos c13).symm.trans e
    refine r_iconst d_X11_makes_86 (v := (0 : Int32)) (by decide +kernel) ?_
    obtain rfl := Option.some.inj e
    exact g_iret d_X11_makes_87 rfl rfl

def f_X11_makes_69 (KL : Nat → Int32 → Hp → Option Hp) (s0 : Nat) (s1 : Int32) (s2 : Int32) (s3 : Int32) (s4 : Int32) (s5 : Int32) (l0 : Nat) (l1 : Int32) (l2 : Int32) (l5 : Int32) (l6 : Int32) (l7 : Int32) (h : Hp) : Option (Int32 × Hp) := if (l7) = (0) then (f_X11_makes_80 KL (s0) (s1) (s2) (s3) (s4) (s5) (l5) (l0) (l1) (l2) (l6) (l7) (h)) else (f_X11_makes_80 KL (s0) (s1) (s2) (s3) (s4) (s5) ((0 : Int32)) (l0) (l1) (l2) (l6) (l7) (h))
theorem f_X11_makes_69_ok {G : Gd} {d jl : Nat} (KL : Nat → Int32 → Hp → Option Hp) (hKL : ∀ {a : Nat} {b : Int32} {h o : Hp}, KL a b h = some o → Cal G jl Y_X11_loses [zrf a, .int b] h none o) (h20 : 20 ≤ jl) (hj : jl + 3 ≤ d) : ∀ (s0 : Nat) (s1 : Int32) (s2 : Int32) (s3 : Int32) (s4 : Int32) (s5 : Int32) (l0 : Nat) (l1 : Int32) (l2 : Int32) (l5 : Int32) (l6 : Int32) (l7 : Int32) (L : List (Nat × Value)) (h : Hp) (o : (Int32 × Hp)), zlk L 0 = some (zrf (l0)) → zlk L 1 = some (.int (l1)) → zlk L 2 = some (.int (l2)) → zlk L 5 = some (.int (l5)) → zlk L 6 = some (.int (l6)) → zlk L 7 = some (.int (l7)) → f_X11_makes_69 KL s0 s1 s2 s3 s4 s5 l0 l1 l2 l5 l6 l7 h = some o → Ev G M_X11_makes d 69 L [.int (s5), .int (s4), .int (s3), .int (s2), .int (s1), zrf (s0)] h (Ret Y_X11_makes (some (.int o.1)) o.2) := by
  intro s0 s1 s2 s3 s4 s5 l0 l1 l2 l5 l6 l7 L h o g0 g1 g2 g5 g6 g7 e
  unfold f_X11_makes_69 at e
  refine r_iload d_X11_makes_69 g7 ?_
  refine r_if_eq d_X11_makes_71 (tgt := 78) (by decide) (fun c10 => ?_) (fun c10 => ?_)
  · replace e := (if_pos c10).symm.trans e
    refine r_iload d_X11_makes_78 g5 ?_
    exact f_X11_makes_80_ok _ hKL h20 hj _ _ _ _ _ _ _ _ _ _ _ _ _ _ _ g0 g1 g2 g6 g7 e
  · replace e := (if_neg c10).symm.trans e
    refine r_iconst d_X11_makes_74 (v := (0 : Int32)) (by decide +kernel) ?_
    refine r_goto d_X11_makes_75 (tgt := 80) (by decide) ?_
    exact f_X11_makes_80_ok _ hKL h20 hj _ _ _ _ _ _ _ _ _ _ _ _ _ _ _ g0 g1 g2 g6 g7 e

def f_X11_makes_58 (KL : Nat → Int32 → Hp → Option Hp) (s0 : Nat) (s1 : Int32) (s2 : Int32) (s3 : Int32) (s4 : Int32) (l0 : Nat) (l1 : Int32) (l2 : Int32) (l4 : Int32) (l5 : Int32) (l6 : Int32) (l7 : Int32) (h : Hp) : Option (Int32 × Hp) := if (l7) = (0) then (f_X11_makes_69 KL (s0) (s1) (s2) (s3) (s4) (l4) (l0) (l1) (l2) (l5) (l6) (l7) (h)) else (f_X11_makes_69 KL (s0) (s1) (s2) (s3) (s4) ((0 : Int32)) (l0) (l1) (l2) (l5) (l6) (l7) (h))
theorem f_X11_makes_58_ok {G : Gd} {d jl : Nat} (KL : Nat → Int32 → Hp → Option Hp) (hKL : ∀ {a : Nat} {b : Int32} {h o : Hp}, KL a b h = some o → Cal G jl Y_X11_loses [zrf a, .int b] h none o) (h20 : 20 ≤ jl) (hj : jl + 3 ≤ d) : ∀ (s0 : Nat) (s1 : Int32) (s2 : Int32) (s3 : Int32) (s4 : Int32) (l0 : Nat) (l1 : Int32) (l2 : Int32) (l4 : Int32) (l5 : Int32) (l6 : Int32) (l7 : Int32) (L : List (Nat × Value)) (h : Hp) (o : (Int32 × Hp)), zlk L 0 = some (zrf (l0)) → zlk L 1 = some (.int (l1)) → zlk L 2 = some (.int (l2)) → zlk L 4 = some (.int (l4)) → zlk L 5 = some (.int (l5)) → zlk L 6 = some (.int (l6)) → zlk L 7 = some (.int (l7)) → f_X11_makes_58 KL s0 s1 s2 s3 s4 l0 l1 l2 l4 l5 l6 l7 h = some o → Ev G M_X11_makes d 58 L [.int (s4), .int (s3), .int (s2), .int (s1), zrf (s0)] h (Ret Y_X11_makes (some (.int o.1)) o.2) := by
  intro s0 s1 s2 s3 s4 l0 l1 l2 l4 l5 l6 l7 L h o g0 g1 g2 g4 g5 g6 g7 e
  unfold f_X11_makes_58 at e
  refine r_iload d_X11_makes_58 g7 ?_
  refine r_if_eq d_X11_makes_60 (tgt := 67) (by decide) (fun c9 => ?_) (fun c9 => ?_)
  · replace e := (if_pos c9).symm.trans e
    refine r_iload d_X11_makes_67 g4 ?_
    exact f_X11_makes_69_ok _ hKL h20 hj _ _ _ _ _ _ _ _ _ _ _ _ _ _ _ g0 g1 g2 g5 g6 g7 e
  · replace e := (if_neg c9).symm.trans e
    refine r_iconst d_X11_makes_63 (v := (0 : Int32)) (by decide +kernel) ?_
    refine r_goto d_X11_makes_64 (tgt := 69) (by decide) ?_
    exact f_X11_makes_69_ok _ hKL h20 hj _ _ _ _ _ _ _ _ _ _ _ _ _ _ _ g0 g1 g2 g5 g6 g7 e

def f_X11_makes_48 (KL : Nat → Int32 → Hp → Option Hp) (s0 : Nat) (s1 : Int32) (s2 : Int32) (s3 : Int32) (l0 : Nat) (l1 : Int32) (l2 : Int32) (l3 : Int32) (l4 : Int32) (l5 : Int32) (l6 : Int32) (l7 : Int32) (h : Hp) : Option (Int32 × Hp) := if (l7) = (0) then (f_X11_makes_58 KL (s0) (s1) (s2) (s3) (l3) (l0) (l1) (l2) (l4) (l5) (l6) (l7) (h)) else (f_X11_makes_58 KL (s0) (s1) (s2) (s3) ((-1 : Int32)) (l0) (l1) (l2) (l4) (l5) (l6) (l7) (h))
theorem f_X11_makes_48_ok {G : Gd} {d jl : Nat} (KL : Nat → Int32 → Hp → Option Hp) (hKL : ∀ {a : Nat} {b : Int32} {h o : Hp}, KL a b h = some o → Cal G jl Y_X11_loses [zrf a, .int b] h none o) (h20 : 20 ≤ jl) (hj : jl + 3 ≤ d) : ∀ (s0 : Nat) (s1 : Int32) (s2 : Int32) (s3 : Int32) (l0 : Nat) (l1 : Int32) (l2 : Int32) (l3 : Int32) (l4 : Int32) (l5 : Int32) (l6 : Int32) (l7 : Int32) (L : List (Nat × Value)) (h : Hp) (o : (Int32 × Hp)), zlk L 0 = some (zrf (l0)) → zlk L 1 = some (.int (l1)) → zlk L 2 = some (.int (l2)) → zlk L 3 = some (.int (l3)) → zlk L 4 = some (.int (l4)) → zlk L 5 = some (.int (l5)) → zlk L 6 = some (.int (l6)) → zlk L 7 = some (.int (l7)) → f_X11_makes_48 KL s0 s1 s2 s3 l0 l1 l2 l3 l4 l5 l6 l7 h = some o → Ev G M_X11_makes d 48 L [.int (s3), .int (s2), .int (s1), zrf (s0)] h (Ret Y_X11_makes (some (.int o.1)) o.2) := by
  intro s0 s1 s2 s3 l0 l1 l2 l3 l4 l5 l6 l7 L h o g0 g1 g2 g3 g4 g5 g6 g7 e
  unfold f_X11_makes_48 at e
  refine r_iload d_X11_makes_48 g7 ?_
  refine r_if_eq d_X11_makes_50 (tgt := 57) (by decide) (fun c8 => ?_) (fun c8 => ?_)
  · replace e := (if_pos c8).symm.trans e
    refine r_iload_n d_X11_makes_57 rfl g3 ?_
    exact f_X11_makes_58_ok _ hKL h20 hj _ _ _ _ _ _ _ _ _ _ _ _ _ _ _ g0 g1 g2 g4 g5 g6 g7 e
  · replace e := (if_neg c8).symm.trans e
    refine r_iconst d_X11_makes_53 (v := (-1 : Int32)) (by decide +kernel) ?_
    refine r_goto d_X11_makes_54 (tgt := 58) (by decide) ?_
    exact f_X11_makes_58_ok _ hKL h20 hj _ _ _ _ _ _ _ _ _ _ _ _ _ _ _ g0 g1 g2 g4 g5 g6 g7 e

def f_X11_makes_28 (KL : Nat → Int32 → Hp → Option Hp) (s0 : Int32) (l0 : Nat) (l1 : Int32) (l2 : Int32) (l3 : Int32) (l4 : Int32) (l5 : Int32) (l6 : Int32) (h : Hp) : Option (Int32 × Hp) := if (s0) = (0) then (f_X11_makes_48 KL (l0) (l6) ((l1) - (l1) / ((16 : Int32)) * ((16 : Int32))) (l2) (l0) (l1) (l2) (l3) (l4) (l5) (l6) (s0) (h)) else (f_X11_makes_48 KL (l0) (l6) ((l1) - (l1) / ((16 : Int32)) * ((16 : Int32))) ((12 : Int32)) (l0) (l1) (l2) (l3) (l4) (l5) (l6) (s0) (h))
theorem f_X11_makes_28_ok {G : Gd} {d jl : Nat} (KL : Nat → Int32 → Hp → Option Hp) (hKL : ∀ {a : Nat} {b : Int32} {h o : Hp}, KL a b h = some o → Cal G jl Y_X11_loses [zrf a, .int b] h none o) (h20 : 20 ≤ jl) (hj : jl + 3 ≤ d) : ∀ (s0 : Int32) (l0 : Nat) (l1 : Int32) (l2 : Int32) (l3 : Int32) (l4 : Int32) (l5 : Int32) (l6 : Int32) (L : List (Nat × Value)) (h : Hp) (o : (Int32 × Hp)), zlk L 0 = some (zrf (l0)) → zlk L 1 = some (.int (l1)) → zlk L 2 = some (.int (l2)) → zlk L 3 = some (.int (l3)) → zlk L 4 = some (.int (l4)) → zlk L 5 = some (.int (l5)) → zlk L 6 = some (.int (l6)) → f_X11_makes_28 KL s0 l0 l1 l2 l3 l4 l5 l6 h = some o → Ev G M_X11_makes d 28 L [.int (s0)] h (Ret Y_X11_makes (some (.int o.1)) o.2) := by
  intro s0 l0 l1 l2 l3 l4 l5 l6 L h o g0 g1 g2 g3 g4 g5 g6 e
  unfold f_X11_makes_28 at e
  refine s_istore d_X11_makes_28 (by decide) (fun L g7 gK => ?_)
  replace g0 := gK _ _ (by decide) (Or.inr (zrf_cat _)) g0
  replace g1 := gK _ _ (by decide) (Or.inr rfl) g1
  replace g2 := gK _ _ (by decide) (Or.inr rfl) g2
  replace g3 := gK _ _ (by decide) (Or.inr rfl) g3
  replace g4 := gK _ _ (by decide) (Or.inr rfl) g4
  replace g5 := gK _ _ (by decide) (Or.inr rfl) g5
  replace g6 := gK _ _ (by decide) (Or.inr rfl) g6
  refine g_ald_n d_X11_makes_30 rfl g0 ?_
  refine r_iload d_X11_makes_31 g6 ?_
  refine r_iload_n d_X11_makes_33 rfl g1 ?_
  refine r_bipush d_X11_makes_34 (v := (16 : Int32)) (by decide +kernel) ?_
  refine r_irem d_X11_makes_36 (by decide +kernel) ?_
  refine r_iload d_X11_makes_37 g7 ?_
  refine r_if_eq d_X11_makes_39 (tgt := 47) (by decide) (fun c7 => ?_) (fun c7 => ?_)
  · replace e := (if_pos c7).symm.trans e
    refine r_iload_n d_X11_makes_47 rfl g2 ?_
    exact f_X11_makes_48_ok _ hKL h20 hj _ _ _ _ _ _ _ _ _ _ _ _ _ _ _ g0 g1 g2 g3 g4 g5 g6 g7 e
  · replace e := (if_neg c7).symm.trans e
    refine r_bipush d_X11_makes_42 (v := (12 : Int32)) (by decide +kernel) ?_
    refine r_goto d_X11_makes_44 (tgt := 48) (by decide) ?_
    exact f_X11_makes_48_ok _ hKL h20 hj _ _ _ _ _ _ _ _ _ _ _ _ _ _ _ g0 g1 g2 g3 g4 g5 g6 g7 e

def f_X11_makes_27 (KL : Nat → Int32 → Hp → Option Hp) (l0 : Nat) (l1 : Int32) (l2 : Int32) (l3 : Int32) (l4 : Int32) (l5 : Int32) (l6 : Int32) (h : Hp) : Option (Int32 × Hp) := f_X11_makes_28 KL ((0 : Int32)) (l0) (l1) (l2) (l3) (l4) (l5) (l6) (h)
theorem f_X11_makes_27_ok {G : Gd} {d jl : Nat} (KL : Nat → Int32 → Hp → Option Hp) (hKL : ∀ {a : Nat} {b : Int32} {h o : Hp}, KL a b h = some o → Cal G jl Y_X11_loses [zrf a, .int b] h none o) (h20 : 20 ≤ jl) (hj : jl + 3 ≤ d) : ∀ (l0 : Nat) (l1 : Int32) (l2 : Int32) (l3 : Int32) (l4 : Int32) (l5 : Int32) (l6 : Int32) (L : List (Nat × Value)) (h : Hp) (o : (Int32 × Hp)), zlk L 0 = some (zrf (l0)) → zlk L 1 = some (.int (l1)) → zlk L 2 = some (.int (l2)) → zlk L 3 = some (.int (l3)) → zlk L 4 = some (.int (l4)) → zlk L 5 = some (.int (l5)) → zlk L 6 = some (.int (l6)) → f_X11_makes_27 KL l0 l1 l2 l3 l4 l5 l6 h = some o → Ev G M_X11_makes d 27 L [] h (Ret Y_X11_makes (some (.int o.1)) o.2) := by
  intro l0 l1 l2 l3 l4 l5 l6 L h o g0 g1 g2 g3 g4 g5 g6 e
  unfold f_X11_makes_27 at e
  refine r_iconst d_X11_makes_27 (v := (0 : Int32)) (by decide +kernel) ?_
  exact f_X11_makes_28_ok _ hKL h20 hj _ _ _ _ _ _ _ _ _ _ _ g0 g1 g2 g3 g4 g5 g6 e

def f_X11_makes (KL : Nat → Int32 → Hp → Option Hp) (l0 : Nat) (l1 : Int32) (l2 : Int32) (l3 : Int32) (l4 : Int32) (l5 : Int32) (h : Hp) : Option (Int32 × Hp) := bh ((l1) / ((16 : Int32))) (fun x1 => ck (isO (h) (l0) 12) (ck (isO (h) (zR (h) 1241 (l0)) 22) (ck (inR (l1) (zL (h) (zR (h) 1241 (l0)))) (if (zE (h) (zR (h) 1241 (l0)) (l1).toNatClampNeg) = ((59 : Int32)) then (if ((10 : Int32)) ≤ (l2) then (f_X11_makes_27 KL (l0) (l1) (l2) (l3) (l4) (l5) (x1) (h)) else (f_X11_makes_28 KL ((1 : Int32)) (l0) (l1) (l2) (l3) (l4) (l5) (x1) (h))) else (f_X11_makes_27 KL (l0) (l1) (l2) (l3) (l4) (l5) (x1) (h))))))
theorem f_X11_makes_ok {G : Gd} {d jl : Nat} (KL : Nat → Int32 → Hp → Option Hp) (hKL : ∀ {a : Nat} {b : Int32} {h o : Hp}, KL a b h = some o → Cal G jl Y_X11_loses [zrf a, .int b] h none o) (h20 : 20 ≤ jl) (hj : jl + 3 ≤ d) : ∀ (l0 : Nat) (l1 : Int32) (l2 : Int32) (l3 : Int32) (l4 : Int32) (l5 : Int32) (L : List (Nat × Value)) (h : Hp) (o : (Int32 × Hp)), zlk L 0 = some (zrf (l0)) → zlk L 1 = some (.int (l1)) → zlk L 2 = some (.int (l2)) → zlk L 3 = some (.int (l3)) → zlk L 4 = some (.int (l4)) → zlk L 5 = some (.int (l5)) → f_X11_makes KL l0 l1 l2 l3 l4 l5 h = some o → Ev G M_X11_makes d 0 L [] h (Ret Y_X11_makes (some (.int o.1)) o.2) := by
  intro l0 l1 l2 l3 l4 l5 L h o g0 g1 g2 g3 g4 g5 e
  unfold f_X11_makes at e
  refine r_iload_n d_X11_makes_0 rfl g1 ?_
  refine r_bipush d_X11_makes_1 (v := (16 : Int32)) (by decide +kernel) ?_
  refine r_idiv d_X11_makes_3 (by decide +kernel) ?_
  replace e := bhd e
  obtain ⟨_, rfl, e⟩ := e
  refine s_istore d_X11_makes_4 (by decide) (fun L g6 gK => ?_)
  replace g0 := gK _ _ (by decide) (Or.inr (zrf_cat _)) g0
  replace g1 := gK _ _ (by decide) (Or.inr rfl) g1
  replace g2 := gK _ _ (by decide) (Or.inr rfl) g2
  replace g3 := gK _ _ (by decide) (Or.inr rfl) g3
  replace g4 := gK _ _ (by decide) (Or.inr rfl) g4
  replace g5 := gK _ _ (by decide) (Or.inr rfl) g5
  refine g_ald_n d_X11_makes_6 rfl g0 ?_
  replace e := ckd e
  obtain ⟨k2, e⟩ := e
  refine g_getR d_X11_makes_7 (f := 1241) k2 fk_10_113 rfl rfl ?_
  refine r_iload_n d_X11_makes_10 rfl g1 ?_
  replace e := ckd e
  obtain ⟨k3, e⟩ := e
  replace e := ckd e
  obtain ⟨k4, e⟩ := e
  refine g_iald d_X11_makes_11 k3 k4 rfl ?_
  refine r_bipush d_X11_makes_12 (v := (59 : Int32)) (by decide +kernel) ?_
  refine r_icmp_ne d_X11_makes_14 (tgt := 27) (by decide) (fun c5 => ?_) (fun c5 => ?_)
  · replace e := (if_neg c5).symm.trans e
    exact f_X11_makes_27_ok _ hKL h20 hj _ _ _ _ _ _ _ _ _ _ g0 g1 g2 g3 g4 g5 g6 e
  · replace e := (if_pos c5).symm.trans e
    refine r_iload_n d_X11_makes_17 rfl g2 ?_
    refine r_bipush d_X11_makes_18 (v := (10 : Int32)) (by decide +kernel) ?_
    refine r_icmp_ge d_X11_makes_20 (tgt := 27) (by decide) (fun c6 => ?_) (fun c6 => ?_)
    · replace e := (if_pos c6).symm.trans e
      exact f_X11_makes_27_ok _ hKL h20 hj _ _ _ _ _ _ _ _ _ _ g0 g1 g2 g3 g4 g5 g6 e
    · replace e := (if_neg c6).symm.trans e
      refine r_iconst d_X11_makes_23 (v := (1 : Int32)) (by decide +kernel) ?_
      refine r_goto d_X11_makes_24 (tgt := 28) (by decide) ?_
      exact f_X11_makes_28_ok _ hKL h20 hj _ _ _ _ _ _ _ _ _ _ _ g0 g1 g2 g3 g4 g5 g6 e

theorem c_X11_makes {G : Gd} {j : Nat} {jl : Nat} {KL : Nat → Int32 → Hp → Option Hp} (hKL : ∀ {a : Nat} {b : Int32} {h o : Hp}, KL a b h = some o → Cal G jl Y_X11_loses [zrf a, .int b] h none o) (h20 : 20 ≤ jl) (hj : jl + 3 ≤ j) {l0 : Nat} {l1 : Int32} {l2 : Int32} {l3 : Int32} {l4 : Int32} {l5 : Int32} {h : Hp} {o : (Int32 × Hp)} (e : f_X11_makes KL l0 l1 l2 l3 l4 l5 h = some o) : Cal G j Y_X11_makes [zrf (l0), .int (l1), .int (l2), .int (l3), .int (l4), .int (l5)] h (some (.int o.1)) o.2 := Cal.of (n := 0) (I := false) (by first | exact Or.inl (by decide +kernel) | exact Or.inr (by decide +kernel)) (by decide) (by simp [lg_sl, zrf_cat, cat_int, cat_long]) (f_X11_makes_ok KL hKL h20 hj _ _ _ _ _ _ _ h o (by simp [lv_args, zlk, zrf_cat, cat_int, cat_long]) (by simp [lv_args, zlk, zrf_cat, cat_int, cat_long]) (by simp [lv_args, zlk, zrf_cat, cat_int, cat_long]) (by simp [lv_args, zlk, zrf_cat, cat_int, cat_long]) (by simp [lv_args, zlk, zrf_cat, cat_int, cat_long]) (by simp [lv_args, zlk, zrf_cat, cat_int, cat_long]) e)
theorem vk_10_368 : Vk "TaskWeaveModel" 368 5 12 Y_X11_makes := ⟨yk_X11_makes, by decide +kernel, by decide +kernel, by decide +kernel, by decide⟩
def f_X11_goesOn_2 (KL : Nat → Int32 → Hp → Option Hp) : Nat → Nat → Int32 → Int32 → Hp → Option (Int32 × Hp)
  | 0, _, _, _, _ => none
  | n + 1, l0, l1, l2, h => if (l2) = (0) then (ck (isB (l2)) (some (l2, h))) else (ck (isO (h) (l0) 12) (ck (isO (h) (zR (h) 1243 (l0)) 22) (ck (inR (l1) (zL (h) (zR (h) 1243 (l0)))) (if (zE (h) (zR (h) 1243 (l0)) (l1).toNatClampNeg) = ((5 : Int32)) then (ck (isO (h) (zR (h) 1248 (l0)) 22) (ck (inR (l1) (zL (h) (zR (h) 1248 (l0)))) (ck (isO (h) (zR (h) 1249 (l0)) 22) (ck (inR (l1) (zL (h) (zR (h) 1249 (l0)))) (ck (isO (h) (zR (h) 1250 (l0)) 22) (ck (inR (l1) (zL (h) (zR (h) 1250 (l0)))) ((f_X11_makes KL (l0) (l1) (zE (h) (zR (h) 1248 (l0)) (l1).toNatClampNeg) (zE (h) (zR (h) 1249 (l0)) (l1).toNatClampNeg) (zE (h) (zR (h) 1250 (l0)) (l1).toNatClampNeg) ((0 : Int32)) (h)).bind (fun q14 => f_X11_goesOn_2 KL n (l0) (l1) (q14.1) (q14.2))))))))) else (ck (isB (l2)) (some (l2, h)))))))
theorem f_X11_goesOn_2_ok {G : Gd} {d jl : Nat} (KL : Nat → Int32 → Hp → Option Hp) (hKL : ∀ {a : Nat} {b : Int32} {h o : Hp}, KL a b h = some o → Cal G jl Y_X11_loses [zrf a, .int b] h none o) (h20 : 20 ≤ jl) (hj : jl + 4 ≤ d) : ∀ (n : Nat) (l0 : Nat) (l1 : Int32) (l2 : Int32) (L : List (Nat × Value)) (h : Hp) (o : (Int32 × Hp)), zlk L 0 = some (zrf (l0)) → zlk L 1 = some (.int (l1)) → zlk L 2 = some (.int (l2)) → f_X11_goesOn_2 KL n l0 l1 l2 h = some o → Ev G M_X11_goesOn d 2 L [] h (Ret Y_X11_goesOn (some (.int o.1)) o.2) := by
  intro n
  induction n with
  | zero =>
    intro l0 l1 l2 L h o g0 g1 g2 e
    cases e
  | succ n ih =>
    intro l0 l1 l2 L h o g0 g1 g2 e
    unfold f_X11_goesOn_2 at e
    refine r_iload_n d_X11_goesOn_2 rfl g2 ?_
    refine r_if_eq d_X11_goesOn_3 (tgt := 44) (by decide) (fun c1 => ?_) (fun c1 => ?_)
    · replace e := (if_pos c1).symm.trans e
      refine r_iload_n d_X11_goesOn_44 rfl g2 ?_
      replace e := ckd e
      obtain ⟨k2, e⟩ := e
      obtain rfl := Option.some.inj e
      exact g_iret d_X11_goesOn_45 rfl k2
    · replace e := (if_neg c1).symm.trans e
      refine g_ald_n d_X11_goesOn_6 rfl g0 ?_
      replace e := ckd e
      obtain ⟨k3, e⟩ := e
      refine g_getR d_X11_goesOn_7 (f := 1243) k3 fk_10_119 rfl rfl ?_
      refine r_iload_n d_X11_goesOn_10 rfl g1 ?_
      replace e := ckd e
      obtain ⟨k4, e⟩ := e
      replace e := ckd e
      obtain ⟨k5, e⟩ := e
      refine g_iald d_X11_goesOn_11 k4 k5 rfl ?_
      refine r_iconst d_X11_goesOn_12 (v := (5 : Int32)) (by decide +kernel) ?_
      refine r_icmp_ne d_X11_goesOn_13 (tgt := 44) (by decide) (fun c6 => ?_) (fun c6 => ?_)
      · replace e := (if_neg c6).symm.trans e
        refine r_iload_n d_X11_goesOn_44 rfl g2 ?_
        replace e := ckd e
        obtain ⟨k7, e⟩ := e
        obtain rfl := Option.some.inj e
        exact g_iret d_X11_goesOn_45 rfl k7
      · replace e := (if_pos c6).symm.trans e
        refine g_ald_n d_X11_goesOn_16 rfl g0 ?_
        refine r_iload_n d_X11_goesOn_17 rfl g1 ?_
        refine g_ald_n d_X11_goesOn_18 rfl g0 ?_
        refine g_getR d_X11_goesOn_19 (f := 1248) k3 fk_10_134 rfl rfl ?_
        refine r_iload_n d_X11_goesOn_22 rfl g1 ?_
        replace e := ckd e
        obtain ⟨k8, e⟩ := e
        replace e := ckd e
        obtain ⟨k9, e⟩ := e
        refine g_iald d_X11_goesOn_23 k8 k9 rfl ?_
        refine g_ald_n d_X11_goesOn_24 rfl g0 ?_
        refine g_getR d_X11_goesOn_25 (f := 1249) k3 fk_10_137 rfl rfl ?_
        refine r_iload_n d_X11_goesOn_28 rfl g1 ?_
        replace e := ckd e
        obtain ⟨k10, e⟩ := e
        replace e := ckd e
        obtain ⟨k11, e⟩ := e
        refine g_iald d_X11_goesOn_29 k10 k11 rfl ?_
        refine g_ald_n d_X11_goesOn_30 rfl g0 ?_
        refine g_getR d_X11_goesOn_31 (f := 1250) k3 fk_10_140 rfl rfl ?_
        refine r_iload_n d_X11_goesOn_34 rfl g1 ?_
        replace e := ckd e
        obtain ⟨k12, e⟩ := e
        replace e := ckd e
        obtain ⟨k13, e⟩ := e
        refine g_iald d_X11_goesOn_35 k12 k13 rfl ?_
        refine r_iconst d_X11_goesOn_36 (v := (0 : Int32)) (by decide +kernel) ?_
        replace e := bd e
        obtain ⟨q14, eq14, e⟩ := e
        refine g_callV d_X11_goesOn_37 vk_10_368 (as := [_, _, _, _, _]) rfl k3 rfl (by simp [zrf_cat, cat_int, cat_long]) (j := jl + 3) (by omega) (c_X11_makes hKL h20 (by omega) eq14) ?_
        refine s_istore_n d_X11_goesOn_40 rfl (by decide) (fun L g2 gK => ?_)
        replace g0 := gK _ _ (by decide) (Or.inr (zrf_cat _)) g0
        replace g1 := gK _ _ (by decide) (Or.inr rfl) g1
        refine r_goto d_X11_goesOn_41 (tgt := 2) (by decide) ?_
        exact ih _ _ _ _ _ _ g0 g1 g2 e

def f_X11_goesOn (KL : Nat → Int32 → Hp → Option Hp) (l0 : Nat) (l1 : Int32) (h : Hp) : Option (Int32 × Hp) := f_X11_goesOn_2 KL fz (l0) (l1) ((1 : Int32)) (h)
theorem f_X11_goesOn_ok {G : Gd} {d jl : Nat} (KL : Nat → Int32 → Hp → Option Hp) (hKL : ∀ {a : Nat} {b : Int32} {h o : Hp}, KL a b h = some o → Cal G jl Y_X11_loses [zrf a, .int b] h none o) (h20 : 20 ≤ jl) (hj : jl + 4 ≤ d) : ∀ (l0 : Nat) (l1 : Int32) (L : List (Nat × Value)) (h : Hp) (o : (Int32 × Hp)), zlk L 0 = some (zrf (l0)) → zlk L 1 = some (.int (l1)) → f_X11_goesOn KL l0 l1 h = some o → Ev G M_X11_goesOn d 0 L [] h (Ret Y_X11_goesOn (some (.int o.1)) o.2) := by
  intro l0 l1 L h o g0 g1 e
  unfold f_X11_goesOn at e
  refine r_iconst d_X11_goesOn_0 (v := (1 : Int32)) (by decide +kernel) ?_
  refine s_istore_n d_X11_goesOn_1 rfl (by decide) (fun L g2 gK => ?_)
  replace g0 := gK _ _ (by decide) (Or.inr (zrf_cat _)) g0
  replace g1 := gK _ _ (by decide) (Or.inr rfl) g1
  exact f_X11_goesOn_2_ok _ hKL h20 hj _ _ _ _ _ _ _ g0 g1 g2 e

theorem c_X11_goesOn {G : Gd} {j : Nat} {jl : Nat} {KL : Nat → Int32 → Hp → Option Hp} (hKL : ∀ {a : Nat} {b : Int32} {h o : Hp}, KL a b h = some o → Cal G jl Y_X11_loses [zrf a, .int b] h none o) (h20 : 20 ≤ jl) (hj : jl + 4 ≤ j) {l0 : Nat} {l1 : Int32} {h : Hp} {o : (Int32 × Hp)} (e : f_X11_goesOn KL l0 l1 h = some o) : Cal G j Y_X11_goesOn [zrf (l0), .int (l1)] h (some (.int o.1)) o.2 := Cal.of (n := 0) (I := false) (by first | exact Or.inl (by decide +kernel) | exact Or.inr (by decide +kernel)) (by decide) (by simp [lg_sl, zrf_cat, cat_int, cat_long]) (f_X11_goesOn_ok KL hKL h20 hj _ _ _ h o (by simp [lv_args, zlk, zrf_cat, cat_int, cat_long]) (by simp [lv_args, zlk, zrf_cat, cat_int, cat_long]) e)
theorem vk_10_289 : Vk "TaskWeaveModel" 289 3 12 Y_X11_reads := ⟨yk_X11_reads, by decide +kernel, by decide +kernel, by decide +kernel, by decide⟩
theorem vk_10_296 : Vk "TaskWeaveModel" 296 1 12 Y_X11_goesOn := ⟨yk_X11_goesOn, by decide +kernel, by decide +kernel, by decide +kernel, by decide⟩
def f_X11_build_159 (KL : Nat → Int32 → Hp → Option Hp) (K105 : Nat → Int32 → Int32 → Int32 → Hp → Option Hp) (l0 : Nat) (l1 : Int32) (l2 : Int32) (l3 : Int32) (h : Hp) : Option Hp := bh ((l3) + (1 : Int32)) (fun x59 => K105 (l0) (l1) (l2) (x59) (h))
theorem f_X11_build_159_ok {G : Gd} {d jl : Nat} (KL : Nat → Int32 → Hp → Option Hp) (hKL : ∀ {a : Nat} {b : Int32} {h o : Hp}, KL a b h = some o → Cal G jl Y_X11_loses [zrf a, .int b] h none o) (h20 : 20 ≤ jl) (K105 : Nat → Int32 → Int32 → Int32 → Hp → Option Hp) (hj : jl + 5 ≤ d) (hK105 : ∀ (l0 : Nat) (l1 : Int32) (l2 : Int32) (l3 : Int32) (L : List (Nat × Value)) (h : Hp) (o : Hp), zlk L 0 = some (zrf (l0)) → zlk L 1 = some (.int (l1)) → zlk L 2 = some (.int (l2)) → zlk L 3 = some (.int (l3)) → K105 l0 l1 l2 l3 h = some o → Ev G M_X11_build d 105 L [] h (Ret Y_X11_build none o)) : ∀ (l0 : Nat) (l1 : Int32) (l2 : Int32) (l3 : Int32) (L : List (Nat × Value)) (h : Hp) (o : Hp), zlk L 0 = some (zrf (l0)) → zlk L 1 = some (.int (l1)) → zlk L 2 = some (.int (l2)) → zlk L 3 = some (.int (l3)) → f_X11_build_159 KL K105 l0 l1 l2 l3 h = some o → Ev G M_X11_build d 159 L [] h (Ret Y_X11_build none o) := by
  intro l0 l1 l2 l3 L h o g0 g1 g2 g3 e
  unfold f_X11_build_159 at e
  replace e := bhd e
  obtain ⟨_, rfl, e⟩ := e
  refine s_iinc d_X11_build_159 g3 (w := (1 : Int32)) (by decide +kernel) (by decide) (fun L g3 gK => ?_)
  replace g0 := gK _ _ (by decide) (Or.inr (zrf_cat _)) g0
  replace g1 := gK _ _ (by decide) (Or.inr rfl) g1
  replace g2 := gK _ _ (by decide) (Or.inr rfl) g2
  refine r_goto d_X11_build_162 (tgt := 105) (by decide) ?_
  exact hK105 _ _ _ _ _ _ _ g0 g1 g2 g3 e

def f_X11_build_248 (KL : Nat → Int32 → Hp → Option Hp) (K203 : Nat → Int32 → Int32 → Hp → Option Hp) (s0 : Nat) (s1 : Int32) (s2 : Int32) (l0 : Nat) (l1 : Int32) (l3 : Int32) (h : Hp) : Option Hp := ck (isO (h) (s0) 22) (ck (inR (s1) (zL (h) (s0))) (bh (pE (h) (s0) (s1).toNatClampNeg (s2)) (fun h79 => bh ((l3) + (1 : Int32)) (fun x80 => K203 (l0) (l1) (x80) (h79)))))
theorem f_X11_build_248_ok {G : Gd} {d jl : Nat} (KL : Nat → Int32 → Hp → Option Hp) (hKL : ∀ {a : Nat} {b : Int32} {h o : Hp}, KL a b h = some o → Cal G jl Y_X11_loses [zrf a, .int b] h none o) (h20 : 20 ≤ jl) (K203 : Nat → Int32 → Int32 → Hp → Option Hp) (hj : jl + 5 ≤ d) (hK203 : ∀ (l0 : Nat) (l1 : Int32) (l3 : Int32) (L : List (Nat × Value)) (h : Hp) (o : Hp), zlk L 0 = some (zrf (l0)) → zlk L 1 = some (.int (l1)) → zlk L 3 = some (.int (l3)) → K203 l0 l1 l3 h = some o → Ev G M_X11_build d 203 L [] h (Ret Y_X11_build none o)) : ∀ (s0 : Nat) (s1 : Int32) (s2 : Int32) (l0 : Nat) (l1 : Int32) (l3 : Int32) (L : List (Nat × Value)) (h : Hp) (o : Hp), zlk L 0 = some (zrf (l0)) → zlk L 1 = some (.int (l1)) → zlk L 3 = some (.int (l3)) → f_X11_build_248 KL K203 s0 s1 s2 l0 l1 l3 h = some o → Ev G M_X11_build d 248 L [.int (s2), .int (s1), zrf (s0)] h (Ret Y_X11_build none o) := by
  intro s0 s1 s2 l0 l1 l3 L h o g0 g1 g3 e
  unfold f_X11_build_248 at e
  replace e := ckd e
  obtain ⟨k77, e⟩ := e
  replace e := ckd e
  obtain ⟨k78, e⟩ := e
  refine g_iast d_X11_build_248 k77 k78 ?_
  replace e := bhd e
  obtain ⟨_, rfl, e⟩ := e
  replace e := bhd e
  obtain ⟨_, rfl, e⟩ := e
  refine s_iinc d_X11_build_249 g3 (w := (1 : Int32)) (by decide +kernel) (by decide) (fun L g3 gK => ?_)
  replace g0 := gK _ _ (by decide) (Or.inr (zrf_cat _)) g0
  replace g1 := gK _ _ (by decide) (Or.inr rfl) g1
  refine r_goto d_X11_build_252 (tgt := 203) (by decide) ?_
  exact hK203 _ _ _ _ _ _ g0 g1 g3 e

def f_X11_build_260 (KL : Nat → Int32 → Hp → Option Hp) : Nat → Nat → Int32 → Int32 → Int32 → Hp → Option Hp
  | 0, _, _, _, _, _ => none
  | n + 1, l0, l1, l3, l4, h => if (l3) = (0) then (some (h)) else (ck (isO (h) (l0) 12) (ck (isO (h) (zR (h) 1239 (l0)) 22) (ck (inR (l1) (zL (h) (zR (h) 1239 (l0)))) (if (zE (h) (zR (h) 1239 (l0)) (l1).toNatClampNeg) ≤ (l4) then (some (h)) else ((f_X11_goesOn KL (l0) ((((16 : Int32)) * (l1)) + (l4)) (h)).bind (fun q75 => bh ((l4) + (1 : Int32)) (fun x76 => f_X11_build_260 KL n (l0) (l1) (q75.1) (x76) (q75.2))))))))
theorem f_X11_build_260_ok {G : Gd} {d jl : Nat} (KL : Nat → Int32 → Hp → Option Hp) (hKL : ∀ {a : Nat} {b : Int32} {h o : Hp}, KL a b h = some o → Cal G jl Y_X11_loses [zrf a, .int b] h none o) (h20 : 20 ≤ jl) (hj : jl + 5 ≤ d) : ∀ (n : Nat) (l0 : Nat) (l1 : Int32) (l3 : Int32) (l4 : Int32) (L : List (Nat × Value)) (h : Hp) (o : Hp), zlk L 0 = some (zrf (l0)) → zlk L 1 = some (.int (l1)) → zlk L 3 = some (.int (l3)) → zlk L 4 = some (.int (l4)) → f_X11_build_260 KL n l0 l1 l3 l4 h = some o → Ev G M_X11_build d 260 L [] h (Ret Y_X11_build none o) := by
  intro n
  induction n with
  | zero =>
    intro l0 l1 l3 l4 L h o g0 g1 g3 g4 e
    cases e
  | succ n ih =>
    intro l0 l1 l3 l4 L h o g0 g1 g3 g4 e
    unfold f_X11_build_260 at e
    refine r_iload_n d_X11_build_260 rfl g3 ?_
    refine r_if_eq d_X11_build_261 (tgt := 293) (by decide) (fun c70 => ?_) (fun c70 => ?_)
    · replace e := (if_pos c70).symm.trans e
      obtain rfl := Option.some.inj e
      exact g_vret d_X11_build_293 rfl
    · replace e := (if_neg c70).symm.trans e
      refine r_iload d_X11_build_264 g4 ?_
      refine g_ald_n d_X11_build_266 rfl g0 ?_
      replace e := ckd e
      obtain ⟨k71, e⟩ := e
      refine g_getR d_X11_build_267 (f := 1239) k71 fk_10_107 rfl rfl ?_
      refine r_iload_n d_X11_build_270 rfl g1 ?_
      replace e := ckd e
      obtain ⟨k72, e⟩ := e
      replace e := ckd e
      obtain ⟨k73, e⟩ := e
      refine g_iald d_X11_build_271 k72 k73 rfl ?_
      refine r_icmp_ge d_X11_build_272 (tgt := 293) (by decide) (fun c74 => ?_) (fun c74 => ?_)
      · replace e := (if_pos c74).symm.trans e
        obtain rfl := Option.some.inj e
        exact g_vret d_X11_build_293 rfl
      · replace e := (if_neg c74).symm.trans e
        refine g_ald_n d_X11_build_275 rfl g0 ?_
        refine r_bipush d_X11_build_276 (v := (16 : Int32)) (by decide +kernel) ?_
        refine r_iload_n d_X11_build_278 rfl g1 ?_
        refine r_imul d_X11_build_279 ?_
        refine r_iload d_X11_build_280 g4 ?_
        refine r_iadd d_X11_build_282 ?_
        replace e := bd e
        obtain ⟨q75, eq75, e⟩ := e
        refine g_callV d_X11_build_283 vk_10_296 (as := [_]) rfl k71 rfl (by simp [zrf_cat, cat_int, cat_long]) (j := jl + 4) (by omega) (c_X11_goesOn hKL h20 (by omega) eq75) ?_
        refine s_istore_n d_X11_build_286 rfl (by decide) (fun L g3 gK => ?_)
        replace g0 := gK _ _ (by decide) (Or.inr (zrf_cat _)) g0
        replace g1 := gK _ _ (by decide) (Or.inr rfl) g1
        replace g4 := gK _ _ (by decide) (Or.inr rfl) g4
        replace e := bhd e
        obtain ⟨_, rfl, e⟩ := e
        refine s_iinc d_X11_build_287 g4 (w := (1 : Int32)) (by decide +kernel) (by decide) (fun L g4 gK => ?_)
        replace g0 := gK _ _ (by decide) (Or.inr (zrf_cat _)) g0
        replace g1 := gK _ _ (by decide) (Or.inr rfl) g1
        replace g3 := gK _ _ (by decide) (Or.inr rfl) g3
        refine r_goto d_X11_build_290 (tgt := 260) (by decide) ?_
        exact ih _ _ _ _ _ _ _ g0 g1 g3 g4 e

def f_X11_build_203 (KL : Nat → Int32 → Hp → Option Hp) : Nat → Nat → Int32 → Int32 → Hp → Option Hp
  | 0, _, _, _, _ => none
  | n + 1, l0, l1, l3, h => ck (isO (h) (l0) 12) (ck (isO (h) (zR (h) 1239 (l0)) 22) (ck (inR (l1) (zL (h) (zR (h) 1239 (l0)))) (if (zE (h) (zR (h) 1239 (l0)) (l1).toNatClampNeg) ≤ (l3) then (f_X11_build_260 KL fz (l0) (l1) ((1 : Int32)) ((0 : Int32)) (h)) else (bh ((((16 : Int32)) * (l1)) + (l3)) (fun x64 => (f_X11_goThrough (l0) (x64) (h)).bind (fun q65 => ck (isO (q65) (l0) 12) (ck (isO (q65) (zR (q65) 1243 (l0)) 22) (ck (inR (x64) (zL (q65) (zR (q65) 1243 (l0)))) (if (zE (q65) (zR (q65) 1243 (l0)) (x64).toNatClampNeg) = (0) then (f_X11_build_248 KL (f_X11_build_203 KL n) (zR (q65) 1252 (l0)) (x64) ((1 : Int32)) (l0) (l1) (l3) (q65)) else (f_X11_build_248 KL (f_X11_build_203 KL n) (zR (q65) 1252 (l0)) (x64) ((0 : Int32)) (l0) (l1) (l3) (q65)))))))))))
theorem f_X11_build_203_ok {G : Gd} {d jl : Nat} (KL : Nat → Int32 → Hp → Option Hp) (hKL : ∀ {a : Nat} {b : Int32} {h o : Hp}, KL a b h = some o → Cal G jl Y_X11_loses [zrf a, .int b] h none o) (h20 : 20 ≤ jl) (hj : jl + 5 ≤ d) : ∀ (n : Nat) (l0 : Nat) (l1 : Int32) (l3 : Int32) (L : List (Nat × Value)) (h : Hp) (o : Hp), zlk L 0 = some (zrf (l0)) → zlk L 1 = some (.int (l1)) → zlk L 3 = some (.int (l3)) → f_X11_build_203 KL n l0 l1 l3 h = some o → Ev G M_X11_build d 203 L [] h (Ret Y_X11_build none o) := by
  intro n
  induction n with
  | zero =>
    intro l0 l1 l3 L h o g0 g1 g3 e
    cases e
  | succ n ih =>
    intro l0 l1 l3 L h o g0 g1 g3 e
    unfold f_X11_build_203 at e
    refine r_iload_n d_X11_build_203 rfl g3 ?_
    refine g_ald_n d_X11_build_204 rfl g0 ?_
    replace e := ckd e
    obtain ⟨k60, e⟩ := e
    refine g_getR d_X11_build_205 (f := 1239) k60 fk_10_107 rfl rfl ?_
    refine r_iload_n d_X11_build_208 rfl g1 ?_
    replace e := ckd e
    obtain ⟨k61, e⟩ := e
    replace e := ckd e
    obtain ⟨k62, e⟩ := e
    refine g_iald d_X11_build_209 k61 k62 rfl ?_
    refine r_icmp_ge d_X11_build_210 (tgt := 255) (by decide) (fun c63 => ?_) (fun c63 => ?_)
    · replace e := (if_pos c63).symm.trans e
      refine r_iconst d_X11_build_255 (v := (1 : Int32)) (by decide +kernel) ?_
      refine s_istore_n d_X11_build_256 rfl (by decide) (fun L g3 gK => ?_)
      replace g0 := gK _ _ (by decide) (Or.inr (zrf_cat _)) g0
      replace g1 := gK _ _ (by decide) (Or.inr rfl) g1
      refine r_iconst d_X11_build_257 (v := (0 : Int32)) (by decide +kernel) ?_
      refine s_istore d_X11_build_258 (by decide) (fun L g4 gK => ?_)
      replace g0 := gK _ _ (by decide) (Or.inr (zrf_cat _)) g0
      replace g1 := gK _ _ (by decide) (Or.inr rfl) g1
      replace g3 := gK _ _ (by decide) (Or.inr rfl) g3
      exact f_X11_build_260_ok _ hKL h20 hj _ _ _ _ _ _ _ _ g0 g1 g3 g4 e
    · replace e := (if_neg c63).symm.trans e
      refine r_bipush d_X11_build_213 (v := (16 : Int32)) (by decide +kernel) ?_
      refine r_iload_n d_X11_build_215 rfl g1 ?_
      refine r_imul d_X11_build_216 ?_
      refine r_iload_n d_X11_build_217 rfl g3 ?_
      refine r_iadd d_X11_build_218 ?_
      replace e := bhd e
      obtain ⟨_, rfl, e⟩ := e
      refine s_istore d_X11_build_219 (by decide) (fun L g4 gK => ?_)
      replace g0 := gK _ _ (by decide) (Or.inr (zrf_cat _)) g0
      replace g1 := gK _ _ (by decide) (Or.inr rfl) g1
      replace g3 := gK _ _ (by decide) (Or.inr rfl) g3
      refine g_ald_n d_X11_build_221 rfl g0 ?_
      refine r_iload d_X11_build_222 g4 ?_
      replace e := bd e
      obtain ⟨q65, eq65, e⟩ := e
      refine g_callV d_X11_build_224 vk_10_293 (as := [_]) rfl k60 rfl (by simp [zrf_cat, cat_int, cat_long]) (j := 6) (by omega) (c_X11_goThrough (by omega) eq65) ?_
      refine g_ald_n d_X11_build_227 rfl g0 ?_
      replace e := ckd e
      obtain ⟨k66, e⟩ := e
      refine g_getR d_X11_build_228 (f := 1252) k66 fk_10_146 rfl rfl ?_
      refine r_iload d_X11_build_231 g4 ?_
      refine g_ald_n d_X11_build_233 rfl g0 ?_
      refine g_getR d_X11_build_234 (f := 1243) k66 fk_10_119 rfl rfl ?_
      refine r_iload d_X11_build_237 g4 ?_
      replace e := ckd e
      obtain ⟨k67, e⟩ := e
      replace e := ckd e
      obtain ⟨k68, e⟩ := e
      refine g_iald d_X11_build_239 k67 k68 rfl ?_
      refine r_if_ne d_X11_build_240 (tgt := 247) (by decide) (fun c69 => ?_) (fun c69 => ?_)
      · replace e := (if_neg c69).symm.trans e
        refine r_iconst d_X11_build_247 (v := (0 : Int32)) (by decide +kernel) ?_
        exact f_X11_build_248_ok _ hKL h20 _ hj ih _ _ _ _ _ _ _ _ _ g0 g1 g3 e
      · replace e := (if_pos c69).symm.trans e
        refine r_iconst d_X11_build_243 (v := (1 : Int32)) (by decide +kernel) ?_
        refine r_goto d_X11_build_244 (tgt := 248) (by decide) ?_
        exact f_X11_build_248_ok _ hKL h20 _ hj ih _ _ _ _ _ _ _ _ _ g0 g1 g3 e

def f_X11_build_167 (KL : Nat → Int32 → Hp → Option Hp) : Nat → Nat → Int32 → Int32 → Int32 → Hp → Option Hp
  | 0, _, _, _, _, _ => none
  | n + 1, l0, l1, l2, l3, h => ck (isO (h) (l0) 12) (ck (isO (h) (zR (h) 1231 (l0)) 22) (ck (inR (l2) (zL (h) (zR (h) 1231 (l0)))) (if (zE (h) (zR (h) 1231 (l0)) (l2).toNatClampNeg) ≤ (l3) then (f_X11_build_203 KL fz (l0) (l1) ((0 : Int32)) (h)) else (ck (isO (h) (zR (h) 1230 (l0)) 22) (ck (inR ((((8192 : Int32)) * (l2)) + (l3)) (zL (h) (zR (h) 1230 (l0)))) ((f_X11_reads (l0) (l1) (zE (h) (zR (h) 1230 (l0)) ((((8192 : Int32)) * (l2)) + (l3)).toNatClampNeg) (l3) (h)).bind (fun q57 => bh ((l3) + (1 : Int32)) (fun x58 => f_X11_build_167 KL n (l0) (l1) (l2) (x58) (q57)))))))))
theorem f_X11_build_167_ok {G : Gd} {d jl : Nat} (KL : Nat → Int32 → Hp → Option Hp) (hKL : ∀ {a : Nat} {b : Int32} {h o : Hp}, KL a b h = some o → Cal G jl Y_X11_loses [zrf a, .int b] h none o) (h20 : 20 ≤ jl) (hj : jl + 5 ≤ d) : ∀ (n : Nat) (l0 : Nat) (l1 : Int32) (l2 : Int32) (l3 : Int32) (L : List (Nat × Value)) (h : Hp) (o : Hp), zlk L 0 = some (zrf (l0)) → zlk L 1 = some (.int (l1)) → zlk L 2 = some (.int (l2)) → zlk L 3 = some (.int (l3)) → f_X11_build_167 KL n l0 l1 l2 l3 h = some o → Ev G M_X11_build d 167 L [] h (Ret Y_X11_build none o) := by
  intro n
  induction n with
  | zero =>
    intro l0 l1 l2 l3 L h o g0 g1 g2 g3 e
    cases e
  | succ n ih =>
    intro l0 l1 l2 l3 L h o g0 g1 g2 g3 e
    unfold f_X11_build_167 at e
    refine r_iload_n d_X11_build_167 rfl g3 ?_
    refine g_ald_n d_X11_build_168 rfl g0 ?_
    replace e := ckd e
    obtain ⟨k51, e⟩ := e
    refine g_getR d_X11_build_169 (f := 1231) k51 fk_10_83 rfl rfl ?_
    refine r_iload_n d_X11_build_172 rfl g2 ?_
    replace e := ckd e
    obtain ⟨k52, e⟩ := e
    replace e := ckd e
    obtain ⟨k53, e⟩ := e
    refine g_iald d_X11_build_173 k52 k53 rfl ?_
    refine r_icmp_ge d_X11_build_174 (tgt := 201) (by decide) (fun c54 => ?_) (fun c54 => ?_)
    · replace e := (if_pos c54).symm.trans e
      refine r_iconst d_X11_build_201 (v := (0 : Int32)) (by decide +kernel) ?_
      refine s_istore_n d_X11_build_202 rfl (by decide) (fun L g3 gK => ?_)
      replace g0 := gK _ _ (by decide) (Or.inr (zrf_cat _)) g0
      replace g1 := gK _ _ (by decide) (Or.inr rfl) g1
      exact f_X11_build_203_ok _ hKL h20 hj _ _ _ _ _ _ _ g0 g1 g3 e
    · replace e := (if_neg c54).symm.trans e
      refine g_ald_n d_X11_build_177 rfl g0 ?_
      refine r_iload_n d_X11_build_178 rfl g1 ?_
      refine g_ald_n d_X11_build_179 rfl g0 ?_
      refine g_getR d_X11_build_180 (f := 1230) k51 fk_10_80 rfl rfl ?_
      refine r_sipush d_X11_build_183 (v := (8192 : Int32)) (by decide +kernel) ?_
      refine r_iload_n d_X11_build_186 rfl g2 ?_
      refine r_imul d_X11_build_187 ?_
      refine r_iload_n d_X11_build_188 rfl g3 ?_
      refine r_iadd d_X11_build_189 ?_
      replace e := ckd e
      obtain ⟨k55, e⟩ := e
      replace e := ckd e
      obtain ⟨k56, e⟩ := e
      refine g_iald d_X11_build_190 k55 k56 rfl ?_
      refine r_iload_n d_X11_build_191 rfl g3 ?_
      replace e := bd e
      obtain ⟨q57, eq57, e⟩ := e
      refine g_callV d_X11_build_192 vk_10_289 (as := [_, _, _]) rfl k51 rfl (by simp [zrf_cat, cat_int, cat_long]) (j := 5) (by omega) (c_X11_reads (by omega) eq57) ?_
      replace e := bhd e
      obtain ⟨_, rfl, e⟩ := e
      refine s_iinc d_X11_build_195 g3 (w := (1 : Int32)) (by decide +kernel) (by decide) (fun L g3 gK => ?_)
      replace g0 := gK _ _ (by decide) (Or.inr (zrf_cat _)) g0
      replace g1 := gK _ _ (by decide) (Or.inr rfl) g1
      replace g2 := gK _ _ (by decide) (Or.inr rfl) g2
      refine r_goto d_X11_build_198 (tgt := 167) (by decide) ?_
      exact ih _ _ _ _ _ _ _ g0 g1 g2 g3 e

def f_X11_build_105 (KL : Nat → Int32 → Hp → Option Hp) : Nat → Nat → Int32 → Int32 → Int32 → Hp → Option Hp
  | 0, _, _, _, _, _ => none
  | n + 1, l0, l1, l2, l3, h => ck (isO (h) (l0) 12) (ck (isO (h) (zR (h) 1231 (l0)) 22) (ck (inR (l2) (zL (h) (zR (h) 1231 (l0)))) (if (zE (h) (zR (h) 1231 (l0)) (l2).toNatClampNeg) ≤ (l3) then (f_X11_build_167 KL fz (l0) (l1) (l2) ((0 : Int32)) (h)) else (ck (isO (h) (zR (h) 1230 (l0)) 22) (ck (inR ((((8192 : Int32)) * (l2)) + (l3)) (zL (h) (zR (h) 1230 (l0)))) ((f_X11_kindOf (l0) (zE (h) (zR (h) 1230 (l0)) ((((8192 : Int32)) * (l2)) + (l3)).toNatClampNeg) (h)).bind (fun q41 => if (q41.1) = ((14 : Int32)) then (ck (isO (q41.2) (l0) 12) (ck (isO (q41.2) (zR (q41.2) 1230 (l0)) 22) (ck (inR ((((8192 : Int32)) * (l2)) + (l3)) (zL (q41.2) (zR (q41.2) 1230 (l0)))) (ck (isO (q41.2) (zR (q41.2) 1227 (l0)) 22) (ck (inR (zE (q41.2) (zR (q41.2) 1230 (l0)) ((((8192 : Int32)) * (l2)) + (l3)).toNatClampNeg) (zL (q41.2) (zR (q41.2) 1227 (l0)))) (ck (isO (q41.2) (zR (q41.2) 1262 (l0)) 23) (ck (inR (zE (q41.2) (zR (q41.2) 1227 (l0)) (zE (q41.2) (zR (q41.2) 1230 (l0)) ((((8192 : Int32)) * (l2)) + (l3)).toNatClampNeg).toNatClampNeg) (zL (q41.2) (zR (q41.2) 1262 (l0)))) (bh (pE (q41.2) (zR (q41.2) 1262 (l0)) (zE (q41.2) (zR (q41.2) 1227 (l0)) (zE (q41.2) (zR (q41.2) 1230 (l0)) ((((8192 : Int32)) * (l2)) + (l3)).toNatClampNeg).toNatClampNeg).toNatClampNeg ((((1 : Int32)) &&& 1))) (fun h50 => f_X11_build_159 KL (f_X11_build_105 KL n) (l0) (l1) (l2) (l3) (h50)))))))))) else (f_X11_build_159 KL (f_X11_build_105 KL n) (l0) (l1) (l2) (l3) (q41.2)))))))))
theorem f_X11_build_105_ok {G : Gd} {d jl : Nat} (KL : Nat → Int32 → Hp → Option Hp) (hKL : ∀ {a : Nat} {b : Int32} {h o : Hp}, KL a b h = some o → Cal G jl Y_X11_loses [zrf a, .int b] h none o) (h20 : 20 ≤ jl) (hj : jl + 5 ≤ d) : ∀ (n : Nat) (l0 : Nat) (l1 : Int32) (l2 : Int32) (l3 : Int32) (L : List (Nat × Value)) (h : Hp) (o : Hp), zlk L 0 = some (zrf (l0)) → zlk L 1 = some (.int (l1)) → zlk L 2 = some (.int (l2)) → zlk L 3 = some (.int (l3)) → f_X11_build_105 KL n l0 l1 l2 l3 h = some o → Ev G M_X11_build d 105 L [] h (Ret Y_X11_build none o) := by
  intro n
  induction n with
  | zero =>
    intro l0 l1 l2 l3 L h o g0 g1 g2 g3 e
    cases e
  | succ n ih =>
    intro l0 l1 l2 l3 L h o g0 g1 g2 g3 e
    unfold f_X11_build_105 at e
    refine r_iload_n d_X11_build_105 rfl g3 ?_
    refine g_ald_n d_X11_build_106 rfl g0 ?_
    replace e := ckd e
    obtain ⟨k35, e⟩ := e
    refine g_getR d_X11_build_107 (f := 1231) k35 fk_10_83 rfl rfl ?_
    refine r_iload_n d_X11_build_110 rfl g2 ?_
    replace e := ckd e
    obtain ⟨k36, e⟩ := e
    replace e := ckd e
    obtain ⟨k37, e⟩ := e
    refine g_iald d_X11_build_111 k36 k37 rfl ?_
    refine r_icmp_ge d_X11_build_112 (tgt := 165) (by decide) (fun c38 => ?_) (fun c38 => ?_)
    · replace e := (if_pos c38).symm.trans e
      refine r_iconst d_X11_build_165 (v := (0 : Int32)) (by decide +kernel) ?_
      refine s_istore_n d_X11_build_166 rfl (by decide) (fun L g3 gK => ?_)
      replace g0 := gK _ _ (by decide) (Or.inr (zrf_cat _)) g0
      replace g1 := gK _ _ (by decide) (Or.inr rfl) g1
      replace g2 := gK _ _ (by decide) (Or.inr rfl) g2
      exact f_X11_build_167_ok _ hKL h20 hj _ _ _ _ _ _ _ _ g0 g1 g2 g3 e
    · replace e := (if_neg c38).symm.trans e
      refine g_ald_n d_X11_build_115 rfl g0 ?_
      refine g_ald_n d_X11_build_116 rfl g0 ?_
      refine g_getR d_X11_build_117 (f := 1230) k35 fk_10_80 rfl rfl ?_
      refine r_sipush d_X11_build_120 (v := (8192 : Int32)) (by decide +kernel) ?_
      refine r_iload_n d_X11_build_123 rfl g2 ?_
      refine r_imul d_X11_build_124 ?_
      refine r_iload_n d_X11_build_125 rfl g3 ?_
      refine r_iadd d_X11_build_126 ?_
      replace e := ckd e
      obtain ⟨k39, e⟩ := e
      replace e := ckd e
      obtain ⟨k40, e⟩ := e
      refine g_iald d_X11_build_127 k39 k40 rfl ?_
      replace e := bd e
      obtain ⟨q41, eq41, e⟩ := e
      refine g_callV d_X11_build_128 vk_10_286 (as := [_]) rfl k35 rfl (by simp [zrf_cat, cat_int, cat_long]) (j := 1) (by omega) (c_X11_kindOf (by omega) eq41) ?_
      refine r_bipush d_X11_build_131 (v := (14 : Int32)) (by decide +kernel) ?_
      refine r_icmp_ne d_X11_build_133 (tgt := 159) (by decide) (fun c42 => ?_) (fun c42 => ?_)
      · replace e := (if_neg c42).symm.trans e
        exact f_X11_build_159_ok _ hKL h20 _ hj ih _ _ _ _ _ _ _ g0 g1 g2 g3 e
      · replace e := (if_pos c42).symm.trans e
        refine g_ald_n d_X11_build_136 rfl g0 ?_
        replace e := ckd e
        obtain ⟨k43, e⟩ := e
        refine g_getR d_X11_build_137 (f := 1262) k43 fk_10_176 rfl rfl ?_
        refine g_ald_n d_X11_build_140 rfl g0 ?_
        refine g_getR d_X11_build_141 (f := 1227) k43 fk_10_70 rfl rfl ?_
        refine g_ald_n d_X11_build_144 rfl g0 ?_
        refine g_getR d_X11_build_145 (f := 1230) k43 fk_10_80 rfl rfl ?_
        refine r_sipush d_X11_build_148 (v := (8192 : Int32)) (by decide +kernel) ?_
        refine r_iload_n d_X11_build_151 rfl g2 ?_
        refine r_imul d_X11_build_152 ?_
        refine r_iload_n d_X11_build_153 rfl g3 ?_
        refine r_iadd d_X11_build_154 ?_
        replace e := ckd e
        obtain ⟨k44, e⟩ := e
        replace e := ckd e
        obtain ⟨k45, e⟩ := e
        refine g_iald d_X11_build_155 k44 k45 rfl ?_
        replace e := ckd e
        obtain ⟨k46, e⟩ := e
        replace e := ckd e
        obtain ⟨k47, e⟩ := e
        refine g_iald d_X11_build_156 k46 k47 rfl ?_
        refine r_iconst d_X11_build_157 (v := (1 : Int32)) (by decide +kernel) ?_
        replace e := ckd e
        obtain ⟨k48, e⟩ := e
        replace e := ckd e
        obtain ⟨k49, e⟩ := e
        refine g_zast d_X11_build_158 k48 k49 ?_
        replace e := bhd e
        obtain ⟨_, rfl, e⟩ := e
        exact f_X11_build_159_ok _ hKL h20 _ hj ih _ _ _ _ _ _ _ g0 g1 g2 g3 e

def f_X11_build_80 (KL : Nat → Int32 → Hp → Option Hp) : Nat → Nat → Int32 → Int32 → Int32 → Hp → Option Hp
  | 0, _, _, _, _, _ => none
  | n + 1, l0, l1, l2, l3, h => ck (isO (h) (l0) 12) (ck (isO (h) (zR (h) 1231 (l0)) 22) (ck (inR (l2) (zL (h) (zR (h) 1231 (l0)))) (if (zE (h) (zR (h) 1231 (l0)) (l2).toNatClampNeg) ≤ (l3) then (f_X11_build_105 KL fz (l0) (l1) (l2) ((0 : Int32)) (h)) else (ck (isO (h) (zR (h) 1262 (l0)) 23) (ck (inR (l3) (zL (h) (zR (h) 1262 (l0)))) (bh (pE (h) (zR (h) 1262 (l0)) (l3).toNatClampNeg ((((0 : Int32)) &&& 1))) (fun h33 => bh ((l3) + (1 : Int32)) (fun x34 => f_X11_build_80 KL n (l0) (l1) (l2) (x34) (h33)))))))))
theorem f_X11_build_80_ok {G : Gd} {d jl : Nat} (KL : Nat → Int32 → Hp → Option Hp) (hKL : ∀ {a : Nat} {b : Int32} {h o : Hp}, KL a b h = some o → Cal G jl Y_X11_loses [zrf a, .int b] h none o) (h20 : 20 ≤ jl) (hj : jl + 5 ≤ d) : ∀ (n : Nat) (l0 : Nat) (l1 : Int32) (l2 : Int32) (l3 : Int32) (L : List (Nat × Value)) (h : Hp) (o : Hp), zlk L 0 = some (zrf (l0)) → zlk L 1 = some (.int (l1)) → zlk L 2 = some (.int (l2)) → zlk L 3 = some (.int (l3)) → f_X11_build_80 KL n l0 l1 l2 l3 h = some o → Ev G M_X11_build d 80 L [] h (Ret Y_X11_build none o) := by
  intro n
  induction n with
  | zero =>
    intro l0 l1 l2 l3 L h o g0 g1 g2 g3 e
    cases e
  | succ n ih =>
    intro l0 l1 l2 l3 L h o g0 g1 g2 g3 e
    unfold f_X11_build_80 at e
    refine r_iload_n d_X11_build_80 rfl g3 ?_
    refine g_ald_n d_X11_build_81 rfl g0 ?_
    replace e := ckd e
    obtain ⟨k27, e⟩ := e
    refine g_getR d_X11_build_82 (f := 1231) k27 fk_10_83 rfl rfl ?_
    refine r_iload_n d_X11_build_85 rfl g2 ?_
    replace e := ckd e
    obtain ⟨k28, e⟩ := e
    replace e := ckd e
    obtain ⟨k29, e⟩ := e
    refine g_iald d_X11_build_86 k28 k29 rfl ?_
    refine r_icmp_ge d_X11_build_87 (tgt := 103) (by decide) (fun c30 => ?_) (fun c30 => ?_)
    · replace e := (if_pos c30).symm.trans e
      refine r_iconst d_X11_build_103 (v := (0 : Int32)) (by decide +kernel) ?_
      refine s_istore_n d_X11_build_104 rfl (by decide) (fun L g3 gK => ?_)
      replace g0 := gK _ _ (by decide) (Or.inr (zrf_cat _)) g0
      replace g1 := gK _ _ (by decide) (Or.inr rfl) g1
      replace g2 := gK _ _ (by decide) (Or.inr rfl) g2
      exact f_X11_build_105_ok _ hKL h20 hj _ _ _ _ _ _ _ _ g0 g1 g2 g3 e
    · replace e := (if_neg c30).symm.trans e
      refine g_ald_n d_X11_build_90 rfl g0 ?_
      refine g_getR d_X11_build_91 (f := 1262) k27 fk_10_176 rfl rfl ?_
      refine r_iload_n d_X11_build_94 rfl g3 ?_
      refine r_iconst d_X11_build_95 (v := (0 : Int32)) (by decide +kernel) ?_
      replace e := ckd e
      obtain ⟨k31, e⟩ := e
      replace e := ckd e
      obtain ⟨k32, e⟩ := e
      refine g_zast d_X11_build_96 k31 k32 ?_
      replace e := bhd e
      obtain ⟨_, rfl, e⟩ := e
      replace e := bhd e
      obtain ⟨_, rfl, e⟩ := e
      refine s_iinc d_X11_build_97 g3 (w := (1 : Int32)) (by decide +kernel) (by decide) (fun L g3 gK => ?_)
      replace g0 := gK _ _ (by decide) (Or.inr (zrf_cat _)) g0
      replace g1 := gK _ _ (by decide) (Or.inr rfl) g1
      replace g2 := gK _ _ (by decide) (Or.inr rfl) g2
      refine r_goto d_X11_build_100 (tgt := 80) (by decide) ?_
      exact ih _ _ _ _ _ _ _ g0 g1 g2 g3 e

def f_X11_build_30 (KL : Nat → Int32 → Hp → Option Hp) : Nat → Nat → Int32 → Int32 → Int32 → Hp → Option Hp
  | 0, _, _, _, _, _ => none
  | n + 1, l0, l1, l2, l3, h => if ((((16 : Int32)) * (l1)) + ((16 : Int32))) ≤ (l3) then (f_X11_build_80 KL fz (l0) (l1) (l2) ((0 : Int32)) (h)) else (ck (isO (h) (l0) 12) (ck (isO (h) (zR (h) 1241 (l0)) 22) (ck (inR (l3) (zL (h) (zR (h) 1241 (l0)))) (bh (pE (h) (zR (h) 1241 (l0)) (l3).toNatClampNeg ((0 : Int32))) (fun h16 => ck (isO (h16) (zR (h16) 1252 (l0)) 22) (ck (inR (l3) (zL (h16) (zR (h16) 1252 (l0)))) (bh (pE (h16) (zR (h16) 1252 (l0)) (l3).toNatClampNeg ((0 : Int32))) (fun h19 => ck (isO (h19) (zR (h19) 1256 (l0)) 22) (ck (inR (l3) (zL (h19) (zR (h19) 1256 (l0)))) (bh (pE (h19) (zR (h19) 1256 (l0)) (l3).toNatClampNeg ((1 : Int32))) (fun h22 => ck (isO (h22) (zR (h22) 1253 (l0)) 22) (ck (inR (l3) (zL (h22) (zR (h22) 1253 (l0)))) (bh (pE (h22) (zR (h22) 1253 (l0)) (l3).toNatClampNeg (zI (h22) 1201 (l0))) (fun h25 => bh ((l3) + (1 : Int32)) (fun x26 => f_X11_build_30 KL n (l0) (l1) (l2) (x26) (h25))))))))))))))))
theorem f_X11_build_30_ok {G : Gd} {d jl : Nat} (KL : Nat → Int32 → Hp → Option Hp) (hKL : ∀ {a : Nat} {b : Int32} {h o : Hp}, KL a b h = some o → Cal G jl Y_X11_loses [zrf a, .int b] h none o) (h20 : 20 ≤ jl) (hj : jl + 5 ≤ d) : ∀ (n : Nat) (l0 : Nat) (l1 : Int32) (l2 : Int32) (l3 : Int32) (L : List (Nat × Value)) (h : Hp) (o : Hp), zlk L 0 = some (zrf (l0)) → zlk L 1 = some (.int (l1)) → zlk L 2 = some (.int (l2)) → zlk L 3 = some (.int (l3)) → f_X11_build_30 KL n l0 l1 l2 l3 h = some o → Ev G M_X11_build d 30 L [] h (Ret Y_X11_build none o) := by
  intro n
  induction n with
  | zero =>
    intro l0 l1 l2 l3 L h o g0 g1 g2 g3 e
    cases e
  | succ n ih =>
    intro l0 l1 l2 l3 L h o g0 g1 g2 g3 e
    unfold f_X11_build_30 at e
    refine r_iload_n d_X11_build_30 rfl g3 ?_
    refine r_bipush d_X11_build_31 (v := (16 : Int32)) (by decide +kernel) ?_
    refine r_iload_n d_X11_build_33 rfl g1 ?_
    refine r_imul d_X11_build_34 ?_
    refine r_bipush d_X11_build_35 (v := (16 : Int32)) (by decide +kernel) ?_
    refine r_iadd d_X11_build_37 ?_
    refine r_icmp_ge d_X11_build_38 (tgt := 78) (by decide) (fun c12 => ?_) (fun c12 => ?_)
    · replace e := (if_pos c12).symm.trans e
      refine r_iconst d_X11_build_78 (v := (0 : Int32)) (by decide +kernel) ?_
      refine s_istore_n d_X11_build_79 rfl (by decide) (fun L g3 gK => ?_)
      replace g0 := gK _ _ (by decide) (Or.inr (zrf_cat _)) g0
      replace g1 := gK _ _ (by decide) (Or.inr rfl) g1
      replace g2 := gK _ _ (by decide) (Or.inr rfl) g2
      exact f_X11_build_80_ok _ hKL h20 hj _ _ _ _ _ _ _ _ g0 g1 g2 g3 e
    · replace e := (if_neg c12).symm.trans e
      refine g_ald_n d_X11_build_41 rfl g0 ?_
      replace e := ckd e
      obtain ⟨k13, e⟩ := e
      refine g_getR d_X11_build_42 (f := 1241) k13 fk_10_113 rfl rfl ?_
      refine r_iload_n d_X11_build_45 rfl g3 ?_
      refine r_iconst d_X11_build_46 (v := (0 : Int32)) (by decide +kernel) ?_
      replace e := ckd e
      obtain ⟨k14, e⟩ := e
      replace e := ckd e
      obtain ⟨k15, e⟩ := e
      refine g_iast d_X11_build_47 k14 k15 ?_
      replace e := bhd e
      obtain ⟨_, rfl, e⟩ := e
      refine g_ald_n d_X11_build_48 rfl g0 ?_
      refine g_getR d_X11_build_49 (f := 1252) (tO_pE k13) fk_10_146 rfl rfl ?_
      refine r_iload_n d_X11_build_52 rfl g3 ?_
      refine r_iconst d_X11_build_53 (v := (0 : Int32)) (by decide +kernel) ?_
      replace e := ckd e
      obtain ⟨k17, e⟩ := e
      replace e := ckd e
      obtain ⟨k18, e⟩ := e
      refine g_iast d_X11_build_54 k17 k18 ?_
      replace e := bhd e
      obtain ⟨_, rfl, e⟩ := e
      refine g_ald_n d_X11_build_55 rfl g0 ?_
      refine g_getR d_X11_build_56 (f := 1256) (tO_pE (tO_pE k13)) fk_10_158 rfl rfl ?_
      refine r_iload_n d_X11_build_59 rfl g3 ?_
      refine r_iconst d_X11_build_60 (v := (1 : Int32)) (by decide +kernel) ?_
      replace e := ckd e
      obtain ⟨k20, e⟩ := e
      replace e := ckd e
      obtain ⟨k21, e⟩ := e
      refine g_iast d_X11_build_61 k20 k21 ?_
      replace e := bhd e
      obtain ⟨_, rfl, e⟩ := e
      refine g_ald_n d_X11_build_62 rfl g0 ?_
      refine g_getR d_X11_build_63 (f := 1253) (tO_pE (tO_pE (tO_pE k13))) fk_10_149 rfl rfl ?_
      refine r_iload_n d_X11_build_66 rfl g3 ?_
      refine g_ald_n d_X11_build_67 rfl g0 ?_
      refine g_getI d_X11_build_68 (f := 1201) (tO_pE (tO_pE (tO_pE k13))) fk_10_283 rfl rfl ?_
      replace e := ckd e
      obtain ⟨k23, e⟩ := e
      replace e := ckd e
      obtain ⟨k24, e⟩ := e
      refine g_iast d_X11_build_71 k23 k24 ?_
      replace e := bhd e
      obtain ⟨_, rfl, e⟩ := e
      replace e := bhd e
      obtain ⟨_, rfl, e⟩ := e
      refine s_iinc d_X11_build_72 g3 (w := (1 : Int32)) (by decide +kernel) (by decide) (fun L g3 gK => ?_)
      replace g0 := gK _ _ (by decide) (Or.inr (zrf_cat _)) g0
      replace g1 := gK _ _ (by decide) (Or.inr rfl) g1
      replace g2 := gK _ _ (by decide) (Or.inr rfl) g2
      refine r_goto d_X11_build_75 (tgt := 30) (by decide) ?_
      exact ih _ _ _ _ _ _ _ g0 g1 g2 g3 e

def f_X11_build (KL : Nat → Int32 → Hp → Option Hp) (l0 : Nat) (l1 : Int32) (h : Hp) : Option Hp := ck (isO (h) (l0) 12) (ck (isO (h) (zR (h) 1237 (l0)) 22) (ck (inR (l1) (zL (h) (zR (h) 1237 (l0)))) (bh ((((5 : Int32)) * (l1)) + (zE (h) (zR (h) 1237 (l0)) (l1).toNatClampNeg)) (fun x4 => ck (isO (h) (zR (h) 1239 (l0)) 22) (ck (inR (l1) (zL (h) (zR (h) 1239 (l0)))) (bh (pE (h) (zR (h) 1239 (l0)) (l1).toNatClampNeg ((0 : Int32))) (fun h7 => ck (isO (h7) (zR (h7) 1257 (l0)) 22) (ck (inR (l1) (zL (h7) (zR (h7) 1257 (l0)))) (bh (pE (h7) (zR (h7) 1257 (l0)) (l1).toNatClampNeg ((0 : Int32))) (fun h10 => bh (((16 : Int32)) * (l1)) (fun x11 => f_X11_build_30 KL fz (l0) (l1) (x4) (x11) (h10))))))))))))
theorem f_X11_build_ok {G : Gd} {d jl : Nat} (KL : Nat → Int32 → Hp → Option Hp) (hKL : ∀ {a : Nat} {b : Int32} {h o : Hp}, KL a b h = some o → Cal G jl Y_X11_loses [zrf a, .int b] h none o) (h20 : 20 ≤ jl) (hj : jl + 5 ≤ d) : ∀ (l0 : Nat) (l1 : Int32) (L : List (Nat × Value)) (h : Hp) (o : Hp), zlk L 0 = some (zrf (l0)) → zlk L 1 = some (.int (l1)) → f_X11_build KL l0 l1 h = some o → Ev G M_X11_build d 0 L [] h (Ret Y_X11_build none o) := by
  intro l0 l1 L h o g0 g1 e
  unfold f_X11_build at e
  refine r_iconst d_X11_build_0 (v := (5 : Int32)) (by decide +kernel) ?_
  refine r_iload_n d_X11_build_1 rfl g1 ?_
  refine r_imul d_X11_build_2 ?_
  refine g_ald_n d_X11_build_3 rfl g0 ?_
  replace e := ckd e
  obtain ⟨k1, e⟩ := e
  refine g_getR d_X11_build_4 (f := 1237) k1 fk_10_101 rfl rfl ?_
  refine r_iload_n d_X11_build_7 rfl g1 ?_
  replace e := ckd e
  obtain ⟨k2, e⟩ := e
  replace e := ckd e
  obtain ⟨k3, e⟩ := e
  refine g_iald d_X11_build_8 k2 k3 rfl ?_
  refine r_iadd d_X11_build_9 ?_
  replace e := bhd e
  obtain ⟨_, rfl, e⟩ := e
  refine s_istore_n d_X11_build_10 rfl (by decide) (fun L g2 gK => ?_)
  replace g0 := gK _ _ (by decide) (Or.inr (zrf_cat _)) g0
  replace g1 := gK _ _ (by decide) (Or.inr rfl) g1
  refine g_ald_n d_X11_build_11 rfl g0 ?_
  refine g_getR d_X11_build_12 (f := 1239) k1 fk_10_107 rfl rfl ?_
  refine r_iload_n d_X11_build_15 rfl g1 ?_
  refine r_iconst d_X11_build_16 (v := (0 : Int32)) (by decide +kernel) ?_
  replace e := ckd e
  obtain ⟨k5, e⟩ := e
  replace e := ckd e
  obtain ⟨k6, e⟩ := e
  refine g_iast d_X11_build_17 k5 k6 ?_
  replace e := bhd e
  obtain ⟨_, rfl, e⟩ := e
  refine g_ald_n d_X11_build_18 rfl g0 ?_
  refine g_getR d_X11_build_19 (f := 1257) (tO_pE k1) fk_10_161 rfl rfl ?_
  refine r_iload_n d_X11_build_22 rfl g1 ?_
  refine r_iconst d_X11_build_23 (v := (0 : Int32)) (by decide +kernel) ?_
  replace e := ckd e
  obtain ⟨k8, e⟩ := e
  replace e := ckd e
  obtain ⟨k9, e⟩ := e
  refine g_iast d_X11_build_24 k8 k9 ?_
  replace e := bhd e
  obtain ⟨_, rfl, e⟩ := e
  refine r_bipush d_X11_build_25 (v := (16 : Int32)) (by decide +kernel) ?_
  refine r_iload_n d_X11_build_27 rfl g1 ?_
  refine r_imul d_X11_build_28 ?_
  replace e := bhd e
  obtain ⟨_, rfl, e⟩ := e
  refine s_istore_n d_X11_build_29 rfl (by decide) (fun L g3 gK => ?_)
  replace g0 := gK _ _ (by decide) (Or.inr (zrf_cat _)) g0
  replace g1 := gK _ _ (by decide) (Or.inr rfl) g1
  replace g2 := gK _ _ (by decide) (Or.inr rfl) g2
  exact f_X11_build_30_ok _ hKL h20 hj _ _ _ _ _ _ _ _ g0 g1 g2 g3 e

theorem c_X11_build {G : Gd} {j : Nat} {jl : Nat} {KL : Nat → Int32 → Hp → Option Hp} (hKL : ∀ {a : Nat} {b : Int32} {h o : Hp}, KL a b h = some o → Cal G jl Y_X11_loses [zrf a, .int b] h none o) (h20 : 20 ≤ jl) (hj : jl + 5 ≤ j) {l0 : Nat} {l1 : Int32} {h : Hp} {o : Hp} (e : f_X11_build KL l0 l1 h = some o) : Cal G j Y_X11_build [zrf (l0), .int (l1)] h none o := Cal.of (n := 0) (I := false) (by first | exact Or.inl (by decide +kernel) | exact Or.inr (by decide +kernel)) (by decide) (by simp [lg_sl, zrf_cat, cat_int, cat_long]) (f_X11_build_ok KL hKL h20 hj _ _ _ h o (by simp [lv_args, zlk, zrf_cat, cat_int, cat_long]) (by simp [lv_args, zlk, zrf_cat, cat_int, cat_long]) e)
theorem vk_10_274 : Vk "TaskWeaveModel" 274 2 12 Y_X11_isBetter := ⟨yk_X11_isBetter, by decide +kernel, by decide +kernel, by decide +kernel, by decide⟩
theorem vk_10_280 : Vk "TaskWeaveModel" 280 1 12 Y_X11_build := ⟨yk_X11_build, by decide +kernel, by decide +kernel, by decide +kernel, by decide⟩
theorem vk_10_277 : Vk "TaskWeaveModel" 277 2 12 Y_X11_makeAlike := ⟨yk_X11_makeAlike, by decide +kernel, by decide +kernel, by decide +kernel, by decide⟩
def f_X11_elect_61 (KL : Nat → Int32 → Hp → Option Hp) (K14 : Nat → Int32 → Int32 → Int32 → Hp → Option Hp) (l0 : Nat) (l1 : Int32) (l2 : Int32) (l3 : Int32) (h : Hp) : Option Hp := bh ((l3) + (1 : Int32)) (fun x35 => K14 (l0) (l1) (l2) (x35) (h))
theorem f_X11_elect_61_ok {G : Gd} {d jl : Nat} (KL : Nat → Int32 → Hp → Option Hp) (hKL : ∀ {a : Nat} {b : Int32} {h o : Hp}, KL a b h = some o → Cal G jl Y_X11_loses [zrf a, .int b] h none o) (h20 : 20 ≤ jl) (K14 : Nat → Int32 → Int32 → Int32 → Hp → Option Hp) (hj : jl + 6 ≤ d) (hK14 : ∀ (l0 : Nat) (l1 : Int32) (l2 : Int32) (l3 : Int32) (L : List (Nat × Value)) (h : Hp) (o : Hp), zlk L 0 = some (zrf (l0)) → zlk L 1 = some (.int (l1)) → zlk L 2 = some (.int (l2)) → zlk L 3 = some (.int (l3)) → K14 l0 l1 l2 l3 h = some o → Ev G M_X11_elect d 14 L [] h (Ret Y_X11_elect none o)) : ∀ (l0 : Nat) (l1 : Int32) (l2 : Int32) (l3 : Int32) (L : List (Nat × Value)) (h : Hp) (o : Hp), zlk L 0 = some (zrf (l0)) → zlk L 1 = some (.int (l1)) → zlk L 2 = some (.int (l2)) → zlk L 3 = some (.int (l3)) → f_X11_elect_61 KL K14 l0 l1 l2 l3 h = some o → Ev G M_X11_elect d 61 L [] h (Ret Y_X11_elect none o) := by
  intro l0 l1 l2 l3 L h o g0 g1 g2 g3 e
  unfold f_X11_elect_61 at e
  replace e := bhd e
  obtain ⟨_, rfl, e⟩ := e
  refine s_iinc d_X11_elect_61 g3 (w := (1 : Int32)) (by decide +kernel) (by decide) (fun L g3 gK => ?_)
  replace g0 := gK _ _ (by decide) (Or.inr (zrf_cat _)) g0
  replace g1 := gK _ _ (by decide) (Or.inr rfl) g1
  replace g2 := gK _ _ (by decide) (Or.inr rfl) g2
  refine r_goto d_X11_elect_64 (tgt := 14) (by decide) ?_
  exact hK14 _ _ _ _ _ _ _ g0 g1 g2 g3 e

def f_X11_elect_59 (KL : Nat → Int32 → Hp → Option Hp) (K14 : Nat → Int32 → Int32 → Int32 → Hp → Option Hp) (l0 : Nat) (l1 : Int32) (l3 : Int32) (h : Hp) : Option Hp := f_X11_elect_61 KL K14 (l0) (l1) (l3) (l3) (h)
theorem f_X11_elect_59_ok {G : Gd} {d jl : Nat} (KL : Nat → Int32 → Hp → Option Hp) (hKL : ∀ {a : Nat} {b : Int32} {h o : Hp}, KL a b h = some o → Cal G jl Y_X11_loses [zrf a, .int b] h none o) (h20 : 20 ≤ jl) (K14 : Nat → Int32 → Int32 → Int32 → Hp → Option Hp) (hj : jl + 6 ≤ d) (hK14 : ∀ (l0 : Nat) (l1 : Int32) (l2 : Int32) (l3 : Int32) (L : List (Nat × Value)) (h : Hp) (o : Hp), zlk L 0 = some (zrf (l0)) → zlk L 1 = some (.int (l1)) → zlk L 2 = some (.int (l2)) → zlk L 3 = some (.int (l3)) → K14 l0 l1 l2 l3 h = some o → Ev G M_X11_elect d 14 L [] h (Ret Y_X11_elect none o)) : ∀ (l0 : Nat) (l1 : Int32) (l3 : Int32) (L : List (Nat × Value)) (h : Hp) (o : Hp), zlk L 0 = some (zrf (l0)) → zlk L 1 = some (.int (l1)) → zlk L 3 = some (.int (l3)) → f_X11_elect_59 KL K14 l0 l1 l3 h = some o → Ev G M_X11_elect d 59 L [] h (Ret Y_X11_elect none o) := by
  intro l0 l1 l3 L h o g0 g1 g3 e
  unfold f_X11_elect_59 at e
  refine r_iload_n d_X11_elect_59 rfl g3 ?_
  refine s_istore_n d_X11_elect_60 rfl (by decide) (fun L g2 gK => ?_)
  replace g0 := gK _ _ (by decide) (Or.inr (zrf_cat _)) g0
  replace g1 := gK _ _ (by decide) (Or.inr rfl) g1
  replace g3 := gK _ _ (by decide) (Or.inr rfl) g3
  exact f_X11_elect_61_ok _ hKL h20 _ hj hK14 _ _ _ _ _ _ _ g0 g1 g2 g3 e

def f_X11_elect_111 (KL : Nat → Int32 → Hp → Option Hp) (K69 : Nat → Int32 → Int32 → Int32 → Hp → Option Hp) (l0 : Nat) (l1 : Int32) (l2 : Int32) (l3 : Int32) (h : Hp) : Option Hp := bh ((l3) + (1 : Int32)) (fun x36 => K69 (l0) (l1) (l2) (x36) (h))
theorem f_X11_elect_111_ok {G : Gd} {d jl : Nat} (KL : Nat → Int32 → Hp → Option Hp) (hKL : ∀ {a : Nat} {b : Int32} {h o : Hp}, KL a b h = some o → Cal G jl Y_X11_loses [zrf a, .int b] h none o) (h20 : 20 ≤ jl) (K69 : Nat → Int32 → Int32 → Int32 → Hp → Option Hp) (hj : jl + 6 ≤ d) (hK69 : ∀ (l0 : Nat) (l1 : Int32) (l2 : Int32) (l3 : Int32) (L : List (Nat × Value)) (h : Hp) (o : Hp), zlk L 0 = some (zrf (l0)) → zlk L 1 = some (.int (l1)) → zlk L 2 = some (.int (l2)) → zlk L 3 = some (.int (l3)) → K69 l0 l1 l2 l3 h = some o → Ev G M_X11_elect d 69 L [] h (Ret Y_X11_elect none o)) : ∀ (l0 : Nat) (l1 : Int32) (l2 : Int32) (l3 : Int32) (L : List (Nat × Value)) (h : Hp) (o : Hp), zlk L 0 = some (zrf (l0)) → zlk L 1 = some (.int (l1)) → zlk L 2 = some (.int (l2)) → zlk L 3 = some (.int (l3)) → f_X11_elect_111 KL K69 l0 l1 l2 l3 h = some o → Ev G M_X11_elect d 111 L [] h (Ret Y_X11_elect none o) := by
  intro l0 l1 l2 l3 L h o g0 g1 g2 g3 e
  unfold f_X11_elect_111 at e
  replace e := bhd e
  obtain ⟨_, rfl, e⟩ := e
  refine s_iinc d_X11_elect_111 g3 (w := (1 : Int32)) (by decide +kernel) (by decide) (fun L g3 gK => ?_)
  replace g0 := gK _ _ (by decide) (Or.inr (zrf_cat _)) g0
  replace g1 := gK _ _ (by decide) (Or.inr rfl) g1
  replace g2 := gK _ _ (by decide) (Or.inr rfl) g2
  refine r_goto d_X11_elect_114 (tgt := 69) (by decide) ?_
  exact hK69 _ _ _ _ _ _ _ g0 g1 g2 g3 e

def f_X11_elect_69 (KL : Nat → Int32 → Hp → Option Hp) : Nat → Nat → Int32 → Int32 → Int32 → Hp → Option Hp
  | 0, _, _, _, _, _ => none
  | n + 1, l0, l1, l2, l3, h => ck (isO (h) (l0) 12) (ck (isO (h) (zR (h) 1236 (l0)) 22) (ck (inR (l1) (zL (h) (zR (h) 1236 (l0)))) (if (zE (h) (zR (h) 1236 (l0)) (l1).toNatClampNeg) ≤ (l3) then (ck (isO (h) (zR (h) 1238 (l0)) 22) (ck (inR (l1) (zL (h) (zR (h) 1238 (l0)))) ((f_X11_newRecord (l0) ((0 : Int32)) ((13 : Int32)) (zE (h) (zR (h) 1238 (l0)) (l1).toNatClampNeg) (l2) ((0 : Int32)) ((0 : Int32)) (h)).bind (fun q21 => ck (isO (q21.2) (l0) 12) ((f_X11_spread (l0) (l1) (l2) (q21.1) (q21.2)).bind (fun q22 => if (q22.1) = (0) then (some (q22.2)) else (ck (isO (q22.2) (l0) 12) (ck (isO (q22.2) (zR (q22.2) 1237 (l0)) 22) (ck (inR (l1) (zL (q22.2) (zR (q22.2) 1237 (l0)))) (bh (pE (q22.2) (zR (q22.2) 1237 (l0)) (l1).toNatClampNeg (l2)) (fun h28 => (f_X11_build KL (l0) (l1) (h28)).bind (fun q29 => some (q29))))))))))))) else (if (l3) = (l2) then (f_X11_elect_111 KL (f_X11_elect_69 KL n) (l0) (l1) (l2) (l3) (h)) else (ck (isO (h) (zR (h) 1234 (l0)) 23) (ck (inR ((((5 : Int32)) * (l1)) + (l3)) (zL (h) (zR (h) 1234 (l0)))) (if (zE (h) (zR (h) 1234 (l0)) ((((5 : Int32)) * (l1)) + (l3)).toNatClampNeg) = (0) then (f_X11_elect_111 KL (f_X11_elect_69 KL n) (l0) (l1) (l2) (l3) (h)) else ((f_X11_makeAlike (l0) ((((5 : Int32)) * (l1)) + (l3)) ((((5 : Int32)) * (l1)) + (l2)) (h)).bind (fun q34 => f_X11_elect_111 KL (f_X11_elect_69 KL n) (l0) (l1) (l2) (l3) (q34))))))))))
theorem f_X11_elect_69_ok {G : Gd} {d jl : Nat} (KL : Nat → Int32 → Hp → Option Hp) (hKL : ∀ {a : Nat} {b : Int32} {h o : Hp}, KL a b h = some o → Cal G jl Y_X11_loses [zrf a, .int b] h none o) (h20 : 20 ≤ jl) (hj : jl + 6 ≤ d) : ∀ (n : Nat) (l0 : Nat) (l1 : Int32) (l2 : Int32) (l3 : Int32) (L : List (Nat × Value)) (h : Hp) (o : Hp), zlk L 0 = some (zrf (l0)) → zlk L 1 = some (.int (l1)) → zlk L 2 = some (.int (l2)) → zlk L 3 = some (.int (l3)) → f_X11_elect_69 KL n l0 l1 l2 l3 h = some o → Ev G M_X11_elect d 69 L [] h (Ret Y_X11_elect none o) := by
  intro n
  induction n with
  | zero =>
    intro l0 l1 l2 l3 L h o g0 g1 g2 g3 e
    cases e
  | succ n ih =>
    intro l0 l1 l2 l3 L h o g0 g1 g2 g3 e
    unfold f_X11_elect_69 at e
    refine r_iload_n d_X11_elect_69 rfl g3 ?_
    refine g_ald_n d_X11_elect_70 rfl g0 ?_
    replace e := ckd e
    obtain ⟨k15, e⟩ := e
    refine g_getR d_X11_elect_71 (f := 1236) k15 fk_10_98 rfl rfl ?_
    refine r_iload_n d_X11_elect_74 rfl g1 ?_
    replace e := ckd e
    obtain ⟨k16, e⟩ := e
    replace e := ckd e
    obtain ⟨k17, e⟩ := e
    refine g_iald d_X11_elect_75 k16 k17 rfl ?_
    refine r_icmp_ge d_X11_elect_76 (tgt := 117) (by decide) (fun c18 => ?_) (fun c18 => ?_)
    · replace e := (if_pos c18).symm.trans e
      refine g_ald_n d_X11_elect_117 rfl g0 ?_
      refine r_iload_n d_X11_elect_118 rfl g1 ?_
      refine r_iload_n d_X11_elect_119 rfl g2 ?_
      refine g_ald_n d_X11_elect_120 rfl g0 ?_
      refine r_iconst d_X11_elect_121 (v := (0 : Int32)) (by decide +kernel) ?_
      refine r_bipush d_X11_elect_122 (v := (13 : Int32)) (by decide +kernel) ?_
      refine g_ald_n d_X11_elect_124 rfl g0 ?_
      refine g_getR d_X11_elect_125 (f := 1238) k15 fk_10_104 rfl rfl ?_
      refine r_iload_n d_X11_elect_128 rfl g1 ?_
      replace e := ckd e
      obtain ⟨k19, e⟩ := e
      replace e := ckd e
      obtain ⟨k20, e⟩ := e
      refine g_iald d_X11_elect_129 k19 k20 rfl ?_
      refine r_iload_n d_X11_elect_130 rfl g2 ?_
      refine r_iconst d_X11_elect_131 (v := (0 : Int32)) (by decide +kernel) ?_
      refine r_iconst d_X11_elect_132 (v := (0 : Int32)) (by decide +kernel) ?_
      replace e := bd e
      obtain ⟨q21, eq21, e⟩ := e
      refine g_callV d_X11_elect_133 vk_10_254 (as := [_, _, _, _, _, _]) rfl k15 rfl (by simp [zrf_cat, cat_int, cat_long]) (j := 1) (by omega) (c_X11_newRecord (by omega) eq21) ?_
      replace e := ckd e
      obtain ⟨k23, e⟩ := e
      replace e := bd e
      obtain ⟨q22, eq22, e⟩ := e
      refine g_callV d_X11_elect_136 vk_10_258 (as := [_, _, _]) rfl k23 rfl (by simp [zrf_cat, cat_int, cat_long]) (j := 3) (by omega) (c_X11_spread (by omega) eq22) ?_
      refine r_if_ne d_X11_elect_139 (tgt := 143) (by decide) (fun c24 => ?_) (fun c24 => ?_)
      · replace e := (if_neg c24).symm.trans e
        refine g_ald_n d_X11_elect_143 rfl g0 ?_
        replace e := ckd e
        obtain ⟨k25, e⟩ := e
        refine g_getR d_X11_elect_144 (f := 1237) k25 fk_10_101 rfl rfl ?_
        refine r_iload_n d_X11_elect_147 rfl g1 ?_
        refine r_iload_n d_X11_elect_148 rfl g2 ?_
        replace e := ckd e
        obtain ⟨k26, e⟩ := e
        replace e := ckd e
        obtain ⟨k27, e⟩ := e
        refine g_iast d_X11_elect_149 k26 k27 ?_
        replace e := bhd e
        obtain ⟨_, rfl, e⟩ := e
        refine g_ald_n d_X11_elect_150 rfl g0 ?_
        refine r_iload_n d_X11_elect_151 rfl g1 ?_
        replace e := bd e
        obtain ⟨q29, eq29, e⟩ := e
        refine g_callV d_X11_elect_152 vk_10_280 (as := [_]) rfl (tO_pE k25) rfl (by simp [zrf_cat, cat_int, cat_long]) (j := jl + 5) (by omega) (c_X11_build hKL h20 (by omega) eq29) ?_
        obtain rfl := Option.some.inj e
        exact g_vret d_X11_elect_155 rfl
      · replace e := (if_pos c24).symm.trans e
        obtain rfl := Option.some.inj e
        exact g_vret d_X11_elect_142 rfl
    · replace e := (if_neg c18).symm.trans e
      refine r_iload_n d_X11_elect_79 rfl g3 ?_
      refine r_iload_n d_X11_elect_80 rfl g2 ?_
      refine r_icmp_eq d_X11_elect_81 (tgt := 111) (by decide) (fun c30 => ?_) (fun c30 => ?_)
      · replace e := (if_pos c30).symm.trans e
        exact f_X11_elect_111_ok _ hKL h20 _ hj ih _ _ _ _ _ _ _ g0 g1 g2 g3 e
      · replace e := (if_neg c30).symm.trans e
        refine g_ald_n d_X11_elect_84 rfl g0 ?_
        refine g_getR d_X11_elect_85 (f := 1234) k15 fk_10_92 rfl rfl ?_
        refine r_iconst d_X11_elect_88 (v := (5 : Int32)) (by decide +kernel) ?_
        refine r_iload_n d_X11_elect_89 rfl g1 ?_
        refine r_imul d_X11_elect_90 ?_
        refine r_iload_n d_X11_elect_91 rfl g3 ?_
        refine r_iadd d_X11_elect_92 ?_
        replace e := ckd e
        obtain ⟨k31, e⟩ := e
        replace e := ckd e
        obtain ⟨k32, e⟩ := e
        refine g_zald d_X11_elect_93 k31 k32 rfl ?_
        refine r_if_eq d_X11_elect_94 (tgt := 111) (by decide) (fun c33 => ?_) (fun c33 => ?_)
        · replace e := (if_pos c33).symm.trans e
          exact f_X11_elect_111_ok _ hKL h20 _ hj ih _ _ _ _ _ _ _ g0 g1 g2 g3 e
        · replace e := (if_neg c33).symm.trans e
          refine g_ald_n d_X11_elect_97 rfl g0 ?_
          refine r_iconst d_X11_elect_98 (v := (5 : Int32)) (by decide +kernel) ?_
          refine r_iload_n d_X11_elect_99 rfl g1 ?_
          refine r_imul d_X11_elect_100 ?_
          refine r_iload_n d_X11_elect_101 rfl g3 ?_
          refine r_iadd d_X11_elect_102 ?_
          refine r_iconst d_X11_elect_103 (v := (5 : Int32)) (by decide +kernel) ?_
          refine r_iload_n d_X11_elect_104 rfl g1 ?_
          refine r_imul d_X11_elect_105 ?_
          refine r_iload_n d_X11_elect_106 rfl g2 ?_
          refine r_iadd d_X11_elect_107 ?_
          replace e := bd e
          obtain ⟨q34, eq34, e⟩ := e
          refine g_callV d_X11_elect_108 vk_10_277 (as := [_, _]) rfl k15 rfl (by simp [zrf_cat, cat_int, cat_long]) (j := 3) (by omega) (c_X11_makeAlike (by omega) eq34) ?_
          exact f_X11_elect_111_ok _ hKL h20 _ hj ih _ _ _ _ _ _ _ g0 g1 g2 g3 e

def f_X11_elect_14 (KL : Nat → Int32 → Hp → Option Hp) : Nat → Nat → Int32 → Int32 → Int32 → Hp → Option Hp
  | 0, _, _, _, _, _ => none
  | n + 1, l0, l1, l2, l3, h => ck (isO (h) (l0) 12) (ck (isO (h) (zR (h) 1236 (l0)) 22) (ck (inR (l1) (zL (h) (zR (h) 1236 (l0)))) (if (zE (h) (zR (h) 1236 (l0)) (l1).toNatClampNeg) ≤ (l3) then (f_X11_elect_69 KL fz (l0) (l1) (l2) ((0 : Int32)) (h)) else (ck (isO (h) (zR (h) 1234 (l0)) 23) (ck (inR ((((5 : Int32)) * (l1)) + (l3)) (zL (h) (zR (h) 1234 (l0)))) (if (zE (h) (zR (h) 1234 (l0)) ((((5 : Int32)) * (l1)) + (l3)).toNatClampNeg) = (0) then (f_X11_elect_61 KL (f_X11_elect_14 KL n) (l0) (l1) (l2) (l3) (h)) else (if (l2) = ((-1 : Int32)) then (f_X11_elect_59 KL (f_X11_elect_14 KL n) (l0) (l1) (l3) (h)) else ((f_X11_isBetter (l0) ((((5 : Int32)) * (l1)) + (l3)) ((((5 : Int32)) * (l1)) + (l2)) (h)).bind (fun q13 => if (q13.1) = (0) then (f_X11_elect_61 KL (f_X11_elect_14 KL n) (l0) (l1) (l2) (l3) (q13.2)) else (f_X11_elect_59 KL (f_X11_elect_14 KL n) (l0) (l1) (l3) (q13.2)))))))))))
theorem f_X11_elect_14_ok {G : Gd} {d jl : Nat} (KL : Nat → Int32 → Hp → Option Hp) (hKL : ∀ {a : Nat} {b : Int32} {h o : Hp}, KL a b h = some o → Cal G jl Y_X11_loses [zrf a, .int b] h none o) (h20 : 20 ≤ jl) (hj : jl + 6 ≤ d) : ∀ (n : Nat) (l0 : Nat) (l1 : Int32) (l2 : Int32) (l3 : Int32) (L : List (Nat × Value)) (h : Hp) (o : Hp), zlk L 0 = some (zrf (l0)) → zlk L 1 = some (.int (l1)) → zlk L 2 = some (.int (l2)) → zlk L 3 = some (.int (l3)) → f_X11_elect_14 KL n l0 l1 l2 l3 h = some o → Ev G M_X11_elect d 14 L [] h (Ret Y_X11_elect none o) := by
  intro n
  induction n with
  | zero =>
    intro l0 l1 l2 l3 L h o g0 g1 g2 g3 e
    cases e
  | succ n ih =>
    intro l0 l1 l2 l3 L h o g0 g1 g2 g3 e
    unfold f_X11_elect_14 at e
    refine r_iload_n d_X11_elect_14 rfl g3 ?_
    refine g_ald_n d_X11_elect_15 rfl g0 ?_
    replace e := ckd e
    obtain ⟨k5, e⟩ := e
    refine g_getR d_X11_elect_16 (f := 1236) k5 fk_10_98 rfl rfl ?_
    refine r_iload_n d_X11_elect_19 rfl g1 ?_
    replace e := ckd e
    obtain ⟨k6, e⟩ := e
    replace e := ckd e
    obtain ⟨k7, e⟩ := e
    refine g_iald d_X11_elect_20 k6 k7 rfl ?_
    refine r_icmp_ge d_X11_elect_21 (tgt := 67) (by decide) (fun c8 => ?_) (fun c8 => ?_)
    · replace e := (if_pos c8).symm.trans e
      refine r_iconst d_X11_elect_67 (v := (0 : Int32)) (by decide +kernel) ?_
      refine s_istore_n d_X11_elect_68 rfl (by decide) (fun L g3 gK => ?_)
      replace g0 := gK _ _ (by decide) (Or.inr (zrf_cat _)) g0
      replace g1 := gK _ _ (by decide) (Or.inr rfl) g1
      replace g2 := gK _ _ (by decide) (Or.inr rfl) g2
      exact f_X11_elect_69_ok _ hKL h20 hj _ _ _ _ _ _ _ _ g0 g1 g2 g3 e
    · replace e := (if_neg c8).symm.trans e
      refine g_ald_n d_X11_elect_24 rfl g0 ?_
      refine g_getR d_X11_elect_25 (f := 1234) k5 fk_10_92 rfl rfl ?_
      refine r_iconst d_X11_elect_28 (v := (5 : Int32)) (by decide +kernel) ?_
      refine r_iload_n d_X11_elect_29 rfl g1 ?_
      refine r_imul d_X11_elect_30 ?_
      refine r_iload_n d_X11_elect_31 rfl g3 ?_
      refine r_iadd d_X11_elect_32 ?_
      replace e := ckd e
      obtain ⟨k9, e⟩ := e
      replace e := ckd e
      obtain ⟨k10, e⟩ := e
      refine g_zald d_X11_elect_33 k9 k10 rfl ?_
      refine r_if_eq d_X11_elect_34 (tgt := 61) (by decide) (fun c11 => ?_) (fun c11 => ?_)
      · replace e := (if_pos c11).symm.trans e
        exact f_X11_elect_61_ok _ hKL h20 _ hj ih _ _ _ _ _ _ _ g0 g1 g2 g3 e
      · replace e := (if_neg c11).symm.trans e
        refine r_iload_n d_X11_elect_37 rfl g2 ?_
        refine r_iconst d_X11_elect_38 (v := (-1 : Int32)) (by decide +kernel) ?_
        refine r_icmp_eq d_X11_elect_39 (tgt := 59) (by decide) (fun c12 => ?_) (fun c12 => ?_)
        · replace e := (if_pos c12).symm.trans e
          exact f_X11_elect_59_ok _ hKL h20 _ hj ih _ _ _ _ _ _ g0 g1 g3 e
        · replace e := (if_neg c12).symm.trans e
          refine g_ald_n d_X11_elect_42 rfl g0 ?_
          refine r_iconst d_X11_elect_43 (v := (5 : Int32)) (by decide +kernel) ?_
          refine r_iload_n d_X11_elect_44 rfl g1 ?_
          refine r_imul d_X11_elect_45 ?_
          refine r_iload_n d_X11_elect_46 rfl g3 ?_
          refine r_iadd d_X11_elect_47 ?_
          refine r_iconst d_X11_elect_48 (v := (5 : Int32)) (by decide +kernel) ?_
          refine r_iload_n d_X11_elect_49 rfl g1 ?_
          refine r_imul d_X11_elect_50 ?_
          refine r_iload_n d_X11_elect_51 rfl g2 ?_
          refine r_iadd d_X11_elect_52 ?_
          replace e := bd e
          obtain ⟨q13, eq13, e⟩ := e
          refine g_callV d_X11_elect_53 vk_10_274 (as := [_, _]) rfl k5 rfl (by simp [zrf_cat, cat_int, cat_long]) (j := 2) (by omega) (c_X11_isBetter (by omega) eq13) ?_
          refine r_if_eq d_X11_elect_56 (tgt := 61) (by decide) (fun c14 => ?_) (fun c14 => ?_)
          · replace e := (if_pos c14).symm.trans e
            exact f_X11_elect_61_ok _ hKL h20 _ hj ih _ _ _ _ _ _ _ g0 g1 g2 g3 e
          · replace e := (if_neg c14).symm.trans e
            exact f_X11_elect_59_ok _ hKL h20 _ hj ih _ _ _ _ _ _ g0 g1 g3 e

def f_X11_elect (KL : Nat → Int32 → Hp → Option Hp) (l0 : Nat) (l1 : Int32) (h : Hp) : Option Hp := ck (isO (h) (l0) 12) (ck (isO (h) (zR (h) 1238 (l0)) 22) (ck (inR (l1) (zL (h) (zR (h) 1238 (l0)))) (bh (pE (h) (zR (h) 1238 (l0)) (l1).toNatClampNeg ((zE (h) (zR (h) 1238 (l0)) (l1).toNatClampNeg) + ((1 : Int32)))) (fun h4 => f_X11_elect_14 KL fz (l0) (l1) ((-1 : Int32)) ((0 : Int32)) (h4)))))
theorem f_X11_elect_ok {G : Gd} {d jl : Nat} (KL : Nat → Int32 → Hp → Option Hp) (hKL : ∀ {a : Nat} {b : Int32} {h o : Hp}, KL a b h = some o → Cal G jl Y_X11_loses [zrf a, .int b] h none o) (h20 : 20 ≤ jl) (hj : jl + 6 ≤ d) : ∀ (l0 : Nat) (l1 : Int32) (L : List (Nat × Value)) (h : Hp) (o : Hp), zlk L 0 = some (zrf (l0)) → zlk L 1 = some (.int (l1)) → f_X11_elect KL l0 l1 h = some o → Ev G M_X11_elect d 0 L [] h (Ret Y_X11_elect none o) := by
  intro l0 l1 L h o g0 g1 e
  unfold f_X11_elect at e
  refine g_ald_n d_X11_elect_0 rfl g0 ?_
  replace e := ckd e
  obtain ⟨k1, e⟩ := e
  refine g_getR d_X11_elect_1 (f := 1238) k1 fk_10_104 rfl rfl ?_
  refine r_iload_n d_X11_elect_4 rfl g1 ?_
  refine r_dup2 d_X11_elect_5 rfl (zrf_cat _) ?_
  replace e := ckd e
  obtain ⟨k2, e⟩ := e
  replace e := ckd e
  obtain ⟨k3, e⟩ := e
  refine g_iald d_X11_elect_6 k2 k3 rfl ?_
  refine r_iconst d_X11_elect_7 (v := (1 : Int32)) (by decide +kernel) ?_
  refine r_iadd d_X11_elect_8 ?_
  refine g_iast d_X11_elect_9 k2 k3 ?_
  replace e := bhd e
  obtain ⟨_, rfl, e⟩ := e
  refine r_iconst d_X11_elect_10 (v := (-1 : Int32)) (by decide +kernel) ?_
  refine s_istore_n d_X11_elect_11 rfl (by decide) (fun L g2 gK => ?_)
  replace g0 := gK _ _ (by decide) (Or.inr (zrf_cat _)) g0
  replace g1 := gK _ _ (by decide) (Or.inr rfl) g1
  refine r_iconst d_X11_elect_12 (v := (0 : Int32)) (by decide +kernel) ?_
  refine s_istore_n d_X11_elect_13 rfl (by decide) (fun L g3 gK => ?_)
  replace g0 := gK _ _ (by decide) (Or.inr (zrf_cat _)) g0
  replace g1 := gK _ _ (by decide) (Or.inr rfl) g1
  replace g2 := gK _ _ (by decide) (Or.inr rfl) g2
  exact f_X11_elect_14_ok _ hKL h20 hj _ _ _ _ _ _ _ _ g0 g1 g2 g3 e

theorem c_X11_elect {G : Gd} {j : Nat} {jl : Nat} {KL : Nat → Int32 → Hp → Option Hp} (hKL : ∀ {a : Nat} {b : Int32} {h o : Hp}, KL a b h = some o → Cal G jl Y_X11_loses [zrf a, .int b] h none o) (h20 : 20 ≤ jl) (hj : jl + 6 ≤ j) {l0 : Nat} {l1 : Int32} {h : Hp} {o : Hp} (e : f_X11_elect KL l0 l1 h = some o) : Cal G j Y_X11_elect [zrf (l0), .int (l1)] h none o := Cal.of (n := 0) (I := false) (by first | exact Or.inl (by decide +kernel) | exact Or.inr (by decide +kernel)) (by decide) (by simp [lg_sl, zrf_cat, cat_int, cat_long]) (f_X11_elect_ok KL hKL h20 hj _ _ _ h o (by simp [lv_args, zlk, zrf_cat, cat_int, cat_long]) (by simp [lv_args, zlk, zrf_cat, cat_int, cat_long]) e)
theorem vk_10_265 : Vk "TaskWeaveModel" 265 1 12 Y_X11_ups := ⟨yk_X11_ups, by decide +kernel, by decide +kernel, by decide +kernel, by decide⟩
theorem vk_10_268 : Vk "TaskWeaveModel" 268 1 12 Y_X11_elect := ⟨yk_X11_elect, by decide +kernel, by decide +kernel, by decide +kernel, by decide⟩
def f_X11_loses_40 (KL : Nat → Int32 → Hp → Option Hp) (K12 : Nat → Int32 → Int32 → Hp → Option Hp) (l0 : Nat) (l1 : Int32) (l2 : Int32) (h : Hp) : Option Hp := bh ((l2) + (1 : Int32)) (fun x22 => K12 (l0) (l1) (x22) (h))
theorem f_X11_loses_40_ok {G : Gd} {d jl : Nat} (KL : Nat → Int32 → Hp → Option Hp) (hKL : ∀ {a : Nat} {b : Int32} {h o : Hp}, KL a b h = some o → Cal G jl Y_X11_loses [zrf a, .int b] h none o) (h20 : 20 ≤ jl) (K12 : Nat → Int32 → Int32 → Hp → Option Hp) (hj : jl + 7 ≤ d) (hK12 : ∀ (l0 : Nat) (l1 : Int32) (l2 : Int32) (L : List (Nat × Value)) (h : Hp) (o : Hp), zlk L 0 = some (zrf (l0)) → zlk L 1 = some (.int (l1)) → zlk L 2 = some (.int (l2)) → K12 l0 l1 l2 h = some o → Ev G M_X11_loses d 12 L [] h (Ret Y_X11_loses none o)) : ∀ (l0 : Nat) (l1 : Int32) (l2 : Int32) (L : List (Nat × Value)) (h : Hp) (o : Hp), zlk L 0 = some (zrf (l0)) → zlk L 1 = some (.int (l1)) → zlk L 2 = some (.int (l2)) → f_X11_loses_40 KL K12 l0 l1 l2 h = some o → Ev G M_X11_loses d 40 L [] h (Ret Y_X11_loses none o) := by
  intro l0 l1 l2 L h o g0 g1 g2 e
  unfold f_X11_loses_40 at e
  replace e := bhd e
  obtain ⟨_, rfl, e⟩ := e
  refine s_iinc d_X11_loses_40 g2 (w := (1 : Int32)) (by decide +kernel) (by decide) (fun L g2 gK => ?_)
  replace g0 := gK _ _ (by decide) (Or.inr (zrf_cat _)) g0
  replace g1 := gK _ _ (by decide) (Or.inr rfl) g1
  refine r_goto d_X11_loses_43 (tgt := 12) (by decide) ?_
  exact hK12 _ _ _ _ _ _ g0 g1 g2 e

def f_X11_loses_46 (KL : Nat → Int32 → Hp → Option Hp) : Nat → Nat → Int32 → Hp → Option Hp
  | 0, _, _, _ => none
  | n + 1, l0, l1, h => ck (isO (h) (l0) 12) (ck (isO (h) (zR (h) 1237 (l0)) 22) (ck (inR (l1) (zL (h) (zR (h) 1237 (l0)))) (if (zE (h) (zR (h) 1237 (l0)) (l1).toNatClampNeg) = ((-1 : Int32)) then ((f_X11_ups (l0) (l1) (h)).bind (fun q16 => ck (isO (q16.2) (l0) 12) (ck (isO (q16.2) (zR (q16.2) 1236 (l0)) 22) (ck (inR (l1) (zL (q16.2) (zR (q16.2) 1236 (l0)))) (if (((2 : Int32)) * (q16.1)) ≤ (zE (q16.2) (zR (q16.2) 1236 (l0)) (l1).toNatClampNeg) then (some (q16.2)) else ((f_X11_elect KL (l0) (l1) (q16.2)).bind (fun q21 => f_X11_loses_46 KL n (l0) (l1) (q21)))))))) else (some (h)))))
theorem f_X11_loses_46_ok {G : Gd} {d jl : Nat} (KL : Nat → Int32 → Hp → Option Hp) (hKL : ∀ {a : Nat} {b : Int32} {h o : Hp}, KL a b h = some o → Cal G jl Y_X11_loses [zrf a, .int b] h none o) (h20 : 20 ≤ jl) (hj : jl + 7 ≤ d) : ∀ (n : Nat) (l0 : Nat) (l1 : Int32) (L : List (Nat × Value)) (h : Hp) (o : Hp), zlk L 0 = some (zrf (l0)) → zlk L 1 = some (.int (l1)) → f_X11_loses_46 KL n l0 l1 h = some o → Ev G M_X11_loses d 46 L [] h (Ret Y_X11_loses none o) := by
  intro n
  induction n with
  | zero =>
    intro l0 l1 L h o g0 g1 e
    cases e
  | succ n ih =>
    intro l0 l1 L h o g0 g1 e
    unfold f_X11_loses_46 at e
    refine g_ald_n d_X11_loses_46 rfl g0 ?_
    replace e := ckd e
    obtain ⟨k12, e⟩ := e
    refine g_getR d_X11_loses_47 (f := 1237) k12 fk_10_101 rfl rfl ?_
    refine r_iload_n d_X11_loses_50 rfl g1 ?_
    replace e := ckd e
    obtain ⟨k13, e⟩ := e
    replace e := ckd e
    obtain ⟨k14, e⟩ := e
    refine g_iald d_X11_loses_51 k13 k14 rfl ?_
    refine r_iconst d_X11_loses_52 (v := (-1 : Int32)) (by decide +kernel) ?_
    refine r_icmp_ne d_X11_loses_53 (tgt := 80) (by decide) (fun c15 => ?_) (fun c15 => ?_)
    · replace e := (if_neg c15).symm.trans e
      obtain rfl := Option.some.inj e
      exact g_vret d_X11_loses_80 rfl
    · replace e := (if_pos c15).symm.trans e
      refine r_iconst d_X11_loses_56 (v := (2 : Int32)) (by decide +kernel) ?_
      refine g_ald_n d_X11_loses_57 rfl g0 ?_
      refine r_iload_n d_X11_loses_58 rfl g1 ?_
      replace e := bd e
      obtain ⟨q16, eq16, e⟩ := e
      refine g_callV d_X11_loses_59 vk_10_265 (as := [_]) rfl k12 rfl (by simp [zrf_cat, cat_int, cat_long]) (j := 1) (by omega) (c_X11_ups (by omega) eq16) ?_
      refine r_imul d_X11_loses_62 ?_
      refine g_ald_n d_X11_loses_63 rfl g0 ?_
      replace e := ckd e
      obtain ⟨k17, e⟩ := e
      refine g_getR d_X11_loses_64 (f := 1236) k17 fk_10_98 rfl rfl ?_
      refine r_iload_n d_X11_loses_67 rfl g1 ?_
      replace e := ckd e
      obtain ⟨k18, e⟩ := e
      replace e := ckd e
      obtain ⟨k19, e⟩ := e
      refine g_iald d_X11_loses_68 k18 k19 rfl ?_
      refine r_icmp_le d_X11_loses_69 (tgt := 80) (by decide) (fun c20 => ?_) (fun c20 => ?_)
      · replace e := (if_pos c20).symm.trans e
        obtain rfl := Option.some.inj e
        exact g_vret d_X11_loses_80 rfl
      · replace e := (if_neg c20).symm.trans e
        refine g_ald_n d_X11_loses_72 rfl g0 ?_
        refine r_iload_n d_X11_loses_73 rfl g1 ?_
        replace e := bd e
        obtain ⟨q21, eq21, e⟩ := e
        refine g_callV d_X11_loses_74 vk_10_268 (as := [_]) rfl k17 rfl (by simp [zrf_cat, cat_int, cat_long]) (j := jl + 6) (by omega) (c_X11_elect hKL h20 (by omega) eq21) ?_
        refine r_goto d_X11_loses_77 (tgt := 46) (by decide) ?_
        exact ih _ _ _ _ _ g0 g1 e

def f_X11_loses_12 (KL : Nat → Int32 → Hp → Option Hp) : Nat → Nat → Int32 → Int32 → Hp → Option Hp
  | 0, _, _, _, _ => none
  | n + 1, l0, l1, l2, h => if ((((16 : Int32)) * (l1)) + ((16 : Int32))) ≤ (l2) then (f_X11_loses_46 KL fz (l0) (l1) (h)) else (ck (isO (h) (l0) 12) (ck (isO (h) (zR (h) 1252 (l0)) 22) (ck (inR (l2) (zL (h) (zR (h) 1252 (l0)))) (if (zE (h) (zR (h) 1252 (l0)) (l2).toNatClampNeg) = ((2 : Int32)) then (bh (pE (h) (zR (h) 1252 (l0)) (l2).toNatClampNeg ((1 : Int32))) (fun h11 => f_X11_loses_40 KL (f_X11_loses_12 KL n) (l0) (l1) (l2) (h11))) else (f_X11_loses_40 KL (f_X11_loses_12 KL n) (l0) (l1) (l2) (h))))))
theorem f_X11_loses_12_ok {G : Gd} {d jl : Nat} (KL : Nat → Int32 → Hp → Option Hp) (hKL : ∀ {a : Nat} {b : Int32} {h o : Hp}, KL a b h = some o → Cal G jl Y_X11_loses [zrf a, .int b] h none o) (h20 : 20 ≤ jl) (hj : jl + 7 ≤ d) : ∀ (n : Nat) (l0 : Nat) (l1 : Int32) (l2 : Int32) (L : List (Nat × Value)) (h : Hp) (o : Hp), zlk L 0 = some (zrf (l0)) → zlk L 1 = some (.int (l1)) → zlk L 2 = some (.int (l2)) → f_X11_loses_12 KL n l0 l1 l2 h = some o → Ev G M_X11_loses d 12 L [] h (Ret Y_X11_loses none o) := by
  intro n
  induction n with
  | zero =>
    intro l0 l1 l2 L h o g0 g1 g2 e
    cases e
  | succ n ih =>
    intro l0 l1 l2 L h o g0 g1 g2 e
    unfold f_X11_loses_12 at e
    refine r_iload_n d_X11_loses_12 rfl g2 ?_
    refine r_bipush d_X11_loses_13 (v := (16 : Int32)) (by decide +kernel) ?_
    refine r_iload_n d_X11_loses_15 rfl g1 ?_
    refine r_imul d_X11_loses_16 ?_
    refine r_bipush d_X11_loses_17 (v := (16 : Int32)) (by decide +kernel) ?_
    refine r_iadd d_X11_loses_19 ?_
    refine r_icmp_ge d_X11_loses_20 (tgt := 46) (by decide) (fun c6 => ?_) (fun c6 => ?_)
    · replace e := (if_pos c6).symm.trans e
      exact f_X11_loses_46_ok _ hKL h20 hj _ _ _ _ _ _ g0 g1 e
    · replace e := (if_neg c6).symm.trans e
      refine g_ald_n d_X11_loses_23 rfl g0 ?_
      replace e := ckd e
      obtain ⟨k7, e⟩ := e
      refine g_getR d_X11_loses_24 (f := 1252) k7 fk_10_146 rfl rfl ?_
      refine r_iload_n d_X11_loses_27 rfl g2 ?_
      replace e := ckd e
      obtain ⟨k8, e⟩ := e
      replace e := ckd e
      obtain ⟨k9, e⟩ := e
      refine g_iald d_X11_loses_28 k8 k9 rfl ?_
      refine r_iconst d_X11_loses_29 (v := (2 : Int32)) (by decide +kernel) ?_
      refine r_icmp_ne d_X11_loses_30 (tgt := 40) (by decide) (fun c10 => ?_) (fun c10 => ?_)
      · replace e := (if_neg c10).symm.trans e
        exact f_X11_loses_40_ok _ hKL h20 _ hj ih _ _ _ _ _ _ g0 g1 g2 e
      · replace e := (if_pos c10).symm.trans e
        refine g_ald_n d_X11_loses_33 rfl g0 ?_
        refine g_getR d_X11_loses_34 (f := 1252) k7 fk_10_146 rfl rfl ?_
        refine r_iload_n d_X11_loses_37 rfl g2 ?_
        refine r_iconst d_X11_loses_38 (v := (1 : Int32)) (by decide +kernel) ?_
        refine g_iast d_X11_loses_39 k8 k9 ?_
        replace e := bhd e
        obtain ⟨_, rfl, e⟩ := e
        exact f_X11_loses_40_ok _ hKL h20 _ hj ih _ _ _ _ _ _ g0 g1 g2 e

def f_X11_loses (KL : Nat → Int32 → Hp → Option Hp) (l0 : Nat) (l1 : Int32) (h : Hp) : Option Hp := ck (isO (h) (l0) 12) (ck (isO (h) (zR (h) 1237 (l0)) 22) (ck (inR (l1) (zL (h) (zR (h) 1237 (l0)))) (bh (pE (h) (zR (h) 1237 (l0)) (l1).toNatClampNeg ((-1 : Int32))) (fun h4 => bh (((16 : Int32)) * (l1)) (fun x5 => f_X11_loses_12 KL fz (l0) (l1) (x5) (h4))))))
theorem f_X11_loses_ok {G : Gd} {d jl : Nat} (KL : Nat → Int32 → Hp → Option Hp) (hKL : ∀ {a : Nat} {b : Int32} {h o : Hp}, KL a b h = some o → Cal G jl Y_X11_loses [zrf a, .int b] h none o) (h20 : 20 ≤ jl) (hj : jl + 7 ≤ d) : ∀ (l0 : Nat) (l1 : Int32) (L : List (Nat × Value)) (h : Hp) (o : Hp), zlk L 0 = some (zrf (l0)) → zlk L 1 = some (.int (l1)) → f_X11_loses KL l0 l1 h = some o → Ev G M_X11_loses d 0 L [] h (Ret Y_X11_loses none o) := by
  intro l0 l1 L h o g0 g1 e
  unfold f_X11_loses at e
  refine g_ald_n d_X11_loses_0 rfl g0 ?_
  replace e := ckd e
  obtain ⟨k1, e⟩ := e
  refine g_getR d_X11_loses_1 (f := 1237) k1 fk_10_101 rfl rfl ?_
  refine r_iload_n d_X11_loses_4 rfl g1 ?_
  refine r_iconst d_X11_loses_5 (v := (-1 : Int32)) (by decide +kernel) ?_
  replace e := ckd e
  obtain ⟨k2, e⟩ := e
  replace e := ckd e
  obtain ⟨k3, e⟩ := e
  refine g_iast d_X11_loses_6 k2 k3 ?_
  replace e := bhd e
  obtain ⟨_, rfl, e⟩ := e
  refine r_bipush d_X11_loses_7 (v := (16 : Int32)) (by decide +kernel) ?_
  refine r_iload_n d_X11_loses_9 rfl g1 ?_
  refine r_imul d_X11_loses_10 ?_
  replace e := bhd e
  obtain ⟨_, rfl, e⟩ := e
  refine s_istore_n d_X11_loses_11 rfl (by decide) (fun L g2 gK => ?_)
  replace g0 := gK _ _ (by decide) (Or.inr (zrf_cat _)) g0
  replace g1 := gK _ _ (by decide) (Or.inr rfl) g1
  exact f_X11_loses_12_ok _ hKL h20 hj _ _ _ _ _ _ _ g0 g1 g2 e

theorem c_X11_loses {G : Gd} {j : Nat} {jl : Nat} {KL : Nat → Int32 → Hp → Option Hp} (hKL : ∀ {a : Nat} {b : Int32} {h o : Hp}, KL a b h = some o → Cal G jl Y_X11_loses [zrf a, .int b] h none o) (h20 : 20 ≤ jl) (hj : jl + 7 ≤ j) {l0 : Nat} {l1 : Int32} {h : Hp} {o : Hp} (e : f_X11_loses KL l0 l1 h = some o) : Cal G j Y_X11_loses [zrf (l0), .int (l1)] h none o := Cal.of (n := 0) (I := false) (by first | exact Or.inl (by decide +kernel) | exact Or.inr (by decide +kernel)) (by decide) (by simp [lg_sl, zrf_cat, cat_int, cat_long]) (f_X11_loses_ok KL hKL h20 hj _ _ _ h o (by simp [lv_args, zlk, zrf_cat, cat_int, cat_long]) (by simp [lv_args, zlk, zrf_cat, cat_int, cat_long]) e)
def f_losesD : Nat → Nat → Int32 → Hp → Option Hp
  | 0, _, _, _ => none
  | D + 1, a, b, h => f_X11_loses (f_losesD D) a b h
theorem c_losesD (D : Nat) : ∀ {G : Gd} {j : Nat} (hj : 20 + 20 * D ≤ j) {a : Nat} {b : Int32} {h o : Hp} (e : f_losesD D a b h = some o), Cal G j Y_X11_loses [zrf a, .int b] h none o := by
  induction D with
  | zero => intro G j hj a b h o e; cases e
  | succ D ih =>
    intro G j hj a b h o e
    exact c_X11_loses (jl := 20 + 20 * D) (fun q => ih (Nat.le_refl _) q) (by omega) (by omega) e
