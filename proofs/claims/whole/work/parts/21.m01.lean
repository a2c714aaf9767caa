abbrev Y_X3_readStep : Yx := (⟨"TaskWeave$Parser", "readStep", "(I)Z"⟩, prog_5_method_10_code, 3, (some .boolean))
abbrev M_X3_readStep : Mx := ("TaskWeave$Parser", prog_5_method_10_code, 3, false)
theorem yk_X3_readStep : Yk Y_X3_readStep 1 := ⟨by decide +kernel, by decide +kernel, ⟨by decide, by decide⟩, by decide +kernel, by decide, by decide +kernel⟩
theorem d_X3_readStep_0 : decode prog_5_method_10_code 0 = .ok (.iconst 0, 1) := by decide +kernel
theorem d_X3_readStep_1 : decode prog_5_method_10_code 1 = .ok (.istore_n 2, 1) := by decide +kernel
theorem d_X3_readStep_2 : decode prog_5_method_10_code 2 = .ok (.iload_n 2, 1) := by decide +kernel
theorem d_X3_readStep_3 : decode prog_5_method_10_code 3 = .ok (.bipush 8, 2) := by decide +kernel
theorem d_X3_readStep_5 : decode prog_5_method_10_code 5 = .ok (.if_icmp .ge 18, 3) := by decide +kernel
theorem d_X3_readStep_8 : decode prog_5_method_10_code 8 = .ok (.aload_n 0, 1) := by decide +kernel
theorem d_X3_readStep_9 : decode prog_5_method_10_code 9 = .ok (.getfield 15, 3) := by decide +kernel
theorem d_X3_readStep_12 : decode prog_5_method_10_code 12 = .ok (.iload_n 1, 1) := by decide +kernel
theorem d_X3_readStep_13 : decode prog_5_method_10_code 13 = .ok (.iload_n 2, 1) := by decide +kernel
theorem d_X3_readStep_14 : decode prog_5_method_10_code 14 = .ok (.iadd, 1) := by decide +kernel
theorem d_X3_readStep_15 : decode prog_5_method_10_code 15 = .ok (.iconst 0, 1) := by decide +kernel
theorem d_X3_readStep_16 : decode prog_5_method_10_code 16 = .ok (.iastore, 1) := by decide +kernel
theorem d_X3_readStep_17 : decode prog_5_method_10_code 17 = .ok (.iinc 2 1, 3) := by decide +kernel
theorem d_X3_readStep_20 : decode prog_5_method_10_code 20 = .ok (.goto (-18), 3) := by decide +kernel
theorem d_X3_readStep_23 : decode prog_5_method_10_code 23 = .ok (.aload_n 0, 1) := by decide +kernel
theorem d_X3_readStep_24 : decode prog_5_method_10_code 24 = .ok (.getfield 15, 3) := by decide +kernel
theorem d_X3_readStep_27 : decode prog_5_method_10_code 27 = .ok (.iload_n 1, 1) := by decide +kernel
theorem d_X3_readStep_28 : decode prog_5_method_10_code 28 = .ok (.iconst 4, 1) := by decide +kernel
theorem d_X3_readStep_29 : decode prog_5_method_10_code 29 = .ok (.iadd, 1) := by decide +kernel
theorem d_X3_readStep_30 : decode prog_5_method_10_code 30 = .ok (.iconst (-1), 1) := by decide +kernel
theorem d_X3_readStep_31 : decode prog_5_method_10_code 31 = .ok (.iastore, 1) := by decide +kernel
theorem d_X3_readStep_32 : decode prog_5_method_10_code 32 = .ok (.aload_n 0, 1) := by decide +kernel
theorem d_X3_readStep_33 : decode prog_5_method_10_code 33 = .ok (.getfield 15, 3) := by decide +kernel
theorem d_X3_readStep_36 : decode prog_5_method_10_code 36 = .ok (.iload_n 1, 1) := by decide +kernel
theorem d_X3_readStep_37 : decode prog_5_method_10_code 37 = .ok (.bipush 6, 2) := by decide +kernel
theorem d_X3_readStep_39 : decode prog_5_method_10_code 39 = .ok (.iadd, 1) := by decide +kernel
theorem d_X3_readStep_40 : decode prog_5_method_10_code 40 = .ok (.iconst (-1), 1) := by decide +kernel
theorem d_X3_readStep_41 : decode prog_5_method_10_code 41 = .ok (.iastore, 1) := by decide +kernel
theorem d_X3_readStep_42 : decode prog_5_method_10_code 42 = .ok (.aload_n 0, 1) := by decide +kernel
theorem d_X3_readStep_43 : decode prog_5_method_10_code 43 = .ok (.invokevirtual 75, 3) := by decide +kernel
theorem d_X3_readStep_46 : decode prog_5_method_10_code 46 = .ok (.istore_n 2, 1) := by decide +kernel
theorem d_X3_readStep_47 : decode prog_5_method_10_code 47 = .ok (.iload_n 2, 1) := by decide +kernel
theorem d_X3_readStep_48 : decode prog_5_method_10_code 48 = .ok (.invokestatic 79, 3) := by decide +kernel
theorem d_X3_readStep_51 : decode prog_5_method_10_code 51 = .ok (.ifCond .eq 48, 3) := by decide +kernel
theorem d_X3_readStep_54 : decode prog_5_method_10_code 54 = .ok (.aload_n 0, 1) := by decide +kernel
theorem d_X3_readStep_55 : decode prog_5_method_10_code 55 = .ok (.getfield 15, 3) := by decide +kernel
theorem d_X3_readStep_58 : decode prog_5_method_10_code 58 = .ok (.iload_n 1, 1) := by decide +kernel
theorem d_X3_readStep_59 : decode prog_5_method_10_code 59 = .ok (.iconst 1, 1) := by decide +kernel
theorem d_X3_readStep_60 : decode prog_5_method_10_code 60 = .ok (.iadd, 1) := by decide +kernel
theorem d_X3_readStep_61 : decode prog_5_method_10_code 61 = .ok (.iload_n 2, 1) := by decide +kernel
theorem d_X3_readStep_62 : decode prog_5_method_10_code 62 = .ok (.bipush 97, 2) := by decide +kernel
theorem d_X3_readStep_64 : decode prog_5_method_10_code 64 = .ok (.isub, 1) := by decide +kernel
theorem d_X3_readStep_65 : decode prog_5_method_10_code 65 = .ok (.iastore, 1) := by decide +kernel
theorem d_X3_readStep_66 : decode prog_5_method_10_code 66 = .ok (.aload_n 0, 1) := by decide +kernel
theorem d_X3_readStep_67 : decode prog_5_method_10_code 67 = .ok (.dup, 1) := by decide +kernel
theorem d_X3_readStep_68 : decode prog_5_method_10_code 68 = .ok (.getfield 39, 3) := by decide +kernel
theorem d_X3_readStep_71 : decode prog_5_method_10_code 71 = .ok (.iconst 1, 1) := by decide +kernel
theorem d_X3_readStep_72 : decode prog_5_method_10_code 72 = .ok (.iadd, 1) := by decide +kernel
theorem d_X3_readStep_73 : decode prog_5_method_10_code 73 = .ok (.putfield 39, 3) := by decide +kernel
theorem d_X3_readStep_76 : decode prog_5_method_10_code 76 = .ok (.aload_n 0, 1) := by decide +kernel
theorem d_X3_readStep_77 : decode prog_5_method_10_code 77 = .ok (.bipush 61, 2) := by decide +kernel
theorem d_X3_readStep_79 : decode prog_5_method_10_code 79 = .ok (.invokevirtual 71, 3) := by decide +kernel
theorem d_X3_readStep_82 : decode prog_5_method_10_code 82 = .ok (.ifCond .eq 15, 3) := by decide +kernel
theorem d_X3_readStep_85 : decode prog_5_method_10_code 85 = .ok (.aload_n 0, 1) := by decide +kernel
theorem d_X3_readStep_86 : decode prog_5_method_10_code 86 = .ok (.iload_n 1, 1) := by decide +kernel
theorem d_X3_readStep_87 : decode prog_5_method_10_code 87 = .ok (.invokevirtual 82, 3) := by decide +kernel
theorem d_X3_readStep_90 : decode prog_5_method_10_code 90 = .ok (.ifCond .eq 7, 3) := by decide +kernel
theorem d_X3_readStep_93 : decode prog_5_method_10_code 93 = .ok (.iconst 1, 1) := by decide +kernel
theorem d_X3_readStep_94 : decode prog_5_method_10_code 94 = .ok (.goto 4, 3) := by decide +kernel
theorem d_X3_readStep_97 : decode prog_5_method_10_code 97 = .ok (.iconst 0, 1) := by decide +kernel
theorem d_X3_readStep_98 : decode prog_5_method_10_code 98 = .ok (.ireturn, 1) := by decide +kernel
theorem d_X3_readStep_99 : decode prog_5_method_10_code 99 = .ok (.iload_n 2, 1) := by decide +kernel
theorem d_X3_readStep_100 : decode prog_5_method_10_code 100 = .ok (.bipush 84, 2) := by decide +kernel
theorem d_X3_readStep_102 : decode prog_5_method_10_code 102 = .ok (.if_icmp .eq 29, 3) := by decide +kernel
theorem d_X3_readStep_105 : decode prog_5_method_10_code 105 = .ok (.iload_n 2, 1) := by decide +kernel
theorem d_X3_readStep_106 : decode prog_5_method_10_code 106 = .ok (.bipush 83, 2) := by decide +kernel
theorem d_X3_readStep_108 : decode prog_5_method_10_code 108 = .ok (.if_icmp .eq 23, 3) := by decide +kernel
theorem d_X3_readStep_111 : decode prog_5_method_10_code 111 = .ok (.iload_n 2, 1) := by decide +kernel
theorem d_X3_readStep_112 : decode prog_5_method_10_code 112 = .ok (.bipush 73, 2) := by decide +kernel
theorem d_X3_readStep_114 : decode prog_5_method_10_code 114 = .ok (.if_icmp .eq 17, 3) := by decide +kernel
theorem d_X3_readStep_117 : decode prog_5_method_10_code 117 = .ok (.iload_n 2, 1) := by decide +kernel
theorem d_X3_readStep_118 : decode prog_5_method_10_code 118 = .ok (.bipush 71, 2) := by decide +kernel
theorem d_X3_readStep_120 : decode prog_5_method_10_code 120 = .ok (.if_icmp .eq 11, 3) := by decide +kernel
theorem d_X3_readStep_123 : decode prog_5_method_10_code 123 = .ok (.iload_n 2, 1) := by decide +kernel
theorem d_X3_readStep_124 : decode prog_5_method_10_code 124 = .ok (.bipush 69, 2) := by decide +kernel
theorem d_X3_readStep_126 : decode prog_5_method_10_code 126 = .ok (.if_icmp .eq 5, 3) := by decide +kernel
theorem d_X3_readStep_129 : decode prog_5_method_10_code 129 = .ok (.iconst 0, 1) := by decide +kernel
theorem d_X3_readStep_130 : decode prog_5_method_10_code 130 = .ok (.ireturn, 1) := by decide +kernel
theorem d_X3_readStep_131 : decode prog_5_method_10_code 131 = .ok (.aload_n 0, 1) := by decide +kernel
theorem d_X3_readStep_132 : decode prog_5_method_10_code 132 = .ok (.getfield 15, 3) := by decide +kernel
theorem d_X3_readStep_135 : decode prog_5_method_10_code 135 = .ok (.iload_n 1, 1) := by decide +kernel
theorem d_X3_readStep_136 : decode prog_5_method_10_code 136 = .ok (.iconst 0, 1) := by decide +kernel
theorem d_X3_readStep_137 : decode prog_5_method_10_code 137 = .ok (.iadd, 1) := by decide +kernel
theorem d_X3_readStep_138 : decode prog_5_method_10_code 138 = .ok (.iload_n 2, 1) := by decide +kernel
theorem d_X3_readStep_139 : decode prog_5_method_10_code 139 = .ok (.iastore, 1) := by decide +kernel
theorem d_X3_readStep_140 : decode prog_5_method_10_code 140 = .ok (.aload_n 0, 1) := by decide +kernel
theorem d_X3_readStep_141 : decode prog_5_method_10_code 141 = .ok (.dup, 1) := by decide +kernel
theorem d_X3_readStep_142 : decode prog_5_method_10_code 142 = .ok (.getfield 39, 3) := by decide +kernel
theorem d_X3_readStep_145 : decode prog_5_method_10_code 145 = .ok (.iconst 1, 1) := by decide +kernel
theorem d_X3_readStep_146 : decode prog_5_method_10_code 146 = .ok (.iadd, 1) := by decide +kernel
theorem d_X3_readStep_147 : decode prog_5_method_10_code 147 = .ok (.putfield 39, 3) := by decide +kernel
theorem d_X3_readStep_150 : decode prog_5_method_10_code 150 = .ok (.iload_n 2, 1) := by decide +kernel
theorem d_X3_readStep_151 : decode prog_5_method_10_code 151 = .ok (.lookupswitch 119 #[(71, 33), (73, 41), (83, 65)], 33) := by decide +kernel
theorem d_X3_readStep_184 : decode prog_5_method_10_code 184 = .ok (.aload_n 0, 1) := by decide +kernel
theorem d_X3_readStep_185 : decode prog_5_method_10_code 185 = .ok (.iload_n 1, 1) := by decide +kernel
theorem d_X3_readStep_186 : decode prog_5_method_10_code 186 = .ok (.bipush 57, 2) := by decide +kernel
theorem d_X3_readStep_188 : decode prog_5_method_10_code 188 = .ok (.invokevirtual 85, 3) := by decide +kernel
theorem d_X3_readStep_191 : decode prog_5_method_10_code 191 = .ok (.ireturn, 1) := by decide +kernel
theorem d_X3_readStep_192 : decode prog_5_method_10_code 192 = .ok (.aload_n 0, 1) := by decide +kernel
theorem d_X3_readStep_193 : decode prog_5_method_10_code 193 = .ok (.iload_n 1, 1) := by decide +kernel
theorem d_X3_readStep_194 : decode prog_5_method_10_code 194 = .ok (.invokevirtual 89, 3) := by decide +kernel
theorem d_X3_readStep_197 : decode prog_5_method_10_code 197 = .ok (.ifCond .eq 17, 3) := by decide +kernel
theorem d_X3_readStep_200 : decode prog_5_method_10_code 200 = .ok (.aload_n 0, 1) := by decide +kernel
theorem d_X3_readStep_201 : decode prog_5_method_10_code 201 = .ok (.iload_n 1, 1) := by decide +kernel
theorem d_X3_readStep_202 : decode prog_5_method_10_code 202 = .ok (.bipush 57, 2) := by decide +kernel
theorem d_X3_readStep_204 : decode prog_5_method_10_code 204 = .ok (.invokevirtual 85, 3) := by decide +kernel
theorem d_X3_readStep_207 : decode prog_5_method_10_code 207 = .ok (.ifCond .eq 7, 3) := by decide +kernel
theorem d_X3_readStep_210 : decode prog_5_method_10_code 210 = .ok (.iconst 1, 1) := by decide +kernel
theorem d_X3_readStep_211 : decode prog_5_method_10_code 211 = .ok (.goto 4, 3) := by decide +kernel
theorem d_X3_readStep_214 : decode prog_5_method_10_code 214 = .ok (.iconst 0, 1) := by decide +kernel
theorem d_X3_readStep_215 : decode prog_5_method_10_code 215 = .ok (.ireturn, 1) := by decide +kernel
theorem d_X3_readStep_216 : decode prog_5_method_10_code 216 = .ok (.aload_n 0, 1) := by decide +kernel
theorem d_X3_readStep_217 : decode prog_5_method_10_code 217 = .ok (.bipush 40, 2) := by decide +kernel
theorem d_X3_readStep_219 : decode prog_5_method_10_code 219 = .ok (.invokevirtual 71, 3) := by decide +kernel
theorem d_X3_readStep_222 : decode prog_5_method_10_code 222 = .ok (.ifCond .eq 46, 3) := by decide +kernel
theorem d_X3_readStep_225 : decode prog_5_method_10_code 225 = .ok (.aload_n 0, 1) := by decide +kernel
theorem d_X3_readStep_226 : decode prog_5_method_10_code 226 = .ok (.iload_n 1, 1) := by decide +kernel
theorem d_X3_readStep_227 : decode prog_5_method_10_code 227 = .ok (.iconst 4, 1) := by decide +kernel
theorem d_X3_readStep_228 : decode prog_5_method_10_code 228 = .ok (.iadd, 1) := by decide +kernel
theorem d_X3_readStep_229 : decode prog_5_method_10_code 229 = .ok (.invokevirtual 92, 3) := by decide +kernel
theorem d_X3_readStep_232 : decode prog_5_method_10_code 232 = .ok (.ifCond .eq 36, 3) := by decide +kernel
theorem d_X3_readStep_235 : decode prog_5_method_10_code 235 = .ok (.aload_n 0, 1) := by decide +kernel
theorem d_X3_readStep_236 : decode prog_5_method_10_code 236 = .ok (.bipush 44, 2) := by decide +kernel
theorem d_X3_readStep_238 : decode prog_5_method_10_code 238 = .ok (.invokevirtual 71, 3) := by decide +kernel
theorem d_X3_readStep_241 : decode prog_5_method_10_code 241 = .ok (.ifCond .eq 27, 3) := by decide +kernel
theorem d_X3_readStep_244 : decode prog_5_method_10_code 244 = .ok (.aload_n 0, 1) := by decide +kernel
theorem d_X3_readStep_245 : decode prog_5_method_10_code 245 = .ok (.iload_n 1, 1) := by decide +kernel
theorem d_X3_readStep_246 : decode prog_5_method_10_code 246 = .ok (.bipush 6, 2) := by decide +kernel
theorem d_X3_readStep_248 : decode prog_5_method_10_code 248 = .ok (.iadd, 1) := by decide +kernel
theorem d_X3_readStep_249 : decode prog_5_method_10_code 249 = .ok (.invokevirtual 92, 3) := by decide +kernel
theorem d_X3_readStep_252 : decode prog_5_method_10_code 252 = .ok (.ifCond .eq 16, 3) := by decide +kernel
theorem d_X3_readStep_255 : decode prog_5_method_10_code 255 = .ok (.aload_n 0, 1) := by decide +kernel
theorem d_X3_readStep_256 : decode prog_5_method_10_code 256 = .ok (.bipush 41, 2) := by decide +kernel
theorem d_X3_readStep_258 : decode prog_5_method_10_code 258 = .ok (.invokevirtual 71, 3) := by decide +kernel
theorem d_X3_readStep_261 : decode prog_5_method_10_code 261 = .ok (.ifCond .eq 7, 3) := by decide +kernel
theorem d_X3_readStep_264 : decode prog_5_method_10_code 264 = .ok (.iconst 1, 1) := by decide +kernel
theorem d_X3_readStep_265 : decode prog_5_method_10_code 265 = .ok (.goto 4, 3) := by decide +kernel
theorem d_X3_readStep_268 : decode prog_5_method_10_code 268 = .ok (.iconst 0, 1) := by decide +kernel
theorem d_X3_readStep_269 : decode prog_5_method_10_code 269 = .ok (.ireturn, 1) := by decide +kernel
theorem d_X3_readStep_270 : decode prog_5_method_10_code 270 = .ok (.aload_n 0, 1) := by decide +kernel
theorem d_X3_readStep_271 : decode prog_5_method_10_code 271 = .ok (.iload_n 1, 1) := by decide +kernel
theorem d_X3_readStep_272 : decode prog_5_method_10_code 272 = .ok (.invokevirtual 89, 3) := by decide +kernel
theorem d_X3_readStep_275 : decode prog_5_method_10_code 275 = .ok (.ireturn, 1) := by decide +kernel
abbrev Y_X3_readSteps : Yx := (⟨"TaskWeave$Parser", "readSteps", "()I"⟩, prog_5_method_5_code, 2, (some .int))
abbrev M_X3_readSteps : Mx := ("TaskWeave$Parser", prog_5_method_5_code, 2, false)
theorem yk_X3_readSteps : Yk Y_X3_readSteps 0 := ⟨by decide +kernel, by decide +kernel, ⟨by decide, by decide⟩, by decide +kernel, by decide, by decide +kernel⟩
theorem d_X3_readSteps_0 : decode prog_5_method_5_code 0 = .ok (.aload_n 0, 1) := by decide +kernel
theorem d_X3_readSteps_1 : decode prog_5_method_5_code 1 = .ok (.getfield 19, 3) := by decide +kernel
theorem d_X3_readSteps_4 : decode prog_5_method_5_code 4 = .ok (.iconst (-1), 1) := by decide +kernel
theorem d_X3_readSteps_5 : decode prog_5_method_5_code 5 = .ok (.invokestatic 60, 3) := by decide +kernel
theorem d_X3_readSteps_8 : decode prog_5_method_5_code 8 = .ok (.aload_n 0, 1) := by decide +kernel
theorem d_X3_readSteps_9 : decode prog_5_method_5_code 9 = .ok (.iconst 0, 1) := by decide +kernel
theorem d_X3_readSteps_10 : decode prog_5_method_5_code 10 = .ok (.putfield 39, 3) := by decide +kernel
theorem d_X3_readSteps_13 : decode prog_5_method_5_code 13 = .ok (.iconst 0, 1) := by decide +kernel
theorem d_X3_readSteps_14 : decode prog_5_method_5_code 14 = .ok (.istore_n 1, 1) := by decide +kernel
theorem d_X3_readSteps_15 : decode prog_5_method_5_code 15 = .ok (.iload_n 1, 1) := by decide +kernel
theorem d_X3_readSteps_16 : decode prog_5_method_5_code 16 = .ok (.bipush 60, 2) := by decide +kernel
theorem d_X3_readSteps_18 : decode prog_5_method_5_code 18 = .ok (.if_icmp .ge 50, 3) := by decide +kernel
theorem d_X3_readSteps_21 : decode prog_5_method_5_code 21 = .ok (.aload_n 0, 1) := by decide +kernel
theorem d_X3_readSteps_22 : decode prog_5_method_5_code 22 = .ok (.getfield 39, 3) := by decide +kernel
theorem d_X3_readSteps_25 : decode prog_5_method_5_code 25 = .ok (.aload_n 0, 1) := by decide +kernel
theorem d_X3_readSteps_26 : decode prog_5_method_5_code 26 = .ok (.getfield 26, 3) := by decide +kernel
theorem d_X3_readSteps_29 : decode prog_5_method_5_code 29 = .ok (.if_icmp .ge 39, 3) := by decide +kernel
theorem d_X3_readSteps_32 : decode prog_5_method_5_code 32 = .ok (.aload_n 0, 1) := by decide +kernel
theorem d_X3_readSteps_33 : decode prog_5_method_5_code 33 = .ok (.iload_n 1, 1) := by decide +kernel
theorem d_X3_readSteps_34 : decode prog_5_method_5_code 34 = .ok (.invokevirtual 64, 3) := by decide +kernel
theorem d_X3_readSteps_37 : decode prog_5_method_5_code 37 = .ok (.ifCond .eq 23, 3) := by decide +kernel
theorem d_X3_readSteps_40 : decode prog_5_method_5_code 40 = .ok (.aload_n 0, 1) := by decide +kernel
theorem d_X3_readSteps_41 : decode prog_5_method_5_code 41 = .ok (.iload_n 1, 1) := by decide +kernel
theorem d_X3_readSteps_42 : decode prog_5_method_5_code 42 = .ok (.bipush 8, 2) := by decide +kernel
theorem d_X3_readSteps_44 : decode prog_5_method_5_code 44 = .ok (.imul, 1) := by decide +kernel
theorem d_X3_readSteps_45 : decode prog_5_method_5_code 45 = .ok (.invokevirtual 68, 3) := by decide +kernel
theorem d_X3_readSteps_48 : decode prog_5_method_5_code 48 = .ok (.ifCond .eq 12, 3) := by decide +kernel
theorem d_X3_readSteps_51 : decode prog_5_method_5_code 51 = .ok (.aload_n 0, 1) := by decide +kernel
theorem d_X3_readSteps_52 : decode prog_5_method_5_code 52 = .ok (.bipush 59, 2) := by decide +kernel
theorem d_X3_readSteps_54 : decode prog_5_method_5_code 54 = .ok (.invokevirtual 71, 3) := by decide +kernel
theorem d_X3_readSteps_57 : decode prog_5_method_5_code 57 = .ok (.ifCond .ne 5, 3) := by decide +kernel
theorem d_X3_readSteps_60 : decode prog_5_method_5_code 60 = .ok (.iconst (-1), 1) := by decide +kernel
theorem d_X3_readSteps_61 : decode prog_5_method_5_code 61 = .ok (.ireturn, 1) := by decide +kernel
theorem d_X3_readSteps_62 : decode prog_5_method_5_code 62 = .ok (.iinc 1 1, 3) := by decide +kernel
theorem d_X3_readSteps_65 : decode prog_5_method_5_code 65 = .ok (.goto (-50), 3) := by decide +kernel
theorem d_X3_readSteps_68 : decode prog_5_method_5_code 68 = .ok (.aload_n 0, 1) := by decide +kernel
theorem d_X3_readSteps_69 : decode prog_5_method_5_code 69 = .ok (.getfield 39, 3) := by decide +kernel
theorem d_X3_readSteps_72 : decode prog_5_method_5_code 72 = .ok (.aload_n 0, 1) := by decide +kernel
theorem d_X3_readSteps_73 : decode prog_5_method_5_code 73 = .ok (.getfield 26, 3) := by decide +kernel
theorem d_X3_readSteps_76 : decode prog_5_method_5_code 76 = .ok (.if_icmp .ge 7, 3) := by decide +kernel
theorem d_X3_readSteps_79 : decode prog_5_method_5_code 79 = .ok (.iconst (-1), 1) := by decide +kernel
theorem d_X3_readSteps_80 : decode prog_5_method_5_code 80 = .ok (.goto 4, 3) := by decide +kernel
theorem d_X3_readSteps_83 : decode prog_5_method_5_code 83 = .ok (.iload_n 1, 1) := by decide +kernel
theorem d_X3_readSteps_84 : decode prog_5_method_5_code 84 = .ok (.ireturn, 1) := by decide +kernel
abbrev Y_X3_linkLabels : Yx := (⟨"TaskWeave$Parser", "linkLabels", "(I)I"⟩, prog_5_method_6_code, 4, (some .int))
abbrev M_X3_linkLabels : Mx := ("TaskWeave$Parser", prog_5_method_6_code, 4, false)
theorem yk_X3_linkLabels : Yk Y_X3_linkLabels 1 := ⟨by decide +kernel, by decide +kernel, ⟨by decide, by decide⟩, by decide +kernel, by decide, by decide +kernel⟩
theorem d_X3_linkLabels_0 : decode prog_5_method_6_code 0 = .ok (.iconst 0, 1) := by decide +kernel
theorem d_X3_linkLabels_1 : decode prog_5_method_6_code 1 = .ok (.istore_n 2, 1) := by decide +kernel
theorem d_X3_linkLabels_2 : decode prog_5_method_6_code 2 = .ok (.iload_n 2, 1) := by decide +kernel
theorem d_X3_linkLabels_3 : decode prog_5_method_6_code 3 = .ok (.iload_n 1, 1) := by decide +kernel
theorem d_X3_linkLabels_4 : decode prog_5_method_6_code 4 = .ok (.bipush 8, 2) := by decide +kernel
theorem d_X3_linkLabels_6 : decode prog_5_method_6_code 6 = .ok (.imul, 1) := by decide +kernel
theorem d_X3_linkLabels_7 : decode prog_5_method_6_code 7 = .ok (.if_icmp .ge 72, 3) := by decide +kernel
theorem d_X3_linkLabels_10 : decode prog_5_method_6_code 10 = .ok (.aload_n 0, 1) := by decide +kernel
theorem d_X3_linkLabels_11 : decode prog_5_method_6_code 11 = .ok (.getfield 15, 3) := by decide +kernel
theorem d_X3_linkLabels_14 : decode prog_5_method_6_code 14 = .ok (.iload_n 2, 1) := by decide +kernel
theorem d_X3_linkLabels_15 : decode prog_5_method_6_code 15 = .ok (.iconst 0, 1) := by decide +kernel
theorem d_X3_linkLabels_16 : decode prog_5_method_6_code 16 = .ok (.iadd, 1) := by decide +kernel
theorem d_X3_linkLabels_17 : decode prog_5_method_6_code 17 = .ok (.iaload, 1) := by decide +kernel
theorem d_X3_linkLabels_18 : decode prog_5_method_6_code 18 = .ok (.bipush 73, 2) := by decide +kernel
theorem d_X3_linkLabels_20 : decode prog_5_method_6_code 20 = .ok (.if_icmp .eq 16, 3) := by decide +kernel
theorem d_X3_linkLabels_23 : decode prog_5_method_6_code 23 = .ok (.aload_n 0, 1) := by decide +kernel
theorem d_X3_linkLabels_24 : decode prog_5_method_6_code 24 = .ok (.getfield 15, 3) := by decide +kernel
theorem d_X3_linkLabels_27 : decode prog_5_method_6_code 27 = .ok (.iload_n 2, 1) := by decide +kernel
theorem d_X3_linkLabels_28 : decode prog_5_method_6_code 28 = .ok (.iconst 0, 1) := by decide +kernel
theorem d_X3_linkLabels_29 : decode prog_5_method_6_code 29 = .ok (.iadd, 1) := by decide +kernel
theorem d_X3_linkLabels_30 : decode prog_5_method_6_code 30 = .ok (.iaload, 1) := by decide +kernel
theorem d_X3_linkLabels_31 : decode prog_5_method_6_code 31 = .ok (.bipush 71, 2) := by decide +kernel
theorem d_X3_linkLabels_33 : decode prog_5_method_6_code 33 = .ok (.if_icmp .ne 40, 3) := by decide +kernel
theorem d_X3_linkLabels_36 : decode prog_5_method_6_code 36 = .ok (.aload_n 0, 1) := by decide +kernel
theorem d_X3_linkLabels_37 : decode prog_5_method_6_code 37 = .ok (.getfield 19, 3) := by decide +kernel
theorem d_X3_linkLabels_40 : decode prog_5_method_6_code 40 = .ok (.aload_n 0, 1) := by decide +kernel
theorem d_X3_linkLabels_41 : decode prog_5_method_6_code 41 = .ok (.getfield 15, 3) := by decide +kernel
theorem d_X3_linkLabels_44 : decode prog_5_method_6_code 44 = .ok (.iload_n 2, 1) := by decide +kernel
theorem d_X3_linkLabels_45 : decode prog_5_method_6_code 45 = .ok (.iconst 2, 1) := by decide +kernel
theorem d_X3_linkLabels_46 : decode prog_5_method_6_code 46 = .ok (.iadd, 1) := by decide +kernel
theorem d_X3_linkLabels_47 : decode prog_5_method_6_code 47 = .ok (.iaload, 1) := by decide +kernel
theorem d_X3_linkLabels_48 : decode prog_5_method_6_code 48 = .ok (.iaload, 1) := by decide +kernel
theorem d_X3_linkLabels_49 : decode prog_5_method_6_code 49 = .ok (.istore_n 3, 1) := by decide +kernel
theorem d_X3_linkLabels_50 : decode prog_5_method_6_code 50 = .ok (.iload_n 3, 1) := by decide +kernel
theorem d_X3_linkLabels_51 : decode prog_5_method_6_code 51 = .ok (.iconst (-1), 1) := by decide +kernel
theorem d_X3_linkLabels_52 : decode prog_5_method_6_code 52 = .ok (.if_icmp .ne 12, 3) := by decide +kernel
theorem d_X3_linkLabels_55 : decode prog_5_method_6_code 55 = .ok (.aload_n 0, 1) := by decide +kernel
theorem d_X3_linkLabels_56 : decode prog_5_method_6_code 56 = .ok (.getfield 15, 3) := by decide +kernel
theorem d_X3_linkLabels_59 : decode prog_5_method_6_code 59 = .ok (.iload_n 2, 1) := by decide +kernel
theorem d_X3_linkLabels_60 : decode prog_5_method_6_code 60 = .ok (.iconst 3, 1) := by decide +kernel
theorem d_X3_linkLabels_61 : decode prog_5_method_6_code 61 = .ok (.iadd, 1) := by decide +kernel
theorem d_X3_linkLabels_62 : decode prog_5_method_6_code 62 = .ok (.iaload, 1) := by decide +kernel
theorem d_X3_linkLabels_63 : decode prog_5_method_6_code 63 = .ok (.ireturn, 1) := by decide +kernel
theorem d_X3_linkLabels_64 : decode prog_5_method_6_code 64 = .ok (.aload_n 0, 1) := by decide +kernel
theorem d_X3_linkLabels_65 : decode prog_5_method_6_code 65 = .ok (.getfield 15, 3) := by decide +kernel
theorem d_X3_linkLabels_68 : decode prog_5_method_6_code 68 = .ok (.iload_n 2, 1) := by decide +kernel
theorem d_X3_linkLabels_69 : decode prog_5_method_6_code 69 = .ok (.iconst 1, 1) := by decide +kernel
theorem d_X3_linkLabels_70 : decode prog_5_method_6_code 70 = .ok (.iadd, 1) := by decide +kernel
theorem d_X3_linkLabels_71 : decode prog_5_method_6_code 71 = .ok (.iload_n 3, 1) := by decide +kernel
theorem d_X3_linkLabels_72 : decode prog_5_method_6_code 72 = .ok (.iastore, 1) := by decide +kernel
theorem d_X3_linkLabels_73 : decode prog_5_method_6_code 73 = .ok (.iinc 2 8, 3) := by decide +kernel
theorem d_X3_linkLabels_76 : decode prog_5_method_6_code 76 = .ok (.goto (-74), 3) := by decide +kernel
theorem d_X3_linkLabels_79 : decode prog_5_method_6_code 79 = .ok (.iconst (-1), 1) := by decide +kernel
theorem d_X3_linkLabels_80 : decode prog_5_method_6_code 80 = .ok (.ireturn, 1) := by decide +kernel
abbrev Y_X4_init : Yx := (⟨"TaskWeave$Program", "<init>", "(I[I)V"⟩, prog_6_method_1_code, 3, none)
abbrev M_X4_init : Mx := ("TaskWeave$Program", prog_6_method_1_code, 3, true)
theorem yk_X4_init : Yk Y_X4_init 2 := ⟨by decide +kernel, by decide +kernel, ⟨by decide, by decide⟩, by decide +kernel, by decide, by decide +kernel⟩
theorem d_X4_init_0 : decode prog_6_method_1_code 0 = .ok (.aload_n 0, 1) := by decide +kernel
theorem d_X4_init_1 : decode prog_6_method_1_code 1 = .ok (.invokespecial 1, 3) := by decide +kernel
theorem d_X4_init_4 : decode prog_6_method_1_code 4 = .ok (.aload_n 0, 1) := by decide +kernel
theorem d_X4_init_5 : decode prog_6_method_1_code 5 = .ok (.iload_n 1, 1) := by decide +kernel
theorem d_X4_init_6 : decode prog_6_method_1_code 6 = .ok (.putfield 7, 3) := by decide +kernel
theorem d_X4_init_9 : decode prog_6_method_1_code 9 = .ok (.aload_n 0, 1) := by decide +kernel
theorem d_X4_init_10 : decode prog_6_method_1_code 10 = .ok (.aload_n 2, 1) := by decide +kernel
theorem d_X4_init_11 : decode prog_6_method_1_code 11 = .ok (.putfield 13, 3) := by decide +kernel
theorem d_X4_init_14 : decode prog_6_method_1_code 14 = .ok (.return_, 1) := by decide +kernel
abbrev Y_X5_init : Yx := (⟨"TaskWeave$Replica", "<init>", "(I)V"⟩, prog_7_method_1_code, 2, none)
abbrev M_X5_init : Mx := ("TaskWeave$Replica", prog_7_method_1_code, 2, true)
theorem yk_X5_init : Yk Y_X5_init 1 := ⟨by decide +kernel, by decide +kernel, ⟨by decide, by decide⟩, by decide +kernel, by decide, by decide +kernel⟩
theorem d_X5_init_0 : decode prog_7_method_1_code 0 = .ok (.aload_n 0, 1) := by decide +kernel
theorem d_X5_init_1 : decode prog_7_method_1_code 1 = .ok (.invokespecial 3, 3) := by decide +kernel
theorem d_X5_init_4 : decode prog_7_method_1_code 4 = .ok (.aload_n 0, 1) := by decide +kernel
theorem d_X5_init_5 : decode prog_7_method_1_code 5 = .ok (.sipush 512, 3) := by decide +kernel
theorem d_X5_init_8 : decode prog_7_method_1_code 8 = .ok (.newarray .byte, 2) := by decide +kernel
theorem d_X5_init_10 : decode prog_7_method_1_code 10 = .ok (.putfield 9, 3) := by decide +kernel
theorem d_X5_init_13 : decode prog_7_method_1_code 13 = .ok (.aload_n 0, 1) := by decide +kernel
theorem d_X5_init_14 : decode prog_7_method_1_code 14 = .ok (.iconst 1, 1) := by decide +kernel
theorem d_X5_init_15 : decode prog_7_method_1_code 15 = .ok (.putfield 15, 3) := by decide +kernel
theorem d_X5_init_18 : decode prog_7_method_1_code 18 = .ok (.aload_n 0, 1) := by decide +kernel
theorem d_X5_init_19 : decode prog_7_method_1_code 19 = .ok (.iconst (-1), 1) := by decide +kernel
theorem d_X5_init_20 : decode prog_7_method_1_code 20 = .ok (.putfield 19, 3) := by decide +kernel
theorem d_X5_init_23 : decode prog_7_method_1_code 23 = .ok (.aload_n 0, 1) := by decide +kernel
theorem d_X5_init_24 : decode prog_7_method_1_code 24 = .ok (.iload_n 1, 1) := by decide +kernel
theorem d_X5_init_25 : decode prog_7_method_1_code 25 = .ok (.putfield 23, 3) := by decide +kernel
theorem d_X5_init_28 : decode prog_7_method_1_code 28 = .ok (.return_, 1) := by decide +kernel
abbrev Y_X5_byteAt : Yx := (⟨"TaskWeave$Replica", "byteAt", "(I)I"⟩, prog_7_method_2_code, 2, (some .int))
abbrev M_X5_byteAt : Mx := ("TaskWeave$Replica", prog_7_method_2_code, 2, false)
theorem yk_X5_byteAt : Yk Y_X5_byteAt 1 := ⟨by decide +kernel, by decide +kernel, ⟨by decide, by decide⟩, by decide +kernel, by decide, by decide +kernel⟩
theorem d_X5_byteAt_0 : decode prog_7_method_2_code 0 = .ok (.iload_n 1, 1) := by decide +kernel
theorem d_X5_byteAt_1 : decode prog_7_method_2_code 1 = .ok (.ifCond .lt 24, 3) := by decide +kernel
theorem d_X5_byteAt_4 : decode prog_7_method_2_code 4 = .ok (.iload_n 1, 1) := by decide +kernel
theorem d_X5_byteAt_5 : decode prog_7_method_2_code 5 = .ok (.aload_n 0, 1) := by decide +kernel
theorem d_X5_byteAt_6 : decode prog_7_method_2_code 6 = .ok (.getfield 26, 3) := by decide +kernel
theorem d_X5_byteAt_9 : decode prog_7_method_2_code 9 = .ok (.if_icmp .ge 16, 3) := by decide +kernel
theorem d_X5_byteAt_12 : decode prog_7_method_2_code 12 = .ok (.aload_n 0, 1) := by decide +kernel
theorem d_X5_byteAt_13 : decode prog_7_method_2_code 13 = .ok (.getfield 9, 3) := by decide +kernel
theorem d_X5_byteAt_16 : decode prog_7_method_2_code 16 = .ok (.iload_n 1, 1) := by decide +kernel
theorem d_X5_byteAt_17 : decode prog_7_method_2_code 17 = .ok (.baload, 1) := by decide +kernel
theorem d_X5_byteAt_18 : decode prog_7_method_2_code 18 = .ok (.sipush 255, 3) := by decide +kernel
theorem d_X5_byteAt_21 : decode prog_7_method_2_code 21 = .ok (.iand, 1) := by decide +kernel
theorem d_X5_byteAt_22 : decode prog_7_method_2_code 22 = .ok (.goto 4, 3) := by decide +kernel
theorem d_X5_byteAt_25 : decode prog_7_method_2_code 25 = .ok (.iconst 0, 1) := by decide +kernel
theorem d_X5_byteAt_26 : decode prog_7_method_2_code 26 = .ok (.ireturn, 1) := by decide +kernel
abbrev Y_X5_wordAt : Yx := (⟨"TaskWeave$Replica", "wordAt", "(I)I"⟩, prog_7_method_3_code, 2, (some .int))
abbrev M_X5_wordAt : Mx := ("TaskWeave$Replica", prog_7_method_3_code, 2, false)
theorem yk_X5_wordAt : Yk Y_X5_wordAt 1 := ⟨by decide +kernel, by decide +kernel, ⟨by decide, by decide⟩, by decide +kernel, by decide, by decide +kernel⟩
theorem d_X5_wordAt_0 : decode prog_7_method_3_code 0 = .ok (.aload_n 0, 1) := by decide +kernel
theorem d_X5_wordAt_1 : decode prog_7_method_3_code 1 = .ok (.iload_n 1, 1) := by decide +kernel
theorem d_X5_wordAt_2 : decode prog_7_method_3_code 2 = .ok (.invokevirtual 29, 3) := by decide +kernel
theorem d_X5_wordAt_5 : decode prog_7_method_3_code 5 = .ok (.bipush 24, 2) := by decide +kernel
theorem d_X5_wordAt_7 : decode prog_7_method_3_code 7 = .ok (.ishl, 1) := by decide +kernel
theorem d_X5_wordAt_8 : decode prog_7_method_3_code 8 = .ok (.aload_n 0, 1) := by decide +kernel
theorem d_X5_wordAt_9 : decode prog_7_method_3_code 9 = .ok (.iload_n 1, 1) := by decide +kernel
theorem d_X5_wordAt_10 : decode prog_7_method_3_code 10 = .ok (.iconst 1, 1) := by decide +kernel
theorem d_X5_wordAt_11 : decode prog_7_method_3_code 11 = .ok (.iadd, 1) := by decide +kernel
theorem d_X5_wordAt_12 : decode prog_7_method_3_code 12 = .ok (.invokevirtual 29, 3) := by decide +kernel
theorem d_X5_wordAt_15 : decode prog_7_method_3_code 15 = .ok (.bipush 16, 2) := by decide +kernel
theorem d_X5_wordAt_17 : decode prog_7_method_3_code 17 = .ok (.ishl, 1) := by decide +kernel
theorem d_X5_wordAt_18 : decode prog_7_method_3_code 18 = .ok (.ior, 1) := by decide +kernel
theorem d_X5_wordAt_19 : decode prog_7_method_3_code 19 = .ok (.aload_n 0, 1) := by decide +kernel
theorem d_X5_wordAt_20 : decode prog_7_method_3_code 20 = .ok (.iload_n 1, 1) := by decide +kernel
theorem d_X5_wordAt_21 : decode prog_7_method_3_code 21 = .ok (.iconst 2, 1) := by decide +kernel
theorem d_X5_wordAt_22 : decode prog_7_method_3_code 22 = .ok (.iadd, 1) := by decide +kernel
theorem d_X5_wordAt_23 : decode prog_7_method_3_code 23 = .ok (.invokevirtual 29, 3) := by decide +kernel
theorem d_X5_wordAt_26 : decode prog_7_method_3_code 26 = .ok (.bipush 8, 2) := by decide +kernel
theorem d_X5_wordAt_28 : decode prog_7_method_3_code 28 = .ok (.ishl, 1) := by decide +kernel
theorem d_X5_wordAt_29 : decode prog_7_method_3_code 29 = .ok (.ior, 1) := by decide +kernel
theorem d_X5_wordAt_30 : decode prog_7_method_3_code 30 = .ok (.aload_n 0, 1) := by decide +kernel
theorem d_X5_wordAt_31 : decode prog_7_method_3_code 31 = .ok (.iload_n 1, 1) := by decide +kernel
theorem d_X5_wordAt_32 : decode prog_7_method_3_code 32 = .ok (.iconst 3, 1) := by decide +kernel
theorem d_X5_wordAt_33 : decode prog_7_method_3_code 33 = .ok (.iadd, 1) := by decide +kernel
theorem d_X5_wordAt_34 : decode prog_7_method_3_code 34 = .ok (.invokevirtual 29, 3) := by decide +kernel
theorem d_X5_wordAt_37 : decode prog_7_method_3_code 37 = .ok (.ior, 1) := by decide +kernel
theorem d_X5_wordAt_38 : decode prog_7_method_3_code 38 = .ok (.ireturn, 1) := by decide +kernel
abbrev Y_X5_lastTerm : Yx := (⟨"TaskWeave$Replica", "lastTerm", "()I"⟩, prog_7_method_4_code, 2, (some .int))
abbrev M_X5_lastTerm : Mx := ("TaskWeave$Replica", prog_7_method_4_code, 2, false)
theorem yk_X5_lastTerm : Yk Y_X5_lastTerm 0 := ⟨by decide +kernel, by decide +kernel, ⟨by decide, by decide⟩, by decide +kernel, by decide, by decide +kernel⟩
theorem d_X5_lastTerm_0 : decode prog_7_method_4_code 0 = .ok (.aload_n 0, 1) := by decide +kernel
theorem d_X5_lastTerm_1 : decode prog_7_method_4_code 1 = .ok (.getfield 26, 3) := by decide +kernel
theorem d_X5_lastTerm_4 : decode prog_7_method_4_code 4 = .ok (.bipush 16, 2) := by decide +kernel
theorem d_X5_lastTerm_6 : decode prog_7_method_4_code 6 = .ok (.isub, 1) := by decide +kernel
theorem d_X5_lastTerm_7 : decode prog_7_method_4_code 7 = .ok (.istore_n 1, 1) := by decide +kernel
theorem d_X5_lastTerm_8 : decode prog_7_method_4_code 8 = .ok (.iload_n 1, 1) := by decide +kernel
theorem d_X5_lastTerm_9 : decode prog_7_method_4_code 9 = .ok (.ifCond .ge 7, 3) := by decide +kernel
theorem d_X5_lastTerm_12 : decode prog_7_method_4_code 12 = .ok (.iconst 0, 1) := by decide +kernel
theorem d_X5_lastTerm_13 : decode prog_7_method_4_code 13 = .ok (.goto 31, 3) := by decide +kernel
theorem d_X5_lastTerm_16 : decode prog_7_method_4_code 16 = .ok (.aload_n 0, 1) := by decide +kernel
theorem d_X5_lastTerm_17 : decode prog_7_method_4_code 17 = .ok (.getfield 9, 3) := by decide +kernel
theorem d_X5_lastTerm_20 : decode prog_7_method_4_code 20 = .ok (.iload_n 1, 1) := by decide +kernel
theorem d_X5_lastTerm_21 : decode prog_7_method_4_code 21 = .ok (.iconst 1, 1) := by decide +kernel
theorem d_X5_lastTerm_22 : decode prog_7_method_4_code 22 = .ok (.iadd, 1) := by decide +kernel
theorem d_X5_lastTerm_23 : decode prog_7_method_4_code 23 = .ok (.baload, 1) := by decide +kernel
theorem d_X5_lastTerm_24 : decode prog_7_method_4_code 24 = .ok (.sipush 255, 3) := by decide +kernel
theorem d_X5_lastTerm_27 : decode prog_7_method_4_code 27 = .ok (.iand, 1) := by decide +kernel
theorem d_X5_lastTerm_28 : decode prog_7_method_4_code 28 = .ok (.bipush 8, 2) := by decide +kernel
theorem d_X5_lastTerm_30 : decode prog_7_method_4_code 30 = .ok (.ishl, 1) := by decide +kernel
theorem d_X5_lastTerm_31 : decode prog_7_method_4_code 31 = .ok (.aload_n 0, 1) := by decide +kernel
theorem d_X5_lastTerm_32 : decode prog_7_method_4_code 32 = .ok (.getfield 9, 3) := by decide +kernel
theorem d_X5_lastTerm_35 : decode prog_7_method_4_code 35 = .ok (.iload_n 1, 1) := by decide +kernel
theorem d_X5_lastTerm_36 : decode prog_7_method_4_code 36 = .ok (.iconst 2, 1) := by decide +kernel
theorem d_X5_lastTerm_37 : decode prog_7_method_4_code 37 = .ok (.iadd, 1) := by decide +kernel
theorem d_X5_lastTerm_38 : decode prog_7_method_4_code 38 = .ok (.baload, 1) := by decide +kernel
theorem d_X5_lastTerm_39 : decode prog_7_method_4_code 39 = .ok (.sipush 255, 3) := by decide +kernel
theorem d_X5_lastTerm_42 : decode prog_7_method_4_code 42 = .ok (.iand, 1) := by decide +kernel
theorem d_X5_lastTerm_43 : decode prog_7_method_4_code 43 = .ok (.ior, 1) := by decide +kernel
theorem d_X5_lastTerm_44 : decode prog_7_method_4_code 44 = .ok (.ireturn, 1) := by decide +kernel
abbrev Y_X5_isAheadOf : Yx := (⟨"TaskWeave$Replica", "isAheadOf", "(LTaskWeave$Replica;)Z"⟩, prog_7_method_6_code, 4, (some .boolean))
abbrev M_X5_isAheadOf : Mx := ("TaskWeave$Replica", prog_7_method_6_code, 4, false)
theorem yk_X5_isAheadOf : Yk Y_X5_isAheadOf 1 := ⟨by decide +kernel, by decide +kernel, ⟨by decide, by decide⟩, by decide +kernel, by decide, by decide +kernel⟩
theorem d_X5_isAheadOf_0 : decode prog_7_method_6_code 0 = .ok (.aload_n 0, 1) := by decide +kernel
theorem d_X5_isAheadOf_1 : decode prog_7_method_6_code 1 = .ok (.invokevirtual 39, 3) := by decide +kernel
theorem d_X5_isAheadOf_4 : decode prog_7_method_6_code 4 = .ok (.istore_n 2, 1) := by decide +kernel
theorem d_X5_isAheadOf_5 : decode prog_7_method_6_code 5 = .ok (.aload_n 1, 1) := by decide +kernel
theorem d_X5_isAheadOf_6 : decode prog_7_method_6_code 6 = .ok (.invokevirtual 39, 3) := by decide +kernel
theorem d_X5_isAheadOf_9 : decode prog_7_method_6_code 9 = .ok (.istore_n 3, 1) := by decide +kernel
theorem d_X5_isAheadOf_10 : decode prog_7_method_6_code 10 = .ok (.iload_n 2, 1) := by decide +kernel
theorem d_X5_isAheadOf_11 : decode prog_7_method_6_code 11 = .ok (.iload_n 3, 1) := by decide +kernel
theorem d_X5_isAheadOf_12 : decode prog_7_method_6_code 12 = .ok (.if_icmp .gt 19, 3) := by decide +kernel
theorem d_X5_isAheadOf_15 : decode prog_7_method_6_code 15 = .ok (.iload_n 2, 1) := by decide +kernel
theorem d_X5_isAheadOf_16 : decode prog_7_method_6_code 16 = .ok (.iload_n 3, 1) := by decide +kernel
theorem d_X5_isAheadOf_17 : decode prog_7_method_6_code 17 = .ok (.if_icmp .ne 18, 3) := by decide +kernel
theorem d_X5_isAheadOf_20 : decode prog_7_method_6_code 20 = .ok (.aload_n 0, 1) := by decide +kernel
theorem d_X5_isAheadOf_21 : decode prog_7_method_6_code 21 = .ok (.getfield 26, 3) := by decide +kernel
theorem d_X5_isAheadOf_24 : decode prog_7_method_6_code 24 = .ok (.aload_n 1, 1) := by decide +kernel
theorem d_X5_isAheadOf_25 : decode prog_7_method_6_code 25 = .ok (.getfield 26, 3) := by decide +kernel
theorem d_X5_isAheadOf_28 : decode prog_7_method_6_code 28 = .ok (.if_icmp .le 7, 3) := by decide +kernel
theorem d_X5_isAheadOf_31 : decode prog_7_method_6_code 31 = .ok (.iconst 1, 1) := by decide +kernel
theorem d_X5_isAheadOf_32 : decode prog_7_method_6_code 32 = .ok (.goto 4, 3) := by decide +kernel
theorem d_X5_isAheadOf_35 : decode prog_7_method_6_code 35 = .ok (.iconst 0, 1) := by decide +kernel
theorem d_X5_isAheadOf_36 : decode prog_7_method_6_code 36 = .ok (.ireturn, 1) := by decide +kernel
abbrev Y_X5_sameRecord : Yx := (⟨"TaskWeave$Replica", "sameRecord", "(LTaskWeave$Replica;I)Z"⟩, prog_7_method_7_code, 4, (some .boolean))
abbrev M_X5_sameRecord : Mx := ("TaskWeave$Replica", prog_7_method_7_code, 4, false)
theorem yk_X5_sameRecord : Yk Y_X5_sameRecord 2 := ⟨by decide +kernel, by decide +kernel, ⟨by decide, by decide⟩, by decide +kernel, by decide, by decide +kernel⟩
theorem d_X5_sameRecord_0 : decode prog_7_method_7_code 0 = .ok (.iload_n 2, 1) := by decide +kernel
theorem d_X5_sameRecord_1 : decode prog_7_method_7_code 1 = .ok (.bipush 16, 2) := by decide +kernel
theorem d_X5_sameRecord_3 : decode prog_7_method_7_code 3 = .ok (.imul, 1) := by decide +kernel
theorem d_X5_sameRecord_4 : decode prog_7_method_7_code 4 = .ok (.istore_n 3, 1) := by decide +kernel
theorem d_X5_sameRecord_5 : decode prog_7_method_7_code 5 = .ok (.iload_n 3, 1) := by decide +kernel
theorem d_X5_sameRecord_6 : decode prog_7_method_7_code 6 = .ok (.iload_n 2, 1) := by decide +kernel
theorem d_X5_sameRecord_7 : decode prog_7_method_7_code 7 = .ok (.iconst 1, 1) := by decide +kernel
theorem d_X5_sameRecord_8 : decode prog_7_method_7_code 8 = .ok (.iadd, 1) := by decide +kernel
theorem d_X5_sameRecord_9 : decode prog_7_method_7_code 9 = .ok (.bipush 16, 2) := by decide +kernel
theorem d_X5_sameRecord_11 : decode prog_7_method_7_code 11 = .ok (.imul, 1) := by decide +kernel
theorem d_X5_sameRecord_12 : decode prog_7_method_7_code 12 = .ok (.if_icmp .ge 42, 3) := by decide +kernel
theorem d_X5_sameRecord_15 : decode prog_7_method_7_code 15 = .ok (.iload_n 3, 1) := by decide +kernel
theorem d_X5_sameRecord_16 : decode prog_7_method_7_code 16 = .ok (.aload_n 0, 1) := by decide +kernel
theorem d_X5_sameRecord_17 : decode prog_7_method_7_code 17 = .ok (.getfield 26, 3) := by decide +kernel
theorem d_X5_sameRecord_20 : decode prog_7_method_7_code 20 = .ok (.if_icmp .ge 26, 3) := by decide +kernel
theorem d_X5_sameRecord_23 : decode prog_7_method_7_code 23 = .ok (.iload_n 3, 1) := by decide +kernel
theorem d_X5_sameRecord_24 : decode prog_7_method_7_code 24 = .ok (.aload_n 1, 1) := by decide +kernel
theorem d_X5_sameRecord_25 : decode prog_7_method_7_code 25 = .ok (.getfield 26, 3) := by decide +kernel
theorem d_X5_sameRecord_28 : decode prog_7_method_7_code 28 = .ok (.if_icmp .ge 18, 3) := by decide +kernel
theorem d_X5_sameRecord_31 : decode prog_7_method_7_code 31 = .ok (.aload_n 0, 1) := by decide +kernel
theorem d_X5_sameRecord_32 : decode prog_7_method_7_code 32 = .ok (.getfield 9, 3) := by decide +kernel
theorem d_X5_sameRecord_35 : decode prog_7_method_7_code 35 = .ok (.iload_n 3, 1) := by decide +kernel
theorem d_X5_sameRecord_36 : decode prog_7_method_7_code 36 = .ok (.baload, 1) := by decide +kernel
theorem d_X5_sameRecord_37 : decode prog_7_method_7_code 37 = .ok (.aload_n 1, 1) := by decide +kernel
theorem d_X5_sameRecord_38 : decode prog_7_method_7_code 38 = .ok (.getfield 9, 3) := by decide +kernel
theorem d_X5_sameRecord_41 : decode prog_7_method_7_code 41 = .ok (.iload_n 3, 1) := by decide +kernel
theorem d_X5_sameRecord_42 : decode prog_7_method_7_code 42 = .ok (.baload, 1) := by decide +kernel
theorem d_X5_sameRecord_43 : decode prog_7_method_7_code 43 = .ok (.if_icmp .eq 5, 3) := by decide +kernel
theorem d_X5_sameRecord_46 : decode prog_7_method_7_code 46 = .ok (.iconst 0, 1) := by decide +kernel
theorem d_X5_sameRecord_47 : decode prog_7_method_7_code 47 = .ok (.ireturn, 1) := by decide +kernel
theorem d_X5_sameRecord_48 : decode prog_7_method_7_code 48 = .ok (.iinc 3 1, 3) := by decide +kernel
theorem d_X5_sameRecord_51 : decode prog_7_method_7_code 51 = .ok (.goto (-46), 3) := by decide +kernel
theorem d_X5_sameRecord_54 : decode prog_7_method_7_code 54 = .ok (.iconst 1, 1) := by decide +kernel
theorem d_X5_sameRecord_55 : decode prog_7_method_7_code 55 = .ok (.ireturn, 1) := by decide +kernel
abbrev Y_X8_init : Yx := (⟨"TaskWeave$Task", "<init>", "()V"⟩, prog_10_method_1_code, 1, none)
abbrev M_X8_init : Mx := ("TaskWeave$Task", prog_10_method_1_code, 1, true)
theorem yk_X8_init : Yk Y_X8_init 0 := ⟨by decide +kernel, by decide +kernel, ⟨by decide, by decide⟩, by decide +kernel, by decide, by decide +kernel⟩
theorem d_X8_init_0 : decode prog_10_method_1_code 0 = .ok (.aload_n 0, 1) := by decide +kernel
theorem d_X8_init_1 : decode prog_10_method_1_code 1 = .ok (.invokespecial 1, 3) := by decide +kernel
theorem d_X8_init_4 : decode prog_10_method_1_code 4 = .ok (.return_, 1) := by decide +kernel
abbrev Y_X9_init : Yx := (⟨"TaskWeave$Workflow", "<init>", "(I)V"⟩, prog_11_method_1_code, 2, none)
abbrev M_X9_init : Mx := ("TaskWeave$Workflow", prog_11_method_1_code, 2, true)
theorem yk_X9_init : Yk Y_X9_init 1 := ⟨by decide +kernel, by decide +kernel, ⟨by decide, by decide⟩, by decide +kernel, by decide, by decide +kernel⟩
theorem d_X9_init_0 : decode prog_11_method_1_code 0 = .ok (.aload_n 0, 1) := by decide +kernel
theorem d_X9_init_1 : decode prog_11_method_1_code 1 = .ok (.invokespecial 3, 3) := by decide +kernel
theorem d_X9_init_4 : decode prog_11_method_1_code 4 = .ok (.aload_n 0, 1) := by decide +kernel
theorem d_X9_init_5 : decode prog_11_method_1_code 5 = .ok (.bipush 8, 2) := by decide +kernel
theorem d_X9_init_7 : decode prog_11_method_1_code 7 = .ok (.newarray .int, 2) := by decide +kernel
theorem d_X9_init_9 : decode prog_11_method_1_code 9 = .ok (.putfield 9, 3) := by decide +kernel
theorem d_X9_init_12 : decode prog_11_method_1_code 12 = .ok (.aload_n 0, 1) := by decide +kernel
theorem d_X9_init_13 : decode prog_11_method_1_code 13 = .ok (.new 15, 3) := by decide +kernel
theorem d_X9_init_16 : decode prog_11_method_1_code 16 = .ok (.dup, 1) := by decide +kernel
theorem d_X9_init_17 : decode prog_11_method_1_code 17 = .ok (.invokespecial 17, 3) := by decide +kernel
theorem d_X9_init_20 : decode prog_11_method_1_code 20 = .ok (.putfield 18, 3) := by decide +kernel
theorem d_X9_init_23 : decode prog_11_method_1_code 23 = .ok (.aload_n 0, 1) := by decide +kernel
theorem d_X9_init_24 : decode prog_11_method_1_code 24 = .ok (.new 22, 3) := by decide +kernel
theorem d_X9_init_27 : decode prog_11_method_1_code 27 = .ok (.dup, 1) := by decide +kernel
theorem d_X9_init_28 : decode prog_11_method_1_code 28 = .ok (.invokespecial 24, 3) := by decide +kernel
theorem d_X9_init_31 : decode prog_11_method_1_code 31 = .ok (.putfield 25, 3) := by decide +kernel
theorem d_X9_init_34 : decode prog_11_method_1_code 34 = .ok (.aload_n 0, 1) := by decide +kernel
theorem d_X9_init_35 : decode prog_11_method_1_code 35 = .ok (.iload_n 1, 1) := by decide +kernel
theorem d_X9_init_36 : decode prog_11_method_1_code 36 = .ok (.putfield 29, 3) := by decide +kernel
theorem d_X9_init_39 : decode prog_11_method_1_code 39 = .ok (.return_, 1) := by decide +kernel
abbrev Y_X6_init : Yx := (⟨"TaskWeave$Shard", "<init>", "(ILTaskWeave$Clock;[LTaskWeave$Shelf;)V"⟩, prog_8_method_1_code, 5, none)
abbrev M_X6_init : Mx := ("TaskWeave$Shard", prog_8_method_1_code, 5, true)
theorem yk_X6_init : Yk Y_X6_init 3 := ⟨by decide +kernel, by decide +kernel, ⟨by decide, by decide⟩, by decide +kernel, by decide, by decide +kernel⟩
theorem d_X6_init_0 : decode prog_8_method_1_code 0 = .ok (.aload_n 0, 1) := by decide +kernel
theorem d_X6_init_1 : decode prog_8_method_1_code 1 = .ok (.invokespecial 3, 3) := by decide +kernel
theorem d_X6_init_4 : decode prog_8_method_1_code 4 = .ok (.aload_n 0, 1) := by decide +kernel
theorem d_X6_init_5 : decode prog_8_method_1_code 5 = .ok (.iconst 5, 1) := by decide +kernel
theorem d_X6_init_6 : decode prog_8_method_1_code 6 = .ok (.anewarray 9, 3) := by decide +kernel
theorem d_X6_init_9 : decode prog_8_method_1_code 9 = .ok (.putfield 11, 3) := by decide +kernel
theorem d_X6_init_12 : decode prog_8_method_1_code 12 = .ok (.aload_n 0, 1) := by decide +kernel
theorem d_X6_init_13 : decode prog_8_method_1_code 13 = .ok (.bipush 16, 2) := by decide +kernel
theorem d_X6_init_15 : decode prog_8_method_1_code 15 = .ok (.anewarray 17, 3) := by decide +kernel
theorem d_X6_init_18 : decode prog_8_method_1_code 18 = .ok (.putfield 19, 3) := by decide +kernel
theorem d_X6_init_21 : decode prog_8_method_1_code 21 = .ok (.aload_n 0, 1) := by decide +kernel
theorem d_X6_init_22 : decode prog_8_method_1_code 22 = .ok (.bipush 16, 2) := by decide +kernel
theorem d_X6_init_24 : decode prog_8_method_1_code 24 = .ok (.newarray .byte, 2) := by decide +kernel
theorem d_X6_init_26 : decode prog_8_method_1_code 26 = .ok (.putfield 23, 3) := by decide +kernel
theorem d_X6_init_29 : decode prog_8_method_1_code 29 = .ok (.aload_n 0, 1) := by decide +kernel
theorem d_X6_init_30 : decode prog_8_method_1_code 30 = .ok (.new 27, 3) := by decide +kernel
theorem d_X6_init_33 : decode prog_8_method_1_code 33 = .ok (.dup, 1) := by decide +kernel
theorem d_X6_init_34 : decode prog_8_method_1_code 34 = .ok (.invokespecial 29, 3) := by decide +kernel
theorem d_X6_init_37 : decode prog_8_method_1_code 37 = .ok (.putfield 30, 3) := by decide +kernel
theorem d_X6_init_40 : decode prog_8_method_1_code 40 = .ok (.aload_n 0, 1) := by decide +kernel
theorem d_X6_init_41 : decode prog_8_method_1_code 41 = .ok (.iconst 3, 1) := by decide +kernel
theorem d_X6_init_42 : decode prog_8_method_1_code 42 = .ok (.putfield 34, 3) := by decide +kernel
theorem d_X6_init_45 : decode prog_8_method_1_code 45 = .ok (.aload_n 0, 1) := by decide +kernel
theorem d_X6_init_46 : decode prog_8_method_1_code 46 = .ok (.iload_n 1, 1) := by decide +kernel
theorem d_X6_init_47 : decode prog_8_method_1_code 47 = .ok (.putfield 38, 3) := by decide +kernel
theorem d_X6_init_50 : decode prog_8_method_1_code 50 = .ok (.aload_n 0, 1) := by decide +kernel
theorem d_X6_init_51 : decode prog_8_method_1_code 51 = .ok (.aload_n 2, 1) := by decide +kernel
theorem d_X6_init_52 : decode prog_8_method_1_code 52 = .ok (.putfield 41, 3) := by decide +kernel
theorem d_X6_init_55 : decode prog_8_method_1_code 55 = .ok (.aload_n 0, 1) := by decide +kernel
theorem d_X6_init_56 : decode prog_8_method_1_code 56 = .ok (.aload_n 3, 1) := by decide +kernel
theorem d_X6_init_57 : decode prog_8_method_1_code 57 = .ok (.putfield 45, 3) := by decide +kernel
theorem d_X6_init_60 : decode prog_8_method_1_code 60 = .ok (.iconst 0, 1) := by decide +kernel
theorem d_X6_init_61 : decode prog_8_method_1_code 61 = .ok (.istore 4, 2) := by decide +kernel
theorem d_X6_init_63 : decode prog_8_method_1_code 63 = .ok (.iload 4, 2) := by decide +kernel
theorem d_X6_init_65 : decode prog_8_method_1_code 65 = .ok (.iconst 5, 1) := by decide +kernel
theorem d_X6_init_66 : decode prog_8_method_1_code 66 = .ok (.if_icmp .ge 25, 3) := by decide +kernel
theorem d_X6_init_69 : decode prog_8_method_1_code 69 = .ok (.aload_n 0, 1) := by decide +kernel
theorem d_X6_init_70 : decode prog_8_method_1_code 70 = .ok (.getfield 11, 3) := by decide +kernel
theorem d_X6_init_73 : decode prog_8_method_1_code 73 = .ok (.iload 4, 2) := by decide +kernel
theorem d_X6_init_75 : decode prog_8_method_1_code 75 = .ok (.new 9, 3) := by decide +kernel
theorem d_X6_init_78 : decode prog_8_method_1_code 78 = .ok (.dup, 1) := by decide +kernel
theorem d_X6_init_79 : decode prog_8_method_1_code 79 = .ok (.iload 4, 2) := by decide +kernel
theorem d_X6_init_81 : decode prog_8_method_1_code 81 = .ok (.invokespecial 49, 3) := by decide +kernel
theorem d_X6_init_84 : decode prog_8_method_1_code 84 = .ok (.aastore, 1) := by decide +kernel
theorem d_X6_init_85 : decode prog_8_method_1_code 85 = .ok (.iinc 4 1, 3) := by decide +kernel
theorem d_X6_init_88 : decode prog_8_method_1_code 88 = .ok (.goto (-25), 3) := by decide +kernel
theorem d_X6_init_91 : decode prog_8_method_1_code 91 = .ok (.iconst 0, 1) := by decide +kernel
theorem d_X6_init_92 : decode prog_8_method_1_code 92 = .ok (.istore 4, 2) := by decide +kernel
theorem d_X6_init_94 : decode prog_8_method_1_code 94 = .ok (.iload 4, 2) := by decide +kernel
theorem d_X6_init_96 : decode prog_8_method_1_code 96 = .ok (.bipush 16, 2) := by decide +kernel
theorem d_X6_init_98 : decode prog_8_method_1_code 98 = .ok (.if_icmp .ge 29, 3) := by decide +kernel
theorem d_X6_init_101 : decode prog_8_method_1_code 101 = .ok (.aload_n 0, 1) := by decide +kernel
theorem d_X6_init_102 : decode prog_8_method_1_code 102 = .ok (.getfield 19, 3) := by decide +kernel
theorem d_X6_init_105 : decode prog_8_method_1_code 105 = .ok (.iload 4, 2) := by decide +kernel
theorem d_X6_init_107 : decode prog_8_method_1_code 107 = .ok (.new 17, 3) := by decide +kernel
theorem d_X6_init_110 : decode prog_8_method_1_code 110 = .ok (.dup, 1) := by decide +kernel
theorem d_X6_init_111 : decode prog_8_method_1_code 111 = .ok (.iload_n 1, 1) := by decide +kernel
theorem d_X6_init_112 : decode prog_8_method_1_code 112 = .ok (.iconst 4, 1) := by decide +kernel
theorem d_X6_init_113 : decode prog_8_method_1_code 113 = .ok (.iload 4, 2) := by decide +kernel
theorem d_X6_init_115 : decode prog_8_method_1_code 115 = .ok (.imul, 1) := by decide +kernel
theorem d_X6_init_116 : decode prog_8_method_1_code 116 = .ok (.iadd, 1) := by decide +kernel
theorem d_X6_init_117 : decode prog_8_method_1_code 117 = .ok (.invokespecial 52, 3) := by decide +kernel
theorem d_X6_init_120 : decode prog_8_method_1_code 120 = .ok (.aastore, 1) := by decide +kernel
theorem d_X6_init_121 : decode prog_8_method_1_code 121 = .ok (.iinc 4 1, 3) := by decide +kernel
theorem d_X6_init_124 : decode prog_8_method_1_code 124 = .ok (.goto (-30), 3) := by decide +kernel
theorem d_X6_init_127 : decode prog_8_method_1_code 127 = .ok (.return_, 1) := by decide +kernel
abbrev Y_X6_works : Yx := (⟨"TaskWeave$Shard", "works", "()Z"⟩, prog_8_method_2_code, 1, (some .boolean))
abbrev M_X6_works : Mx := ("TaskWeave$Shard", prog_8_method_2_code, 1, false)
theorem yk_X6_works : Yk Y_X6_works 0 := ⟨by decide +kernel, by decide +kernel, ⟨by decide, by decide⟩, by decide +kernel, by decide, by decide +kernel⟩
theorem d_X6_works_0 : decode prog_8_method_2_code 0 = .ok (.aload_n 0, 1) := by decide +kernel
theorem d_X6_works_1 : decode prog_8_method_2_code 1 = .ok (.getfield 53, 3) := by decide +kernel
theorem d_X6_works_4 : decode prog_8_method_2_code 4 = .ok (.iconst (-1), 1) := by decide +kernel
theorem d_X6_works_5 : decode prog_8_method_2_code 5 = .ok (.if_icmp .eq 7, 3) := by decide +kernel
theorem d_X6_works_8 : decode prog_8_method_2_code 8 = .ok (.iconst 1, 1) := by decide +kernel
theorem d_X6_works_9 : decode prog_8_method_2_code 9 = .ok (.goto 4, 3) := by decide +kernel
theorem d_X6_works_12 : decode prog_8_method_2_code 12 = .ok (.iconst 0, 1) := by decide +kernel
theorem d_X6_works_13 : decode prog_8_method_2_code 13 = .ok (.ireturn, 1) := by decide +kernel
abbrev Y_X6_row : Yx := (⟨"TaskWeave$Shard", "row", "(I)LTaskWeave$Workflow;"⟩, prog_8_method_3_code, 2, (some (.object "TaskWeave$Workflow")))
abbrev M_X6_row : Mx := ("TaskWeave$Shard", prog_8_method_3_code, 2, false)
theorem yk_X6_row : Yk Y_X6_row 1 := ⟨by decide +kernel, by decide +kernel, ⟨by decide, by decide⟩, by decide +kernel, by decide, by decide +kernel⟩
theorem d_X6_row_0 : decode prog_8_method_3_code 0 = .ok (.iload_n 1, 1) := by decide +kernel
theorem d_X6_row_1 : decode prog_8_method_3_code 1 = .ok (.ifCond .lt 20, 3) := by decide +kernel
theorem d_X6_row_4 : decode prog_8_method_3_code 4 = .ok (.iload_n 1, 1) := by decide +kernel
theorem d_X6_row_5 : decode prog_8_method_3_code 5 = .ok (.aload_n 0, 1) := by decide +kernel
theorem d_X6_row_6 : decode prog_8_method_3_code 6 = .ok (.getfield 56, 3) := by decide +kernel
theorem d_X6_row_9 : decode prog_8_method_3_code 9 = .ok (.if_icmp .ge 12, 3) := by decide +kernel
theorem d_X6_row_12 : decode prog_8_method_3_code 12 = .ok (.aload_n 0, 1) := by decide +kernel
theorem d_X6_row_13 : decode prog_8_method_3_code 13 = .ok (.getfield 19, 3) := by decide +kernel
theorem d_X6_row_16 : decode prog_8_method_3_code 16 = .ok (.iload_n 1, 1) := by decide +kernel
theorem d_X6_row_17 : decode prog_8_method_3_code 17 = .ok (.aaload, 1) := by decide +kernel
theorem d_X6_row_18 : decode prog_8_method_3_code 18 = .ok (.goto 4, 3) := by decide +kernel
theorem d_X6_row_21 : decode prog_8_method_3_code 21 = .ok (.aconst_null, 1) := by decide +kernel
theorem d_X6_row_22 : decode prog_8_method_3_code 22 = .ok (.areturn, 1) := by decide +kernel
abbrev Y_X6_rowWithOrigin : Yx := (⟨"TaskWeave$Shard", "rowWithOrigin", "(I)LTaskWeave$Workflow;"⟩, prog_8_method_4_code, 3, (some (.object "TaskWeave$Workflow")))
abbrev M_X6_rowWithOrigin : Mx := ("TaskWeave$Shard", prog_8_method_4_code, 3, false)
theorem yk_X6_rowWithOrigin : Yk Y_X6_rowWithOrigin 1 := ⟨by decide +kernel, by decide +kernel, ⟨by decide, by decide⟩, by decide +kernel, by decide, by decide +kernel⟩
theorem d_X6_rowWithOrigin_0 : decode prog_8_method_4_code 0 = .ok (.iconst 0, 1) := by decide +kernel
theorem d_X6_rowWithOrigin_1 : decode prog_8_method_4_code 1 = .ok (.istore_n 2, 1) := by decide +kernel
theorem d_X6_rowWithOrigin_2 : decode prog_8_method_4_code 2 = .ok (.iload_n 2, 1) := by decide +kernel
theorem d_X6_rowWithOrigin_3 : decode prog_8_method_4_code 3 = .ok (.aload_n 0, 1) := by decide +kernel
theorem d_X6_rowWithOrigin_4 : decode prog_8_method_4_code 4 = .ok (.getfield 56, 3) := by decide +kernel
theorem d_X6_rowWithOrigin_7 : decode prog_8_method_4_code 7 = .ok (.if_icmp .ge 34, 3) := by decide +kernel
theorem d_X6_rowWithOrigin_10 : decode prog_8_method_4_code 10 = .ok (.aload_n 0, 1) := by decide +kernel
theorem d_X6_rowWithOrigin_11 : decode prog_8_method_4_code 11 = .ok (.getfield 19, 3) := by decide +kernel
theorem d_X6_rowWithOrigin_14 : decode prog_8_method_4_code 14 = .ok (.iload_n 2, 1) := by decide +kernel
theorem d_X6_rowWithOrigin_15 : decode prog_8_method_4_code 15 = .ok (.aaload, 1) := by decide +kernel
theorem d_X6_rowWithOrigin_16 : decode prog_8_method_4_code 16 = .ok (.getfield 59, 3) := by decide +kernel
theorem d_X6_rowWithOrigin_19 : decode prog_8_method_4_code 19 = .ok (.getfield 63, 3) := by decide +kernel
theorem d_X6_rowWithOrigin_22 : decode prog_8_method_4_code 22 = .ok (.iconst 0, 1) := by decide +kernel
theorem d_X6_rowWithOrigin_23 : decode prog_8_method_4_code 23 = .ok (.iaload, 1) := by decide +kernel
theorem d_X6_rowWithOrigin_24 : decode prog_8_method_4_code 24 = .ok (.iload_n 1, 1) := by decide +kernel
theorem d_X6_rowWithOrigin_25 : decode prog_8_method_4_code 25 = .ok (.if_icmp .ne 10, 3) := by decide +kernel
theorem d_X6_rowWithOrigin_28 : decode prog_8_method_4_code 28 = .ok (.aload_n 0, 1) := by decide +kernel
theorem d_X6_rowWithOrigin_29 : decode prog_8_method_4_code 29 = .ok (.getfield 19, 3) := by decide +kernel
theorem d_X6_rowWithOrigin_32 : decode prog_8_method_4_code 32 = .ok (.iload_n 2, 1) := by decide +kernel
theorem d_X6_rowWithOrigin_33 : decode prog_8_method_4_code 33 = .ok (.aaload, 1) := by decide +kernel
theorem d_X6_rowWithOrigin_34 : decode prog_8_method_4_code 34 = .ok (.areturn, 1) := by decide +kernel
theorem d_X6_rowWithOrigin_35 : decode prog_8_method_4_code 35 = .ok (.iinc 2 1, 3) := by decide +kernel
theorem d_X6_rowWithOrigin_38 : decode prog_8_method_4_code 38 = .ok (.goto (-36), 3) := by decide +kernel
theorem d_X6_rowWithOrigin_41 : decode prog_8_method_4_code 41 = .ok (.aconst_null, 1) := by decide +kernel
theorem d_X6_rowWithOrigin_42 : decode prog_8_method_4_code 42 = .ok (.areturn, 1) := by decide +kernel
abbrev Y_X6_records : Yx := (⟨"TaskWeave$Shard", "records", "()I"⟩, prog_8_method_5_code, 1, (some .int))
abbrev M_X6_records : Mx := ("TaskWeave$Shard", prog_8_method_5_code, 1, false)
theorem yk_X6_records : Yk Y_X6_records 0 := ⟨by decide +kernel, by decide +kernel, ⟨by decide, by decide⟩, by decide +kernel, by decide, by decide +kernel⟩
theorem d_X6_records_0 : decode prog_8_method_5_code 0 = .ok (.aload_n 0, 1) := by decide +kernel
theorem d_X6_records_1 : decode prog_8_method_5_code 1 = .ok (.getfield 53, 3) := by decide +kernel
theorem d_X6_records_4 : decode prog_8_method_5_code 4 = .ok (.iconst (-1), 1) := by decide +kernel
theorem d_X6_records_5 : decode prog_8_method_5_code 5 = .ok (.if_icmp .ne 7, 3) := by decide +kernel
theorem d_X6_records_8 : decode prog_8_method_5_code 8 = .ok (.iconst 0, 1) := by decide +kernel
theorem d_X6_records_9 : decode prog_8_method_5_code 9 = .ok (.goto 18, 3) := by decide +kernel
theorem d_X6_records_12 : decode prog_8_method_5_code 12 = .ok (.aload_n 0, 1) := by decide +kernel
theorem d_X6_records_13 : decode prog_8_method_5_code 13 = .ok (.getfield 11, 3) := by decide +kernel
theorem d_X6_records_16 : decode prog_8_method_5_code 16 = .ok (.aload_n 0, 1) := by decide +kernel
theorem d_X6_records_17 : decode prog_8_method_5_code 17 = .ok (.getfield 53, 3) := by decide +kernel
theorem d_X6_records_20 : decode prog_8_method_5_code 20 = .ok (.aaload, 1) := by decide +kernel
theorem d_X6_records_21 : decode prog_8_method_5_code 21 = .ok (.getfield 69, 3) := by decide +kernel
theorem d_X6_records_24 : decode prog_8_method_5_code 24 = .ok (.bipush 16, 2) := by decide +kernel
theorem d_X6_records_26 : decode prog_8_method_5_code 26 = .ok (.idiv, 1) := by decide +kernel
theorem d_X6_records_27 : decode prog_8_method_5_code 27 = .ok (.ireturn, 1) := by decide +kernel
abbrev Y_Jx4a65c_isEmpty_aae02 : Yx := (⟨"java/util/ArrayList", "isEmpty", "()Z"⟩, prog_28_method_9_code, 1, (some .boolean))
abbrev M_Jx4a65c_isEmpty_aae02 : Mx := ("java/util/ArrayList", prog_28_method_9_code, 1, false)
theorem yk_Jx4a65c_isEmpty_aae02 : Yk Y_Jx4a65c_isEmpty_aae02 0 := ⟨by decide +kernel, by decide +kernel, ⟨by decide, by decide⟩, by decide +kernel, by decide, by decide +kernel⟩
theorem d_Jx4a65c_isEmpty_aae02_0 : decode prog_28_method_9_code 0 = .ok (.aload_n 0, 1) := by decide +kernel
theorem d_Jx4a65c_isEmpty_aae02_1 : decode prog_28_method_9_code 1 = .ok (.getfield 48, 3) := by decide +kernel
theorem d_Jx4a65c_isEmpty_aae02_4 : decode prog_28_method_9_code 4 = .ok (.ifCond .ne 7, 3) := by decide +kernel
theorem d_Jx4a65c_isEmpty_aae02_7 : decode prog_28_method_9_code 7 = .ok (.iconst 1, 1) := by decide +kernel
theorem d_Jx4a65c_isEmpty_aae02_8 : decode prog_28_method_9_code 8 = .ok (.goto 4, 3) := by decide +kernel
theorem d_Jx4a65c_isEmpty_aae02_11 : decode prog_28_method_9_code 11 = .ok (.iconst 0, 1) := by decide +kernel
theorem d_Jx4a65c_isEmpty_aae02_12 : decode prog_28_method_9_code 12 = .ok (.ireturn, 1) := by decide +kernel
abbrev Y_X6_hasRoomFor : Yx := (⟨"TaskWeave$Shard", "hasRoomFor", "(I)Z"⟩, prog_8_method_6_code, 2, (some .boolean))
abbrev M_X6_hasRoomFor : Mx := ("TaskWeave$Shard", prog_8_method_6_code, 2, false)
theorem yk_X6_hasRoomFor : Yk Y_X6_hasRoomFor 1 := ⟨by decide +kernel, by decide +kernel, ⟨by decide, by decide⟩, by decide +kernel, by decide, by decide +kernel⟩
theorem d_X6_hasRoomFor_0 : decode prog_8_method_6_code 0 = .ok (.aload_n 0, 1) := by decide +kernel
theorem d_X6_hasRoomFor_1 : decode prog_8_method_6_code 1 = .ok (.getfield 56, 3) := by decide +kernel
theorem d_X6_hasRoomFor_4 : decode prog_8_method_6_code 4 = .ok (.bipush 16, 2) := by decide +kernel
theorem d_X6_hasRoomFor_6 : decode prog_8_method_6_code 6 = .ok (.if_icmp .ge 32, 3) := by decide +kernel
theorem d_X6_hasRoomFor_9 : decode prog_8_method_6_code 9 = .ok (.iload_n 1, 1) := by decide +kernel
theorem d_X6_hasRoomFor_10 : decode prog_8_method_6_code 10 = .ok (.ifCond .lt 28, 3) := by decide +kernel
theorem d_X6_hasRoomFor_13 : decode prog_8_method_6_code 13 = .ok (.iload_n 1, 1) := by decide +kernel
theorem d_X6_hasRoomFor_14 : decode prog_8_method_6_code 14 = .ok (.bipush 8, 2) := by decide +kernel
theorem d_X6_hasRoomFor_16 : decode prog_8_method_6_code 16 = .ok (.if_icmp .ge 22, 3) := by decide +kernel
theorem d_X6_hasRoomFor_19 : decode prog_8_method_6_code 19 = .ok (.aload_n 0, 1) := by decide +kernel
theorem d_X6_hasRoomFor_20 : decode prog_8_method_6_code 20 = .ok (.getfield 45, 3) := by decide +kernel
theorem d_X6_hasRoomFor_23 : decode prog_8_method_6_code 23 = .ok (.iload_n 1, 1) := by decide +kernel
theorem d_X6_hasRoomFor_24 : decode prog_8_method_6_code 24 = .ok (.aaload, 1) := by decide +kernel
theorem d_X6_hasRoomFor_25 : decode prog_8_method_6_code 25 = .ok (.getfield 70, 3) := by decide +kernel
theorem d_X6_hasRoomFor_28 : decode prog_8_method_6_code 28 = .ok (.invokevirtual 76, 3) := by decide +kernel
theorem d_X6_hasRoomFor_31 : decode prog_8_method_6_code 31 = .ok (.ifCond .ne 7, 3) := by decide +kernel
theorem d_X6_hasRoomFor_34 : decode prog_8_method_6_code 34 = .ok (.iconst 1, 1) := by decide +kernel
theorem d_X6_hasRoomFor_35 : decode prog_8_method_6_code 35 = .ok (.goto 4, 3) := by decide +kernel
theorem d_X6_hasRoomFor_38 : decode prog_8_method_6_code 38 = .ok (.iconst 0, 1) := by decide +kernel
theorem d_X6_hasRoomFor_39 : decode prog_8_method_6_code 39 = .ok (.ireturn, 1) := by decide +kernel
abbrev Y_X6_countTasks : Yx := (⟨"TaskWeave$Shard", "countTasks", "(Z)I"⟩, prog_8_method_7_code, 5, (some .int))
abbrev M_X6_countTasks : Mx := ("TaskWeave$Shard", prog_8_method_7_code, 5, false)
theorem yk_X6_countTasks : Yk Y_X6_countTasks 1 := ⟨by decide +kernel, by decide +kernel, ⟨by decide, by decide⟩, by decide +kernel, by decide, by decide +kernel⟩
theorem d_X6_countTasks_0 : decode prog_8_method_7_code 0 = .ok (.iconst 0, 1) := by decide +kernel
theorem d_X6_countTasks_1 : decode prog_8_method_7_code 1 = .ok (.istore_n 2, 1) := by decide +kernel
theorem d_X6_countTasks_2 : decode prog_8_method_7_code 2 = .ok (.iconst 0, 1) := by decide +kernel
theorem d_X6_countTasks_3 : decode prog_8_method_7_code 3 = .ok (.istore_n 3, 1) := by decide +kernel
theorem d_X6_countTasks_4 : decode prog_8_method_7_code 4 = .ok (.iload_n 3, 1) := by decide +kernel
theorem d_X6_countTasks_5 : decode prog_8_method_7_code 5 = .ok (.aload_n 0, 1) := by decide +kernel
theorem d_X6_countTasks_6 : decode prog_8_method_7_code 6 = .ok (.getfield 56, 3) := by decide +kernel
theorem d_X6_countTasks_9 : decode prog_8_method_7_code 9 = .ok (.if_icmp .ge 60, 3) := by decide +kernel
theorem d_X6_countTasks_12 : decode prog_8_method_7_code 12 = .ok (.aload_n 0, 1) := by decide +kernel
theorem d_X6_countTasks_13 : decode prog_8_method_7_code 13 = .ok (.getfield 19, 3) := by decide +kernel
theorem d_X6_countTasks_16 : decode prog_8_method_7_code 16 = .ok (.iload_n 3, 1) := by decide +kernel
theorem d_X6_countTasks_17 : decode prog_8_method_7_code 17 = .ok (.aaload, 1) := by decide +kernel
theorem d_X6_countTasks_18 : decode prog_8_method_7_code 18 = .ok (.getfield 82, 3) := by decide +kernel
theorem d_X6_countTasks_21 : decode prog_8_method_7_code 21 = .ok (.ifCond .ne 26, 3) := by decide +kernel
theorem d_X6_countTasks_24 : decode prog_8_method_7_code 24 = .ok (.iload_n 1, 1) := by decide +kernel
theorem d_X6_countTasks_25 : decode prog_8_method_7_code 25 = .ok (.ifCond .eq 18, 3) := by decide +kernel
theorem d_X6_countTasks_28 : decode prog_8_method_7_code 28 = .ok (.aload_n 0, 1) := by decide +kernel
theorem d_X6_countTasks_29 : decode prog_8_method_7_code 29 = .ok (.getfield 19, 3) := by decide +kernel
theorem d_X6_countTasks_32 : decode prog_8_method_7_code 32 = .ok (.iload_n 3, 1) := by decide +kernel
theorem d_X6_countTasks_33 : decode prog_8_method_7_code 33 = .ok (.aaload, 1) := by decide +kernel
theorem d_X6_countTasks_34 : decode prog_8_method_7_code 34 = .ok (.getfield 85, 3) := by decide +kernel
theorem d_X6_countTasks_37 : decode prog_8_method_7_code 37 = .ok (.getfield 89, 3) := by decide +kernel
theorem d_X6_countTasks_40 : decode prog_8_method_7_code 40 = .ok (.ifCond .le 7, 3) := by decide +kernel
theorem d_X6_countTasks_43 : decode prog_8_method_7_code 43 = .ok (.iconst 1, 1) := by decide +kernel
theorem d_X6_countTasks_44 : decode prog_8_method_7_code 44 = .ok (.goto 4, 3) := by decide +kernel
theorem d_X6_countTasks_47 : decode prog_8_method_7_code 47 = .ok (.iconst 0, 1) := by decide +kernel
theorem d_X6_countTasks_48 : decode prog_8_method_7_code 48 = .ok (.istore 4, 2) := by decide +kernel
theorem d_X6_countTasks_50 : decode prog_8_method_7_code 50 = .ok (.iload_n 2, 1) := by decide +kernel
theorem d_X6_countTasks_51 : decode prog_8_method_7_code 51 = .ok (.iload 4, 2) := by decide +kernel
theorem d_X6_countTasks_53 : decode prog_8_method_7_code 53 = .ok (.ifCond .eq 7, 3) := by decide +kernel
theorem d_X6_countTasks_56 : decode prog_8_method_7_code 56 = .ok (.iconst 1, 1) := by decide +kernel
theorem d_X6_countTasks_57 : decode prog_8_method_7_code 57 = .ok (.goto 4, 3) := by decide +kernel
theorem d_X6_countTasks_60 : decode prog_8_method_7_code 60 = .ok (.iconst 0, 1) := by decide +kernel
theorem d_X6_countTasks_61 : decode prog_8_method_7_code 61 = .ok (.iadd, 1) := by decide +kernel
theorem d_X6_countTasks_62 : decode prog_8_method_7_code 62 = .ok (.istore_n 2, 1) := by decide +kernel
theorem d_X6_countTasks_63 : decode prog_8_method_7_code 63 = .ok (.iinc 3 1, 3) := by decide +kernel
theorem d_X6_countTasks_66 : decode prog_8_method_7_code 66 = .ok (.goto (-62), 3) := by decide +kernel
theorem d_X6_countTasks_69 : decode prog_8_method_7_code 69 = .ok (.iload_n 2, 1) := by decide +kernel
theorem d_X6_countTasks_70 : decode prog_8_method_7_code 70 = .ok (.ireturn, 1) := by decide +kernel
abbrev Y_X6_mostAreUp : Yx := (⟨"TaskWeave$Shard", "mostAreUp", "()Z"⟩, prog_8_method_8_code, 3, (some .boolean))
abbrev M_X6_mostAreUp : Mx := ("TaskWeave$Shard", prog_8_method_8_code, 3, false)
theorem yk_X6_mostAreUp : Yk Y_X6_mostAreUp 0 := ⟨by decide +kernel, by decide +kernel, ⟨by decide, by decide⟩, by decide +kernel, by decide, by decide +kernel⟩
theorem d_X6_mostAreUp_0 : decode prog_8_method_8_code 0 = .ok (.iconst 0, 1) := by decide +kernel
theorem d_X6_mostAreUp_1 : decode prog_8_method_8_code 1 = .ok (.istore_n 1, 1) := by decide +kernel
theorem d_X6_mostAreUp_2 : decode prog_8_method_8_code 2 = .ok (.iconst 0, 1) := by decide +kernel
theorem d_X6_mostAreUp_3 : decode prog_8_method_8_code 3 = .ok (.istore_n 2, 1) := by decide +kernel
theorem d_X6_mostAreUp_4 : decode prog_8_method_8_code 4 = .ok (.iload_n 2, 1) := by decide +kernel
theorem d_X6_mostAreUp_5 : decode prog_8_method_8_code 5 = .ok (.aload_n 0, 1) := by decide +kernel
theorem d_X6_mostAreUp_6 : decode prog_8_method_8_code 6 = .ok (.getfield 34, 3) := by decide +kernel
theorem d_X6_mostAreUp_9 : decode prog_8_method_8_code 9 = .ok (.if_icmp .ge 29, 3) := by decide +kernel
theorem d_X6_mostAreUp_12 : decode prog_8_method_8_code 12 = .ok (.iload_n 1, 1) := by decide +kernel
theorem d_X6_mostAreUp_13 : decode prog_8_method_8_code 13 = .ok (.aload_n 0, 1) := by decide +kernel
theorem d_X6_mostAreUp_14 : decode prog_8_method_8_code 14 = .ok (.getfield 11, 3) := by decide +kernel
theorem d_X6_mostAreUp_17 : decode prog_8_method_8_code 17 = .ok (.iload_n 2, 1) := by decide +kernel
theorem d_X6_mostAreUp_18 : decode prog_8_method_8_code 18 = .ok (.aaload, 1) := by decide +kernel
theorem d_X6_mostAreUp_19 : decode prog_8_method_8_code 19 = .ok (.getfield 94, 3) := by decide +kernel
theorem d_X6_mostAreUp_22 : decode prog_8_method_8_code 22 = .ok (.ifCond .eq 7, 3) := by decide +kernel
theorem d_X6_mostAreUp_25 : decode prog_8_method_8_code 25 = .ok (.iconst 1, 1) := by decide +kernel
theorem d_X6_mostAreUp_26 : decode prog_8_method_8_code 26 = .ok (.goto 4, 3) := by decide +kernel
theorem d_X6_mostAreUp_29 : decode prog_8_method_8_code 29 = .ok (.iconst 0, 1) := by decide +kernel
theorem d_X6_mostAreUp_30 : decode prog_8_method_8_code 30 = .ok (.iadd, 1) := by decide +kernel
theorem d_X6_mostAreUp_31 : decode prog_8_method_8_code 31 = .ok (.istore_n 1, 1) := by decide +kernel
theorem d_X6_mostAreUp_32 : decode prog_8_method_8_code 32 = .ok (.iinc 2 1, 3) := by decide +kernel
theorem d_X6_mostAreUp_35 : decode prog_8_method_8_code 35 = .ok (.goto (-31), 3) := by decide +kernel
theorem d_X6_mostAreUp_38 : decode prog_8_method_8_code 38 = .ok (.iconst 2, 1) := by decide +kernel
theorem d_X6_mostAreUp_39 : decode prog_8_method_8_code 39 = .ok (.iload_n 1, 1) := by decide +kernel
theorem d_X6_mostAreUp_40 : decode prog_8_method_8_code 40 = .ok (.imul, 1) := by decide +kernel
theorem d_X6_mostAreUp_41 : decode prog_8_method_8_code 41 = .ok (.aload_n 0, 1) := by decide +kernel
theorem d_X6_mostAreUp_42 : decode prog_8_method_8_code 42 = .ok (.getfield 34, 3) := by decide +kernel
theorem d_X6_mostAreUp_45 : decode prog_8_method_8_code 45 = .ok (.if_icmp .le 7, 3) := by decide +kernel
theorem d_X6_mostAreUp_48 : decode prog_8_method_8_code 48 = .ok (.iconst 1, 1) := by decide +kernel
theorem d_X6_mostAreUp_49 : decode prog_8_method_8_code 49 = .ok (.goto 4, 3) := by decide +kernel
theorem d_X6_mostAreUp_52 : decode prog_8_method_8_code 52 = .ok (.iconst 0, 1) := by decide +kernel
theorem d_X6_mostAreUp_53 : decode prog_8_method_8_code 53 = .ok (.ireturn, 1) := by decide +kernel
abbrev Y_X6_loseLeader : Yx := (⟨"TaskWeave$Shard", "loseLeader", "()V"⟩, prog_8_method_9_code, 2, none)
abbrev M_X6_loseLeader : Mx := ("TaskWeave$Shard", prog_8_method_9_code, 2, false)
theorem yk_X6_loseLeader : Yk Y_X6_loseLeader 0 := ⟨by decide +kernel, by decide +kernel, ⟨by decide, by decide⟩, by decide +kernel, by decide, by decide +kernel⟩
theorem d_X6_loseLeader_0 : decode prog_8_method_9_code 0 = .ok (.aload_n 0, 1) := by decide +kernel
theorem d_X6_loseLeader_1 : decode prog_8_method_9_code 1 = .ok (.iconst (-1), 1) := by decide +kernel
theorem d_X6_loseLeader_2 : decode prog_8_method_9_code 2 = .ok (.putfield 53, 3) := by decide +kernel
theorem d_X6_loseLeader_5 : decode prog_8_method_9_code 5 = .ok (.iconst 0, 1) := by decide +kernel
theorem d_X6_loseLeader_6 : decode prog_8_method_9_code 6 = .ok (.istore_n 1, 1) := by decide +kernel
theorem d_X6_loseLeader_7 : decode prog_8_method_9_code 7 = .ok (.iload_n 1, 1) := by decide +kernel
theorem d_X6_loseLeader_8 : decode prog_8_method_9_code 8 = .ok (.aload_n 0, 1) := by decide +kernel
theorem d_X6_loseLeader_9 : decode prog_8_method_9_code 9 = .ok (.getfield 56, 3) := by decide +kernel
theorem d_X6_loseLeader_12 : decode prog_8_method_9_code 12 = .ok (.if_icmp .ge 22, 3) := by decide +kernel
theorem d_X6_loseLeader_15 : decode prog_8_method_9_code 15 = .ok (.aload_n 0, 1) := by decide +kernel
theorem d_X6_loseLeader_16 : decode prog_8_method_9_code 16 = .ok (.getfield 19, 3) := by decide +kernel
theorem d_X6_loseLeader_19 : decode prog_8_method_9_code 19 = .ok (.iload_n 1, 1) := by decide +kernel
theorem d_X6_loseLeader_20 : decode prog_8_method_9_code 20 = .ok (.aaload, 1) := by decide +kernel
theorem d_X6_loseLeader_21 : decode prog_8_method_9_code 21 = .ok (.getfield 85, 3) := by decide +kernel
theorem d_X6_loseLeader_24 : decode prog_8_method_9_code 24 = .ok (.iconst 0, 1) := by decide +kernel
theorem d_X6_loseLeader_25 : decode prog_8_method_9_code 25 = .ok (.putfield 89, 3) := by decide +kernel
theorem d_X6_loseLeader_28 : decode prog_8_method_9_code 28 = .ok (.iinc 1 1, 3) := by decide +kernel
theorem d_X6_loseLeader_31 : decode prog_8_method_9_code 31 = .ok (.goto (-24), 3) := by decide +kernel
theorem d_X6_loseLeader_34 : decode prog_8_method_9_code 34 = .ok (.return_, 1) := by decide +kernel
theorem vk_4_82 : Vk "TaskWeave$Parser" 82 1 4 Y_X3_readRightSide := ⟨yk_X3_readRightSide, by decide +kernel, by decide +kernel, by decide +kernel, by decide⟩
def f_X3_readStep_131 (l0 : Nat) (l1 : Int32) (l2 : Int32) (h : Hp) : Option (Int32 × Hp) := ck (isO (h) (l0) 4) (ck (isO (h) (zR (h) 401 (l0)) 22) (ck (inR ((l1) + ((0 : Int32))) (zL (h) (zR (h) 401 (l0)))) (bh (pE (h) (zR (h) 401 (l0)) ((l1) + ((0 : Int32))).toNatClampNeg (l2)) (fun h35 => bh (pI (h35) 404 (l0) ((zI (h35) 404 (l0)) + ((1 : Int32)))) (fun h36 => if (l2) = (71 : Int32) then ((f_X3_readDigit (l0) (l1) ((57 : Int32)) (h36)).bind (fun q38 => ck (isB (q38.1)) (some (q38.1, q38.2)))) else (if (l2) = (73 : Int32) then ((f_X3_readBracket (l0) (l1) (h36)).bind (fun q41 => if (q41.1) = (0) then (some ((0 : Int32), q41.2)) else (ck (isO (q41.2) (l0) 4) ((f_X3_readDigit (l0) (l1) ((57 : Int32)) (q41.2)).bind (fun q43 => if (q43.1) = (0) then (some ((0 : Int32), q43.2)) else (some ((1 : Int32), q43.2))))))) else (if (l2) = (83 : Int32) then ((f_X3_accept (l0) ((40 : Int32)) (h36)).bind (fun q47 => if (q47.1) = (0) then (some ((0 : Int32), q47.2)) else (ck (isO (q47.2) (l0) 4) ((f_X3_readValue (l0) ((l1) + ((4 : Int32))) (q47.2)).bind (fun q49 => if (q49.1) = (0) then (some ((0 : Int32), q49.2)) else (ck (isO (q49.2) (l0) 4) ((f_X3_accept (l0) ((44 : Int32)) (q49.2)).bind (fun q52 => if (q52.1) = (0) then (some ((0 : Int32), q52.2)) else (ck (isO (q52.2) (l0) 4) ((f_X3_readValue (l0) ((l1) + ((6 : Int32))) (q52.2)).bind (fun q55 => if (q55.1) = (0) then (some ((0 : Int32), q55.2)) else (ck (isO (q55.2) (l0) 4) ((f_X3_accept (l0) ((41 : Int32)) (q55.2)).bind (fun q58 => if (q58.1) = (0) then (some ((0 : Int32), q58.2)) else (some ((1 : Int32), q58.2)))))))))))))))) else ((f_X3_readBracket (l0) (l1) (h36)).bind (fun q61 => ck (isB (q61.1)) (some (q61.1, q61.2)))))))))))
theorem f_X3_readStep_131_ok {G : Gd} {d : Nat} (hj : 5 ≤ d) : ∀ (l0 : Nat) (l1 : Int32) (l2 : Int32) (L : List (Nat × Value)) (h : Hp) (o : (Int32 × Hp)), zlk L 0 = some (zrf (l0)) → zlk L 1 = some (.int (l1)) → zlk L 2 = some (.int (l2)) → f_X3_readStep_131 l0 l1 l2 h = some o → Ev G M_X3_readStep d 131 L [] h (Ret Y_X3_readStep (some (.int o.1)) o.2) := by
  intro l0 l1 l2 L h o g0 g1 g2 e
  unfold f_X3_readStep_131 at e
  refine g_ald_n d_X3_readStep_131 rfl g0 ?_
  replace e := ckd e
  obtain ⟨k32, e⟩ := e
  refine g_getR d_X3_readStep_132 (f := 401) k32 fk_4_15 rfl rfl ?_
  refine r_iload_n d_X3_readStep_135 rfl g1 ?_
  refine r_iconst d_X3_readStep_136 (v := (0 : Int32)) (by decide +kernel) ?_
  refine r_iadd d_X3_readStep_137 ?_
  refine r_iload_n d_X3_readStep_138 rfl g2 ?_
  replace e := ckd e
  obtain ⟨k33, e⟩ := e
  replace e := ckd e
  obtain ⟨k34, e⟩ := e
  refine g_iast d_X3_readStep_139 k33 k34 ?_
  replace e := bhd e
  obtain ⟨_, rfl, e⟩ := e
  refine g_ald_n d_X3_readStep_140 rfl g0 ?_
  refine r_dup d_X3_readStep_141 (zrf_cat _) ?_
  refine g_getI d_X3_readStep_142 (f := 404) (tO_pE k32) fk_4_39 rfl rfl ?_
  refine r_iconst d_X3_readStep_145 (v := (1 : Int32)) (by decide +kernel) ?_
  refine r_iadd d_X3_readStep_146 ?_
  refine g_putI d_X3_readStep_147 (f := 404) (tO_pE k32) fk_4_39 rfl (Or.inl rfl) ⟨rfl, rfl⟩ ?_
  replace e := bhd e
  obtain ⟨_, rfl, e⟩ := e
  refine r_iload_n d_X3_readStep_150 rfl g2 ?_
  rcases ite_or e with ⟨c37, e⟩ | ⟨c37, e⟩
  · refine r_lookup d_X3_readStep_151 (off := 33) (tgt := 184) (by decide +kernel) (by rw [c37] <;> rfl) (by decide) ?_
    refine g_ald_n d_X3_readStep_184 rfl g0 ?_
    refine r_iload_n d_X3_readStep_185 rfl g1 ?_
    refine r_bipush d_X3_readStep_186 (v := (57 : Int32)) (by decide +kernel) ?_
    replace e := bd e
    obtain ⟨q38, eq38, e⟩ := e
    refine g_callV d_X3_readStep_188 vk_4_85 (as := [_, _]) rfl (tO_pI (tO_pE k32)) rfl (by simp [zrf_cat, cat_int, cat_long]) (j := 2) (by omega) (c_X3_readDigit (by omega) eq38) ?_
    replace e := ckd e
    obtain ⟨k39, e⟩ := e
    cases e
    exact g_iret d_X3_readStep_191 rfl k39
  · rcases ite_or e with ⟨c40, e⟩ | ⟨c40, e⟩
    · refine r_lookup d_X3_readStep_151 (off := 41) (tgt := 192) (by decide +kernel) (by rw [c40] <;> rfl) (by decide) ?_
      refine g_ald_n d_X3_readStep_192 rfl g0 ?_
      refine r_iload_n d_X3_readStep_193 rfl g1 ?_
      replace e := bd e
      obtain ⟨q41, eq41, e⟩ := e
      refine g_callV d_X3_readStep_194 vk_4_89 (as := [_]) rfl (tO_pI (tO_pE k32)) rfl (by simp [zrf_cat, cat_int, cat_long]) (j := 3) (by omega) (c_X3_readBracket (by omega) eq41) ?_
      refine r_if_eq d_X3_readStep_197 (tgt := 214) (by decide) (fun c42 => ?_) (fun c42 => ?_)
      · replace e := (if_pos c42).symm.trans e
        refine r_iconst d_X3_readStep_214 (v := (0 : Int32)) (by decide +kernel) ?_
        cases e
        exact g_iret d_X3_readStep_215 rfl rfl
      · replace e := (if_neg c42).symm.trans e
        refine g_ald_n d_X3_readStep_200 rfl g0 ?_
        refine r_iload_n d_X3_readStep_201 rfl g1 ?_
        refine r_bipush d_X3_readStep_202 (v := (57 : Int32)) (by decide +kernel) ?_
        replace e := ckd e
        obtain ⟨k44, e⟩ := e
        replace e := bd e
        obtain ⟨q43, eq43, e⟩ := e
        refine g_callV d_X3_readStep_204 vk_4_85 (as := [_, _]) rfl k44 rfl (by simp [zrf_cat, cat_int, cat_long]) (j := 2) (by omega) (c_X3_readDigit (by omega) eq43) ?_
        refine r_if_eq d_X3_readStep_207 (tgt := 214) (by decide) (fun c45 => ?_) (fun c45 => ?_)
        · replace e := (if_pos c45).symm.trans e
          refine r_iconst d_X3_readStep_214 (v := (0 : Int32)) (by decide +kernel) ?_
          cases e
          exact g_iret d_X3_readStep_215 rfl rfl
        · replace e := (if_neg c45).symm.trans e
          refine r_iconst d_X3_readStep_210 (v := (1 : Int32)) (by decide +kernel) ?_
          refine r_goto d_X3_readStep_211 (tgt := 215) (by decide) ?_
          cases e
          exact g_iret d_X3_readStep_215 rfl rfl
    · rcases ite_or e with ⟨c46, e⟩ | ⟨c46, e⟩
      · refine r_lookup d_X3_readStep_151 (off := 65) (tgt := 216) (by decide +kernel) (by rw [c46] <;> rfl) (by decide) ?_
        refine g_ald_n d_X3_readStep_216 rfl g0 ?_
        refine r_bipush d_X3_readStep_217 (v := (40 : Int32)) (by decide +kernel) ?_
        replace e := bd e
        obtain ⟨q47, eq47, e⟩ := e
        refine g_callV d_X3_readStep_219 vk_4_71 (as := [_]) rfl (tO_pI (tO_pE k32)) rfl (by simp [zrf_cat, cat_int, cat_long]) (j := 1) (by omega) (c_X3_accept (by omega) eq47) ?_
        refine r_if_eq d_X3_readStep_222 (tgt := 268) (by decide) (fun c48 => ?_) (fun c48 => ?_)
        · replace e := (if_pos c48).symm.trans e
          refine r_iconst d_X3_readStep_268 (v := (0 : Int32)) (by decide +kernel) ?_
          cases e
          exact g_iret d_X3_readStep_269 rfl rfl
        · replace e := (if_neg c48).symm.trans e
          refine g_ald_n d_X3_readStep_225 rfl g0 ?_
          refine r_iload_n d_X3_readStep_226 rfl g1 ?_
          refine r_iconst d_X3_readStep_227 (v := (4 : Int32)) (by decide +kernel) ?_
          refine r_iadd d_X3_readStep_228 ?_
          replace e := ckd e
          obtain ⟨k50, e⟩ := e
          replace e := bd e
          obtain ⟨q49, eq49, e⟩ := e
          refine g_callV d_X3_readStep_229 vk_4_92 (as := [_]) rfl k50 rfl (by simp [zrf_cat, cat_int, cat_long]) (j := 2) (by omega) (c_X3_readValue (by omega) eq49) ?_
          refine r_if_eq d_X3_readStep_232 (tgt := 268) (by decide) (fun c51 => ?_) (fun c51 => ?_)
          · replace e := (if_pos c51).symm.trans e
            refine r_iconst d_X3_readStep_268 (v := (0 : Int32)) (by decide +kernel) ?_
            cases e
            exact g_iret d_X3_readStep_269 rfl rfl
          · replace e := (if_neg c51).symm.trans e
            refine g_ald_n d_X3_readStep_235 rfl g0 ?_
            refine r_bipush d_X3_readStep_236 (v := (44 : Int32)) (by decide +kernel) ?_
            replace e := ckd e
            obtain ⟨k53, e⟩ := e
            replace e := bd e
            obtain ⟨q52, eq52, e⟩ := e
            refine g_callV d_X3_readStep_238 vk_4_71 (as := [_]) rfl k53 rfl (by simp [zrf_cat, cat_int, cat_long]) (j := 1) (by omega) (c_X3_accept (by omega) eq52) ?_
            refine r_if_eq d_X3_readStep_241 (tgt := 268) (by decide) (fun c54 => ?_) (fun c54 => ?_)
            · replace e := (if_pos c54).symm.trans e
              refine r_iconst d_X3_readStep_268 (v := (0 : Int32)) (by decide +kernel) ?_
              cases e
              exact g_iret d_X3_readStep_269 rfl rfl
            · replace e := (if_neg c54).symm.trans e
              refine g_ald_n d_X3_readStep_244 rfl g0 ?_
              refine r_iload_n d_X3_readStep_245 rfl g1 ?_
              refine r_bipush d_X3_readStep_246 (v := (6 : Int32)) (by decide +kernel) ?_
              refine r_iadd d_X3_readStep_248 ?_
              replace e := ckd e
              obtain ⟨k56, e⟩ := e
              replace e := bd e
              obtain ⟨q55, eq55, e⟩ := e
              refine g_callV d_X3_readStep_249 vk_4_92 (as := [_]) rfl k56 rfl (by simp [zrf_cat, cat_int, cat_long]) (j := 2) (by omega) (c_X3_readValue (by omega) eq55) ?_
              refine r_if_eq d_X3_readStep_252 (tgt := 268) (by decide) (fun c57 => ?_) (fun c57 => ?_)
              · replace e := (if_pos c57).symm.trans e
                refine r_iconst d_X3_readStep_268 (v := (0 : Int32)) (by decide +kernel) ?_
                cases e
                exact g_iret d_X3_readStep_269 rfl rfl
              · replace e := (if_neg c57).symm.trans e
                refine g_ald_n d_X3_readStep_255 rfl g0 ?_
                refine r_bipush d_X3_readStep_256 (v := (41 : Int32)) (by decide +kernel) ?_
                replace e := ckd e
                obtain ⟨k59, e⟩ := e
                replace e := bd e
                obtain ⟨q58, eq58, e⟩ := e
                refine g_callV d_X3_readStep_258 vk_4_71 (as := [_]) rfl k59 rfl (by simp [zrf_cat, cat_int, cat_long]) (j := 1) (by omega) (c_X3_accept (by omega) eq58) ?_
                refine r_if_eq d_X3_readStep_261 (tgt := 268) (by decide) (fun c60 => ?_) (fun c60 => ?_)
                · replace e := (if_pos c60).symm.trans e
                  refine r_iconst d_X3_readStep_268 (v := (0 : Int32)) (by decide +kernel) ?_
                  cases e
                  exact g_iret d_X3_readStep_269 rfl rfl
                · replace e := (if_neg c60).symm.trans e
                  refine r_iconst d_X3_readStep_264 (v := (1 : Int32)) (by decide +kernel) ?_
                  refine r_goto d_X3_readStep_265 (tgt := 269) (by decide) ?_
                  cases e
                  exact g_iret d_X3_readStep_269 rfl rfl
      · refine r_lookup d_X3_readStep_151 (off := 119) (tgt := 270) (by decide +kernel) (by rw [lv_osw c37 (by decide +kernel), lv_osw c40 (by decide +kernel), lv_osw c46 (by decide +kernel)] <;> rfl) (by decide) ?_
        refine g_ald_n d_X3_readStep_270 rfl g0 ?_
        refine r_iload_n d_X3_readStep_271 rfl g1 ?_
        replace e := bd e
        obtain ⟨q61, eq61, e⟩ := e
        refine g_callV d_X3_readStep_272 vk_4_89 (as := [_]) rfl (tO_pI (tO_pE k32)) rfl (by simp [zrf_cat, cat_int, cat_long]) (j := 3) (by omega) (c_X3_readBracket (by omega) eq61) ?_
        replace e := ckd e
        obtain ⟨k62, e⟩ := e
        cases e
        exact g_iret d_X3_readStep_275 rfl k62

def f_X3_readStep_2 : Nat → Nat → Int32 → Int32 → Hp → Option (Int32 × Hp)
  | 0, _, _, _, _ => none
  | n + 1, l0, l1, l2, h => if ((8 : Int32)) ≤ (l2) then (ck (isO (h) (l0) 4) (ck (isO (h) (zR (h) 401 (l0)) 22) (ck (inR ((l1) + ((4 : Int32))) (zL (h) (zR (h) 401 (l0)))) (bh (pE (h) (zR (h) 401 (l0)) ((l1) + ((4 : Int32))).toNatClampNeg ((-1 : Int32))) (fun h5 => ck (isO (h5) (zR (h5) 401 (l0)) 22) (ck (inR ((l1) + ((6 : Int32))) (zL (h5) (zR (h5) 401 (l0)))) (bh (pE (h5) (zR (h5) 401 (l0)) ((l1) + ((6 : Int32))).toNatClampNeg ((-1 : Int32))) (fun h8 => (f_X3_peek (l0) (h8)).bind (fun q9 => (f_X3_isLocal (q9.1) (q9.2)).bind (fun q10 => if (q10.1) = (0) then (if (q9.1) = ((84 : Int32)) then (f_X3_readStep_131 (l0) (l1) (q9.1) (q10.2)) else (if (q9.1) = ((83 : Int32)) then (f_X3_readStep_131 (l0) (l1) (q9.1) (q10.2)) else (if (q9.1) = ((73 : Int32)) then (f_X3_readStep_131 (l0) (l1) (q9.1) (q10.2)) else (if (q9.1) = ((71 : Int32)) then (f_X3_readStep_131 (l0) (l1) (q9.1) (q10.2)) else (if (q9.1) = ((69 : Int32)) then (f_X3_readStep_131 (l0) (l1) (q9.1) (q10.2)) else (some ((0 : Int32), q10.2))))))) else (ck (isO (q10.2) (l0) 4) (ck (isO (q10.2) (zR (q10.2) 401 (l0)) 22) (ck (inR ((l1) + ((1 : Int32))) (zL (q10.2) (zR (q10.2) 401 (l0)))) (bh (pE (q10.2) (zR (q10.2) 401 (l0)) ((l1) + ((1 : Int32))).toNatClampNeg ((q9.1) - ((97 : Int32)))) (fun h20 => bh (pI (h20) 404 (l0) ((zI (h20) 404 (l0)) + ((1 : Int32)))) (fun h21 => (f_X3_accept (l0) ((61 : Int32)) (h21)).bind (fun q22 => if (q22.1) = (0) then (some ((0 : Int32), q22.2)) else (ck (isO (q22.2) (l0) 4) ((f_X3_readRightSide (l0) (l1) (q22.2)).bind (fun q24 => if (q24.1) = (0) then (some ((0 : Int32), q24.2)) else (some ((1 : Int32), q24.2)))))))))))))))))))))) else (ck (isO (h) (l0) 4) (ck (isO (h) (zR (h) 401 (l0)) 22) (ck (inR ((l1) + (l2)) (zL (h) (zR (h) 401 (l0)))) (bh (pE (h) (zR (h) 401 (l0)) ((l1) + (l2)).toNatClampNeg ((0 : Int32))) (fun h30 => bh ((l2) + (1 : Int32)) (fun x31 => f_X3_readStep_2 n (l0) (l1) (x31) (h30)))))))
theorem f_X3_readStep_2_ok {G : Gd} {d : Nat} (hj : 5 ≤ d) : ∀ (n : Nat) (l0 : Nat) (l1 : Int32) (l2 : Int32) (L : List (Nat × Value)) (h : Hp) (o : (Int32 × Hp)), zlk L 0 = some (zrf (l0)) → zlk L 1 = some (.int (l1)) → zlk L 2 = some (.int (l2)) → f_X3_readStep_2 n l0 l1 l2 h = some o → Ev G M_X3_readStep d 2 L [] h (Ret Y_X3_readStep (some (.int o.1)) o.2) := by
  intro n
  induction n with
  | zero =>
    intro l0 l1 l2 L h o g0 g1 g2 e
    cases e
  | succ n ih =>
    intro l0 l1 l2 L h o g0 g1 g2 e
    unfold f_X3_readStep_2 at e
    refine r_iload_n d_X3_readStep_2 rfl g2 ?_
    refine r_bipush d_X3_readStep_3 (v := (8 : Int32)) (by decide +kernel) ?_
    refine r_icmp_ge d_X3_readStep_5 (tgt := 23) (by decide) (fun c1 => ?_) (fun c1 => ?_)
    · replace e := (if_pos c1).symm.trans e
      refine g_ald_n d_X3_readStep_23 rfl g0 ?_
      replace e := ckd e
      obtain ⟨k2, e⟩ := e
      refine g_getR d_X3_readStep_24 (f := 401) k2 fk_4_15 rfl rfl ?_
      refine r_iload_n d_X3_readStep_27 rfl g1 ?_
      refine r_iconst d_X3_readStep_28 (v := (4 : Int32)) (by decide +kernel) ?_
      refine r_iadd d_X3_readStep_29 ?_
      refine r_iconst d_X3_readStep_30 (v := (-1 : Int32)) (by decide +kernel) ?_
      replace e := ckd e
      obtain ⟨k3, e⟩ := e
      replace e := ckd e
      obtain ⟨k4, e⟩ := e
      refine g_iast d_X3_readStep_31 k3 k4 ?_
      replace e := bhd e
      obtain ⟨_, rfl, e⟩ := e
      refine g_ald_n d_X3_readStep_32 rfl g0 ?_
      refine g_getR d_X3_readStep_33 (f := 401) (tO_pE k2) fk_4_15 rfl rfl ?_
      refine r_iload_n d_X3_readStep_36 rfl g1 ?_
      refine r_bipush d_X3_readStep_37 (v := (6 : Int32)) (by decide +kernel) ?_
      refine r_iadd d_X3_readStep_39 ?_
      refine r_iconst d_X3_readStep_40 (v := (-1 : Int32)) (by decide +kernel) ?_
      replace e := ckd e
      obtain ⟨k6, e⟩ := e
      replace e := ckd e
      obtain ⟨k7, e⟩ := e
      refine g_iast d_X3_readStep_41 k6 k7 ?_
      replace e := bhd e
      obtain ⟨_, rfl, e⟩ := e
      refine g_ald_n d_X3_readStep_42 rfl g0 ?_
      replace e := bd e
      obtain ⟨q9, eq9, e⟩ := e
      refine g_callV d_X3_readStep_43 vk_4_75 (as := []) rfl (tO_pE (tO_pE k2)) rfl (by simp [zrf_cat, cat_int, cat_long]) (j := 1) (by omega) (c_X3_peek (by omega) eq9) ?_
      refine s_istore_n d_X3_readStep_46 rfl (by decide) (fun L g2 gK => ?_)
      replace g0 := gK _ _ (by decide) (Or.inr (zrf_cat _)) g0
      replace g1 := gK _ _ (by decide) (Or.inr rfl) g1
      refine r_iload_n d_X3_readStep_47 rfl g2 ?_
      replace e := bd e
      obtain ⟨q10, eq10, e⟩ := e
      refine g_callS d_X3_readStep_48 sk_4_79 (as := [_]) rfl rfl (by simp [zrf_cat, cat_int, cat_long]) (j := 1) (by omega) (c_X3_isLocal (by omega) eq10) ?_
      refine r_if_eq d_X3_readStep_51 (tgt := 99) (by decide) (fun c11 => ?_) (fun c11 => ?_)
      · replace e := (if_pos c11).symm.trans e
        refine r_iload_n d_X3_readStep_99 rfl g2 ?_
        refine r_bipush d_X3_readStep_100 (v := (84 : Int32)) (by decide +kernel) ?_
        refine r_icmp_eq d_X3_readStep_102 (tgt := 131) (by decide) (fun c12 => ?_) (fun c12 => ?_)
        · replace e := (if_pos c12).symm.trans e
          exact f_X3_readStep_131_ok hj _ _ _ _ _ _ g0 g1 g2 e
        · replace e := (if_neg c12).symm.trans e
          refine r_iload_n d_X3_readStep_105 rfl g2 ?_
          refine r_bipush d_X3_readStep_106 (v := (83 : Int32)) (by decide +kernel) ?_
          refine r_icmp_eq d_X3_readStep_108 (tgt := 131) (by decide) (fun c13 => ?_) (fun c13 => ?_)
          · replace e := (if_pos c13).symm.trans e
            exact f_X3_readStep_131_ok hj _ _ _ _ _ _ g0 g1 g2 e
          · replace e := (if_neg c13).symm.trans e
            refine r_iload_n d_X3_readStep_111 rfl g2 ?_
            refine r_bipush d_X3_readStep_112 (v := (73 : Int32)) (by decide +kernel) ?_
            refine r_icmp_eq d_X3_readStep_114 (tgt := 131) (by decide) (fun c14 => ?_) (fun c14 => ?_)
            · replace e := (if_pos c14).symm.trans e
              exact f_X3_readStep_131_ok hj _ _ _ _ _ _ g0 g1 g2 e
            · replace e := (if_neg c14).symm.trans e
              refine r_iload_n d_X3_readStep_117 rfl g2 ?_
              refine r_bipush d_X3_readStep_118 (v := (71 : Int32)) (by decide +kernel) ?_
              refine r_icmp_eq d_X3_readStep_120 (tgt := 131) (by decide) (fun c15 => ?_) (fun c15 => ?_)
              · replace e := (if_pos c15).symm.trans e
                exact f_X3_readStep_131_ok hj _ _ _ _ _ _ g0 g1 g2 e
              · replace e := (if_neg c15).symm.trans e
                refine r_iload_n d_X3_readStep_123 rfl g2 ?_
                refine r_bipush d_X3_readStep_124 (v := (69 : Int32)) (by decide +kernel) ?_
                refine r_icmp_eq d_X3_readStep_126 (tgt := 131) (by decide) (fun c16 => ?_) (fun c16 => ?_)
                · replace e := (if_pos c16).symm.trans e
                  exact f_X3_readStep_131_ok hj _ _ _ _ _ _ g0 g1 g2 e
                · replace e := (if_neg c16).symm.trans e
                  refine r_iconst d_X3_readStep_129 (v := (0 : Int32)) (by decide +kernel) ?_
                  cases e
                  exact g_iret d_X3_readStep_130 rfl rfl
      · replace e := (if_neg c11).symm.trans e
        refine g_ald_n d_X3_readStep_54 rfl g0 ?_
        replace e := ckd e
        obtain ⟨k17, e⟩ := e
        refine g_getR d_X3_readStep_55 (f := 401) k17 fk_4_15 rfl rfl ?_
        refine r_iload_n d_X3_readStep_58 rfl g1 ?_
        refine r_iconst d_X3_readStep_59 (v := (1 : Int32)) (by decide +kernel) ?_
        refine r_iadd d_X3_readStep_60 ?_
        refine r_iload_n d_X3_readStep_61 rfl g2 ?_
        refine r_bipush d_X3_readStep_62 (v := (97 : Int32)) (by decide +kernel) ?_
        refine r_isub d_X3_readStep_64 ?_
        replace e := ckd e
        obtain ⟨k18, e⟩ := e
        replace e := ckd e
        obtain ⟨k19, e⟩ := e
        refine g_iast d_X3_readStep_65 k18 k19 ?_
        replace e := bhd e
        obtain ⟨_, rfl, e⟩ := e
        refine g_ald_n d_X3_readStep_66 rfl g0 ?_
        refine r_dup d_X3_readStep_67 (zrf_cat _) ?_
        refine g_getI d_X3_readStep_68 (f := 404) (tO_pE k17) fk_4_39 rfl rfl ?_
        refine r_iconst d_X3_readStep_71 (v := (1 : Int32)) (by decide +kernel) ?_
        refine r_iadd d_X3_readStep_72 ?_
        refine g_putI d_X3_readStep_73 (f := 404) (tO_pE k17) fk_4_39 rfl (Or.inl rfl) ⟨rfl, rfl⟩ ?_
        replace e := bhd e
        obtain ⟨_, rfl, e⟩ := e
        refine g_ald_n d_X3_readStep_76 rfl g0 ?_
        refine r_bipush d_X3_readStep_77 (v := (61 : Int32)) (by decide +kernel) ?_
        replace e := bd e
        obtain ⟨q22, eq22, e⟩ := e
        refine g_callV d_X3_readStep_79 vk_4_71 (as := [_]) rfl (tO_pI (tO_pE k17)) rfl (by simp [zrf_cat, cat_int, cat_long]) (j := 1) (by omega) (c_X3_accept (by omega) eq22) ?_
        refine r_if_eq d_X3_readStep_82 (tgt := 97) (by decide) (fun c23 => ?_) (fun c23 => ?_)
        · replace e := (if_pos c23).symm.trans e
          refine r_iconst d_X3_readStep_97 (v := (0 : Int32)) (by decide +kernel) ?_
          cases e
          exact g_iret d_X3_readStep_98 rfl rfl
        · replace e := (if_neg c23).symm.trans e
          refine g_ald_n d_X3_readStep_85 rfl g0 ?_
          refine r_iload_n d_X3_readStep_86 rfl g1 ?_
          replace e := ckd e
          obtain ⟨k25, e⟩ := e
          replace e := bd e
          obtain ⟨q24, eq24, e⟩ := e
          refine g_callV d_X3_readStep_87 vk_4_82 (as := [_]) rfl k25 rfl (by simp [zrf_cat, cat_int, cat_long]) (j := 4) (by omega) (c_X3_readRightSide (by omega) eq24) ?_
          refine r_if_eq d_X3_readStep_90 (tgt := 97) (by decide) (fun c26 => ?_) (fun c26 => ?_)
          · replace e := (if_pos c26).symm.trans e
            refine r_iconst d_X3_readStep_97 (v := (0 : Int32)) (by decide +kernel) ?_
            cases e
            exact g_iret d_X3_readStep_98 rfl rfl
          · replace e := (if_neg c26).symm.trans e
            refine r_iconst d_X3_readStep_93 (v := (1 : Int32)) (by decide +kernel) ?_
            refine r_goto d_X3_readStep_94 (tgt := 98) (by decide) ?_
            cases e
            exact g_iret d_X3_readStep_98 rfl rfl
    · replace e := (if_neg c1).symm.trans e
      refine g_ald_n d_X3_readStep_8 rfl g0 ?_
      replace e := ckd e
      obtain ⟨k27, e⟩ := e
      refine g_getR d_X3_readStep_9 (f := 401) k27 fk_4_15 rfl rfl ?_
      refine r_iload_n d_X3_readStep_12 rfl g1 ?_
      refine r_iload_n d_X3_readStep_13 rfl g2 ?_
      refine r_iadd d_X3_readStep_14 ?_
      refine r_iconst d_X3_readStep_15 (v := (0 : Int32)) (by decide +kernel) ?_
      replace e := ckd e
      obtain ⟨k28, e⟩ := e
      replace e := ckd e
      obtain ⟨k29, e⟩ := e
      refine g_iast d_X3_readStep_16 k28 k29 ?_
      replace e := bhd e
      obtain ⟨_, rfl, e⟩ := e
      replace e := bhd e
      obtain ⟨_, rfl, e⟩ := e
      refine s_iinc d_X3_readStep_17 g2 (w := (1 : Int32)) (by decide +kernel) (by decide) (fun L g2 gK => ?_)
      replace g0 := gK _ _ (by decide) (Or.inr (zrf_cat _)) g0
      replace g1 := gK _ _ (by decide) (Or.inr rfl) g1
      refine r_goto d_X3_readStep_20 (tgt := 2) (by decide) ?_
      exact ih _ _ _ _ _ _ g0 g1 g2 e

def f_X3_readStep (l0 : Nat) (l1 : Int32) (h : Hp) : Option (Int32 × Hp) := f_X3_readStep_2 fz (l0) (l1) ((0 : Int32)) (h)
theorem f_X3_readStep_ok {G : Gd} {d : Nat} (hj : 5 ≤ d) : ∀ (l0 : Nat) (l1 : Int32) (L : List (Nat × Value)) (h : Hp) (o : (Int32 × Hp)), zlk L 0 = some (zrf (l0)) → zlk L 1 = some (.int (l1)) → f_X3_readStep l0 l1 h = some o → Ev G M_X3_readStep d 0 L [] h (Ret Y_X3_readStep (some (.int o.1)) o.2) := by
  intro l0 l1 L h o g0 g1 e
  unfold f_X3_readStep at e
  refine r_iconst d_X3_readStep_0 (v := (0 : Int32)) (by decide +kernel) ?_
  refine s_istore_n d_X3_readStep_1 rfl (by decide) (fun L g2 gK => ?_)
  replace g0 := gK _ _ (by decide) (Or.inr (zrf_cat _)) g0
  replace g1 := gK _ _ (by decide) (Or.inr rfl) g1
  exact f_X3_readStep_2_ok hj _ _ _ _ _ _ _ g0 g1 g2 e

theorem c_X3_readStep {G : Gd} {j : Nat} (hj : 5 ≤ j) {l0 : Nat} {l1 : Int32} {h : Hp} {o : (Int32 × Hp)} (e : f_X3_readStep l0 l1 h = some o) : Cal G j Y_X3_readStep [zrf (l0), .int (l1)] h (some (.int o.1)) o.2 := Cal.of (n := 0) (I := false) (by decide +kernel) (by decide) (by simp [lg_sl, zrf_cat, cat_int, cat_long]) (f_X3_readStep_ok hj _ _ _ h o (by simp [lv_args, zlk, zrf_cat, cat_int, cat_long]) (by simp [lv_args, zlk, zrf_cat, cat_int, cat_long]) e)
theorem sk_4_60 : Sk "TaskWeave$Parser" 60 2 Y_J7_fill_53178 := ⟨yk_J7_fill_53178, by decide +kernel, by decide +kernel⟩
theorem vk_4_64 : Vk "TaskWeave$Parser" 64 1 4 Y_X3_readLabel := ⟨yk_X3_readLabel, by decide +kernel, by decide +kernel, by decide +kernel, by decide⟩
theorem vk_4_68 : Vk "TaskWeave$Parser" 68 1 4 Y_X3_readStep := ⟨yk_X3_readStep, by decide +kernel, by decide +kernel, by decide +kernel, by decide⟩
def f_X3_readSteps_15 : Nat → Nat → Int32 → Hp → Option (Int32 × Hp)
  | 0, _, _, _ => none
  | n + 1, l0, l1, h => if ((60 : Int32)) ≤ (l1) then (ck (isO (h) (l0) 4) (if (zI (h) 403 (l0)) ≤ (zI (h) 404 (l0)) then (some (l1, h)) else (some ((-1 : Int32), h)))) else (ck (isO (h) (l0) 4) (if (zI (h) 403 (l0)) ≤ (zI (h) 404 (l0)) then (if (zI (h) 403 (l0)) ≤ (zI (h) 404 (l0)) then (some (l1, h)) else (some ((-1 : Int32), h))) else ((f_X3_readLabel (l0) (l1) (h)).bind (fun q11 => if (q11.1) = (0) then (some ((-1 : Int32), q11.2)) else (ck (isO (q11.2) (l0) 4) ((f_X3_readStep (l0) ((l1) * ((8 : Int32))) (q11.2)).bind (fun q13 => if (q13.1) = (0) then (some ((-1 : Int32), q13.2)) else (ck (isO (q13.2) (l0) 4) ((f_X3_accept (l0) ((59 : Int32)) (q13.2)).bind (fun q16 => if (q16.1) = (0) then (some ((-1 : Int32), q16.2)) else (bh ((l1) + (1 : Int32)) (fun x19 => f_X3_readSteps_15 n (l0) (x19) (q16.2)))))))))))))
theorem f_X3_readSteps_15_ok {G : Gd} {d : Nat} (hj : 6 ≤ d) : ∀ (n : Nat) (l0 : Nat) (l1 : Int32) (L : List (Nat × Value)) (h : Hp) (o : (Int32 × Hp)), zlk L 0 = some (zrf (l0)) → zlk L 1 = some (.int (l1)) → f_X3_readSteps_15 n l0 l1 h = some o → Ev G M_X3_readSteps d 15 L [] h (Ret Y_X3_readSteps (some (.int o.1)) o.2) := by
  intro n
  induction n with
  | zero =>
    intro l0 l1 L h o g0 g1 e
    cases e
  | succ n ih =>
    intro l0 l1 L h o g0 g1 e
    unfold f_X3_readSteps_15 at e
    refine r_iload_n d_X3_readSteps_15 rfl g1 ?_
    refine r_bipush d_X3_readSteps_16 (v := (60 : Int32)) (by decide +kernel) ?_
    refine r_icmp_ge d_X3_readSteps_18 (tgt := 68) (by decide) (fun c5 => ?_) (fun c5 => ?_)
    · replace e := (if_pos c5).symm.trans e
      refine g_ald_n d_X3_readSteps_68 rfl g0 ?_
      replace e := ckd e
      obtain ⟨k6, e⟩ := e
      refine g_getI d_X3_readSteps_69 (f := 404) k6 fk_4_39 rfl rfl ?_
      refine g_ald_n d_X3_readSteps_72 rfl g0 ?_
      refine g_getI d_X3_readSteps_73 (f := 403) k6 fk_4_26 rfl rfl ?_
      refine r_icmp_ge d_X3_readSteps_76 (tgt := 83) (by decide) (fun c7 => ?_) (fun c7 => ?_)
      · replace e := (if_pos c7).symm.trans e
        refine r_iload_n d_X3_readSteps_83 rfl g1 ?_
        cases e
        exact g_iret d_X3_readSteps_84 rfl rfl
      · replace e := (if_neg c7).symm.trans e
        refine r_iconst d_X3_readSteps_79 (v := (-1 : Int32)) (by decide +kernel) ?_
        refine r_goto d_X3_readSteps_80 (tgt := 84) (by decide) ?_
        cases e
        exact g_iret d_X3_readSteps_84 rfl rfl
    · replace e := (if_neg c5).symm.trans e
      refine g_ald_n d_X3_readSteps_21 rfl g0 ?_
      replace e := ckd e
      obtain ⟨k8, e⟩ := e
      refine g_getI d_X3_readSteps_22 (f := 404) k8 fk_4_39 rfl rfl ?_
      refine g_ald_n d_X3_readSteps_25 rfl g0 ?_
      refine g_getI d_X3_readSteps_26 (f := 403) k8 fk_4_26 rfl rfl ?_
      refine r_icmp_ge d_X3_readSteps_29 (tgt := 68) (by decide) (fun c9 => ?_) (fun c9 => ?_)
      · replace e := (if_pos c9).symm.trans e
        refine g_ald_n d_X3_readSteps_68 rfl g0 ?_
        refine g_getI d_X3_readSteps_69 (f := 404) k8 fk_4_39 rfl rfl ?_
        refine g_ald_n d_X3_readSteps_72 rfl g0 ?_
        refine g_getI d_X3_readSteps_73 (f := 403) k8 fk_4_26 rfl rfl ?_
        refine r_icmp_ge d_X3_readSteps_76 (tgt := 83) (by decide) (fun c10 => ?_) (fun c10 => ?_)
        · replace e := (if_pos c10).symm.trans e
          refine r_iload_n d_X3_readSteps_83 rfl g1 ?_
          cases e
          exact g_iret d_X3_readSteps_84 rfl rfl
        · replace e := (if_neg c10).symm.trans e
          refine r_iconst d_X3_readSteps_79 (v := (-1 : Int32)) (by decide +kernel) ?_
          refine r_goto d_X3_readSteps_80 (tgt := 84) (by decide) ?_
          cases e
          exact g_iret d_X3_readSteps_84 rfl rfl
      · replace e := (if_neg c9).symm.trans e
        refine g_ald_n d_X3_readSteps_32 rfl g0 ?_
        refine r_iload_n d_X3_readSteps_33 rfl g1 ?_
        replace e := bd e
        obtain ⟨q11, eq11, e⟩ := e
        refine g_callV d_X3_readSteps_34 vk_4_64 (as := [_]) rfl k8 rfl (by simp [zrf_cat, cat_int, cat_long]) (j := 2) (by omega) (c_X3_readLabel (by omega) eq11) ?_
        refine r_if_eq d_X3_readSteps_37 (tgt := 60) (by decide) (fun c12 => ?_) (fun c12 => ?_)
        · replace e := (if_pos c12).symm.trans e
          refine r_iconst d_X3_readSteps_60 (v := (-1 : Int32)) (by decide +kernel) ?_
          cases e
          exact g_iret d_X3_readSteps_61 rfl rfl
        · replace e := (if_neg c12).symm.trans e
          refine g_ald_n d_X3_readSteps_40 rfl g0 ?_
          refine r_iload_n d_X3_readSteps_41 rfl g1 ?_
          refine r_bipush d_X3_readSteps_42 (v := (8 : Int32)) (by decide +kernel) ?_
          refine r_imul d_X3_readSteps_44 ?_
          replace e := ckd e
          obtain ⟨k14, e⟩ := e
          replace e := bd e
          obtain ⟨q13, eq13, e⟩ := e
          refine g_callV d_X3_readSteps_45 vk_4_68 (as := [_]) rfl k14 rfl (by simp [zrf_cat, cat_int, cat_long]) (j := 5) (by omega) (c_X3_readStep (by omega) eq13) ?_
          refine r_if_eq d_X3_readSteps_48 (tgt := 60) (by decide) (fun c15 => ?_) (fun c15 => ?_)
          · replace e := (if_pos c15).symm.trans e
            refine r_iconst d_X3_readSteps_60 (v := (-1 : Int32)) (by decide +kernel) ?_
            cases e
            exact g_iret d_X3_readSteps_61 rfl rfl
          · replace e := (if_neg c15).symm.trans e
            refine g_ald_n d_X3_readSteps_51 rfl g0 ?_
            refine r_bipush d_X3_readSteps_52 (v := (59 : Int32)) (by decide +kernel) ?_
            replace e := ckd e
            obtain ⟨k17, e⟩ := e
            replace e := bd e
            obtain ⟨q16, eq16, e⟩ := e
            refine g_callV d_X3_readSteps_54 vk_4_71 (as := [_]) rfl k17 rfl (by simp [zrf_cat, cat_int, cat_long]) (j := 1) (by omega) (c_X3_accept (by omega) eq16) ?_
            refine r_if_ne d_X3_readSteps_57 (tgt := 62) (by decide) (fun c18 => ?_) (fun c18 => ?_)
            · replace e := (if_neg c18).symm.trans e
              replace e := bhd e
              obtain ⟨_, rfl, e⟩ := e
              refine s_iinc d_X3_readSteps_62 g1 (w := (1 : Int32)) (by decide +kernel) (by decide) (fun L g1 gK => ?_)
              replace g0 := gK _ _ (by decide) (Or.inr (zrf_cat _)) g0
              refine r_goto d_X3_readSteps_65 (tgt := 15) (by decide) ?_
              exact ih _ _ _ _ _ g0 g1 e
            · replace e := (if_pos c18).symm.trans e
              refine r_iconst d_X3_readSteps_60 (v := (-1 : Int32)) (by decide +kernel) ?_
              cases e
              exact g_iret d_X3_readSteps_61 rfl rfl

def f_X3_readSteps (l0 : Nat) (h : Hp) : Option (Int32 × Hp) := ck (isO (h) (l0) 4) ((f_J7_fill_53178 (zR (h) 402 (l0)) ((-1 : Int32)) (h)).bind (fun q2 => ck (isO (q2) (l0) 4) (bh (pI (q2) 404 (l0) ((0 : Int32))) (fun h4 => f_X3_readSteps_15 fz (l0) ((0 : Int32)) (h4)))))
theorem f_X3_readSteps_ok {G : Gd} {d : Nat} (hj : 6 ≤ d) : ∀ (l0 : Nat) (L : List (Nat × Value)) (h : Hp) (o : (Int32 × Hp)), zlk L 0 = some (zrf (l0)) → f_X3_readSteps l0 h = some o → Ev G M_X3_readSteps d 0 L [] h (Ret Y_X3_readSteps (some (.int o.1)) o.2) := by
  intro l0 L h o g0 e
  unfold f_X3_readSteps at e
  refine g_ald_n d_X3_readSteps_0 rfl g0 ?_
  replace e := ckd e
  obtain ⟨k1, e⟩ := e
  refine g_getR d_X3_readSteps_1 (f := 402) k1 fk_4_19 rfl rfl ?_
  refine r_iconst d_X3_readSteps_4 (v := (-1 : Int32)) (by decide +kernel) ?_
  replace e := bd e
  obtain ⟨q2, eq2, e⟩ := e
  refine g_callS d_X3_readSteps_5 sk_4_60 (as := [_, _]) rfl rfl (by simp [zrf_cat, cat_int, cat_long]) (j := 1) (by omega) (c_J7_fill_53178 (by omega) eq2) ?_
  refine g_ald_n d_X3_readSteps_8 rfl g0 ?_
  refine r_iconst d_X3_readSteps_9 (v := (0 : Int32)) (by decide +kernel) ?_
  replace e := ckd e
  obtain ⟨k3, e⟩ := e
  refine g_putI d_X3_readSteps_10 (f := 404) k3 fk_4_39 rfl (Or.inl rfl) ⟨rfl, rfl⟩ ?_
  replace e := bhd e
  obtain ⟨_, rfl, e⟩ := e
  refine r_iconst d_X3_readSteps_13 (v := (0 : Int32)) (by decide +kernel) ?_
  refine s_istore_n d_X3_readSteps_14 rfl (by decide) (fun L g1 gK => ?_)
  replace g0 := gK _ _ (by decide) (Or.inr (zrf_cat _)) g0
  exact f_X3_readSteps_15_ok hj _ _ _ _ _ _ g0 g1 e

theorem c_X3_readSteps {G : Gd} {j : Nat} (hj : 6 ≤ j) {l0 : Nat} {h : Hp} {o : (Int32 × Hp)} (e : f_X3_readSteps l0 h = some o) : Cal G j Y_X3_readSteps [zrf (l0)] h (some (.int o.1)) o.2 := Cal.of (n := 0) (I := false) (by decide +kernel) (by decide) (by simp [lg_sl, zrf_cat, cat_int, cat_long]) (f_X3_readSteps_ok hj _ _ h o (by simp [lv_args, zlk, zrf_cat, cat_int, cat_long]) e)
def f_X3_linkLabels_73 (K2 : Nat → Int32 → Int32 → Hp → Option (Int32 × Hp)) (l0 : Nat) (l1 : Int32) (l2 : Int32) (h : Hp) : Option (Int32 × Hp) := bh ((l2) + (8 : Int32)) (fun x17 => K2 (l0) (l1) (x17) (h))
theorem f_X3_linkLabels_73_ok {G : Gd} {d : Nat} (K2 : Nat → Int32 → Int32 → Hp → Option (Int32 × Hp)) (hj : 1 ≤ d) (hK2 : ∀ (l0 : Nat) (l1 : Int32) (l2 : Int32) (L : List (Nat × Value)) (h : Hp) (o : (Int32 × Hp)), zlk L 0 = some (zrf (l0)) → zlk L 1 = some (.int (l1)) → zlk L 2 = some (.int (l2)) → K2 l0 l1 l2 h = some o → Ev G M_X3_linkLabels d 2 L [] h (Ret Y_X3_linkLabels (some (.int o.1)) o.2)) : ∀ (l0 : Nat) (l1 : Int32) (l2 : Int32) (L : List (Nat × Value)) (h : Hp) (o : (Int32 × Hp)), zlk L 0 = some (zrf (l0)) → zlk L 1 = some (.int (l1)) → zlk L 2 = some (.int (l2)) → f_X3_linkLabels_73 K2 l0 l1 l2 h = some o → Ev G M_X3_linkLabels d 73 L [] h (Ret Y_X3_linkLabels (some (.int o.1)) o.2) := by
  intro l0 l1 l2 L h o g0 g1 g2 e
  unfold f_X3_linkLabels_73 at e
  replace e := bhd e
  obtain ⟨_, rfl, e⟩ := e
  refine s_iinc d_X3_linkLabels_73 g2 (w := (8 : Int32)) (by decide +kernel) (by decide) (fun L g2 gK => ?_)
  replace g0 := gK _ _ (by decide) (Or.inr (zrf_cat _)) g0
  replace g1 := gK _ _ (by decide) (Or.inr rfl) g1
  refine r_goto d_X3_linkLabels_76 (tgt := 2) (by decide) ?_
  exact hK2 _ _ _ _ _ _ g0 g1 g2 e

def f_X3_linkLabels_36 (K2 : Nat → Int32 → Int32 → Hp → Option (Int32 × Hp)) (l0 : Nat) (l1 : Int32) (l2 : Int32) (h : Hp) : Option (Int32 × Hp) := ck (isO (h) (l0) 4) (ck (isO (h) (zR (h) 401 (l0)) 22) (ck (inR ((l2) + ((2 : Int32))) (zL (h) (zR (h) 401 (l0)))) (ck (isO (h) (zR (h) 402 (l0)) 22) (ck (inR (zE (h) (zR (h) 401 (l0)) ((l2) + ((2 : Int32))).toNatClampNeg) (zL (h) (zR (h) 402 (l0)))) (bh (zE (h) (zR (h) 402 (l0)) (zE (h) (zR (h) 401 (l0)) ((l2) + ((2 : Int32))).toNatClampNeg).toNatClampNeg) (fun x12 => if (x12) = ((-1 : Int32)) then (ck (inR ((l2) + ((3 : Int32))) (zL (h) (zR (h) 401 (l0)))) (some (zE (h) (zR (h) 401 (l0)) ((l2) + ((3 : Int32))).toNatClampNeg, h))) else (ck (inR ((l2) + ((1 : Int32))) (zL (h) (zR (h) 401 (l0)))) (bh (pE (h) (zR (h) 401 (l0)) ((l2) + ((1 : Int32))).toNatClampNeg (x12)) (fun h15 => f_X3_linkLabels_73 K2 (l0) (l1) (l2) (h15))))))))))
theorem f_X3_linkLabels_36_ok {G : Gd} {d : Nat} (K2 : Nat → Int32 → Int32 → Hp → Option (Int32 × Hp)) (hj : 1 ≤ d) (hK2 : ∀ (l0 : Nat) (l1 : Int32) (l2 : Int32) (L : List (Nat × Value)) (h : Hp) (o : (Int32 × Hp)), zlk L 0 = some (zrf (l0)) → zlk L 1 = some (.int (l1)) → zlk L 2 = some (.int (l2)) → K2 l0 l1 l2 h = some o → Ev G M_X3_linkLabels d 2 L [] h (Ret Y_X3_linkLabels (some (.int o.1)) o.2)) : ∀ (l0 : Nat) (l1 : Int32) (l2 : Int32) (L : List (Nat × Value)) (h : Hp) (o : (Int32 × Hp)), zlk L 0 = some (zrf (l0)) → zlk L 1 = some (.int (l1)) → zlk L 2 = some (.int (l2)) → f_X3_linkLabels_36 K2 l0 l1 l2 h = some o → Ev G M_X3_linkLabels d 36 L [] h (Ret Y_X3_linkLabels (some (.int o.1)) o.2) := by
  intro l0 l1 l2 L h o g0 g1 g2 e
  unfold f_X3_linkLabels_36 at e
  refine g_ald_n d_X3_linkLabels_36 rfl g0 ?_
  replace e := ckd e
  obtain ⟨k7, e⟩ := e
  refine g_getR d_X3_linkLabels_37 (f := 402) k7 fk_4_19 rfl rfl ?_
  refine g_ald_n d_X3_linkLabels_40 rfl g0 ?_
  refine g_getR d_X3_linkLabels_41 (f := 401) k7 fk_4_15 rfl rfl ?_
  refine r_iload_n d_X3_linkLabels_44 rfl g2 ?_
  refine r_iconst d_X3_linkLabels_45 (v := (2 : Int32)) (by decide +kernel) ?_
  refine r_iadd d_X3_linkLabels_46 ?_
  replace e := ckd e
  obtain ⟨k8, e⟩ := e
  replace e := ckd e
  obtain ⟨k9, e⟩ := e
  refine g_iald d_X3_linkLabels_47 k8 k9 rfl ?_
  replace e := ckd e
  obtain ⟨k10, e⟩ := e
  replace e := ckd e
  obtain ⟨k11, e⟩ := e
  refine g_iald d_X3_linkLabels_48 k10 k11 rfl ?_
  replace e := bhd e
  obtain ⟨_, rfl, e⟩ := e
  refine s_istore_n d_X3_linkLabels_49 rfl (by decide) (fun L g3 gK => ?_)
  replace g0 := gK _ _ (by decide) (Or.inr (zrf_cat _)) g0
  replace g1 := gK _ _ (by decide) (Or.inr rfl) g1
  replace g2 := gK _ _ (by decide) (Or.inr rfl) g2
  refine r_iload_n d_X3_linkLabels_50 rfl g3 ?_
  refine r_iconst d_X3_linkLabels_51 (v := (-1 : Int32)) (by decide +kernel) ?_
  refine r_icmp_ne d_X3_linkLabels_52 (tgt := 64) (by decide) (fun c13 => ?_) (fun c13 => ?_)
  · replace e := (if_neg c13).symm.trans e
    refine g_ald_n d_X3_linkLabels_64 rfl g0 ?_
    refine g_getR d_X3_linkLabels_65 (f := 401) k7 fk_4_15 rfl rfl ?_
    refine r_iload_n d_X3_linkLabels_68 rfl g2 ?_
    refine r_iconst d_X3_linkLabels_69 (v := (1 : Int32)) (by decide +kernel) ?_
    refine r_iadd d_X3_linkLabels_70 ?_
    refine r_iload_n d_X3_linkLabels_71 rfl g3 ?_
    replace e := ckd e
    obtain ⟨k14, e⟩ := e
    refine g_iast d_X3_linkLabels_72 k8 k14 ?_
    replace e := bhd e
    obtain ⟨_, rfl, e⟩ := e
    exact f_X3_linkLabels_73_ok _ hj hK2 _ _ _ _ _ _ g0 g1 g2 e
  · replace e := (if_pos c13).symm.trans e
    refine g_ald_n d_X3_linkLabels_55 rfl g0 ?_
    refine g_getR d_X3_linkLabels_56 (f := 401) k7 fk_4_15 rfl rfl ?_
    refine r_iload_n d_X3_linkLabels_59 rfl g2 ?_
    refine r_iconst d_X3_linkLabels_60 (v := (3 : Int32)) (by decide +kernel) ?_
    refine r_iadd d_X3_linkLabels_61 ?_
    replace e := ckd e
    obtain ⟨k16, e⟩ := e
    refine g_iald d_X3_linkLabels_62 k8 k16 rfl ?_
    cases e
    exact g_iret d_X3_linkLabels_63 rfl rfl

def f_X3_linkLabels_2 : Nat → Nat → Int32 → Int32 → Hp → Option (Int32 × Hp)
  | 0, _, _, _, _ => none
  | n + 1, l0, l1, l2, h => if ((l1) * ((8 : Int32))) ≤ (l2) then (some ((-1 : Int32), h)) else (ck (isO (h) (l0) 4) (ck (isO (h) (zR (h) 401 (l0)) 22) (ck (inR ((l2) + ((0 : Int32))) (zL (h) (zR (h) 401 (l0)))) (if (zE (h) (zR (h) 401 (l0)) ((l2) + ((0 : Int32))).toNatClampNeg) = ((73 : Int32)) then (f_X3_linkLabels_36 (f_X3_linkLabels_2 n ) (l0) (l1) (l2) (h)) else (if (zE (h) (zR (h) 401 (l0)) ((l2) + ((0 : Int32))).toNatClampNeg) = ((71 : Int32)) then (f_X3_linkLabels_36 (f_X3_linkLabels_2 n ) (l0) (l1) (l2) (h)) else (f_X3_linkLabels_73 (f_X3_linkLabels_2 n ) (l0) (l1) (l2) (h)))))))
theorem f_X3_linkLabels_2_ok {G : Gd} {d : Nat} (hj : 1 ≤ d) : ∀ (n : Nat) (l0 : Nat) (l1 : Int32) (l2 : Int32) (L : List (Nat × Value)) (h : Hp) (o : (Int32 × Hp)), zlk L 0 = some (zrf (l0)) → zlk L 1 = some (.int (l1)) → zlk L 2 = some (.int (l2)) → f_X3_linkLabels_2 n l0 l1 l2 h = some o → Ev G M_X3_linkLabels d 2 L [] h (Ret Y_X3_linkLabels (some (.int o.1)) o.2) := by
  intro n
  induction n with
  | zero =>
    intro l0 l1 l2 L h o g0 g1 g2 e
    cases e
  | succ n ih =>
    intro l0 l1 l2 L h o g0 g1 g2 e
    unfold f_X3_linkLabels_2 at e
    refine r_iload_n d_X3_linkLabels_2 rfl g2 ?_
    refine r_iload_n d_X3_linkLabels_3 rfl g1 ?_
    refine r_bipush d_X3_linkLabels_4 (v := (8 : Int32)) (by decide +kernel) ?_
    refine r_imul d_X3_linkLabels_6 ?_
    refine r_icmp_ge d_X3_linkLabels_7 (tgt := 79) (by decide) (fun c1 => ?_) (fun c1 => ?_)
    · replace e := (if_pos c1).symm.trans e
      refine r_iconst d_X3_linkLabels_79 (v := (-1 : Int32)) (by decide +kernel) ?_
      cases e
      exact g_iret d_X3_linkLabels_80 rfl rfl
    · replace e := (if_neg c1).symm.trans e
      refine g_ald_n d_X3_linkLabels_10 rfl g0 ?_
      replace e := ckd e
      obtain ⟨k2, e⟩ := e
      refine g_getR d_X3_linkLabels_11 (f := 401) k2 fk_4_15 rfl rfl ?_
      refine r_iload_n d_X3_linkLabels_14 rfl g2 ?_
      refine r_iconst d_X3_linkLabels_15 (v := (0 : Int32)) (by decide +kernel) ?_
      refine r_iadd d_X3_linkLabels_16 ?_
      replace e := ckd e
      obtain ⟨k3, e⟩ := e
      replace e := ckd e
      obtain ⟨k4, e⟩ := e
      refine g_iald d_X3_linkLabels_17 k3 k4 rfl ?_
      refine r_bipush d_X3_linkLabels_18 (v := (73 : Int32)) (by decide +kernel) ?_
      refine r_icmp_eq d_X3_linkLabels_20 (tgt := 36) (by decide) (fun c5 => ?_) (fun c5 => ?_)
      · replace e := (if_pos c5).symm.trans e
        exact f_X3_linkLabels_36_ok _ hj ih _ _ _ _ _ _ g0 g1 g2 e
      · replace e := (if_neg c5).symm.trans e
        refine g_ald_n d_X3_linkLabels_23 rfl g0 ?_
        refine g_getR d_X3_linkLabels_24 (f := 401) k2 fk_4_15 rfl rfl ?_
        refine r_iload_n d_X3_linkLabels_27 rfl g2 ?_
        refine r_iconst d_X3_linkLabels_28 (v := (0 : Int32)) (by decide +kernel) ?_
        refine r_iadd d_X3_linkLabels_29 ?_
        refine g_iald d_X3_linkLabels_30 k3 k4 rfl ?_
        refine r_bipush d_X3_linkLabels_31 (v := (71 : Int32)) (by decide +kernel) ?_
        refine r_icmp_ne d_X3_linkLabels_33 (tgt := 73) (by decide) (fun c6 => ?_) (fun c6 => ?_)
        · replace e := (if_neg c6).symm.trans e
          exact f_X3_linkLabels_73_ok _ hj ih _ _ _ _ _ _ g0 g1 g2 e
        · replace e := (if_pos c6).symm.trans e
          exact f_X3_linkLabels_36_ok _ hj ih _ _ _ _ _ _ g0 g1 g2 e

def f_X3_linkLabels (l0 : Nat) (l1 : Int32) (h : Hp) : Option (Int32 × Hp) := f_X3_linkLabels_2 fz (l0) (l1) ((0 : Int32)) (h)
theorem f_X3_linkLabels_ok {G : Gd} {d : Nat} (hj : 1 ≤ d) : ∀ (l0 : Nat) (l1 : Int32) (L : List (Nat × Value)) (h : Hp) (o : (Int32 × Hp)), zlk L 0 = some (zrf (l0)) → zlk L 1 = some (.int (l1)) → f_X3_linkLabels l0 l1 h = some o → Ev G M_X3_linkLabels d 0 L [] h (Ret Y_X3_linkLabels (some (.int o.1)) o.2) := by
  intro l0 l1 L h o g0 g1 e
  unfold f_X3_linkLabels at e
  refine r_iconst d_X3_linkLabels_0 (v := (0 : Int32)) (by decide +kernel) ?_
  refine s_istore_n d_X3_linkLabels_1 rfl (by decide) (fun L g2 gK => ?_)
  replace g0 := gK _ _ (by decide) (Or.inr (zrf_cat _)) g0
  replace g1 := gK _ _ (by decide) (Or.inr rfl) g1
  exact f_X3_linkLabels_2_ok hj _ _ _ _ _ _ _ g0 g1 g2 e

theorem c_X3_linkLabels {G : Gd} {j : Nat} (hj : 1 ≤ j) {l0 : Nat} {l1 : Int32} {h : Hp} {o : (Int32 × Hp)} (e : f_X3_linkLabels l0 l1 h = some o) : Cal G j Y_X3_linkLabels [zrf (l0), .int (l1)] h (some (.int o.1)) o.2 := Cal.of (n := 0) (I := false) (by decide +kernel) (by decide) (by simp [lg_sl, zrf_cat, cat_int, cat_long]) (f_X3_linkLabels_ok hj _ _ _ h o (by simp [lv_args, zlk, zrf_cat, cat_int, cat_long]) (by simp [lv_args, zlk, zrf_cat, cat_int, cat_long]) e)
theorem fk_5_7 : Fk "TaskWeave$Program" 7 500 := ⟨by decide, by decide, by decide +kernel⟩
theorem fk_5_13 : Fk "TaskWeave$Program" 13 501 := ⟨by decide, by decide, by decide +kernel⟩
def f_X4_init (l0 : Nat) (l1 : Int32) (l2 : Nat) (h : Hp) : Option Hp := ck (isO (h) (l0) 5) (bh (pI (h) 500 (l0) (l1)) (fun h2 => bh (pR (h2) 501 (l0) (l2)) (fun h3 => some (h3))))
theorem f_X4_init_ok {G : Gd} {d : Nat} (hj : 1 ≤ d) : ∀ (l0 : Nat) (l1 : Int32) (l2 : Nat) (L : List (Nat × Value)) (h : Hp) (o : Hp), zlk L 0 = some (zrf (l0)) → zlk L 1 = some (.int (l1)) → zlk L 2 = some (zrf (l2)) → f_X4_init l0 l1 l2 h = some o → Ev G M_X4_init d 0 L [] h (Ret Y_X4_init none o) := by
  intro l0 l1 l2 L h o g0 g1 g2 e
  unfold f_X4_init at e
  refine g_ald_n d_X4_init_0 rfl g0 ?_
  replace e := ckd e
  obtain ⟨k1, e⟩ := e
  refine g_objInit k1 d_X4_init_1 (by decide +kernel) (by omega) (by simp [zrf_cat, cat_int, cat_long]) ?_
  refine g_ald_n d_X4_init_4 rfl g0 ?_
  refine r_iload_n d_X4_init_5 rfl g1 ?_
  refine g_putI d_X4_init_6 (f := 500) k1 fk_5_7 rfl (Or.inr ⟨rfl, rfl⟩) ⟨rfl, rfl⟩ ?_
  replace e := bhd e
  obtain ⟨_, rfl, e⟩ := e
  refine g_ald_n d_X4_init_9 rfl g0 ?_
  refine g_ald_n d_X4_init_10 rfl g2 ?_
  refine g_putR d_X4_init_11 (f := 501) (tO_pI k1) fk_5_13 rfl (Or.inr ⟨rfl, rfl⟩) (Or.inr ⟨_, rfl⟩) ?_
  replace e := bhd e
  obtain ⟨_, rfl, e⟩ := e
  cases e
  exact g_vret d_X4_init_14 rfl

theorem c_X4_init {G : Gd} {j : Nat} (hj : 1 ≤ j) {l0 : Nat} {l1 : Int32} {l2 : Nat} {h : Hp} {o : Hp} (e : f_X4_init l0 l1 l2 h = some o) : Cal G j Y_X4_init [zrf (l0), .int (l1), zrf (l2)] h none o := Cal.of (n := 0) (I := true) (by decide +kernel) (by decide) (by simp [lg_sl, zrf_cat, cat_int, cat_long]) (f_X4_init_ok hj _ _ _ _ h o (by simp [lv_args, zlk, zrf_cat, cat_int, cat_long]) (by simp [lv_args, zlk, zrf_cat, cat_int, cat_long]) (by simp [lv_args, zlk, zrf_cat, cat_int, cat_long]) e)
theorem fk_6_9 : Fk "TaskWeave$Replica" 9 601 := ⟨by decide, by decide, by decide +kernel⟩
theorem fk_6_15 : Fk "TaskWeave$Replica" 15 603 := ⟨by decide, by decide, by decide +kernel⟩
theorem fk_6_19 : Fk "TaskWeave$Replica" 19 604 := ⟨by decide, by decide, by decide +kernel⟩
theorem fk_6_23 : Fk "TaskWeave$Replica" 23 600 := ⟨by decide, by decide, by decide +kernel⟩
def f_X5_init (l0 : Nat) (l1 : Int32) (h : Hp) : Option Hp := ck (isO (h) (l0) 6) (ck (8 ≤ zn (h)) (bh (pN (h) 20 ((512 : Int32)).toNatClampNeg) (fun h3 => bh (pR (h3) 601 (l0) (zn (h))) (fun h4 => bh (pI (h4) 603 (l0) ((1 : Int32))) (fun h5 => bh (pI (h5) 604 (l0) ((-1 : Int32))) (fun h6 => bh (pI (h6) 600 (l0) (l1)) (fun h7 => some (h7))))))))
theorem f_X5_init_ok {G : Gd} {d : Nat} (hj : 1 ≤ d) : ∀ (l0 : Nat) (l1 : Int32) (L : List (Nat × Value)) (h : Hp) (o : Hp), zlk L 0 = some (zrf (l0)) → zlk L 1 = some (.int (l1)) → f_X5_init l0 l1 h = some o → Ev G M_X5_init d 0 L [] h (Ret Y_X5_init none o) := by
  intro l0 l1 L h o g0 g1 e
  unfold f_X5_init at e
  refine g_ald_n d_X5_init_0 rfl g0 ?_
  replace e := ckd e
  obtain ⟨k1, e⟩ := e
  refine g_objInit k1 d_X5_init_1 (by decide +kernel) (by omega) (by simp [zrf_cat, cat_int, cat_long]) ?_
  refine g_ald_n d_X5_init_4 rfl g0 ?_
  refine r_sipush d_X5_init_5 (v := (512 : Int32)) (by decide +kernel) ?_
  replace e := ckd e
  obtain ⟨k2, e⟩ := e
  refine g_newa (t := 20) k2 d_X5_init_8 (by decide) (by decide) rfl (by decide +kernel) (by decide) (by decide +kernel) ?_
  replace e := bhd e
  obtain ⟨_, rfl, e⟩ := e
  refine g_putR d_X5_init_10 (f := 601) (tO_pN k1) fk_6_9 rfl (Or.inl rfl) (Or.inr ⟨_, rfl⟩) ?_
  replace e := bhd e
  obtain ⟨_, rfl, e⟩ := e
  refine g_ald_n d_X5_init_13 rfl g0 ?_
  refine r_iconst d_X5_init_14 (v := (1 : Int32)) (by decide +kernel) ?_
  refine g_putI d_X5_init_15 (f := 603) (tO_pR (tO_pN k1)) fk_6_15 rfl (Or.inl rfl) ⟨rfl, rfl⟩ ?_
  replace e := bhd e
  obtain ⟨_, rfl, e⟩ := e
  refine g_ald_n d_X5_init_18 rfl g0 ?_
  refine r_iconst d_X5_init_19 (v := (-1 : Int32)) (by decide +kernel) ?_
  refine g_putI d_X5_init_20 (f := 604) (tO_pI (tO_pR (tO_pN k1))) fk_6_19 rfl (Or.inl rfl) ⟨rfl, rfl⟩ ?_
  replace e := bhd e
  obtain ⟨_, rfl, e⟩ := e
  refine g_ald_n d_X5_init_23 rfl g0 ?_
  refine r_iload_n d_X5_init_24 rfl g1 ?_
  refine g_putI d_X5_init_25 (f := 600) (tO_pI (tO_pI (tO_pR (tO_pN k1)))) fk_6_23 rfl (Or.inr ⟨rfl, rfl⟩) ⟨rfl, rfl⟩ ?_
  replace e := bhd e
  obtain ⟨_, rfl, e⟩ := e
  cases e
  exact g_vret d_X5_init_28 rfl

theorem c_X5_init {G : Gd} {j : Nat} (hj : 1 ≤ j) {l0 : Nat} {l1 : Int32} {h : Hp} {o : Hp} (e : f_X5_init l0 l1 h = some o) : Cal G j Y_X5_init [zrf (l0), .int (l1)] h none o := Cal.of (n := 0) (I := true) (by decide +kernel) (by decide) (by simp [lg_sl, zrf_cat, cat_int, cat_long]) (f_X5_init_ok hj _ _ _ h o (by simp [lv_args, zlk, zrf_cat, cat_int, cat_long]) (by simp [lv_args, zlk, zrf_cat, cat_int, cat_long]) e)
theorem fk_6_26 : Fk "TaskWeave$Replica" 26 602 := ⟨by decide, by decide, by decide +kernel⟩
def f_X5_byteAt (l0 : Nat) (l1 : Int32) (h : Hp) : Option (Int32 × Hp) := if (l1) < (0) then (some ((0 : Int32), h)) else (ck (isO (h) (l0) 6) (if (zI (h) 602 (l0)) ≤ (l1) then (some ((0 : Int32), h)) else (ck (isO (h) (zR (h) 601 (l0)) 20) (ck (inR (l1) (zL (h) (zR (h) 601 (l0)))) (some ((zE (h) (zR (h) 601 (l0)) (l1).toNatClampNeg) &&& ((255 : Int32)), h))))))
theorem f_X5_byteAt_ok {G : Gd} {d : Nat} (hj : 1 ≤ d) : ∀ (l0 : Nat) (l1 : Int32) (L : List (Nat × Value)) (h : Hp) (o : (Int32 × Hp)), zlk L 0 = some (zrf (l0)) → zlk L 1 = some (.int (l1)) → f_X5_byteAt l0 l1 h = some o → Ev G M_X5_byteAt d 0 L [] h (Ret Y_X5_byteAt (some (.int o.1)) o.2) := by
  intro l0 l1 L h o g0 g1 e
  unfold f_X5_byteAt at e
  refine r_iload_n d_X5_byteAt_0 rfl g1 ?_
  refine r_if_lt d_X5_byteAt_1 (tgt := 25) (by decide) (fun c1 => ?_) (fun c1 => ?_)
  · replace e := (if_pos c1).symm.trans e
    refine r_iconst d_X5_byteAt_25 (v := (0 : Int32)) (by decide +kernel) ?_
    cases e
    exact g_iret d_X5_byteAt_26 rfl rfl
  · replace e := (if_neg c1).symm.trans e
    refine r_iload_n d_X5_byteAt_4 rfl g1 ?_
    refine g_ald_n d_X5_byteAt_5 rfl g0 ?_
    replace e := ckd e
    obtain ⟨k2, e⟩ := e
    refine g_getI d_X5_byteAt_6 (f := 602) k2 fk_6_26 rfl rfl ?_
    refine r_icmp_ge d_X5_byteAt_9 (tgt := 25) (by decide) (fun c3 => ?_) (fun c3 => ?_)
    · replace e := (if_pos c3).symm.trans e
      refine r_iconst d_X5_byteAt_25 (v := (0 : Int32)) (by decide +kernel) ?_
      cases e
      exact g_iret d_X5_byteAt_26 rfl rfl
    · replace e := (if_neg c3).symm.trans e
      refine g_ald_n d_X5_byteAt_12 rfl g0 ?_
      refine g_getR d_X5_byteAt_13 (f := 601) k2 fk_6_9 rfl rfl ?_
      refine r_iload_n d_X5_byteAt_16 rfl g1 ?_
      replace e := ckd e
      obtain ⟨k4, e⟩ := e
      replace e := ckd e
      obtain ⟨k5, e⟩ := e
      refine g_bald d_X5_byteAt_17 k4 k5 rfl ?_
      refine r_sipush d_X5_byteAt_18 (v := (255 : Int32)) (by decide +kernel) ?_
      refine r_iand d_X5_byteAt_21 ?_
      refine r_goto d_X5_byteAt_22 (tgt := 26) (by decide) ?_
      cases e
      exact g_iret d_X5_byteAt_26 rfl rfl

theorem c_X5_byteAt {G : Gd} {j : Nat} (hj : 1 ≤ j) {l0 : Nat} {l1 : Int32} {h : Hp} {o : (Int32 × Hp)} (e : f_X5_byteAt l0 l1 h = some o) : Cal G j Y_X5_byteAt [zrf (l0), .int (l1)] h (some (.int o.1)) o.2 := Cal.of (n := 0) (I := false) (by decide +kernel) (by decide) (by simp [lg_sl, zrf_cat, cat_int, cat_long]) (f_X5_byteAt_ok hj _ _ _ h o (by simp [lv_args, zlk, zrf_cat, cat_int, cat_long]) (by simp [lv_args, zlk, zrf_cat, cat_int, cat_long]) e)
theorem vk_6_29 : Vk "TaskWeave$Replica" 29 1 6 Y_X5_byteAt := ⟨yk_X5_byteAt, by decide +kernel, by decide +kernel, by decide +kernel, by decide⟩
def f_X5_wordAt (l0 : Nat) (l1 : Int32) (h : Hp) : Option (Int32 × Hp) := ck (isO (h) (l0) 6) ((f_X5_byteAt (l0) (l1) (h)).bind (fun q1 => ck (isO (q1.2) (l0) 6) ((f_X5_byteAt (l0) ((l1) + ((1 : Int32))) (q1.2)).bind (fun q3 => ck (isO (q3.2) (l0) 6) ((f_X5_byteAt (l0) ((l1) + ((2 : Int32))) (q3.2)).bind (fun q5 => ck (isO (q5.2) (l0) 6) ((f_X5_byteAt (l0) ((l1) + ((3 : Int32))) (q5.2)).bind (fun q7 => some (((((q1.1) <<< (((24 : Int32)) &&& 31)) ||| ((q3.1) <<< (((16 : Int32)) &&& 31))) ||| ((q5.1) <<< (((8 : Int32)) &&& 31))) ||| (q7.1), q7.2)))))))))
theorem f_X5_wordAt_ok {G : Gd} {d : Nat} (hj : 2 ≤ d) : ∀ (l0 : Nat) (l1 : Int32) (L : List (Nat × Value)) (h : Hp) (o : (Int32 × Hp)), zlk L 0 = some (zrf (l0)) → zlk L 1 = some (.int (l1)) → f_X5_wordAt l0 l1 h = some o → Ev G M_X5_wordAt d 0 L [] h (Ret Y_X5_wordAt (some (.int o.1)) o.2) := by
  intro l0 l1 L h o g0 g1 e
  unfold f_X5_wordAt at e
  refine g_ald_n d_X5_wordAt_0 rfl g0 ?_
  refine r_iload_n d_X5_wordAt_1 rfl g1 ?_
  replace e := ckd e
  obtain ⟨k2, e⟩ := e
  replace e := bd e
  obtain ⟨q1, eq1, e⟩ := e
  refine g_callV d_X5_wordAt_2 vk_6_29 (as := [_]) rfl k2 rfl (by simp [zrf_cat, cat_int, cat_long]) (j := 1) (by omega) (c_X5_byteAt (by omega) eq1) ?_
  refine r_bipush d_X5_wordAt_5 (v := (24 : Int32)) (by decide +kernel) ?_
  refine r_ishl d_X5_wordAt_7 ?_
  refine g_ald_n d_X5_wordAt_8 rfl g0 ?_
  refine r_iload_n d_X5_wordAt_9 rfl g1 ?_
  refine r_iconst d_X5_wordAt_10 (v := (1 : Int32)) (by decide +kernel) ?_
  refine r_iadd d_X5_wordAt_11 ?_
  replace e := ckd e
  obtain ⟨k4, e⟩ := e
  replace e := bd e
  obtain ⟨q3, eq3, e⟩ := e
  refine g_callV d_X5_wordAt_12 vk_6_29 (as := [_]) rfl k4 rfl (by simp [zrf_cat, cat_int, cat_long]) (j := 1) (by omega) (c_X5_byteAt (by omega) eq3) ?_
  refine r_bipush d_X5_wordAt_15 (v := (16 : Int32)) (by decide +kernel) ?_
  refine r_ishl d_X5_wordAt_17 ?_
  refine r_ior d_X5_wordAt_18 ?_
  refine g_ald_n d_X5_wordAt_19 rfl g0 ?_
  refine r_iload_n d_X5_wordAt_20 rfl g1 ?_
  refine r_iconst d_X5_wordAt_21 (v := (2 : Int32)) (by decide +kernel) ?_
  refine r_iadd d_X5_wordAt_22 ?_
  replace e := ckd e
  obtain ⟨k6, e⟩ := e
  replace e := bd e
  obtain ⟨q5, eq5, e⟩ := e
  refine g_callV d_X5_wordAt_23 vk_6_29 (as := [_]) rfl k6 rfl (by simp [zrf_cat, cat_int, cat_long]) (j := 1) (by omega) (c_X5_byteAt (by omega) eq5) ?_
  refine r_bipush d_X5_wordAt_26 (v := (8 : Int32)) (by decide +kernel) ?_
  refine r_ishl d_X5_wordAt_28 ?_
  refine r_ior d_X5_wordAt_29 ?_
  refine g_ald_n d_X5_wordAt_30 rfl g0 ?_
  refine r_iload_n d_X5_wordAt_31 rfl g1 ?_
  refine r_iconst d_X5_wordAt_32 (v := (3 : Int32)) (by decide +kernel) ?_
  refine r_iadd d_X5_wordAt_33 ?_
  replace e := ckd e
  obtain ⟨k8, e⟩ := e
  replace e := bd e
  obtain ⟨q7, eq7, e⟩ := e
  refine g_callV d_X5_wordAt_34 vk_6_29 (as := [_]) rfl k8 rfl (by simp [zrf_cat, cat_int, cat_long]) (j := 1) (by omega) (c_X5_byteAt (by omega) eq7) ?_
  refine r_ior d_X5_wordAt_37 ?_
  cases e
  exact g_iret d_X5_wordAt_38 rfl rfl

theorem c_X5_wordAt {G : Gd} {j : Nat} (hj : 2 ≤ j) {l0 : Nat} {l1 : Int32} {h : Hp} {o : (Int32 × Hp)} (e : f_X5_wordAt l0 l1 h = some o) : Cal G j Y_X5_wordAt [zrf (l0), .int (l1)] h (some (.int o.1)) o.2 := Cal.of (n := 0) (I := false) (by decide +kernel) (by decide) (by simp [lg_sl, zrf_cat, cat_int, cat_long]) (f_X5_wordAt_ok hj _ _ _ h o (by simp [lv_args, zlk, zrf_cat, cat_int, cat_long]) (by simp [lv_args, zlk, zrf_cat, cat_int, cat_long]) e)
def f_X5_lastTerm (l0 : Nat) (h : Hp) : Option (Int32 × Hp) := ck (isO (h) (l0) 6) (bh ((zI (h) 602 (l0)) - ((16 : Int32))) (fun x2 => if (0) ≤ (x2) then (ck (isO (h) (zR (h) 601 (l0)) 20) (ck (inR ((x2) + ((1 : Int32))) (zL (h) (zR (h) 601 (l0)))) (ck (inR ((x2) + ((2 : Int32))) (zL (h) (zR (h) 601 (l0)))) (some ((((zE (h) (zR (h) 601 (l0)) ((x2) + ((1 : Int32))).toNatClampNeg) &&& ((255 : Int32))) <<< (((8 : Int32)) &&& 31)) ||| ((zE (h) (zR (h) 601 (l0)) ((x2) + ((2 : Int32))).toNatClampNeg) &&& ((255 : Int32))), h))))) else (some ((0 : Int32), h))))
theorem f_X5_lastTerm_ok {G : Gd} {d : Nat} (hj : 1 ≤ d) : ∀ (l0 : Nat) (L : List (Nat × Value)) (h : Hp) (o : (Int32 × Hp)), zlk L 0 = some (zrf (l0)) → f_X5_lastTerm l0 h = some o → Ev G M_X5_lastTerm d 0 L [] h (Ret Y_X5_lastTerm (some (.int o.1)) o.2) := by
  intro l0 L h o g0 e
  unfold f_X5_lastTerm at e
  refine g_ald_n d_X5_lastTerm_0 rfl g0 ?_
  replace e := ckd e
  obtain ⟨k1, e⟩ := e
  refine g_getI d_X5_lastTerm_1 (f := 602) k1 fk_6_26 rfl rfl ?_
  refine r_bipush d_X5_lastTerm_4 (v := (16 : Int32)) (by decide +kernel) ?_
  refine r_isub d_X5_lastTerm_6 ?_
  replace e := bhd e
  obtain ⟨_, rfl, e⟩ := e
  refine s_istore_n d_X5_lastTerm_7 rfl (by decide) (fun L g1 gK => ?_)
  replace g0 := gK _ _ (by decide) (Or.inr (zrf_cat _)) g0
  refine r_iload_n d_X5_lastTerm_8 rfl g1 ?_
  refine r_if_ge d_X5_lastTerm_9 (tgt := 16) (by decide) (fun c3 => ?_) (fun c3 => ?_)
  · replace e := (if_pos c3).symm.trans e
    refine g_ald_n d_X5_lastTerm_16 rfl g0 ?_
    refine g_getR d_X5_lastTerm_17 (f := 601) k1 fk_6_9 rfl rfl ?_
    refine r_iload_n d_X5_lastTerm_20 rfl g1 ?_
    refine r_iconst d_X5_lastTerm_21 (v := (1 : Int32)) (by decide +kernel) ?_
    refine r_iadd d_X5_lastTerm_22 ?_
    replace e := ckd e
    obtain ⟨k4, e⟩ := e
    replace e := ckd e
    obtain ⟨k5, e⟩ := e
    refine g_bald d_X5_lastTerm_23 k4 k5 rfl ?_
    refine r_sipush d_X5_lastTerm_24 (v := (255 : Int32)) (by decide +kernel) ?_
    refine r_iand d_X5_lastTerm_27 ?_
    refine r_bipush d_X5_lastTerm_28 (v := (8 : Int32)) (by decide +kernel) ?_
    refine r_ishl d_X5_lastTerm_30 ?_
    refine g_ald_n d_X5_lastTerm_31 rfl g0 ?_
    refine g_getR d_X5_lastTerm_32 (f := 601) k1 fk_6_9 rfl rfl ?_
    refine r_iload_n d_X5_lastTerm_35 rfl g1 ?_
    refine r_iconst d_X5_lastTerm_36 (v := (2 : Int32)) (by decide +kernel) ?_
    refine r_iadd d_X5_lastTerm_37 ?_
    replace e := ckd e
    obtain ⟨k6, e⟩ := e
    refine g_bald d_X5_lastTerm_38 k4 k6 rfl ?_
    refine r_sipush d_X5_lastTerm_39 (v := (255 : Int32)) (by decide +kernel) ?_
    refine r_iand d_X5_lastTerm_42 ?_
    refine r_ior d_X5_lastTerm_43 ?_
    cases e
    exact g_iret d_X5_lastTerm_44 rfl rfl
  · replace e := (if_neg c3).symm.trans e
    refine r_iconst d_X5_lastTerm_12 (v := (0 : Int32)) (by decide +kernel) ?_
    refine r_goto d_X5_lastTerm_13 (tgt := 44) (by decide) ?_
    cases e
    exact g_iret d_X5_lastTerm_44 rfl rfl

theorem c_X5_lastTerm {G : Gd} {j : Nat} (hj : 1 ≤ j) {l0 : Nat} {h : Hp} {o : (Int32 × Hp)} (e : f_X5_lastTerm l0 h = some o) : Cal G j Y_X5_lastTerm [zrf (l0)] h (some (.int o.1)) o.2 := Cal.of (n := 0) (I := false) (by decide +kernel) (by decide) (by simp [lg_sl, zrf_cat, cat_int, cat_long]) (f_X5_lastTerm_ok hj _ _ h o (by simp [lv_args, zlk, zrf_cat, cat_int, cat_long]) e)
theorem vk_6_39 : Vk "TaskWeave$Replica" 39 0 6 Y_X5_lastTerm := ⟨yk_X5_lastTerm, by decide +kernel, by decide +kernel, by decide +kernel, by decide⟩
def f_X5_isAheadOf (l0 : Nat) (l1 : Nat) (h : Hp) : Option (Int32 × Hp) := ck (isO (h) (l0) 6) ((f_X5_lastTerm (l0) (h)).bind (fun q1 => ck (isO (q1.2) (l1) 6) ((f_X5_lastTerm (l1) (q1.2)).bind (fun q3 => if (q3.1) < (q1.1) then (some ((1 : Int32), q3.2)) else (if (q1.1) = (q3.1) then (ck (isO (q3.2) (l0) 6) (ck (isO (q3.2) (l1) 6) (if (zI (q3.2) 602 (l0)) ≤ (zI (q3.2) 602 (l1)) then (some ((0 : Int32), q3.2)) else (some ((1 : Int32), q3.2))))) else (some ((0 : Int32), q3.2)))))))
theorem f_X5_isAheadOf_ok {G : Gd} {d : Nat} (hj : 2 ≤ d) : ∀ (l0 : Nat) (l1 : Nat) (L : List (Nat × Value)) (h : Hp) (o : (Int32 × Hp)), zlk L 0 = some (zrf (l0)) → zlk L 1 = some (zrf (l1)) → f_X5_isAheadOf l0 l1 h = some o → Ev G M_X5_isAheadOf d 0 L [] h (Ret Y_X5_isAheadOf (some (.int o.1)) o.2) := by
  intro l0 l1 L h o g0 g1 e
  unfold f_X5_isAheadOf at e
  refine g_ald_n d_X5_isAheadOf_0 rfl g0 ?_
  replace e := ckd e
  obtain ⟨k2, e⟩ := e
  replace e := bd e
  obtain ⟨q1, eq1, e⟩ := e
  refine g_callV d_X5_isAheadOf_1 vk_6_39 (as := []) rfl k2 rfl (by simp [zrf_cat, cat_int, cat_long]) (j := 1) (by omega) (c_X5_lastTerm (by omega) eq1) ?_
  refine s_istore_n d_X5_isAheadOf_4 rfl (by decide) (fun L g2 gK => ?_)
  replace g0 := gK _ _ (by decide) (Or.inr (zrf_cat _)) g0
  replace g1 := gK _ _ (by decide) (Or.inr (zrf_cat _)) g1
  refine g_ald_n d_X5_isAheadOf_5 rfl g1 ?_
  replace e := ckd e
  obtain ⟨k4, e⟩ := e
  replace e := bd e
  obtain ⟨q3, eq3, e⟩ := e
  refine g_callV d_X5_isAheadOf_6 vk_6_39 (as := []) rfl k4 rfl (by simp [zrf_cat, cat_int, cat_long]) (j := 1) (by omega) (c_X5_lastTerm (by omega) eq3) ?_
  refine s_istore_n d_X5_isAheadOf_9 rfl (by decide) (fun L g3 gK => ?_)
  replace g0 := gK _ _ (by decide) (Or.inr (zrf_cat _)) g0
  replace g1 := gK _ _ (by decide) (Or.inr (zrf_cat _)) g1
  replace g2 := gK _ _ (by decide) (Or.inr rfl) g2
  refine r_iload_n d_X5_isAheadOf_10 rfl g2 ?_
  refine r_iload_n d_X5_isAheadOf_11 rfl g3 ?_
  refine r_icmp_gt d_X5_isAheadOf_12 (tgt := 31) (by decide) (fun c5 => ?_) (fun c5 => ?_)
  · replace e := (if_pos c5).symm.trans e
    refine r_iconst d_X5_isAheadOf_31 (v := (1 : Int32)) (by decide +kernel) ?_
    refine r_goto d_X5_isAheadOf_32 (tgt := 36) (by decide) ?_
    cases e
    exact g_iret d_X5_isAheadOf_36 rfl rfl
  · replace e := (if_neg c5).symm.trans e
    refine r_iload_n d_X5_isAheadOf_15 rfl g2 ?_
    refine r_iload_n d_X5_isAheadOf_16 rfl g3 ?_
    refine r_icmp_ne d_X5_isAheadOf_17 (tgt := 35) (by decide) (fun c6 => ?_) (fun c6 => ?_)
    · replace e := (if_neg c6).symm.trans e
      refine r_iconst d_X5_isAheadOf_35 (v := (0 : Int32)) (by decide +kernel) ?_
      cases e
      exact g_iret d_X5_isAheadOf_36 rfl rfl
    · replace e := (if_pos c6).symm.trans e
      refine g_ald_n d_X5_isAheadOf_20 rfl g0 ?_
      replace e := ckd e
      obtain ⟨k7, e⟩ := e
      refine g_getI d_X5_isAheadOf_21 (f := 602) k7 fk_6_26 rfl rfl ?_
      refine g_ald_n d_X5_isAheadOf_24 rfl g1 ?_
      replace e := ckd e
      obtain ⟨k8, e⟩ := e
      refine g_getI d_X5_isAheadOf_25 (f := 602) k8 fk_6_26 rfl rfl ?_
      refine r_icmp_le d_X5_isAheadOf_28 (tgt := 35) (by decide) (fun c9 => ?_) (fun c9 => ?_)
      · replace e := (if_pos c9).symm.trans e
        refine r_iconst d_X5_isAheadOf_35 (v := (0 : Int32)) (by decide +kernel) ?_
        cases e
        exact g_iret d_X5_isAheadOf_36 rfl rfl
      · replace e := (if_neg c9).symm.trans e
        refine r_iconst d_X5_isAheadOf_31 (v := (1 : Int32)) (by decide +kernel) ?_
        refine r_goto d_X5_isAheadOf_32 (tgt := 36) (by decide) ?_
        cases e
        exact g_iret d_X5_isAheadOf_36 rfl rfl

theorem c_X5_isAheadOf {G : Gd} {j : Nat} (hj : 2 ≤ j) {l0 : Nat} {l1 : Nat} {h : Hp} {o : (Int32 × Hp)} (e : f_X5_isAheadOf l0 l1 h = some o) : Cal G j Y_X5_isAheadOf [zrf (l0), zrf (l1)] h (some (.int o.1)) o.2 := Cal.of (n := 0) (I := false) (by decide +kernel) (by decide) (by simp [lg_sl, zrf_cat, cat_int, cat_long]) (f_X5_isAheadOf_ok hj _ _ _ h o (by simp [lv_args, zlk, zrf_cat, cat_int, cat_long]) (by simp [lv_args, zlk, zrf_cat, cat_int, cat_long]) e)
def f_X5_sameRecord_5 : Nat → Nat → Nat → Int32 → Int32 → Hp → Option (Int32 × Hp)
  | 0, _, _, _, _, _ => none
  | n + 1, l0, l1, l2, l3, h => if (((l2) + ((1 : Int32))) * ((16 : Int32))) ≤ (l3) then (some ((1 : Int32), h)) else (ck (isO (h) (l0) 6) (if (zI (h) 602 (l0)) ≤ (l3) then (some ((0 : Int32), h)) else (ck (isO (h) (l1) 6) (if (zI (h) 602 (l1)) ≤ (l3) then (some ((0 : Int32), h)) else (ck (isO (h) (zR (h) 601 (l0)) 20) (ck (inR (l3) (zL (h) (zR (h) 601 (l0)))) (ck (isO (h) (zR (h) 601 (l1)) 20) (ck (inR (l3) (zL (h) (zR (h) 601 (l1)))) (if (zE (h) (zR (h) 601 (l0)) (l3).toNatClampNeg) = (zE (h) (zR (h) 601 (l1)) (l3).toNatClampNeg) then (bh ((l3) + (1 : Int32)) (fun x12 => f_X5_sameRecord_5 n (l0) (l1) (l2) (x12) (h))) else (some ((0 : Int32), h)))))))))))
theorem f_X5_sameRecord_5_ok {G : Gd} {d : Nat} (hj : 1 ≤ d) : ∀ (n : Nat) (l0 : Nat) (l1 : Nat) (l2 : Int32) (l3 : Int32) (L : List (Nat × Value)) (h : Hp) (o : (Int32 × Hp)), zlk L 0 = some (zrf (l0)) → zlk L 1 = some (zrf (l1)) → zlk L 2 = some (.int (l2)) → zlk L 3 = some (.int (l3)) → f_X5_sameRecord_5 n l0 l1 l2 l3 h = some o → Ev G M_X5_sameRecord d 5 L [] h (Ret Y_X5_sameRecord (some (.int o.1)) o.2) := by
  intro n
  induction n with
  | zero =>
    intro l0 l1 l2 l3 L h o g0 g1 g2 g3 e
    cases e
  | succ n ih =>
    intro l0 l1 l2 l3 L h o g0 g1 g2 g3 e
    unfold f_X5_sameRecord_5 at e
    refine r_iload_n d_X5_sameRecord_5 rfl g3 ?_
    refine r_iload_n d_X5_sameRecord_6 rfl g2 ?_
    refine r_iconst d_X5_sameRecord_7 (v := (1 : Int32)) (by decide +kernel) ?_
    refine r_iadd d_X5_sameRecord_8 ?_
    refine r_bipush d_X5_sameRecord_9 (v := (16 : Int32)) (by decide +kernel) ?_
    refine r_imul d_X5_sameRecord_11 ?_
    refine r_icmp_ge d_X5_sameRecord_12 (tgt := 54) (by decide) (fun c2 => ?_) (fun c2 => ?_)
    · replace e := (if_pos c2).symm.trans e
      refine r_iconst d_X5_sameRecord_54 (v := (1 : Int32)) (by decide +kernel) ?_
      cases e
      exact g_iret d_X5_sameRecord_55 rfl rfl
    · replace e := (if_neg c2).symm.trans e
      refine r_iload_n d_X5_sameRecord_15 rfl g3 ?_
      refine g_ald_n d_X5_sameRecord_16 rfl g0 ?_
      replace e := ckd e
      obtain ⟨k3, e⟩ := e
      refine g_getI d_X5_sameRecord_17 (f := 602) k3 fk_6_26 rfl rfl ?_
      refine r_icmp_ge d_X5_sameRecord_20 (tgt := 46) (by decide) (fun c4 => ?_) (fun c4 => ?_)
      · replace e := (if_pos c4).symm.trans e
        refine r_iconst d_X5_sameRecord_46 (v := (0 : Int32)) (by decide +kernel) ?_
        cases e
        exact g_iret d_X5_sameRecord_47 rfl rfl
      · replace e := (if_neg c4).symm.trans e
        refine r_iload_n d_X5_sameRecord_23 rfl g3 ?_
        refine g_ald_n d_X5_sameRecord_24 rfl g1 ?_
        replace e := ckd e
        obtain ⟨k5, e⟩ := e
        refine g_getI d_X5_sameRecord_25 (f := 602) k5 fk_6_26 rfl rfl ?_
        refine r_icmp_ge d_X5_sameRecord_28 (tgt := 46) (by decide) (fun c6 => ?_) (fun c6 => ?_)
        · replace e := (if_pos c6).symm.trans e
          refine r_iconst d_X5_sameRecord_46 (v := (0 : Int32)) (by decide +kernel) ?_
          cases e
          exact g_iret d_X5_sameRecord_47 rfl rfl
        · replace e := (if_neg c6).symm.trans e
          refine g_ald_n d_X5_sameRecord_31 rfl g0 ?_
          refine g_getR d_X5_sameRecord_32 (f := 601) k3 fk_6_9 rfl rfl ?_
          refine r_iload_n d_X5_sameRecord_35 rfl g3 ?_
          replace e := ckd e
          obtain ⟨k7, e⟩ := e
          replace e := ckd e
          obtain ⟨k8, e⟩ := e
          refine g_bald d_X5_sameRecord_36 k7 k8 rfl ?_
          refine g_ald_n d_X5_sameRecord_37 rfl g1 ?_
          refine g_getR d_X5_sameRecord_38 (f := 601) k5 fk_6_9 rfl rfl ?_
          refine r_iload_n d_X5_sameRecord_41 rfl g3 ?_
          replace e := ckd e
          obtain ⟨k9, e⟩ := e
          replace e := ckd e
          obtain ⟨k10, e⟩ := e
          refine g_bald d_X5_sameRecord_42 k9 k10 rfl ?_
          refine r_icmp_eq d_X5_sameRecord_43 (tgt := 48) (by decide) (fun c11 => ?_) (fun c11 => ?_)
          · replace e := (if_pos c11).symm.trans e
            replace e := bhd e
            obtain ⟨_, rfl, e⟩ := e
            refine s_iinc d_X5_sameRecord_48 g3 (w := (1 : Int32)) (by decide +kernel) (by decide) (fun L g3 gK => ?_)
            replace g0 := gK _ _ (by decide) (Or.inr (zrf_cat _)) g0
            replace g1 := gK _ _ (by decide) (Or.inr (zrf_cat _)) g1
            replace g2 := gK _ _ (by decide) (Or.inr rfl) g2
            refine r_goto d_X5_sameRecord_51 (tgt := 5) (by decide) ?_
            exact ih _ _ _ _ _ _ _ g0 g1 g2 g3 e
          · replace e := (if_neg c11).symm.trans e
            refine r_iconst d_X5_sameRecord_46 (v := (0 : Int32)) (by decide +kernel) ?_
            cases e
            exact g_iret d_X5_sameRecord_47 rfl rfl

def f_X5_sameRecord (l0 : Nat) (l1 : Nat) (l2 : Int32) (h : Hp) : Option (Int32 × Hp) := bh ((l2) * ((16 : Int32))) (fun x1 => f_X5_sameRecord_5 fz (l0) (l1) (l2) (x1) (h))
theorem f_X5_sameRecord_ok {G : Gd} {d : Nat} (hj : 1 ≤ d) : ∀ (l0 : Nat) (l1 : Nat) (l2 : Int32) (L : List (Nat × Value)) (h : Hp) (o : (Int32 × Hp)), zlk L 0 = some (zrf (l0)) → zlk L 1 = some (zrf (l1)) → zlk L 2 = some (.int (l2)) → f_X5_sameRecord l0 l1 l2 h = some o → Ev G M_X5_sameRecord d 0 L [] h (Ret Y_X5_sameRecord (some (.int o.1)) o.2) := by
  intro l0 l1 l2 L h o g0 g1 g2 e
  unfold f_X5_sameRecord at e
  refine r_iload_n d_X5_sameRecord_0 rfl g2 ?_
  refine r_bipush d_X5_sameRecord_1 (v := (16 : Int32)) (by decide +kernel) ?_
  refine r_imul d_X5_sameRecord_3 ?_
  replace e := bhd e
  obtain ⟨_, rfl, e⟩ := e
  refine s_istore_n d_X5_sameRecord_4 rfl (by decide) (fun L g3 gK => ?_)
  replace g0 := gK _ _ (by decide) (Or.inr (zrf_cat _)) g0
  replace g1 := gK _ _ (by decide) (Or.inr (zrf_cat _)) g1
  replace g2 := gK _ _ (by decide) (Or.inr rfl) g2
  exact f_X5_sameRecord_5_ok hj _ _ _ _ _ _ _ _ g0 g1 g2 g3 e

theorem c_X5_sameRecord {G : Gd} {j : Nat} (hj : 1 ≤ j) {l0 : Nat} {l1 : Nat} {l2 : Int32} {h : Hp} {o : (Int32 × Hp)} (e : f_X5_sameRecord l0 l1 l2 h = some o) : Cal G j Y_X5_sameRecord [zrf (l0), zrf (l1), .int (l2)] h (some (.int o.1)) o.2 := Cal.of (n := 0) (I := false) (by decide +kernel) (by decide) (by simp [lg_sl, zrf_cat, cat_int, cat_long]) (f_X5_sameRecord_ok hj _ _ _ _ h o (by simp [lv_args, zlk, zrf_cat, cat_int, cat_long]) (by simp [lv_args, zlk, zrf_cat, cat_int, cat_long]) (by simp [lv_args, zlk, zrf_cat, cat_int, cat_long]) e)
def f_X8_init (l0 : Nat) (h : Hp) : Option Hp := ck (isO (h) (l0) 9) (some (h))
theorem f_X8_init_ok {G : Gd} {d : Nat} (hj : 1 ≤ d) : ∀ (l0 : Nat) (L : List (Nat × Value)) (h : Hp) (o : Hp), zlk L 0 = some (zrf (l0)) → f_X8_init l0 h = some o → Ev G M_X8_init d 0 L [] h (Ret Y_X8_init none o) := by
  intro l0 L h o g0 e
  unfold f_X8_init at e
  refine g_ald_n d_X8_init_0 rfl g0 ?_
  replace e := ckd e
  obtain ⟨k1, e⟩ := e
  refine g_objInit k1 d_X8_init_1 (by decide +kernel) (by omega) (by simp [zrf_cat, cat_int, cat_long]) ?_
  cases e
  exact g_vret d_X8_init_4 rfl

theorem c_X8_init {G : Gd} {j : Nat} (hj : 1 ≤ j) {l0 : Nat} {h : Hp} {o : Hp} (e : f_X8_init l0 h = some o) : Cal G j Y_X8_init [zrf (l0)] h none o := Cal.of (n := 0) (I := true) (by decide +kernel) (by decide) (by simp [lg_sl, zrf_cat, cat_int, cat_long]) (f_X8_init_ok hj _ _ h o (by simp [lv_args, zlk, zrf_cat, cat_int, cat_long]) e)
theorem fk_10_9 : Fk "TaskWeave$Workflow" 9 1001 := ⟨by decide, by decide, by decide +kernel⟩
theorem nk_10_17 : Nk "TaskWeave$Workflow" 17 0 Y_X1_init := ⟨yk_X1_init, rfl, by decide +kernel, rfl, by decide +kernel⟩
theorem fk_10_18 : Fk "TaskWeave$Workflow" 18 1002 := ⟨by decide, by decide, by decide +kernel⟩
theorem nk_10_24 : Nk "TaskWeave$Workflow" 24 0 Y_X8_init := ⟨yk_X8_init, rfl, by decide +kernel, rfl, by decide +kernel⟩
theorem fk_10_25 : Fk "TaskWeave$Workflow" 25 1003 := ⟨by decide, by decide, by decide +kernel⟩
theorem fk_10_29 : Fk "TaskWeave$Workflow" 29 1000 := ⟨by decide, by decide, by decide +kernel⟩
def f_X9_init (l0 : Nat) (l1 : Int32) (h : Hp) : Option Hp := ck (isO (h) (l0) 10) (ck (8 ≤ zn (h)) (bh (pN (h) 22 ((8 : Int32)).toNatClampNeg) (fun h3 => bh (pR (h3) 1001 (l0) (zn (h))) (fun h4 => bh (pN (h4) 2 (kN 2)) (fun h5 => ck (isO (h5) (zn (h4)) 2) ((f_X1_init (zn (h4)) (h5)).bind (fun q6 => ck (isO (q6) (l0) 10) (bh (pR (q6) 1002 (l0) (zn (h4))) (fun h9 => ck (8 ≤ zn (h9)) (bh (pN (h9) 9 (kN 9)) (fun h11 => ck (isO (h11) (zn (h9)) 9) ((f_X8_init (zn (h9)) (h11)).bind (fun q12 => ck (isO (q12) (l0) 10) (bh (pR (q12) 1003 (l0) (zn (h9))) (fun h15 => bh (pI (h15) 1000 (l0) (l1)) (fun h16 => some (h16)))))))))))))))))
theorem f_X9_init_ok {G : Gd} {d : Nat} (hj : 2 ≤ d) : ∀ (l0 : Nat) (l1 : Int32) (L : List (Nat × Value)) (h : Hp) (o : Hp), zlk L 0 = some (zrf (l0)) → zlk L 1 = some (.int (l1)) → f_X9_init l0 l1 h = some o → Ev G M_X9_init d 0 L [] h (Ret Y_X9_init none o) := by
  intro l0 l1 L h o g0 g1 e
  unfold f_X9_init at e
  refine g_ald_n d_X9_init_0 rfl g0 ?_
  replace e := ckd e
  obtain ⟨k1, e⟩ := e
  refine g_objInit k1 d_X9_init_1 (by decide +kernel) (by omega) (by simp [zrf_cat, cat_int, cat_long]) ?_
  refine g_ald_n d_X9_init_4 rfl g0 ?_
  refine r_bipush d_X9_init_5 (v := (8 : Int32)) (by decide +kernel) ?_
  replace e := ckd e
  obtain ⟨k2, e⟩ := e
  refine g_newa (t := 22) k2 d_X9_init_7 (by decide) (by decide) rfl (by decide +kernel) (by decide) (by decide +kernel) ?_
  replace e := bhd e
  obtain ⟨_, rfl, e⟩ := e
  refine g_putR d_X9_init_9 (f := 1001) (tO_pN k1) fk_10_9 rfl (Or.inr ⟨rfl, rfl⟩) (Or.inr ⟨_, rfl⟩) ?_
  replace e := bhd e
  obtain ⟨_, rfl, e⟩ := e
  refine g_ald_n d_X9_init_12 rfl g0 ?_
  refine g_new (t8_pR (t8_pN k2)) d_X9_init_13 (i := 2) (by decide) (by decide) (by decide +kernel) ?_
  replace e := bhd e
  obtain ⟨_, rfl, e⟩ := e
  refine r_dup d_X9_init_16 (zrf_cat _) ?_
  replace e := ckd e
  obtain ⟨k7, e⟩ := e
  replace e := bd e
  obtain ⟨q6, eq6, e⟩ := e
  refine g_callN d_X9_init_17 nk_10_17 (as := []) rfl k7 rfl (by simp [zrf_cat, cat_int, cat_long]) (j := 1) (by omega) (c_X1_init (by omega) eq6) ?_
  replace e := ckd e
  obtain ⟨k8, e⟩ := e
  refine g_putR d_X9_init_20 (f := 1002) k8 fk_10_18 rfl (Or.inr ⟨rfl, rfl⟩) (Or.inl ⟨_, rfl⟩) ?_
  replace e := bhd e
  obtain ⟨_, rfl, e⟩ := e
  refine g_ald_n d_X9_init_23 rfl g0 ?_
  replace e := ckd e
  obtain ⟨k10, e⟩ := e
  refine g_new k10 d_X9_init_24 (i := 9) (by decide) (by decide) (by decide +kernel) ?_
  replace e := bhd e
  obtain ⟨_, rfl, e⟩ := e
  refine r_dup d_X9_init_27 (zrf_cat _) ?_
  replace e := ckd e
  obtain ⟨k13, e⟩ := e
  replace e := bd e
  obtain ⟨q12, eq12, e⟩ := e
  refine g_callN d_X9_init_28 nk_10_24 (as := []) rfl k13 rfl (by simp [zrf_cat, cat_int, cat_long]) (j := 1) (by omega) (c_X8_init (by omega) eq12) ?_
  replace e := ckd e
  obtain ⟨k14, e⟩ := e
  refine g_putR d_X9_init_31 (f := 1003) k14 fk_10_25 rfl (Or.inr ⟨rfl, rfl⟩) (Or.inl ⟨_, rfl⟩) ?_
  replace e := bhd e
  obtain ⟨_, rfl, e⟩ := e
  refine g_ald_n d_X9_init_34 rfl g0 ?_
  refine r_iload_n d_X9_init_35 rfl g1 ?_
  refine g_putI d_X9_init_36 (f := 1000) (tO_pR k14) fk_10_29 rfl (Or.inr ⟨rfl, rfl⟩) ⟨rfl, rfl⟩ ?_
  replace e := bhd e
  obtain ⟨_, rfl, e⟩ := e
  cases e
  exact g_vret d_X9_init_39 rfl

theorem c_X9_init {G : Gd} {j : Nat} (hj : 2 ≤ j) {l0 : Nat} {l1 : Int32} {h : Hp} {o : Hp} (e : f_X9_init l0 l1 h = some o) : Cal G j Y_X9_init [zrf (l0), .int (l1)] h none o := Cal.of (n := 0) (I := true) (by decide +kernel) (by decide) (by simp [lg_sl, zrf_cat, cat_int, cat_long]) (f_X9_init_ok hj _ _ _ h o (by simp [lv_args, zlk, zrf_cat, cat_int, cat_long]) (by simp [lv_args, zlk, zrf_cat, cat_int, cat_long]) e)
theorem fk_7_11 : Fk "TaskWeave$Shard" 11 703 := ⟨by decide, by decide, by decide +kernel⟩
theorem fk_7_19 : Fk "TaskWeave$Shard" 19 704 := ⟨by decide, by decide, by decide +kernel⟩
theorem fk_7_23 : Fk "TaskWeave$Shard" 23 705 := ⟨by decide, by decide, by decide +kernel⟩
theorem nk_7_29 : Nk "TaskWeave$Shard" 29 0 Y_X2_init := ⟨yk_X2_init, rfl, by decide +kernel, rfl, by decide +kernel⟩
theorem fk_7_30 : Fk "TaskWeave$Shard" 30 706 := ⟨by decide, by decide, by decide +kernel⟩
theorem fk_7_34 : Fk "TaskWeave$Shard" 34 707 := ⟨by decide, by decide, by decide +kernel⟩
theorem fk_7_38 : Fk "TaskWeave$Shard" 38 700 := ⟨by decide, by decide, by decide +kernel⟩
theorem fk_7_41 : Fk "TaskWeave$Shard" 41 701 := ⟨by decide, by decide, by decide +kernel⟩
theorem fk_7_45 : Fk "TaskWeave$Shard" 45 702 := ⟨by decide, by decide, by decide +kernel⟩
theorem ik_7_49 : Ik "TaskWeave$Shard" 49 1 Y_X5_init := ⟨yk_X5_init, rfl, by decide +kernel, rfl, by decide +kernel⟩
theorem ik_7_52 : Ik "TaskWeave$Shard" 52 1 Y_X9_init := ⟨yk_X9_init, rfl, by decide +kernel, rfl, by decide +kernel⟩
def f_X6_init_94 : Nat → Nat → Int32 → Int32 → Hp → Option Hp
  | 0, _, _, _, _ => none
  | n + 1, l0, l1, l4, h => if ((16 : Int32)) ≤ (l4) then (some (h)) else (ck (isO (h) (l0) 7) (ck (8 ≤ zn (h)) (bh (pN (h) 10 (kN 10)) (fun h32 => ck (isO (h32) (zn (h)) 10) ((f_X9_init (zn (h)) ((l1) + (((4 : Int32)) * (l4))) (h32)).bind (fun q33 => ck (isO (q33) (zR (h) 704 (l0)) 28) (ck (inR (l4) (zL (q33) (zR (h) 704 (l0)))) (ck (isO (q33) (zn (h)) 10) (bh (pQ (q33) (zR (h) 704 (l0)) (l4).toNatClampNeg (zn (h))) (fun h38 => bh ((l4) + (1 : Int32)) (fun x39 => f_X6_init_94 n (l0) (l1) (x39) (h38))))))))))))
theorem f_X6_init_94_ok {G : Gd} {d : Nat} (hj : 3 ≤ d) : ∀ (n : Nat) (l0 : Nat) (l1 : Int32) (l4 : Int32) (L : List (Nat × Value)) (h : Hp) (o : Hp), zlk L 0 = some (zrf (l0)) → zlk L 1 = some (.int (l1)) → zlk L 4 = some (.int (l4)) → f_X6_init_94 n l0 l1 l4 h = some o → Ev G M_X6_init d 94 L [] h (Ret Y_X6_init none o) := by
  intro n
  induction n with
  | zero =>
    intro l0 l1 l4 L h o g0 g1 g4 e
    cases e
  | succ n ih =>
    intro l0 l1 l4 L h o g0 g1 g4 e
    unfold f_X6_init_94 at e
    refine r_iload d_X6_init_94 g4 ?_
    refine r_bipush d_X6_init_96 (v := (16 : Int32)) (by decide +kernel) ?_
    refine r_icmp_ge d_X6_init_98 (tgt := 127) (by decide) (fun c29 => ?_) (fun c29 => ?_)
    · replace e := (if_pos c29).symm.trans e
      cases e
      exact g_vret d_X6_init_127 rfl
    · replace e := (if_neg c29).symm.trans e
      refine g_ald_n d_X6_init_101 rfl g0 ?_
      replace e := ckd e
      obtain ⟨k30, e⟩ := e
      refine g_getR d_X6_init_102 (f := 704) k30 fk_7_19 rfl rfl ?_
      refine r_iload d_X6_init_105 g4 ?_
      replace e := ckd e
      obtain ⟨k31, e⟩ := e
      refine g_new k31 d_X6_init_107 (i := 10) (by decide) (by decide) (by decide +kernel) ?_
      replace e := bhd e
      obtain ⟨_, rfl, e⟩ := e
      refine r_dup d_X6_init_110 (zrf_cat _) ?_
      refine r_iload_n d_X6_init_111 rfl g1 ?_
      refine r_iconst d_X6_init_112 (v := (4 : Int32)) (by decide +kernel) ?_
      refine r_iload d_X6_init_113 g4 ?_
      refine r_imul d_X6_init_115 ?_
      refine r_iadd d_X6_init_116 ?_
      replace e := ckd e
      obtain ⟨k34, e⟩ := e
      replace e := bd e
      obtain ⟨q33, eq33, e⟩ := e
      refine g_callI d_X6_init_117 ik_7_52 (as := [_]) rfl k34 rfl (by simp [zrf_cat, cat_int, cat_long]) (j := 2) (by omega) (c_X9_init (by omega) eq33) ?_
      replace e := ckd e
      obtain ⟨k35, e⟩ := e
      replace e := ckd e
      obtain ⟨k36, e⟩ := e
      replace e := ckd e
      obtain ⟨k37, e⟩ := e
      refine g_aast d_X6_init_120 k35 (by decide) (by decide) k37 (by decide) rfl k36 ?_
      replace e := bhd e
      obtain ⟨_, rfl, e⟩ := e
      replace e := bhd e
      obtain ⟨_, rfl, e⟩ := e
      refine s_iinc d_X6_init_121 g4 (w := (1 : Int32)) (by decide +kernel) (by decide) (fun L g4 gK => ?_)
      replace g0 := gK _ _ (by decide) (Or.inr (zrf_cat _)) g0
      replace g1 := gK _ _ (by decide) (Or.inr rfl) g1
      refine r_goto d_X6_init_124 (tgt := 94) (by decide) ?_
      exact ih _ _ _ _ _ _ g0 g1 g4 e

def f_X6_init_63 : Nat → Nat → Int32 → Int32 → Hp → Option Hp
  | 0, _, _, _, _ => none
  | n + 1, l0, l1, l4, h => if ((5 : Int32)) ≤ (l4) then (f_X6_init_94 fz (l0) (l1) ((0 : Int32)) (h)) else (ck (isO (h) (l0) 7) (ck (8 ≤ zn (h)) (bh (pN (h) 6 (kN 6)) (fun h21 => ck (isO (h21) (zn (h)) 6) ((f_X5_init (zn (h)) (l4) (h21)).bind (fun q22 => ck (isO (q22) (zR (h) 703 (l0)) 25) (ck (inR (l4) (zL (q22) (zR (h) 703 (l0)))) (ck (isO (q22) (zn (h)) 6) (bh (pQ (q22) (zR (h) 703 (l0)) (l4).toNatClampNeg (zn (h))) (fun h27 => bh ((l4) + (1 : Int32)) (fun x28 => f_X6_init_63 n (l0) (l1) (x28) (h27))))))))))))
theorem f_X6_init_63_ok {G : Gd} {d : Nat} (hj : 3 ≤ d) : ∀ (n : Nat) (l0 : Nat) (l1 : Int32) (l4 : Int32) (L : List (Nat × Value)) (h : Hp) (o : Hp), zlk L 0 = some (zrf (l0)) → zlk L 1 = some (.int (l1)) → zlk L 4 = some (.int (l4)) → f_X6_init_63 n l0 l1 l4 h = some o → Ev G M_X6_init d 63 L [] h (Ret Y_X6_init none o) := by
  intro n
  induction n with
  | zero =>
    intro l0 l1 l4 L h o g0 g1 g4 e
    cases e
  | succ n ih =>
    intro l0 l1 l4 L h o g0 g1 g4 e
    unfold f_X6_init_63 at e
    refine r_iload d_X6_init_63 g4 ?_
    refine r_iconst d_X6_init_65 (v := (5 : Int32)) (by decide +kernel) ?_
    refine r_icmp_ge d_X6_init_66 (tgt := 91) (by decide) (fun c18 => ?_) (fun c18 => ?_)
    · replace e := (if_pos c18).symm.trans e
      refine r_iconst d_X6_init_91 (v := (0 : Int32)) (by decide +kernel) ?_
      refine s_istore d_X6_init_92 (by decide) (fun L g4 gK => ?_)
      replace g0 := gK _ _ (by decide) (Or.inr (zrf_cat _)) g0
      replace g1 := gK _ _ (by decide) (Or.inr rfl) g1
      exact f_X6_init_94_ok hj _ _ _ _ _ _ _ g0 g1 g4 e
    · replace e := (if_neg c18).symm.trans e
      refine g_ald_n d_X6_init_69 rfl g0 ?_
      replace e := ckd e
      obtain ⟨k19, e⟩ := e
      refine g_getR d_X6_init_70 (f := 703) k19 fk_7_11 rfl rfl ?_
      refine r_iload d_X6_init_73 g4 ?_
      replace e := ckd e
      obtain ⟨k20, e⟩ := e
      refine g_new k20 d_X6_init_75 (i := 6) (by decide) (by decide) (by decide +kernel) ?_
      replace e := bhd e
      obtain ⟨_, rfl, e⟩ := e
      refine r_dup d_X6_init_78 (zrf_cat _) ?_
      refine r_iload d_X6_init_79 g4 ?_
      replace e := ckd e
      obtain ⟨k23, e⟩ := e
      replace e := bd e
      obtain ⟨q22, eq22, e⟩ := e
      refine g_callI d_X6_init_81 ik_7_49 (as := [_]) rfl k23 rfl (by simp [zrf_cat, cat_int, cat_long]) (j := 1) (by omega) (c_X5_init (by omega) eq22) ?_
      replace e := ckd e
      obtain ⟨k24, e⟩ := e
      replace e := ckd e
      obtain ⟨k25, e⟩ := e
      replace e := ckd e
      obtain ⟨k26, e⟩ := e
      refine g_aast d_X6_init_84 k24 (by decide) (by decide) k26 (by decide) rfl k25 ?_
      replace e := bhd e
      obtain ⟨_, rfl, e⟩ := e
      replace e := bhd e
      obtain ⟨_, rfl, e⟩ := e
      refine s_iinc d_X6_init_85 g4 (w := (1 : Int32)) (by decide +kernel) (by decide) (fun L g4 gK => ?_)
      replace g0 := gK _ _ (by decide) (Or.inr (zrf_cat _)) g0
      replace g1 := gK _ _ (by decide) (Or.inr rfl) g1
      refine r_goto d_X6_init_88 (tgt := 63) (by decide) ?_
      exact ih _ _ _ _ _ _ g0 g1 g4 e

def f_X6_init (l0 : Nat) (l1 : Int32) (l2 : Nat) (l3 : Nat) (h : Hp) : Option Hp := ck (isO (h) (l0) 7) (ck (8 ≤ zn (h)) (bh (pN (h) 25 ((5 : Int32)).toNatClampNeg) (fun h3 => bh (pR (h3) 703 (l0) (zn (h))) (fun h4 => bh (pN (h4) 28 ((16 : Int32)).toNatClampNeg) (fun h5 => bh (pR (h5) 704 (l0) (zn (h4))) (fun h6 => bh (pN (h6) 20 ((16 : Int32)).toNatClampNeg) (fun h7 => bh (pR (h7) 705 (l0) (zn (h6))) (fun h8 => bh (pN (h8) 3 (kN 3)) (fun h9 => ck (isO (h9) (zn (h8)) 3) ((f_X2_init (zn (h8)) (h9)).bind (fun q10 => ck (isO (q10) (l0) 7) (bh (pR (q10) 706 (l0) (zn (h8))) (fun h13 => bh (pI (h13) 707 (l0) ((3 : Int32))) (fun h14 => bh (pI (h14) 700 (l0) (l1)) (fun h15 => bh (pR (h15) 701 (l0) (l2)) (fun h16 => bh (pR (h16) 702 (l0) (l3)) (fun h17 => f_X6_init_63 fz (l0) (l1) ((0 : Int32)) (h17))))))))))))))))))
theorem f_X6_init_ok {G : Gd} {d : Nat} (hj : 3 ≤ d) : ∀ (l0 : Nat) (l1 : Int32) (l2 : Nat) (l3 : Nat) (L : List (Nat × Value)) (h : Hp) (o : Hp), zlk L 0 = some (zrf (l0)) → zlk L 1 = some (.int (l1)) → zlk L 2 = some (zrf (l2)) → zlk L 3 = some (zrf (l3)) → f_X6_init l0 l1 l2 l3 h = some o → Ev G M_X6_init d 0 L [] h (Ret Y_X6_init none o) := by
  intro l0 l1 l2 l3 L h o g0 g1 g2 g3 e
  unfold f_X6_init at e
  refine g_ald_n d_X6_init_0 rfl g0 ?_
  replace e := ckd e
  obtain ⟨k1, e⟩ := e
  refine g_objInit k1 d_X6_init_1 (by decide +kernel) (by omega) (by simp [zrf_cat, cat_int, cat_long]) ?_
  refine g_ald_n d_X6_init_4 rfl g0 ?_
  refine r_iconst d_X6_init_5 (v := (5 : Int32)) (by decide +kernel) ?_
  replace e := ckd e
  obtain ⟨k2, e⟩ := e
  refine g_newq (t := 25) k2 d_X6_init_6 (by decide) (by decide) rfl (by decide +kernel) (by decide +kernel) (by decide +kernel) ?_
  replace e := bhd e
  obtain ⟨_, rfl, e⟩ := e
  refine g_putR d_X6_init_9 (f := 703) (tO_pN k1) fk_7_11 rfl (Or.inr ⟨rfl, rfl⟩) (Or.inr ⟨_, rfl⟩) ?_
  replace e := bhd e
  obtain ⟨_, rfl, e⟩ := e
  refine g_ald_n d_X6_init_12 rfl g0 ?_
  refine r_bipush d_X6_init_13 (v := (16 : Int32)) (by decide +kernel) ?_
  refine g_newq (t := 28) (t8_pR (t8_pN k2)) d_X6_init_15 (by decide) (by decide) rfl (by decide +kernel) (by decide +kernel) (by decide +kernel) ?_
  replace e := bhd e
  obtain ⟨_, rfl, e⟩ := e
  refine g_putR d_X6_init_18 (f := 704) (tO_pN (tO_pR (tO_pN k1))) fk_7_19 rfl (Or.inr ⟨rfl, rfl⟩) (Or.inr ⟨_, rfl⟩) ?_
  replace e := bhd e
  obtain ⟨_, rfl, e⟩ := e
  refine g_ald_n d_X6_init_21 rfl g0 ?_
  refine r_bipush d_X6_init_22 (v := (16 : Int32)) (by decide +kernel) ?_
  refine g_newa (t := 20) (t8_pR (t8_pN (t8_pR (t8_pN k2)))) d_X6_init_24 (by decide) (by decide) rfl (by decide +kernel) (by decide) (by decide +kernel) ?_
  replace e := bhd e
  obtain ⟨_, rfl, e⟩ := e
  refine g_putR d_X6_init_26 (f := 705) (tO_pN (tO_pR (tO_pN (tO_pR (tO_pN k1))))) fk_7_23 rfl (Or.inr ⟨rfl, rfl⟩) (Or.inr ⟨_, rfl⟩) ?_
  replace e := bhd e
  obtain ⟨_, rfl, e⟩ := e
  refine g_ald_n d_X6_init_29 rfl g0 ?_
  refine g_new (t8_pR (t8_pN (t8_pR (t8_pN (t8_pR (t8_pN k2)))))) d_X6_init_30 (i := 3) (by decide) (by decide) (by decide +kernel) ?_
  replace e := bhd e
  obtain ⟨_, rfl, e⟩ := e
  refine r_dup d_X6_init_33 (zrf_cat _) ?_
  replace e := ckd e
  obtain ⟨k11, e⟩ := e
  replace e := bd e
  obtain ⟨q10, eq10, e⟩ := e
  refine g_callN d_X6_init_34 nk_7_29 (as := []) rfl k11 rfl (by simp [zrf_cat, cat_int, cat_long]) (j := 1) (by omega) (c_X2_init (by omega) eq10) ?_
  replace e := ckd e
  obtain ⟨k12, e⟩ := e
  refine g_putR d_X6_init_37 (f := 706) k12 fk_7_30 rfl (Or.inr ⟨rfl, rfl⟩) (Or.inl ⟨_, rfl⟩) ?_
  replace e := bhd e
  obtain ⟨_, rfl, e⟩ := e
  refine g_ald_n d_X6_init_40 rfl g0 ?_
  refine r_iconst d_X6_init_41 (v := (3 : Int32)) (by decide +kernel) ?_
  refine g_putI d_X6_init_42 (f := 707) (tO_pR k12) fk_7_34 rfl (Or.inl rfl) ⟨rfl, rfl⟩ ?_
  replace e := bhd e
  obtain ⟨_, rfl, e⟩ := e
  refine g_ald_n d_X6_init_45 rfl g0 ?_
  refine r_iload_n d_X6_init_46 rfl g1 ?_
  refine g_putI d_X6_init_47 (f := 700) (tO_pI (tO_pR k12)) fk_7_38 rfl (Or.inr ⟨rfl, rfl⟩) ⟨rfl, rfl⟩ ?_
  replace e := bhd e
  obtain ⟨_, rfl, e⟩ := e
  refine g_ald_n d_X6_init_50 rfl g0 ?_
  refine g_ald_n d_X6_init_51 rfl g2 ?_
  refine g_putR d_X6_init_52 (f := 701) (tO_pI (tO_pI (tO_pR k12))) fk_7_41 rfl (Or.inr ⟨rfl, rfl⟩) (Or.inl ⟨_, rfl⟩) ?_
  replace e := bhd e
  obtain ⟨_, rfl, e⟩ := e
  refine g_ald_n d_X6_init_55 rfl g0 ?_
  refine g_ald_n d_X6_init_56 rfl g3 ?_
  refine g_putR d_X6_init_57 (f := 702) (tO_pR (tO_pI (tO_pI (tO_pR k12)))) fk_7_45 rfl (Or.inr ⟨rfl, rfl⟩) (Or.inr ⟨_, rfl⟩) ?_
  replace e := bhd e
  obtain ⟨_, rfl, e⟩ := e
  refine r_iconst d_X6_init_60 (v := (0 : Int32)) (by decide +kernel) ?_
  refine s_istore d_X6_init_61 (by decide) (fun L g4 gK => ?_)
  replace g0 := gK _ _ (by decide) (Or.inr (zrf_cat _)) g0
  replace g1 := gK _ _ (by decide) (Or.inr rfl) g1
  exact f_X6_init_63_ok hj _ _ _ _ _ _ _ g0 g1 g4 e

theorem c_X6_init {G : Gd} {j : Nat} (hj : 3 ≤ j) {l0 : Nat} {l1 : Int32} {l2 : Nat} {l3 : Nat} {h : Hp} {o : Hp} (e : f_X6_init l0 l1 l2 l3 h = some o) : Cal G j Y_X6_init [zrf (l0), .int (l1), zrf (l2), zrf (l3)] h none o := Cal.of (n := 0) (I := true) (by decide +kernel) (by decide) (by simp [lg_sl, zrf_cat, cat_int, cat_long]) (f_X6_init_ok hj _ _ _ _ _ h o (by simp [lv_args, zlk, zrf_cat, cat_int, cat_long]) (by simp [lv_args, zlk, zrf_cat, cat_int, cat_long]) (by simp [lv_args, zlk, zrf_cat, cat_int, cat_long]) (by simp [lv_args, zlk, zrf_cat, cat_int, cat_long]) e)
theorem fk_7_53 : Fk "TaskWeave$Shard" 53 708 := ⟨by decide, by decide, by decide +kernel⟩
def f_X6_works (l0 : Nat) (h : Hp) : Option (Int32 × Hp) := ck (isO (h) (l0) 7) (if (zI (h) 708 (l0)) = ((-1 : Int32)) then (some ((0 : Int32), h)) else (some ((1 : Int32), h)))
theorem f_X6_works_ok {G : Gd} {d : Nat} (hj : 1 ≤ d) : ∀ (l0 : Nat) (L : List (Nat × Value)) (h : Hp) (o : (Int32 × Hp)), zlk L 0 = some (zrf (l0)) → f_X6_works l0 h = some o → Ev G M_X6_works d 0 L [] h (Ret Y_X6_works (some (.int o.1)) o.2) := by
  intro l0 L h o g0 e
  unfold f_X6_works at e
  refine g_ald_n d_X6_works_0 rfl g0 ?_
  replace e := ckd e
  obtain ⟨k1, e⟩ := e
  refine g_getI d_X6_works_1 (f := 708) k1 fk_7_53 rfl rfl ?_
  refine r_iconst d_X6_works_4 (v := (-1 : Int32)) (by decide +kernel) ?_
  refine r_icmp_eq d_X6_works_5 (tgt := 12) (by decide) (fun c2 => ?_) (fun c2 => ?_)
  · replace e := (if_pos c2).symm.trans e
    refine r_iconst d_X6_works_12 (v := (0 : Int32)) (by decide +kernel) ?_
    cases e
    exact g_iret d_X6_works_13 rfl rfl
  · replace e := (if_neg c2).symm.trans e
    refine r_iconst d_X6_works_8 (v := (1 : Int32)) (by decide +kernel) ?_
    refine r_goto d_X6_works_9 (tgt := 13) (by decide) ?_
    cases e
    exact g_iret d_X6_works_13 rfl rfl

theorem c_X6_works {G : Gd} {j : Nat} (hj : 1 ≤ j) {l0 : Nat} {h : Hp} {o : (Int32 × Hp)} (e : f_X6_works l0 h = some o) : Cal G j Y_X6_works [zrf (l0)] h (some (.int o.1)) o.2 := Cal.of (n := 0) (I := false) (by decide +kernel) (by decide) (by simp [lg_sl, zrf_cat, cat_int, cat_long]) (f_X6_works_ok hj _ _ h o (by simp [lv_args, zlk, zrf_cat, cat_int, cat_long]) e)
theorem fk_7_56 : Fk "TaskWeave$Shard" 56 710 := ⟨by decide, by decide, by decide +kernel⟩
def f_X6_row (l0 : Nat) (l1 : Int32) (h : Hp) : Option (Nat × Hp) := if (l1) < (0) then (some (0, h)) else (ck (isO (h) (l0) 7) (if (zI (h) 710 (l0)) ≤ (l1) then (some (0, h)) else (ck (isO (h) (zR (h) 704 (l0)) 28) (ck (inR (l1) (zL (h) (zR (h) 704 (l0)))) (some (zQ (h) (zR (h) 704 (l0)) (l1).toNatClampNeg, h))))))
theorem f_X6_row_ok {G : Gd} {d : Nat} (hj : 1 ≤ d) : ∀ (l0 : Nat) (l1 : Int32) (L : List (Nat × Value)) (h : Hp) (o : (Nat × Hp)), zlk L 0 = some (zrf (l0)) → zlk L 1 = some (.int (l1)) → f_X6_row l0 l1 h = some o → Ev G M_X6_row d 0 L [] h (Ret Y_X6_row (some (zrf o.1)) o.2) := by
  intro l0 l1 L h o g0 g1 e
  unfold f_X6_row at e
  refine r_iload_n d_X6_row_0 rfl g1 ?_
  refine r_if_lt d_X6_row_1 (tgt := 21) (by decide) (fun c1 => ?_) (fun c1 => ?_)
  · replace e := (if_pos c1).symm.trans e
    refine g_null d_X6_row_21 ?_
    cases e
    exact g_aret d_X6_row_22 rfl (Or.inl ⟨_, rfl⟩)
  · replace e := (if_neg c1).symm.trans e
    refine r_iload_n d_X6_row_4 rfl g1 ?_
    refine g_ald_n d_X6_row_5 rfl g0 ?_
    replace e := ckd e
    obtain ⟨k2, e⟩ := e
    refine g_getI d_X6_row_6 (f := 710) k2 fk_7_56 rfl rfl ?_
    refine r_icmp_ge d_X6_row_9 (tgt := 21) (by decide) (fun c3 => ?_) (fun c3 => ?_)
    · replace e := (if_pos c3).symm.trans e
      refine g_null d_X6_row_21 ?_
      cases e
      exact g_aret d_X6_row_22 rfl (Or.inl ⟨_, rfl⟩)
    · replace e := (if_neg c3).symm.trans e
      refine g_ald_n d_X6_row_12 rfl g0 ?_
      refine g_getR d_X6_row_13 (f := 704) k2 fk_7_19 rfl rfl ?_
      refine r_iload_n d_X6_row_16 rfl g1 ?_
      replace e := ckd e
      obtain ⟨k4, e⟩ := e
      replace e := ckd e
      obtain ⟨k5, e⟩ := e
      refine g_aald d_X6_row_17 k4 (by decide) (by decide) k5 rfl ?_
      refine r_goto d_X6_row_18 (tgt := 22) (by decide) ?_
      cases e
      exact g_aret d_X6_row_22 rfl (Or.inl ⟨_, rfl⟩)

theorem c_X6_row {G : Gd} {j : Nat} (hj : 1 ≤ j) {l0 : Nat} {l1 : Int32} {h : Hp} {o : (Nat × Hp)} (e : f_X6_row l0 l1 h = some o) : Cal G j Y_X6_row [zrf (l0), .int (l1)] h (some (zrf o.1)) o.2 := Cal.of (n := 0) (I := false) (by decide +kernel) (by decide) (by simp [lg_sl, zrf_cat, cat_int, cat_long]) (f_X6_row_ok hj _ _ _ h o (by simp [lv_args, zlk, zrf_cat, cat_int, cat_long]) (by simp [lv_args, zlk, zrf_cat, cat_int, cat_long]) e)
theorem fk_7_59 : Fk "TaskWeave$Shard" 59 1002 := ⟨by decide, by decide, by decide +kernel⟩
theorem fk_7_63 : Fk "TaskWeave$Shard" 63 203 := ⟨by decide, by decide, by decide +kernel⟩
def f_X6_rowWithOrigin_2 : Nat → Nat → Int32 → Int32 → Hp → Option (Nat × Hp)
  | 0, _, _, _, _ => none
  | n + 1, l0, l1, l2, h => ck (isO (h) (l0) 7) (if (zI (h) 710 (l0)) ≤ (l2) then (some (0, h)) else (ck (isO (h) (zR (h) 704 (l0)) 28) (ck (inR (l2) (zL (h) (zR (h) 704 (l0)))) (ck (isO (h) (zQ (h) (zR (h) 704 (l0)) (l2).toNatClampNeg) 10) (ck (isO (h) (zR (h) 1002 (zQ (h) (zR (h) 704 (l0)) (l2).toNatClampNeg)) 2) (ck (isO (h) (zR (h) 203 (zR (h) 1002 (zQ (h) (zR (h) 704 (l0)) (l2).toNatClampNeg))) 22) (ck (inR ((0 : Int32)) (zL (h) (zR (h) 203 (zR (h) 1002 (zQ (h) (zR (h) 704 (l0)) (l2).toNatClampNeg))))) (if (zE (h) (zR (h) 203 (zR (h) 1002 (zQ (h) (zR (h) 704 (l0)) (l2).toNatClampNeg))) ((0 : Int32)).toNatClampNeg) = (l1) then (some (zQ (h) (zR (h) 704 (l0)) (l2).toNatClampNeg, h)) else (bh ((l2) + (1 : Int32)) (fun x10 => f_X6_rowWithOrigin_2 n (l0) (l1) (x10) (h)))))))))))
theorem f_X6_rowWithOrigin_2_ok {G : Gd} {d : Nat} (hj : 1 ≤ d) : ∀ (n : Nat) (l0 : Nat) (l1 : Int32) (l2 : Int32) (L : List (Nat × Value)) (h : Hp) (o : (Nat × Hp)), zlk L 0 = some (zrf (l0)) → zlk L 1 = some (.int (l1)) → zlk L 2 = some (.int (l2)) → f_X6_rowWithOrigin_2 n l0 l1 l2 h = some o → Ev G M_X6_rowWithOrigin d 2 L [] h (Ret Y_X6_rowWithOrigin (some (zrf o.1)) o.2) := by
  intro n
  induction n with
  | zero =>
    intro l0 l1 l2 L h o g0 g1 g2 e
    cases e
  | succ n ih =>
    intro l0 l1 l2 L h o g0 g1 g2 e
    unfold f_X6_rowWithOrigin_2 at e
    refine r_iload_n d_X6_rowWithOrigin_2 rfl g2 ?_
    refine g_ald_n d_X6_rowWithOrigin_3 rfl g0 ?_
    replace e := ckd e
    obtain ⟨k1, e⟩ := e
    refine g_getI d_X6_rowWithOrigin_4 (f := 710) k1 fk_7_56 rfl rfl ?_
    refine r_icmp_ge d_X6_rowWithOrigin_7 (tgt := 41) (by decide) (fun c2 => ?_) (fun c2 => ?_)
    · replace e := (if_pos c2).symm.trans e
      refine g_null d_X6_rowWithOrigin_41 ?_
      cases e
      exact g_aret d_X6_rowWithOrigin_42 rfl (Or.inl ⟨_, rfl⟩)
    · replace e := (if_neg c2).symm.trans e
      refine g_ald_n d_X6_rowWithOrigin_10 rfl g0 ?_
      refine g_getR d_X6_rowWithOrigin_11 (f := 704) k1 fk_7_19 rfl rfl ?_
      refine r_iload_n d_X6_rowWithOrigin_14 rfl g2 ?_
      replace e := ckd e
      obtain ⟨k3, e⟩ := e
      replace e := ckd e
      obtain ⟨k4, e⟩ := e
      refine g_aald d_X6_rowWithOrigin_15 k3 (by decide) (by decide) k4 rfl ?_
      replace e := ckd e
      obtain ⟨k5, e⟩ := e
      refine g_getR d_X6_rowWithOrigin_16 (f := 1002) k5 fk_7_59 rfl rfl ?_
      replace e := ckd e
      obtain ⟨k6, e⟩ := e
      refine g_getR d_X6_rowWithOrigin_19 (f := 203) k6 fk_7_63 rfl rfl ?_
      refine r_iconst d_X6_rowWithOrigin_22 (v := (0 : Int32)) (by decide +kernel) ?_
      replace e := ckd e
      obtain ⟨k7, e⟩ := e
      replace e := ckd e
      obtain ⟨k8, e⟩ := e
      refine g_iald d_X6_rowWithOrigin_23 k7 k8 rfl ?_
      refine r_iload_n d_X6_rowWithOrigin_24 rfl g1 ?_
      refine r_icmp_ne d_X6_rowWithOrigin_25 (tgt := 35) (by decide) (fun c9 => ?_) (fun c9 => ?_)
      · replace e := (if_neg c9).symm.trans e
        replace e := bhd e
        obtain ⟨_, rfl, e⟩ := e
        refine s_iinc d_X6_rowWithOrigin_35 g2 (w := (1 : Int32)) (by decide +kernel) (by decide) (fun L g2 gK => ?_)
        replace g0 := gK _ _ (by decide) (Or.inr (zrf_cat _)) g0
        replace g1 := gK _ _ (by decide) (Or.inr rfl) g1
        refine r_goto d_X6_rowWithOrigin_38 (tgt := 2) (by decide) ?_
        exact ih _ _ _ _ _ _ g0 g1 g2 e
      · replace e := (if_pos c9).symm.trans e
        refine g_ald_n d_X6_rowWithOrigin_28 rfl g0 ?_
        refine g_getR d_X6_rowWithOrigin_29 (f := 704) k1 fk_7_19 rfl rfl ?_
        refine r_iload_n d_X6_rowWithOrigin_32 rfl g2 ?_
        refine g_aald d_X6_rowWithOrigin_33 k3 (by decide) (by decide) k4 rfl ?_
        cases e
        exact g_aret d_X6_rowWithOrigin_34 rfl (Or.inl ⟨_, rfl⟩)

def f_X6_rowWithOrigin (l0 : Nat) (l1 : Int32) (h : Hp) : Option (Nat × Hp) := f_X6_rowWithOrigin_2 fz (l0) (l1) ((0 : Int32)) (h)
theorem f_X6_rowWithOrigin_ok {G : Gd} {d : Nat} (hj : 1 ≤ d) : ∀ (l0 : Nat) (l1 : Int32) (L : List (Nat × Value)) (h : Hp) (o : (Nat × Hp)), zlk L 0 = some (zrf (l0)) → zlk L 1 = some (.int (l1)) → f_X6_rowWithOrigin l0 l1 h = some o → Ev G M_X6_rowWithOrigin d 0 L [] h (Ret Y_X6_rowWithOrigin (some (zrf o.1)) o.2) := by
  intro l0 l1 L h o g0 g1 e
  unfold f_X6_rowWithOrigin at e
  refine r_iconst d_X6_rowWithOrigin_0 (v := (0 : Int32)) (by decide +kernel) ?_
  refine s_istore_n d_X6_rowWithOrigin_1 rfl (by decide) (fun L g2 gK => ?_)
  replace g0 := gK _ _ (by decide) (Or.inr (zrf_cat _)) g0
  replace g1 := gK _ _ (by decide) (Or.inr rfl) g1
  exact f_X6_rowWithOrigin_2_ok hj _ _ _ _ _ _ _ g0 g1 g2 e

theorem c_X6_rowWithOrigin {G : Gd} {j : Nat} (hj : 1 ≤ j) {l0 : Nat} {l1 : Int32} {h : Hp} {o : (Nat × Hp)} (e : f_X6_rowWithOrigin l0 l1 h = some o) : Cal G j Y_X6_rowWithOrigin [zrf (l0), .int (l1)] h (some (zrf o.1)) o.2 := Cal.of (n := 0) (I := false) (by decide +kernel) (by decide) (by simp [lg_sl, zrf_cat, cat_int, cat_long]) (f_X6_rowWithOrigin_ok hj _ _ _ h o (by simp [lv_args, zlk, zrf_cat, cat_int, cat_long]) (by simp [lv_args, zlk, zrf_cat, cat_int, cat_long]) e)
theorem fk_7_69 : Fk "TaskWeave$Shard" 69 602 := ⟨by decide, by decide, by decide +kernel⟩
def f_X6_records (l0 : Nat) (h : Hp) : Option (Int32 × Hp) := ck (isO (h) (l0) 7) (if (zI (h) 708 (l0)) = ((-1 : Int32)) then (some ((0 : Int32), h)) else (ck (isO (h) (zR (h) 703 (l0)) 25) (ck (inR (zI (h) 708 (l0)) (zL (h) (zR (h) 703 (l0)))) (ck (isO (h) (zQ (h) (zR (h) 703 (l0)) (zI (h) 708 (l0)).toNatClampNeg) 6) (some ((zI (h) 602 (zQ (h) (zR (h) 703 (l0)) (zI (h) 708 (l0)).toNatClampNeg)) / ((16 : Int32)), h))))))
theorem f_X6_records_ok {G : Gd} {d : Nat} (hj : 1 ≤ d) : ∀ (l0 : Nat) (L : List (Nat × Value)) (h : Hp) (o : (Int32 × Hp)), zlk L 0 = some (zrf (l0)) → f_X6_records l0 h = some o → Ev G M_X6_records d 0 L [] h (Ret Y_X6_records (some (.int o.1)) o.2) := by
  intro l0 L h o g0 e
  unfold f_X6_records at e
  refine g_ald_n d_X6_records_0 rfl g0 ?_
  replace e := ckd e
  obtain ⟨k1, e⟩ := e
  refine g_getI d_X6_records_1 (f := 708) k1 fk_7_53 rfl rfl ?_
  refine r_iconst d_X6_records_4 (v := (-1 : Int32)) (by decide +kernel) ?_
  refine r_icmp_ne d_X6_records_5 (tgt := 12) (by decide) (fun c2 => ?_) (fun c2 => ?_)
  · replace e := (if_neg c2).symm.trans e
    refine g_ald_n d_X6_records_12 rfl g0 ?_
    refine g_getR d_X6_records_13 (f := 703) k1 fk_7_11 rfl rfl ?_
    refine g_ald_n d_X6_records_16 rfl g0 ?_
    refine g_getI d_X6_records_17 (f := 708) k1 fk_7_53 rfl rfl ?_
    replace e := ckd e
    obtain ⟨k3, e⟩ := e
    replace e := ckd e
    obtain ⟨k4, e⟩ := e
    refine g_aald d_X6_records_20 k3 (by decide) (by decide) k4 rfl ?_
    replace e := ckd e
    obtain ⟨k5, e⟩ := e
    refine g_getI d_X6_records_21 (f := 602) k5 fk_7_69 rfl rfl ?_
    refine r_bipush d_X6_records_24 (v := (16 : Int32)) (by decide +kernel) ?_
    refine r_idiv d_X6_records_26 (by decide +kernel) ?_
    cases e
    exact g_iret d_X6_records_27 rfl rfl
  · replace e := (if_pos c2).symm.trans e
    refine r_iconst d_X6_records_8 (v := (0 : Int32)) (by decide +kernel) ?_
    refine r_goto d_X6_records_9 (tgt := 27) (by decide) ?_
    cases e
    exact g_iret d_X6_records_27 rfl rfl

theorem c_X6_records {G : Gd} {j : Nat} (hj : 1 ≤ j) {l0 : Nat} {h : Hp} {o : (Int32 × Hp)} (e : f_X6_records l0 h = some o) : Cal G j Y_X6_records [zrf (l0)] h (some (.int o.1)) o.2 := Cal.of (n := 0) (I := false) (by decide +kernel) (by decide) (by simp [lg_sl, zrf_cat, cat_int, cat_long]) (f_X6_records_ok hj _ _ h o (by simp [lv_args, zlk, zrf_cat, cat_int, cat_long]) e)
theorem fk_0_48 : Fk "java/util/ArrayList" 48 2 := ⟨by decide, by decide, by decide +kernel⟩
def f_Jx4a65c_isEmpty_aae02 (l0 : Nat) (h : Hp) : Option (Int32 × Hp) := ck (isO (h) (l0) 0) (if (zI (h) 2 (l0)) = (0) then (some ((1 : Int32), h)) else (some ((0 : Int32), h)))
theorem f_Jx4a65c_isEmpty_aae02_ok {G : Gd} {d : Nat} (hj : 1 ≤ d) : ∀ (l0 : Nat) (L : List (Nat × Value)) (h : Hp) (o : (Int32 × Hp)), zlk L 0 = some (zrf (l0)) → f_Jx4a65c_isEmpty_aae02 l0 h = some o → Ev G M_Jx4a65c_isEmpty_aae02 d 0 L [] h (Ret Y_Jx4a65c_isEmpty_aae02 (some (.int o.1)) o.2) := by
  intro l0 L h o g0 e
  unfold f_Jx4a65c_isEmpty_aae02 at e
  refine g_ald_n d_Jx4a65c_isEmpty_aae02_0 rfl g0 ?_
  replace e := ckd e
  obtain ⟨k1, e⟩ := e
  refine g_getI d_Jx4a65c_isEmpty_aae02_1 (f := 2) k1 fk_0_48 rfl rfl ?_
  refine r_if_ne d_Jx4a65c_isEmpty_aae02_4 (tgt := 11) (by decide) (fun c2 => ?_) (fun c2 => ?_)
  · replace e := (if_neg c2).symm.trans e
    refine r_iconst d_Jx4a65c_isEmpty_aae02_11 (v := (0 : Int32)) (by decide +kernel) ?_
    cases e
    exact g_iret d_Jx4a65c_isEmpty_aae02_12 rfl rfl
  · replace e := (if_pos c2).symm.trans e
    refine r_iconst d_Jx4a65c_isEmpty_aae02_7 (v := (1 : Int32)) (by decide +kernel) ?_
    refine r_goto d_Jx4a65c_isEmpty_aae02_8 (tgt := 12) (by decide) ?_
    cases e
    exact g_iret d_Jx4a65c_isEmpty_aae02_12 rfl rfl

theorem c_Jx4a65c_isEmpty_aae02 {G : Gd} {j : Nat} (hj : 1 ≤ j) {l0 : Nat} {h : Hp} {o : (Int32 × Hp)} (e : f_Jx4a65c_isEmpty_aae02 l0 h = some o) : Cal G j Y_Jx4a65c_isEmpty_aae02 [zrf (l0)] h (some (.int o.1)) o.2 := Cal.of (n := 0) (I := false) (by decide +kernel) (by decide) (by simp [lg_sl, zrf_cat, cat_int, cat_long]) (f_Jx4a65c_isEmpty_aae02_ok hj _ _ h o (by simp [lv_args, zlk, zrf_cat, cat_int, cat_long]) e)
theorem fk_7_70 : Fk "TaskWeave$Shard" 70 800 := ⟨by decide, by decide, by decide +kernel⟩
theorem vk_7_76 : Vk "TaskWeave$Shard" 76 0 0 Y_Jx4a65c_isEmpty_aae02 := ⟨yk_Jx4a65c_isEmpty_aae02, by decide +kernel, by decide +kernel, by decide +kernel, by decide⟩
def f_X6_hasRoomFor (l0 : Nat) (l1 : Int32) (h : Hp) : Option (Int32 × Hp) := ck (isO (h) (l0) 7) (if ((16 : Int32)) ≤ (zI (h) 710 (l0)) then (some ((0 : Int32), h)) else (if (l1) < (0) then (some ((0 : Int32), h)) else (if ((8 : Int32)) ≤ (l1) then (some ((0 : Int32), h)) else (ck (isO (h) (zR (h) 702 (l0)) 27) (ck (inR (l1) (zL (h) (zR (h) 702 (l0)))) (ck (isO (h) (zQ (h) (zR (h) 702 (l0)) (l1).toNatClampNeg) 8) (ck (isO (h) (zR (h) 800 (zQ (h) (zR (h) 702 (l0)) (l1).toNatClampNeg)) 0) ((f_Jx4a65c_isEmpty_aae02 (zR (h) 800 (zQ (h) (zR (h) 702 (l0)) (l1).toNatClampNeg)) (h)).bind (fun q8 => if (q8.1) = (0) then (some ((1 : Int32), q8.2)) else (some ((0 : Int32), q8.2)))))))))))
theorem f_X6_hasRoomFor_ok {G : Gd} {d : Nat} (hj : 2 ≤ d) : ∀ (l0 : Nat) (l1 : Int32) (L : List (Nat × Value)) (h : Hp) (o : (Int32 × Hp)), zlk L 0 = some (zrf (l0)) → zlk L 1 = some (.int (l1)) → f_X6_hasRoomFor l0 l1 h = some o → Ev G M_X6_hasRoomFor d 0 L [] h (Ret Y_X6_hasRoomFor (some (.int o.1)) o.2) := by
  intro l0 l1 L h o g0 g1 e
  unfold f_X6_hasRoomFor at e
  refine g_ald_n d_X6_hasRoomFor_0 rfl g0 ?_
  replace e := ckd e
  obtain ⟨k1, e⟩ := e
  refine g_getI d_X6_hasRoomFor_1 (f := 710) k1 fk_7_56 rfl rfl ?_
  refine r_bipush d_X6_hasRoomFor_4 (v := (16 : Int32)) (by decide +kernel) ?_
  refine r_icmp_ge d_X6_hasRoomFor_6 (tgt := 38) (by decide) (fun c2 => ?_) (fun c2 => ?_)
  · replace e := (if_pos c2).symm.trans e
    refine r_iconst d_X6_hasRoomFor_38 (v := (0 : Int32)) (by decide +kernel) ?_
    cases e
    exact g_iret d_X6_hasRoomFor_39 rfl rfl
  · replace e := (if_neg c2).symm.trans e
    refine r_iload_n d_X6_hasRoomFor_9 rfl g1 ?_
    refine r_if_lt d_X6_hasRoomFor_10 (tgt := 38) (by decide) (fun c3 => ?_) (fun c3 => ?_)
    · replace e := (if_pos c3).symm.trans e
      refine r_iconst d_X6_hasRoomFor_38 (v := (0 : Int32)) (by decide +kernel) ?_
      cases e
      exact g_iret d_X6_hasRoomFor_39 rfl rfl
    · replace e := (if_neg c3).symm.trans e
      refine r_iload_n d_X6_hasRoomFor_13 rfl g1 ?_
      refine r_bipush d_X6_hasRoomFor_14 (v := (8 : Int32)) (by decide +kernel) ?_
      refine r_icmp_ge d_X6_hasRoomFor_16 (tgt := 38) (by decide) (fun c4 => ?_) (fun c4 => ?_)
      · replace e := (if_pos c4).symm.trans e
        refine r_iconst d_X6_hasRoomFor_38 (v := (0 : Int32)) (by decide +kernel) ?_
        cases e
        exact g_iret d_X6_hasRoomFor_39 rfl rfl
      · replace e := (if_neg c4).symm.trans e
        refine g_ald_n d_X6_hasRoomFor_19 rfl g0 ?_
        refine g_getR d_X6_hasRoomFor_20 (f := 702) k1 fk_7_45 rfl rfl ?_
        refine r_iload_n d_X6_hasRoomFor_23 rfl g1 ?_
        replace e := ckd e
        obtain ⟨k5, e⟩ := e
        replace e := ckd e
        obtain ⟨k6, e⟩ := e
        refine g_aald d_X6_hasRoomFor_24 k5 (by decide) (by decide) k6 rfl ?_
        replace e := ckd e
        obtain ⟨k7, e⟩ := e
        refine g_getR d_X6_hasRoomFor_25 (f := 800) k7 fk_7_70 rfl rfl ?_
        replace e := ckd e
        obtain ⟨k9, e⟩ := e
        replace e := bd e
        obtain ⟨q8, eq8, e⟩ := e
        refine g_callV d_X6_hasRoomFor_28 vk_7_76 (as := []) rfl k9 rfl (by simp [zrf_cat, cat_int, cat_long]) (j := 1) (by omega) (c_Jx4a65c_isEmpty_aae02 (by omega) eq8) ?_
        refine r_if_ne d_X6_hasRoomFor_31 (tgt := 38) (by decide) (fun c10 => ?_) (fun c10 => ?_)
        · replace e := (if_neg c10).symm.trans e
          refine r_iconst d_X6_hasRoomFor_38 (v := (0 : Int32)) (by decide +kernel) ?_
          cases e
          exact g_iret d_X6_hasRoomFor_39 rfl rfl
        · replace e := (if_pos c10).symm.trans e
          refine r_iconst d_X6_hasRoomFor_34 (v := (1 : Int32)) (by decide +kernel) ?_
          refine r_goto d_X6_hasRoomFor_35 (tgt := 39) (by decide) ?_
          cases e
          exact g_iret d_X6_hasRoomFor_39 rfl rfl

theorem c_X6_hasRoomFor {G : Gd} {j : Nat} (hj : 2 ≤ j) {l0 : Nat} {l1 : Int32} {h : Hp} {o : (Int32 × Hp)} (e : f_X6_hasRoomFor l0 l1 h = some o) : Cal G j Y_X6_hasRoomFor [zrf (l0), .int (l1)] h (some (.int o.1)) o.2 := Cal.of (n := 0) (I := false) (by decide +kernel) (by decide) (by simp [lg_sl, zrf_cat, cat_int, cat_long]) (f_X6_hasRoomFor_ok hj _ _ _ h o (by simp [lv_args, zlk, zrf_cat, cat_int, cat_long]) (by simp [lv_args, zlk, zrf_cat, cat_int, cat_long]) e)
theorem fk_7_82 : Fk "TaskWeave$Shard" 82 1007 := ⟨by decide, by decide, by decide +kernel⟩
theorem fk_7_85 : Fk "TaskWeave$Shard" 85 1003 := ⟨by decide, by decide, by decide +kernel⟩
theorem fk_7_89 : Fk "TaskWeave$Shard" 89 904 := ⟨by decide, by decide, by decide +kernel⟩
def f_X6_countTasks_61 (K4 : Nat → Int32 → Int32 → Int32 → Hp → Option (Int32 × Hp)) (s0 : Int32) (s1 : Int32) (l0 : Nat) (l1 : Int32) (l3 : Int32) (h : Hp) : Option (Int32 × Hp) := bh ((s0) + (s1)) (fun x11 => bh ((l3) + (1 : Int32)) (fun x12 => K4 (l0) (l1) (x11) (x12) (h)))
theorem f_X6_countTasks_61_ok {G : Gd} {d : Nat} (K4 : Nat → Int32 → Int32 → Int32 → Hp → Option (Int32 × Hp)) (hj : 1 ≤ d) (hK4 : ∀ (l0 : Nat) (l1 : Int32) (l2 : Int32) (l3 : Int32) (L : List (Nat × Value)) (h : Hp) (o : (Int32 × Hp)), zlk L 0 = some (zrf (l0)) → zlk L 1 = some (.int (l1)) → zlk L 2 = some (.int (l2)) → zlk L 3 = some (.int (l3)) → K4 l0 l1 l2 l3 h = some o → Ev G M_X6_countTasks d 4 L [] h (Ret Y_X6_countTasks (some (.int o.1)) o.2)) : ∀ (s0 : Int32) (s1 : Int32) (l0 : Nat) (l1 : Int32) (l3 : Int32) (L : List (Nat × Value)) (h : Hp) (o : (Int32 × Hp)), zlk L 0 = some (zrf (l0)) → zlk L 1 = some (.int (l1)) → zlk L 3 = some (.int (l3)) → f_X6_countTasks_61 K4 s0 s1 l0 l1 l3 h = some o → Ev G M_X6_countTasks d 61 L [.int (s1), .int (s0)] h (Ret Y_X6_countTasks (some (.int o.1)) o.2) := by
  intro s0 s1 l0 l1 l3 L h o g0 g1 g3 e
  unfold f_X6_countTasks_61 at e
  refine r_iadd d_X6_countTasks_61 ?_
  replace e := bhd e
  obtain ⟨_, rfl, e⟩ := e
  refine s_istore_n d_X6_countTasks_62 rfl (by decide) (fun L g2 gK => ?_)
  replace g0 := gK _ _ (by decide) (Or.inr (zrf_cat _)) g0
  replace g1 := gK _ _ (by decide) (Or.inr rfl) g1
  replace g3 := gK _ _ (by decide) (Or.inr rfl) g3
  replace e := bhd e
  obtain ⟨_, rfl, e⟩ := e
  refine s_iinc d_X6_countTasks_63 g3 (w := (1 : Int32)) (by decide +kernel) (by decide) (fun L g3 gK => ?_)
  replace g0 := gK _ _ (by decide) (Or.inr (zrf_cat _)) g0
  replace g1 := gK _ _ (by decide) (Or.inr rfl) g1
  replace g2 := gK _ _ (by decide) (Or.inr rfl) g2
  refine r_goto d_X6_countTasks_66 (tgt := 4) (by decide) ?_
  exact hK4 _ _ _ _ _ _ _ g0 g1 g2 g3 e

def f_X6_countTasks_48 (K4 : Nat → Int32 → Int32 → Int32 → Hp → Option (Int32 × Hp)) (s0 : Int32) (l0 : Nat) (l1 : Int32) (l2 : Int32) (l3 : Int32) (h : Hp) : Option (Int32 × Hp) := if (s0) = (0) then (f_X6_countTasks_61 K4 (l2) ((0 : Int32)) (l0) (l1) (l3) (h)) else (f_X6_countTasks_61 K4 (l2) ((1 : Int32)) (l0) (l1) (l3) (h))
theorem f_X6_countTasks_48_ok {G : Gd} {d : Nat} (K4 : Nat → Int32 → Int32 → Int32 → Hp → Option (Int32 × Hp)) (hj : 1 ≤ d) (hK4 : ∀ (l0 : Nat) (l1 : Int32) (l2 : Int32) (l3 : Int32) (L : List (Nat × Value)) (h : Hp) (o : (Int32 × Hp)), zlk L 0 = some (zrf (l0)) → zlk L 1 = some (.int (l1)) → zlk L 2 = some (.int (l2)) → zlk L 3 = some (.int (l3)) → K4 l0 l1 l2 l3 h = some o → Ev G M_X6_countTasks d 4 L [] h (Ret Y_X6_countTasks (some (.int o.1)) o.2)) : ∀ (s0 : Int32) (l0 : Nat) (l1 : Int32) (l2 : Int32) (l3 : Int32) (L : List (Nat × Value)) (h : Hp) (o : (Int32 × Hp)), zlk L 0 = some (zrf (l0)) → zlk L 1 = some (.int (l1)) → zlk L 2 = some (.int (l2)) → zlk L 3 = some (.int (l3)) → f_X6_countTasks_48 K4 s0 l0 l1 l2 l3 h = some o → Ev G M_X6_countTasks d 48 L [.int (s0)] h (Ret Y_X6_countTasks (some (.int o.1)) o.2) := by
  intro s0 l0 l1 l2 l3 L h o g0 g1 g2 g3 e
  unfold f_X6_countTasks_48 at e
  refine s_istore d_X6_countTasks_48 (by decide) (fun L g4 gK => ?_)
  replace g0 := gK _ _ (by decide) (Or.inr (zrf_cat _)) g0
  replace g1 := gK _ _ (by decide) (Or.inr rfl) g1
  replace g2 := gK _ _ (by decide) (Or.inr rfl) g2
  replace g3 := gK _ _ (by decide) (Or.inr rfl) g3
  refine r_iload_n d_X6_countTasks_50 rfl g2 ?_
  refine r_iload d_X6_countTasks_51 g4 ?_
  refine r_if_eq d_X6_countTasks_53 (tgt := 60) (by decide) (fun c10 => ?_) (fun c10 => ?_)
  · replace e := (if_pos c10).symm.trans e
    refine r_iconst d_X6_countTasks_60 (v := (0 : Int32)) (by decide +kernel) ?_
    exact f_X6_countTasks_61_ok _ hj hK4 _ _ _ _ _ _ _ _ g0 g1 g3 e
  · replace e := (if_neg c10).symm.trans e
    refine r_iconst d_X6_countTasks_56 (v := (1 : Int32)) (by decide +kernel) ?_
    refine r_goto d_X6_countTasks_57 (tgt := 61) (by decide) ?_
    exact f_X6_countTasks_61_ok _ hj hK4 _ _ _ _ _ _ _ _ g0 g1 g3 e

def f_X6_countTasks_43 (K4 : Nat → Int32 → Int32 → Int32 → Hp → Option (Int32 × Hp)) (l0 : Nat) (l1 : Int32) (l2 : Int32) (l3 : Int32) (h : Hp) : Option (Int32 × Hp) := f_X6_countTasks_48 K4 ((1 : Int32)) (l0) (l1) (l2) (l3) (h)
theorem f_X6_countTasks_43_ok {G : Gd} {d : Nat} (K4 : Nat → Int32 → Int32 → Int32 → Hp → Option (Int32 × Hp)) (hj : 1 ≤ d) (hK4 : ∀ (l0 : Nat) (l1 : Int32) (l2 : Int32) (l3 : Int32) (L : List (Nat × Value)) (h : Hp) (o : (Int32 × Hp)), zlk L 0 = some (zrf (l0)) → zlk L 1 = some (.int (l1)) → zlk L 2 = some (.int (l2)) → zlk L 3 = some (.int (l3)) → K4 l0 l1 l2 l3 h = some o → Ev G M_X6_countTasks d 4 L [] h (Ret Y_X6_countTasks (some (.int o.1)) o.2)) : ∀ (l0 : Nat) (l1 : Int32) (l2 : Int32) (l3 : Int32) (L : List (Nat × Value)) (h : Hp) (o : (Int32 × Hp)), zlk L 0 = some (zrf (l0)) → zlk L 1 = some (.int (l1)) → zlk L 2 = some (.int (l2)) → zlk L 3 = some (.int (l3)) → f_X6_countTasks_43 K4 l0 l1 l2 l3 h = some o → Ev G M_X6_countTasks d 43 L [] h (Ret Y_X6_countTasks (some (.int o.1)) o.2) := by
  intro l0 l1 l2 l3 L h o g0 g1 g2 g3 e
  unfold f_X6_countTasks_43 at e
  refine r_iconst d_X6_countTasks_43 (v := (1 : Int32)) (by decide +kernel) ?_
  refine r_goto d_X6_countTasks_44 (tgt := 48) (by decide) ?_
  exact f_X6_countTasks_48_ok _ hj hK4 _ _ _ _ _ _ _ _ g0 g1 g2 g3 e

def f_X6_countTasks_47 (K4 : Nat → Int32 → Int32 → Int32 → Hp → Option (Int32 × Hp)) (l0 : Nat) (l1 : Int32) (l2 : Int32) (l3 : Int32) (h : Hp) : Option (Int32 × Hp) := f_X6_countTasks_48 K4 ((0 : Int32)) (l0) (l1) (l2) (l3) (h)
theorem f_X6_countTasks_47_ok {G : Gd} {d : Nat} (K4 : Nat → Int32 → Int32 → Int32 → Hp → Option (Int32 × Hp)) (hj : 1 ≤ d) (hK4 : ∀ (l0 : Nat) (l1 : Int32) (l2 : Int32) (l3 : Int32) (L : List (Nat × Value)) (h : Hp) (o : (Int32 × Hp)), zlk L 0 = some (zrf (l0)) → zlk L 1 = some (.int (l1)) → zlk L 2 = some (.int (l2)) → zlk L 3 = some (.int (l3)) → K4 l0 l1 l2 l3 h = some o → Ev G M_X6_countTasks d 4 L [] h (Ret Y_X6_countTasks (some (.int o.1)) o.2)) : ∀ (l0 : Nat) (l1 : Int32) (l2 : Int32) (l3 : Int32) (L : List (Nat × Value)) (h : Hp) (o : (Int32 × Hp)), zlk L 0 = some (zrf (l0)) → zlk L 1 = some (.int (l1)) → zlk L 2 = some (.int (l2)) → zlk L 3 = some (.int (l3)) → f_X6_countTasks_47 K4 l0 l1 l2 l3 h = some o → Ev G M_X6_countTasks d 47 L [] h (Ret Y_X6_countTasks (some (.int o.1)) o.2) := by
  intro l0 l1 l2 l3 L h o g0 g1 g2 g3 e
  unfold f_X6_countTasks_47 at e
  refine r_iconst d_X6_countTasks_47 (v := (0 : Int32)) (by decide +kernel) ?_
  exact f_X6_countTasks_48_ok _ hj hK4 _ _ _ _ _ _ _ _ g0 g1 g2 g3 e

def f_X6_countTasks_4 : Nat → Nat → Int32 → Int32 → Int32 → Hp → Option (Int32 × Hp)
  | 0, _, _, _, _, _ => none
  | n + 1, l0, l1, l2, l3, h => ck (isO (h) (l0) 7) (if (zI (h) 710 (l0)) ≤ (l3) then (some (l2, h)) else (ck (isO (h) (zR (h) 704 (l0)) 28) (ck (inR (l3) (zL (h) (zR (h) 704 (l0)))) (ck (isO (h) (zQ (h) (zR (h) 704 (l0)) (l3).toNatClampNeg) 10) (if (zI (h) 1007 (zQ (h) (zR (h) 704 (l0)) (l3).toNatClampNeg)) = (0) then (if (l1) = (0) then (f_X6_countTasks_43 (f_X6_countTasks_4 n ) (l0) (l1) (l2) (l3) (h)) else (ck (isO (h) (zR (h) 1003 (zQ (h) (zR (h) 704 (l0)) (l3).toNatClampNeg)) 9) (if (zI (h) 904 (zR (h) 1003 (zQ (h) (zR (h) 704 (l0)) (l3).toNatClampNeg))) ≤ (0) then (f_X6_countTasks_47 (f_X6_countTasks_4 n ) (l0) (l1) (l2) (l3) (h)) else (f_X6_countTasks_43 (f_X6_countTasks_4 n ) (l0) (l1) (l2) (l3) (h))))) else (f_X6_countTasks_47 (f_X6_countTasks_4 n ) (l0) (l1) (l2) (l3) (h)))))))
theorem f_X6_countTasks_4_ok {G : Gd} {d : Nat} (hj : 1 ≤ d) : ∀ (n : Nat) (l0 : Nat) (l1 : Int32) (l2 : Int32) (l3 : Int32) (L : List (Nat × Value)) (h : Hp) (o : (Int32 × Hp)), zlk L 0 = some (zrf (l0)) → zlk L 1 = some (.int (l1)) → zlk L 2 = some (.int (l2)) → zlk L 3 = some (.int (l3)) → f_X6_countTasks_4 n l0 l1 l2 l3 h = some o → Ev G M_X6_countTasks d 4 L [] h (Ret Y_X6_countTasks (some (.int o.1)) o.2) := by
  intro n
  induction n with
  | zero =>
    intro l0 l1 l2 l3 L h o g0 g1 g2 g3 e
    cases e
  | succ n ih =>
    intro l0 l1 l2 l3 L h o g0 g1 g2 g3 e
    unfold f_X6_countTasks_4 at e
    refine r_iload_n d_X6_countTasks_4 rfl g3 ?_
    refine g_ald_n d_X6_countTasks_5 rfl g0 ?_
    replace e := ckd e
    obtain ⟨k1, e⟩ := e
    refine g_getI d_X6_countTasks_6 (f := 710) k1 fk_7_56 rfl rfl ?_
    refine r_icmp_ge d_X6_countTasks_9 (tgt := 69) (by decide) (fun c2 => ?_) (fun c2 => ?_)
    · replace e := (if_pos c2).symm.trans e
      refine r_iload_n d_X6_countTasks_69 rfl g2 ?_
      cases e
      exact g_iret d_X6_countTasks_70 rfl rfl
    · replace e := (if_neg c2).symm.trans e
      refine g_ald_n d_X6_countTasks_12 rfl g0 ?_
      refine g_getR d_X6_countTasks_13 (f := 704) k1 fk_7_19 rfl rfl ?_
      refine r_iload_n d_X6_countTasks_16 rfl g3 ?_
      replace e := ckd e
      obtain ⟨k3, e⟩ := e
      replace e := ckd e
      obtain ⟨k4, e⟩ := e
      refine g_aald d_X6_countTasks_17 k3 (by decide) (by decide) k4 rfl ?_
      replace e := ckd e
      obtain ⟨k5, e⟩ := e
      refine g_getI d_X6_countTasks_18 (f := 1007) k5 fk_7_82 rfl rfl ?_
      refine r_if_ne d_X6_countTasks_21 (tgt := 47) (by decide) (fun c6 => ?_) (fun c6 => ?_)
      · replace e := (if_neg c6).symm.trans e
        exact f_X6_countTasks_47_ok _ hj ih _ _ _ _ _ _ _ g0 g1 g2 g3 e
      · replace e := (if_pos c6).symm.trans e
        refine r_iload_n d_X6_countTasks_24 rfl g1 ?_
        refine r_if_eq d_X6_countTasks_25 (tgt := 43) (by decide) (fun c7 => ?_) (fun c7 => ?_)
        · replace e := (if_pos c7).symm.trans e
          exact f_X6_countTasks_43_ok _ hj ih _ _ _ _ _ _ _ g0 g1 g2 g3 e
        · replace e := (if_neg c7).symm.trans e
          refine g_ald_n d_X6_countTasks_28 rfl g0 ?_
          refine g_getR d_X6_countTasks_29 (f := 704) k1 fk_7_19 rfl rfl ?_
          refine r_iload_n d_X6_countTasks_32 rfl g3 ?_
          refine g_aald d_X6_countTasks_33 k3 (by decide) (by decide) k4 rfl ?_
          refine g_getR d_X6_countTasks_34 (f := 1003) k5 fk_7_85 rfl rfl ?_
          replace e := ckd e
          obtain ⟨k8, e⟩ := e
          refine g_getI d_X6_countTasks_37 (f := 904) k8 fk_7_89 rfl rfl ?_
          refine r_if_le d_X6_countTasks_40 (tgt := 47) (by decide) (fun c9 => ?_) (fun c9 => ?_)
          · replace e := (if_pos c9).symm.trans e
            exact f_X6_countTasks_47_ok _ hj ih _ _ _ _ _ _ _ g0 g1 g2 g3 e
          · replace e := (if_neg c9).symm.trans e
            exact f_X6_countTasks_43_ok _ hj ih _ _ _ _ _ _ _ g0 g1 g2 g3 e

def f_X6_countTasks (l0 : Nat) (l1 : Int32) (h : Hp) : Option (Int32 × Hp) := f_X6_countTasks_4 fz (l0) (l1) ((0 : Int32)) ((0 : Int32)) (h)
theorem f_X6_countTasks_ok {G : Gd} {d : Nat} (hj : 1 ≤ d) : ∀ (l0 : Nat) (l1 : Int32) (L : List (Nat × Value)) (h : Hp) (o : (Int32 × Hp)), zlk L 0 = some (zrf (l0)) → zlk L 1 = some (.int (l1)) → f_X6_countTasks l0 l1 h = some o → Ev G M_X6_countTasks d 0 L [] h (Ret Y_X6_countTasks (some (.int o.1)) o.2) := by
  intro l0 l1 L h o g0 g1 e
  unfold f_X6_countTasks at e
  refine r_iconst d_X6_countTasks_0 (v := (0 : Int32)) (by decide +kernel) ?_
  refine s_istore_n d_X6_countTasks_1 rfl (by decide) (fun L g2 gK => ?_)
  replace g0 := gK _ _ (by decide) (Or.inr (zrf_cat _)) g0
  replace g1 := gK _ _ (by decide) (Or.inr rfl) g1
  refine r_iconst d_X6_countTasks_2 (v := (0 : Int32)) (by decide +kernel) ?_
  refine s_istore_n d_X6_countTasks_3 rfl (by decide) (fun L g3 gK => ?_)
  replace g0 := gK _ _ (by decide) (Or.inr (zrf_cat _)) g0
  replace g1 := gK _ _ (by decide) (Or.inr rfl) g1
  replace g2 := gK _ _ (by decide) (Or.inr rfl) g2
  exact f_X6_countTasks_4_ok hj _ _ _ _ _ _ _ _ g0 g1 g2 g3 e

theorem c_X6_countTasks {G : Gd} {j : Nat} (hj : 1 ≤ j) {l0 : Nat} {l1 : Int32} {h : Hp} {o : (Int32 × Hp)} (e : f_X6_countTasks l0 l1 h = some o) : Cal G j Y_X6_countTasks [zrf (l0), .int (l1)] h (some (.int o.1)) o.2 := Cal.of (n := 0) (I := false) (by decide +kernel) (by decide) (by simp [lg_sl, zrf_cat, cat_int, cat_long]) (f_X6_countTasks_ok hj _ _ _ h o (by simp [lv_args, zlk, zrf_cat, cat_int, cat_long]) (by simp [lv_args, zlk, zrf_cat, cat_int, cat_long]) e)
theorem fk_7_94 : Fk "TaskWeave$Shard" 94 603 := ⟨by decide, by decide, by decide +kernel⟩
def f_X6_mostAreUp_30 (K4 : Nat → Int32 → Int32 → Hp → Option (Int32 × Hp)) (s0 : Int32) (s1 : Int32) (l0 : Nat) (l2 : Int32) (h : Hp) : Option (Int32 × Hp) := bh ((s0) + (s1)) (fun x8 => bh ((l2) + (1 : Int32)) (fun x9 => K4 (l0) (x8) (x9) (h)))
theorem f_X6_mostAreUp_30_ok {G : Gd} {d : Nat} (K4 : Nat → Int32 → Int32 → Hp → Option (Int32 × Hp)) (hj : 1 ≤ d) (hK4 : ∀ (l0 : Nat) (l1 : Int32) (l2 : Int32) (L : List (Nat × Value)) (h : Hp) (o : (Int32 × Hp)), zlk L 0 = some (zrf (l0)) → zlk L 1 = some (.int (l1)) → zlk L 2 = some (.int (l2)) → K4 l0 l1 l2 h = some o → Ev G M_X6_mostAreUp d 4 L [] h (Ret Y_X6_mostAreUp (some (.int o.1)) o.2)) : ∀ (s0 : Int32) (s1 : Int32) (l0 : Nat) (l2 : Int32) (L : List (Nat × Value)) (h : Hp) (o : (Int32 × Hp)), zlk L 0 = some (zrf (l0)) → zlk L 2 = some (.int (l2)) → f_X6_mostAreUp_30 K4 s0 s1 l0 l2 h = some o → Ev G M_X6_mostAreUp d 30 L [.int (s1), .int (s0)] h (Ret Y_X6_mostAreUp (some (.int o.1)) o.2) := by
  intro s0 s1 l0 l2 L h o g0 g2 e
  unfold f_X6_mostAreUp_30 at e
  refine r_iadd d_X6_mostAreUp_30 ?_
  replace e := bhd e
  obtain ⟨_, rfl, e⟩ := e
  refine s_istore_n d_X6_mostAreUp_31 rfl (by decide) (fun L g1 gK => ?_)
  replace g0 := gK _ _ (by decide) (Or.inr (zrf_cat _)) g0
  replace g2 := gK _ _ (by decide) (Or.inr rfl) g2
  replace e := bhd e
  obtain ⟨_, rfl, e⟩ := e
  refine s_iinc d_X6_mostAreUp_32 g2 (w := (1 : Int32)) (by decide +kernel) (by decide) (fun L g2 gK => ?_)
  replace g0 := gK _ _ (by decide) (Or.inr (zrf_cat _)) g0
  replace g1 := gK _ _ (by decide) (Or.inr rfl) g1
  refine r_goto d_X6_mostAreUp_35 (tgt := 4) (by decide) ?_
  exact hK4 _ _ _ _ _ _ g0 g1 g2 e

def f_X6_mostAreUp_4 : Nat → Nat → Int32 → Int32 → Hp → Option (Int32 × Hp)
  | 0, _, _, _, _ => none
  | n + 1, l0, l1, l2, h => ck (isO (h) (l0) 7) (if (zI (h) 707 (l0)) ≤ (l2) then (if (((2 : Int32)) * (l1)) ≤ (zI (h) 707 (l0)) then (some ((0 : Int32), h)) else (some ((1 : Int32), h))) else (ck (isO (h) (zR (h) 703 (l0)) 25) (ck (inR (l2) (zL (h) (zR (h) 703 (l0)))) (ck (isO (h) (zQ (h) (zR (h) 703 (l0)) (l2).toNatClampNeg) 6) (if (zI (h) 603 (zQ (h) (zR (h) 703 (l0)) (l2).toNatClampNeg)) = (0) then (f_X6_mostAreUp_30 (f_X6_mostAreUp_4 n ) (l1) ((0 : Int32)) (l0) (l2) (h)) else (f_X6_mostAreUp_30 (f_X6_mostAreUp_4 n ) (l1) ((1 : Int32)) (l0) (l2) (h)))))))
theorem f_X6_mostAreUp_4_ok {G : Gd} {d : Nat} (hj : 1 ≤ d) : ∀ (n : Nat) (l0 : Nat) (l1 : Int32) (l2 : Int32) (L : List (Nat × Value)) (h : Hp) (o : (Int32 × Hp)), zlk L 0 = some (zrf (l0)) → zlk L 1 = some (.int (l1)) → zlk L 2 = some (.int (l2)) → f_X6_mostAreUp_4 n l0 l1 l2 h = some o → Ev G M_X6_mostAreUp d 4 L [] h (Ret Y_X6_mostAreUp (some (.int o.1)) o.2) := by
  intro n
  induction n with
  | zero =>
    intro l0 l1 l2 L h o g0 g1 g2 e
    cases e
  | succ n ih =>
    intro l0 l1 l2 L h o g0 g1 g2 e
    unfold f_X6_mostAreUp_4 at e
    refine r_iload_n d_X6_mostAreUp_4 rfl g2 ?_
    refine g_ald_n d_X6_mostAreUp_5 rfl g0 ?_
    replace e := ckd e
    obtain ⟨k1, e⟩ := e
    refine g_getI d_X6_mostAreUp_6 (f := 707) k1 fk_7_34 rfl rfl ?_
    refine r_icmp_ge d_X6_mostAreUp_9 (tgt := 38) (by decide) (fun c2 => ?_) (fun c2 => ?_)
    · replace e := (if_pos c2).symm.trans e
      refine r_iconst d_X6_mostAreUp_38 (v := (2 : Int32)) (by decide +kernel) ?_
      refine r_iload_n d_X6_mostAreUp_39 rfl g1 ?_
      refine r_imul d_X6_mostAreUp_40 ?_
      refine g_ald_n d_X6_mostAreUp_41 rfl g0 ?_
      refine g_getI d_X6_mostAreUp_42 (f := 707) k1 fk_7_34 rfl rfl ?_
      refine r_icmp_le d_X6_mostAreUp_45 (tgt := 52) (by decide) (fun c3 => ?_) (fun c3 => ?_)
      · replace e := (if_pos c3).symm.trans e
        refine r_iconst d_X6_mostAreUp_52 (v := (0 : Int32)) (by decide +kernel) ?_
        cases e
        exact g_iret d_X6_mostAreUp_53 rfl rfl
      · replace e := (if_neg c3).symm.trans e
        refine r_iconst d_X6_mostAreUp_48 (v := (1 : Int32)) (by decide +kernel) ?_
        refine r_goto d_X6_mostAreUp_49 (tgt := 53) (by decide) ?_
        cases e
        exact g_iret d_X6_mostAreUp_53 rfl rfl
    · replace e := (if_neg c2).symm.trans e
      refine r_iload_n d_X6_mostAreUp_12 rfl g1 ?_
      refine g_ald_n d_X6_mostAreUp_13 rfl g0 ?_
      refine g_getR d_X6_mostAreUp_14 (f := 703) k1 fk_7_11 rfl rfl ?_
      refine r_iload_n d_X6_mostAreUp_17 rfl g2 ?_
      replace e := ckd e
      obtain ⟨k4, e⟩ := e
      replace e := ckd e
      obtain ⟨k5, e⟩ := e
      refine g_aald d_X6_mostAreUp_18 k4 (by decide) (by decide) k5 rfl ?_
      replace e := ckd e
      obtain ⟨k6, e⟩ := e
      refine g_getI d_X6_mostAreUp_19 (f := 603) k6 fk_7_94 rfl rfl ?_
      refine r_if_eq d_X6_mostAreUp_22 (tgt := 29) (by decide) (fun c7 => ?_) (fun c7 => ?_)
      · replace e := (if_pos c7).symm.trans e
        refine r_iconst d_X6_mostAreUp_29 (v := (0 : Int32)) (by decide +kernel) ?_
        exact f_X6_mostAreUp_30_ok _ hj ih _ _ _ _ _ _ _ g0 g2 e
      · replace e := (if_neg c7).symm.trans e
        refine r_iconst d_X6_mostAreUp_25 (v := (1 : Int32)) (by decide +kernel) ?_
        refine r_goto d_X6_mostAreUp_26 (tgt := 30) (by decide) ?_
        exact f_X6_mostAreUp_30_ok _ hj ih _ _ _ _ _ _ _ g0 g2 e

def f_X6_mostAreUp (l0 : Nat) (h : Hp) : Option (Int32 × Hp) := f_X6_mostAreUp_4 fz (l0) ((0 : Int32)) ((0 : Int32)) (h)
theorem f_X6_mostAreUp_ok {G : Gd} {d : Nat} (hj : 1 ≤ d) : ∀ (l0 : Nat) (L : List (Nat × Value)) (h : Hp) (o : (Int32 × Hp)), zlk L 0 = some (zrf (l0)) → f_X6_mostAreUp l0 h = some o → Ev G M_X6_mostAreUp d 0 L [] h (Ret Y_X6_mostAreUp (some (.int o.1)) o.2) := by
  intro l0 L h o g0 e
  unfold f_X6_mostAreUp at e
  refine r_iconst d_X6_mostAreUp_0 (v := (0 : Int32)) (by decide +kernel) ?_
  refine s_istore_n d_X6_mostAreUp_1 rfl (by decide) (fun L g1 gK => ?_)
  replace g0 := gK _ _ (by decide) (Or.inr (zrf_cat _)) g0
  refine r_iconst d_X6_mostAreUp_2 (v := (0 : Int32)) (by decide +kernel) ?_
  refine s_istore_n d_X6_mostAreUp_3 rfl (by decide) (fun L g2 gK => ?_)
  replace g0 := gK _ _ (by decide) (Or.inr (zrf_cat _)) g0
  replace g1 := gK _ _ (by decide) (Or.inr rfl) g1
  exact f_X6_mostAreUp_4_ok hj _ _ _ _ _ _ _ g0 g1 g2 e

theorem c_X6_mostAreUp {G : Gd} {j : Nat} (hj : 1 ≤ j) {l0 : Nat} {h : Hp} {o : (Int32 × Hp)} (e : f_X6_mostAreUp l0 h = some o) : Cal G j Y_X6_mostAreUp [zrf (l0)] h (some (.int o.1)) o.2 := Cal.of (n := 0) (I := false) (by decide +kernel) (by decide) (by simp [lg_sl, zrf_cat, cat_int, cat_long]) (f_X6_mostAreUp_ok hj _ _ h o (by simp [lv_args, zlk, zrf_cat, cat_int, cat_long]) e)
def f_X6_loseLeader_7 : Nat → Nat → Int32 → Hp → Option Hp
  | 0, _, _, _ => none
  | n + 1, l0, l1, h => ck (isO (h) (l0) 7) (if (zI (h) 710 (l0)) ≤ (l1) then (some (h)) else (ck (isO (h) (zR (h) 704 (l0)) 28) (ck (inR (l1) (zL (h) (zR (h) 704 (l0)))) (ck (isO (h) (zQ (h) (zR (h) 704 (l0)) (l1).toNatClampNeg) 10) (ck (isO (h) (zR (h) 1003 (zQ (h) (zR (h) 704 (l0)) (l1).toNatClampNeg)) 9) (bh (pI (h) 904 (zR (h) 1003 (zQ (h) (zR (h) 704 (l0)) (l1).toNatClampNeg)) ((0 : Int32))) (fun h9 => bh ((l1) + (1 : Int32)) (fun x10 => f_X6_loseLeader_7 n (l0) (x10) (h9)))))))))
theorem f_X6_loseLeader_7_ok {G : Gd} {d : Nat} (hj : 1 ≤ d) : ∀ (n : Nat) (l0 : Nat) (l1 : Int32) (L : List (Nat × Value)) (h : Hp) (o : Hp), zlk L 0 = some (zrf (l0)) → zlk L 1 = some (.int (l1)) → f_X6_loseLeader_7 n l0 l1 h = some o → Ev G M_X6_loseLeader d 7 L [] h (Ret Y_X6_loseLeader none o) := by
  intro n
  induction n with
  | zero =>
    intro l0 l1 L h o g0 g1 e
    cases e
  | succ n ih =>
    intro l0 l1 L h o g0 g1 e
    unfold f_X6_loseLeader_7 at e
    refine r_iload_n d_X6_loseLeader_7 rfl g1 ?_
    refine g_ald_n d_X6_loseLeader_8 rfl g0 ?_
    replace e := ckd e
    obtain ⟨k3, e⟩ := e
    refine g_getI d_X6_loseLeader_9 (f := 710) k3 fk_7_56 rfl rfl ?_
    refine r_icmp_ge d_X6_loseLeader_12 (tgt := 34) (by decide) (fun c4 => ?_) (fun c4 => ?_)
    · replace e := (if_pos c4).symm.trans e
      cases e
      exact g_vret d_X6_loseLeader_34 rfl
    · replace e := (if_neg c4).symm.trans e
      refine g_ald_n d_X6_loseLeader_15 rfl g0 ?_
      refine g_getR d_X6_loseLeader_16 (f := 704) k3 fk_7_19 rfl rfl ?_
      refine r_iload_n d_X6_loseLeader_19 rfl g1 ?_
      replace e := ckd e
      obtain ⟨k5, e⟩ := e
      replace e := ckd e
      obtain ⟨k6, e⟩ := e
      refine g_aald d_X6_loseLeader_20 k5 (by decide) (by decide) k6 rfl ?_
      replace e := ckd e
      obtain ⟨k7, e⟩ := e
      refine g_getR d_X6_loseLeader_21 (f := 1003) k7 fk_7_85 rfl rfl ?_
      refine r_iconst d_X6_loseLeader_24 (v := (0 : Int32)) (by decide +kernel) ?_
      replace e := ckd e
      obtain ⟨k8, e⟩ := e
      refine g_putI d_X6_loseLeader_25 (f := 904) k8 fk_7_89 rfl (Or.inl rfl) ⟨rfl, rfl⟩ ?_
      replace e := bhd e
      obtain ⟨_, rfl, e⟩ := e
      replace e := bhd e
      obtain ⟨_, rfl, e⟩ := e
      refine s_iinc d_X6_loseLeader_28 g1 (w := (1 : Int32)) (by decide +kernel) (by decide) (fun L g1 gK => ?_)
      replace g0 := gK _ _ (by decide) (Or.inr (zrf_cat _)) g0
      refine r_goto d_X6_loseLeader_31 (tgt := 7) (by decide) ?_
      exact ih _ _ _ _ _ g0 g1 e

def f_X6_loseLeader (l0 : Nat) (h : Hp) : Option Hp := ck (isO (h) (l0) 7) (bh (pI (h) 708 (l0) ((-1 : Int32))) (fun h2 => f_X6_loseLeader_7 fz (l0) ((0 : Int32)) (h2)))
theorem f_X6_loseLeader_ok {G : Gd} {d : Nat} (hj : 1 ≤ d) : ∀ (l0 : Nat) (L : List (Nat × Value)) (h : Hp) (o : Hp), zlk L 0 = some (zrf (l0)) → f_X6_loseLeader l0 h = some o → Ev G M_X6_loseLeader d 0 L [] h (Ret Y_X6_loseLeader none o) := by
  intro l0 L h o g0 e
  unfold f_X6_loseLeader at e
  refine g_ald_n d_X6_loseLeader_0 rfl g0 ?_
  refine r_iconst d_X6_loseLeader_1 (v := (-1 : Int32)) (by decide +kernel) ?_
  replace e := ckd e
  obtain ⟨k1, e⟩ := e
  refine g_putI d_X6_loseLeader_2 (f := 708) k1 fk_7_53 rfl (Or.inl rfl) ⟨rfl, rfl⟩ ?_
  replace e := bhd e
  obtain ⟨_, rfl, e⟩ := e
  refine r_iconst d_X6_loseLeader_5 (v := (0 : Int32)) (by decide +kernel) ?_
  refine s_istore_n d_X6_loseLeader_6 rfl (by decide) (fun L g1 gK => ?_)
  replace g0 := gK _ _ (by decide) (Or.inr (zrf_cat _)) g0
  exact f_X6_loseLeader_7_ok hj _ _ _ _ _ _ g0 g1 e

theorem c_X6_loseLeader {G : Gd} {j : Nat} (hj : 1 ≤ j) {l0 : Nat} {h : Hp} {o : Hp} (e : f_X6_loseLeader l0 h = some o) : Cal G j Y_X6_loseLeader [zrf (l0)] h none o := Cal.of (n := 0) (I := false) (by decide +kernel) (by decide) (by simp [lg_sl, zrf_cat, cat_int, cat_long]) (f_X6_loseLeader_ok hj _ _ h o (by simp [lv_args, zlk, zrf_cat, cat_int, cat_long]) e)
