abbrev Y_X6_elect : Yx := (⟨"TaskWeave$Shard", "elect", "()Z"⟩, prog_8_method_24_code, 2, (some .boolean))
abbrev M_X6_elect : Mx := ("TaskWeave$Shard", prog_8_method_24_code, 2, false)
theorem yk_X6_elect : Yk Y_X6_elect 0 := ⟨by decide +kernel, by decide +kernel, ⟨by decide, by decide⟩, by decide +kernel, by decide, trivial⟩
theorem d_X6_elect_0 : decode prog_8_method_24_code 0 = .ok (.aload_n 0, 1) := by decide +kernel
theorem d_X6_elect_1 : decode prog_8_method_24_code 1 = .ok (.dup, 1) := by decide +kernel
theorem d_X6_elect_2 : decode prog_8_method_24_code 2 = .ok (.getfield 102, 3) := by decide +kernel
theorem d_X6_elect_5 : decode prog_8_method_24_code 5 = .ok (.iconst 1, 1) := by decide +kernel
theorem d_X6_elect_6 : decode prog_8_method_24_code 6 = .ok (.iadd, 1) := by decide +kernel
theorem d_X6_elect_7 : decode prog_8_method_24_code 7 = .ok (.putfield 102, 3) := by decide +kernel
theorem d_X6_elect_10 : decode prog_8_method_24_code 10 = .ok (.aload_n 0, 1) := by decide +kernel
theorem d_X6_elect_11 : decode prog_8_method_24_code 11 = .ok (.aload_n 0, 1) := by decide +kernel
theorem d_X6_elect_12 : decode prog_8_method_24_code 12 = .ok (.invokevirtual 241, 3) := by decide +kernel
theorem d_X6_elect_15 : decode prog_8_method_24_code 15 = .ok (.putfield 53, 3) := by decide +kernel
theorem d_X6_elect_18 : decode prog_8_method_24_code 18 = .ok (.iconst 0, 1) := by decide +kernel
theorem d_X6_elect_19 : decode prog_8_method_24_code 19 = .ok (.istore_n 1, 1) := by decide +kernel
theorem d_X6_elect_20 : decode prog_8_method_24_code 20 = .ok (.iload_n 1, 1) := by decide +kernel
theorem d_X6_elect_21 : decode prog_8_method_24_code 21 = .ok (.aload_n 0, 1) := by decide +kernel
theorem d_X6_elect_22 : decode prog_8_method_24_code 22 = .ok (.getfield 34, 3) := by decide +kernel
theorem d_X6_elect_25 : decode prog_8_method_24_code 25 = .ok (.if_icmp .ge 55, 3) := by decide +kernel
theorem d_X6_elect_28 : decode prog_8_method_24_code 28 = .ok (.aload_n 0, 1) := by decide +kernel
theorem d_X6_elect_29 : decode prog_8_method_24_code 29 = .ok (.invokevirtual 200, 3) := by decide +kernel
theorem d_X6_elect_32 : decode prog_8_method_24_code 32 = .ok (.ifCond .eq 48, 3) := by decide +kernel
theorem d_X6_elect_35 : decode prog_8_method_24_code 35 = .ok (.iload_n 1, 1) := by decide +kernel
theorem d_X6_elect_36 : decode prog_8_method_24_code 36 = .ok (.aload_n 0, 1) := by decide +kernel
theorem d_X6_elect_37 : decode prog_8_method_24_code 37 = .ok (.getfield 53, 3) := by decide +kernel
theorem d_X6_elect_40 : decode prog_8_method_24_code 40 = .ok (.if_icmp .eq 34, 3) := by decide +kernel
theorem d_X6_elect_43 : decode prog_8_method_24_code 43 = .ok (.aload_n 0, 1) := by decide +kernel
theorem d_X6_elect_44 : decode prog_8_method_24_code 44 = .ok (.getfield 11, 3) := by decide +kernel
theorem d_X6_elect_47 : decode prog_8_method_24_code 47 = .ok (.iload_n 1, 1) := by decide +kernel
theorem d_X6_elect_48 : decode prog_8_method_24_code 48 = .ok (.aaload, 1) := by decide +kernel
theorem d_X6_elect_49 : decode prog_8_method_24_code 49 = .ok (.getfield 94, 3) := by decide +kernel
theorem d_X6_elect_52 : decode prog_8_method_24_code 52 = .ok (.ifCond .eq 22, 3) := by decide +kernel
theorem d_X6_elect_55 : decode prog_8_method_24_code 55 = .ok (.aload_n 0, 1) := by decide +kernel
theorem d_X6_elect_56 : decode prog_8_method_24_code 56 = .ok (.aload_n 0, 1) := by decide +kernel
theorem d_X6_elect_57 : decode prog_8_method_24_code 57 = .ok (.getfield 11, 3) := by decide +kernel
theorem d_X6_elect_60 : decode prog_8_method_24_code 60 = .ok (.iload_n 1, 1) := by decide +kernel
theorem d_X6_elect_61 : decode prog_8_method_24_code 61 = .ok (.aaload, 1) := by decide +kernel
theorem d_X6_elect_62 : decode prog_8_method_24_code 62 = .ok (.aload_n 0, 1) := by decide +kernel
theorem d_X6_elect_63 : decode prog_8_method_24_code 63 = .ok (.getfield 11, 3) := by decide +kernel
theorem d_X6_elect_66 : decode prog_8_method_24_code 66 = .ok (.aload_n 0, 1) := by decide +kernel
theorem d_X6_elect_67 : decode prog_8_method_24_code 67 = .ok (.getfield 53, 3) := by decide +kernel
theorem d_X6_elect_70 : decode prog_8_method_24_code 70 = .ok (.aaload, 1) := by decide +kernel
theorem d_X6_elect_71 : decode prog_8_method_24_code 71 = .ok (.invokevirtual 219, 3) := by decide +kernel
theorem d_X6_elect_74 : decode prog_8_method_24_code 74 = .ok (.iinc 1 1, 3) := by decide +kernel
theorem d_X6_elect_77 : decode prog_8_method_24_code 77 = .ok (.goto (-57), 3) := by decide +kernel
theorem d_X6_elect_80 : decode prog_8_method_24_code 80 = .ok (.aload_n 0, 1) := by decide +kernel
theorem d_X6_elect_81 : decode prog_8_method_24_code 81 = .ok (.bipush 13, 2) := by decide +kernel
theorem d_X6_elect_83 : decode prog_8_method_24_code 83 = .ok (.iconst 0, 1) := by decide +kernel
theorem d_X6_elect_84 : decode prog_8_method_24_code 84 = .ok (.aload_n 0, 1) := by decide +kernel
theorem d_X6_elect_85 : decode prog_8_method_24_code 85 = .ok (.getfield 53, 3) := by decide +kernel
theorem d_X6_elect_88 : decode prog_8_method_24_code 88 = .ok (.iconst 0, 1) := by decide +kernel
theorem d_X6_elect_89 : decode prog_8_method_24_code 89 = .ok (.iconst 0, 1) := by decide +kernel
theorem d_X6_elect_90 : decode prog_8_method_24_code 90 = .ok (.invokevirtual 123, 3) := by decide +kernel
theorem d_X6_elect_93 : decode prog_8_method_24_code 93 = .ok (.ireturn, 1) := by decide +kernel
abbrev Y_X6_readLog : Yx := (⟨"TaskWeave$Shard", "readLog", "(LTaskWeave$Replica;)V"⟩, prog_8_method_26_code, 8, none)
abbrev M_X6_readLog : Mx := ("TaskWeave$Shard", prog_8_method_26_code, 8, false)
theorem yk_X6_readLog : Yk Y_X6_readLog 1 := ⟨by decide +kernel, by decide +kernel, ⟨by decide, by decide⟩, by decide +kernel, by decide, trivial⟩
theorem d_X6_readLog_0 : decode prog_8_method_26_code 0 = .ok (.aload_n 0, 1) := by decide +kernel
theorem d_X6_readLog_1 : decode prog_8_method_26_code 1 = .ok (.iconst 0, 1) := by decide +kernel
theorem d_X6_readLog_2 : decode prog_8_method_26_code 2 = .ok (.putfield 56, 3) := by decide +kernel
theorem d_X6_readLog_5 : decode prog_8_method_26_code 5 = .ok (.aload_n 0, 1) := by decide +kernel
theorem d_X6_readLog_6 : decode prog_8_method_26_code 6 = .ok (.getfield 30, 3) := by decide +kernel
theorem d_X6_readLog_9 : decode prog_8_method_26_code 9 = .ok (.iconst 0, 1) := by decide +kernel
theorem d_X6_readLog_10 : decode prog_8_method_26_code 10 = .ok (.putfield 248, 3) := by decide +kernel
theorem d_X6_readLog_13 : decode prog_8_method_26_code 13 = .ok (.iconst 0, 1) := by decide +kernel
theorem d_X6_readLog_14 : decode prog_8_method_26_code 14 = .ok (.istore_n 2, 1) := by decide +kernel
theorem d_X6_readLog_15 : decode prog_8_method_26_code 15 = .ok (.iload_n 2, 1) := by decide +kernel
theorem d_X6_readLog_16 : decode prog_8_method_26_code 16 = .ok (.aload_n 1, 1) := by decide +kernel
theorem d_X6_readLog_17 : decode prog_8_method_26_code 17 = .ok (.getfield 69, 3) := by decide +kernel
theorem d_X6_readLog_20 : decode prog_8_method_26_code 20 = .ok (.bipush 16, 2) := by decide +kernel
theorem d_X6_readLog_22 : decode prog_8_method_26_code 22 = .ok (.idiv, 1) := by decide +kernel
theorem d_X6_readLog_23 : decode prog_8_method_26_code 23 = .ok (.if_icmp .ge 231, 3) := by decide +kernel
theorem d_X6_readLog_26 : decode prog_8_method_26_code 26 = .ok (.iload_n 2, 1) := by decide +kernel
theorem d_X6_readLog_27 : decode prog_8_method_26_code 27 = .ok (.bipush 16, 2) := by decide +kernel
theorem d_X6_readLog_29 : decode prog_8_method_26_code 29 = .ok (.imul, 1) := by decide +kernel
theorem d_X6_readLog_30 : decode prog_8_method_26_code 30 = .ok (.istore_n 3, 1) := by decide +kernel
theorem d_X6_readLog_31 : decode prog_8_method_26_code 31 = .ok (.aload_n 1, 1) := by decide +kernel
theorem d_X6_readLog_32 : decode prog_8_method_26_code 32 = .ok (.iload_n 3, 1) := by decide +kernel
theorem d_X6_readLog_33 : decode prog_8_method_26_code 33 = .ok (.invokevirtual 249, 3) := by decide +kernel
theorem d_X6_readLog_36 : decode prog_8_method_26_code 36 = .ok (.bipush 16, 2) := by decide +kernel
theorem d_X6_readLog_38 : decode prog_8_method_26_code 38 = .ok (.irem, 1) := by decide +kernel
theorem d_X6_readLog_39 : decode prog_8_method_26_code 39 = .ok (.istore 4, 2) := by decide +kernel
theorem d_X6_readLog_41 : decode prog_8_method_26_code 41 = .ok (.aload_n 1, 1) := by decide +kernel
theorem d_X6_readLog_42 : decode prog_8_method_26_code 42 = .ok (.iload_n 3, 1) := by decide +kernel
theorem d_X6_readLog_43 : decode prog_8_method_26_code 43 = .ok (.invokevirtual 249, 3) := by decide +kernel
theorem d_X6_readLog_46 : decode prog_8_method_26_code 46 = .ok (.bipush 16, 2) := by decide +kernel
theorem d_X6_readLog_48 : decode prog_8_method_26_code 48 = .ok (.idiv, 1) := by decide +kernel
theorem d_X6_readLog_49 : decode prog_8_method_26_code 49 = .ok (.istore 5, 2) := by decide +kernel
theorem d_X6_readLog_51 : decode prog_8_method_26_code 51 = .ok (.aload_n 1, 1) := by decide +kernel
theorem d_X6_readLog_52 : decode prog_8_method_26_code 52 = .ok (.iload_n 3, 1) := by decide +kernel
theorem d_X6_readLog_53 : decode prog_8_method_26_code 53 = .ok (.iconst 3, 1) := by decide +kernel
theorem d_X6_readLog_54 : decode prog_8_method_26_code 54 = .ok (.iadd, 1) := by decide +kernel
theorem d_X6_readLog_55 : decode prog_8_method_26_code 55 = .ok (.invokevirtual 252, 3) := by decide +kernel
theorem d_X6_readLog_58 : decode prog_8_method_26_code 58 = .ok (.istore 6, 2) := by decide +kernel
theorem d_X6_readLog_60 : decode prog_8_method_26_code 60 = .ok (.aload_n 1, 1) := by decide +kernel
theorem d_X6_readLog_61 : decode prog_8_method_26_code 61 = .ok (.iload_n 3, 1) := by decide +kernel
theorem d_X6_readLog_62 : decode prog_8_method_26_code 62 = .ok (.bipush 7, 2) := by decide +kernel
theorem d_X6_readLog_64 : decode prog_8_method_26_code 64 = .ok (.iadd, 1) := by decide +kernel
theorem d_X6_readLog_65 : decode prog_8_method_26_code 65 = .ok (.invokevirtual 252, 3) := by decide +kernel
theorem d_X6_readLog_68 : decode prog_8_method_26_code 68 = .ok (.istore 7, 2) := by decide +kernel
theorem d_X6_readLog_70 : decode prog_8_method_26_code 70 = .ok (.iload 4, 2) := by decide +kernel
theorem d_X6_readLog_72 : decode prog_8_method_26_code 72 = .ok (.ifCond .ne 24, 3) := by decide +kernel
theorem d_X6_readLog_75 : decode prog_8_method_26_code 75 = .ok (.aload_n 0, 1) := by decide +kernel
theorem d_X6_readLog_76 : decode prog_8_method_26_code 76 = .ok (.iload 5, 2) := by decide +kernel
theorem d_X6_readLog_78 : decode prog_8_method_26_code 78 = .ok (.iload 6, 2) := by decide +kernel
theorem d_X6_readLog_80 : decode prog_8_method_26_code 80 = .ok (.iload 7, 2) := by decide +kernel
theorem d_X6_readLog_82 : decode prog_8_method_26_code 82 = .ok (.aload_n 1, 1) := by decide +kernel
theorem d_X6_readLog_83 : decode prog_8_method_26_code 83 = .ok (.iload_n 3, 1) := by decide +kernel
theorem d_X6_readLog_84 : decode prog_8_method_26_code 84 = .ok (.bipush 11, 2) := by decide +kernel
theorem d_X6_readLog_86 : decode prog_8_method_26_code 86 = .ok (.iadd, 1) := by decide +kernel
theorem d_X6_readLog_87 : decode prog_8_method_26_code 87 = .ok (.invokevirtual 252, 3) := by decide +kernel
theorem d_X6_readLog_90 : decode prog_8_method_26_code 90 = .ok (.invokevirtual 164, 3) := by decide +kernel
theorem d_X6_readLog_93 : decode prog_8_method_26_code 93 = .ok (.goto 155, 3) := by decide +kernel
theorem d_X6_readLog_96 : decode prog_8_method_26_code 96 = .ok (.iload 4, 2) := by decide +kernel
theorem d_X6_readLog_98 : decode prog_8_method_26_code 98 = .ok (.bipush 14, 2) := by decide +kernel
theorem d_X6_readLog_100 : decode prog_8_method_26_code 100 = .ok (.if_icmp .ne 15, 3) := by decide +kernel
theorem d_X6_readLog_103 : decode prog_8_method_26_code 103 = .ok (.aload_n 0, 1) := by decide +kernel
theorem d_X6_readLog_104 : decode prog_8_method_26_code 104 = .ok (.getfield 30, 3) := by decide +kernel
theorem d_X6_readLog_107 : decode prog_8_method_26_code 107 = .ok (.iload 6, 2) := by decide +kernel
theorem d_X6_readLog_109 : decode prog_8_method_26_code 109 = .ok (.invokevirtual 197, 3) := by decide +kernel
theorem d_X6_readLog_112 : decode prog_8_method_26_code 112 = .ok (.goto 136, 3) := by decide +kernel
theorem d_X6_readLog_115 : decode prog_8_method_26_code 115 = .ok (.iload 4, 2) := by decide +kernel
theorem d_X6_readLog_117 : decode prog_8_method_26_code 117 = .ok (.bipush 15, 2) := by decide +kernel
theorem d_X6_readLog_119 : decode prog_8_method_26_code 119 = .ok (.if_icmp .ne 33, 3) := by decide +kernel
theorem d_X6_readLog_122 : decode prog_8_method_26_code 122 = .ok (.aload_n 0, 1) := by decide +kernel
theorem d_X6_readLog_123 : decode prog_8_method_26_code 123 = .ok (.getfield 19, 3) := by decide +kernel
theorem d_X6_readLog_126 : decode prog_8_method_26_code 126 = .ok (.iload 5, 2) := by decide +kernel
theorem d_X6_readLog_128 : decode prog_8_method_26_code 128 = .ok (.aaload, 1) := by decide +kernel
theorem d_X6_readLog_129 : decode prog_8_method_26_code 129 = .ok (.getfield 85, 3) := by decide +kernel
theorem d_X6_readLog_132 : decode prog_8_method_26_code 132 = .ok (.iload 6, 2) := by decide +kernel
theorem d_X6_readLog_134 : decode prog_8_method_26_code 134 = .ok (.aload_n 0, 1) := by decide +kernel
theorem d_X6_readLog_135 : decode prog_8_method_26_code 135 = .ok (.getfield 41, 3) := by decide +kernel
theorem d_X6_readLog_138 : decode prog_8_method_26_code 138 = .ok (.getfield 127, 3) := by decide +kernel
theorem d_X6_readLog_141 : decode prog_8_method_26_code 141 = .ok (.iload 7, 2) := by decide +kernel
theorem d_X6_readLog_143 : decode prog_8_method_26_code 143 = .ok (.invokestatic 255, 3) := by decide +kernel
theorem d_X6_readLog_146 : decode prog_8_method_26_code 146 = .ok (.invokevirtual 193, 3) := by decide +kernel
theorem d_X6_readLog_149 : decode prog_8_method_26_code 149 = .ok (.goto 99, 3) := by decide +kernel
theorem d_X6_readLog_152 : decode prog_8_method_26_code 152 = .ok (.iload 4, 2) := by decide +kernel
theorem d_X6_readLog_154 : decode prog_8_method_26_code 154 = .ok (.bipush 13, 2) := by decide +kernel
theorem d_X6_readLog_156 : decode prog_8_method_26_code 156 = .ok (.if_icmp .eq 92, 3) := by decide +kernel
theorem d_X6_readLog_159 : decode prog_8_method_26_code 159 = .ok (.aload_n 0, 1) := by decide +kernel
theorem d_X6_readLog_160 : decode prog_8_method_26_code 160 = .ok (.getfield 19, 3) := by decide +kernel
theorem d_X6_readLog_163 : decode prog_8_method_26_code 163 = .ok (.iload 5, 2) := by decide +kernel
theorem d_X6_readLog_165 : decode prog_8_method_26_code 165 = .ok (.aaload, 1) := by decide +kernel
theorem d_X6_readLog_166 : decode prog_8_method_26_code 166 = .ok (.aload_n 0, 1) := by decide +kernel
theorem d_X6_readLog_167 : decode prog_8_method_26_code 167 = .ok (.getfield 41, 3) := by decide +kernel
theorem d_X6_readLog_170 : decode prog_8_method_26_code 170 = .ok (.getfield 127, 3) := by decide +kernel
theorem d_X6_readLog_173 : decode prog_8_method_26_code 173 = .ok (.invokevirtual 144, 3) := by decide +kernel
theorem d_X6_readLog_176 : decode prog_8_method_26_code 176 = .ok (.pop, 1) := by decide +kernel
theorem d_X6_readLog_177 : decode prog_8_method_26_code 177 = .ok (.aload_n 0, 1) := by decide +kernel
theorem d_X6_readLog_178 : decode prog_8_method_26_code 178 = .ok (.getfield 19, 3) := by decide +kernel
theorem d_X6_readLog_181 : decode prog_8_method_26_code 181 = .ok (.iload 5, 2) := by decide +kernel
theorem d_X6_readLog_183 : decode prog_8_method_26_code 183 = .ok (.aaload, 1) := by decide +kernel
theorem d_X6_readLog_184 : decode prog_8_method_26_code 184 = .ok (.iload 4, 2) := by decide +kernel
theorem d_X6_readLog_186 : decode prog_8_method_26_code 186 = .ok (.iload 6, 2) := by decide +kernel
theorem d_X6_readLog_188 : decode prog_8_method_26_code 188 = .ok (.iload 7, 2) := by decide +kernel
theorem d_X6_readLog_190 : decode prog_8_method_26_code 190 = .ok (.aload_n 1, 1) := by decide +kernel
theorem d_X6_readLog_191 : decode prog_8_method_26_code 191 = .ok (.iload_n 3, 1) := by decide +kernel
theorem d_X6_readLog_192 : decode prog_8_method_26_code 192 = .ok (.bipush 11, 2) := by decide +kernel
theorem d_X6_readLog_194 : decode prog_8_method_26_code 194 = .ok (.iadd, 1) := by decide +kernel
theorem d_X6_readLog_195 : decode prog_8_method_26_code 195 = .ok (.invokevirtual 252, 3) := by decide +kernel
theorem d_X6_readLog_198 : decode prog_8_method_26_code 198 = .ok (.aload_n 0, 1) := by decide +kernel
theorem d_X6_readLog_199 : decode prog_8_method_26_code 199 = .ok (.getfield 41, 3) := by decide +kernel
theorem d_X6_readLog_202 : decode prog_8_method_26_code 202 = .ok (.getfield 127, 3) := by decide +kernel
theorem d_X6_readLog_205 : decode prog_8_method_26_code 205 = .ok (.invokevirtual 132, 3) := by decide +kernel
theorem d_X6_readLog_208 : decode prog_8_method_26_code 208 = .ok (.aload_n 0, 1) := by decide +kernel
theorem d_X6_readLog_209 : decode prog_8_method_26_code 209 = .ok (.getfield 19, 3) := by decide +kernel
theorem d_X6_readLog_212 : decode prog_8_method_26_code 212 = .ok (.iload 5, 2) := by decide +kernel
theorem d_X6_readLog_214 : decode prog_8_method_26_code 214 = .ok (.aaload, 1) := by decide +kernel
theorem d_X6_readLog_215 : decode prog_8_method_26_code 215 = .ok (.iload 4, 2) := by decide +kernel
theorem d_X6_readLog_217 : decode prog_8_method_26_code 217 = .ok (.invokevirtual 136, 3) := by decide +kernel
theorem d_X6_readLog_220 : decode prog_8_method_26_code 220 = .ok (.ifCond .eq 28, 3) := by decide +kernel
theorem d_X6_readLog_223 : decode prog_8_method_26_code 223 = .ok (.aload_n 0, 1) := by decide +kernel
theorem d_X6_readLog_224 : decode prog_8_method_26_code 224 = .ok (.getfield 30, 3) := by decide +kernel
theorem d_X6_readLog_227 : decode prog_8_method_26_code 227 = .ok (.iload_n 2, 1) := by decide +kernel
theorem d_X6_readLog_228 : decode prog_8_method_26_code 228 = .ok (.iload 5, 2) := by decide +kernel
theorem d_X6_readLog_230 : decode prog_8_method_26_code 230 = .ok (.aload_n 0, 1) := by decide +kernel
theorem d_X6_readLog_231 : decode prog_8_method_26_code 231 = .ok (.getfield 19, 3) := by decide +kernel
theorem d_X6_readLog_234 : decode prog_8_method_26_code 234 = .ok (.iload 5, 2) := by decide +kernel
theorem d_X6_readLog_236 : decode prog_8_method_26_code 236 = .ok (.aaload, 1) := by decide +kernel
theorem d_X6_readLog_237 : decode prog_8_method_26_code 237 = .ok (.getfield 59, 3) := by decide +kernel
theorem d_X6_readLog_240 : decode prog_8_method_26_code 240 = .ok (.getfield 115, 3) := by decide +kernel
theorem d_X6_readLog_243 : decode prog_8_method_26_code 243 = .ok (.iconst 1, 1) := by decide +kernel
theorem d_X6_readLog_244 : decode prog_8_method_26_code 244 = .ok (.isub, 1) := by decide +kernel
theorem d_X6_readLog_245 : decode prog_8_method_26_code 245 = .ok (.invokevirtual 140, 3) := by decide +kernel
theorem d_X6_readLog_248 : decode prog_8_method_26_code 248 = .ok (.iinc 2 1, 3) := by decide +kernel
theorem d_X6_readLog_251 : decode prog_8_method_26_code 251 = .ok (.goto (-236), 3) := by decide +kernel
theorem d_X6_readLog_254 : decode prog_8_method_26_code 254 = .ok (.iconst 0, 1) := by decide +kernel
theorem d_X6_readLog_255 : decode prog_8_method_26_code 255 = .ok (.istore_n 2, 1) := by decide +kernel
theorem d_X6_readLog_256 : decode prog_8_method_26_code 256 = .ok (.iload_n 2, 1) := by decide +kernel
theorem d_X6_readLog_257 : decode prog_8_method_26_code 257 = .ok (.aload_n 0, 1) := by decide +kernel
theorem d_X6_readLog_258 : decode prog_8_method_26_code 258 = .ok (.getfield 56, 3) := by decide +kernel
theorem d_X6_readLog_261 : decode prog_8_method_26_code 261 = .ok (.if_icmp .ge 26, 3) := by decide +kernel
theorem d_X6_readLog_264 : decode prog_8_method_26_code 264 = .ok (.aload_n 0, 1) := by decide +kernel
theorem d_X6_readLog_265 : decode prog_8_method_26_code 265 = .ok (.getfield 19, 3) := by decide +kernel
theorem d_X6_readLog_268 : decode prog_8_method_26_code 268 = .ok (.iload_n 2, 1) := by decide +kernel
theorem d_X6_readLog_269 : decode prog_8_method_26_code 269 = .ok (.aaload, 1) := by decide +kernel
theorem d_X6_readLog_270 : decode prog_8_method_26_code 270 = .ok (.aload_n 0, 1) := by decide +kernel
theorem d_X6_readLog_271 : decode prog_8_method_26_code 271 = .ok (.getfield 41, 3) := by decide +kernel
theorem d_X6_readLog_274 : decode prog_8_method_26_code 274 = .ok (.getfield 127, 3) := by decide +kernel
theorem d_X6_readLog_277 : decode prog_8_method_26_code 277 = .ok (.invokevirtual 144, 3) := by decide +kernel
theorem d_X6_readLog_280 : decode prog_8_method_26_code 280 = .ok (.pop, 1) := by decide +kernel
theorem d_X6_readLog_281 : decode prog_8_method_26_code 281 = .ok (.iinc 2 1, 3) := by decide +kernel
theorem d_X6_readLog_284 : decode prog_8_method_26_code 284 = .ok (.goto (-28), 3) := by decide +kernel
theorem d_X6_readLog_287 : decode prog_8_method_26_code 287 = .ok (.return_, 1) := by decide +kernel
abbrev Y_X6_settle : Yx := (⟨"TaskWeave$Shard", "settle", "()V"⟩, prog_8_method_23_code, 3, none)
abbrev M_X6_settle : Mx := ("TaskWeave$Shard", prog_8_method_23_code, 3, false)
theorem yk_X6_settle : Yk Y_X6_settle 0 := ⟨by decide +kernel, by decide +kernel, ⟨by decide, by decide⟩, by decide +kernel, by decide, trivial⟩
theorem d_X6_settle_0 : decode prog_8_method_23_code 0 = .ok (.iconst 0, 1) := by decide +kernel
theorem d_X6_settle_1 : decode prog_8_method_23_code 1 = .ok (.istore_n 1, 1) := by decide +kernel
theorem d_X6_settle_2 : decode prog_8_method_23_code 2 = .ok (.iload_n 1, 1) := by decide +kernel
theorem d_X6_settle_3 : decode prog_8_method_23_code 3 = .ok (.iconst 5, 1) := by decide +kernel
theorem d_X6_settle_4 : decode prog_8_method_23_code 4 = .ok (.if_icmp .gt 76, 3) := by decide +kernel
theorem d_X6_settle_7 : decode prog_8_method_23_code 7 = .ok (.aload_n 0, 1) := by decide +kernel
theorem d_X6_settle_8 : decode prog_8_method_23_code 8 = .ok (.invokevirtual 200, 3) := by decide +kernel
theorem d_X6_settle_11 : decode prog_8_method_23_code 11 = .ok (.ifCond .ne 69, 3) := by decide +kernel
theorem d_X6_settle_14 : decode prog_8_method_23_code 14 = .ok (.aload_n 0, 1) := by decide +kernel
theorem d_X6_settle_15 : decode prog_8_method_23_code 15 = .ok (.invokevirtual 109, 3) := by decide +kernel
theorem d_X6_settle_18 : decode prog_8_method_23_code 18 = .ok (.ifCond .eq 62, 3) := by decide +kernel
theorem d_X6_settle_21 : decode prog_8_method_23_code 21 = .ok (.aload_n 0, 1) := by decide +kernel
theorem d_X6_settle_22 : decode prog_8_method_23_code 22 = .ok (.invokevirtual 234, 3) := by decide +kernel
theorem d_X6_settle_25 : decode prog_8_method_23_code 25 = .ok (.ifCond .eq 49, 3) := by decide +kernel
theorem d_X6_settle_28 : decode prog_8_method_23_code 28 = .ok (.aload_n 0, 1) := by decide +kernel
theorem d_X6_settle_29 : decode prog_8_method_23_code 29 = .ok (.aload_n 0, 1) := by decide +kernel
theorem d_X6_settle_30 : decode prog_8_method_23_code 30 = .ok (.getfield 11, 3) := by decide +kernel
theorem d_X6_settle_33 : decode prog_8_method_23_code 33 = .ok (.aload_n 0, 1) := by decide +kernel
theorem d_X6_settle_34 : decode prog_8_method_23_code 34 = .ok (.getfield 53, 3) := by decide +kernel
theorem d_X6_settle_37 : decode prog_8_method_23_code 37 = .ok (.aaload, 1) := by decide +kernel
theorem d_X6_settle_38 : decode prog_8_method_23_code 38 = .ok (.invokevirtual 237, 3) := by decide +kernel
theorem d_X6_settle_41 : decode prog_8_method_23_code 41 = .ok (.iconst 0, 1) := by decide +kernel
theorem d_X6_settle_42 : decode prog_8_method_23_code 42 = .ok (.istore_n 2, 1) := by decide +kernel
theorem d_X6_settle_43 : decode prog_8_method_23_code 43 = .ok (.iload_n 2, 1) := by decide +kernel
theorem d_X6_settle_44 : decode prog_8_method_23_code 44 = .ok (.aload_n 0, 1) := by decide +kernel
theorem d_X6_settle_45 : decode prog_8_method_23_code 45 = .ok (.getfield 56, 3) := by decide +kernel
theorem d_X6_settle_48 : decode prog_8_method_23_code 48 = .ok (.if_icmp .ge 26, 3) := by decide +kernel
theorem d_X6_settle_51 : decode prog_8_method_23_code 51 = .ok (.aload_n 0, 1) := by decide +kernel
theorem d_X6_settle_52 : decode prog_8_method_23_code 52 = .ok (.invokevirtual 200, 3) := by decide +kernel
theorem d_X6_settle_55 : decode prog_8_method_23_code 55 = .ok (.ifCond .eq 19, 3) := by decide +kernel
theorem d_X6_settle_58 : decode prog_8_method_23_code 58 = .ok (.aload_n 0, 1) := by decide +kernel
theorem d_X6_settle_59 : decode prog_8_method_23_code 59 = .ok (.aload_n 0, 1) := by decide +kernel
theorem d_X6_settle_60 : decode prog_8_method_23_code 60 = .ok (.getfield 19, 3) := by decide +kernel
theorem d_X6_settle_63 : decode prog_8_method_23_code 63 = .ok (.iload_n 2, 1) := by decide +kernel
theorem d_X6_settle_64 : decode prog_8_method_23_code 64 = .ok (.aaload, 1) := by decide +kernel
theorem d_X6_settle_65 : decode prog_8_method_23_code 65 = .ok (.invokevirtual 158, 3) := by decide +kernel
theorem d_X6_settle_68 : decode prog_8_method_23_code 68 = .ok (.iinc 2 1, 3) := by decide +kernel
theorem d_X6_settle_71 : decode prog_8_method_23_code 71 = .ok (.goto (-28), 3) := by decide +kernel
theorem d_X6_settle_74 : decode prog_8_method_23_code 74 = .ok (.iinc 1 1, 3) := by decide +kernel
theorem d_X6_settle_77 : decode prog_8_method_23_code 77 = .ok (.goto (-75), 3) := by decide +kernel
theorem d_X6_settle_80 : decode prog_8_method_23_code 80 = .ok (.return_, 1) := by decide +kernel
abbrev Y_X6_passTime : Yx := (⟨"TaskWeave$Shard", "passTime", "()V"⟩, prog_8_method_18_code, 3, none)
abbrev M_X6_passTime : Mx := ("TaskWeave$Shard", prog_8_method_18_code, 3, false)
theorem yk_X6_passTime : Yk Y_X6_passTime 0 := ⟨by decide +kernel, by decide +kernel, ⟨by decide, by decide⟩, by decide +kernel, by decide, trivial⟩
theorem d_X6_passTime_0 : decode prog_8_method_18_code 0 = .ok (.iconst 0, 1) := by decide +kernel
theorem d_X6_passTime_1 : decode prog_8_method_18_code 1 = .ok (.istore_n 1, 1) := by decide +kernel
theorem d_X6_passTime_2 : decode prog_8_method_18_code 2 = .ok (.iload_n 1, 1) := by decide +kernel
theorem d_X6_passTime_3 : decode prog_8_method_18_code 3 = .ok (.aload_n 0, 1) := by decide +kernel
theorem d_X6_passTime_4 : decode prog_8_method_18_code 4 = .ok (.getfield 56, 3) := by decide +kernel
theorem d_X6_passTime_7 : decode prog_8_method_18_code 7 = .ok (.if_icmp .ge 73, 3) := by decide +kernel
theorem d_X6_passTime_10 : decode prog_8_method_18_code 10 = .ok (.aload_n 0, 1) := by decide +kernel
theorem d_X6_passTime_11 : decode prog_8_method_18_code 11 = .ok (.invokevirtual 200, 3) := by decide +kernel
theorem d_X6_passTime_14 : decode prog_8_method_18_code 14 = .ok (.ifCond .eq 66, 3) := by decide +kernel
theorem d_X6_passTime_17 : decode prog_8_method_18_code 17 = .ok (.aload_n 0, 1) := by decide +kernel
theorem d_X6_passTime_18 : decode prog_8_method_18_code 18 = .ok (.getfield 19, 3) := by decide +kernel
theorem d_X6_passTime_21 : decode prog_8_method_18_code 21 = .ok (.iload_n 1, 1) := by decide +kernel
theorem d_X6_passTime_22 : decode prog_8_method_18_code 22 = .ok (.aaload, 1) := by decide +kernel
theorem d_X6_passTime_23 : decode prog_8_method_18_code 23 = .ok (.getfield 82, 3) := by decide +kernel
theorem d_X6_passTime_26 : decode prog_8_method_18_code 26 = .ok (.iconst 1, 1) := by decide +kernel
theorem d_X6_passTime_27 : decode prog_8_method_18_code 27 = .ok (.if_icmp .ne 47, 3) := by decide +kernel
theorem d_X6_passTime_30 : decode prog_8_method_18_code 30 = .ok (.aload_n 0, 1) := by decide +kernel
theorem d_X6_passTime_31 : decode prog_8_method_18_code 31 = .ok (.getfield 19, 3) := by decide +kernel
theorem d_X6_passTime_34 : decode prog_8_method_18_code 34 = .ok (.iload_n 1, 1) := by decide +kernel
theorem d_X6_passTime_35 : decode prog_8_method_18_code 35 = .ok (.aaload, 1) := by decide +kernel
theorem d_X6_passTime_36 : decode prog_8_method_18_code 36 = .ok (.getfield 203, 3) := by decide +kernel
theorem d_X6_passTime_39 : decode prog_8_method_18_code 39 = .ok (.aload_n 0, 1) := by decide +kernel
theorem d_X6_passTime_40 : decode prog_8_method_18_code 40 = .ok (.getfield 41, 3) := by decide +kernel
theorem d_X6_passTime_43 : decode prog_8_method_18_code 43 = .ok (.getfield 127, 3) := by decide +kernel
theorem d_X6_passTime_46 : decode prog_8_method_18_code 46 = .ok (.if_icmp .gt 28, 3) := by decide +kernel
theorem d_X6_passTime_49 : decode prog_8_method_18_code 49 = .ok (.aload_n 0, 1) := by decide +kernel
theorem d_X6_passTime_50 : decode prog_8_method_18_code 50 = .ok (.aload_n 0, 1) := by decide +kernel
theorem d_X6_passTime_51 : decode prog_8_method_18_code 51 = .ok (.getfield 19, 3) := by decide +kernel
theorem d_X6_passTime_54 : decode prog_8_method_18_code 54 = .ok (.iload_n 1, 1) := by decide +kernel
theorem d_X6_passTime_55 : decode prog_8_method_18_code 55 = .ok (.aaload, 1) := by decide +kernel
theorem d_X6_passTime_56 : decode prog_8_method_18_code 56 = .ok (.iconst 5, 1) := by decide +kernel
theorem d_X6_passTime_57 : decode prog_8_method_18_code 57 = .ok (.aload_n 0, 1) := by decide +kernel
theorem d_X6_passTime_58 : decode prog_8_method_18_code 58 = .ok (.getfield 41, 3) := by decide +kernel
theorem d_X6_passTime_61 : decode prog_8_method_18_code 61 = .ok (.getfield 127, 3) := by decide +kernel
theorem d_X6_passTime_64 : decode prog_8_method_18_code 64 = .ok (.iconst 0, 1) := by decide +kernel
theorem d_X6_passTime_65 : decode prog_8_method_18_code 65 = .ok (.iconst 0, 1) := by decide +kernel
theorem d_X6_passTime_66 : decode prog_8_method_18_code 66 = .ok (.invokevirtual 190, 3) := by decide +kernel
theorem d_X6_passTime_69 : decode prog_8_method_18_code 69 = .ok (.pop, 1) := by decide +kernel
theorem d_X6_passTime_70 : decode prog_8_method_18_code 70 = .ok (.aload_n 0, 1) := by decide +kernel
theorem d_X6_passTime_71 : decode prog_8_method_18_code 71 = .ok (.invokevirtual 206, 3) := by decide +kernel
theorem d_X6_passTime_74 : decode prog_8_method_18_code 74 = .ok (.iinc 1 1, 3) := by decide +kernel
theorem d_X6_passTime_77 : decode prog_8_method_18_code 77 = .ok (.goto (-75), 3) := by decide +kernel
theorem d_X6_passTime_80 : decode prog_8_method_18_code 80 = .ok (.iconst 0, 1) := by decide +kernel
theorem d_X6_passTime_81 : decode prog_8_method_18_code 81 = .ok (.istore_n 1, 1) := by decide +kernel
theorem d_X6_passTime_82 : decode prog_8_method_18_code 82 = .ok (.iload_n 1, 1) := by decide +kernel
theorem d_X6_passTime_83 : decode prog_8_method_18_code 83 = .ok (.aload_n 0, 1) := by decide +kernel
theorem d_X6_passTime_84 : decode prog_8_method_18_code 84 = .ok (.getfield 56, 3) := by decide +kernel
theorem d_X6_passTime_87 : decode prog_8_method_18_code 87 = .ok (.if_icmp .ge 74, 3) := by decide +kernel
theorem d_X6_passTime_90 : decode prog_8_method_18_code 90 = .ok (.aload_n 0, 1) := by decide +kernel
theorem d_X6_passTime_91 : decode prog_8_method_18_code 91 = .ok (.invokevirtual 200, 3) := by decide +kernel
theorem d_X6_passTime_94 : decode prog_8_method_18_code 94 = .ok (.ifCond .eq 67, 3) := by decide +kernel
theorem d_X6_passTime_97 : decode prog_8_method_18_code 97 = .ok (.aload_n 0, 1) := by decide +kernel
theorem d_X6_passTime_98 : decode prog_8_method_18_code 98 = .ok (.getfield 19, 3) := by decide +kernel
theorem d_X6_passTime_101 : decode prog_8_method_18_code 101 = .ok (.iload_n 1, 1) := by decide +kernel
theorem d_X6_passTime_102 : decode prog_8_method_18_code 102 = .ok (.aaload, 1) := by decide +kernel
theorem d_X6_passTime_103 : decode prog_8_method_18_code 103 = .ok (.getfield 85, 3) := by decide +kernel
theorem d_X6_passTime_106 : decode prog_8_method_18_code 106 = .ok (.astore_n 2, 1) := by decide +kernel
theorem d_X6_passTime_107 : decode prog_8_method_18_code 107 = .ok (.aload_n 0, 1) := by decide +kernel
theorem d_X6_passTime_108 : decode prog_8_method_18_code 108 = .ok (.getfield 19, 3) := by decide +kernel
theorem d_X6_passTime_111 : decode prog_8_method_18_code 111 = .ok (.iload_n 1, 1) := by decide +kernel
theorem d_X6_passTime_112 : decode prog_8_method_18_code 112 = .ok (.aaload, 1) := by decide +kernel
theorem d_X6_passTime_113 : decode prog_8_method_18_code 113 = .ok (.getfield 82, 3) := by decide +kernel
theorem d_X6_passTime_116 : decode prog_8_method_18_code 116 = .ok (.ifCond .ne 39, 3) := by decide +kernel
theorem d_X6_passTime_119 : decode prog_8_method_18_code 119 = .ok (.aload_n 2, 1) := by decide +kernel
theorem d_X6_passTime_120 : decode prog_8_method_18_code 120 = .ok (.getfield 89, 3) := by decide +kernel
theorem d_X6_passTime_123 : decode prog_8_method_18_code 123 = .ok (.ifCond .le 32, 3) := by decide +kernel
theorem d_X6_passTime_126 : decode prog_8_method_18_code 126 = .ok (.aload_n 2, 1) := by decide +kernel
theorem d_X6_passTime_127 : decode prog_8_method_18_code 127 = .ok (.getfield 209, 3) := by decide +kernel
theorem d_X6_passTime_130 : decode prog_8_method_18_code 130 = .ok (.aload_n 0, 1) := by decide +kernel
theorem d_X6_passTime_131 : decode prog_8_method_18_code 131 = .ok (.getfield 41, 3) := by decide +kernel
theorem d_X6_passTime_134 : decode prog_8_method_18_code 134 = .ok (.getfield 127, 3) := by decide +kernel
theorem d_X6_passTime_137 : decode prog_8_method_18_code 137 = .ok (.if_icmp .gt 18, 3) := by decide +kernel
theorem d_X6_passTime_140 : decode prog_8_method_18_code 140 = .ok (.aload_n 0, 1) := by decide +kernel
theorem d_X6_passTime_141 : decode prog_8_method_18_code 141 = .ok (.aload_n 0, 1) := by decide +kernel
theorem d_X6_passTime_142 : decode prog_8_method_18_code 142 = .ok (.getfield 19, 3) := by decide +kernel
theorem d_X6_passTime_145 : decode prog_8_method_18_code 145 = .ok (.iload_n 1, 1) := by decide +kernel
theorem d_X6_passTime_146 : decode prog_8_method_18_code 146 = .ok (.aaload, 1) := by decide +kernel
theorem d_X6_passTime_147 : decode prog_8_method_18_code 147 = .ok (.invokevirtual 212, 3) := by decide +kernel
theorem d_X6_passTime_150 : decode prog_8_method_18_code 150 = .ok (.pop, 1) := by decide +kernel
theorem d_X6_passTime_151 : decode prog_8_method_18_code 151 = .ok (.aload_n 0, 1) := by decide +kernel
theorem d_X6_passTime_152 : decode prog_8_method_18_code 152 = .ok (.invokevirtual 206, 3) := by decide +kernel
theorem d_X6_passTime_155 : decode prog_8_method_18_code 155 = .ok (.iinc 1 1, 3) := by decide +kernel
theorem d_X6_passTime_158 : decode prog_8_method_18_code 158 = .ok (.goto (-76), 3) := by decide +kernel
theorem d_X6_passTime_161 : decode prog_8_method_18_code 161 = .ok (.return_, 1) := by decide +kernel
abbrev Y_X6_renew : Yx := (⟨"TaskWeave$Shard", "renew", "(I)Z"⟩, prog_8_method_19_code, 3, (some .boolean))
abbrev M_X6_renew : Mx := ("TaskWeave$Shard", prog_8_method_19_code, 3, false)
theorem yk_X6_renew : Yk Y_X6_renew 1 := ⟨by decide +kernel, by decide +kernel, ⟨by decide, by decide⟩, by decide +kernel, by decide, trivial⟩
theorem d_X6_renew_0 : decode prog_8_method_19_code 0 = .ok (.iconst 0, 1) := by decide +kernel
theorem d_X6_renew_1 : decode prog_8_method_19_code 1 = .ok (.istore_n 2, 1) := by decide +kernel
theorem d_X6_renew_2 : decode prog_8_method_19_code 2 = .ok (.iload_n 2, 1) := by decide +kernel
theorem d_X6_renew_3 : decode prog_8_method_19_code 3 = .ok (.aload_n 0, 1) := by decide +kernel
theorem d_X6_renew_4 : decode prog_8_method_19_code 4 = .ok (.getfield 34, 3) := by decide +kernel
theorem d_X6_renew_7 : decode prog_8_method_19_code 7 = .ok (.if_icmp .ge 25, 3) := by decide +kernel
theorem d_X6_renew_10 : decode prog_8_method_19_code 10 = .ok (.aload_n 0, 1) := by decide +kernel
theorem d_X6_renew_11 : decode prog_8_method_19_code 11 = .ok (.getfield 11, 3) := by decide +kernel
theorem d_X6_renew_14 : decode prog_8_method_19_code 14 = .ok (.iload_n 2, 1) := by decide +kernel
theorem d_X6_renew_15 : decode prog_8_method_19_code 15 = .ok (.aaload, 1) := by decide +kernel
theorem d_X6_renew_16 : decode prog_8_method_19_code 16 = .ok (.getfield 69, 3) := by decide +kernel
theorem d_X6_renew_19 : decode prog_8_method_19_code 19 = .ok (.bipush 16, 2) := by decide +kernel
theorem d_X6_renew_21 : decode prog_8_method_19_code 21 = .ok (.if_icmp .lt 5, 3) := by decide +kernel
theorem d_X6_renew_24 : decode prog_8_method_19_code 24 = .ok (.iconst 0, 1) := by decide +kernel
theorem d_X6_renew_25 : decode prog_8_method_19_code 25 = .ok (.ireturn, 1) := by decide +kernel
theorem d_X6_renew_26 : decode prog_8_method_19_code 26 = .ok (.iinc 2 1, 3) := by decide +kernel
theorem d_X6_renew_29 : decode prog_8_method_19_code 29 = .ok (.goto (-27), 3) := by decide +kernel
theorem d_X6_renew_32 : decode prog_8_method_19_code 32 = .ok (.aload_n 0, 1) := by decide +kernel
theorem d_X6_renew_33 : decode prog_8_method_19_code 33 = .ok (.getfield 102, 3) := by decide +kernel
theorem d_X6_renew_36 : decode prog_8_method_19_code 36 = .ok (.ifCond .eq 5, 3) := by decide +kernel
theorem d_X6_renew_39 : decode prog_8_method_19_code 39 = .ok (.iconst 0, 1) := by decide +kernel
theorem d_X6_renew_40 : decode prog_8_method_19_code 40 = .ok (.ireturn, 1) := by decide +kernel
theorem d_X6_renew_41 : decode prog_8_method_19_code 41 = .ok (.iconst 0, 1) := by decide +kernel
theorem d_X6_renew_42 : decode prog_8_method_19_code 42 = .ok (.istore_n 2, 1) := by decide +kernel
theorem d_X6_renew_43 : decode prog_8_method_19_code 43 = .ok (.iload_n 2, 1) := by decide +kernel
theorem d_X6_renew_44 : decode prog_8_method_19_code 44 = .ok (.iconst 5, 1) := by decide +kernel
theorem d_X6_renew_45 : decode prog_8_method_19_code 45 = .ok (.if_icmp .ge 39, 3) := by decide +kernel
theorem d_X6_renew_48 : decode prog_8_method_19_code 48 = .ok (.aload_n 0, 1) := by decide +kernel
theorem d_X6_renew_49 : decode prog_8_method_19_code 49 = .ok (.getfield 11, 3) := by decide +kernel
theorem d_X6_renew_52 : decode prog_8_method_19_code 52 = .ok (.iload_n 2, 1) := by decide +kernel
theorem d_X6_renew_53 : decode prog_8_method_19_code 53 = .ok (.aaload, 1) := by decide +kernel
theorem d_X6_renew_54 : decode prog_8_method_19_code 54 = .ok (.iconst 0, 1) := by decide +kernel
theorem d_X6_renew_55 : decode prog_8_method_19_code 55 = .ok (.putfield 69, 3) := by decide +kernel
theorem d_X6_renew_58 : decode prog_8_method_19_code 58 = .ok (.aload_n 0, 1) := by decide +kernel
theorem d_X6_renew_59 : decode prog_8_method_19_code 59 = .ok (.getfield 11, 3) := by decide +kernel
theorem d_X6_renew_62 : decode prog_8_method_19_code 62 = .ok (.iload_n 2, 1) := by decide +kernel
theorem d_X6_renew_63 : decode prog_8_method_19_code 63 = .ok (.aaload, 1) := by decide +kernel
theorem d_X6_renew_64 : decode prog_8_method_19_code 64 = .ok (.iconst 1, 1) := by decide +kernel
theorem d_X6_renew_65 : decode prog_8_method_19_code 65 = .ok (.putfield 94, 3) := by decide +kernel
theorem d_X6_renew_68 : decode prog_8_method_19_code 68 = .ok (.aload_n 0, 1) := by decide +kernel
theorem d_X6_renew_69 : decode prog_8_method_19_code 69 = .ok (.getfield 11, 3) := by decide +kernel
theorem d_X6_renew_72 : decode prog_8_method_19_code 72 = .ok (.iload_n 2, 1) := by decide +kernel
theorem d_X6_renew_73 : decode prog_8_method_19_code 73 = .ok (.aaload, 1) := by decide +kernel
theorem d_X6_renew_74 : decode prog_8_method_19_code 74 = .ok (.iconst (-1), 1) := by decide +kernel
theorem d_X6_renew_75 : decode prog_8_method_19_code 75 = .ok (.putfield 216, 3) := by decide +kernel
theorem d_X6_renew_78 : decode prog_8_method_19_code 78 = .ok (.iinc 2 1, 3) := by decide +kernel
theorem d_X6_renew_81 : decode prog_8_method_19_code 81 = .ok (.goto (-38), 3) := by decide +kernel
theorem d_X6_renew_84 : decode prog_8_method_19_code 84 = .ok (.aload_n 0, 1) := by decide +kernel
theorem d_X6_renew_85 : decode prog_8_method_19_code 85 = .ok (.iload_n 1, 1) := by decide +kernel
theorem d_X6_renew_86 : decode prog_8_method_19_code 86 = .ok (.putfield 34, 3) := by decide +kernel
theorem d_X6_renew_89 : decode prog_8_method_19_code 89 = .ok (.aload_n 0, 1) := by decide +kernel
theorem d_X6_renew_90 : decode prog_8_method_19_code 90 = .ok (.iconst 0, 1) := by decide +kernel
theorem d_X6_renew_91 : decode prog_8_method_19_code 91 = .ok (.putfield 53, 3) := by decide +kernel
theorem d_X6_renew_94 : decode prog_8_method_19_code 94 = .ok (.iconst 1, 1) := by decide +kernel
theorem d_X6_renew_95 : decode prog_8_method_19_code 95 = .ok (.ireturn, 1) := by decide +kernel
abbrev Y_X6_raise : Yx := (⟨"TaskWeave$Shard", "raise", "(LTaskWeave$Replica;)V"⟩, prog_8_method_20_code, 2, none)
abbrev M_X6_raise : Mx := ("TaskWeave$Shard", prog_8_method_20_code, 2, false)
theorem yk_X6_raise : Yk Y_X6_raise 1 := ⟨by decide +kernel, by decide +kernel, ⟨by decide, by decide⟩, by decide +kernel, by decide, trivial⟩
theorem d_X6_raise_0 : decode prog_8_method_20_code 0 = .ok (.aload_n 1, 1) := by decide +kernel
theorem d_X6_raise_1 : decode prog_8_method_20_code 1 = .ok (.iconst 1, 1) := by decide +kernel
theorem d_X6_raise_2 : decode prog_8_method_20_code 2 = .ok (.putfield 94, 3) := by decide +kernel
theorem d_X6_raise_5 : decode prog_8_method_20_code 5 = .ok (.aload_n 1, 1) := by decide +kernel
theorem d_X6_raise_6 : decode prog_8_method_20_code 6 = .ok (.dup, 1) := by decide +kernel
theorem d_X6_raise_7 : decode prog_8_method_20_code 7 = .ok (.getfield 69, 3) := by decide +kernel
theorem d_X6_raise_10 : decode prog_8_method_20_code 10 = .ok (.aload_n 1, 1) := by decide +kernel
theorem d_X6_raise_11 : decode prog_8_method_20_code 11 = .ok (.getfield 69, 3) := by decide +kernel
theorem d_X6_raise_14 : decode prog_8_method_20_code 14 = .ok (.bipush 16, 2) := by decide +kernel
theorem d_X6_raise_16 : decode prog_8_method_20_code 16 = .ok (.irem, 1) := by decide +kernel
theorem d_X6_raise_17 : decode prog_8_method_20_code 17 = .ok (.isub, 1) := by decide +kernel
theorem d_X6_raise_18 : decode prog_8_method_20_code 18 = .ok (.putfield 69, 3) := by decide +kernel
theorem d_X6_raise_21 : decode prog_8_method_20_code 21 = .ok (.aload_n 0, 1) := by decide +kernel
theorem d_X6_raise_22 : decode prog_8_method_20_code 22 = .ok (.invokevirtual 200, 3) := by decide +kernel
theorem d_X6_raise_25 : decode prog_8_method_20_code 25 = .ok (.ifCond .eq 17, 3) := by decide +kernel
theorem d_X6_raise_28 : decode prog_8_method_20_code 28 = .ok (.aload_n 0, 1) := by decide +kernel
theorem d_X6_raise_29 : decode prog_8_method_20_code 29 = .ok (.aload_n 1, 1) := by decide +kernel
theorem d_X6_raise_30 : decode prog_8_method_20_code 30 = .ok (.aload_n 0, 1) := by decide +kernel
theorem d_X6_raise_31 : decode prog_8_method_20_code 31 = .ok (.getfield 11, 3) := by decide +kernel
theorem d_X6_raise_34 : decode prog_8_method_20_code 34 = .ok (.aload_n 0, 1) := by decide +kernel
theorem d_X6_raise_35 : decode prog_8_method_20_code 35 = .ok (.getfield 53, 3) := by decide +kernel
theorem d_X6_raise_38 : decode prog_8_method_20_code 38 = .ok (.aaload, 1) := by decide +kernel
theorem d_X6_raise_39 : decode prog_8_method_20_code 39 = .ok (.invokevirtual 219, 3) := by decide +kernel
theorem d_X6_raise_42 : decode prog_8_method_20_code 42 = .ok (.return_, 1) := by decide +kernel
abbrev Y_X6_lower : Yx := (⟨"TaskWeave$Shard", "lower", "(LTaskWeave$Replica;)V"⟩, prog_8_method_21_code, 2, none)
abbrev M_X6_lower : Mx := ("TaskWeave$Shard", prog_8_method_21_code, 2, false)
theorem yk_X6_lower : Yk Y_X6_lower 1 := ⟨by decide +kernel, by decide +kernel, ⟨by decide, by decide⟩, by decide +kernel, by decide, trivial⟩
theorem d_X6_lower_0 : decode prog_8_method_21_code 0 = .ok (.aload_n 1, 1) := by decide +kernel
theorem d_X6_lower_1 : decode prog_8_method_21_code 1 = .ok (.iconst 0, 1) := by decide +kernel
theorem d_X6_lower_2 : decode prog_8_method_21_code 2 = .ok (.putfield 94, 3) := by decide +kernel
theorem d_X6_lower_5 : decode prog_8_method_21_code 5 = .ok (.aload_n 1, 1) := by decide +kernel
theorem d_X6_lower_6 : decode prog_8_method_21_code 6 = .ok (.iconst (-1), 1) := by decide +kernel
theorem d_X6_lower_7 : decode prog_8_method_21_code 7 = .ok (.putfield 216, 3) := by decide +kernel
theorem d_X6_lower_10 : decode prog_8_method_21_code 10 = .ok (.aload_n 1, 1) := by decide +kernel
theorem d_X6_lower_11 : decode prog_8_method_21_code 11 = .ok (.getfield 223, 3) := by decide +kernel
theorem d_X6_lower_14 : decode prog_8_method_21_code 14 = .ok (.aload_n 0, 1) := by decide +kernel
theorem d_X6_lower_15 : decode prog_8_method_21_code 15 = .ok (.getfield 53, 3) := by decide +kernel
theorem d_X6_lower_18 : decode prog_8_method_21_code 18 = .ok (.if_icmp .eq 10, 3) := by decide +kernel
theorem d_X6_lower_21 : decode prog_8_method_21_code 21 = .ok (.aload_n 0, 1) := by decide +kernel
theorem d_X6_lower_22 : decode prog_8_method_21_code 22 = .ok (.invokevirtual 109, 3) := by decide +kernel
theorem d_X6_lower_25 : decode prog_8_method_21_code 25 = .ok (.ifCond .ne 7, 3) := by decide +kernel
theorem d_X6_lower_28 : decode prog_8_method_21_code 28 = .ok (.aload_n 0, 1) := by decide +kernel
theorem d_X6_lower_29 : decode prog_8_method_21_code 29 = .ok (.invokevirtual 112, 3) := by decide +kernel
theorem d_X6_lower_32 : decode prog_8_method_21_code 32 = .ok (.return_, 1) := by decide +kernel
abbrev Y_Jxa1e45_init_da8c8 : Yx := (⟨"java/util/AbstractCollection", "<init>", "()V"⟩, prog_26_method_1_code, 1, none)
abbrev M_Jxa1e45_init_da8c8 : Mx := ("java/util/AbstractCollection", prog_26_method_1_code, 1, true)
theorem yk_Jxa1e45_init_da8c8 : Yk Y_Jxa1e45_init_da8c8 0 := ⟨by decide +kernel, by decide +kernel, ⟨by decide, by decide⟩, by decide +kernel, by decide, trivial⟩
theorem d_Jxa1e45_init_da8c8_0 : decode prog_26_method_1_code 0 = .ok (.aload_n 0, 1) := by decide +kernel
theorem d_Jxa1e45_init_da8c8_1 : decode prog_26_method_1_code 1 = .ok (.invokespecial 1, 3) := by decide +kernel
theorem d_Jxa1e45_init_da8c8_4 : decode prog_26_method_1_code 4 = .ok (.return_, 1) := by decide +kernel
abbrev Y_Jxc12de_init_da8c8 : Yx := (⟨"java/util/AbstractList", "<init>", "()V"⟩, prog_27_method_1_code, 1, none)
abbrev M_Jxc12de_init_da8c8 : Mx := ("java/util/AbstractList", prog_27_method_1_code, 1, true)
theorem yk_Jxc12de_init_da8c8 : Yk Y_Jxc12de_init_da8c8 0 := ⟨by decide +kernel, by decide +kernel, ⟨by decide, by decide⟩, by decide +kernel, by decide, trivial⟩
theorem d_Jxc12de_init_da8c8_0 : decode prog_27_method_1_code 0 = .ok (.aload_n 0, 1) := by decide +kernel
theorem d_Jxc12de_init_da8c8_1 : decode prog_27_method_1_code 1 = .ok (.invokespecial 1, 3) := by decide +kernel
theorem d_Jxc12de_init_da8c8_4 : decode prog_27_method_1_code 4 = .ok (.aload_n 0, 1) := by decide +kernel
theorem d_Jxc12de_init_da8c8_5 : decode prog_27_method_1_code 5 = .ok (.iconst 0, 1) := by decide +kernel
theorem d_Jxc12de_init_da8c8_6 : decode prog_27_method_1_code 6 = .ok (.putfield 7, 3) := by decide +kernel
theorem d_Jxc12de_init_da8c8_9 : decode prog_27_method_1_code 9 = .ok (.return_, 1) := by decide +kernel
abbrev Y_Jx4a65c_init_da8c8 : Yx := (⟨"java/util/ArrayList", "<init>", "()V"⟩, prog_28_method_2_code, 1, none)
abbrev M_Jx4a65c_init_da8c8 : Mx := ("java/util/ArrayList", prog_28_method_2_code, 1, true)
theorem yk_Jx4a65c_init_da8c8 : Yk Y_Jx4a65c_init_da8c8 0 := ⟨by decide +kernel, by decide +kernel, ⟨by decide, by decide⟩, by decide +kernel, by decide, trivial⟩
theorem d_Jx4a65c_init_da8c8_0 : decode prog_28_method_2_code 0 = .ok (.aload_n 0, 1) := by decide +kernel
theorem d_Jx4a65c_init_da8c8_1 : decode prog_28_method_2_code 1 = .ok (.invokespecial 1, 3) := by decide +kernel
theorem d_Jx4a65c_init_da8c8_4 : decode prog_28_method_2_code 4 = .ok (.aload_n 0, 1) := by decide +kernel
theorem d_Jx4a65c_init_da8c8_5 : decode prog_28_method_2_code 5 = .ok (.getstatic 39, 3) := by decide +kernel
theorem d_Jx4a65c_init_da8c8_8 : decode prog_28_method_2_code 8 = .ok (.putfield 9, 3) := by decide +kernel
theorem d_Jx4a65c_init_da8c8_11 : decode prog_28_method_2_code 11 = .ok (.return_, 1) := by decide +kernel
abbrev Y_X7_init : Yx := (⟨"TaskWeave$Shelf", "<init>", "()V"⟩, prog_9_method_1_code, 1, none)
abbrev M_X7_init : Mx := ("TaskWeave$Shelf", prog_9_method_1_code, 1, true)
theorem yk_X7_init : Yk Y_X7_init 0 := ⟨by decide +kernel, by decide +kernel, ⟨by decide, by decide⟩, by decide +kernel, by decide, trivial⟩
theorem d_X7_init_0 : decode prog_9_method_1_code 0 = .ok (.aload_n 0, 1) := by decide +kernel
theorem d_X7_init_1 : decode prog_9_method_1_code 1 = .ok (.invokespecial 1, 3) := by decide +kernel
theorem d_X7_init_4 : decode prog_9_method_1_code 4 = .ok (.aload_n 0, 1) := by decide +kernel
theorem d_X7_init_5 : decode prog_9_method_1_code 5 = .ok (.new 7, 3) := by decide +kernel
theorem d_X7_init_8 : decode prog_9_method_1_code 8 = .ok (.dup, 1) := by decide +kernel
theorem d_X7_init_9 : decode prog_9_method_1_code 9 = .ok (.invokespecial 9, 3) := by decide +kernel
theorem d_X7_init_12 : decode prog_9_method_1_code 12 = .ok (.putfield 10, 3) := by decide +kernel
theorem d_X7_init_15 : decode prog_9_method_1_code 15 = .ok (.return_, 1) := by decide +kernel
abbrev Y_X9_parent : Yx := (⟨"TaskWeave$Workflow", "parent", "()I"⟩, prog_11_method_3_code, 2, (some .int))
abbrev M_X9_parent : Mx := ("TaskWeave$Workflow", prog_11_method_3_code, 2, false)
theorem yk_X9_parent : Yk Y_X9_parent 0 := ⟨by decide +kernel, by decide +kernel, ⟨by decide, by decide⟩, by decide +kernel, by decide, trivial⟩
theorem d_X9_parent_0 : decode prog_11_method_3_code 0 = .ok (.aload_n 0, 1) := by decide +kernel
theorem d_X9_parent_1 : decode prog_11_method_3_code 1 = .ok (.getfield 18, 3) := by decide +kernel
theorem d_X9_parent_4 : decode prog_11_method_3_code 4 = .ok (.getfield 71, 3) := by decide +kernel
theorem d_X9_parent_7 : decode prog_11_method_3_code 7 = .ok (.iconst 0, 1) := by decide +kernel
theorem d_X9_parent_8 : decode prog_11_method_3_code 8 = .ok (.iaload, 1) := by decide +kernel
theorem d_X9_parent_9 : decode prog_11_method_3_code 9 = .ok (.istore_n 1, 1) := by decide +kernel
theorem d_X9_parent_10 : decode prog_11_method_3_code 10 = .ok (.iload_n 1, 1) := by decide +kernel
theorem d_X9_parent_11 : decode prog_11_method_3_code 11 = .ok (.ifCond .ge 12, 3) := by decide +kernel
theorem d_X9_parent_14 : decode prog_11_method_3_code 14 = .ok (.iconst (-1), 1) := by decide +kernel
theorem d_X9_parent_15 : decode prog_11_method_3_code 15 = .ok (.iload_n 1, 1) := by decide +kernel
theorem d_X9_parent_16 : decode prog_11_method_3_code 16 = .ok (.isub, 1) := by decide +kernel
theorem d_X9_parent_17 : decode prog_11_method_3_code 17 = .ok (.bipush 64, 2) := by decide +kernel
theorem d_X9_parent_19 : decode prog_11_method_3_code 19 = .ok (.idiv, 1) := by decide +kernel
theorem d_X9_parent_20 : decode prog_11_method_3_code 20 = .ok (.goto 4, 3) := by decide +kernel
theorem d_X9_parent_23 : decode prog_11_method_3_code 23 = .ok (.iconst (-1), 1) := by decide +kernel
theorem d_X9_parent_24 : decode prog_11_method_3_code 24 = .ok (.ireturn, 1) := by decide +kernel
abbrev Y_X9_numberAsChild : Yx := (⟨"TaskWeave$Workflow", "numberAsChild", "()I"⟩, prog_11_method_4_code, 1, (some .int))
abbrev M_X9_numberAsChild : Mx := ("TaskWeave$Workflow", prog_11_method_4_code, 1, false)
theorem yk_X9_numberAsChild : Yk Y_X9_numberAsChild 0 := ⟨by decide +kernel, by decide +kernel, ⟨by decide, by decide⟩, by decide +kernel, by decide, trivial⟩
theorem d_X9_numberAsChild_0 : decode prog_11_method_4_code 0 = .ok (.iconst (-1), 1) := by decide +kernel
theorem d_X9_numberAsChild_1 : decode prog_11_method_4_code 1 = .ok (.aload_n 0, 1) := by decide +kernel
theorem d_X9_numberAsChild_2 : decode prog_11_method_4_code 2 = .ok (.getfield 18, 3) := by decide +kernel
theorem d_X9_numberAsChild_5 : decode prog_11_method_4_code 5 = .ok (.getfield 71, 3) := by decide +kernel
theorem d_X9_numberAsChild_8 : decode prog_11_method_4_code 8 = .ok (.iconst 0, 1) := by decide +kernel
theorem d_X9_numberAsChild_9 : decode prog_11_method_4_code 9 = .ok (.iaload, 1) := by decide +kernel
theorem d_X9_numberAsChild_10 : decode prog_11_method_4_code 10 = .ok (.isub, 1) := by decide +kernel
theorem d_X9_numberAsChild_11 : decode prog_11_method_4_code 11 = .ok (.bipush 64, 2) := by decide +kernel
theorem d_X9_numberAsChild_13 : decode prog_11_method_4_code 13 = .ok (.irem, 1) := by decide +kernel
theorem d_X9_numberAsChild_14 : decode prog_11_method_4_code 14 = .ok (.ireturn, 1) := by decide +kernel
abbrev Y_X9_shardOf : Yx := (⟨"TaskWeave$Workflow", "shardOf", "(I)I"⟩, prog_11_method_5_code, 4, (some .int))
abbrev M_X9_shardOf : Mx := ("TaskWeave$Workflow", prog_11_method_5_code, 4, false)
theorem yk_X9_shardOf : Yk Y_X9_shardOf 1 := ⟨by decide +kernel, by decide +kernel, ⟨by decide, by decide⟩, by decide +kernel, by decide, trivial⟩
theorem d_X9_shardOf_0 : decode prog_11_method_5_code 0 = .ok (.aload_n 0, 1) := by decide +kernel
theorem d_X9_shardOf_1 : decode prog_11_method_5_code 1 = .ok (.getfield 18, 3) := by decide +kernel
theorem d_X9_shardOf_4 : decode prog_11_method_5_code 4 = .ok (.bipush 6, 2) := by decide +kernel
theorem d_X9_shardOf_6 : decode prog_11_method_5_code 6 = .ok (.iload_n 1, 1) := by decide +kernel
theorem d_X9_shardOf_7 : decode prog_11_method_5_code 7 = .ok (.invokevirtual 74, 3) := by decide +kernel
theorem d_X9_shardOf_10 : decode prog_11_method_5_code 10 = .ok (.istore_n 2, 1) := by decide +kernel
theorem d_X9_shardOf_11 : decode prog_11_method_5_code 11 = .ok (.iload_n 1, 1) := by decide +kernel
theorem d_X9_shardOf_12 : decode prog_11_method_5_code 12 = .ok (.iconst (-1), 1) := by decide +kernel
theorem d_X9_shardOf_13 : decode prog_11_method_5_code 13 = .ok (.if_icmp .ne 10, 3) := by decide +kernel
theorem d_X9_shardOf_16 : decode prog_11_method_5_code 16 = .ok (.aload_n 0, 1) := by decide +kernel
theorem d_X9_shardOf_17 : decode prog_11_method_5_code 17 = .ok (.invokevirtual 78, 3) := by decide +kernel
theorem d_X9_shardOf_20 : decode prog_11_method_5_code 20 = .ok (.goto 29, 3) := by decide +kernel
theorem d_X9_shardOf_23 : decode prog_11_method_5_code 23 = .ok (.iload_n 2, 1) := by decide +kernel
theorem d_X9_shardOf_24 : decode prog_11_method_5_code 24 = .ok (.iconst (-1), 1) := by decide +kernel
theorem d_X9_shardOf_25 : decode prog_11_method_5_code 25 = .ok (.if_icmp .ne 10, 3) := by decide +kernel
theorem d_X9_shardOf_28 : decode prog_11_method_5_code 28 = .ok (.aload_n 0, 1) := by decide +kernel
theorem d_X9_shardOf_29 : decode prog_11_method_5_code 29 = .ok (.getfield 29, 3) := by decide +kernel
theorem d_X9_shardOf_32 : decode prog_11_method_5_code 32 = .ok (.goto 17, 3) := by decide +kernel
theorem d_X9_shardOf_35 : decode prog_11_method_5_code 35 = .ok (.aload_n 0, 1) := by decide +kernel
theorem d_X9_shardOf_36 : decode prog_11_method_5_code 36 = .ok (.getfield 29, 3) := by decide +kernel
theorem d_X9_shardOf_39 : decode prog_11_method_5_code 39 = .ok (.aload_n 0, 1) := by decide +kernel
theorem d_X9_shardOf_40 : decode prog_11_method_5_code 40 = .ok (.getfield 18, 3) := by decide +kernel
theorem d_X9_shardOf_43 : decode prog_11_method_5_code 43 = .ok (.getfield 82, 3) := by decide +kernel
theorem d_X9_shardOf_46 : decode prog_11_method_5_code 46 = .ok (.iload_n 2, 1) := by decide +kernel
theorem d_X9_shardOf_47 : decode prog_11_method_5_code 47 = .ok (.iaload, 1) := by decide +kernel
theorem d_X9_shardOf_48 : decode prog_11_method_5_code 48 = .ok (.iadd, 1) := by decide +kernel
theorem d_X9_shardOf_49 : decode prog_11_method_5_code 49 = .ok (.istore_n 3, 1) := by decide +kernel
theorem d_X9_shardOf_50 : decode prog_11_method_5_code 50 = .ok (.iload_n 3, 1) := by decide +kernel
theorem d_X9_shardOf_51 : decode prog_11_method_5_code 51 = .ok (.iconst 4, 1) := by decide +kernel
theorem d_X9_shardOf_52 : decode prog_11_method_5_code 52 = .ok (.invokestatic 85, 3) := by decide +kernel
theorem d_X9_shardOf_55 : decode prog_11_method_5_code 55 = .ok (.ireturn, 1) := by decide +kernel
abbrev Y_X9_offers : Yx := (⟨"TaskWeave$Workflow", "offers", "(II)Z"⟩, prog_11_method_6_code, 3, (some .boolean))
abbrev M_X9_offers : Mx := ("TaskWeave$Workflow", prog_11_method_6_code, 3, false)
theorem yk_X9_offers : Yk Y_X9_offers 2 := ⟨by decide +kernel, by decide +kernel, ⟨by decide, by decide⟩, by decide +kernel, by decide, trivial⟩
theorem d_X9_offers_0 : decode prog_11_method_6_code 0 = .ok (.aload_n 0, 1) := by decide +kernel
theorem d_X9_offers_1 : decode prog_11_method_6_code 1 = .ok (.getfield 59, 3) := by decide +kernel
theorem d_X9_offers_4 : decode prog_11_method_6_code 4 = .ok (.ifCond .ne 39, 3) := by decide +kernel
theorem d_X9_offers_7 : decode prog_11_method_6_code 7 = .ok (.aload_n 0, 1) := by decide +kernel
theorem d_X9_offers_8 : decode prog_11_method_6_code 8 = .ok (.getfield 25, 3) := by decide +kernel
theorem d_X9_offers_11 : decode prog_11_method_6_code 11 = .ok (.getfield 90, 3) := by decide +kernel
theorem d_X9_offers_14 : decode prog_11_method_6_code 14 = .ok (.iload_n 1, 1) := by decide +kernel
theorem d_X9_offers_15 : decode prog_11_method_6_code 15 = .ok (.if_icmp .ne 28, 3) := by decide +kernel
theorem d_X9_offers_18 : decode prog_11_method_6_code 18 = .ok (.aload_n 0, 1) := by decide +kernel
theorem d_X9_offers_19 : decode prog_11_method_6_code 19 = .ok (.getfield 25, 3) := by decide +kernel
theorem d_X9_offers_22 : decode prog_11_method_6_code 22 = .ok (.getfield 50, 3) := by decide +kernel
theorem d_X9_offers_25 : decode prog_11_method_6_code 25 = .ok (.ifCond .ne 18, 3) := by decide +kernel
theorem d_X9_offers_28 : decode prog_11_method_6_code 28 = .ok (.aload_n 0, 1) := by decide +kernel
theorem d_X9_offers_29 : decode prog_11_method_6_code 29 = .ok (.getfield 25, 3) := by decide +kernel
theorem d_X9_offers_32 : decode prog_11_method_6_code 32 = .ok (.getfield 93, 3) := by decide +kernel
theorem d_X9_offers_35 : decode prog_11_method_6_code 35 = .ok (.iload_n 2, 1) := by decide +kernel
theorem d_X9_offers_36 : decode prog_11_method_6_code 36 = .ok (.if_icmp .gt 7, 3) := by decide +kernel
theorem d_X9_offers_39 : decode prog_11_method_6_code 39 = .ok (.iconst 1, 1) := by decide +kernel
theorem d_X9_offers_40 : decode prog_11_method_6_code 40 = .ok (.goto 4, 3) := by decide +kernel
theorem d_X9_offers_43 : decode prog_11_method_6_code 43 = .ok (.iconst 0, 1) := by decide +kernel
theorem d_X9_offers_44 : decode prog_11_method_6_code 44 = .ok (.ireturn, 1) := by decide +kernel
abbrev Y_X9_hasDeadline : Yx := (⟨"TaskWeave$Workflow", "hasDeadline", "()Z"⟩, prog_11_method_7_code, 1, (some .boolean))
abbrev M_X9_hasDeadline : Mx := ("TaskWeave$Workflow", prog_11_method_7_code, 1, false)
theorem yk_X9_hasDeadline : Yk Y_X9_hasDeadline 0 := ⟨by decide +kernel, by decide +kernel, ⟨by decide, by decide⟩, by decide +kernel, by decide, trivial⟩
theorem d_X9_hasDeadline_0 : decode prog_11_method_7_code 0 = .ok (.aload_n 0, 1) := by decide +kernel
theorem d_X9_hasDeadline_1 : decode prog_11_method_7_code 1 = .ok (.getfield 59, 3) := by decide +kernel
theorem d_X9_hasDeadline_4 : decode prog_11_method_7_code 4 = .ok (.iconst 1, 1) := by decide +kernel
theorem d_X9_hasDeadline_5 : decode prog_11_method_7_code 5 = .ok (.if_icmp .eq 20, 3) := by decide +kernel
theorem d_X9_hasDeadline_8 : decode prog_11_method_7_code 8 = .ok (.aload_n 0, 1) := by decide +kernel
theorem d_X9_hasDeadline_9 : decode prog_11_method_7_code 9 = .ok (.getfield 59, 3) := by decide +kernel
theorem d_X9_hasDeadline_12 : decode prog_11_method_7_code 12 = .ok (.ifCond .ne 17, 3) := by decide +kernel
theorem d_X9_hasDeadline_15 : decode prog_11_method_7_code 15 = .ok (.aload_n 0, 1) := by decide +kernel
theorem d_X9_hasDeadline_16 : decode prog_11_method_7_code 16 = .ok (.getfield 25, 3) := by decide +kernel
theorem d_X9_hasDeadline_19 : decode prog_11_method_7_code 19 = .ok (.getfield 50, 3) := by decide +kernel
theorem d_X9_hasDeadline_22 : decode prog_11_method_7_code 22 = .ok (.ifCond .le 7, 3) := by decide +kernel
theorem d_X9_hasDeadline_25 : decode prog_11_method_7_code 25 = .ok (.iconst 1, 1) := by decide +kernel
theorem d_X9_hasDeadline_26 : decode prog_11_method_7_code 26 = .ok (.goto 4, 3) := by decide +kernel
theorem d_X9_hasDeadline_29 : decode prog_11_method_7_code 29 = .ok (.iconst 0, 1) := by decide +kernel
theorem d_X9_hasDeadline_30 : decode prog_11_method_7_code 30 = .ok (.ireturn, 1) := by decide +kernel
abbrev Y_X9_deadline : Yx := (⟨"TaskWeave$Workflow", "deadline", "()I"⟩, prog_11_method_8_code, 1, (some .int))
abbrev M_X9_deadline : Mx := ("TaskWeave$Workflow", prog_11_method_8_code, 1, false)
theorem yk_X9_deadline : Yk Y_X9_deadline 0 := ⟨by decide +kernel, by decide +kernel, ⟨by decide, by decide⟩, by decide +kernel, by decide, trivial⟩
theorem d_X9_deadline_0 : decode prog_11_method_8_code 0 = .ok (.aload_n 0, 1) := by decide +kernel
theorem d_X9_deadline_1 : decode prog_11_method_8_code 1 = .ok (.getfield 59, 3) := by decide +kernel
theorem d_X9_deadline_4 : decode prog_11_method_8_code 4 = .ok (.iconst 1, 1) := by decide +kernel
theorem d_X9_deadline_5 : decode prog_11_method_8_code 5 = .ok (.if_icmp .ne 10, 3) := by decide +kernel
theorem d_X9_deadline_8 : decode prog_11_method_8_code 8 = .ok (.aload_n 0, 1) := by decide +kernel
theorem d_X9_deadline_9 : decode prog_11_method_8_code 9 = .ok (.getfield 96, 3) := by decide +kernel
theorem d_X9_deadline_12 : decode prog_11_method_8_code 12 = .ok (.goto 10, 3) := by decide +kernel
theorem d_X9_deadline_15 : decode prog_11_method_8_code 15 = .ok (.aload_n 0, 1) := by decide +kernel
theorem d_X9_deadline_16 : decode prog_11_method_8_code 16 = .ok (.getfield 25, 3) := by decide +kernel
theorem d_X9_deadline_19 : decode prog_11_method_8_code 19 = .ok (.getfield 99, 3) := by decide +kernel
theorem d_X9_deadline_22 : decode prog_11_method_8_code 22 = .ok (.ireturn, 1) := by decide +kernel
abbrev Y_X10_init : Yx := (⟨"TaskWeave", "<init>", "()V"⟩, prog_1_method_1_code, 4, none)
abbrev M_X10_init : Mx := ("TaskWeave", prog_1_method_1_code, 4, true)
theorem yk_X10_init : Yk Y_X10_init 0 := ⟨by decide +kernel, by decide +kernel, ⟨by decide, by decide⟩, by decide +kernel, by decide, trivial⟩
theorem d_X10_init_0 : decode prog_1_method_1_code 0 = .ok (.aload_n 0, 1) := by decide +kernel
theorem d_X10_init_1 : decode prog_1_method_1_code 1 = .ok (.invokespecial 1, 3) := by decide +kernel
theorem d_X10_init_4 : decode prog_1_method_1_code 4 = .ok (.aload_n 0, 1) := by decide +kernel
theorem d_X10_init_5 : decode prog_1_method_1_code 5 = .ok (.new 7, 3) := by decide +kernel
theorem d_X10_init_8 : decode prog_1_method_1_code 8 = .ok (.dup, 1) := by decide +kernel
theorem d_X10_init_9 : decode prog_1_method_1_code 9 = .ok (.invokespecial 9, 3) := by decide +kernel
theorem d_X10_init_12 : decode prog_1_method_1_code 12 = .ok (.putfield 10, 3) := by decide +kernel
theorem d_X10_init_15 : decode prog_1_method_1_code 15 = .ok (.aload_n 0, 1) := by decide +kernel
theorem d_X10_init_16 : decode prog_1_method_1_code 16 = .ok (.iconst 4, 1) := by decide +kernel
theorem d_X10_init_17 : decode prog_1_method_1_code 17 = .ok (.anewarray 16, 3) := by decide +kernel
theorem d_X10_init_20 : decode prog_1_method_1_code 20 = .ok (.putfield 18, 3) := by decide +kernel
theorem d_X10_init_23 : decode prog_1_method_1_code 23 = .ok (.new 22, 3) := by decide +kernel
theorem d_X10_init_26 : decode prog_1_method_1_code 26 = .ok (.dup, 1) := by decide +kernel
theorem d_X10_init_27 : decode prog_1_method_1_code 27 = .ok (.invokespecial 24, 3) := by decide +kernel
theorem d_X10_init_30 : decode prog_1_method_1_code 30 = .ok (.astore_n 1, 1) := by decide +kernel
theorem d_X10_init_31 : decode prog_1_method_1_code 31 = .ok (.bipush 8, 2) := by decide +kernel
theorem d_X10_init_33 : decode prog_1_method_1_code 33 = .ok (.anewarray 25, 3) := by decide +kernel
theorem d_X10_init_36 : decode prog_1_method_1_code 36 = .ok (.astore_n 2, 1) := by decide +kernel
theorem d_X10_init_37 : decode prog_1_method_1_code 37 = .ok (.iconst 0, 1) := by decide +kernel
theorem d_X10_init_38 : decode prog_1_method_1_code 38 = .ok (.istore_n 3, 1) := by decide +kernel
theorem d_X10_init_39 : decode prog_1_method_1_code 39 = .ok (.iload_n 3, 1) := by decide +kernel
theorem d_X10_init_40 : decode prog_1_method_1_code 40 = .ok (.bipush 8, 2) := by decide +kernel
theorem d_X10_init_42 : decode prog_1_method_1_code 42 = .ok (.if_icmp .ge 19, 3) := by decide +kernel
theorem d_X10_init_45 : decode prog_1_method_1_code 45 = .ok (.aload_n 2, 1) := by decide +kernel
theorem d_X10_init_46 : decode prog_1_method_1_code 46 = .ok (.iload_n 3, 1) := by decide +kernel
theorem d_X10_init_47 : decode prog_1_method_1_code 47 = .ok (.new 25, 3) := by decide +kernel
theorem d_X10_init_50 : decode prog_1_method_1_code 50 = .ok (.dup, 1) := by decide +kernel
theorem d_X10_init_51 : decode prog_1_method_1_code 51 = .ok (.invokespecial 27, 3) := by decide +kernel
theorem d_X10_init_54 : decode prog_1_method_1_code 54 = .ok (.aastore, 1) := by decide +kernel
theorem d_X10_init_55 : decode prog_1_method_1_code 55 = .ok (.iinc 3 1, 3) := by decide +kernel
theorem d_X10_init_58 : decode prog_1_method_1_code 58 = .ok (.goto (-19), 3) := by decide +kernel
theorem d_X10_init_61 : decode prog_1_method_1_code 61 = .ok (.iconst 0, 1) := by decide +kernel
theorem d_X10_init_62 : decode prog_1_method_1_code 62 = .ok (.istore_n 3, 1) := by decide +kernel
theorem d_X10_init_63 : decode prog_1_method_1_code 63 = .ok (.iload_n 3, 1) := by decide +kernel
theorem d_X10_init_64 : decode prog_1_method_1_code 64 = .ok (.iconst 4, 1) := by decide +kernel
theorem d_X10_init_65 : decode prog_1_method_1_code 65 = .ok (.if_icmp .ge 25, 3) := by decide +kernel
theorem d_X10_init_68 : decode prog_1_method_1_code 68 = .ok (.aload_n 0, 1) := by decide +kernel
theorem d_X10_init_69 : decode prog_1_method_1_code 69 = .ok (.getfield 18, 3) := by decide +kernel
theorem d_X10_init_72 : decode prog_1_method_1_code 72 = .ok (.iload_n 3, 1) := by decide +kernel
theorem d_X10_init_73 : decode prog_1_method_1_code 73 = .ok (.new 16, 3) := by decide +kernel
theorem d_X10_init_76 : decode prog_1_method_1_code 76 = .ok (.dup, 1) := by decide +kernel
theorem d_X10_init_77 : decode prog_1_method_1_code 77 = .ok (.iload_n 3, 1) := by decide +kernel
theorem d_X10_init_78 : decode prog_1_method_1_code 78 = .ok (.aload_n 1, 1) := by decide +kernel
theorem d_X10_init_79 : decode prog_1_method_1_code 79 = .ok (.aload_n 2, 1) := by decide +kernel
theorem d_X10_init_80 : decode prog_1_method_1_code 80 = .ok (.invokespecial 28, 3) := by decide +kernel
theorem d_X10_init_83 : decode prog_1_method_1_code 83 = .ok (.aastore, 1) := by decide +kernel
theorem d_X10_init_84 : decode prog_1_method_1_code 84 = .ok (.iinc 3 1, 3) := by decide +kernel
theorem d_X10_init_87 : decode prog_1_method_1_code 87 = .ok (.goto (-24), 3) := by decide +kernel
theorem d_X10_init_90 : decode prog_1_method_1_code 90 = .ok (.aload_n 0, 1) := by decide +kernel
theorem d_X10_init_91 : decode prog_1_method_1_code 91 = .ok (.aload_n 1, 1) := by decide +kernel
theorem d_X10_init_92 : decode prog_1_method_1_code 92 = .ok (.putfield 31, 3) := by decide +kernel
theorem d_X10_init_95 : decode prog_1_method_1_code 95 = .ok (.aload_n 0, 1) := by decide +kernel
theorem d_X10_init_96 : decode prog_1_method_1_code 96 = .ok (.aload_n 2, 1) := by decide +kernel
theorem d_X10_init_97 : decode prog_1_method_1_code 97 = .ok (.putfield 35, 3) := by decide +kernel
theorem d_X10_init_100 : decode prog_1_method_1_code 100 = .ok (.return_, 1) := by decide +kernel
abbrev Y_X10_type : Yx := (⟨"TaskWeave", "type", "(JI)Z"⟩, prog_1_method_2_code, 4, (some .boolean))
abbrev M_X10_type : Mx := ("TaskWeave", prog_1_method_2_code, 4, false)
theorem yk_X10_type : Yk Y_X10_type 2 := ⟨by decide +kernel, by decide +kernel, ⟨by decide, by decide⟩, by decide +kernel, by decide, trivial⟩
theorem d_X10_type_0 : decode prog_1_method_2_code 0 = .ok (.aload_n 0, 1) := by decide +kernel
theorem d_X10_type_1 : decode prog_1_method_2_code 1 = .ok (.getfield 10, 3) := by decide +kernel
theorem d_X10_type_4 : decode prog_1_method_2_code 4 = .ok (.lload_n 1, 1) := by decide +kernel
theorem d_X10_type_5 : decode prog_1_method_2_code 5 = .ok (.iload_n 3, 1) := by decide +kernel
theorem d_X10_type_6 : decode prog_1_method_2_code 6 = .ok (.invokevirtual 39, 3) := by decide +kernel
theorem d_X10_type_9 : decode prog_1_method_2_code 9 = .ok (.ireturn, 1) := by decide +kernel
abbrev Y_X10_fault : Yx := (⟨"TaskWeave", "fault", "()I"⟩, prog_1_method_4_code, 1, (some .int))
abbrev M_X10_fault : Mx := ("TaskWeave", prog_1_method_4_code, 1, false)
theorem yk_X10_fault : Yk Y_X10_fault 0 := ⟨by decide +kernel, by decide +kernel, ⟨by decide, by decide⟩, by decide +kernel, by decide, trivial⟩
theorem d_X10_fault_0 : decode prog_1_method_4_code 0 = .ok (.aload_n 0, 1) := by decide +kernel
theorem d_X10_fault_1 : decode prog_1_method_4_code 1 = .ok (.getfield 10, 3) := by decide +kernel
theorem d_X10_fault_4 : decode prog_1_method_4_code 4 = .ok (.getfield 78, 3) := by decide +kernel
theorem d_X10_fault_7 : decode prog_1_method_4_code 7 = .ok (.ireturn, 1) := by decide +kernel
abbrev Y_X10_start : Yx := (⟨"TaskWeave", "start", "(III)I"⟩, prog_1_method_5_code, 8, (some .int))
abbrev M_X10_start : Mx := ("TaskWeave", prog_1_method_5_code, 8, false)
theorem yk_X10_start : Yk Y_X10_start 3 := ⟨by decide +kernel, by decide +kernel, ⟨by decide, by decide⟩, by decide +kernel, by decide, trivial⟩
theorem d_X10_start_0 : decode prog_1_method_5_code 0 = .ok (.iload_n 1, 1) := by decide +kernel
theorem d_X10_start_1 : decode prog_1_method_5_code 1 = .ok (.ifCond .ge 5, 3) := by decide +kernel
theorem d_X10_start_4 : decode prog_1_method_5_code 4 = .ok (.iconst (-1), 1) := by decide +kernel
theorem d_X10_start_5 : decode prog_1_method_5_code 5 = .ok (.ireturn, 1) := by decide +kernel
theorem d_X10_start_6 : decode prog_1_method_5_code 6 = .ok (.aload_n 0, 1) := by decide +kernel
theorem d_X10_start_7 : decode prog_1_method_5_code 7 = .ok (.getfield 18, 3) := by decide +kernel
theorem d_X10_start_10 : decode prog_1_method_5_code 10 = .ok (.iload_n 1, 1) := by decide +kernel
theorem d_X10_start_11 : decode prog_1_method_5_code 11 = .ok (.iconst 4, 1) := by decide +kernel
theorem d_X10_start_12 : decode prog_1_method_5_code 12 = .ok (.irem, 1) := by decide +kernel
theorem d_X10_start_13 : decode prog_1_method_5_code 13 = .ok (.aaload, 1) := by decide +kernel
theorem d_X10_start_14 : decode prog_1_method_5_code 14 = .ok (.astore 4, 2) := by decide +kernel
theorem d_X10_start_16 : decode prog_1_method_5_code 16 = .ok (.aload 4, 2) := by decide +kernel
theorem d_X10_start_18 : decode prog_1_method_5_code 18 = .ok (.invokevirtual 81, 3) := by decide +kernel
theorem d_X10_start_21 : decode prog_1_method_5_code 21 = .ok (.ifCond .ne 5, 3) := by decide +kernel
theorem d_X10_start_24 : decode prog_1_method_5_code 24 = .ok (.iconst (-1), 1) := by decide +kernel
theorem d_X10_start_25 : decode prog_1_method_5_code 25 = .ok (.ireturn, 1) := by decide +kernel
theorem d_X10_start_26 : decode prog_1_method_5_code 26 = .ok (.aload 4, 2) := by decide +kernel
theorem d_X10_start_28 : decode prog_1_method_5_code 28 = .ok (.iload_n 1, 1) := by decide +kernel
theorem d_X10_start_29 : decode prog_1_method_5_code 29 = .ok (.invokevirtual 85, 3) := by decide +kernel
theorem d_X10_start_32 : decode prog_1_method_5_code 32 = .ok (.astore 5, 2) := by decide +kernel
theorem d_X10_start_34 : decode prog_1_method_5_code 34 = .ok (.aload 5, 2) := by decide +kernel
theorem d_X10_start_36 : decode prog_1_method_5_code 36 = .ok (.ifnull 9, 3) := by decide +kernel
theorem d_X10_start_39 : decode prog_1_method_5_code 39 = .ok (.aload 5, 2) := by decide +kernel
theorem d_X10_start_41 : decode prog_1_method_5_code 41 = .ok (.getfield 89, 3) := by decide +kernel
theorem d_X10_start_44 : decode prog_1_method_5_code 44 = .ok (.ireturn, 1) := by decide +kernel
theorem d_X10_start_45 : decode prog_1_method_5_code 45 = .ok (.aload 4, 2) := by decide +kernel
theorem d_X10_start_47 : decode prog_1_method_5_code 47 = .ok (.iload_n 2, 1) := by decide +kernel
theorem d_X10_start_48 : decode prog_1_method_5_code 48 = .ok (.invokevirtual 94, 3) := by decide +kernel
theorem d_X10_start_51 : decode prog_1_method_5_code 51 = .ok (.ifCond .ne 5, 3) := by decide +kernel
theorem d_X10_start_54 : decode prog_1_method_5_code 54 = .ok (.iconst (-1), 1) := by decide +kernel
theorem d_X10_start_55 : decode prog_1_method_5_code 55 = .ok (.ireturn, 1) := by decide +kernel
theorem d_X10_start_56 : decode prog_1_method_5_code 56 = .ok (.aload 4, 2) := by decide +kernel
theorem d_X10_start_58 : decode prog_1_method_5_code 58 = .ok (.getfield 98, 3) := by decide +kernel
theorem d_X10_start_61 : decode prog_1_method_5_code 61 = .ok (.iconst 4, 1) := by decide +kernel
theorem d_X10_start_62 : decode prog_1_method_5_code 62 = .ok (.aload 4, 2) := by decide +kernel
theorem d_X10_start_64 : decode prog_1_method_5_code 64 = .ok (.getfield 101, 3) := by decide +kernel
theorem d_X10_start_67 : decode prog_1_method_5_code 67 = .ok (.imul, 1) := by decide +kernel
theorem d_X10_start_68 : decode prog_1_method_5_code 68 = .ok (.iadd, 1) := by decide +kernel
theorem d_X10_start_69 : decode prog_1_method_5_code 69 = .ok (.istore 6, 2) := by decide +kernel
theorem d_X10_start_71 : decode prog_1_method_5_code 71 = .ok (.aload 4, 2) := by decide +kernel
theorem d_X10_start_73 : decode prog_1_method_5_code 73 = .ok (.iload_n 2, 1) := by decide +kernel
theorem d_X10_start_74 : decode prog_1_method_5_code 74 = .ok (.iload_n 3, 1) := by decide +kernel
theorem d_X10_start_75 : decode prog_1_method_5_code 75 = .ok (.iload_n 1, 1) := by decide +kernel
theorem d_X10_start_76 : decode prog_1_method_5_code 76 = .ok (.invokevirtual 104, 3) := by decide +kernel
theorem d_X10_start_79 : decode prog_1_method_5_code 79 = .ok (.istore 7, 2) := by decide +kernel
theorem d_X10_start_81 : decode prog_1_method_5_code 81 = .ok (.aload 4, 2) := by decide +kernel
theorem d_X10_start_83 : decode prog_1_method_5_code 83 = .ok (.invokevirtual 108, 3) := by decide +kernel
theorem d_X10_start_86 : decode prog_1_method_5_code 86 = .ok (.iload 7, 2) := by decide +kernel
theorem d_X10_start_88 : decode prog_1_method_5_code 88 = .ok (.ifCond .eq 8, 3) := by decide +kernel
theorem d_X10_start_91 : decode prog_1_method_5_code 91 = .ok (.iload 6, 2) := by decide +kernel
theorem d_X10_start_93 : decode prog_1_method_5_code 93 = .ok (.goto 4, 3) := by decide +kernel
theorem d_X10_start_96 : decode prog_1_method_5_code 96 = .ok (.iconst (-1), 1) := by decide +kernel
theorem d_X10_start_97 : decode prog_1_method_5_code 97 = .ok (.ireturn, 1) := by decide +kernel
abbrev Y_X10_find : Yx := (⟨"TaskWeave", "find", "(I)LTaskWeave$Workflow;"⟩, prog_1_method_23_code, 2, (some (.object "TaskWeave$Workflow")))
abbrev M_X10_find : Mx := ("TaskWeave", prog_1_method_23_code, 2, false)
theorem yk_X10_find : Yk Y_X10_find 1 := ⟨by decide +kernel, by decide +kernel, ⟨by decide, by decide⟩, by decide +kernel, by decide, trivial⟩
theorem d_X10_find_0 : decode prog_1_method_23_code 0 = .ok (.iload_n 1, 1) := by decide +kernel
theorem d_X10_find_1 : decode prog_1_method_23_code 1 = .ok (.ifCond .ge 7, 3) := by decide +kernel
theorem d_X10_find_4 : decode prog_1_method_23_code 4 = .ok (.aconst_null, 1) := by decide +kernel
theorem d_X10_find_5 : decode prog_1_method_23_code 5 = .ok (.goto 17, 3) := by decide +kernel
theorem d_X10_find_8 : decode prog_1_method_23_code 8 = .ok (.aload_n 0, 1) := by decide +kernel
theorem d_X10_find_9 : decode prog_1_method_23_code 9 = .ok (.getfield 18, 3) := by decide +kernel
theorem d_X10_find_12 : decode prog_1_method_23_code 12 = .ok (.iload_n 1, 1) := by decide +kernel
theorem d_X10_find_13 : decode prog_1_method_23_code 13 = .ok (.iconst 4, 1) := by decide +kernel
theorem d_X10_find_14 : decode prog_1_method_23_code 14 = .ok (.irem, 1) := by decide +kernel
theorem d_X10_find_15 : decode prog_1_method_23_code 15 = .ok (.aaload, 1) := by decide +kernel
theorem d_X10_find_16 : decode prog_1_method_23_code 16 = .ok (.iload_n 1, 1) := by decide +kernel
theorem d_X10_find_17 : decode prog_1_method_23_code 17 = .ok (.iconst 4, 1) := by decide +kernel
theorem d_X10_find_18 : decode prog_1_method_23_code 18 = .ok (.idiv, 1) := by decide +kernel
theorem d_X10_find_19 : decode prog_1_method_23_code 19 = .ok (.invokevirtual 280, 3) := by decide +kernel
theorem d_X10_find_22 : decode prog_1_method_23_code 22 = .ok (.areturn, 1) := by decide +kernel
theorem vk_5_241 : Vk "TaskWeave$Shard" 241 0 7 Y_X6_candidate := ⟨yk_X6_candidate, by decide +kernel, by decide +kernel, by decide +kernel, by decide⟩
theorem vk_5_200 : Vk "TaskWeave$Shard" 200 0 7 Y_X6_works := ⟨yk_X6_works, by decide +kernel, by decide +kernel, by decide +kernel, by decide⟩
theorem vk_5_219 : Vk "TaskWeave$Shard" 219 2 7 Y_X6_makeAlike := ⟨yk_X6_makeAlike, by decide +kernel, by decide +kernel, by decide +kernel, by decide⟩
def f_X6_elect_74 (K20 : Nat → Int32 → Hp → Option (Int32 × Hp)) (l0 : Nat) (l1 : Int32) (h : Hp) : Option (Int32 × Hp) := bh ((l1) + (1 : Int32)) (fun x23 => K20 (l0) (x23) (h))
theorem f_X6_elect_74_ok {G : Gd} {d : Nat} (K20 : Nat → Int32 → Hp → Option (Int32 × Hp)) (hj : 4 ≤ d) (hK20 : ∀ (l0 : Nat) (l1 : Int32) (L : List (Nat × Value)) (h : Hp) (o : (Int32 × Hp)), zlk L 0 = some (zrf (l0)) → zlk L 1 = some (.int (l1)) → K20 l0 l1 h = some o → Ev G M_X6_elect d 20 L [] h (Ret Y_X6_elect (some (.int o.1)) o.2)) : ∀ (l0 : Nat) (l1 : Int32) (L : List (Nat × Value)) (h : Hp) (o : (Int32 × Hp)), zlk L 0 = some (zrf (l0)) → zlk L 1 = some (.int (l1)) → f_X6_elect_74 K20 l0 l1 h = some o → Ev G M_X6_elect d 74 L [] h (Ret Y_X6_elect (some (.int o.1)) o.2) := by
  intro l0 l1 L h o g0 g1 e
  unfold f_X6_elect_74 at e
  replace e := bhd e
  obtain ⟨_, rfl, e⟩ := e
  refine s_iinc d_X6_elect_74 g1 (w := (1 : Int32)) (by decide +kernel) (by decide) (fun L g1 gK => ?_)
  replace g0 := gK _ _ (by decide) (Or.inr (zrf_cat _)) g0
  refine r_goto d_X6_elect_77 (tgt := 20) (by decide) ?_
  exact hK20 _ _ _ _ _ g0 g1 e

def f_X6_elect_20 : Nat → Nat → Int32 → Hp → Option (Int32 × Hp)
  | 0, _, _, _ => none
  | n + 1, l0, l1, h => ck (isO (h) (l0) 7) (if (zI (h) 707 (l0)) ≤ (l1) then ((f_X6_commit (l0) ((13 : Int32)) ((0 : Int32)) (zI (h) 708 (l0)) ((0 : Int32)) ((0 : Int32)) (h)).bind (fun q8 => ck (isB (q8.1)) (some (q8.1, q8.2)))) else ((f_X6_works (l0) (h)).bind (fun q10 => if (q10.1) = (0) then (ck (isO (q10.2) (l0) 7) ((f_X6_commit (l0) ((13 : Int32)) ((0 : Int32)) (zI (q10.2) 708 (l0)) ((0 : Int32)) ((0 : Int32)) (q10.2)).bind (fun q13 => ck (isB (q13.1)) (some (q13.1, q13.2))))) else (ck (isO (q10.2) (l0) 7) (if (l1) = (zI (q10.2) 708 (l0)) then (f_X6_elect_74 (f_X6_elect_20 n) (l0) (l1) (q10.2)) else (ck (isO (q10.2) (zR (q10.2) 703 (l0)) 25) (ck (inR (l1) (zL (q10.2) (zR (q10.2) 703 (l0)))) (ck (isO (q10.2) (zQ (q10.2) (zR (q10.2) 703 (l0)) (l1).toNatClampNeg) 6) (if (zI (q10.2) 603 (zQ (q10.2) (zR (q10.2) 703 (l0)) (l1).toNatClampNeg)) = (0) then (f_X6_elect_74 (f_X6_elect_20 n) (l0) (l1) (q10.2)) else (ck (inR (zI (q10.2) 708 (l0)) (zL (q10.2) (zR (q10.2) 703 (l0)))) ((f_X6_makeAlike (l0) (zQ (q10.2) (zR (q10.2) 703 (l0)) (l1).toNatClampNeg) (zQ (q10.2) (zR (q10.2) 703 (l0)) (zI (q10.2) 708 (l0)).toNatClampNeg) (q10.2)).bind (fun q22 => f_X6_elect_74 (f_X6_elect_20 n) (l0) (l1) (q22)))))))))))))
theorem f_X6_elect_20_ok {G : Gd} {d : Nat} (hj : 4 ≤ d) : ∀ (n : Nat) (l0 : Nat) (l1 : Int32) (L : List (Nat × Value)) (h : Hp) (o : (Int32 × Hp)), zlk L 0 = some (zrf (l0)) → zlk L 1 = some (.int (l1)) → f_X6_elect_20 n l0 l1 h = some o → Ev G M_X6_elect d 20 L [] h (Ret Y_X6_elect (some (.int o.1)) o.2) := by
  intro n
  induction n with
  | zero =>
    intro l0 l1 L h o g0 g1 e
    cases e
  | succ n ih =>
    intro l0 l1 L h o g0 g1 e
    unfold f_X6_elect_20 at e
    refine r_iload_n d_X6_elect_20 rfl g1 ?_
    refine g_ald_n d_X6_elect_21 rfl g0 ?_
    replace e := ckd e
    obtain ⟨k6, e⟩ := e
    refine g_getI d_X6_elect_22 (f := 707) k6 fk_5_34 rfl rfl ?_
    refine r_icmp_ge d_X6_elect_25 (tgt := 80) (by decide) (fun c7 => ?_) (fun c7 => ?_)
    · replace e := (if_pos c7).symm.trans e
      refine g_ald_n d_X6_elect_80 rfl g0 ?_
      refine r_bipush d_X6_elect_81 (v := (13 : Int32)) (by decide +kernel) ?_
      refine r_iconst d_X6_elect_83 (v := (0 : Int32)) (by decide +kernel) ?_
      refine g_ald_n d_X6_elect_84 rfl g0 ?_
      refine g_getI d_X6_elect_85 (f := 708) k6 fk_5_53 rfl rfl ?_
      refine r_iconst d_X6_elect_88 (v := (0 : Int32)) (by decide +kernel) ?_
      refine r_iconst d_X6_elect_89 (v := (0 : Int32)) (by decide +kernel) ?_
      replace e := bd e
      obtain ⟨q8, eq8, e⟩ := e
      refine g_callV d_X6_elect_90 vk_5_123 (as := [_, _, _, _, _]) rfl k6 rfl (by simp [zrf_cat, cat_int, cat_long]) (j := 3) (by omega) (c_X6_commit (by omega) eq8) ?_
      replace e := ckd e
      obtain ⟨k9, e⟩ := e
      obtain rfl := Option.some.inj e
      exact g_iret d_X6_elect_93 rfl k9
    · replace e := (if_neg c7).symm.trans e
      refine g_ald_n d_X6_elect_28 rfl g0 ?_
      replace e := bd e
      obtain ⟨q10, eq10, e⟩ := e
      refine g_callV d_X6_elect_29 vk_5_200 (as := []) rfl k6 rfl (by simp [zrf_cat, cat_int, cat_long]) (j := 1) (by omega) (c_X6_works (by omega) eq10) ?_
      refine r_if_eq d_X6_elect_32 (tgt := 80) (by decide) (fun c11 => ?_) (fun c11 => ?_)
      · replace e := (if_pos c11).symm.trans e
        refine g_ald_n d_X6_elect_80 rfl g0 ?_
        refine r_bipush d_X6_elect_81 (v := (13 : Int32)) (by decide +kernel) ?_
        refine r_iconst d_X6_elect_83 (v := (0 : Int32)) (by decide +kernel) ?_
        refine g_ald_n d_X6_elect_84 rfl g0 ?_
        replace e := ckd e
        obtain ⟨k12, e⟩ := e
        refine g_getI d_X6_elect_85 (f := 708) k12 fk_5_53 rfl rfl ?_
        refine r_iconst d_X6_elect_88 (v := (0 : Int32)) (by decide +kernel) ?_
        refine r_iconst d_X6_elect_89 (v := (0 : Int32)) (by decide +kernel) ?_
        replace e := bd e
        obtain ⟨q13, eq13, e⟩ := e
        refine g_callV d_X6_elect_90 vk_5_123 (as := [_, _, _, _, _]) rfl k12 rfl (by simp [zrf_cat, cat_int, cat_long]) (j := 3) (by omega) (c_X6_commit (by omega) eq13) ?_
        replace e := ckd e
        obtain ⟨k14, e⟩ := e
        obtain rfl := Option.some.inj e
        exact g_iret d_X6_elect_93 rfl k14
      · replace e := (if_neg c11).symm.trans e
        refine r_iload_n d_X6_elect_35 rfl g1 ?_
        refine g_ald_n d_X6_elect_36 rfl g0 ?_
        replace e := ckd e
        obtain ⟨k15, e⟩ := e
        refine g_getI d_X6_elect_37 (f := 708) k15 fk_5_53 rfl rfl ?_
        refine r_icmp_eq d_X6_elect_40 (tgt := 74) (by decide) (fun c16 => ?_) (fun c16 => ?_)
        · replace e := (if_pos c16).symm.trans e
          exact f_X6_elect_74_ok _ hj ih _ _ _ _ _ g0 g1 e
        · replace e := (if_neg c16).symm.trans e
          refine g_ald_n d_X6_elect_43 rfl g0 ?_
          refine g_getR d_X6_elect_44 (f := 703) k15 fk_5_11 rfl rfl ?_
          refine r_iload_n d_X6_elect_47 rfl g1 ?_
          replace e := ckd e
          obtain ⟨k17, e⟩ := e
          replace e := ckd e
          obtain ⟨k18, e⟩ := e
          refine g_aald d_X6_elect_48 k17 (by decide) (by decide) k18 rfl ?_
          replace e := ckd e
          obtain ⟨k19, e⟩ := e
          refine g_getI d_X6_elect_49 (f := 603) k19 fk_5_94 rfl rfl ?_
          refine r_if_eq d_X6_elect_52 (tgt := 74) (by decide) (fun c20 => ?_) (fun c20 => ?_)
          · replace e := (if_pos c20).symm.trans e
            exact f_X6_elect_74_ok _ hj ih _ _ _ _ _ g0 g1 e
          · replace e := (if_neg c20).symm.trans e
            refine g_ald_n d_X6_elect_55 rfl g0 ?_
            refine g_ald_n d_X6_elect_56 rfl g0 ?_
            refine g_getR d_X6_elect_57 (f := 703) k15 fk_5_11 rfl rfl ?_
            refine r_iload_n d_X6_elect_60 rfl g1 ?_
            refine g_aald d_X6_elect_61 k17 (by decide) (by decide) k18 rfl ?_
            refine g_ald_n d_X6_elect_62 rfl g0 ?_
            refine g_getR d_X6_elect_63 (f := 703) k15 fk_5_11 rfl rfl ?_
            refine g_ald_n d_X6_elect_66 rfl g0 ?_
            refine g_getI d_X6_elect_67 (f := 708) k15 fk_5_53 rfl rfl ?_
            replace e := ckd e
            obtain ⟨k21, e⟩ := e
            refine g_aald d_X6_elect_70 k17 (by decide) (by decide) k21 rfl ?_
            replace e := bd e
            obtain ⟨q22, eq22, e⟩ := e
            refine g_callV d_X6_elect_71 vk_5_219 (as := [_, _]) rfl k15 rfl (by simp [zrf_cat, cat_int, cat_long]) (j := 3) (by omega) (c_X6_makeAlike (by omega) eq22) ?_
            exact f_X6_elect_74_ok _ hj ih _ _ _ _ _ g0 g1 e

def f_X6_elect (l0 : Nat) (h : Hp) : Option (Int32 × Hp) := ck (isO (h) (l0) 7) (bh (pI (h) 709 (l0) ((zI (h) 709 (l0)) + ((1 : Int32)))) (fun h2 => (f_X6_candidate (l0) (h2)).bind (fun q3 => ck (isO (q3.2) (l0) 7) (bh (pI (q3.2) 708 (l0) (q3.1)) (fun h5 => f_X6_elect_20 fz (l0) ((0 : Int32)) (h5))))))
theorem f_X6_elect_ok {G : Gd} {d : Nat} (hj : 4 ≤ d) : ∀ (l0 : Nat) (L : List (Nat × Value)) (h : Hp) (o : (Int32 × Hp)), zlk L 0 = some (zrf (l0)) → f_X6_elect l0 h = some o → Ev G M_X6_elect d 0 L [] h (Ret Y_X6_elect (some (.int o.1)) o.2) := by
  intro l0 L h o g0 e
  unfold f_X6_elect at e
  refine g_ald_n d_X6_elect_0 rfl g0 ?_
  refine r_dup d_X6_elect_1 (zrf_cat _) ?_
  replace e := ckd e
  obtain ⟨k1, e⟩ := e
  refine g_getI d_X6_elect_2 (f := 709) k1 fk_5_102 rfl rfl ?_
  refine r_iconst d_X6_elect_5 (v := (1 : Int32)) (by decide +kernel) ?_
  refine r_iadd d_X6_elect_6 ?_
  refine g_putI d_X6_elect_7 (f := 709) k1 fk_5_102 rfl (Or.inl rfl) ⟨rfl, rfl⟩ ?_
  replace e := bhd e
  obtain ⟨_, rfl, e⟩ := e
  refine g_ald_n d_X6_elect_10 rfl g0 ?_
  refine g_ald_n d_X6_elect_11 rfl g0 ?_
  replace e := bd e
  obtain ⟨q3, eq3, e⟩ := e
  refine g_callV d_X6_elect_12 vk_5_241 (as := []) rfl (tO_pI k1) rfl (by simp [zrf_cat, cat_int, cat_long]) (j := 3) (by omega) (c_X6_candidate (by omega) eq3) ?_
  replace e := ckd e
  obtain ⟨k4, e⟩ := e
  refine g_putI d_X6_elect_15 (f := 708) k4 fk_5_53 rfl (Or.inl rfl) ⟨rfl, rfl⟩ ?_
  replace e := bhd e
  obtain ⟨_, rfl, e⟩ := e
  refine r_iconst d_X6_elect_18 (v := (0 : Int32)) (by decide +kernel) ?_
  refine s_istore_n d_X6_elect_19 rfl (by decide) (fun L g1 gK => ?_)
  replace g0 := gK _ _ (by decide) (Or.inr (zrf_cat _)) g0
  exact f_X6_elect_20_ok hj _ _ _ _ _ _ g0 g1 e

theorem c_X6_elect {G : Gd} {j : Nat} (hj : 4 ≤ j) {l0 : Nat} {h : Hp} {o : (Int32 × Hp)} (e : f_X6_elect l0 h = some o) : Cal G j Y_X6_elect [zrf (l0)] h (some (.int o.1)) o.2 := Cal.of (n := 0) (I := false) (by first | exact Or.inl (by decide +kernel) | exact Or.inr (by decide +kernel)) (by decide) (by simp [lg_sl, zrf_cat, cat_int, cat_long]) (f_X6_elect_ok hj _ _ h o (by simp [lv_args, zlk, zrf_cat, cat_int, cat_long]) e)
theorem fk_5_248 : Fk "TaskWeave$Shard" 248 303 := ⟨by decide, by decide, by decide +kernel⟩
theorem vk_5_249 : Vk "TaskWeave$Shard" 249 1 6 Y_X5_byteAt := ⟨yk_X5_byteAt, by decide +kernel, by decide +kernel, by decide +kernel, by decide⟩
theorem vk_5_252 : Vk "TaskWeave$Shard" 252 1 6 Y_X5_wordAt := ⟨yk_X5_wordAt, by decide +kernel, by decide +kernel, by decide +kernel, by decide⟩
def f_X6_readLog_248 (K15 : Nat → Nat → Int32 → Hp → Option Hp) (l0 : Nat) (l1 : Nat) (l2 : Int32) (h : Hp) : Option Hp := bh ((l2) + (1 : Int32)) (fun x71 => K15 (l0) (l1) (x71) (h))
theorem f_X6_readLog_248_ok {G : Gd} {d : Nat} (K15 : Nat → Nat → Int32 → Hp → Option Hp) (hj : 5 ≤ d) (hK15 : ∀ (l0 : Nat) (l1 : Nat) (l2 : Int32) (L : List (Nat × Value)) (h : Hp) (o : Hp), zlk L 0 = some (zrf (l0)) → zlk L 1 = some (zrf (l1)) → zlk L 2 = some (.int (l2)) → K15 l0 l1 l2 h = some o → Ev G M_X6_readLog d 15 L [] h (Ret Y_X6_readLog none o)) : ∀ (l0 : Nat) (l1 : Nat) (l2 : Int32) (L : List (Nat × Value)) (h : Hp) (o : Hp), zlk L 0 = some (zrf (l0)) → zlk L 1 = some (zrf (l1)) → zlk L 2 = some (.int (l2)) → f_X6_readLog_248 K15 l0 l1 l2 h = some o → Ev G M_X6_readLog d 248 L [] h (Ret Y_X6_readLog none o) := by
  intro l0 l1 l2 L h o g0 g1 g2 e
  unfold f_X6_readLog_248 at e
  replace e := bhd e
  obtain ⟨_, rfl, e⟩ := e
  refine s_iinc d_X6_readLog_248 g2 (w := (1 : Int32)) (by decide +kernel) (by decide) (fun L g2 gK => ?_)
  replace g0 := gK _ _ (by decide) (Or.inr (zrf_cat _)) g0
  replace g1 := gK _ _ (by decide) (Or.inr (zrf_cat _)) g1
  refine r_goto d_X6_readLog_251 (tgt := 15) (by decide) ?_
  exact hK15 _ _ _ _ _ _ g0 g1 g2 e

def f_X6_readLog_256 : Nat → Nat → Int32 → Hp → Option Hp
  | 0, _, _, _ => none
  | n + 1, l0, l2, h => ck (isO (h) (l0) 7) (if (zI (h) 710 (l0)) ≤ (l2) then (some (h)) else (ck (isO (h) (zR (h) 704 (l0)) 28) (ck (inR (l2) (zL (h) (zR (h) 704 (l0)))) (ck (isO (h) (zR (h) 701 (l0)) 1) (ck (isO (h) (zQ (h) (zR (h) 704 (l0)) (l2).toNatClampNeg) 10) ((f_X9_run (zQ (h) (zR (h) 704 (l0)) (l2).toNatClampNeg) (zI (h) 100 (zR (h) 701 (l0))) (h)).bind (fun q68 => bh ((l2) + (1 : Int32)) (fun x70 => f_X6_readLog_256 n (l0) (x70) (q68.2)))))))))
theorem f_X6_readLog_256_ok {G : Gd} {d : Nat} (hj : 5 ≤ d) : ∀ (n : Nat) (l0 : Nat) (l2 : Int32) (L : List (Nat × Value)) (h : Hp) (o : Hp), zlk L 0 = some (zrf (l0)) → zlk L 2 = some (.int (l2)) → f_X6_readLog_256 n l0 l2 h = some o → Ev G M_X6_readLog d 256 L [] h (Ret Y_X6_readLog none o) := by
  intro n
  induction n with
  | zero =>
    intro l0 l2 L h o g0 g2 e
    cases e
  | succ n ih =>
    intro l0 l2 L h o g0 g2 e
    unfold f_X6_readLog_256 at e
    refine r_iload_n d_X6_readLog_256 rfl g2 ?_
    refine g_ald_n d_X6_readLog_257 rfl g0 ?_
    replace e := ckd e
    obtain ⟨k63, e⟩ := e
    refine g_getI d_X6_readLog_258 (f := 710) k63 fk_5_56 rfl rfl ?_
    refine r_icmp_ge d_X6_readLog_261 (tgt := 287) (by decide) (fun c64 => ?_) (fun c64 => ?_)
    · replace e := (if_pos c64).symm.trans e
      obtain rfl := Option.some.inj e
      exact g_vret d_X6_readLog_287 rfl
    · replace e := (if_neg c64).symm.trans e
      refine g_ald_n d_X6_readLog_264 rfl g0 ?_
      refine g_getR d_X6_readLog_265 (f := 704) k63 fk_5_19 rfl rfl ?_
      refine r_iload_n d_X6_readLog_268 rfl g2 ?_
      replace e := ckd e
      obtain ⟨k65, e⟩ := e
      replace e := ckd e
      obtain ⟨k66, e⟩ := e
      refine g_aald d_X6_readLog_269 k65 (by decide) (by decide) k66 rfl ?_
      refine g_ald_n d_X6_readLog_270 rfl g0 ?_
      refine g_getR d_X6_readLog_271 (f := 701) k63 fk_5_41 rfl rfl ?_
      replace e := ckd e
      obtain ⟨k67, e⟩ := e
      refine g_getI d_X6_readLog_274 (f := 100) k67 fk_5_127 rfl rfl ?_
      replace e := ckd e
      obtain ⟨k69, e⟩ := e
      replace e := bd e
      obtain ⟨q68, eq68, e⟩ := e
      refine g_callV d_X6_readLog_277 vk_5_144 (as := [_]) rfl k69 rfl (by simp [zrf_cat, cat_int, cat_long]) (j := 3) (by omega) (c_X9_run (by omega) eq68) ?_
      refine r_pop d_X6_readLog_280 rfl ?_
      replace e := bhd e
      obtain ⟨_, rfl, e⟩ := e
      refine s_iinc d_X6_readLog_281 g2 (w := (1 : Int32)) (by decide +kernel) (by decide) (fun L g2 gK => ?_)
      replace g0 := gK _ _ (by decide) (Or.inr (zrf_cat _)) g0
      refine r_goto d_X6_readLog_284 (tgt := 256) (by decide) ?_
      exact ih _ _ _ _ _ g0 g2 e

def f_X6_readLog_15 : Nat → Nat → Nat → Int32 → Hp → Option Hp
  | 0, _, _, _, _ => none
  | n + 1, l0, l1, l2, h => ck (isO (h) (l1) 6) (if ((zI (h) 602 (l1)) / ((16 : Int32))) ≤ (l2) then (f_X6_readLog_256 fz (l0) ((0 : Int32)) (h)) else (bh ((l2) * ((16 : Int32))) (fun x7 => (f_X5_byteAt (l1) (x7) (h)).bind (fun q8 => bh ((q8.1) - (q8.1) / ((16 : Int32)) * ((16 : Int32))) (fun x9 => ck (isO (q8.2) (l1) 6) ((f_X5_byteAt (l1) (x7) (q8.2)).bind (fun q10 => bh ((q10.1) / ((16 : Int32))) (fun x12 => ck (isO (q10.2) (l1) 6) ((f_X5_wordAt (l1) ((x7) + ((3 : Int32))) (q10.2)).bind (fun q13 => ck (isO (q13.2) (l1) 6) ((f_X5_wordAt (l1) ((x7) + ((7 : Int32))) (q13.2)).bind (fun q15 => if (x9) = (0) then (ck (isO (q15.2) (l1) 6) ((f_X5_wordAt (l1) ((x7) + ((11 : Int32))) (q15.2)).bind (fun q59 => ck (isO (q59.2) (l0) 7) ((f_X6_openRow (l0) (x12) (q13.1) (q15.1) (q59.1) (q59.2)).bind (fun q61 => f_X6_readLog_248 (f_X6_readLog_15 n) (l0) (l1) (l2) (q61)))))) else (if (x9) = ((14 : Int32)) then (ck (isO (q15.2) (l0) 7) (ck (isO (q15.2) (zR (q15.2) 706 (l0)) 3) ((f_X2_remove (zR (q15.2) 706 (l0)) (q13.1) (q15.2)).bind (fun q57 => f_X6_readLog_248 (f_X6_readLog_15 n) (l0) (l1) (l2) (q57))))) else (if (x9) = ((15 : Int32)) then (ck (isO (q15.2) (l0) 7) (ck (isO (q15.2) (zR (q15.2) 704 (l0)) 28) (ck (inR (x12) (zL (q15.2) (zR (q15.2) 704 (l0)))) (ck (isO (q15.2) (zQ (q15.2) (zR (q15.2) 704 (l0)) (x12).toNatClampNeg) 10) (ck (isO (q15.2) (zR (q15.2) 701 (l0)) 1) (ck (isO (q15.2) (zR (q15.2) 1003 (zQ (q15.2) (zR (q15.2) 704 (l0)) (x12).toNatClampNeg)) 9) ((f_X8_ready (zR (q15.2) 1003 (zQ (q15.2) (zR (q15.2) 704 (l0)) (x12).toNatClampNeg)) (q13.1) ((if (zI (q15.2) 100 (zR (q15.2) 701 (l0))) < (q15.1) then (q15.1) else (zI (q15.2) 100 (zR (q15.2) 701 (l0))))) (q15.2)).bind (fun q54 => f_X6_readLog_248 (f_X6_readLog_15 n) (l0) (l1) (l2) (q54))))))))) else (if (x9) = ((13 : Int32)) then (f_X6_readLog_248 (f_X6_readLog_15 n) (l0) (l1) (l2) (q15.2)) else (ck (isO (q15.2) (l0) 7) (ck (isO (q15.2) (zR (q15.2) 704 (l0)) 28) (ck (inR (x12) (zL (q15.2) (zR (q15.2) 704 (l0)))) (ck (isO (q15.2) (zR (q15.2) 701 (l0)) 1) (ck (isO (q15.2) (zQ (q15.2) (zR (q15.2) 704 (l0)) (x12).toNatClampNeg) 10) ((f_X9_run (zQ (q15.2) (zR (q15.2) 704 (l0)) (x12).toNatClampNeg) (zI (q15.2) 100 (zR (q15.2) 701 (l0))) (q15.2)).bind (fun q25 => ck (isO (q25.2) (l0) 7) (ck (isO (q25.2) (zR (q25.2) 704 (l0)) 28) (ck (inR (x12) (zL (q25.2) (zR (q25.2) 704 (l0)))) (ck (isO (q25.2) (l1) 6) ((f_X5_wordAt (l1) ((x7) + ((11 : Int32))) (q25.2)).bind (fun q30 => ck (isO (q30.2) (l0) 7) (ck (isO (q30.2) (zR (q30.2) 701 (l0)) 1) (ck (isO (q30.2) (zQ (q25.2) (zR (q25.2) 704 (l0)) (x12).toNatClampNeg) 10) ((f_X9_take (zQ (q25.2) (zR (q25.2) 704 (l0)) (x12).toNatClampNeg) (x9) (q13.1) (q15.1) (q30.1) (zI (q30.2) 100 (zR (q30.2) 701 (l0))) (q30.2)).bind (fun q34 => ck (isO (q34) (l0) 7) (ck (isO (q34) (zR (q34) 704 (l0)) 28) (ck (inR (x12) (zL (q34) (zR (q34) 704 (l0)))) (ck (isO (q34) (zQ (q34) (zR (q34) 704 (l0)) (x12).toNatClampNeg) 10) ((f_X9_isMessage (zQ (q34) (zR (q34) 704 (l0)) (x12).toNatClampNeg) (x9) (q34)).bind (fun q39 => if (q39.1) = (0) then (f_X6_readLog_248 (f_X6_readLog_15 n) (l0) (l1) (l2) (q39.2)) else (ck (isO (q39.2) (l0) 7) (ck (isO (q39.2) (zR (q39.2) 704 (l0)) 28) (ck (inR (x12) (zL (q39.2) (zR (q39.2) 704 (l0)))) (ck (isO (q39.2) (zQ (q39.2) (zR (q39.2) 704 (l0)) (x12).toNatClampNeg) 10) (ck (isO (q39.2) (zR (q39.2) 1002 (zQ (q39.2) (zR (q39.2) 704 (l0)) (x12).toNatClampNeg)) 2) (ck (isO (q39.2) (zR (q39.2) 706 (l0)) 3) ((f_X2_add (zR (q39.2) 706 (l0)) (l2) (x12) ((zI (q39.2) 204 (zR (q39.2) 1002 (zQ (q39.2) (zR (q39.2) 704 (l0)) (x12).toNatClampNeg))) - ((1 : Int32))) (q39.2)).bind (fun q47 => f_X6_readLog_248 (f_X6_readLog_15 n) (l0) (l1) (l2) (q47)))))))))))))))))))))))))))))))))))))))))))))
theorem f_X6_readLog_15_ok {G : Gd} {d : Nat} (hj : 5 ≤ d) : ∀ (n : Nat) (l0 : Nat) (l1 : Nat) (l2 : Int32) (L : List (Nat × Value)) (h : Hp) (o : Hp), zlk L 0 = some (zrf (l0)) → zlk L 1 = some (zrf (l1)) → zlk L 2 = some (.int (l2)) → f_X6_readLog_15 n l0 l1 l2 h = some o → Ev G M_X6_readLog d 15 L [] h (Ret Y_X6_readLog none o) := by
  intro n
  induction n with
  | zero =>
    intro l0 l1 l2 L h o g0 g1 g2 e
    cases e
  | succ n ih =>
    intro l0 l1 l2 L h o g0 g1 g2 e
    unfold f_X6_readLog_15 at e
    refine r_iload_n d_X6_readLog_15 rfl g2 ?_
    refine g_ald_n d_X6_readLog_16 rfl g1 ?_
    replace e := ckd e
    obtain ⟨k5, e⟩ := e
    refine g_getI d_X6_readLog_17 (f := 602) k5 fk_5_69 rfl rfl ?_
    refine r_bipush d_X6_readLog_20 (v := (16 : Int32)) (by decide +kernel) ?_
    refine r_idiv d_X6_readLog_22 (by decide +kernel) ?_
    refine r_icmp_ge d_X6_readLog_23 (tgt := 254) (by decide) (fun c6 => ?_) (fun c6 => ?_)
    · replace e := (if_pos c6).symm.trans e
      refine r_iconst d_X6_readLog_254 (v := (0 : Int32)) (by decide +kernel) ?_
      refine s_istore_n d_X6_readLog_255 rfl (by decide) (fun L g2 gK => ?_)
      replace g0 := gK _ _ (by decide) (Or.inr (zrf_cat _)) g0
      exact f_X6_readLog_256_ok hj _ _ _ _ _ _ g0 g2 e
    · replace e := (if_neg c6).symm.trans e
      refine r_iload_n d_X6_readLog_26 rfl g2 ?_
      refine r_bipush d_X6_readLog_27 (v := (16 : Int32)) (by decide +kernel) ?_
      refine r_imul d_X6_readLog_29 ?_
      replace e := bhd e
      obtain ⟨_, rfl, e⟩ := e
      refine s_istore_n d_X6_readLog_30 rfl (by decide) (fun L g3 gK => ?_)
      replace g0 := gK _ _ (by decide) (Or.inr (zrf_cat _)) g0
      replace g1 := gK _ _ (by decide) (Or.inr (zrf_cat _)) g1
      replace g2 := gK _ _ (by decide) (Or.inr rfl) g2
      refine g_ald_n d_X6_readLog_31 rfl g1 ?_
      refine r_iload_n d_X6_readLog_32 rfl g3 ?_
      replace e := bd e
      obtain ⟨q8, eq8, e⟩ := e
      refine g_callV d_X6_readLog_33 vk_5_249 (as := [_]) rfl k5 rfl (by simp [zrf_cat, cat_int, cat_long]) (j := 1) (by omega) (c_X5_byteAt (by omega) eq8) ?_
      refine r_bipush d_X6_readLog_36 (v := (16 : Int32)) (by decide +kernel) ?_
      refine r_irem d_X6_readLog_38 (by decide +kernel) ?_
      replace e := bhd e
      obtain ⟨_, rfl, e⟩ := e
      refine s_istore d_X6_readLog_39 (by decide) (fun L g4 gK => ?_)
      replace g0 := gK _ _ (by decide) (Or.inr (zrf_cat _)) g0
      replace g1 := gK _ _ (by decide) (Or.inr (zrf_cat _)) g1
      replace g2 := gK _ _ (by decide) (Or.inr rfl) g2
      replace g3 := gK _ _ (by decide) (Or.inr rfl) g3
      refine g_ald_n d_X6_readLog_41 rfl g1 ?_
      refine r_iload_n d_X6_readLog_42 rfl g3 ?_
      replace e := ckd e
      obtain ⟨k11, e⟩ := e
      replace e := bd e
      obtain ⟨q10, eq10, e⟩ := e
      refine g_callV d_X6_readLog_43 vk_5_249 (as := [_]) rfl k11 rfl (by simp [zrf_cat, cat_int, cat_long]) (j := 1) (by omega) (c_X5_byteAt (by omega) eq10) ?_
      refine r_bipush d_X6_readLog_46 (v := (16 : Int32)) (by decide +kernel) ?_
      refine r_idiv d_X6_readLog_48 (by decide +kernel) ?_
      replace e := bhd e
      obtain ⟨_, rfl, e⟩ := e
      refine s_istore d_X6_readLog_49 (by decide) (fun L g5 gK => ?_)
      replace g0 := gK _ _ (by decide) (Or.inr (zrf_cat _)) g0
      replace g1 := gK _ _ (by decide) (Or.inr (zrf_cat _)) g1
      replace g2 := gK _ _ (by decide) (Or.inr rfl) g2
      replace g3 := gK _ _ (by decide) (Or.inr rfl) g3
      replace g4 := gK _ _ (by decide) (Or.inr rfl) g4
      refine g_ald_n d_X6_readLog_51 rfl g1 ?_
      refine r_iload_n d_X6_readLog_52 rfl g3 ?_
      refine r_iconst d_X6_readLog_53 (v := (3 : Int32)) (by decide +kernel) ?_
      refine r_iadd d_X6_readLog_54 ?_
      replace e := ckd e
      obtain ⟨k14, e⟩ := e
      replace e := bd e
      obtain ⟨q13, eq13, e⟩ := e
      refine g_callV d_X6_readLog_55 vk_5_252 (as := [_]) rfl k14 rfl (by simp [zrf_cat, cat_int, cat_long]) (j := 2) (by omega) (c_X5_wordAt (by omega) eq13) ?_
      refine s_istore d_X6_readLog_58 (by decide) (fun L g6 gK => ?_)
      replace g0 := gK _ _ (by decide) (Or.inr (zrf_cat _)) g0
      replace g1 := gK _ _ (by decide) (Or.inr (zrf_cat _)) g1
      replace g2 := gK _ _ (by decide) (Or.inr rfl) g2
      replace g3 := gK _ _ (by decide) (Or.inr rfl) g3
      replace g4 := gK _ _ (by decide) (Or.inr rfl) g4
      replace g5 := gK _ _ (by decide) (Or.inr rfl) g5
      refine g_ald_n d_X6_readLog_60 rfl g1 ?_
      refine r_iload_n d_X6_readLog_61 rfl g3 ?_
      refine r_bipush d_X6_readLog_62 (v := (7 : Int32)) (by decide +kernel) ?_
      refine r_iadd d_X6_readLog_64 ?_
      replace e := ckd e
      obtain ⟨k16, e⟩ := e
      replace e := bd e
      obtain ⟨q15, eq15, e⟩ := e
      refine g_callV d_X6_readLog_65 vk_5_252 (as := [_]) rfl k16 rfl (by simp [zrf_cat, cat_int, cat_long]) (j := 2) (by omega) (c_X5_wordAt (by omega) eq15) ?_
      refine s_istore d_X6_readLog_68 (by decide) (fun L g7 gK => ?_)
      replace g0 := gK _ _ (by decide) (Or.inr (zrf_cat _)) g0
      replace g1 := gK _ _ (by decide) (Or.inr (zrf_cat _)) g1
      replace g2 := gK _ _ (by decide) (Or.inr rfl) g2
      replace g3 := gK _ _ (by decide) (Or.inr rfl) g3
      replace g4 := gK _ _ (by decide) (Or.inr rfl) g4
      replace g5 := gK _ _ (by decide) (Or.inr rfl) g5
      replace g6 := gK _ _ (by decide) (Or.inr rfl) g6
      refine r_iload d_X6_readLog_70 g4 ?_
      refine r_if_ne d_X6_readLog_72 (tgt := 96) (by decide) (fun c17 => ?_) (fun c17 => ?_)
      · replace e := (if_neg c17).symm.trans e
        refine r_iload d_X6_readLog_96 g4 ?_
        refine r_bipush d_X6_readLog_98 (v := (14 : Int32)) (by decide +kernel) ?_
        refine r_icmp_ne d_X6_readLog_100 (tgt := 115) (by decide) (fun c18 => ?_) (fun c18 => ?_)
        · replace e := (if_neg c18).symm.trans e
          refine r_iload d_X6_readLog_115 g4 ?_
          refine r_bipush d_X6_readLog_117 (v := (15 : Int32)) (by decide +kernel) ?_
          refine r_icmp_ne d_X6_readLog_119 (tgt := 152) (by decide) (fun c19 => ?_) (fun c19 => ?_)
          · replace e := (if_neg c19).symm.trans e
            refine r_iload d_X6_readLog_152 g4 ?_
            refine r_bipush d_X6_readLog_154 (v := (13 : Int32)) (by decide +kernel) ?_
            refine r_icmp_eq d_X6_readLog_156 (tgt := 248) (by decide) (fun c20 => ?_) (fun c20 => ?_)
            · replace e := (if_pos c20).symm.trans e
              exact f_X6_readLog_248_ok _ hj ih _ _ _ _ _ _ g0 g1 g2 e
            · replace e := (if_neg c20).symm.trans e
              refine g_ald_n d_X6_readLog_159 rfl g0 ?_
              replace e := ckd e
              obtain ⟨k21, e⟩ := e
              refine g_getR d_X6_readLog_160 (f := 704) k21 fk_5_19 rfl rfl ?_
              refine r_iload d_X6_readLog_163 g5 ?_
              replace e := ckd e
              obtain ⟨k22, e⟩ := e
              replace e := ckd e
              obtain ⟨k23, e⟩ := e
              refine g_aald d_X6_readLog_165 k22 (by decide) (by decide) k23 rfl ?_
              refine g_ald_n d_X6_readLog_166 rfl g0 ?_
              refine g_getR d_X6_readLog_167 (f := 701) k21 fk_5_41 rfl rfl ?_
              replace e := ckd e
              obtain ⟨k24, e⟩ := e
              refine g_getI d_X6_readLog_170 (f := 100) k24 fk_5_127 rfl rfl ?_
              replace e := ckd e
              obtain ⟨k26, e⟩ := e
              replace e := bd e
              obtain ⟨q25, eq25, e⟩ := e
              refine g_callV d_X6_readLog_173 vk_5_144 (as := [_]) rfl k26 rfl (by simp [zrf_cat, cat_int, cat_long]) (j := 3) (by omega) (c_X9_run (by omega) eq25) ?_
              refine r_pop d_X6_readLog_176 rfl ?_
              refine g_ald_n d_X6_readLog_177 rfl g0 ?_
              replace e := ckd e
              obtain ⟨k27, e⟩ := e
              refine g_getR d_X6_readLog_178 (f := 704) k27 fk_5_19 rfl rfl ?_
              refine r_iload d_X6_readLog_181 g5 ?_
              replace e := ckd e
              obtain ⟨k28, e⟩ := e
              replace e := ckd e
              obtain ⟨k29, e⟩ := e
              refine g_aald d_X6_readLog_183 k28 (by decide) (by decide) k29 rfl ?_
              refine r_iload d_X6_readLog_184 g4 ?_
              refine r_iload d_X6_readLog_186 g6 ?_
              refine r_iload d_X6_readLog_188 g7 ?_
              refine g_ald_n d_X6_readLog_190 rfl g1 ?_
              refine r_iload_n d_X6_readLog_191 rfl g3 ?_
              refine r_bipush d_X6_readLog_192 (v := (11 : Int32)) (by decide +kernel) ?_
              refine r_iadd d_X6_readLog_194 ?_
              replace e := ckd e
              obtain ⟨k31, e⟩ := e
              replace e := bd e
              obtain ⟨q30, eq30, e⟩ := e
              refine g_callV d_X6_readLog_195 vk_5_252 (as := [_]) rfl k31 rfl (by simp [zrf_cat, cat_int, cat_long]) (j := 2) (by omega) (c_X5_wordAt (by omega) eq30) ?_
              refine g_ald_n d_X6_readLog_198 rfl g0 ?_
              replace e := ckd e
              obtain ⟨k32, e⟩ := e
              refine g_getR d_X6_readLog_199 (f := 701) k32 fk_5_41 rfl rfl ?_
              replace e := ckd e
              obtain ⟨k33, e⟩ := e
              refine g_getI d_X6_readLog_202 (f := 100) k33 fk_5_127 rfl rfl ?_
              replace e := ckd e
              obtain ⟨k35, e⟩ := e
              replace e := bd e
              obtain ⟨q34, eq34, e⟩ := e
              refine g_callV d_X6_readLog_205 vk_5_132 (as := [_, _, _, _, _]) rfl k35 rfl (by simp [zrf_cat, cat_int, cat_long]) (j := 2) (by omega) (c_X9_take (by omega) eq34) ?_
              refine g_ald_n d_X6_readLog_208 rfl g0 ?_
              replace e := ckd e
              obtain ⟨k36, e⟩ := e
              refine g_getR d_X6_readLog_209 (f := 704) k36 fk_5_19 rfl rfl ?_
              refine r_iload d_X6_readLog_212 g5 ?_
              replace e := ckd e
              obtain ⟨k37, e⟩ := e
              replace e := ckd e
              obtain ⟨k38, e⟩ := e
              refine g_aald d_X6_readLog_214 k37 (by decide) (by decide) k38 rfl ?_
              refine r_iload d_X6_readLog_215 g4 ?_
              replace e := ckd e
              obtain ⟨k40, e⟩ := e
              replace e := bd e
              obtain ⟨q39, eq39, e⟩ := e
              refine g_callV d_X6_readLog_217 vk_5_136 (as := [_]) rfl k40 rfl (by simp [zrf_cat, cat_int, cat_long]) (j := 1) (by omega) (c_X9_isMessage (by omega) eq39) ?_
              refine r_if_eq d_X6_readLog_220 (tgt := 248) (by decide) (fun c41 => ?_) (fun c41 => ?_)
              · replace e := (if_pos c41).symm.trans e
                exact f_X6_readLog_248_ok _ hj ih _ _ _ _ _ _ g0 g1 g2 e
              · replace e := (if_neg c41).symm.trans e
                refine g_ald_n d_X6_readLog_223 rfl g0 ?_
                replace e := ckd e
                obtain ⟨k42, e⟩ := e
                refine g_getR d_X6_readLog_224 (f := 706) k42 fk_5_30 rfl rfl ?_
                refine r_iload_n d_X6_readLog_227 rfl g2 ?_
                refine r_iload d_X6_readLog_228 g5 ?_
                refine g_ald_n d_X6_readLog_230 rfl g0 ?_
                refine g_getR d_X6_readLog_231 (f := 704) k42 fk_5_19 rfl rfl ?_
                refine r_iload d_X6_readLog_234 g5 ?_
                replace e := ckd e
                obtain ⟨k43, e⟩ := e
                replace e := ckd e
                obtain ⟨k44, e⟩ := e
                refine g_aald d_X6_readLog_236 k43 (by decide) (by decide) k44 rfl ?_
                replace e := ckd e
                obtain ⟨k45, e⟩ := e
                refine g_getR d_X6_readLog_237 (f := 1002) k45 fk_5_59 rfl rfl ?_
                replace e := ckd e
                obtain ⟨k46, e⟩ := e
                refine g_getI d_X6_readLog_240 (f := 204) k46 fk_5_115 rfl rfl ?_
                refine r_iconst d_X6_readLog_243 (v := (1 : Int32)) (by decide +kernel) ?_
                refine r_isub d_X6_readLog_244 ?_
                replace e := ckd e
                obtain ⟨k48, e⟩ := e
                replace e := bd e
                obtain ⟨q47, eq47, e⟩ := e
                refine g_callV d_X6_readLog_245 vk_5_140 (as := [_, _, _]) rfl k48 rfl (by simp [zrf_cat, cat_int, cat_long]) (j := 2) (by omega) (c_X2_add (by omega) eq47) ?_
                exact f_X6_readLog_248_ok _ hj ih _ _ _ _ _ _ g0 g1 g2 e
          · replace e := (if_pos c19).symm.trans e
            refine g_ald_n d_X6_readLog_122 rfl g0 ?_
            replace e := ckd e
            obtain ⟨k49, e⟩ := e
            refine g_getR d_X6_readLog_123 (f := 704) k49 fk_5_19 rfl rfl ?_
            refine r_iload d_X6_readLog_126 g5 ?_
            replace e := ckd e
            obtain ⟨k50, e⟩ := e
            replace e := ckd e
            obtain ⟨k51, e⟩ := e
            refine g_aald d_X6_readLog_128 k50 (by decide) (by decide) k51 rfl ?_
            replace e := ckd e
            obtain ⟨k52, e⟩ := e
            refine g_getR d_X6_readLog_129 (f := 1003) k52 fk_5_85 rfl rfl ?_
            refine r_iload d_X6_readLog_132 g6 ?_
            refine g_ald_n d_X6_readLog_134 rfl g0 ?_
            refine g_getR d_X6_readLog_135 (f := 701) k49 fk_5_41 rfl rfl ?_
            replace e := ckd e
            obtain ⟨k53, e⟩ := e
            refine g_getI d_X6_readLog_138 (f := 100) k53 fk_5_127 rfl rfl ?_
            refine r_iload d_X6_readLog_141 g7 ?_
            refine g_mmax d_X6_readLog_143 (by decide +kernel) (by omega) (by simp [zrf_cat, cat_int, cat_long]) ?_
            replace e := ckd e
            obtain ⟨k55, e⟩ := e
            replace e := bd e
            obtain ⟨q54, eq54, e⟩ := e
            refine g_callV d_X6_readLog_146 vk_5_193 (as := [_, _]) rfl k55 rfl (by simp [zrf_cat, cat_int, cat_long]) (j := 1) (by omega) (c_X8_ready (by omega) eq54) ?_
            refine r_goto d_X6_readLog_149 (tgt := 248) (by decide) ?_
            exact f_X6_readLog_248_ok _ hj ih _ _ _ _ _ _ g0 g1 g2 e
        · replace e := (if_pos c18).symm.trans e
          refine g_ald_n d_X6_readLog_103 rfl g0 ?_
          replace e := ckd e
          obtain ⟨k56, e⟩ := e
          refine g_getR d_X6_readLog_104 (f := 706) k56 fk_5_30 rfl rfl ?_
          refine r_iload d_X6_readLog_107 g6 ?_
          replace e := ckd e
          obtain ⟨k58, e⟩ := e
          replace e := bd e
          obtain ⟨q57, eq57, e⟩ := e
          refine g_callV d_X6_readLog_109 vk_5_197 (as := [_]) rfl k58 rfl (by simp [zrf_cat, cat_int, cat_long]) (j := 1) (by omega) (c_X2_remove (by omega) eq57) ?_
          refine r_goto d_X6_readLog_112 (tgt := 248) (by decide) ?_
          exact f_X6_readLog_248_ok _ hj ih _ _ _ _ _ _ g0 g1 g2 e
      · replace e := (if_pos c17).symm.trans e
        refine g_ald_n d_X6_readLog_75 rfl g0 ?_
        refine r_iload d_X6_readLog_76 g5 ?_
        refine r_iload d_X6_readLog_78 g6 ?_
        refine r_iload d_X6_readLog_80 g7 ?_
        refine g_ald_n d_X6_readLog_82 rfl g1 ?_
        refine r_iload_n d_X6_readLog_83 rfl g3 ?_
        refine r_bipush d_X6_readLog_84 (v := (11 : Int32)) (by decide +kernel) ?_
        refine r_iadd d_X6_readLog_86 ?_
        replace e := ckd e
        obtain ⟨k60, e⟩ := e
        replace e := bd e
        obtain ⟨q59, eq59, e⟩ := e
        refine g_callV d_X6_readLog_87 vk_5_252 (as := [_]) rfl k60 rfl (by simp [zrf_cat, cat_int, cat_long]) (j := 2) (by omega) (c_X5_wordAt (by omega) eq59) ?_
        replace e := ckd e
        obtain ⟨k62, e⟩ := e
        replace e := bd e
        obtain ⟨q61, eq61, e⟩ := e
        refine g_callV d_X6_readLog_90 vk_5_164 (as := [_, _, _, _]) rfl k62 rfl (by simp [zrf_cat, cat_int, cat_long]) (j := 4) (by omega) (c_X6_openRow (by omega) eq61) ?_
        refine r_goto d_X6_readLog_93 (tgt := 248) (by decide) ?_
        exact f_X6_readLog_248_ok _ hj ih _ _ _ _ _ _ g0 g1 g2 e

def f_X6_readLog (l0 : Nat) (l1 : Nat) (h : Hp) : Option Hp := ck (isO (h) (l0) 7) (bh (pI (h) 710 (l0) ((0 : Int32))) (fun h2 => ck (isO (h2) (zR (h2) 706 (l0)) 3) (bh (pI (h2) 303 (zR (h2) 706 (l0)) ((0 : Int32))) (fun h4 => f_X6_readLog_15 fz (l0) (l1) ((0 : Int32)) (h4)))))
theorem f_X6_readLog_ok {G : Gd} {d : Nat} (hj : 5 ≤ d) : ∀ (l0 : Nat) (l1 : Nat) (L : List (Nat × Value)) (h : Hp) (o : Hp), zlk L 0 = some (zrf (l0)) → zlk L 1 = some (zrf (l1)) → f_X6_readLog l0 l1 h = some o → Ev G M_X6_readLog d 0 L [] h (Ret Y_X6_readLog none o) := by
  intro l0 l1 L h o g0 g1 e
  unfold f_X6_readLog at e
  refine g_ald_n d_X6_readLog_0 rfl g0 ?_
  refine r_iconst d_X6_readLog_1 (v := (0 : Int32)) (by decide +kernel) ?_
  replace e := ckd e
  obtain ⟨k1, e⟩ := e
  refine g_putI d_X6_readLog_2 (f := 710) k1 fk_5_56 rfl (Or.inl rfl) ⟨rfl, rfl⟩ ?_
  replace e := bhd e
  obtain ⟨_, rfl, e⟩ := e
  refine g_ald_n d_X6_readLog_5 rfl g0 ?_
  refine g_getR d_X6_readLog_6 (f := 706) (tO_pI k1) fk_5_30 rfl rfl ?_
  refine r_iconst d_X6_readLog_9 (v := (0 : Int32)) (by decide +kernel) ?_
  replace e := ckd e
  obtain ⟨k3, e⟩ := e
  refine g_putI d_X6_readLog_10 (f := 303) k3 fk_5_248 rfl (Or.inl rfl) ⟨rfl, rfl⟩ ?_
  replace e := bhd e
  obtain ⟨_, rfl, e⟩ := e
  refine r_iconst d_X6_readLog_13 (v := (0 : Int32)) (by decide +kernel) ?_
  refine s_istore_n d_X6_readLog_14 rfl (by decide) (fun L g2 gK => ?_)
  replace g0 := gK _ _ (by decide) (Or.inr (zrf_cat _)) g0
  replace g1 := gK _ _ (by decide) (Or.inr (zrf_cat _)) g1
  exact f_X6_readLog_15_ok hj _ _ _ _ _ _ _ g0 g1 g2 e

theorem c_X6_readLog {G : Gd} {j : Nat} (hj : 5 ≤ j) {l0 : Nat} {l1 : Nat} {h : Hp} {o : Hp} (e : f_X6_readLog l0 l1 h = some o) : Cal G j Y_X6_readLog [zrf (l0), zrf (l1)] h none o := Cal.of (n := 0) (I := false) (by first | exact Or.inl (by decide +kernel) | exact Or.inr (by decide +kernel)) (by decide) (by simp [lg_sl, zrf_cat, cat_int, cat_long]) (f_X6_readLog_ok hj _ _ _ h o (by simp [lv_args, zlk, zrf_cat, cat_int, cat_long]) (by simp [lv_args, zlk, zrf_cat, cat_int, cat_long]) e)
theorem vk_5_234 : Vk "TaskWeave$Shard" 234 0 7 Y_X6_elect := ⟨yk_X6_elect, by decide +kernel, by decide +kernel, by decide +kernel, by decide⟩
theorem vk_5_237 : Vk "TaskWeave$Shard" 237 1 7 Y_X6_readLog := ⟨yk_X6_readLog, by decide +kernel, by decide +kernel, by decide +kernel, by decide⟩
def f_X6_settle_74 (K2 : Nat → Int32 → Hp → Option Hp) (l0 : Nat) (l1 : Int32) (h : Hp) : Option Hp := bh ((l1) + (1 : Int32)) (fun x15 => K2 (l0) (x15) (h))
theorem f_X6_settle_74_ok {G : Gd} {d : Nat} (K2 : Nat → Int32 → Hp → Option Hp) (hj : 6 ≤ d) (hK2 : ∀ (l0 : Nat) (l1 : Int32) (L : List (Nat × Value)) (h : Hp) (o : Hp), zlk L 0 = some (zrf (l0)) → zlk L 1 = some (.int (l1)) → K2 l0 l1 h = some o → Ev G M_X6_settle d 2 L [] h (Ret Y_X6_settle none o)) : ∀ (l0 : Nat) (l1 : Int32) (L : List (Nat × Value)) (h : Hp) (o : Hp), zlk L 0 = some (zrf (l0)) → zlk L 1 = some (.int (l1)) → f_X6_settle_74 K2 l0 l1 h = some o → Ev G M_X6_settle d 74 L [] h (Ret Y_X6_settle none o) := by
  intro l0 l1 L h o g0 g1 e
  unfold f_X6_settle_74 at e
  replace e := bhd e
  obtain ⟨_, rfl, e⟩ := e
  refine s_iinc d_X6_settle_74 g1 (w := (1 : Int32)) (by decide +kernel) (by decide) (fun L g1 gK => ?_)
  replace g0 := gK _ _ (by decide) (Or.inr (zrf_cat _)) g0
  refine r_goto d_X6_settle_77 (tgt := 2) (by decide) ?_
  exact hK2 _ _ _ _ _ g0 g1 e

def f_X6_settle_43 (K2 : Nat → Int32 → Hp → Option Hp) : Nat → Nat → Int32 → Int32 → Hp → Option Hp
  | 0, _, _, _, _ => none
  | n + 1, l0, l1, l2, h => ck (isO (h) (l0) 7) (if (zI (h) 710 (l0)) ≤ (l2) then (f_X6_settle_74 K2 (l0) (l1) (h)) else ((f_X6_works (l0) (h)).bind (fun q18 => if (q18.1) = (0) then (f_X6_settle_74 K2 (l0) (l1) (q18.2)) else (ck (isO (q18.2) (l0) 7) (ck (isO (q18.2) (zR (q18.2) 704 (l0)) 28) (ck (inR (l2) (zL (q18.2) (zR (q18.2) 704 (l0)))) ((f_X6_goOn (l0) (zQ (q18.2) (zR (q18.2) 704 (l0)) (l2).toNatClampNeg) (q18.2)).bind (fun q23 => bh ((l2) + (1 : Int32)) (fun x24 => f_X6_settle_43 K2 n (l0) (l1) (x24) (q23))))))))))
theorem f_X6_settle_43_ok {G : Gd} {d : Nat} (K2 : Nat → Int32 → Hp → Option Hp) (hj : 6 ≤ d) (hK2 : ∀ (l0 : Nat) (l1 : Int32) (L : List (Nat × Value)) (h : Hp) (o : Hp), zlk L 0 = some (zrf (l0)) → zlk L 1 = some (.int (l1)) → K2 l0 l1 h = some o → Ev G M_X6_settle d 2 L [] h (Ret Y_X6_settle none o)) : ∀ (n : Nat) (l0 : Nat) (l1 : Int32) (l2 : Int32) (L : List (Nat × Value)) (h : Hp) (o : Hp), zlk L 0 = some (zrf (l0)) → zlk L 1 = some (.int (l1)) → zlk L 2 = some (.int (l2)) → f_X6_settle_43 K2 n l0 l1 l2 h = some o → Ev G M_X6_settle d 43 L [] h (Ret Y_X6_settle none o) := by
  intro n
  induction n with
  | zero =>
    intro l0 l1 l2 L h o g0 g1 g2 e
    cases e
  | succ n ih =>
    intro l0 l1 l2 L h o g0 g1 g2 e
    unfold f_X6_settle_43 at e
    refine r_iload_n d_X6_settle_43 rfl g2 ?_
    refine g_ald_n d_X6_settle_44 rfl g0 ?_
    replace e := ckd e
    obtain ⟨k16, e⟩ := e
    refine g_getI d_X6_settle_45 (f := 710) k16 fk_5_56 rfl rfl ?_
    refine r_icmp_ge d_X6_settle_48 (tgt := 74) (by decide) (fun c17 => ?_) (fun c17 => ?_)
    · replace e := (if_pos c17).symm.trans e
      exact f_X6_settle_74_ok _ hj hK2 _ _ _ _ _ g0 g1 e
    · replace e := (if_neg c17).symm.trans e
      refine g_ald_n d_X6_settle_51 rfl g0 ?_
      replace e := bd e
      obtain ⟨q18, eq18, e⟩ := e
      refine g_callV d_X6_settle_52 vk_5_200 (as := []) rfl k16 rfl (by simp [zrf_cat, cat_int, cat_long]) (j := 1) (by omega) (c_X6_works (by omega) eq18) ?_
      refine r_if_eq d_X6_settle_55 (tgt := 74) (by decide) (fun c19 => ?_) (fun c19 => ?_)
      · replace e := (if_pos c19).symm.trans e
        exact f_X6_settle_74_ok _ hj hK2 _ _ _ _ _ g0 g1 e
      · replace e := (if_neg c19).symm.trans e
        refine g_ald_n d_X6_settle_58 rfl g0 ?_
        refine g_ald_n d_X6_settle_59 rfl g0 ?_
        replace e := ckd e
        obtain ⟨k20, e⟩ := e
        refine g_getR d_X6_settle_60 (f := 704) k20 fk_5_19 rfl rfl ?_
        refine r_iload_n d_X6_settle_63 rfl g2 ?_
        replace e := ckd e
        obtain ⟨k21, e⟩ := e
        replace e := ckd e
        obtain ⟨k22, e⟩ := e
        refine g_aald d_X6_settle_64 k21 (by decide) (by decide) k22 rfl ?_
        replace e := bd e
        obtain ⟨q23, eq23, e⟩ := e
        refine g_callV d_X6_settle_65 vk_5_158 (as := [_]) rfl k20 rfl (by simp [zrf_cat, cat_int, cat_long]) (j := 5) (by omega) (c_X6_goOn (by omega) eq23) ?_
        replace e := bhd e
        obtain ⟨_, rfl, e⟩ := e
        refine s_iinc d_X6_settle_68 g2 (w := (1 : Int32)) (by decide +kernel) (by decide) (fun L g2 gK => ?_)
        replace g0 := gK _ _ (by decide) (Or.inr (zrf_cat _)) g0
        replace g1 := gK _ _ (by decide) (Or.inr rfl) g1
        refine r_goto d_X6_settle_71 (tgt := 43) (by decide) ?_
        exact ih _ _ _ _ _ _ g0 g1 g2 e

def f_X6_settle_2 : Nat → Nat → Int32 → Hp → Option Hp
  | 0, _, _, _ => none
  | n + 1, l0, l1, h => if ((5 : Int32)) < (l1) then (some (h)) else (ck (isO (h) (l0) 7) ((f_X6_works (l0) (h)).bind (fun q2 => if (q2.1) = (0) then (ck (isO (q2.2) (l0) 7) ((f_X6_mostAreUp (l0) (q2.2)).bind (fun q5 => if (q5.1) = (0) then (some (q5.2)) else (ck (isO (q5.2) (l0) 7) ((f_X6_elect (l0) (q5.2)).bind (fun q8 => if (q8.1) = (0) then (f_X6_settle_74 (f_X6_settle_2 n) (l0) (l1) (q8.2)) else (ck (isO (q8.2) (l0) 7) (ck (isO (q8.2) (zR (q8.2) 703 (l0)) 25) (ck (inR (zI (q8.2) 708 (l0)) (zL (q8.2) (zR (q8.2) 703 (l0)))) ((f_X6_readLog (l0) (zQ (q8.2) (zR (q8.2) 703 (l0)) (zI (q8.2) 708 (l0)).toNatClampNeg) (q8.2)).bind (fun q14 => f_X6_settle_43 (f_X6_settle_2 n) fz (l0) (l1) ((0 : Int32)) (q14)))))))))))) else (some (q2.2)))))
theorem f_X6_settle_2_ok {G : Gd} {d : Nat} (hj : 6 ≤ d) : ∀ (n : Nat) (l0 : Nat) (l1 : Int32) (L : List (Nat × Value)) (h : Hp) (o : Hp), zlk L 0 = some (zrf (l0)) → zlk L 1 = some (.int (l1)) → f_X6_settle_2 n l0 l1 h = some o → Ev G M_X6_settle d 2 L [] h (Ret Y_X6_settle none o) := by
  intro n
  induction n with
  | zero =>
    intro l0 l1 L h o g0 g1 e
    cases e
  | succ n ih =>
    intro l0 l1 L h o g0 g1 e
    unfold f_X6_settle_2 at e
    refine r_iload_n d_X6_settle_2 rfl g1 ?_
    refine r_iconst d_X6_settle_3 (v := (5 : Int32)) (by decide +kernel) ?_
    refine r_icmp_gt d_X6_settle_4 (tgt := 80) (by decide) (fun c1 => ?_) (fun c1 => ?_)
    · replace e := (if_pos c1).symm.trans e
      obtain rfl := Option.some.inj e
      exact g_vret d_X6_settle_80 rfl
    · replace e := (if_neg c1).symm.trans e
      refine g_ald_n d_X6_settle_7 rfl g0 ?_
      replace e := ckd e
      obtain ⟨k3, e⟩ := e
      replace e := bd e
      obtain ⟨q2, eq2, e⟩ := e
      refine g_callV d_X6_settle_8 vk_5_200 (as := []) rfl k3 rfl (by simp [zrf_cat, cat_int, cat_long]) (j := 1) (by omega) (c_X6_works (by omega) eq2) ?_
      refine r_if_ne d_X6_settle_11 (tgt := 80) (by decide) (fun c4 => ?_) (fun c4 => ?_)
      · replace e := (if_neg c4).symm.trans e
        obtain rfl := Option.some.inj e
        exact g_vret d_X6_settle_80 rfl
      · replace e := (if_pos c4).symm.trans e
        refine g_ald_n d_X6_settle_14 rfl g0 ?_
        replace e := ckd e
        obtain ⟨k6, e⟩ := e
        replace e := bd e
        obtain ⟨q5, eq5, e⟩ := e
        refine g_callV d_X6_settle_15 vk_5_109 (as := []) rfl k6 rfl (by simp [zrf_cat, cat_int, cat_long]) (j := 1) (by omega) (c_X6_mostAreUp (by omega) eq5) ?_
        refine r_if_eq d_X6_settle_18 (tgt := 80) (by decide) (fun c7 => ?_) (fun c7 => ?_)
        · replace e := (if_pos c7).symm.trans e
          obtain rfl := Option.some.inj e
          exact g_vret d_X6_settle_80 rfl
        · replace e := (if_neg c7).symm.trans e
          refine g_ald_n d_X6_settle_21 rfl g0 ?_
          replace e := ckd e
          obtain ⟨k9, e⟩ := e
          replace e := bd e
          obtain ⟨q8, eq8, e⟩ := e
          refine g_callV d_X6_settle_22 vk_5_234 (as := []) rfl k9 rfl (by simp [zrf_cat, cat_int, cat_long]) (j := 4) (by omega) (c_X6_elect (by omega) eq8) ?_
          refine r_if_eq d_X6_settle_25 (tgt := 74) (by decide) (fun c10 => ?_) (fun c10 => ?_)
          · replace e := (if_pos c10).symm.trans e
            exact f_X6_settle_74_ok _ hj ih _ _ _ _ _ g0 g1 e
          · replace e := (if_neg c10).symm.trans e
            refine g_ald_n d_X6_settle_28 rfl g0 ?_
            refine g_ald_n d_X6_settle_29 rfl g0 ?_
            replace e := ckd e
            obtain ⟨k11, e⟩ := e
            refine g_getR d_X6_settle_30 (f := 703) k11 fk_5_11 rfl rfl ?_
            refine g_ald_n d_X6_settle_33 rfl g0 ?_
            refine g_getI d_X6_settle_34 (f := 708) k11 fk_5_53 rfl rfl ?_
            replace e := ckd e
            obtain ⟨k12, e⟩ := e
            replace e := ckd e
            obtain ⟨k13, e⟩ := e
            refine g_aald d_X6_settle_37 k12 (by decide) (by decide) k13 rfl ?_
            replace e := bd e
            obtain ⟨q14, eq14, e⟩ := e
            refine g_callV d_X6_settle_38 vk_5_237 (as := [_]) rfl k11 rfl (by simp [zrf_cat, cat_int, cat_long]) (j := 5) (by omega) (c_X6_readLog (by omega) eq14) ?_
            refine r_iconst d_X6_settle_41 (v := (0 : Int32)) (by decide +kernel) ?_
            refine s_istore_n d_X6_settle_42 rfl (by decide) (fun L g2 gK => ?_)
            replace g0 := gK _ _ (by decide) (Or.inr (zrf_cat _)) g0
            replace g1 := gK _ _ (by decide) (Or.inr rfl) g1
            exact f_X6_settle_43_ok _ hj ih _ _ _ _ _ _ _ g0 g1 g2 e

def f_X6_settle (l0 : Nat) (h : Hp) : Option Hp := f_X6_settle_2 fz (l0) ((0 : Int32)) (h)
theorem f_X6_settle_ok {G : Gd} {d : Nat} (hj : 6 ≤ d) : ∀ (l0 : Nat) (L : List (Nat × Value)) (h : Hp) (o : Hp), zlk L 0 = some (zrf (l0)) → f_X6_settle l0 h = some o → Ev G M_X6_settle d 0 L [] h (Ret Y_X6_settle none o) := by
  intro l0 L h o g0 e
  unfold f_X6_settle at e
  refine r_iconst d_X6_settle_0 (v := (0 : Int32)) (by decide +kernel) ?_
  refine s_istore_n d_X6_settle_1 rfl (by decide) (fun L g1 gK => ?_)
  replace g0 := gK _ _ (by decide) (Or.inr (zrf_cat _)) g0
  exact f_X6_settle_2_ok hj _ _ _ _ _ _ g0 g1 e

theorem c_X6_settle {G : Gd} {j : Nat} (hj : 6 ≤ j) {l0 : Nat} {h : Hp} {o : Hp} (e : f_X6_settle l0 h = some o) : Cal G j Y_X6_settle [zrf (l0)] h none o := Cal.of (n := 0) (I := false) (by first | exact Or.inl (by decide +kernel) | exact Or.inr (by decide +kernel)) (by decide) (by simp [lg_sl, zrf_cat, cat_int, cat_long]) (f_X6_settle_ok hj _ _ h o (by simp [lv_args, zlk, zrf_cat, cat_int, cat_long]) e)
theorem fk_5_203 : Fk "TaskWeave$Shard" 203 1008 := ⟨by decide, by decide, by decide +kernel⟩
theorem vk_5_206 : Vk "TaskWeave$Shard" 206 0 7 Y_X6_settle := ⟨yk_X6_settle, by decide +kernel, by decide +kernel, by decide +kernel, by decide⟩
theorem fk_5_209 : Fk "TaskWeave$Shard" 209 905 := ⟨by decide, by decide, by decide +kernel⟩
theorem vk_5_212 : Vk "TaskWeave$Shard" 212 1 7 Y_X6_failTask := ⟨yk_X6_failTask, by decide +kernel, by decide +kernel, by decide +kernel, by decide⟩
def f_X6_passTime_74 (K2 : Nat → Int32 → Hp → Option Hp) (l0 : Nat) (l1 : Int32) (h : Hp) : Option Hp := bh ((l1) + (1 : Int32)) (fun x15 => K2 (l0) (x15) (h))
theorem f_X6_passTime_74_ok {G : Gd} {d : Nat} (K2 : Nat → Int32 → Hp → Option Hp) (hj : 8 ≤ d) (hK2 : ∀ (l0 : Nat) (l1 : Int32) (L : List (Nat × Value)) (h : Hp) (o : Hp), zlk L 0 = some (zrf (l0)) → zlk L 1 = some (.int (l1)) → K2 l0 l1 h = some o → Ev G M_X6_passTime d 2 L [] h (Ret Y_X6_passTime none o)) : ∀ (l0 : Nat) (l1 : Int32) (L : List (Nat × Value)) (h : Hp) (o : Hp), zlk L 0 = some (zrf (l0)) → zlk L 1 = some (.int (l1)) → f_X6_passTime_74 K2 l0 l1 h = some o → Ev G M_X6_passTime d 74 L [] h (Ret Y_X6_passTime none o) := by
  intro l0 l1 L h o g0 g1 e
  unfold f_X6_passTime_74 at e
  replace e := bhd e
  obtain ⟨_, rfl, e⟩ := e
  refine s_iinc d_X6_passTime_74 g1 (w := (1 : Int32)) (by decide +kernel) (by decide) (fun L g1 gK => ?_)
  replace g0 := gK _ _ (by decide) (Or.inr (zrf_cat _)) g0
  refine r_goto d_X6_passTime_77 (tgt := 2) (by decide) ?_
  exact hK2 _ _ _ _ _ g0 g1 e

def f_X6_passTime_155 (K82 : Nat → Int32 → Hp → Option Hp) (l0 : Nat) (l1 : Int32) (h : Hp) : Option Hp := bh ((l1) + (1 : Int32)) (fun x33 => K82 (l0) (x33) (h))
theorem f_X6_passTime_155_ok {G : Gd} {d : Nat} (K82 : Nat → Int32 → Hp → Option Hp) (hj : 8 ≤ d) (hK82 : ∀ (l0 : Nat) (l1 : Int32) (L : List (Nat × Value)) (h : Hp) (o : Hp), zlk L 0 = some (zrf (l0)) → zlk L 1 = some (.int (l1)) → K82 l0 l1 h = some o → Ev G M_X6_passTime d 82 L [] h (Ret Y_X6_passTime none o)) : ∀ (l0 : Nat) (l1 : Int32) (L : List (Nat × Value)) (h : Hp) (o : Hp), zlk L 0 = some (zrf (l0)) → zlk L 1 = some (.int (l1)) → f_X6_passTime_155 K82 l0 l1 h = some o → Ev G M_X6_passTime d 155 L [] h (Ret Y_X6_passTime none o) := by
  intro l0 l1 L h o g0 g1 e
  unfold f_X6_passTime_155 at e
  replace e := bhd e
  obtain ⟨_, rfl, e⟩ := e
  refine s_iinc d_X6_passTime_155 g1 (w := (1 : Int32)) (by decide +kernel) (by decide) (fun L g1 gK => ?_)
  replace g0 := gK _ _ (by decide) (Or.inr (zrf_cat _)) g0
  refine r_goto d_X6_passTime_158 (tgt := 82) (by decide) ?_
  exact hK82 _ _ _ _ _ g0 g1 e

def f_X6_passTime_82 : Nat → Nat → Int32 → Hp → Option Hp
  | 0, _, _, _ => none
  | n + 1, l0, l1, h => ck (isO (h) (l0) 7) (if (zI (h) 710 (l0)) ≤ (l1) then (some (h)) else ((f_X6_works (l0) (h)).bind (fun q18 => if (q18.1) = (0) then (some (q18.2)) else (ck (isO (q18.2) (l0) 7) (ck (isO (q18.2) (zR (q18.2) 704 (l0)) 28) (ck (inR (l1) (zL (q18.2) (zR (q18.2) 704 (l0)))) (ck (isO (q18.2) (zQ (q18.2) (zR (q18.2) 704 (l0)) (l1).toNatClampNeg) 10) (bh (zR (q18.2) 1003 (zQ (q18.2) (zR (q18.2) 704 (l0)) (l1).toNatClampNeg)) (fun x24 => if (zI (q18.2) 1007 (zQ (q18.2) (zR (q18.2) 704 (l0)) (l1).toNatClampNeg)) = (0) then (ck (isO (q18.2) (x24) 9) (if (zI (q18.2) 904 (x24)) ≤ (0) then (f_X6_passTime_155 (f_X6_passTime_82 n) (l0) (l1) (q18.2)) else (ck (isO (q18.2) (zR (q18.2) 701 (l0)) 1) (if (zI (q18.2) 100 (zR (q18.2) 701 (l0))) < (zI (q18.2) 905 (x24)) then (f_X6_passTime_155 (f_X6_passTime_82 n) (l0) (l1) (q18.2)) else ((f_X6_failTask (l0) (zQ (q18.2) (zR (q18.2) 704 (l0)) (l1).toNatClampNeg) (q18.2)).bind (fun q30 => ck (isO (q30.2) (l0) 7) ((f_X6_settle (l0) (q30.2)).bind (fun q31 => f_X6_passTime_155 (f_X6_passTime_82 n) (l0) (l1) (q31))))))))) else (f_X6_passTime_155 (f_X6_passTime_82 n) (l0) (l1) (q18.2)))))))))))
theorem f_X6_passTime_82_ok {G : Gd} {d : Nat} (hj : 8 ≤ d) : ∀ (n : Nat) (l0 : Nat) (l1 : Int32) (L : List (Nat × Value)) (h : Hp) (o : Hp), zlk L 0 = some (zrf (l0)) → zlk L 1 = some (.int (l1)) → f_X6_passTime_82 n l0 l1 h = some o → Ev G M_X6_passTime d 82 L [] h (Ret Y_X6_passTime none o) := by
  intro n
  induction n with
  | zero =>
    intro l0 l1 L h o g0 g1 e
    cases e
  | succ n ih =>
    intro l0 l1 L h o g0 g1 e
    unfold f_X6_passTime_82 at e
    refine r_iload_n d_X6_passTime_82 rfl g1 ?_
    refine g_ald_n d_X6_passTime_83 rfl g0 ?_
    replace e := ckd e
    obtain ⟨k16, e⟩ := e
    refine g_getI d_X6_passTime_84 (f := 710) k16 fk_5_56 rfl rfl ?_
    refine r_icmp_ge d_X6_passTime_87 (tgt := 161) (by decide) (fun c17 => ?_) (fun c17 => ?_)
    · replace e := (if_pos c17).symm.trans e
      obtain rfl := Option.some.inj e
      exact g_vret d_X6_passTime_161 rfl
    · replace e := (if_neg c17).symm.trans e
      refine g_ald_n d_X6_passTime_90 rfl g0 ?_
      replace e := bd e
      obtain ⟨q18, eq18, e⟩ := e
      refine g_callV d_X6_passTime_91 vk_5_200 (as := []) rfl k16 rfl (by simp [zrf_cat, cat_int, cat_long]) (j := 1) (by omega) (c_X6_works (by omega) eq18) ?_
      refine r_if_eq d_X6_passTime_94 (tgt := 161) (by decide) (fun c19 => ?_) (fun c19 => ?_)
      · replace e := (if_pos c19).symm.trans e
        obtain rfl := Option.some.inj e
        exact g_vret d_X6_passTime_161 rfl
      · replace e := (if_neg c19).symm.trans e
        refine g_ald_n d_X6_passTime_97 rfl g0 ?_
        replace e := ckd e
        obtain ⟨k20, e⟩ := e
        refine g_getR d_X6_passTime_98 (f := 704) k20 fk_5_19 rfl rfl ?_
        refine r_iload_n d_X6_passTime_101 rfl g1 ?_
        replace e := ckd e
        obtain ⟨k21, e⟩ := e
        replace e := ckd e
        obtain ⟨k22, e⟩ := e
        refine g_aald d_X6_passTime_102 k21 (by decide) (by decide) k22 rfl ?_
        replace e := ckd e
        obtain ⟨k23, e⟩ := e
        refine g_getR d_X6_passTime_103 (f := 1003) k23 fk_5_85 rfl rfl ?_
        replace e := bhd e
        obtain ⟨_, rfl, e⟩ := e
        refine s_ast_n d_X6_passTime_106 rfl (by decide) (fun L g2 gK => ?_)
        replace g0 := gK _ _ (by decide) (Or.inr (zrf_cat _)) g0
        replace g1 := gK _ _ (by decide) (Or.inr rfl) g1
        refine g_ald_n d_X6_passTime_107 rfl g0 ?_
        refine g_getR d_X6_passTime_108 (f := 704) k20 fk_5_19 rfl rfl ?_
        refine r_iload_n d_X6_passTime_111 rfl g1 ?_
        refine g_aald d_X6_passTime_112 k21 (by decide) (by decide) k22 rfl ?_
        refine g_getI d_X6_passTime_113 (f := 1007) k23 fk_5_82 rfl rfl ?_
        refine r_if_ne d_X6_passTime_116 (tgt := 155) (by decide) (fun c25 => ?_) (fun c25 => ?_)
        · replace e := (if_neg c25).symm.trans e
          exact f_X6_passTime_155_ok _ hj ih _ _ _ _ _ g0 g1 e
        · replace e := (if_pos c25).symm.trans e
          refine g_ald_n d_X6_passTime_119 rfl g2 ?_
          replace e := ckd e
          obtain ⟨k26, e⟩ := e
          refine g_getI d_X6_passTime_120 (f := 904) k26 fk_5_89 rfl rfl ?_
          refine r_if_le d_X6_passTime_123 (tgt := 155) (by decide) (fun c27 => ?_) (fun c27 => ?_)
          · replace e := (if_pos c27).symm.trans e
            exact f_X6_passTime_155_ok _ hj ih _ _ _ _ _ g0 g1 e
          · replace e := (if_neg c27).symm.trans e
            refine g_ald_n d_X6_passTime_126 rfl g2 ?_
            refine g_getI d_X6_passTime_127 (f := 905) k26 fk_5_209 rfl rfl ?_
            refine g_ald_n d_X6_passTime_130 rfl g0 ?_
            refine g_getR d_X6_passTime_131 (f := 701) k20 fk_5_41 rfl rfl ?_
            replace e := ckd e
            obtain ⟨k28, e⟩ := e
            refine g_getI d_X6_passTime_134 (f := 100) k28 fk_5_127 rfl rfl ?_
            refine r_icmp_gt d_X6_passTime_137 (tgt := 155) (by decide) (fun c29 => ?_) (fun c29 => ?_)
            · replace e := (if_pos c29).symm.trans e
              exact f_X6_passTime_155_ok _ hj ih _ _ _ _ _ g0 g1 e
            · replace e := (if_neg c29).symm.trans e
              refine g_ald_n d_X6_passTime_140 rfl g0 ?_
              refine g_ald_n d_X6_passTime_141 rfl g0 ?_
              refine g_getR d_X6_passTime_142 (f := 704) k20 fk_5_19 rfl rfl ?_
              refine r_iload_n d_X6_passTime_145 rfl g1 ?_
              refine g_aald d_X6_passTime_146 k21 (by decide) (by decide) k22 rfl ?_
              replace e := bd e
              obtain ⟨q30, eq30, e⟩ := e
              refine g_callV d_X6_passTime_147 vk_5_212 (as := [_]) rfl k20 rfl (by simp [zrf_cat, cat_int, cat_long]) (j := 7) (by omega) (c_X6_failTask (by omega) eq30) ?_
              refine r_pop d_X6_passTime_150 rfl ?_
              refine g_ald_n d_X6_passTime_151 rfl g0 ?_
              replace e := ckd e
              obtain ⟨k32, e⟩ := e
              replace e := bd e
              obtain ⟨q31, eq31, e⟩ := e
              refine g_callV d_X6_passTime_152 vk_5_206 (as := []) rfl k32 rfl (by simp [zrf_cat, cat_int, cat_long]) (j := 6) (by omega) (c_X6_settle (by omega) eq31) ?_
              exact f_X6_passTime_155_ok _ hj ih _ _ _ _ _ g0 g1 e

def f_X6_passTime_80 (l0 : Nat) (h : Hp) : Option Hp := f_X6_passTime_82 fz (l0) ((0 : Int32)) (h)
theorem f_X6_passTime_80_ok {G : Gd} {d : Nat} (hj : 8 ≤ d) : ∀ (l0 : Nat) (L : List (Nat × Value)) (h : Hp) (o : Hp), zlk L 0 = some (zrf (l0)) → f_X6_passTime_80 l0 h = some o → Ev G M_X6_passTime d 80 L [] h (Ret Y_X6_passTime none o) := by
  intro l0 L h o g0 e
  unfold f_X6_passTime_80 at e
  refine r_iconst d_X6_passTime_80 (v := (0 : Int32)) (by decide +kernel) ?_
  refine s_istore_n d_X6_passTime_81 rfl (by decide) (fun L g1 gK => ?_)
  replace g0 := gK _ _ (by decide) (Or.inr (zrf_cat _)) g0
  exact f_X6_passTime_82_ok hj _ _ _ _ _ _ g0 g1 e

def f_X6_passTime_2 : Nat → Nat → Int32 → Hp → Option Hp
  | 0, _, _, _ => none
  | n + 1, l0, l1, h => ck (isO (h) (l0) 7) (if (zI (h) 710 (l0)) ≤ (l1) then (f_X6_passTime_80 (l0) (h)) else ((f_X6_works (l0) (h)).bind (fun q3 => if (q3.1) = (0) then (f_X6_passTime_80 (l0) (q3.2)) else (ck (isO (q3.2) (l0) 7) (ck (isO (q3.2) (zR (q3.2) 704 (l0)) 28) (ck (inR (l1) (zL (q3.2) (zR (q3.2) 704 (l0)))) (ck (isO (q3.2) (zQ (q3.2) (zR (q3.2) 704 (l0)) (l1).toNatClampNeg) 10) (if (zI (q3.2) 1007 (zQ (q3.2) (zR (q3.2) 704 (l0)) (l1).toNatClampNeg)) = ((1 : Int32)) then (ck (isO (q3.2) (zR (q3.2) 701 (l0)) 1) (if (zI (q3.2) 100 (zR (q3.2) 701 (l0))) < (zI (q3.2) 1008 (zQ (q3.2) (zR (q3.2) 704 (l0)) (l1).toNatClampNeg)) then (f_X6_passTime_74 (f_X6_passTime_2 n) (l0) (l1) (q3.2)) else ((f_X6_bring (l0) (zQ (q3.2) (zR (q3.2) 704 (l0)) (l1).toNatClampNeg) ((5 : Int32)) (zI (q3.2) 100 (zR (q3.2) 701 (l0))) ((0 : Int32)) ((0 : Int32)) (q3.2)).bind (fun q12 => ck (isO (q12.2) (l0) 7) ((f_X6_settle (l0) (q12.2)).bind (fun q13 => f_X6_passTime_74 (f_X6_passTime_2 n) (l0) (l1) (q13))))))) else (f_X6_passTime_74 (f_X6_passTime_2 n) (l0) (l1) (q3.2))))))))))
theorem f_X6_passTime_2_ok {G : Gd} {d : Nat} (hj : 8 ≤ d) : ∀ (n : Nat) (l0 : Nat) (l1 : Int32) (L : List (Nat × Value)) (h : Hp) (o : Hp), zlk L 0 = some (zrf (l0)) → zlk L 1 = some (.int (l1)) → f_X6_passTime_2 n l0 l1 h = some o → Ev G M_X6_passTime d 2 L [] h (Ret Y_X6_passTime none o) := by
  intro n
  induction n with
  | zero =>
    intro l0 l1 L h o g0 g1 e
    cases e
  | succ n ih =>
    intro l0 l1 L h o g0 g1 e
    unfold f_X6_passTime_2 at e
    refine r_iload_n d_X6_passTime_2 rfl g1 ?_
    refine g_ald_n d_X6_passTime_3 rfl g0 ?_
    replace e := ckd e
    obtain ⟨k1, e⟩ := e
    refine g_getI d_X6_passTime_4 (f := 710) k1 fk_5_56 rfl rfl ?_
    refine r_icmp_ge d_X6_passTime_7 (tgt := 80) (by decide) (fun c2 => ?_) (fun c2 => ?_)
    · replace e := (if_pos c2).symm.trans e
      exact f_X6_passTime_80_ok hj _ _ _ _ g0 e
    · replace e := (if_neg c2).symm.trans e
      refine g_ald_n d_X6_passTime_10 rfl g0 ?_
      replace e := bd e
      obtain ⟨q3, eq3, e⟩ := e
      refine g_callV d_X6_passTime_11 vk_5_200 (as := []) rfl k1 rfl (by simp [zrf_cat, cat_int, cat_long]) (j := 1) (by omega) (c_X6_works (by omega) eq3) ?_
      refine r_if_eq d_X6_passTime_14 (tgt := 80) (by decide) (fun c4 => ?_) (fun c4 => ?_)
      · replace e := (if_pos c4).symm.trans e
        exact f_X6_passTime_80_ok hj _ _ _ _ g0 e
      · replace e := (if_neg c4).symm.trans e
        refine g_ald_n d_X6_passTime_17 rfl g0 ?_
        replace e := ckd e
        obtain ⟨k5, e⟩ := e
        refine g_getR d_X6_passTime_18 (f := 704) k5 fk_5_19 rfl rfl ?_
        refine r_iload_n d_X6_passTime_21 rfl g1 ?_
        replace e := ckd e
        obtain ⟨k6, e⟩ := e
        replace e := ckd e
        obtain ⟨k7, e⟩ := e
        refine g_aald d_X6_passTime_22 k6 (by decide) (by decide) k7 rfl ?_
        replace e := ckd e
        obtain ⟨k8, e⟩ := e
        refine g_getI d_X6_passTime_23 (f := 1007) k8 fk_5_82 rfl rfl ?_
        refine r_iconst d_X6_passTime_26 (v := (1 : Int32)) (by decide +kernel) ?_
        refine r_icmp_ne d_X6_passTime_27 (tgt := 74) (by decide) (fun c9 => ?_) (fun c9 => ?_)
        · replace e := (if_neg c9).symm.trans e
          exact f_X6_passTime_74_ok _ hj ih _ _ _ _ _ g0 g1 e
        · replace e := (if_pos c9).symm.trans e
          refine g_ald_n d_X6_passTime_30 rfl g0 ?_
          refine g_getR d_X6_passTime_31 (f := 704) k5 fk_5_19 rfl rfl ?_
          refine r_iload_n d_X6_passTime_34 rfl g1 ?_
          refine g_aald d_X6_passTime_35 k6 (by decide) (by decide) k7 rfl ?_
          refine g_getI d_X6_passTime_36 (f := 1008) k8 fk_5_203 rfl rfl ?_
          refine g_ald_n d_X6_passTime_39 rfl g0 ?_
          refine g_getR d_X6_passTime_40 (f := 701) k5 fk_5_41 rfl rfl ?_
          replace e := ckd e
          obtain ⟨k10, e⟩ := e
          refine g_getI d_X6_passTime_43 (f := 100) k10 fk_5_127 rfl rfl ?_
          refine r_icmp_gt d_X6_passTime_46 (tgt := 74) (by decide) (fun c11 => ?_) (fun c11 => ?_)
          · replace e := (if_pos c11).symm.trans e
            exact f_X6_passTime_74_ok _ hj ih _ _ _ _ _ g0 g1 e
          · replace e := (if_neg c11).symm.trans e
            refine g_ald_n d_X6_passTime_49 rfl g0 ?_
            refine g_ald_n d_X6_passTime_50 rfl g0 ?_
            refine g_getR d_X6_passTime_51 (f := 704) k5 fk_5_19 rfl rfl ?_
            refine r_iload_n d_X6_passTime_54 rfl g1 ?_
            refine g_aald d_X6_passTime_55 k6 (by decide) (by decide) k7 rfl ?_
            refine r_iconst d_X6_passTime_56 (v := (5 : Int32)) (by decide +kernel) ?_
            refine g_ald_n d_X6_passTime_57 rfl g0 ?_
            refine g_getR d_X6_passTime_58 (f := 701) k5 fk_5_41 rfl rfl ?_
            refine g_getI d_X6_passTime_61 (f := 100) k10 fk_5_127 rfl rfl ?_
            refine r_iconst d_X6_passTime_64 (v := (0 : Int32)) (by decide +kernel) ?_
            refine r_iconst d_X6_passTime_65 (v := (0 : Int32)) (by decide +kernel) ?_
            replace e := bd e
            obtain ⟨q12, eq12, e⟩ := e
            refine g_callV d_X6_passTime_66 vk_5_190 (as := [_, _, _, _, _]) rfl k5 rfl (by simp [zrf_cat, cat_int, cat_long]) (j := 6) (by omega) (c_X6_bring (by omega) eq12) ?_
            refine r_pop d_X6_passTime_69 rfl ?_
            refine g_ald_n d_X6_passTime_70 rfl g0 ?_
            replace e := ckd e
            obtain ⟨k14, e⟩ := e
            replace e := bd e
            obtain ⟨q13, eq13, e⟩ := e
            refine g_callV d_X6_passTime_71 vk_5_206 (as := []) rfl k14 rfl (by simp [zrf_cat, cat_int, cat_long]) (j := 6) (by omega) (c_X6_settle (by omega) eq13) ?_
            exact f_X6_passTime_74_ok _ hj ih _ _ _ _ _ g0 g1 e

def f_X6_passTime (l0 : Nat) (h : Hp) : Option Hp := f_X6_passTime_2 fz (l0) ((0 : Int32)) (h)
theorem f_X6_passTime_ok {G : Gd} {d : Nat} (hj : 8 ≤ d) : ∀ (l0 : Nat) (L : List (Nat × Value)) (h : Hp) (o : Hp), zlk L 0 = some (zrf (l0)) → f_X6_passTime l0 h = some o → Ev G M_X6_passTime d 0 L [] h (Ret Y_X6_passTime none o) := by
  intro l0 L h o g0 e
  unfold f_X6_passTime at e
  refine r_iconst d_X6_passTime_0 (v := (0 : Int32)) (by decide +kernel) ?_
  refine s_istore_n d_X6_passTime_1 rfl (by decide) (fun L g1 gK => ?_)
  replace g0 := gK _ _ (by decide) (Or.inr (zrf_cat _)) g0
  exact f_X6_passTime_2_ok hj _ _ _ _ _ _ g0 g1 e

theorem c_X6_passTime {G : Gd} {j : Nat} (hj : 8 ≤ j) {l0 : Nat} {h : Hp} {o : Hp} (e : f_X6_passTime l0 h = some o) : Cal G j Y_X6_passTime [zrf (l0)] h none o := Cal.of (n := 0) (I := false) (by first | exact Or.inl (by decide +kernel) | exact Or.inr (by decide +kernel)) (by decide) (by simp [lg_sl, zrf_cat, cat_int, cat_long]) (f_X6_passTime_ok hj _ _ h o (by simp [lv_args, zlk, zrf_cat, cat_int, cat_long]) e)
theorem fk_5_216 : Fk "TaskWeave$Shard" 216 604 := ⟨by decide, by decide, by decide +kernel⟩
def f_X6_renew_43 : Nat → Nat → Int32 → Int32 → Hp → Option (Int32 × Hp)
  | 0, _, _, _, _ => none
  | n + 1, l0, l1, l2, h => if ((5 : Int32)) ≤ (l2) then (ck (isO (h) (l0) 7) (bh (pI (h) 707 (l0) (l1)) (fun h11 => bh (pI (h11) 708 (l0) ((0 : Int32))) (fun h12 => some ((1 : Int32), h12))))) else (ck (isO (h) (l0) 7) (ck (isO (h) (zR (h) 703 (l0)) 25) (ck (inR (l2) (zL (h) (zR (h) 703 (l0)))) (ck (isO (h) (zQ (h) (zR (h) 703 (l0)) (l2).toNatClampNeg) 6) (bh (pI (h) 602 (zQ (h) (zR (h) 703 (l0)) (l2).toNatClampNeg) ((0 : Int32))) (fun h17 => ck (isO (h17) (zR (h17) 703 (l0)) 25) (ck (inR (l2) (zL (h17) (zR (h17) 703 (l0)))) (ck (isO (h17) (zQ (h17) (zR (h17) 703 (l0)) (l2).toNatClampNeg) 6) (bh (pI (h17) 603 (zQ (h17) (zR (h17) 703 (l0)) (l2).toNatClampNeg) ((1 : Int32))) (fun h21 => ck (isO (h21) (zR (h21) 703 (l0)) 25) (ck (inR (l2) (zL (h21) (zR (h21) 703 (l0)))) (ck (isO (h21) (zQ (h21) (zR (h21) 703 (l0)) (l2).toNatClampNeg) 6) (bh (pI (h21) 604 (zQ (h21) (zR (h21) 703 (l0)) (l2).toNatClampNeg) ((-1 : Int32))) (fun h25 => bh ((l2) + (1 : Int32)) (fun x26 => f_X6_renew_43 n (l0) (l1) (x26) (h25))))))))))))))))
theorem f_X6_renew_43_ok {G : Gd} {d : Nat} (hj : 1 ≤ d) : ∀ (n : Nat) (l0 : Nat) (l1 : Int32) (l2 : Int32) (L : List (Nat × Value)) (h : Hp) (o : (Int32 × Hp)), zlk L 0 = some (zrf (l0)) → zlk L 1 = some (.int (l1)) → zlk L 2 = some (.int (l2)) → f_X6_renew_43 n l0 l1 l2 h = some o → Ev G M_X6_renew d 43 L [] h (Ret Y_X6_renew (some (.int o.1)) o.2) := by
  intro n
  induction n with
  | zero =>
    intro l0 l1 l2 L h o g0 g1 g2 e
    cases e
  | succ n ih =>
    intro l0 l1 l2 L h o g0 g1 g2 e
    unfold f_X6_renew_43 at e
    refine r_iload_n d_X6_renew_43 rfl g2 ?_
    refine r_iconst d_X6_renew_44 (v := (5 : Int32)) (by decide +kernel) ?_
    refine r_icmp_ge d_X6_renew_45 (tgt := 84) (by decide) (fun c9 => ?_) (fun c9 => ?_)
    · replace e := (if_pos c9).symm.trans e
      refine g_ald_n d_X6_renew_84 rfl g0 ?_
      refine r_iload_n d_X6_renew_85 rfl g1 ?_
      replace e := ckd e
      obtain ⟨k10, e⟩ := e
      refine g_putI d_X6_renew_86 (f := 707) k10 fk_5_34 rfl (Or.inl rfl) ⟨rfl, rfl⟩ ?_
      replace e := bhd e
      obtain ⟨_, rfl, e⟩ := e
      refine g_ald_n d_X6_renew_89 rfl g0 ?_
      refine r_iconst d_X6_renew_90 (v := (0 : Int32)) (by decide +kernel) ?_
      refine g_putI d_X6_renew_91 (f := 708) (tO_pI k10) fk_5_53 rfl (Or.inl rfl) ⟨rfl, rfl⟩ ?_
      replace e := bhd e
      obtain ⟨_, rfl, e⟩ := e
      refine r_iconst d_X6_renew_94 (v := (1 : Int32)) (by decide +kernel) ?_
      obtain rfl := Option.some.inj e
      exact g_iret d_X6_renew_95 rfl rfl
    · replace e := (if_neg c9).symm.trans e
      refine g_ald_n d_X6_renew_48 rfl g0 ?_
      replace e := ckd e
      obtain ⟨k13, e⟩ := e
      refine g_getR d_X6_renew_49 (f := 703) k13 fk_5_11 rfl rfl ?_
      refine r_iload_n d_X6_renew_52 rfl g2 ?_
      replace e := ckd e
      obtain ⟨k14, e⟩ := e
      replace e := ckd e
      obtain ⟨k15, e⟩ := e
      refine g_aald d_X6_renew_53 k14 (by decide) (by decide) k15 rfl ?_
      refine r_iconst d_X6_renew_54 (v := (0 : Int32)) (by decide +kernel) ?_
      replace e := ckd e
      obtain ⟨k16, e⟩ := e
      refine g_putI d_X6_renew_55 (f := 602) k16 fk_5_69 rfl (Or.inl rfl) ⟨rfl, rfl⟩ ?_
      replace e := bhd e
      obtain ⟨_, rfl, e⟩ := e
      refine g_ald_n d_X6_renew_58 rfl g0 ?_
      refine g_getR d_X6_renew_59 (f := 703) (tO_pI k13) fk_5_11 rfl rfl ?_
      refine r_iload_n d_X6_renew_62 rfl g2 ?_
      replace e := ckd e
      obtain ⟨k18, e⟩ := e
      replace e := ckd e
      obtain ⟨k19, e⟩ := e
      refine g_aald d_X6_renew_63 k18 (by decide) (by decide) k19 rfl ?_
      refine r_iconst d_X6_renew_64 (v := (1 : Int32)) (by decide +kernel) ?_
      replace e := ckd e
      obtain ⟨k20, e⟩ := e
      refine g_putI d_X6_renew_65 (f := 603) k20 fk_5_94 rfl (Or.inl rfl) ⟨rfl, rfl⟩ ?_
      replace e := bhd e
      obtain ⟨_, rfl, e⟩ := e
      refine g_ald_n d_X6_renew_68 rfl g0 ?_
      refine g_getR d_X6_renew_69 (f := 703) (tO_pI (tO_pI k13)) fk_5_11 rfl rfl ?_
      refine r_iload_n d_X6_renew_72 rfl g2 ?_
      replace e := ckd e
      obtain ⟨k22, e⟩ := e
      replace e := ckd e
      obtain ⟨k23, e⟩ := e
      refine g_aald d_X6_renew_73 k22 (by decide) (by decide) k23 rfl ?_
      refine r_iconst d_X6_renew_74 (v := (-1 : Int32)) (by decide +kernel) ?_
      replace e := ckd e
      obtain ⟨k24, e⟩ := e
      refine g_putI d_X6_renew_75 (f := 604) k24 fk_5_216 rfl (Or.inl rfl) ⟨rfl, rfl⟩ ?_
      replace e := bhd e
      obtain ⟨_, rfl, e⟩ := e
      replace e := bhd e
      obtain ⟨_, rfl, e⟩ := e
      refine s_iinc d_X6_renew_78 g2 (w := (1 : Int32)) (by decide +kernel) (by decide) (fun L g2 gK => ?_)
      replace g0 := gK _ _ (by decide) (Or.inr (zrf_cat _)) g0
      replace g1 := gK _ _ (by decide) (Or.inr rfl) g1
      refine r_goto d_X6_renew_81 (tgt := 43) (by decide) ?_
      exact ih _ _ _ _ _ _ g0 g1 g2 e

def f_X6_renew_2 : Nat → Nat → Int32 → Int32 → Hp → Option (Int32 × Hp)
  | 0, _, _, _, _ => none
  | n + 1, l0, l1, l2, h => ck (isO (h) (l0) 7) (if (zI (h) 707 (l0)) ≤ (l2) then (if (zI (h) 709 (l0)) = (0) then (f_X6_renew_43 fz (l0) (l1) ((0 : Int32)) (h)) else (some ((0 : Int32), h))) else (ck (isO (h) (zR (h) 703 (l0)) 25) (ck (inR (l2) (zL (h) (zR (h) 703 (l0)))) (ck (isO (h) (zQ (h) (zR (h) 703 (l0)) (l2).toNatClampNeg) 6) (if (zI (h) 602 (zQ (h) (zR (h) 703 (l0)) (l2).toNatClampNeg)) < ((16 : Int32)) then (bh ((l2) + (1 : Int32)) (fun x8 => f_X6_renew_2 n (l0) (l1) (x8) (h))) else (some ((0 : Int32), h)))))))
theorem f_X6_renew_2_ok {G : Gd} {d : Nat} (hj : 1 ≤ d) : ∀ (n : Nat) (l0 : Nat) (l1 : Int32) (l2 : Int32) (L : List (Nat × Value)) (h : Hp) (o : (Int32 × Hp)), zlk L 0 = some (zrf (l0)) → zlk L 1 = some (.int (l1)) → zlk L 2 = some (.int (l2)) → f_X6_renew_2 n l0 l1 l2 h = some o → Ev G M_X6_renew d 2 L [] h (Ret Y_X6_renew (some (.int o.1)) o.2) := by
  intro n
  induction n with
  | zero =>
    intro l0 l1 l2 L h o g0 g1 g2 e
    cases e
  | succ n ih =>
    intro l0 l1 l2 L h o g0 g1 g2 e
    unfold f_X6_renew_2 at e
    refine r_iload_n d_X6_renew_2 rfl g2 ?_
    refine g_ald_n d_X6_renew_3 rfl g0 ?_
    replace e := ckd e
    obtain ⟨k1, e⟩ := e
    refine g_getI d_X6_renew_4 (f := 707) k1 fk_5_34 rfl rfl ?_
    refine r_icmp_ge d_X6_renew_7 (tgt := 32) (by decide) (fun c2 => ?_) (fun c2 => ?_)
    · replace e := (if_pos c2).symm.trans e
      refine g_ald_n d_X6_renew_32 rfl g0 ?_
      refine g_getI d_X6_renew_33 (f := 709) k1 fk_5_102 rfl rfl ?_
      refine r_if_eq d_X6_renew_36 (tgt := 41) (by decide) (fun c3 => ?_) (fun c3 => ?_)
      · replace e := (if_pos c3).symm.trans e
        refine r_iconst d_X6_renew_41 (v := (0 : Int32)) (by decide +kernel) ?_
        refine s_istore_n d_X6_renew_42 rfl (by decide) (fun L g2 gK => ?_)
        replace g0 := gK _ _ (by decide) (Or.inr (zrf_cat _)) g0
        replace g1 := gK _ _ (by decide) (Or.inr rfl) g1
        exact f_X6_renew_43_ok hj _ _ _ _ _ _ _ g0 g1 g2 e
      · replace e := (if_neg c3).symm.trans e
        refine r_iconst d_X6_renew_39 (v := (0 : Int32)) (by decide +kernel) ?_
        obtain rfl := Option.some.inj e
        exact g_iret d_X6_renew_40 rfl rfl
    · replace e := (if_neg c2).symm.trans e
      refine g_ald_n d_X6_renew_10 rfl g0 ?_
      refine g_getR d_X6_renew_11 (f := 703) k1 fk_5_11 rfl rfl ?_
      refine r_iload_n d_X6_renew_14 rfl g2 ?_
      replace e := ckd e
      obtain ⟨k4, e⟩ := e
      replace e := ckd e
      obtain ⟨k5, e⟩ := e
      refine g_aald d_X6_renew_15 k4 (by decide) (by decide) k5 rfl ?_
      replace e := ckd e
      obtain ⟨k6, e⟩ := e
      refine g_getI d_X6_renew_16 (f := 602) k6 fk_5_69 rfl rfl ?_
      refine r_bipush d_X6_renew_19 (v := (16 : Int32)) (by decide +kernel) ?_
      refine r_icmp_lt d_X6_renew_21 (tgt := 26) (by decide) (fun c7 => ?_) (fun c7 => ?_)
      · replace e := (if_pos c7).symm.trans e
        replace e := bhd e
        obtain ⟨_, rfl, e⟩ := e
        refine s_iinc d_X6_renew_26 g2 (w := (1 : Int32)) (by decide +kernel) (by decide) (fun L g2 gK => ?_)
        replace g0 := gK _ _ (by decide) (Or.inr (zrf_cat _)) g0
        replace g1 := gK _ _ (by decide) (Or.inr rfl) g1
        refine r_goto d_X6_renew_29 (tgt := 2) (by decide) ?_
        exact ih _ _ _ _ _ _ g0 g1 g2 e
      · replace e := (if_neg c7).symm.trans e
        refine r_iconst d_X6_renew_24 (v := (0 : Int32)) (by decide +kernel) ?_
        obtain rfl := Option.some.inj e
        exact g_iret d_X6_renew_25 rfl rfl

def f_X6_renew (l0 : Nat) (l1 : Int32) (h : Hp) : Option (Int32 × Hp) := f_X6_renew_2 fz (l0) (l1) ((0 : Int32)) (h)
theorem f_X6_renew_ok {G : Gd} {d : Nat} (hj : 1 ≤ d) : ∀ (l0 : Nat) (l1 : Int32) (L : List (Nat × Value)) (h : Hp) (o : (Int32 × Hp)), zlk L 0 = some (zrf (l0)) → zlk L 1 = some (.int (l1)) → f_X6_renew l0 l1 h = some o → Ev G M_X6_renew d 0 L [] h (Ret Y_X6_renew (some (.int o.1)) o.2) := by
  intro l0 l1 L h o g0 g1 e
  unfold f_X6_renew at e
  refine r_iconst d_X6_renew_0 (v := (0 : Int32)) (by decide +kernel) ?_
  refine s_istore_n d_X6_renew_1 rfl (by decide) (fun L g2 gK => ?_)
  replace g0 := gK _ _ (by decide) (Or.inr (zrf_cat _)) g0
  replace g1 := gK _ _ (by decide) (Or.inr rfl) g1
  exact f_X6_renew_2_ok hj _ _ _ _ _ _ _ g0 g1 g2 e

theorem c_X6_renew {G : Gd} {j : Nat} (hj : 1 ≤ j) {l0 : Nat} {l1 : Int32} {h : Hp} {o : (Int32 × Hp)} (e : f_X6_renew l0 l1 h = some o) : Cal G j Y_X6_renew [zrf (l0), .int (l1)] h (some (.int o.1)) o.2 := Cal.of (n := 0) (I := false) (by first | exact Or.inl (by decide +kernel) | exact Or.inr (by decide +kernel)) (by decide) (by simp [lg_sl, zrf_cat, cat_int, cat_long]) (f_X6_renew_ok hj _ _ _ h o (by simp [lv_args, zlk, zrf_cat, cat_int, cat_long]) (by simp [lv_args, zlk, zrf_cat, cat_int, cat_long]) e)
def f_X6_raise (l0 : Nat) (l1 : Nat) (h : Hp) : Option Hp := ck (isO (h) (l1) 6) (bh (pI (h) 603 (l1) ((1 : Int32))) (fun h2 => bh (pI (h2) 602 (l1) ((zI (h2) 602 (l1)) - ((zI (h2) 602 (l1)) - (zI (h2) 602 (l1)) / ((16 : Int32)) * ((16 : Int32))))) (fun h3 => ck (isO (h3) (l0) 7) ((f_X6_works (l0) (h3)).bind (fun q4 => if (q4.1) = (0) then (some (q4.2)) else (ck (isO (q4.2) (l0) 7) (ck (isO (q4.2) (zR (q4.2) 703 (l0)) 25) (ck (inR (zI (q4.2) 708 (l0)) (zL (q4.2) (zR (q4.2) 703 (l0)))) ((f_X6_makeAlike (l0) (l1) (zQ (q4.2) (zR (q4.2) 703 (l0)) (zI (q4.2) 708 (l0)).toNatClampNeg) (q4.2)).bind (fun q10 => some (q10)))))))))))
theorem f_X6_raise_ok {G : Gd} {d : Nat} (hj : 4 ≤ d) : ∀ (l0 : Nat) (l1 : Nat) (L : List (Nat × Value)) (h : Hp) (o : Hp), zlk L 0 = some (zrf (l0)) → zlk L 1 = some (zrf (l1)) → f_X6_raise l0 l1 h = some o → Ev G M_X6_raise d 0 L [] h (Ret Y_X6_raise none o) := by
  intro l0 l1 L h o g0 g1 e
  unfold f_X6_raise at e
  refine g_ald_n d_X6_raise_0 rfl g1 ?_
  refine r_iconst d_X6_raise_1 (v := (1 : Int32)) (by decide +kernel) ?_
  replace e := ckd e
  obtain ⟨k1, e⟩ := e
  refine g_putI d_X6_raise_2 (f := 603) k1 fk_5_94 rfl (Or.inl rfl) ⟨rfl, rfl⟩ ?_
  replace e := bhd e
  obtain ⟨_, rfl, e⟩ := e
  refine g_ald_n d_X6_raise_5 rfl g1 ?_
  refine r_dup d_X6_raise_6 (zrf_cat _) ?_
  refine g_getI d_X6_raise_7 (f := 602) (tO_pI k1) fk_5_69 rfl rfl ?_
  refine g_ald_n d_X6_raise_10 rfl g1 ?_
  refine g_getI d_X6_raise_11 (f := 602) (tO_pI k1) fk_5_69 rfl rfl ?_
  refine r_bipush d_X6_raise_14 (v := (16 : Int32)) (by decide +kernel) ?_
  refine r_irem d_X6_raise_16 (by decide +kernel) ?_
  refine r_isub d_X6_raise_17 ?_
  refine g_putI d_X6_raise_18 (f := 602) (tO_pI k1) fk_5_69 rfl (Or.inl rfl) ⟨rfl, rfl⟩ ?_
  replace e := bhd e
  obtain ⟨_, rfl, e⟩ := e
  refine g_ald_n d_X6_raise_21 rfl g0 ?_
  replace e := ckd e
  obtain ⟨k5, e⟩ := e
  replace e := bd e
  obtain ⟨q4, eq4, e⟩ := e
  refine g_callV d_X6_raise_22 vk_5_200 (as := []) rfl k5 rfl (by simp [zrf_cat, cat_int, cat_long]) (j := 1) (by omega) (c_X6_works (by omega) eq4) ?_
  refine r_if_eq d_X6_raise_25 (tgt := 42) (by decide) (fun c6 => ?_) (fun c6 => ?_)
  · replace e := (if_pos c6).symm.trans e
    obtain rfl := Option.some.inj e
    exact g_vret d_X6_raise_42 rfl
  · replace e := (if_neg c6).symm.trans e
    refine g_ald_n d_X6_raise_28 rfl g0 ?_
    refine g_ald_n d_X6_raise_29 rfl g1 ?_
    refine g_ald_n d_X6_raise_30 rfl g0 ?_
    replace e := ckd e
    obtain ⟨k7, e⟩ := e
    refine g_getR d_X6_raise_31 (f := 703) k7 fk_5_11 rfl rfl ?_
    refine g_ald_n d_X6_raise_34 rfl g0 ?_
    refine g_getI d_X6_raise_35 (f := 708) k7 fk_5_53 rfl rfl ?_
    replace e := ckd e
    obtain ⟨k8, e⟩ := e
    replace e := ckd e
    obtain ⟨k9, e⟩ := e
    refine g_aald d_X6_raise_38 k8 (by decide) (by decide) k9 rfl ?_
    replace e := bd e
    obtain ⟨q10, eq10, e⟩ := e
    refine g_callV d_X6_raise_39 vk_5_219 (as := [_, _]) rfl k7 rfl (by simp [zrf_cat, cat_int, cat_long]) (j := 3) (by omega) (c_X6_makeAlike (by omega) eq10) ?_
    obtain rfl := Option.some.inj e
    exact g_vret d_X6_raise_42 rfl

theorem c_X6_raise {G : Gd} {j : Nat} (hj : 4 ≤ j) {l0 : Nat} {l1 : Nat} {h : Hp} {o : Hp} (e : f_X6_raise l0 l1 h = some o) : Cal G j Y_X6_raise [zrf (l0), zrf (l1)] h none o := Cal.of (n := 0) (I := false) (by first | exact Or.inl (by decide +kernel) | exact Or.inr (by decide +kernel)) (by decide) (by simp [lg_sl, zrf_cat, cat_int, cat_long]) (f_X6_raise_ok hj _ _ _ h o (by simp [lv_args, zlk, zrf_cat, cat_int, cat_long]) (by simp [lv_args, zlk, zrf_cat, cat_int, cat_long]) e)
theorem fk_5_223 : Fk "TaskWeave$Shard" 223 600 := ⟨by decide, by decide, by decide +kernel⟩
def f_X6_lower (l0 : Nat) (l1 : Nat) (h : Hp) : Option Hp := ck (isO (h) (l1) 6) (bh (pI (h) 603 (l1) ((0 : Int32))) (fun h2 => bh (pI (h2) 604 (l1) ((-1 : Int32))) (fun h3 => ck (isO (h3) (l0) 7) (if (zI (h3) 600 (l1)) = (zI (h3) 708 (l0)) then ((f_X6_loseLeader (l0) (h3)).bind (fun q6 => some (q6))) else ((f_X6_mostAreUp (l0) (h3)).bind (fun q7 => if (q7.1) = (0) then (ck (isO (q7.2) (l0) 7) ((f_X6_loseLeader (l0) (q7.2)).bind (fun q9 => some (q9)))) else (some (q7.2))))))))
theorem f_X6_lower_ok {G : Gd} {d : Nat} (hj : 2 ≤ d) : ∀ (l0 : Nat) (l1 : Nat) (L : List (Nat × Value)) (h : Hp) (o : Hp), zlk L 0 = some (zrf (l0)) → zlk L 1 = some (zrf (l1)) → f_X6_lower l0 l1 h = some o → Ev G M_X6_lower d 0 L [] h (Ret Y_X6_lower none o) := by
  intro l0 l1 L h o g0 g1 e
  unfold f_X6_lower at e
  refine g_ald_n d_X6_lower_0 rfl g1 ?_
  refine r_iconst d_X6_lower_1 (v := (0 : Int32)) (by decide +kernel) ?_
  replace e := ckd e
  obtain ⟨k1, e⟩ := e
  refine g_putI d_X6_lower_2 (f := 603) k1 fk_5_94 rfl (Or.inl rfl) ⟨rfl, rfl⟩ ?_
  replace e := bhd e
  obtain ⟨_, rfl, e⟩ := e
  refine g_ald_n d_X6_lower_5 rfl g1 ?_
  refine r_iconst d_X6_lower_6 (v := (-1 : Int32)) (by decide +kernel) ?_
  refine g_putI d_X6_lower_7 (f := 604) (tO_pI k1) fk_5_216 rfl (Or.inl rfl) ⟨rfl, rfl⟩ ?_
  replace e := bhd e
  obtain ⟨_, rfl, e⟩ := e
  refine g_ald_n d_X6_lower_10 rfl g1 ?_
  refine g_getI d_X6_lower_11 (f := 600) (tO_pI (tO_pI k1)) fk_5_223 rfl rfl ?_
  refine g_ald_n d_X6_lower_14 rfl g0 ?_
  replace e := ckd e
  obtain ⟨k4, e⟩ := e
  refine g_getI d_X6_lower_15 (f := 708) k4 fk_5_53 rfl rfl ?_
  refine r_icmp_eq d_X6_lower_18 (tgt := 28) (by decide) (fun c5 => ?_) (fun c5 => ?_)
  · replace e := (if_pos c5).symm.trans e
    refine g_ald_n d_X6_lower_28 rfl g0 ?_
    replace e := bd e
    obtain ⟨q6, eq6, e⟩ := e
    refine g_callV d_X6_lower_29 vk_5_112 (as := []) rfl k4 rfl (by simp [zrf_cat, cat_int, cat_long]) (j := 1) (by omega) (c_X6_loseLeader (by omega) eq6) ?_
    obtain rfl := Option.some.inj e
    exact g_vret d_X6_lower_32 rfl
  · replace e := (if_neg c5).symm.trans e
    refine g_ald_n d_X6_lower_21 rfl g0 ?_
    replace e := bd e
    obtain ⟨q7, eq7, e⟩ := e
    refine g_callV d_X6_lower_22 vk_5_109 (as := []) rfl k4 rfl (by simp [zrf_cat, cat_int, cat_long]) (j := 1) (by omega) (c_X6_mostAreUp (by omega) eq7) ?_
    refine r_if_ne d_X6_lower_25 (tgt := 32) (by decide) (fun c8 => ?_) (fun c8 => ?_)
    · replace e := (if_neg c8).symm.trans e
      obtain rfl := Option.some.inj e
      exact g_vret d_X6_lower_32 rfl
    · replace e := (if_pos c8).symm.trans e
      refine g_ald_n d_X6_lower_28 rfl g0 ?_
      replace e := ckd e
      obtain ⟨k10, e⟩ := e
      replace e := bd e
      obtain ⟨q9, eq9, e⟩ := e
      refine g_callV d_X6_lower_29 vk_5_112 (as := []) rfl k10 rfl (by simp [zrf_cat, cat_int, cat_long]) (j := 1) (by omega) (c_X6_loseLeader (by omega) eq9) ?_
      obtain rfl := Option.some.inj e
      exact g_vret d_X6_lower_32 rfl

theorem c_X6_lower {G : Gd} {j : Nat} (hj : 2 ≤ j) {l0 : Nat} {l1 : Nat} {h : Hp} {o : Hp} (e : f_X6_lower l0 l1 h = some o) : Cal G j Y_X6_lower [zrf (l0), zrf (l1)] h none o := Cal.of (n := 0) (I := false) (by first | exact Or.inl (by decide +kernel) | exact Or.inr (by decide +kernel)) (by decide) (by simp [lg_sl, zrf_cat, cat_int, cat_long]) (f_X6_lower_ok hj _ _ _ h o (by simp [lv_args, zlk, zrf_cat, cat_int, cat_long]) (by simp [lv_args, zlk, zrf_cat, cat_int, cat_long]) e)
def f_Jxa1e45_init_da8c8 (l0 : Nat) (h : Hp) : Option Hp := ck (isO (h) (l0) 0) (some (h))
theorem f_Jxa1e45_init_da8c8_ok {G : Gd} {d : Nat} (hj : 1 ≤ d) : ∀ (l0 : Nat) (L : List (Nat × Value)) (h : Hp) (o : Hp), zlk L 0 = some (zrf (l0)) → f_Jxa1e45_init_da8c8 l0 h = some o → Ev G M_Jxa1e45_init_da8c8 d 0 L [] h (Ret Y_Jxa1e45_init_da8c8 none o) := by
  intro l0 L h o g0 e
  unfold f_Jxa1e45_init_da8c8 at e
  refine g_ald_n d_Jxa1e45_init_da8c8_0 rfl g0 ?_
  replace e := ckd e
  obtain ⟨k1, e⟩ := e
  refine g_objInit k1 d_Jxa1e45_init_da8c8_1 (by decide +kernel) (by omega) (by simp [zrf_cat, cat_int, cat_long]) ?_
  obtain rfl := Option.some.inj e
  exact g_vret d_Jxa1e45_init_da8c8_4 rfl

theorem c_Jxa1e45_init_da8c8 {G : Gd} {j : Nat} (hj : 1 ≤ j) {l0 : Nat} {h : Hp} {o : Hp} (e : f_Jxa1e45_init_da8c8 l0 h = some o) : Cal G j Y_Jxa1e45_init_da8c8 [zrf (l0)] h none o := Cal.of (n := 0) (I := true) (by first | exact Or.inl (by decide +kernel) | exact Or.inr (by decide +kernel)) (by decide) (by simp [lg_sl, zrf_cat, cat_int, cat_long]) (f_Jxa1e45_init_da8c8_ok hj _ _ h o (by simp [lv_args, zlk, zrf_cat, cat_int, cat_long]) e)
theorem ik_11_1 : Ik "java/util/AbstractList" 1 0 Y_Jxa1e45_init_da8c8 := ⟨yk_Jxa1e45_init_da8c8, rfl, by decide +kernel, rfl, by decide +kernel⟩
theorem fk_11_7 : Fk "java/util/AbstractList" 7 0 := ⟨by decide, by decide, by decide +kernel⟩
def f_Jxc12de_init_da8c8 (l0 : Nat) (h : Hp) : Option Hp := ck (isO (h) (l0) 0) ((f_Jxa1e45_init_da8c8 (l0) (h)).bind (fun q1 => ck (isO (q1) (l0) 0) (bh (pI (q1) 0 (l0) ((0 : Int32))) (fun h4 => some (h4)))))
theorem f_Jxc12de_init_da8c8_ok {G : Gd} {d : Nat} (hj : 2 ≤ d) : ∀ (l0 : Nat) (L : List (Nat × Value)) (h : Hp) (o : Hp), zlk L 0 = some (zrf (l0)) → f_Jxc12de_init_da8c8 l0 h = some o → Ev G M_Jxc12de_init_da8c8 d 0 L [] h (Ret Y_Jxc12de_init_da8c8 none o) := by
  intro l0 L h o g0 e
  unfold f_Jxc12de_init_da8c8 at e
  refine g_ald_n d_Jxc12de_init_da8c8_0 rfl g0 ?_
  replace e := ckd e
  obtain ⟨k2, e⟩ := e
  replace e := bd e
  obtain ⟨q1, eq1, e⟩ := e
  refine g_callI d_Jxc12de_init_da8c8_1 ik_11_1 (as := []) rfl k2 rfl (by simp [zrf_cat, cat_int, cat_long]) (j := 1) (by omega) (c_Jxa1e45_init_da8c8 (by omega) eq1) ?_
  refine g_ald_n d_Jxc12de_init_da8c8_4 rfl g0 ?_
  refine r_iconst d_Jxc12de_init_da8c8_5 (v := (0 : Int32)) (by decide +kernel) ?_
  replace e := ckd e
  obtain ⟨k3, e⟩ := e
  refine g_putI d_Jxc12de_init_da8c8_6 (f := 0) k3 fk_11_7 rfl (Or.inl rfl) ⟨rfl, rfl⟩ ?_
  replace e := bhd e
  obtain ⟨_, rfl, e⟩ := e
  obtain rfl := Option.some.inj e
  exact g_vret d_Jxc12de_init_da8c8_9 rfl

theorem c_Jxc12de_init_da8c8 {G : Gd} {j : Nat} (hj : 2 ≤ j) {l0 : Nat} {h : Hp} {o : Hp} (e : f_Jxc12de_init_da8c8 l0 h = some o) : Cal G j Y_Jxc12de_init_da8c8 [zrf (l0)] h none o := Cal.of (n := 0) (I := true) (by first | exact Or.inl (by decide +kernel) | exact Or.inr (by decide +kernel)) (by decide) (by simp [lg_sl, zrf_cat, cat_int, cat_long]) (f_Jxc12de_init_da8c8_ok hj _ _ h o (by simp [lv_args, zlk, zrf_cat, cat_int, cat_long]) e)
theorem ik_12_1 : Ik "java/util/ArrayList" 1 0 Y_Jxc12de_init_da8c8 := ⟨yk_Jxc12de_init_da8c8, rfl, by decide +kernel, rfl, by decide +kernel⟩
def f_Jx4a65c_init_da8c8 (l0 : Nat) (h : Hp) : Option Hp := ck (isO (h) (l0) 0) ((f_Jxc12de_init_da8c8 (l0) (h)).bind (fun q1 => ck (isO (q1) (l0) 0) (bh (pR (q1) 1 (l0) (2)) (fun h4 => some (h4)))))
theorem f_Jx4a65c_init_da8c8_ok {G : Gd} {d : Nat} (hj : 3 ≤ d) : ∀ (l0 : Nat) (L : List (Nat × Value)) (h : Hp) (o : Hp), zlk L 0 = some (zrf (l0)) → f_Jx4a65c_init_da8c8 l0 h = some o → Ev G M_Jx4a65c_init_da8c8 d 0 L [] h (Ret Y_Jx4a65c_init_da8c8 none o) := by
  intro l0 L h o g0 e
  unfold f_Jx4a65c_init_da8c8 at e
  refine g_ald_n d_Jx4a65c_init_da8c8_0 rfl g0 ?_
  replace e := ckd e
  obtain ⟨k2, e⟩ := e
  replace e := bd e
  obtain ⟨q1, eq1, e⟩ := e
  refine g_callI d_Jx4a65c_init_da8c8_1 ik_12_1 (as := []) rfl k2 rfl (by simp [zrf_cat, cat_int, cat_long]) (j := 2) (by omega) (c_Jxc12de_init_da8c8 (by omega) eq1) ?_
  refine g_ald_n d_Jx4a65c_init_da8c8_4 rfl g0 ?_
  refine g_gets d_Jx4a65c_init_da8c8_5 (by decide +kernel) ?_
  replace e := ckd e
  obtain ⟨k3, e⟩ := e
  refine g_putR d_Jx4a65c_init_da8c8_8 (f := 1) k3 fk_12_9 rfl (Or.inl rfl) (Or.inr ⟨_, rfl⟩) ?_
  replace e := bhd e
  obtain ⟨_, rfl, e⟩ := e
  obtain rfl := Option.some.inj e
  exact g_vret d_Jx4a65c_init_da8c8_11 rfl

theorem c_Jx4a65c_init_da8c8 {G : Gd} {j : Nat} (hj : 3 ≤ j) {l0 : Nat} {h : Hp} {o : Hp} (e : f_Jx4a65c_init_da8c8 l0 h = some o) : Cal G j Y_Jx4a65c_init_da8c8 [zrf (l0)] h none o := Cal.of (n := 0) (I := true) (by first | exact Or.inl (by decide +kernel) | exact Or.inr (by decide +kernel)) (by decide) (by simp [lg_sl, zrf_cat, cat_int, cat_long]) (f_Jx4a65c_init_da8c8_ok hj _ _ h o (by simp [lv_args, zlk, zrf_cat, cat_int, cat_long]) e)
theorem ik_6_9 : Ik "TaskWeave$Shelf" 9 0 Y_Jx4a65c_init_da8c8 := ⟨yk_Jx4a65c_init_da8c8, rfl, by decide +kernel, rfl, by decide +kernel⟩
theorem fk_6_10 : Fk "TaskWeave$Shelf" 10 800 := ⟨by decide, by decide, by decide +kernel⟩
def f_X7_init (l0 : Nat) (h : Hp) : Option Hp := ck (isO (h) (l0) 8) (ck (8 ≤ zn (h)) (bh (pN (h) 0 (kN 0)) (fun h3 => ck (isO (h3) (zn (h)) 0) ((f_Jx4a65c_init_da8c8 (zn (h)) (h3)).bind (fun q4 => ck (isO (q4) (l0) 8) (bh (pR (q4) 800 (l0) (zn (h))) (fun h7 => some (h7))))))))
theorem f_X7_init_ok {G : Gd} {d : Nat} (hj : 4 ≤ d) : ∀ (l0 : Nat) (L : List (Nat × Value)) (h : Hp) (o : Hp), zlk L 0 = some (zrf (l0)) → f_X7_init l0 h = some o → Ev G M_X7_init d 0 L [] h (Ret Y_X7_init none o) := by
  intro l0 L h o g0 e
  unfold f_X7_init at e
  refine g_ald_n d_X7_init_0 rfl g0 ?_
  replace e := ckd e
  obtain ⟨k1, e⟩ := e
  refine g_objInit k1 d_X7_init_1 (by decide +kernel) (by omega) (by simp [zrf_cat, cat_int, cat_long]) ?_
  refine g_ald_n d_X7_init_4 rfl g0 ?_
  replace e := ckd e
  obtain ⟨k2, e⟩ := e
  refine g_new k2 d_X7_init_5 (i := 0) (by decide) (by decide) (by decide +kernel) ?_
  replace e := bhd e
  obtain ⟨_, rfl, e⟩ := e
  refine r_dup d_X7_init_8 (zrf_cat _) ?_
  replace e := ckd e
  obtain ⟨k5, e⟩ := e
  replace e := bd e
  obtain ⟨q4, eq4, e⟩ := e
  refine g_callI d_X7_init_9 ik_6_9 (as := []) rfl k5 rfl (by simp [zrf_cat, cat_int, cat_long]) (j := 3) (by omega) (c_Jx4a65c_init_da8c8 (by omega) eq4) ?_
  replace e := ckd e
  obtain ⟨k6, e⟩ := e
  refine g_putR d_X7_init_12 (f := 800) k6 fk_6_10 rfl (Or.inr ⟨rfl, rfl⟩) (Or.inl ⟨_, rfl⟩) ?_
  replace e := bhd e
  obtain ⟨_, rfl, e⟩ := e
  obtain rfl := Option.some.inj e
  exact g_vret d_X7_init_15 rfl

theorem c_X7_init {G : Gd} {j : Nat} (hj : 4 ≤ j) {l0 : Nat} {h : Hp} {o : Hp} (e : f_X7_init l0 h = some o) : Cal G j Y_X7_init [zrf (l0)] h none o := Cal.of (n := 0) (I := true) (by first | exact Or.inl (by decide +kernel) | exact Or.inr (by decide +kernel)) (by decide) (by simp [lg_sl, zrf_cat, cat_int, cat_long]) (f_X7_init_ok hj _ _ h o (by simp [lv_args, zlk, zrf_cat, cat_int, cat_long]) e)
def f_X9_parent (l0 : Nat) (h : Hp) : Option (Int32 × Hp) := ck (isO (h) (l0) 10) (ck (isO (h) (zR (h) 1002 (l0)) 2) (ck (isO (h) (zR (h) 203 (zR (h) 1002 (l0))) 22) (ck (inR ((0 : Int32)) (zL (h) (zR (h) 203 (zR (h) 1002 (l0))))) (bh (zE (h) (zR (h) 203 (zR (h) 1002 (l0))) ((0 : Int32)).toNatClampNeg) (fun x5 => if (0) ≤ (x5) then (some ((-1 : Int32), h)) else (some ((((-1 : Int32)) - (x5)) / ((64 : Int32)), h)))))))
theorem f_X9_parent_ok {G : Gd} {d : Nat} (hj : 1 ≤ d) : ∀ (l0 : Nat) (L : List (Nat × Value)) (h : Hp) (o : (Int32 × Hp)), zlk L 0 = some (zrf (l0)) → f_X9_parent l0 h = some o → Ev G M_X9_parent d 0 L [] h (Ret Y_X9_parent (some (.int o.1)) o.2) := by
  intro l0 L h o g0 e
  unfold f_X9_parent at e
  refine g_ald_n d_X9_parent_0 rfl g0 ?_
  replace e := ckd e
  obtain ⟨k1, e⟩ := e
  refine g_getR d_X9_parent_1 (f := 1002) k1 fk_8_18 rfl rfl ?_
  replace e := ckd e
  obtain ⟨k2, e⟩ := e
  refine g_getR d_X9_parent_4 (f := 203) k2 fk_8_71 rfl rfl ?_
  refine r_iconst d_X9_parent_7 (v := (0 : Int32)) (by decide +kernel) ?_
  replace e := ckd e
  obtain ⟨k3, e⟩ := e
  replace e := ckd e
  obtain ⟨k4, e⟩ := e
  refine g_iald d_X9_parent_8 k3 k4 rfl ?_
  replace e := bhd e
  obtain ⟨_, rfl, e⟩ := e
  refine s_istore_n d_X9_parent_9 rfl (by decide) (fun L g1 gK => ?_)
  refine r_iload_n d_X9_parent_10 rfl g1 ?_
  refine r_if_ge d_X9_parent_11 (tgt := 23) (by decide) (fun c6 => ?_) (fun c6 => ?_)
  · replace e := (if_pos c6).symm.trans e
    refine r_iconst d_X9_parent_23 (v := (-1 : Int32)) (by decide +kernel) ?_
    obtain rfl := Option.some.inj e
    exact g_iret d_X9_parent_24 rfl rfl
  · replace e := (if_neg c6).symm.trans e
    refine r_iconst d_X9_parent_14 (v := (-1 : Int32)) (by decide +kernel) ?_
    refine r_iload_n d_X9_parent_15 rfl g1 ?_
    refine r_isub d_X9_parent_16 ?_
    refine r_bipush d_X9_parent_17 (v := (64 : Int32)) (by decide +kernel) ?_
    refine r_idiv d_X9_parent_19 (by decide +kernel) ?_
    refine r_goto d_X9_parent_20 (tgt := 24) (by decide) ?_
    obtain rfl := Option.some.inj e
    exact g_iret d_X9_parent_24 rfl rfl

theorem c_X9_parent {G : Gd} {j : Nat} (hj : 1 ≤ j) {l0 : Nat} {h : Hp} {o : (Int32 × Hp)} (e : f_X9_parent l0 h = some o) : Cal G j Y_X9_parent [zrf (l0)] h (some (.int o.1)) o.2 := Cal.of (n := 0) (I := false) (by first | exact Or.inl (by decide +kernel) | exact Or.inr (by decide +kernel)) (by decide) (by simp [lg_sl, zrf_cat, cat_int, cat_long]) (f_X9_parent_ok hj _ _ h o (by simp [lv_args, zlk, zrf_cat, cat_int, cat_long]) e)
def f_X9_numberAsChild (l0 : Nat) (h : Hp) : Option (Int32 × Hp) := ck (isO (h) (l0) 10) (ck (isO (h) (zR (h) 1002 (l0)) 2) (ck (isO (h) (zR (h) 203 (zR (h) 1002 (l0))) 22) (ck (inR ((0 : Int32)) (zL (h) (zR (h) 203 (zR (h) 1002 (l0))))) (some ((((-1 : Int32)) - (zE (h) (zR (h) 203 (zR (h) 1002 (l0))) ((0 : Int32)).toNatClampNeg)) - (((-1 : Int32)) - (zE (h) (zR (h) 203 (zR (h) 1002 (l0))) ((0 : Int32)).toNatClampNeg)) / ((64 : Int32)) * ((64 : Int32)), h)))))
theorem f_X9_numberAsChild_ok {G : Gd} {d : Nat} (hj : 1 ≤ d) : ∀ (l0 : Nat) (L : List (Nat × Value)) (h : Hp) (o : (Int32 × Hp)), zlk L 0 = some (zrf (l0)) → f_X9_numberAsChild l0 h = some o → Ev G M_X9_numberAsChild d 0 L [] h (Ret Y_X9_numberAsChild (some (.int o.1)) o.2) := by
  intro l0 L h o g0 e
  unfold f_X9_numberAsChild at e
  refine r_iconst d_X9_numberAsChild_0 (v := (-1 : Int32)) (by decide +kernel) ?_
  refine g_ald_n d_X9_numberAsChild_1 rfl g0 ?_
  replace e := ckd e
  obtain ⟨k1, e⟩ := e
  refine g_getR d_X9_numberAsChild_2 (f := 1002) k1 fk_8_18 rfl rfl ?_
  replace e := ckd e
  obtain ⟨k2, e⟩ := e
  refine g_getR d_X9_numberAsChild_5 (f := 203) k2 fk_8_71 rfl rfl ?_
  refine r_iconst d_X9_numberAsChild_8 (v := (0 : Int32)) (by decide +kernel) ?_
  replace e := ckd e
  obtain ⟨k3, e⟩ := e
  replace e := ckd e
  obtain ⟨k4, e⟩ := e
  refine g_iald d_X9_numberAsChild_9 k3 k4 rfl ?_
  refine r_isub d_X9_numberAsChild_10 ?_
  refine r_bipush d_X9_numberAsChild_11 (v := (64 : Int32)) (by decide +kernel) ?_
  refine r_irem d_X9_numberAsChild_13 (by decide +kernel) ?_
  obtain rfl := Option.some.inj e
  exact g_iret d_X9_numberAsChild_14 rfl rfl

theorem c_X9_numberAsChild {G : Gd} {j : Nat} (hj : 1 ≤ j) {l0 : Nat} {h : Hp} {o : (Int32 × Hp)} (e : f_X9_numberAsChild l0 h = some o) : Cal G j Y_X9_numberAsChild [zrf (l0)] h (some (.int o.1)) o.2 := Cal.of (n := 0) (I := false) (by first | exact Or.inl (by decide +kernel) | exact Or.inr (by decide +kernel)) (by decide) (by simp [lg_sl, zrf_cat, cat_int, cat_long]) (f_X9_numberAsChild_ok hj _ _ h o (by simp [lv_args, zlk, zrf_cat, cat_int, cat_long]) e)
theorem sk_8_85 : Sk "TaskWeave$Workflow" 85 2 Y_J9_floorMod_7cf53 := ⟨yk_J9_floorMod_7cf53, by decide +kernel, by decide +kernel⟩
theorem vk_8_78 : Vk "TaskWeave$Workflow" 78 0 10 Y_X9_parent := ⟨yk_X9_parent, by decide +kernel, by decide +kernel, by decide +kernel, by decide⟩
def f_X9_shardOf (l0 : Nat) (l1 : Int32) (h : Hp) : Option (Int32 × Hp) := ck (isO (h) (l0) 10) (ck (isO (h) (zR (h) 1002 (l0)) 2) ((f_X1_placeOf (zR (h) 1002 (l0)) ((6 : Int32)) (l1) (h)).bind (fun q2 => if (l1) = ((-1 : Int32)) then (ck (isO (q2.2) (l0) 10) ((f_X9_parent (l0) (q2.2)).bind (fun q15 => (f_J9_floorMod_7cf53 (q15.1) ((4 : Int32)) (q15.2)).bind (fun q17 => some (q17.1, q17.2))))) else (if (q2.1) = ((-1 : Int32)) then (ck (isO (q2.2) (l0) 10) (bh (zI (q2.2) 1000 (l0)) (fun x13 => (f_J9_floorMod_7cf53 (x13) ((4 : Int32)) (q2.2)).bind (fun q14 => some (q14.1, q14.2))))) else (ck (isO (q2.2) (l0) 10) (ck (isO (q2.2) (zR (q2.2) 1002 (l0)) 2) (ck (isO (q2.2) (zR (q2.2) 201 (zR (q2.2) 1002 (l0))) 22) (ck (inR (q2.1) (zL (q2.2) (zR (q2.2) 201 (zR (q2.2) 1002 (l0))))) (bh ((zI (q2.2) 1000 (l0)) + (zE (q2.2) (zR (q2.2) 201 (zR (q2.2) 1002 (l0))) (q2.1).toNatClampNeg)) (fun x10 => (f_J9_floorMod_7cf53 (x10) ((4 : Int32)) (q2.2)).bind (fun q11 => some (q11.1, q11.2))))))))))))
theorem f_X9_shardOf_ok {G : Gd} {d : Nat} (hj : 2 ≤ d) : ∀ (l0 : Nat) (l1 : Int32) (L : List (Nat × Value)) (h : Hp) (o : (Int32 × Hp)), zlk L 0 = some (zrf (l0)) → zlk L 1 = some (.int (l1)) → f_X9_shardOf l0 l1 h = some o → Ev G M_X9_shardOf d 0 L [] h (Ret Y_X9_shardOf (some (.int o.1)) o.2) := by
  intro l0 l1 L h o g0 g1 e
  unfold f_X9_shardOf at e
  refine g_ald_n d_X9_shardOf_0 rfl g0 ?_
  replace e := ckd e
  obtain ⟨k1, e⟩ := e
  refine g_getR d_X9_shardOf_1 (f := 1002) k1 fk_8_18 rfl rfl ?_
  refine r_bipush d_X9_shardOf_4 (v := (6 : Int32)) (by decide +kernel) ?_
  refine r_iload_n d_X9_shardOf_6 rfl g1 ?_
  replace e := ckd e
  obtain ⟨k3, e⟩ := e
  replace e := bd e
  obtain ⟨q2, eq2, e⟩ := e
  refine g_callV d_X9_shardOf_7 vk_8_74 (as := [_, _]) rfl k3 rfl (by simp [zrf_cat, cat_int, cat_long]) (j := 1) (by omega) (c_X1_placeOf (by omega) eq2) ?_
  refine s_istore_n d_X9_shardOf_10 rfl (by decide) (fun L g2 gK => ?_)
  replace g0 := gK _ _ (by decide) (Or.inr (zrf_cat _)) g0
  replace g1 := gK _ _ (by decide) (Or.inr rfl) g1
  refine r_iload_n d_X9_shardOf_11 rfl g1 ?_
  refine r_iconst d_X9_shardOf_12 (v := (-1 : Int32)) (by decide +kernel) ?_
  refine r_icmp_ne d_X9_shardOf_13 (tgt := 23) (by decide) (fun c4 => ?_) (fun c4 => ?_)
  · replace e := (if_neg c4).symm.trans e
    refine r_iload_n d_X9_shardOf_23 rfl g2 ?_
    refine r_iconst d_X9_shardOf_24 (v := (-1 : Int32)) (by decide +kernel) ?_
    refine r_icmp_ne d_X9_shardOf_25 (tgt := 35) (by decide) (fun c5 => ?_) (fun c5 => ?_)
    · replace e := (if_neg c5).symm.trans e
      refine g_ald_n d_X9_shardOf_35 rfl g0 ?_
      replace e := ckd e
      obtain ⟨k6, e⟩ := e
      refine g_getI d_X9_shardOf_36 (f := 1000) k6 fk_8_29 rfl rfl ?_
      refine g_ald_n d_X9_shardOf_39 rfl g0 ?_
      refine g_getR d_X9_shardOf_40 (f := 1002) k6 fk_8_18 rfl rfl ?_
      replace e := ckd e
      obtain ⟨k7, e⟩ := e
      refine g_getR d_X9_shardOf_43 (f := 201) k7 fk_8_82 rfl rfl ?_
      refine r_iload_n d_X9_shardOf_46 rfl g2 ?_
      replace e := ckd e
      obtain ⟨k8, e⟩ := e
      replace e := ckd e
      obtain ⟨k9, e⟩ := e
      refine g_iald d_X9_shardOf_47 k8 k9 rfl ?_
      refine r_iadd d_X9_shardOf_48 ?_
      replace e := bhd e
      obtain ⟨_, rfl, e⟩ := e
      refine s_istore_n d_X9_shardOf_49 rfl (by decide) (fun L g3 gK => ?_)
      refine r_iload_n d_X9_shardOf_50 rfl g3 ?_
      refine r_iconst d_X9_shardOf_51 (v := (4 : Int32)) (by decide +kernel) ?_
      replace e := bd e
      obtain ⟨q11, eq11, e⟩ := e
      refine g_callS d_X9_shardOf_52 sk_8_85 (as := [_, _]) rfl rfl (by simp [zrf_cat, cat_int, cat_long]) (j := 1) (by omega) (c_J9_floorMod_7cf53 (by omega) eq11) ?_
      obtain rfl := Option.some.inj e
      exact g_iret d_X9_shardOf_55 rfl rfl
    · replace e := (if_pos c5).symm.trans e
      refine g_ald_n d_X9_shardOf_28 rfl g0 ?_
      replace e := ckd e
      obtain ⟨k12, e⟩ := e
      refine g_getI d_X9_shardOf_29 (f := 1000) k12 fk_8_29 rfl rfl ?_
      refine r_goto d_X9_shardOf_32 (tgt := 49) (by decide) ?_
      replace e := bhd e
      obtain ⟨_, rfl, e⟩ := e
      refine s_istore_n d_X9_shardOf_49 rfl (by decide) (fun L g3 gK => ?_)
      refine r_iload_n d_X9_shardOf_50 rfl g3 ?_
      refine r_iconst d_X9_shardOf_51 (v := (4 : Int32)) (by decide +kernel) ?_
      replace e := bd e
      obtain ⟨q14, eq14, e⟩ := e
      refine g_callS d_X9_shardOf_52 sk_8_85 (as := [_, _]) rfl rfl (by simp [zrf_cat, cat_int, cat_long]) (j := 1) (by omega) (c_J9_floorMod_7cf53 (by omega) eq14) ?_
      obtain rfl := Option.some.inj e
      exact g_iret d_X9_shardOf_55 rfl rfl
  · replace e := (if_pos c4).symm.trans e
    refine g_ald_n d_X9_shardOf_16 rfl g0 ?_
    replace e := ckd e
    obtain ⟨k16, e⟩ := e
    replace e := bd e
    obtain ⟨q15, eq15, e⟩ := e
    refine g_callV d_X9_shardOf_17 vk_8_78 (as := []) rfl k16 rfl (by simp [zrf_cat, cat_int, cat_long]) (j := 1) (by omega) (c_X9_parent (by omega) eq15) ?_
    refine r_goto d_X9_shardOf_20 (tgt := 49) (by decide) ?_
    refine s_istore_n d_X9_shardOf_49 rfl (by decide) (fun L g3 gK => ?_)
    refine r_iload_n d_X9_shardOf_50 rfl g3 ?_
    refine r_iconst d_X9_shardOf_51 (v := (4 : Int32)) (by decide +kernel) ?_
    replace e := bd e
    obtain ⟨q17, eq17, e⟩ := e
    refine g_callS d_X9_shardOf_52 sk_8_85 (as := [_, _]) rfl rfl (by simp [zrf_cat, cat_int, cat_long]) (j := 1) (by omega) (c_J9_floorMod_7cf53 (by omega) eq17) ?_
    obtain rfl := Option.some.inj e
    exact g_iret d_X9_shardOf_55 rfl rfl

theorem c_X9_shardOf {G : Gd} {j : Nat} (hj : 2 ≤ j) {l0 : Nat} {l1 : Int32} {h : Hp} {o : (Int32 × Hp)} (e : f_X9_shardOf l0 l1 h = some o) : Cal G j Y_X9_shardOf [zrf (l0), .int (l1)] h (some (.int o.1)) o.2 := Cal.of (n := 0) (I := false) (by first | exact Or.inl (by decide +kernel) | exact Or.inr (by decide +kernel)) (by decide) (by simp [lg_sl, zrf_cat, cat_int, cat_long]) (f_X9_shardOf_ok hj _ _ _ h o (by simp [lv_args, zlk, zrf_cat, cat_int, cat_long]) (by simp [lv_args, zlk, zrf_cat, cat_int, cat_long]) e)
theorem fk_8_90 : Fk "TaskWeave$Workflow" 90 900 := ⟨by decide, by decide, by decide +kernel⟩
theorem fk_8_93 : Fk "TaskWeave$Workflow" 93 903 := ⟨by decide, by decide, by decide +kernel⟩
def f_X9_offers (l0 : Nat) (l1 : Int32) (l2 : Int32) (h : Hp) : Option (Int32 × Hp) := ck (isO (h) (l0) 10) (if (zI (h) 1007 (l0)) = (0) then (ck (isO (h) (zR (h) 1003 (l0)) 9) (if (zI (h) 900 (zR (h) 1003 (l0))) = (l1) then (if (zI (h) 904 (zR (h) 1003 (l0))) = (0) then (if (l2) < (zI (h) 903 (zR (h) 1003 (l0))) then (some ((0 : Int32), h)) else (some ((1 : Int32), h))) else (some ((0 : Int32), h))) else (some ((0 : Int32), h)))) else (some ((0 : Int32), h)))
theorem f_X9_offers_ok {G : Gd} {d : Nat} (hj : 1 ≤ d) : ∀ (l0 : Nat) (l1 : Int32) (l2 : Int32) (L : List (Nat × Value)) (h : Hp) (o : (Int32 × Hp)), zlk L 0 = some (zrf (l0)) → zlk L 1 = some (.int (l1)) → zlk L 2 = some (.int (l2)) → f_X9_offers l0 l1 l2 h = some o → Ev G M_X9_offers d 0 L [] h (Ret Y_X9_offers (some (.int o.1)) o.2) := by
  intro l0 l1 l2 L h o g0 g1 g2 e
  unfold f_X9_offers at e
  refine g_ald_n d_X9_offers_0 rfl g0 ?_
  replace e := ckd e
  obtain ⟨k1, e⟩ := e
  refine g_getI d_X9_offers_1 (f := 1007) k1 fk_8_59 rfl rfl ?_
  refine r_if_ne d_X9_offers_4 (tgt := 43) (by decide) (fun c2 => ?_) (fun c2 => ?_)
  · replace e := (if_neg c2).symm.trans e
    refine r_iconst d_X9_offers_43 (v := (0 : Int32)) (by decide +kernel) ?_
    obtain rfl := Option.some.inj e
    exact g_iret d_X9_offers_44 rfl rfl
  · replace e := (if_pos c2).symm.trans e
    refine g_ald_n d_X9_offers_7 rfl g0 ?_
    refine g_getR d_X9_offers_8 (f := 1003) k1 fk_8_25 rfl rfl ?_
    replace e := ckd e
    obtain ⟨k3, e⟩ := e
    refine g_getI d_X9_offers_11 (f := 900) k3 fk_8_90 rfl rfl ?_
    refine r_iload_n d_X9_offers_14 rfl g1 ?_
    refine r_icmp_ne d_X9_offers_15 (tgt := 43) (by decide) (fun c4 => ?_) (fun c4 => ?_)
    · replace e := (if_neg c4).symm.trans e
      refine r_iconst d_X9_offers_43 (v := (0 : Int32)) (by decide +kernel) ?_
      obtain rfl := Option.some.inj e
      exact g_iret d_X9_offers_44 rfl rfl
    · replace e := (if_pos c4).symm.trans e
      refine g_ald_n d_X9_offers_18 rfl g0 ?_
      refine g_getR d_X9_offers_19 (f := 1003) k1 fk_8_25 rfl rfl ?_
      refine g_getI d_X9_offers_22 (f := 904) k3 fk_8_50 rfl rfl ?_
      refine r_if_ne d_X9_offers_25 (tgt := 43) (by decide) (fun c5 => ?_) (fun c5 => ?_)
      · replace e := (if_neg c5).symm.trans e
        refine r_iconst d_X9_offers_43 (v := (0 : Int32)) (by decide +kernel) ?_
        obtain rfl := Option.some.inj e
        exact g_iret d_X9_offers_44 rfl rfl
      · replace e := (if_pos c5).symm.trans e
        refine g_ald_n d_X9_offers_28 rfl g0 ?_
        refine g_getR d_X9_offers_29 (f := 1003) k1 fk_8_25 rfl rfl ?_
        refine g_getI d_X9_offers_32 (f := 903) k3 fk_8_93 rfl rfl ?_
        refine r_iload_n d_X9_offers_35 rfl g2 ?_
        refine r_icmp_gt d_X9_offers_36 (tgt := 43) (by decide) (fun c6 => ?_) (fun c6 => ?_)
        · replace e := (if_pos c6).symm.trans e
          refine r_iconst d_X9_offers_43 (v := (0 : Int32)) (by decide +kernel) ?_
          obtain rfl := Option.some.inj e
          exact g_iret d_X9_offers_44 rfl rfl
        · replace e := (if_neg c6).symm.trans e
          refine r_iconst d_X9_offers_39 (v := (1 : Int32)) (by decide +kernel) ?_
          refine r_goto d_X9_offers_40 (tgt := 44) (by decide) ?_
          obtain rfl := Option.some.inj e
          exact g_iret d_X9_offers_44 rfl rfl

theorem c_X9_offers {G : Gd} {j : Nat} (hj : 1 ≤ j) {l0 : Nat} {l1 : Int32} {l2 : Int32} {h : Hp} {o : (Int32 × Hp)} (e : f_X9_offers l0 l1 l2 h = some o) : Cal G j Y_X9_offers [zrf (l0), .int (l1), .int (l2)] h (some (.int o.1)) o.2 := Cal.of (n := 0) (I := false) (by first | exact Or.inl (by decide +kernel) | exact Or.inr (by decide +kernel)) (by decide) (by simp [lg_sl, zrf_cat, cat_int, cat_long]) (f_X9_offers_ok hj _ _ _ _ h o (by simp [lv_args, zlk, zrf_cat, cat_int, cat_long]) (by simp [lv_args, zlk, zrf_cat, cat_int, cat_long]) (by simp [lv_args, zlk, zrf_cat, cat_int, cat_long]) e)
def f_X9_hasDeadline (l0 : Nat) (h : Hp) : Option (Int32 × Hp) := ck (isO (h) (l0) 10) (if (zI (h) 1007 (l0)) = ((1 : Int32)) then (some ((1 : Int32), h)) else (if (zI (h) 1007 (l0)) = (0) then (ck (isO (h) (zR (h) 1003 (l0)) 9) (if (zI (h) 904 (zR (h) 1003 (l0))) ≤ (0) then (some ((0 : Int32), h)) else (some ((1 : Int32), h)))) else (some ((0 : Int32), h))))
theorem f_X9_hasDeadline_ok {G : Gd} {d : Nat} (hj : 1 ≤ d) : ∀ (l0 : Nat) (L : List (Nat × Value)) (h : Hp) (o : (Int32 × Hp)), zlk L 0 = some (zrf (l0)) → f_X9_hasDeadline l0 h = some o → Ev G M_X9_hasDeadline d 0 L [] h (Ret Y_X9_hasDeadline (some (.int o.1)) o.2) := by
  intro l0 L h o g0 e
  unfold f_X9_hasDeadline at e
  refine g_ald_n d_X9_hasDeadline_0 rfl g0 ?_
  replace e := ckd e
  obtain ⟨k1, e⟩ := e
  refine g_getI d_X9_hasDeadline_1 (f := 1007) k1 fk_8_59 rfl rfl ?_
  refine r_iconst d_X9_hasDeadline_4 (v := (1 : Int32)) (by decide +kernel) ?_
  refine r_icmp_eq d_X9_hasDeadline_5 (tgt := 25) (by decide) (fun c2 => ?_) (fun c2 => ?_)
  · replace e := (if_pos c2).symm.trans e
    refine r_iconst d_X9_hasDeadline_25 (v := (1 : Int32)) (by decide +kernel) ?_
    refine r_goto d_X9_hasDeadline_26 (tgt := 30) (by decide) ?_
    obtain rfl := Option.some.inj e
    exact g_iret d_X9_hasDeadline_30 rfl rfl
  · replace e := (if_neg c2).symm.trans e
    refine g_ald_n d_X9_hasDeadline_8 rfl g0 ?_
    refine g_getI d_X9_hasDeadline_9 (f := 1007) k1 fk_8_59 rfl rfl ?_
    refine r_if_ne d_X9_hasDeadline_12 (tgt := 29) (by decide) (fun c3 => ?_) (fun c3 => ?_)
    · replace e := (if_neg c3).symm.trans e
      refine r_iconst d_X9_hasDeadline_29 (v := (0 : Int32)) (by decide +kernel) ?_
      obtain rfl := Option.some.inj e
      exact g_iret d_X9_hasDeadline_30 rfl rfl
    · replace e := (if_pos c3).symm.trans e
      refine g_ald_n d_X9_hasDeadline_15 rfl g0 ?_
      refine g_getR d_X9_hasDeadline_16 (f := 1003) k1 fk_8_25 rfl rfl ?_
      replace e := ckd e
      obtain ⟨k4, e⟩ := e
      refine g_getI d_X9_hasDeadline_19 (f := 904) k4 fk_8_50 rfl rfl ?_
      refine r_if_le d_X9_hasDeadline_22 (tgt := 29) (by decide) (fun c5 => ?_) (fun c5 => ?_)
      · replace e := (if_pos c5).symm.trans e
        refine r_iconst d_X9_hasDeadline_29 (v := (0 : Int32)) (by decide +kernel) ?_
        obtain rfl := Option.some.inj e
        exact g_iret d_X9_hasDeadline_30 rfl rfl
      · replace e := (if_neg c5).symm.trans e
        refine r_iconst d_X9_hasDeadline_25 (v := (1 : Int32)) (by decide +kernel) ?_
        refine r_goto d_X9_hasDeadline_26 (tgt := 30) (by decide) ?_
        obtain rfl := Option.some.inj e
        exact g_iret d_X9_hasDeadline_30 rfl rfl

theorem c_X9_hasDeadline {G : Gd} {j : Nat} (hj : 1 ≤ j) {l0 : Nat} {h : Hp} {o : (Int32 × Hp)} (e : f_X9_hasDeadline l0 h = some o) : Cal G j Y_X9_hasDeadline [zrf (l0)] h (some (.int o.1)) o.2 := Cal.of (n := 0) (I := false) (by first | exact Or.inl (by decide +kernel) | exact Or.inr (by decide +kernel)) (by decide) (by simp [lg_sl, zrf_cat, cat_int, cat_long]) (f_X9_hasDeadline_ok hj _ _ h o (by simp [lv_args, zlk, zrf_cat, cat_int, cat_long]) e)
theorem fk_8_99 : Fk "TaskWeave$Workflow" 99 905 := ⟨by decide, by decide, by decide +kernel⟩
def f_X9_deadline (l0 : Nat) (h : Hp) : Option (Int32 × Hp) := ck (isO (h) (l0) 10) (if (zI (h) 1007 (l0)) = ((1 : Int32)) then (some (zI (h) 1008 (l0), h)) else (ck (isO (h) (zR (h) 1003 (l0)) 9) (some (zI (h) 905 (zR (h) 1003 (l0)), h))))
theorem f_X9_deadline_ok {G : Gd} {d : Nat} (hj : 1 ≤ d) : ∀ (l0 : Nat) (L : List (Nat × Value)) (h : Hp) (o : (Int32 × Hp)), zlk L 0 = some (zrf (l0)) → f_X9_deadline l0 h = some o → Ev G M_X9_deadline d 0 L [] h (Ret Y_X9_deadline (some (.int o.1)) o.2) := by
  intro l0 L h o g0 e
  unfold f_X9_deadline at e
  refine g_ald_n d_X9_deadline_0 rfl g0 ?_
  replace e := ckd e
  obtain ⟨k1, e⟩ := e
  refine g_getI d_X9_deadline_1 (f := 1007) k1 fk_8_59 rfl rfl ?_
  refine r_iconst d_X9_deadline_4 (v := (1 : Int32)) (by decide +kernel) ?_
  refine r_icmp_ne d_X9_deadline_5 (tgt := 15) (by decide) (fun c2 => ?_) (fun c2 => ?_)
  · replace e := (if_neg c2).symm.trans e
    refine g_ald_n d_X9_deadline_15 rfl g0 ?_
    refine g_getR d_X9_deadline_16 (f := 1003) k1 fk_8_25 rfl rfl ?_
    replace e := ckd e
    obtain ⟨k3, e⟩ := e
    refine g_getI d_X9_deadline_19 (f := 905) k3 fk_8_99 rfl rfl ?_
    obtain rfl := Option.some.inj e
    exact g_iret d_X9_deadline_22 rfl rfl
  · replace e := (if_pos c2).symm.trans e
    refine g_ald_n d_X9_deadline_8 rfl g0 ?_
    refine g_getI d_X9_deadline_9 (f := 1008) k1 fk_8_96 rfl rfl ?_
    refine r_goto d_X9_deadline_12 (tgt := 22) (by decide) ?_
    obtain rfl := Option.some.inj e
    exact g_iret d_X9_deadline_22 rfl rfl

theorem c_X9_deadline {G : Gd} {j : Nat} (hj : 1 ≤ j) {l0 : Nat} {h : Hp} {o : (Int32 × Hp)} (e : f_X9_deadline l0 h = some o) : Cal G j Y_X9_deadline [zrf (l0)] h (some (.int o.1)) o.2 := Cal.of (n := 0) (I := false) (by first | exact Or.inl (by decide +kernel) | exact Or.inr (by decide +kernel)) (by decide) (by simp [lg_sl, zrf_cat, cat_int, cat_long]) (f_X9_deadline_ok hj _ _ h o (by simp [lv_args, zlk, zrf_cat, cat_int, cat_long]) e)
theorem nk_9_9 : Nk "TaskWeave" 9 0 Y_X3_init := ⟨yk_X3_init, rfl, by decide +kernel, rfl, by decide +kernel⟩
theorem fk_9_10 : Fk "TaskWeave" 10 1100 := ⟨by decide, by decide, by decide +kernel⟩
theorem fk_9_18 : Fk "TaskWeave" 18 1103 := ⟨by decide, by decide, by decide +kernel⟩
theorem nk_9_24 : Nk "TaskWeave" 24 0 Y_X0_init := ⟨yk_X0_init, rfl, by decide +kernel, rfl, by decide +kernel⟩
theorem nk_9_27 : Nk "TaskWeave" 27 0 Y_X7_init := ⟨yk_X7_init, rfl, by decide +kernel, rfl, by decide +kernel⟩
theorem fk_9_31 : Fk "TaskWeave" 31 1101 := ⟨by decide, by decide, by decide +kernel⟩
theorem fk_9_35 : Fk "TaskWeave" 35 1102 := ⟨by decide, by decide, by decide +kernel⟩
theorem ik_9_28 : Ik "TaskWeave" 28 3 Y_X6_init := ⟨yk_X6_init, rfl, by decide +kernel, rfl, by decide +kernel⟩
def f_X10_init_63 : Nat → Nat → Nat → Nat → Int32 → Hp → Option Hp
  | 0, _, _, _, _, _ => none
  | n + 1, l0, l1, l2, l3, h => if ((4 : Int32)) ≤ (l3) then (ck (isO (h) (l0) 11) (bh (pR (h) 1101 (l0) (l1)) (fun h31 => bh (pR (h31) 1102 (l0) (l2)) (fun h32 => some (h32))))) else (ck (isO (h) (l0) 11) (ck (8 ≤ zn (h)) (bh (pN (h) 7 (kN 7)) (fun h35 => ck (isO (h35) (zn (h)) 7) ((f_X6_init (zn (h)) (l3) (l1) (l2) (h35)).bind (fun q36 => ck (isO (q36) (zR (h) 1103 (l0)) 26) (ck (inR (l3) (zL (q36) (zR (h) 1103 (l0)))) (ck (isO (q36) (zn (h)) 7) (bh (pQ (q36) (zR (h) 1103 (l0)) (l3).toNatClampNeg (zn (h))) (fun h41 => bh ((l3) + (1 : Int32)) (fun x42 => f_X10_init_63 n (l0) (l1) (l2) (x42) (h41))))))))))))
theorem f_X10_init_63_ok {G : Gd} {d : Nat} (hj : 5 ≤ d) : ∀ (n : Nat) (l0 : Nat) (l1 : Nat) (l2 : Nat) (l3 : Int32) (L : List (Nat × Value)) (h : Hp) (o : Hp), zlk L 0 = some (zrf (l0)) → zlk L 1 = some (zrf (l1)) → zlk L 2 = some (zrf (l2)) → zlk L 3 = some (.int (l3)) → f_X10_init_63 n l0 l1 l2 l3 h = some o → Ev G M_X10_init d 63 L [] h (Ret Y_X10_init none o) := by
  intro n
  induction n with
  | zero =>
    intro l0 l1 l2 l3 L h o g0 g1 g2 g3 e
    cases e
  | succ n ih =>
    intro l0 l1 l2 l3 L h o g0 g1 g2 g3 e
    unfold f_X10_init_63 at e
    refine r_iload_n d_X10_init_63 rfl g3 ?_
    refine r_iconst d_X10_init_64 (v := (4 : Int32)) (by decide +kernel) ?_
    refine r_icmp_ge d_X10_init_65 (tgt := 90) (by decide) (fun c29 => ?_) (fun c29 => ?_)
    · replace e := (if_pos c29).symm.trans e
      refine g_ald_n d_X10_init_90 rfl g0 ?_
      refine g_ald_n d_X10_init_91 rfl g1 ?_
      replace e := ckd e
      obtain ⟨k30, e⟩ := e
      refine g_putR d_X10_init_92 (f := 1101) k30 fk_9_31 rfl (Or.inr ⟨rfl, rfl⟩) (Or.inl ⟨_, rfl⟩) ?_
      replace e := bhd e
      obtain ⟨_, rfl, e⟩ := e
      refine g_ald_n d_X10_init_95 rfl g0 ?_
      refine g_ald_n d_X10_init_96 rfl g2 ?_
      refine g_putR d_X10_init_97 (f := 1102) (tO_pR k30) fk_9_35 rfl (Or.inr ⟨rfl, rfl⟩) (Or.inr ⟨_, rfl⟩) ?_
      replace e := bhd e
      obtain ⟨_, rfl, e⟩ := e
      obtain rfl := Option.some.inj e
      exact g_vret d_X10_init_100 rfl
    · replace e := (if_neg c29).symm.trans e
      refine g_ald_n d_X10_init_68 rfl g0 ?_
      replace e := ckd e
      obtain ⟨k33, e⟩ := e
      refine g_getR d_X10_init_69 (f := 1103) k33 fk_9_18 rfl rfl ?_
      refine r_iload_n d_X10_init_72 rfl g3 ?_
      replace e := ckd e
      obtain ⟨k34, e⟩ := e
      refine g_new k34 d_X10_init_73 (i := 7) (by decide) (by decide) (by decide +kernel) ?_
      replace e := bhd e
      obtain ⟨_, rfl, e⟩ := e
      refine r_dup d_X10_init_76 (zrf_cat _) ?_
      refine r_iload_n d_X10_init_77 rfl g3 ?_
      refine g_ald_n d_X10_init_78 rfl g1 ?_
      refine g_ald_n d_X10_init_79 rfl g2 ?_
      replace e := ckd e
      obtain ⟨k37, e⟩ := e
      replace e := bd e
      obtain ⟨q36, eq36, e⟩ := e
      refine g_callI d_X10_init_80 ik_9_28 (as := [_, _, _]) rfl k37 rfl (by simp [zrf_cat, cat_int, cat_long]) (j := 3) (by omega) (c_X6_init (by omega) eq36) ?_
      replace e := ckd e
      obtain ⟨k38, e⟩ := e
      replace e := ckd e
      obtain ⟨k39, e⟩ := e
      replace e := ckd e
      obtain ⟨k40, e⟩ := e
      refine g_aast d_X10_init_83 k38 (by decide) (by decide) k40 (by decide) rfl k39 ?_
      replace e := bhd e
      obtain ⟨_, rfl, e⟩ := e
      replace e := bhd e
      obtain ⟨_, rfl, e⟩ := e
      refine s_iinc d_X10_init_84 g3 (w := (1 : Int32)) (by decide +kernel) (by decide) (fun L g3 gK => ?_)
      replace g0 := gK _ _ (by decide) (Or.inr (zrf_cat _)) g0
      replace g1 := gK _ _ (by decide) (Or.inr (zrf_cat _)) g1
      replace g2 := gK _ _ (by decide) (Or.inr (zrf_cat _)) g2
      refine r_goto d_X10_init_87 (tgt := 63) (by decide) ?_
      exact ih _ _ _ _ _ _ _ g0 g1 g2 g3 e

def f_X10_init_39 : Nat → Nat → Nat → Nat → Int32 → Hp → Option Hp
  | 0, _, _, _, _, _ => none
  | n + 1, l0, l1, l2, l3, h => if ((8 : Int32)) ≤ (l3) then (f_X10_init_63 fz (l0) (l1) (l2) ((0 : Int32)) (h)) else (ck (8 ≤ zn (h)) (bh (pN (h) 8 (kN 8)) (fun h21 => ck (isO (h21) (zn (h)) 8) ((f_X7_init (zn (h)) (h21)).bind (fun q22 => ck (isO (q22) (l2) 27) (ck (inR (l3) (zL (q22) (l2))) (ck (isO (q22) (zn (h)) 8) (bh (pQ (q22) (l2) (l3).toNatClampNeg (zn (h))) (fun h27 => bh ((l3) + (1 : Int32)) (fun x28 => f_X10_init_39 n (l0) (l1) (l2) (x28) (h27)))))))))))
theorem f_X10_init_39_ok {G : Gd} {d : Nat} (hj : 5 ≤ d) : ∀ (n : Nat) (l0 : Nat) (l1 : Nat) (l2 : Nat) (l3 : Int32) (L : List (Nat × Value)) (h : Hp) (o : Hp), zlk L 0 = some (zrf (l0)) → zlk L 1 = some (zrf (l1)) → zlk L 2 = some (zrf (l2)) → zlk L 3 = some (.int (l3)) → f_X10_init_39 n l0 l1 l2 l3 h = some o → Ev G M_X10_init d 39 L [] h (Ret Y_X10_init none o) := by
  intro n
  induction n with
  | zero =>
    intro l0 l1 l2 l3 L h o g0 g1 g2 g3 e
    cases e
  | succ n ih =>
    intro l0 l1 l2 l3 L h o g0 g1 g2 g3 e
    unfold f_X10_init_39 at e
    refine r_iload_n d_X10_init_39 rfl g3 ?_
    refine r_bipush d_X10_init_40 (v := (8 : Int32)) (by decide +kernel) ?_
    refine r_icmp_ge d_X10_init_42 (tgt := 61) (by decide) (fun c19 => ?_) (fun c19 => ?_)
    · replace e := (if_pos c19).symm.trans e
      refine r_iconst d_X10_init_61 (v := (0 : Int32)) (by decide +kernel) ?_
      refine s_istore_n d_X10_init_62 rfl (by decide) (fun L g3 gK => ?_)
      replace g0 := gK _ _ (by decide) (Or.inr (zrf_cat _)) g0
      replace g1 := gK _ _ (by decide) (Or.inr (zrf_cat _)) g1
      replace g2 := gK _ _ (by decide) (Or.inr (zrf_cat _)) g2
      exact f_X10_init_63_ok hj _ _ _ _ _ _ _ _ g0 g1 g2 g3 e
    · replace e := (if_neg c19).symm.trans e
      refine g_ald_n d_X10_init_45 rfl g2 ?_
      refine r_iload_n d_X10_init_46 rfl g3 ?_
      replace e := ckd e
      obtain ⟨k20, e⟩ := e
      refine g_new k20 d_X10_init_47 (i := 8) (by decide) (by decide) (by decide +kernel) ?_
      replace e := bhd e
      obtain ⟨_, rfl, e⟩ := e
      refine r_dup d_X10_init_50 (zrf_cat _) ?_
      replace e := ckd e
      obtain ⟨k23, e⟩ := e
      replace e := bd e
      obtain ⟨q22, eq22, e⟩ := e
      refine g_callN d_X10_init_51 nk_9_27 (as := []) rfl k23 rfl (by simp [zrf_cat, cat_int, cat_long]) (j := 4) (by omega) (c_X7_init (by omega) eq22) ?_
      replace e := ckd e
      obtain ⟨k24, e⟩ := e
      replace e := ckd e
      obtain ⟨k25, e⟩ := e
      replace e := ckd e
      obtain ⟨k26, e⟩ := e
      refine g_aast d_X10_init_54 k24 (by decide) (by decide) k26 (by decide) rfl k25 ?_
      replace e := bhd e
      obtain ⟨_, rfl, e⟩ := e
      replace e := bhd e
      obtain ⟨_, rfl, e⟩ := e
      refine s_iinc d_X10_init_55 g3 (w := (1 : Int32)) (by decide +kernel) (by decide) (fun L g3 gK => ?_)
      replace g0 := gK _ _ (by decide) (Or.inr (zrf_cat _)) g0
      replace g1 := gK _ _ (by decide) (Or.inr (zrf_cat _)) g1
      replace g2 := gK _ _ (by decide) (Or.inr (zrf_cat _)) g2
      refine r_goto d_X10_init_58 (tgt := 39) (by decide) ?_
      exact ih _ _ _ _ _ _ _ g0 g1 g2 g3 e

def f_X10_init (l0 : Nat) (h : Hp) : Option Hp := ck (isO (h) (l0) 11) (ck (8 ≤ zn (h)) (bh (pN (h) 4 (kN 4)) (fun h3 => ck (isO (h3) (zn (h)) 4) ((f_X3_init (zn (h)) (h3)).bind (fun q4 => ck (isO (q4) (l0) 11) (bh (pR (q4) 1100 (l0) (zn (h))) (fun h7 => ck (8 ≤ zn (h7)) (bh (pN (h7) 26 ((4 : Int32)).toNatClampNeg) (fun h9 => bh (pR (h9) 1103 (l0) (zn (h7))) (fun h10 => ck (8 ≤ zn (h10)) (bh (pN (h10) 1 (kN 1)) (fun h12 => ck (isO (h12) (zn (h10)) 1) ((f_X0_init (zn (h10)) (h12)).bind (fun q13 => bh (zn (h10)) (fun x15 => ck (8 ≤ zn (q13)) (bh (pN (q13) 27 ((8 : Int32)).toNatClampNeg) (fun h17 => bh (zn (q13)) (fun x18 => f_X10_init_39 fz (l0) (x15) (x18) ((0 : Int32)) (h17)))))))))))))))))))
theorem f_X10_init_ok {G : Gd} {d : Nat} (hj : 5 ≤ d) : ∀ (l0 : Nat) (L : List (Nat × Value)) (h : Hp) (o : Hp), zlk L 0 = some (zrf (l0)) → f_X10_init l0 h = some o → Ev G M_X10_init d 0 L [] h (Ret Y_X10_init none o) := by
  intro l0 L h o g0 e
  unfold f_X10_init at e
  refine g_ald_n d_X10_init_0 rfl g0 ?_
  replace e := ckd e
  obtain ⟨k1, e⟩ := e
  refine g_objInit k1 d_X10_init_1 (by decide +kernel) (by omega) (by simp [zrf_cat, cat_int, cat_long]) ?_
  refine g_ald_n d_X10_init_4 rfl g0 ?_
  replace e := ckd e
  obtain ⟨k2, e⟩ := e
  refine g_new k2 d_X10_init_5 (i := 4) (by decide) (by decide) (by decide +kernel) ?_
  replace e := bhd e
  obtain ⟨_, rfl, e⟩ := e
  refine r_dup d_X10_init_8 (zrf_cat _) ?_
  replace e := ckd e
  obtain ⟨k5, e⟩ := e
  replace e := bd e
  obtain ⟨q4, eq4, e⟩ := e
  refine g_callN d_X10_init_9 nk_9_9 (as := []) rfl k5 rfl (by simp [zrf_cat, cat_int, cat_long]) (j := 1) (by omega) (c_X3_init (by omega) eq4) ?_
  replace e := ckd e
  obtain ⟨k6, e⟩ := e
  refine g_putR d_X10_init_12 (f := 1100) k6 fk_9_10 rfl (Or.inr ⟨rfl, rfl⟩) (Or.inl ⟨_, rfl⟩) ?_
  replace e := bhd e
  obtain ⟨_, rfl, e⟩ := e
  refine g_ald_n d_X10_init_15 rfl g0 ?_
  refine r_iconst d_X10_init_16 (v := (4 : Int32)) (by decide +kernel) ?_
  replace e := ckd e
  obtain ⟨k8, e⟩ := e
  refine g_newq (t := 26) k8 d_X10_init_17 (by decide) (by decide) rfl (by decide +kernel) (by decide +kernel) (by decide +kernel) ?_
  replace e := bhd e
  obtain ⟨_, rfl, e⟩ := e
  refine g_putR d_X10_init_20 (f := 1103) (tO_pN (tO_pR k6)) fk_9_18 rfl (Or.inr ⟨rfl, rfl⟩) (Or.inr ⟨_, rfl⟩) ?_
  replace e := bhd e
  obtain ⟨_, rfl, e⟩ := e
  replace e := ckd e
  obtain ⟨k11, e⟩ := e
  refine g_new k11 d_X10_init_23 (i := 1) (by decide) (by decide) (by decide +kernel) ?_
  replace e := bhd e
  obtain ⟨_, rfl, e⟩ := e
  refine r_dup d_X10_init_26 (zrf_cat _) ?_
  replace e := ckd e
  obtain ⟨k14, e⟩ := e
  replace e := bd e
  obtain ⟨q13, eq13, e⟩ := e
  refine g_callN d_X10_init_27 nk_9_24 (as := []) rfl k14 rfl (by simp [zrf_cat, cat_int, cat_long]) (j := 1) (by omega) (c_X0_init (by omega) eq13) ?_
  replace e := bhd e
  obtain ⟨_, rfl, e⟩ := e
  refine s_ast_n d_X10_init_30 rfl (by decide) (fun L g1 gK => ?_)
  replace g0 := gK _ _ (by decide) (Or.inr (zrf_cat _)) g0
  refine r_bipush d_X10_init_31 (v := (8 : Int32)) (by decide +kernel) ?_
  replace e := ckd e
  obtain ⟨k16, e⟩ := e
  refine g_newq (t := 27) k16 d_X10_init_33 (by decide) (by decide) rfl (by decide +kernel) (by decide +kernel) (by decide +kernel) ?_
  replace e := bhd e
  obtain ⟨_, rfl, e⟩ := e
  replace e := bhd e
  obtain ⟨_, rfl, e⟩ := e
  refine s_ast_n d_X10_init_36 rfl (by decide) (fun L g2 gK => ?_)
  replace g0 := gK _ _ (by decide) (Or.inr (zrf_cat _)) g0
  replace g1 := gK _ _ (by decide) (Or.inr (zrf_cat _)) g1
  refine r_iconst d_X10_init_37 (v := (0 : Int32)) (by decide +kernel) ?_
  refine s_istore_n d_X10_init_38 rfl (by decide) (fun L g3 gK => ?_)
  replace g0 := gK _ _ (by decide) (Or.inr (zrf_cat _)) g0
  replace g1 := gK _ _ (by decide) (Or.inr (zrf_cat _)) g1
  replace g2 := gK _ _ (by decide) (Or.inr (zrf_cat _)) g2
  exact f_X10_init_39_ok hj _ _ _ _ _ _ _ _ g0 g1 g2 g3 e

theorem c_X10_init {G : Gd} {j : Nat} (hj : 5 ≤ j) {l0 : Nat} {h : Hp} {o : Hp} (e : f_X10_init l0 h = some o) : Cal G j Y_X10_init [zrf (l0)] h none o := Cal.of (n := 0) (I := true) (by first | exact Or.inl (by decide +kernel) | exact Or.inr (by decide +kernel)) (by decide) (by simp [lg_sl, zrf_cat, cat_int, cat_long]) (f_X10_init_ok hj _ _ h o (by simp [lv_args, zlk, zrf_cat, cat_int, cat_long]) e)
theorem vk_9_39 : Vk "TaskWeave" 39 2 4 Y_X3_append := ⟨yk_X3_append, by decide +kernel, by decide +kernel, by decide +kernel, by decide⟩
def f_X10_type (l0 : Nat) (l1 : Int64) (l3 : Int32) (h : Hp) : Option (Int32 × Hp) := ck (isO (h) (l0) 11) (ck (isO (h) (zR (h) 1100 (l0)) 4) ((f_X3_append (zR (h) 1100 (l0)) (l1) (l3) (h)).bind (fun q2 => ck (isB (q2.1)) (some (q2.1, q2.2)))))
theorem f_X10_type_ok {G : Gd} {d : Nat} (hj : 2 ≤ d) : ∀ (l0 : Nat) (l1 : Int64) (l3 : Int32) (L : List (Nat × Value)) (h : Hp) (o : (Int32 × Hp)), zlk L 0 = some (zrf (l0)) → zlk L 1 = some (.long (l1)) → zlk L 3 = some (.int (l3)) → f_X10_type l0 l1 l3 h = some o → Ev G M_X10_type d 0 L [] h (Ret Y_X10_type (some (.int o.1)) o.2) := by
  intro l0 l1 l3 L h o g0 g1 g3 e
  unfold f_X10_type at e
  refine g_ald_n d_X10_type_0 rfl g0 ?_
  replace e := ckd e
  obtain ⟨k1, e⟩ := e
  refine g_getR d_X10_type_1 (f := 1100) k1 fk_9_10 rfl rfl ?_
  refine r_lload_n d_X10_type_4 rfl g1 ?_
  refine r_iload_n d_X10_type_5 rfl g3 ?_
  replace e := ckd e
  obtain ⟨k3, e⟩ := e
  replace e := bd e
  obtain ⟨q2, eq2, e⟩ := e
  refine g_callV d_X10_type_6 vk_9_39 (as := [_, _]) rfl k3 rfl (by simp [zrf_cat, cat_int, cat_long]) (j := 1) (by omega) (c_X3_append (by omega) eq2) ?_
  replace e := ckd e
  obtain ⟨k4, e⟩ := e
  obtain rfl := Option.some.inj e
  exact g_iret d_X10_type_9 rfl k4

theorem c_X10_type {G : Gd} {j : Nat} (hj : 2 ≤ j) {l0 : Nat} {l1 : Int64} {l3 : Int32} {h : Hp} {o : (Int32 × Hp)} (e : f_X10_type l0 l1 l3 h = some o) : Cal G j Y_X10_type [zrf (l0), .long (l1), .int (l3)] h (some (.int o.1)) o.2 := Cal.of (n := 0) (I := false) (by first | exact Or.inl (by decide +kernel) | exact Or.inr (by decide +kernel)) (by decide) (by simp [lg_sl, zrf_cat, cat_int, cat_long]) (f_X10_type_ok hj _ _ _ _ h o (by simp [lv_args, zlk, zrf_cat, cat_int, cat_long]) (by simp [lv_args, zlk, zrf_cat, cat_int, cat_long]) (by simp [lv_args, zlk, zrf_cat, cat_int, cat_long]) e)
theorem fk_9_78 : Fk "TaskWeave" 78 405 := ⟨by decide, by decide, by decide +kernel⟩
def f_X10_fault (l0 : Nat) (h : Hp) : Option (Int32 × Hp) := ck (isO (h) (l0) 11) (ck (isO (h) (zR (h) 1100 (l0)) 4) (some (zI (h) 405 (zR (h) 1100 (l0)), h)))
theorem f_X10_fault_ok {G : Gd} {d : Nat} (hj : 1 ≤ d) : ∀ (l0 : Nat) (L : List (Nat × Value)) (h : Hp) (o : (Int32 × Hp)), zlk L 0 = some (zrf (l0)) → f_X10_fault l0 h = some o → Ev G M_X10_fault d 0 L [] h (Ret Y_X10_fault (some (.int o.1)) o.2) := by
  intro l0 L h o g0 e
  unfold f_X10_fault at e
  refine g_ald_n d_X10_fault_0 rfl g0 ?_
  replace e := ckd e
  obtain ⟨k1, e⟩ := e
  refine g_getR d_X10_fault_1 (f := 1100) k1 fk_9_10 rfl rfl ?_
  replace e := ckd e
  obtain ⟨k2, e⟩ := e
  refine g_getI d_X10_fault_4 (f := 405) k2 fk_9_78 rfl rfl ?_
  obtain rfl := Option.some.inj e
  exact g_iret d_X10_fault_7 rfl rfl

theorem c_X10_fault {G : Gd} {j : Nat} (hj : 1 ≤ j) {l0 : Nat} {h : Hp} {o : (Int32 × Hp)} (e : f_X10_fault l0 h = some o) : Cal G j Y_X10_fault [zrf (l0)] h (some (.int o.1)) o.2 := Cal.of (n := 0) (I := false) (by first | exact Or.inl (by decide +kernel) | exact Or.inr (by decide +kernel)) (by decide) (by simp [lg_sl, zrf_cat, cat_int, cat_long]) (f_X10_fault_ok hj _ _ h o (by simp [lv_args, zlk, zrf_cat, cat_int, cat_long]) e)
theorem vk_9_81 : Vk "TaskWeave" 81 0 7 Y_X6_works := ⟨yk_X6_works, by decide +kernel, by decide +kernel, by decide +kernel, by decide⟩
theorem vk_9_85 : Vk "TaskWeave" 85 1 7 Y_X6_rowWithOrigin := ⟨yk_X6_rowWithOrigin, by decide +kernel, by decide +kernel, by decide +kernel, by decide⟩
theorem vk_9_94 : Vk "TaskWeave" 94 1 7 Y_X6_hasRoomFor := ⟨yk_X6_hasRoomFor, by decide +kernel, by decide +kernel, by decide +kernel, by decide⟩
theorem fk_9_98 : Fk "TaskWeave" 98 700 := ⟨by decide, by decide, by decide +kernel⟩
theorem fk_9_101 : Fk "TaskWeave" 101 710 := ⟨by decide, by decide, by decide +kernel⟩
theorem vk_9_104 : Vk "TaskWeave" 104 3 7 Y_X6_begin := ⟨yk_X6_begin, by decide +kernel, by decide +kernel, by decide +kernel, by decide⟩
theorem vk_9_108 : Vk "TaskWeave" 108 0 7 Y_X6_settle := ⟨yk_X6_settle, by decide +kernel, by decide +kernel, by decide +kernel, by decide⟩
theorem fk_9_89 : Fk "TaskWeave" 89 1000 := ⟨by decide, by decide, by decide +kernel⟩
def f_X10_start (l0 : Nat) (l1 : Int32) (l2 : Int32) (l3 : Int32) (h : Hp) : Option (Int32 × Hp) := if (0) ≤ (l1) then (ck (isO (h) (l0) 11) (ck (isO (h) (zR (h) 1103 (l0)) 26) (ck (inR ((l1) - (l1) / ((4 : Int32)) * ((4 : Int32))) (zL (h) (zR (h) 1103 (l0)))) (bh (zQ (h) (zR (h) 1103 (l0)) ((l1) - (l1) / ((4 : Int32)) * ((4 : Int32))).toNatClampNeg) (fun x5 => ck (isO (h) (x5) 7) ((f_X6_works (x5) (h)).bind (fun q6 => if (q6.1) = (0) then (some ((-1 : Int32), q6.2)) else (ck (isO (q6.2) (x5) 7) ((f_X6_rowWithOrigin (x5) (l1) (q6.2)).bind (fun q9 => if (q9.1) = 0 then (ck (isO (q9.2) (x5) 7) ((f_X6_hasRoomFor (x5) (l2) (q9.2)).bind (fun q12 => if (q12.1) = (0) then (some ((-1 : Int32), q12.2)) else (ck (isO (q12.2) (x5) 7) (bh ((zI (q12.2) 700 (x5)) + (((4 : Int32)) * (zI (q12.2) 710 (x5)))) (fun x16 => (f_X6_begin (x5) (l2) (l3) (l1) (q12.2)).bind (fun q17 => ck (isO (q17.2) (x5) 7) ((f_X6_settle (x5) (q17.2)).bind (fun q18 => if (q17.1) = (0) then (some ((-1 : Int32), q18)) else (some (x16, q18))))))))))) else (ck (isO (q9.2) (q9.1) 10) (some (zI (q9.2) 1000 (q9.1), q9.2))))))))))))) else (some ((-1 : Int32), h))
theorem f_X10_start_ok {G : Gd} {d : Nat} (hj : 7 ≤ d) : ∀ (l0 : Nat) (l1 : Int32) (l2 : Int32) (l3 : Int32) (L : List (Nat × Value)) (h : Hp) (o : (Int32 × Hp)), zlk L 0 = some (zrf (l0)) → zlk L 1 = some (.int (l1)) → zlk L 2 = some (.int (l2)) → zlk L 3 = some (.int (l3)) → f_X10_start l0 l1 l2 l3 h = some o → Ev G M_X10_start d 0 L [] h (Ret Y_X10_start (some (.int o.1)) o.2) := by
  intro l0 l1 l2 l3 L h o g0 g1 g2 g3 e
  unfold f_X10_start at e
  refine r_iload_n d_X10_start_0 rfl g1 ?_
  refine r_if_ge d_X10_start_1 (tgt := 6) (by decide) (fun c1 => ?_) (fun c1 => ?_)
  · replace e := (if_pos c1).symm.trans e
    refine g_ald_n d_X10_start_6 rfl g0 ?_
    replace e := ckd e
    obtain ⟨k2, e⟩ := e
    refine g_getR d_X10_start_7 (f := 1103) k2 fk_9_18 rfl rfl ?_
    refine r_iload_n d_X10_start_10 rfl g1 ?_
    refine r_iconst d_X10_start_11 (v := (4 : Int32)) (by decide +kernel) ?_
    refine r_irem d_X10_start_12 (by decide +kernel) ?_
    replace e := ckd e
    obtain ⟨k3, e⟩ := e
    replace e := ckd e
    obtain ⟨k4, e⟩ := e
    refine g_aald d_X10_start_13 k3 (by decide) (by decide) k4 rfl ?_
    replace e := bhd e
    obtain ⟨_, rfl, e⟩ := e
    refine s_ast d_X10_start_14 (by decide) (fun L g4 gK => ?_)
    replace g1 := gK _ _ (by decide) (Or.inr rfl) g1
    replace g2 := gK _ _ (by decide) (Or.inr rfl) g2
    replace g3 := gK _ _ (by decide) (Or.inr rfl) g3
    refine g_ald d_X10_start_16 g4 ?_
    replace e := ckd e
    obtain ⟨k7, e⟩ := e
    replace e := bd e
    obtain ⟨q6, eq6, e⟩ := e
    refine g_callV d_X10_start_18 vk_9_81 (as := []) rfl k7 rfl (by simp [zrf_cat, cat_int, cat_long]) (j := 1) (by omega) (c_X6_works (by omega) eq6) ?_
    refine r_if_ne d_X10_start_21 (tgt := 26) (by decide) (fun c8 => ?_) (fun c8 => ?_)
    · replace e := (if_neg c8).symm.trans e
      refine g_ald d_X10_start_26 g4 ?_
      refine r_iload_n d_X10_start_28 rfl g1 ?_
      replace e := ckd e
      obtain ⟨k10, e⟩ := e
      replace e := bd e
      obtain ⟨q9, eq9, e⟩ := e
      refine g_callV d_X10_start_29 vk_9_85 (as := [_]) rfl k10 rfl (by simp [zrf_cat, cat_int, cat_long]) (j := 1) (by omega) (c_X6_rowWithOrigin (by omega) eq9) ?_
      refine s_ast d_X10_start_32 (by decide) (fun L g5 gK => ?_)
      replace g1 := gK _ _ (by decide) (Or.inr rfl) g1
      replace g2 := gK _ _ (by decide) (Or.inr rfl) g2
      replace g3 := gK _ _ (by decide) (Or.inr rfl) g3
      replace g4 := gK _ _ (by decide) (Or.inr (zrf_cat _)) g4
      refine g_ald d_X10_start_34 g5 ?_
      refine g_ifnull d_X10_start_36 (tgt := 45) (by decide) (fun c11 => ?_) (fun c11 => ?_)
      · replace e := (if_pos c11).symm.trans e
        refine g_ald d_X10_start_45 g4 ?_
        refine r_iload_n d_X10_start_47 rfl g2 ?_
        replace e := ckd e
        obtain ⟨k13, e⟩ := e
        replace e := bd e
        obtain ⟨q12, eq12, e⟩ := e
        refine g_callV d_X10_start_48 vk_9_94 (as := [_]) rfl k13 rfl (by simp [zrf_cat, cat_int, cat_long]) (j := 2) (by omega) (c_X6_hasRoomFor (by omega) eq12) ?_
        refine r_if_ne d_X10_start_51 (tgt := 56) (by decide) (fun c14 => ?_) (fun c14 => ?_)
        · replace e := (if_neg c14).symm.trans e
          refine g_ald d_X10_start_56 g4 ?_
          replace e := ckd e
          obtain ⟨k15, e⟩ := e
          refine g_getI d_X10_start_58 (f := 700) k15 fk_9_98 rfl rfl ?_
          refine r_iconst d_X10_start_61 (v := (4 : Int32)) (by decide +kernel) ?_
          refine g_ald d_X10_start_62 g4 ?_
          refine g_getI d_X10_start_64 (f := 710) k15 fk_9_101 rfl rfl ?_
          refine r_imul d_X10_start_67 ?_
          refine r_iadd d_X10_start_68 ?_
          replace e := bhd e
          obtain ⟨_, rfl, e⟩ := e
          refine s_istore d_X10_start_69 (by decide) (fun L g6 gK => ?_)
          replace g1 := gK _ _ (by decide) (Or.inr rfl) g1
          replace g2 := gK _ _ (by decide) (Or.inr rfl) g2
          replace g3 := gK _ _ (by decide) (Or.inr rfl) g3
          replace g4 := gK _ _ (by decide) (Or.inr (zrf_cat _)) g4
          refine g_ald d_X10_start_71 g4 ?_
          refine r_iload_n d_X10_start_73 rfl g2 ?_
          refine r_iload_n d_X10_start_74 rfl g3 ?_
          refine r_iload_n d_X10_start_75 rfl g1 ?_
          replace e := bd e
          obtain ⟨q17, eq17, e⟩ := e
          refine g_callV d_X10_start_76 vk_9_104 (as := [_, _, _]) rfl k15 rfl (by simp [zrf_cat, cat_int, cat_long]) (j := 6) (by omega) (c_X6_begin (by omega) eq17) ?_
          refine s_istore d_X10_start_79 (by decide) (fun L g7 gK => ?_)
          replace g4 := gK _ _ (by decide) (Or.inr (zrf_cat _)) g4
          replace g6 := gK _ _ (by decide) (Or.inr rfl) g6
          refine g_ald d_X10_start_81 g4 ?_
          replace e := ckd e
          obtain ⟨k19, e⟩ := e
          replace e := bd e
          obtain ⟨q18, eq18, e⟩ := e
          refine g_callV d_X10_start_83 vk_9_108 (as := []) rfl k19 rfl (by simp [zrf_cat, cat_int, cat_long]) (j := 6) (by omega) (c_X6_settle (by omega) eq18) ?_
          refine r_iload d_X10_start_86 g7 ?_
          refine r_if_eq d_X10_start_88 (tgt := 96) (by decide) (fun c20 => ?_) (fun c20 => ?_)
          · replace e := (if_pos c20).symm.trans e
            refine r_iconst d_X10_start_96 (v := (-1 : Int32)) (by decide +kernel) ?_
            obtain rfl := Option.some.inj e
            exact g_iret d_X10_start_97 rfl rfl
          · replace e := (if_neg c20).symm.trans e
            refine r_iload d_X10_start_91 g6 ?_
            refine r_goto d_X10_start_93 (tgt := 97) (by decide) ?_
            obtain rfl := Option.some.inj e
            exact g_iret d_X10_start_97 rfl rfl
        · replace e := (if_pos c14).symm.trans e
          refine r_iconst d_X10_start_54 (v := (-1 : Int32)) (by decide +kernel) ?_
          obtain rfl := Option.some.inj e
          exact g_iret d_X10_start_55 rfl rfl
      · replace e := (if_neg c11).symm.trans e
        refine g_ald d_X10_start_39 g5 ?_
        replace e := ckd e
        obtain ⟨k21, e⟩ := e
        refine g_getI d_X10_start_41 (f := 1000) k21 fk_9_89 rfl rfl ?_
        obtain rfl := Option.some.inj e
        exact g_iret d_X10_start_44 rfl rfl
    · replace e := (if_pos c8).symm.trans e
      refine r_iconst d_X10_start_24 (v := (-1 : Int32)) (by decide +kernel) ?_
      obtain rfl := Option.some.inj e
      exact g_iret d_X10_start_25 rfl rfl
  · replace e := (if_neg c1).symm.trans e
    refine r_iconst d_X10_start_4 (v := (-1 : Int32)) (by decide +kernel) ?_
    obtain rfl := Option.some.inj e
    exact g_iret d_X10_start_5 rfl rfl

theorem c_X10_start {G : Gd} {j : Nat} (hj : 7 ≤ j) {l0 : Nat} {l1 : Int32} {l2 : Int32} {l3 : Int32} {h : Hp} {o : (Int32 × Hp)} (e : f_X10_start l0 l1 l2 l3 h = some o) : Cal G j Y_X10_start [zrf (l0), .int (l1), .int (l2), .int (l3)] h (some (.int o.1)) o.2 := Cal.of (n := 0) (I := false) (by first | exact Or.inl (by decide +kernel) | exact Or.inr (by decide +kernel)) (by decide) (by simp [lg_sl, zrf_cat, cat_int, cat_long]) (f_X10_start_ok hj _ _ _ _ _ h o (by simp [lv_args, zlk, zrf_cat, cat_int, cat_long]) (by simp [lv_args, zlk, zrf_cat, cat_int, cat_long]) (by simp [lv_args, zlk, zrf_cat, cat_int, cat_long]) (by simp [lv_args, zlk, zrf_cat, cat_int, cat_long]) e)
theorem vk_9_280 : Vk "TaskWeave" 280 1 7 Y_X6_row := ⟨yk_X6_row, by decide +kernel, by decide +kernel, by decide +kernel, by decide⟩
def f_X10_find (l0 : Nat) (l1 : Int32) (h : Hp) : Option (Nat × Hp) := if (0) ≤ (l1) then (ck (isO (h) (l0) 11) (ck (isO (h) (zR (h) 1103 (l0)) 26) (ck (inR ((l1) - (l1) / ((4 : Int32)) * ((4 : Int32))) (zL (h) (zR (h) 1103 (l0)))) (ck (isO (h) (zQ (h) (zR (h) 1103 (l0)) ((l1) - (l1) / ((4 : Int32)) * ((4 : Int32))).toNatClampNeg) 7) ((f_X6_row (zQ (h) (zR (h) 1103 (l0)) ((l1) - (l1) / ((4 : Int32)) * ((4 : Int32))).toNatClampNeg) ((l1) / ((4 : Int32))) (h)).bind (fun q5 => some (q5.1, q5.2))))))) else (some (0, h))
theorem f_X10_find_ok {G : Gd} {d : Nat} (hj : 2 ≤ d) : ∀ (l0 : Nat) (l1 : Int32) (L : List (Nat × Value)) (h : Hp) (o : (Nat × Hp)), zlk L 0 = some (zrf (l0)) → zlk L 1 = some (.int (l1)) → f_X10_find l0 l1 h = some o → Ev G M_X10_find d 0 L [] h (Ret Y_X10_find (some (zrf o.1)) o.2) := by
  intro l0 l1 L h o g0 g1 e
  unfold f_X10_find at e
  refine r_iload_n d_X10_find_0 rfl g1 ?_
  refine r_if_ge d_X10_find_1 (tgt := 8) (by decide) (fun c1 => ?_) (fun c1 => ?_)
  · replace e := (if_pos c1).symm.trans e
    refine g_ald_n d_X10_find_8 rfl g0 ?_
    replace e := ckd e
    obtain ⟨k2, e⟩ := e
    refine g_getR d_X10_find_9 (f := 1103) k2 fk_9_18 rfl rfl ?_
    refine r_iload_n d_X10_find_12 rfl g1 ?_
    refine r_iconst d_X10_find_13 (v := (4 : Int32)) (by decide +kernel) ?_
    refine r_irem d_X10_find_14 (by decide +kernel) ?_
    replace e := ckd e
    obtain ⟨k3, e⟩ := e
    replace e := ckd e
    obtain ⟨k4, e⟩ := e
    refine g_aald d_X10_find_15 k3 (by decide) (by decide) k4 rfl ?_
    refine r_iload_n d_X10_find_16 rfl g1 ?_
    refine r_iconst d_X10_find_17 (v := (4 : Int32)) (by decide +kernel) ?_
    refine r_idiv d_X10_find_18 (by decide +kernel) ?_
    replace e := ckd e
    obtain ⟨k6, e⟩ := e
    replace e := bd e
    obtain ⟨q5, eq5, e⟩ := e
    refine g_callV d_X10_find_19 vk_9_280 (as := [_]) rfl k6 rfl (by simp [zrf_cat, cat_int, cat_long]) (j := 1) (by omega) (c_X6_row (by omega) eq5) ?_
    obtain rfl := Option.some.inj e
    exact g_aret d_X10_find_22 rfl (Or.inl ⟨_, rfl⟩)
  · replace e := (if_neg c1).symm.trans e
    refine g_null d_X10_find_4 ?_
    refine r_goto d_X10_find_5 (tgt := 22) (by decide) ?_
    obtain rfl := Option.some.inj e
    exact g_aret d_X10_find_22 rfl (Or.inl ⟨_, rfl⟩)

theorem c_X10_find {G : Gd} {j : Nat} (hj : 2 ≤ j) {l0 : Nat} {l1 : Int32} {h : Hp} {o : (Nat × Hp)} (e : f_X10_find l0 l1 h = some o) : Cal G j Y_X10_find [zrf (l0), .int (l1)] h (some (zrf o.1)) o.2 := Cal.of (n := 0) (I := false) (by first | exact Or.inl (by decide +kernel) | exact Or.inr (by decide +kernel)) (by decide) (by simp [lg_sl, zrf_cat, cat_int, cat_long]) (f_X10_find_ok hj _ _ _ h o (by simp [lv_args, zlk, zrf_cat, cat_int, cat_long]) (by simp [lv_args, zlk, zrf_cat, cat_int, cat_long]) e)
