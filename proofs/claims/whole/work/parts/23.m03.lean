abbrev Y_X9_run : Yx := (⟨"TaskWeave$Workflow", "run", "(I)I"⟩, prog_11_method_10_code, 4, (some .int))
abbrev M_X9_run : Mx := ("TaskWeave$Workflow", prog_11_method_10_code, 4, false)
theorem yk_X9_run : Yk Y_X9_run 1 := ⟨by decide +kernel, by decide +kernel, ⟨by decide, by decide⟩, by decide +kernel, by decide, by decide +kernel⟩
theorem d_X9_run_0 : decode prog_11_method_10_code 0 = .ok (.iconst 0, 1) := by decide +kernel
theorem d_X9_run_1 : decode prog_11_method_10_code 1 = .ok (.istore_n 2, 1) := by decide +kernel
theorem d_X9_run_2 : decode prog_11_method_10_code 2 = .ok (.iload_n 2, 1) := by decide +kernel
theorem d_X9_run_3 : decode prog_11_method_10_code 3 = .ok (.sipush 200, 3) := by decide +kernel
theorem d_X9_run_6 : decode prog_11_method_10_code 6 = .ok (.if_icmp .gt 41, 3) := by decide +kernel
theorem d_X9_run_9 : decode prog_11_method_10_code 9 = .ok (.aload_n 0, 1) := by decide +kernel
theorem d_X9_run_10 : decode prog_11_method_10_code 10 = .ok (.getfield 59, 3) := by decide +kernel
theorem d_X9_run_13 : decode prog_11_method_10_code 13 = .ok (.iconst 5, 1) := by decide +kernel
theorem d_X9_run_14 : decode prog_11_method_10_code 14 = .ok (.if_icmp .ne 33, 3) := by decide +kernel
theorem d_X9_run_17 : decode prog_11_method_10_code 17 = .ok (.aload_n 0, 1) := by decide +kernel
theorem d_X9_run_18 : decode prog_11_method_10_code 18 = .ok (.getfield 33, 3) := by decide +kernel
theorem d_X9_run_21 : decode prog_11_method_10_code 21 = .ok (.ifnull 26, 3) := by decide +kernel
theorem d_X9_run_24 : decode prog_11_method_10_code 24 = .ok (.aload_n 0, 1) := by decide +kernel
theorem d_X9_run_25 : decode prog_11_method_10_code 25 = .ok (.iload_n 1, 1) := by decide +kernel
theorem d_X9_run_26 : decode prog_11_method_10_code 26 = .ok (.invokevirtual 102, 3) := by decide +kernel
theorem d_X9_run_29 : decode prog_11_method_10_code 29 = .ok (.istore_n 3, 1) := by decide +kernel
theorem d_X9_run_30 : decode prog_11_method_10_code 30 = .ok (.iload_n 3, 1) := by decide +kernel
theorem d_X9_run_31 : decode prog_11_method_10_code 31 = .ok (.iconst (-1), 1) := by decide +kernel
theorem d_X9_run_32 : decode prog_11_method_10_code 32 = .ok (.if_icmp .eq 5, 3) := by decide +kernel
theorem d_X9_run_35 : decode prog_11_method_10_code 35 = .ok (.iload_n 3, 1) := by decide +kernel
theorem d_X9_run_36 : decode prog_11_method_10_code 36 = .ok (.ireturn, 1) := by decide +kernel
theorem d_X9_run_37 : decode prog_11_method_10_code 37 = .ok (.aload_n 0, 1) := by decide +kernel
theorem d_X9_run_38 : decode prog_11_method_10_code 38 = .ok (.invokevirtual 106, 3) := by decide +kernel
theorem d_X9_run_41 : decode prog_11_method_10_code 41 = .ok (.iinc 2 1, 3) := by decide +kernel
theorem d_X9_run_44 : decode prog_11_method_10_code 44 = .ok (.goto (-42), 3) := by decide +kernel
theorem d_X9_run_47 : decode prog_11_method_10_code 47 = .ok (.iconst (-1), 1) := by decide +kernel
theorem d_X9_run_48 : decode prog_11_method_10_code 48 = .ok (.ireturn, 1) := by decide +kernel
abbrev Y_X9_resume : Yx := (⟨"TaskWeave$Workflow", "resume", "()V"⟩, prog_11_method_20_code, 1, none)
abbrev M_X9_resume : Mx := ("TaskWeave$Workflow", prog_11_method_20_code, 1, false)
theorem yk_X9_resume : Yk Y_X9_resume 0 := ⟨by decide +kernel, by decide +kernel, ⟨by decide, by decide⟩, by decide +kernel, by decide, by decide +kernel⟩
theorem d_X9_resume_0 : decode prog_11_method_20_code 0 = .ok (.aload_n 0, 1) := by decide +kernel
theorem d_X9_resume_1 : decode prog_11_method_20_code 1 = .ok (.iconst 0, 1) := by decide +kernel
theorem d_X9_resume_2 : decode prog_11_method_20_code 2 = .ok (.putfield 56, 3) := by decide +kernel
theorem d_X9_resume_5 : decode prog_11_method_20_code 5 = .ok (.aload_n 0, 1) := by decide +kernel
theorem d_X9_resume_6 : decode prog_11_method_20_code 6 = .ok (.iconst 5, 1) := by decide +kernel
theorem d_X9_resume_7 : decode prog_11_method_20_code 7 = .ok (.putfield 59, 3) := by decide +kernel
theorem d_X9_resume_10 : decode prog_11_method_20_code 10 = .ok (.return_, 1) := by decide +kernel
abbrev Y_X9_take : Yx := (⟨"TaskWeave$Workflow", "take", "(IIIII)V"⟩, prog_11_method_21_code, 6, none)
abbrev M_X9_take : Mx := ("TaskWeave$Workflow", prog_11_method_21_code, 6, false)
theorem yk_X9_take : Yk Y_X9_take 5 := ⟨by decide +kernel, by decide +kernel, ⟨by decide, by decide⟩, by decide +kernel, by decide, by decide +kernel⟩
theorem d_X9_take_0 : decode prog_11_method_21_code 0 = .ok (.aload_n 0, 1) := by decide +kernel
theorem d_X9_take_1 : decode prog_11_method_21_code 1 = .ok (.getfield 18, 3) := by decide +kernel
theorem d_X9_take_4 : decode prog_11_method_21_code 4 = .ok (.iload_n 1, 1) := by decide +kernel
theorem d_X9_take_5 : decode prog_11_method_21_code 5 = .ok (.iload_n 2, 1) := by decide +kernel
theorem d_X9_take_6 : decode prog_11_method_21_code 6 = .ok (.iload_n 3, 1) := by decide +kernel
theorem d_X9_take_7 : decode prog_11_method_21_code 7 = .ok (.iload 4, 2) := by decide +kernel
theorem d_X9_take_9 : decode prog_11_method_21_code 9 = .ok (.invokevirtual 40, 3) := by decide +kernel
theorem d_X9_take_12 : decode prog_11_method_21_code 12 = .ok (.iload_n 1, 1) := by decide +kernel
theorem d_X9_take_13 : decode prog_11_method_21_code 13 = .ok (.tableswitch 209 1 9 #[51, 114, 114, 71, 134, 80, 181, 151, 101], 51) := by decide +kernel
theorem d_X9_take_64 : decode prog_11_method_21_code 64 = .ok (.aload_n 0, 1) := by decide +kernel
theorem d_X9_take_65 : decode prog_11_method_21_code 65 = .ok (.getfield 25, 3) := by decide +kernel
theorem d_X9_take_68 : decode prog_11_method_21_code 68 = .ok (.iload_n 2, 1) := by decide +kernel
theorem d_X9_take_69 : decode prog_11_method_21_code 69 = .ok (.iload_n 3, 1) := by decide +kernel
theorem d_X9_take_70 : decode prog_11_method_21_code 70 = .ok (.iload 5, 2) := by decide +kernel
theorem d_X9_take_72 : decode prog_11_method_21_code 72 = .ok (.invokevirtual 157, 3) := by decide +kernel
theorem d_X9_take_75 : decode prog_11_method_21_code 75 = .ok (.aload_n 0, 1) := by decide +kernel
theorem d_X9_take_76 : decode prog_11_method_21_code 76 = .ok (.iconst 0, 1) := by decide +kernel
theorem d_X9_take_77 : decode prog_11_method_21_code 77 = .ok (.iconst 0, 1) := by decide +kernel
theorem d_X9_take_78 : decode prog_11_method_21_code 78 = .ok (.invokevirtual 141, 3) := by decide +kernel
theorem d_X9_take_81 : decode prog_11_method_21_code 81 = .ok (.goto 159, 3) := by decide +kernel
theorem d_X9_take_84 : decode prog_11_method_21_code 84 = .ok (.aload_n 0, 1) := by decide +kernel
theorem d_X9_take_85 : decode prog_11_method_21_code 85 = .ok (.iconst 1, 1) := by decide +kernel
theorem d_X9_take_86 : decode prog_11_method_21_code 86 = .ok (.iload_n 2, 1) := by decide +kernel
theorem d_X9_take_87 : decode prog_11_method_21_code 87 = .ok (.invokevirtual 141, 3) := by decide +kernel
theorem d_X9_take_90 : decode prog_11_method_21_code 90 = .ok (.goto 150, 3) := by decide +kernel
theorem d_X9_take_93 : decode prog_11_method_21_code 93 = .ok (.aload_n 0, 1) := by decide +kernel
theorem d_X9_take_94 : decode prog_11_method_21_code 94 = .ok (.aload_n 0, 1) := by decide +kernel
theorem d_X9_take_95 : decode prog_11_method_21_code 95 = .ok (.getfield 65, 3) := by decide +kernel
theorem d_X9_take_98 : decode prog_11_method_21_code 98 = .ok (.invokevirtual 145, 3) := by decide +kernel
theorem d_X9_take_101 : decode prog_11_method_21_code 101 = .ok (.aload_n 0, 1) := by decide +kernel
theorem d_X9_take_102 : decode prog_11_method_21_code 102 = .ok (.dup, 1) := by decide +kernel
theorem d_X9_take_103 : decode prog_11_method_21_code 103 = .ok (.getfield 65, 3) := by decide +kernel
theorem d_X9_take_106 : decode prog_11_method_21_code 106 = .ok (.iconst 1, 1) := by decide +kernel
theorem d_X9_take_107 : decode prog_11_method_21_code 107 = .ok (.iadd, 1) := by decide +kernel
theorem d_X9_take_108 : decode prog_11_method_21_code 108 = .ok (.putfield 65, 3) := by decide +kernel
theorem d_X9_take_111 : decode prog_11_method_21_code 111 = .ok (.goto 129, 3) := by decide +kernel
theorem d_X9_take_114 : decode prog_11_method_21_code 114 = .ok (.aload_n 0, 1) := by decide +kernel
theorem d_X9_take_115 : decode prog_11_method_21_code 115 = .ok (.aload_n 0, 1) := by decide +kernel
theorem d_X9_take_116 : decode prog_11_method_21_code 116 = .ok (.getfield 53, 3) := by decide +kernel
theorem d_X9_take_119 : decode prog_11_method_21_code 119 = .ok (.iconst 1, 1) := by decide +kernel
theorem d_X9_take_120 : decode prog_11_method_21_code 120 = .ok (.iadd, 1) := by decide +kernel
theorem d_X9_take_121 : decode prog_11_method_21_code 121 = .ok (.invokevirtual 137, 3) := by decide +kernel
theorem d_X9_take_124 : decode prog_11_method_21_code 124 = .ok (.goto 116, 3) := by decide +kernel
theorem d_X9_take_127 : decode prog_11_method_21_code 127 = .ok (.aload_n 0, 1) := by decide +kernel
theorem d_X9_take_128 : decode prog_11_method_21_code 128 = .ok (.getfield 25, 3) := by decide +kernel
theorem d_X9_take_131 : decode prog_11_method_21_code 131 = .ok (.iconst 0, 1) := by decide +kernel
theorem d_X9_take_132 : decode prog_11_method_21_code 132 = .ok (.putfield 50, 3) := by decide +kernel
theorem d_X9_take_135 : decode prog_11_method_21_code 135 = .ok (.aload_n 0, 1) := by decide +kernel
theorem d_X9_take_136 : decode prog_11_method_21_code 136 = .ok (.iload_n 2, 1) := by decide +kernel
theorem d_X9_take_137 : decode prog_11_method_21_code 137 = .ok (.invokevirtual 145, 3) := by decide +kernel
theorem d_X9_take_140 : decode prog_11_method_21_code 140 = .ok (.aload_n 0, 1) := by decide +kernel
theorem d_X9_take_141 : decode prog_11_method_21_code 141 = .ok (.invokevirtual 161, 3) := by decide +kernel
theorem d_X9_take_144 : decode prog_11_method_21_code 144 = .ok (.goto 96, 3) := by decide +kernel
theorem d_X9_take_147 : decode prog_11_method_21_code 147 = .ok (.aload_n 0, 1) := by decide +kernel
theorem d_X9_take_148 : decode prog_11_method_21_code 148 = .ok (.aload_n 0, 1) := by decide +kernel
theorem d_X9_take_149 : decode prog_11_method_21_code 149 = .ok (.getfield 53, 3) := by decide +kernel
theorem d_X9_take_152 : decode prog_11_method_21_code 152 = .ok (.iconst 1, 1) := by decide +kernel
theorem d_X9_take_153 : decode prog_11_method_21_code 153 = .ok (.iadd, 1) := by decide +kernel
theorem d_X9_take_154 : decode prog_11_method_21_code 154 = .ok (.invokevirtual 137, 3) := by decide +kernel
theorem d_X9_take_157 : decode prog_11_method_21_code 157 = .ok (.aload_n 0, 1) := by decide +kernel
theorem d_X9_take_158 : decode prog_11_method_21_code 158 = .ok (.invokevirtual 161, 3) := by decide +kernel
theorem d_X9_take_161 : decode prog_11_method_21_code 161 = .ok (.goto 79, 3) := by decide +kernel
theorem d_X9_take_164 : decode prog_11_method_21_code 164 = .ok (.aload_n 0, 1) := by decide +kernel
theorem d_X9_take_165 : decode prog_11_method_21_code 165 = .ok (.getfield 59, 3) := by decide +kernel
theorem d_X9_take_168 : decode prog_11_method_21_code 168 = .ok (.iconst 2, 1) := by decide +kernel
theorem d_X9_take_169 : decode prog_11_method_21_code 169 = .ok (.if_icmp .ne 71, 3) := by decide +kernel
theorem d_X9_take_172 : decode prog_11_method_21_code 172 = .ok (.aload_n 0, 1) := by decide +kernel
theorem d_X9_take_173 : decode prog_11_method_21_code 173 = .ok (.dup, 1) := by decide +kernel
theorem d_X9_take_174 : decode prog_11_method_21_code 174 = .ok (.getfield 62, 3) := by decide +kernel
theorem d_X9_take_177 : decode prog_11_method_21_code 177 = .ok (.iconst 1, 1) := by decide +kernel
theorem d_X9_take_178 : decode prog_11_method_21_code 178 = .ok (.iadd, 1) := by decide +kernel
theorem d_X9_take_179 : decode prog_11_method_21_code 179 = .ok (.putfield 62, 3) := by decide +kernel
theorem d_X9_take_182 : decode prog_11_method_21_code 182 = .ok (.aload_n 0, 1) := by decide +kernel
theorem d_X9_take_183 : decode prog_11_method_21_code 183 = .ok (.iload_n 2, 1) := by decide +kernel
theorem d_X9_take_184 : decode prog_11_method_21_code 184 = .ok (.invokevirtual 145, 3) := by decide +kernel
theorem d_X9_take_187 : decode prog_11_method_21_code 187 = .ok (.aload_n 0, 1) := by decide +kernel
theorem d_X9_take_188 : decode prog_11_method_21_code 188 = .ok (.invokevirtual 161, 3) := by decide +kernel
theorem d_X9_take_191 : decode prog_11_method_21_code 191 = .ok (.goto 49, 3) := by decide +kernel
theorem d_X9_take_194 : decode prog_11_method_21_code 194 = .ok (.aload_n 0, 1) := by decide +kernel
theorem d_X9_take_195 : decode prog_11_method_21_code 195 = .ok (.getfield 59, 3) := by decide +kernel
theorem d_X9_take_198 : decode prog_11_method_21_code 198 = .ok (.iconst 3, 1) := by decide +kernel
theorem d_X9_take_199 : decode prog_11_method_21_code 199 = .ok (.if_icmp .ne 41, 3) := by decide +kernel
theorem d_X9_take_202 : decode prog_11_method_21_code 202 = .ok (.aload_n 0, 1) := by decide +kernel
theorem d_X9_take_203 : decode prog_11_method_21_code 203 = .ok (.getfield 96, 3) := by decide +kernel
theorem d_X9_take_206 : decode prog_11_method_21_code 206 = .ok (.iload_n 2, 1) := by decide +kernel
theorem d_X9_take_207 : decode prog_11_method_21_code 207 = .ok (.if_icmp .ne 33, 3) := by decide +kernel
theorem d_X9_take_210 : decode prog_11_method_21_code 210 = .ok (.aload_n 0, 1) := by decide +kernel
theorem d_X9_take_211 : decode prog_11_method_21_code 211 = .ok (.iload_n 3, 1) := by decide +kernel
theorem d_X9_take_212 : decode prog_11_method_21_code 212 = .ok (.invokevirtual 145, 3) := by decide +kernel
theorem d_X9_take_215 : decode prog_11_method_21_code 215 = .ok (.aload_n 0, 1) := by decide +kernel
theorem d_X9_take_216 : decode prog_11_method_21_code 216 = .ok (.invokevirtual 161, 3) := by decide +kernel
theorem d_X9_take_219 : decode prog_11_method_21_code 219 = .ok (.goto 21, 3) := by decide +kernel
theorem d_X9_take_222 : decode prog_11_method_21_code 222 = .ok (.aload_n 0, 1) := by decide +kernel
theorem d_X9_take_223 : decode prog_11_method_21_code 223 = .ok (.getfield 25, 3) := by decide +kernel
theorem d_X9_take_226 : decode prog_11_method_21_code 226 = .ok (.iconst 0, 1) := by decide +kernel
theorem d_X9_take_227 : decode prog_11_method_21_code 227 = .ok (.putfield 50, 3) := by decide +kernel
theorem d_X9_take_230 : decode prog_11_method_21_code 230 = .ok (.aload_n 0, 1) := by decide +kernel
theorem d_X9_take_231 : decode prog_11_method_21_code 231 = .ok (.iconst 4, 1) := by decide +kernel
theorem d_X9_take_232 : decode prog_11_method_21_code 232 = .ok (.putfield 59, 3) := by decide +kernel
theorem d_X9_take_235 : decode prog_11_method_21_code 235 = .ok (.aload_n 0, 1) := by decide +kernel
theorem d_X9_take_236 : decode prog_11_method_21_code 236 = .ok (.iload_n 2, 1) := by decide +kernel
theorem d_X9_take_237 : decode prog_11_method_21_code 237 = .ok (.putfield 68, 3) := by decide +kernel
theorem d_X9_take_240 : decode prog_11_method_21_code 240 = .ok (.return_, 1) := by decide +kernel
abbrev Y_X10_type : Yx := (⟨"TaskWeave", "type", "(JI)Z"⟩, prog_1_method_2_code, 4, (some .boolean))
abbrev M_X10_type : Mx := ("TaskWeave", prog_1_method_2_code, 4, false)
theorem yk_X10_type : Yk Y_X10_type 2 := ⟨by decide +kernel, by decide +kernel, ⟨by decide, by decide⟩, by decide +kernel, by decide, by decide +kernel⟩
theorem d_X10_type_0 : decode prog_1_method_2_code 0 = .ok (.aload_n 0, 1) := by decide +kernel
theorem d_X10_type_1 : decode prog_1_method_2_code 1 = .ok (.getfield 10, 3) := by decide +kernel
theorem d_X10_type_4 : decode prog_1_method_2_code 4 = .ok (.lload_n 1, 1) := by decide +kernel
theorem d_X10_type_5 : decode prog_1_method_2_code 5 = .ok (.iload_n 3, 1) := by decide +kernel
theorem d_X10_type_6 : decode prog_1_method_2_code 6 = .ok (.invokevirtual 39, 3) := by decide +kernel
theorem d_X10_type_9 : decode prog_1_method_2_code 9 = .ok (.ireturn, 1) := by decide +kernel
abbrev Y_X10_fault : Yx := (⟨"TaskWeave", "fault", "()I"⟩, prog_1_method_4_code, 1, (some .int))
abbrev M_X10_fault : Mx := ("TaskWeave", prog_1_method_4_code, 1, false)
theorem yk_X10_fault : Yk Y_X10_fault 0 := ⟨by decide +kernel, by decide +kernel, ⟨by decide, by decide⟩, by decide +kernel, by decide, by decide +kernel⟩
theorem d_X10_fault_0 : decode prog_1_method_4_code 0 = .ok (.aload_n 0, 1) := by decide +kernel
theorem d_X10_fault_1 : decode prog_1_method_4_code 1 = .ok (.getfield 10, 3) := by decide +kernel
theorem d_X10_fault_4 : decode prog_1_method_4_code 4 = .ok (.getfield 78, 3) := by decide +kernel
theorem d_X10_fault_7 : decode prog_1_method_4_code 7 = .ok (.ireturn, 1) := by decide +kernel
abbrev Y_X10_find : Yx := (⟨"TaskWeave", "find", "(I)LTaskWeave$Workflow;"⟩, prog_1_method_23_code, 2, (some (.object "TaskWeave$Workflow")))
abbrev M_X10_find : Mx := ("TaskWeave", prog_1_method_23_code, 2, false)
theorem yk_X10_find : Yk Y_X10_find 1 := ⟨by decide +kernel, by decide +kernel, ⟨by decide, by decide⟩, by decide +kernel, by decide, by decide +kernel⟩
theorem d_X10_find_0 : decode prog_1_method_23_code 0 = .ok (.iload_n 1, 1) := by decide +kernel
theorem d_X10_find_1 : decode prog_1_method_23_code 1 = .ok (.ifCond .ge 7, 3) := by decide +kernel
theorem d_X10_find_4 : decode prog_1_method_23_code 4 = .ok (.aconst_null, 1) := by decide +kernel
theorem d_X10_find_5 : decode prog_1_method_23_code 5 = .ok (.goto 17, 3) := by decide +kernel
theorem d_X10_find_8 : decode prog_1_method_23_code 8 = .ok (.aload_n 0, 1) := by decide +kernel
theorem d_X10_find_9 : decode prog_1_method_23_code 9 = .ok (.getfield 18, 3) := by decide +kernel
theorem d_X10_find_12 : decode prog_1_method_23_code 12 = .ok (.iload_n 1, 1) := by decide +kernel
theorem d_X10_find_13 : decode prog_1_method_23_code 13 = .ok (.iconst 4, 1) := by decide +kernel
theorem d_X10_find_14 : decode prog_1_method_23_code 14 = .ok (.irem, 1) := by decide +kernel
theorem d_X10_find_15 : decode prog_1_method_23_code 15 = .ok (.aaload, 1) := by decide +kernel
theorem d_X10_find_16 : decode prog_1_method_23_code 16 = .ok (.iload_n 1, 1) := by decide +kernel
theorem d_X10_find_17 : decode prog_1_method_23_code 17 = .ok (.iconst 4, 1) := by decide +kernel
theorem d_X10_find_18 : decode prog_1_method_23_code 18 = .ok (.idiv, 1) := by decide +kernel
theorem d_X10_find_19 : decode prog_1_method_23_code 19 = .ok (.invokevirtual 280, 3) := by decide +kernel
theorem d_X10_find_22 : decode prog_1_method_23_code 22 = .ok (.areturn, 1) := by decide +kernel
abbrev Y_X10_poll : Yx := (⟨"TaskWeave", "poll", "(I)I"⟩, prog_1_method_9_code, 6, (some .int))
abbrev M_X10_poll : Mx := ("TaskWeave", prog_1_method_9_code, 6, false)
theorem yk_X10_poll : Yk Y_X10_poll 1 := ⟨by decide +kernel, by decide +kernel, ⟨by decide, by decide⟩, by decide +kernel, by decide, by decide +kernel⟩
theorem d_X10_poll_0 : decode prog_1_method_9_code 0 = .ok (.aconst_null, 1) := by decide +kernel
theorem d_X10_poll_1 : decode prog_1_method_9_code 1 = .ok (.astore_n 2, 1) := by decide +kernel
theorem d_X10_poll_2 : decode prog_1_method_9_code 2 = .ok (.iconst 0, 1) := by decide +kernel
theorem d_X10_poll_3 : decode prog_1_method_9_code 3 = .ok (.istore_n 3, 1) := by decide +kernel
theorem d_X10_poll_4 : decode prog_1_method_9_code 4 = .ok (.iload_n 3, 1) := by decide +kernel
theorem d_X10_poll_5 : decode prog_1_method_9_code 5 = .ok (.bipush 64, 2) := by decide +kernel
theorem d_X10_poll_7 : decode prog_1_method_9_code 7 = .ok (.if_icmp .ge 88, 3) := by decide +kernel
theorem d_X10_poll_10 : decode prog_1_method_9_code 10 = .ok (.aload_n 0, 1) := by decide +kernel
theorem d_X10_poll_11 : decode prog_1_method_9_code 11 = .ok (.iload_n 3, 1) := by decide +kernel
theorem d_X10_poll_12 : decode prog_1_method_9_code 12 = .ok (.invokevirtual 111, 3) := by decide +kernel
theorem d_X10_poll_15 : decode prog_1_method_9_code 15 = .ok (.astore 4, 2) := by decide +kernel
theorem d_X10_poll_17 : decode prog_1_method_9_code 17 = .ok (.aload 4, 2) := by decide +kernel
theorem d_X10_poll_19 : decode prog_1_method_9_code 19 = .ok (.ifnull 37, 3) := by decide +kernel
theorem d_X10_poll_22 : decode prog_1_method_9_code 22 = .ok (.aload_n 0, 1) := by decide +kernel
theorem d_X10_poll_23 : decode prog_1_method_9_code 23 = .ok (.getfield 18, 3) := by decide +kernel
theorem d_X10_poll_26 : decode prog_1_method_9_code 26 = .ok (.iload_n 3, 1) := by decide +kernel
theorem d_X10_poll_27 : decode prog_1_method_9_code 27 = .ok (.iconst 4, 1) := by decide +kernel
theorem d_X10_poll_28 : decode prog_1_method_9_code 28 = .ok (.irem, 1) := by decide +kernel
theorem d_X10_poll_29 : decode prog_1_method_9_code 29 = .ok (.aaload, 1) := by decide +kernel
theorem d_X10_poll_30 : decode prog_1_method_9_code 30 = .ok (.invokevirtual 81, 3) := by decide +kernel
theorem d_X10_poll_33 : decode prog_1_method_9_code 33 = .ok (.ifCond .eq 23, 3) := by decide +kernel
theorem d_X10_poll_36 : decode prog_1_method_9_code 36 = .ok (.aload 4, 2) := by decide +kernel
theorem d_X10_poll_38 : decode prog_1_method_9_code 38 = .ok (.iload_n 1, 1) := by decide +kernel
theorem d_X10_poll_39 : decode prog_1_method_9_code 39 = .ok (.aload_n 0, 1) := by decide +kernel
theorem d_X10_poll_40 : decode prog_1_method_9_code 40 = .ok (.getfield 31, 3) := by decide +kernel
theorem d_X10_poll_43 : decode prog_1_method_9_code 43 = .ok (.getfield 144, 3) := by decide +kernel
theorem d_X10_poll_46 : decode prog_1_method_9_code 46 = .ok (.invokevirtual 147, 3) := by decide +kernel
theorem d_X10_poll_49 : decode prog_1_method_9_code 49 = .ok (.ifCond .eq 7, 3) := by decide +kernel
theorem d_X10_poll_52 : decode prog_1_method_9_code 52 = .ok (.iconst 1, 1) := by decide +kernel
theorem d_X10_poll_53 : decode prog_1_method_9_code 53 = .ok (.goto 4, 3) := by decide +kernel
theorem d_X10_poll_56 : decode prog_1_method_9_code 56 = .ok (.iconst 0, 1) := by decide +kernel
theorem d_X10_poll_57 : decode prog_1_method_9_code 57 = .ok (.istore 5, 2) := by decide +kernel
theorem d_X10_poll_59 : decode prog_1_method_9_code 59 = .ok (.iload 5, 2) := by decide +kernel
theorem d_X10_poll_61 : decode prog_1_method_9_code 61 = .ok (.ifCond .eq 28, 3) := by decide +kernel
theorem d_X10_poll_64 : decode prog_1_method_9_code 64 = .ok (.aload_n 2, 1) := by decide +kernel
theorem d_X10_poll_65 : decode prog_1_method_9_code 65 = .ok (.ifnull 21, 3) := by decide +kernel
theorem d_X10_poll_68 : decode prog_1_method_9_code 68 = .ok (.aload 4, 2) := by decide +kernel
theorem d_X10_poll_70 : decode prog_1_method_9_code 70 = .ok (.getfield 151, 3) := by decide +kernel
theorem d_X10_poll_73 : decode prog_1_method_9_code 73 = .ok (.getfield 155, 3) := by decide +kernel
theorem d_X10_poll_76 : decode prog_1_method_9_code 76 = .ok (.aload_n 2, 1) := by decide +kernel
theorem d_X10_poll_77 : decode prog_1_method_9_code 77 = .ok (.getfield 151, 3) := by decide +kernel
theorem d_X10_poll_80 : decode prog_1_method_9_code 80 = .ok (.getfield 155, 3) := by decide +kernel
theorem d_X10_poll_83 : decode prog_1_method_9_code 83 = .ok (.if_icmp .ge 6, 3) := by decide +kernel
theorem d_X10_poll_86 : decode prog_1_method_9_code 86 = .ok (.aload 4, 2) := by decide +kernel
theorem d_X10_poll_88 : decode prog_1_method_9_code 88 = .ok (.astore_n 2, 1) := by decide +kernel
theorem d_X10_poll_89 : decode prog_1_method_9_code 89 = .ok (.iinc 3 1, 3) := by decide +kernel
theorem d_X10_poll_92 : decode prog_1_method_9_code 92 = .ok (.goto (-88), 3) := by decide +kernel
theorem d_X10_poll_95 : decode prog_1_method_9_code 95 = .ok (.aload_n 2, 1) := by decide +kernel
theorem d_X10_poll_96 : decode prog_1_method_9_code 96 = .ok (.ifnonnull 5, 3) := by decide +kernel
theorem d_X10_poll_99 : decode prog_1_method_9_code 99 = .ok (.iconst (-1), 1) := by decide +kernel
theorem d_X10_poll_100 : decode prog_1_method_9_code 100 = .ok (.ireturn, 1) := by decide +kernel
theorem d_X10_poll_101 : decode prog_1_method_9_code 101 = .ok (.aload_n 0, 1) := by decide +kernel
theorem d_X10_poll_102 : decode prog_1_method_9_code 102 = .ok (.dup, 1) := by decide +kernel
theorem d_X10_poll_103 : decode prog_1_method_9_code 103 = .ok (.getfield 160, 3) := by decide +kernel
theorem d_X10_poll_106 : decode prog_1_method_9_code 106 = .ok (.iconst 1, 1) := by decide +kernel
theorem d_X10_poll_107 : decode prog_1_method_9_code 107 = .ok (.iadd, 1) := by decide +kernel
theorem d_X10_poll_108 : decode prog_1_method_9_code 108 = .ok (.putfield 160, 3) := by decide +kernel
theorem d_X10_poll_111 : decode prog_1_method_9_code 111 = .ok (.aload_n 2, 1) := by decide +kernel
theorem d_X10_poll_112 : decode prog_1_method_9_code 112 = .ok (.getfield 151, 3) := by decide +kernel
theorem d_X10_poll_115 : decode prog_1_method_9_code 115 = .ok (.aload_n 0, 1) := by decide +kernel
theorem d_X10_poll_116 : decode prog_1_method_9_code 116 = .ok (.getfield 160, 3) := by decide +kernel
theorem d_X10_poll_119 : decode prog_1_method_9_code 119 = .ok (.putfield 163, 3) := by decide +kernel
theorem d_X10_poll_122 : decode prog_1_method_9_code 122 = .ok (.aload_n 2, 1) := by decide +kernel
theorem d_X10_poll_123 : decode prog_1_method_9_code 123 = .ok (.getfield 151, 3) := by decide +kernel
theorem d_X10_poll_126 : decode prog_1_method_9_code 126 = .ok (.aload_n 0, 1) := by decide +kernel
theorem d_X10_poll_127 : decode prog_1_method_9_code 127 = .ok (.getfield 31, 3) := by decide +kernel
theorem d_X10_poll_130 : decode prog_1_method_9_code 130 = .ok (.getfield 144, 3) := by decide +kernel
theorem d_X10_poll_133 : decode prog_1_method_9_code 133 = .ok (.bipush 10, 2) := by decide +kernel
theorem d_X10_poll_135 : decode prog_1_method_9_code 135 = .ok (.iadd, 1) := by decide +kernel
theorem d_X10_poll_136 : decode prog_1_method_9_code 136 = .ok (.putfield 166, 3) := by decide +kernel
theorem d_X10_poll_139 : decode prog_1_method_9_code 139 = .ok (.aload_n 0, 1) := by decide +kernel
theorem d_X10_poll_140 : decode prog_1_method_9_code 140 = .ok (.getfield 160, 3) := by decide +kernel
theorem d_X10_poll_143 : decode prog_1_method_9_code 143 = .ok (.ireturn, 1) := by decide +kernel
abbrev Y_X10_leased : Yx := (⟨"TaskWeave", "leased", "(I)LTaskWeave$Workflow;"⟩, prog_1_method_25_code, 4, (some (.object "TaskWeave$Workflow")))
abbrev M_X10_leased : Mx := ("TaskWeave", prog_1_method_25_code, 4, false)
theorem yk_X10_leased : Yk Y_X10_leased 1 := ⟨by decide +kernel, by decide +kernel, ⟨by decide, by decide⟩, by decide +kernel, by decide, by decide +kernel⟩
theorem d_X10_leased_0 : decode prog_1_method_25_code 0 = .ok (.iconst 0, 1) := by decide +kernel
theorem d_X10_leased_1 : decode prog_1_method_25_code 1 = .ok (.istore_n 2, 1) := by decide +kernel
theorem d_X10_leased_2 : decode prog_1_method_25_code 2 = .ok (.iload_n 2, 1) := by decide +kernel
theorem d_X10_leased_3 : decode prog_1_method_25_code 3 = .ok (.bipush 64, 2) := by decide +kernel
theorem d_X10_leased_5 : decode prog_1_method_25_code 5 = .ok (.if_icmp .ge 36, 3) := by decide +kernel
theorem d_X10_leased_8 : decode prog_1_method_25_code 8 = .ok (.iload_n 1, 1) := by decide +kernel
theorem d_X10_leased_9 : decode prog_1_method_25_code 9 = .ok (.ifCond .le 32, 3) := by decide +kernel
theorem d_X10_leased_12 : decode prog_1_method_25_code 12 = .ok (.aload_n 0, 1) := by decide +kernel
theorem d_X10_leased_13 : decode prog_1_method_25_code 13 = .ok (.iload_n 2, 1) := by decide +kernel
theorem d_X10_leased_14 : decode prog_1_method_25_code 14 = .ok (.invokevirtual 111, 3) := by decide +kernel
theorem d_X10_leased_17 : decode prog_1_method_25_code 17 = .ok (.astore_n 3, 1) := by decide +kernel
theorem d_X10_leased_18 : decode prog_1_method_25_code 18 = .ok (.aload_n 3, 1) := by decide +kernel
theorem d_X10_leased_19 : decode prog_1_method_25_code 19 = .ok (.ifnull 16, 3) := by decide +kernel
theorem d_X10_leased_22 : decode prog_1_method_25_code 22 = .ok (.aload_n 3, 1) := by decide +kernel
theorem d_X10_leased_23 : decode prog_1_method_25_code 23 = .ok (.getfield 151, 3) := by decide +kernel
theorem d_X10_leased_26 : decode prog_1_method_25_code 26 = .ok (.getfield 163, 3) := by decide +kernel
theorem d_X10_leased_29 : decode prog_1_method_25_code 29 = .ok (.iload_n 1, 1) := by decide +kernel
theorem d_X10_leased_30 : decode prog_1_method_25_code 30 = .ok (.if_icmp .ne 5, 3) := by decide +kernel
theorem d_X10_leased_33 : decode prog_1_method_25_code 33 = .ok (.aload_n 3, 1) := by decide +kernel
theorem d_X10_leased_34 : decode prog_1_method_25_code 34 = .ok (.areturn, 1) := by decide +kernel
theorem d_X10_leased_35 : decode prog_1_method_25_code 35 = .ok (.iinc 2 1, 3) := by decide +kernel
theorem d_X10_leased_38 : decode prog_1_method_25_code 38 = .ok (.goto (-36), 3) := by decide +kernel
theorem d_X10_leased_41 : decode prog_1_method_25_code 41 = .ok (.aconst_null, 1) := by decide +kernel
theorem d_X10_leased_42 : decode prog_1_method_25_code 42 = .ok (.areturn, 1) := by decide +kernel
abbrev Y_X10_beat : Yx := (⟨"TaskWeave", "beat", "(I)Z"⟩, prog_1_method_10_code, 3, (some .boolean))
abbrev M_X10_beat : Mx := ("TaskWeave", prog_1_method_10_code, 3, false)
theorem yk_X10_beat : Yk Y_X10_beat 1 := ⟨by decide +kernel, by decide +kernel, ⟨by decide, by decide⟩, by decide +kernel, by decide, by decide +kernel⟩
theorem d_X10_beat_0 : decode prog_1_method_10_code 0 = .ok (.aload_n 0, 1) := by decide +kernel
theorem d_X10_beat_1 : decode prog_1_method_10_code 1 = .ok (.iload_n 1, 1) := by decide +kernel
theorem d_X10_beat_2 : decode prog_1_method_10_code 2 = .ok (.invokevirtual 169, 3) := by decide +kernel
theorem d_X10_beat_5 : decode prog_1_method_10_code 5 = .ok (.astore_n 2, 1) := by decide +kernel
theorem d_X10_beat_6 : decode prog_1_method_10_code 6 = .ok (.aload_n 2, 1) := by decide +kernel
theorem d_X10_beat_7 : decode prog_1_method_10_code 7 = .ok (.ifnonnull 5, 3) := by decide +kernel
theorem d_X10_beat_10 : decode prog_1_method_10_code 10 = .ok (.iconst 0, 1) := by decide +kernel
theorem d_X10_beat_11 : decode prog_1_method_10_code 11 = .ok (.ireturn, 1) := by decide +kernel
theorem d_X10_beat_12 : decode prog_1_method_10_code 12 = .ok (.aload_n 2, 1) := by decide +kernel
theorem d_X10_beat_13 : decode prog_1_method_10_code 13 = .ok (.getfield 151, 3) := by decide +kernel
theorem d_X10_beat_16 : decode prog_1_method_10_code 16 = .ok (.aload_n 0, 1) := by decide +kernel
theorem d_X10_beat_17 : decode prog_1_method_10_code 17 = .ok (.getfield 31, 3) := by decide +kernel
theorem d_X10_beat_20 : decode prog_1_method_10_code 20 = .ok (.getfield 144, 3) := by decide +kernel
theorem d_X10_beat_23 : decode prog_1_method_10_code 23 = .ok (.bipush 10, 2) := by decide +kernel
theorem d_X10_beat_25 : decode prog_1_method_10_code 25 = .ok (.iadd, 1) := by decide +kernel
theorem d_X10_beat_26 : decode prog_1_method_10_code 26 = .ok (.putfield 166, 3) := by decide +kernel
theorem d_X10_beat_29 : decode prog_1_method_10_code 29 = .ok (.iconst 1, 1) := by decide +kernel
theorem d_X10_beat_30 : decode prog_1_method_10_code 30 = .ok (.ireturn, 1) := by decide +kernel
abbrev Y_X10_task : Yx := (⟨"TaskWeave", "task", "(II)I"⟩, prog_1_method_13_code, 4, (some .int))
abbrev M_X10_task : Mx := ("TaskWeave", prog_1_method_13_code, 4, false)
theorem yk_X10_task : Yk Y_X10_task 2 := ⟨by decide +kernel, by decide +kernel, ⟨by decide, by decide⟩, by decide +kernel, by decide, by decide +kernel⟩
theorem d_X10_task_0 : decode prog_1_method_13_code 0 = .ok (.aload_n 0, 1) := by decide +kernel
theorem d_X10_task_1 : decode prog_1_method_13_code 1 = .ok (.iload_n 1, 1) := by decide +kernel
theorem d_X10_task_2 : decode prog_1_method_13_code 2 = .ok (.invokevirtual 169, 3) := by decide +kernel
theorem d_X10_task_5 : decode prog_1_method_13_code 5 = .ok (.astore_n 3, 1) := by decide +kernel
theorem d_X10_task_6 : decode prog_1_method_13_code 6 = .ok (.aload_n 3, 1) := by decide +kernel
theorem d_X10_task_7 : decode prog_1_method_13_code 7 = .ok (.ifnonnull 5, 3) := by decide +kernel
theorem d_X10_task_10 : decode prog_1_method_13_code 10 = .ok (.iconst (-1), 1) := by decide +kernel
theorem d_X10_task_11 : decode prog_1_method_13_code 11 = .ok (.ireturn, 1) := by decide +kernel
theorem d_X10_task_12 : decode prog_1_method_13_code 12 = .ok (.iload_n 2, 1) := by decide +kernel
theorem d_X10_task_13 : decode prog_1_method_13_code 13 = .ok (.tableswitch 60 0 3 #[31, 36, 44, 52], 31) := by decide +kernel
theorem d_X10_task_44 : decode prog_1_method_13_code 44 = .ok (.aload_n 3, 1) := by decide +kernel
theorem d_X10_task_45 : decode prog_1_method_13_code 45 = .ok (.getfield 89, 3) := by decide +kernel
theorem d_X10_task_48 : decode prog_1_method_13_code 48 = .ok (.ireturn, 1) := by decide +kernel
theorem d_X10_task_49 : decode prog_1_method_13_code 49 = .ok (.aload_n 3, 1) := by decide +kernel
theorem d_X10_task_50 : decode prog_1_method_13_code 50 = .ok (.getfield 151, 3) := by decide +kernel
theorem d_X10_task_53 : decode prog_1_method_13_code 53 = .ok (.getfield 176, 3) := by decide +kernel
theorem d_X10_task_56 : decode prog_1_method_13_code 56 = .ok (.ireturn, 1) := by decide +kernel
theorem d_X10_task_57 : decode prog_1_method_13_code 57 = .ok (.aload_n 3, 1) := by decide +kernel
theorem d_X10_task_58 : decode prog_1_method_13_code 58 = .ok (.getfield 151, 3) := by decide +kernel
theorem d_X10_task_61 : decode prog_1_method_13_code 61 = .ok (.getfield 179, 3) := by decide +kernel
theorem d_X10_task_64 : decode prog_1_method_13_code 64 = .ok (.ireturn, 1) := by decide +kernel
theorem d_X10_task_65 : decode prog_1_method_13_code 65 = .ok (.aload_n 3, 1) := by decide +kernel
theorem d_X10_task_66 : decode prog_1_method_13_code 66 = .ok (.getfield 151, 3) := by decide +kernel
theorem d_X10_task_69 : decode prog_1_method_13_code 69 = .ok (.getfield 166, 3) := by decide +kernel
theorem d_X10_task_72 : decode prog_1_method_13_code 72 = .ok (.ireturn, 1) := by decide +kernel
theorem d_X10_task_73 : decode prog_1_method_13_code 73 = .ok (.iconst (-1), 1) := by decide +kernel
theorem d_X10_task_74 : decode prog_1_method_13_code 74 = .ok (.ireturn, 1) := by decide +kernel
abbrev Y_X10_replicas : Yx := (⟨"TaskWeave", "replicas", "(II)Z"⟩, prog_1_method_15_code, 3, (some .boolean))
abbrev M_X10_replicas : Mx := ("TaskWeave", prog_1_method_15_code, 3, false)
theorem yk_X10_replicas : Yk Y_X10_replicas 2 := ⟨by decide +kernel, by decide +kernel, ⟨by decide, by decide⟩, by decide +kernel, by decide, by decide +kernel⟩
theorem d_X10_replicas_0 : decode prog_1_method_15_code 0 = .ok (.iload_n 1, 1) := by decide +kernel
theorem d_X10_replicas_1 : decode prog_1_method_15_code 1 = .ok (.ifCond .lt 18, 3) := by decide +kernel
theorem d_X10_replicas_4 : decode prog_1_method_15_code 4 = .ok (.iload_n 1, 1) := by decide +kernel
theorem d_X10_replicas_5 : decode prog_1_method_15_code 5 = .ok (.iconst 4, 1) := by decide +kernel
theorem d_X10_replicas_6 : decode prog_1_method_15_code 6 = .ok (.if_icmp .ge 13, 3) := by decide +kernel
theorem d_X10_replicas_9 : decode prog_1_method_15_code 9 = .ok (.iload_n 2, 1) := by decide +kernel
theorem d_X10_replicas_10 : decode prog_1_method_15_code 10 = .ok (.iconst 3, 1) := by decide +kernel
theorem d_X10_replicas_11 : decode prog_1_method_15_code 11 = .ok (.if_icmp .lt 8, 3) := by decide +kernel
theorem d_X10_replicas_14 : decode prog_1_method_15_code 14 = .ok (.iload_n 2, 1) := by decide +kernel
theorem d_X10_replicas_15 : decode prog_1_method_15_code 15 = .ok (.iconst 5, 1) := by decide +kernel
theorem d_X10_replicas_16 : decode prog_1_method_15_code 16 = .ok (.if_icmp .le 5, 3) := by decide +kernel
theorem d_X10_replicas_19 : decode prog_1_method_15_code 19 = .ok (.iconst 0, 1) := by decide +kernel
theorem d_X10_replicas_20 : decode prog_1_method_15_code 20 = .ok (.ireturn, 1) := by decide +kernel
theorem d_X10_replicas_21 : decode prog_1_method_15_code 21 = .ok (.aload_n 0, 1) := by decide +kernel
theorem d_X10_replicas_22 : decode prog_1_method_15_code 22 = .ok (.getfield 18, 3) := by decide +kernel
theorem d_X10_replicas_25 : decode prog_1_method_15_code 25 = .ok (.iload_n 1, 1) := by decide +kernel
theorem d_X10_replicas_26 : decode prog_1_method_15_code 26 = .ok (.aaload, 1) := by decide +kernel
theorem d_X10_replicas_27 : decode prog_1_method_15_code 27 = .ok (.iload_n 2, 1) := by decide +kernel
theorem d_X10_replicas_28 : decode prog_1_method_15_code 28 = .ok (.invokevirtual 199, 3) := by decide +kernel
theorem d_X10_replicas_31 : decode prog_1_method_15_code 31 = .ok (.ireturn, 1) := by decide +kernel
abbrev Y_X10_findReplica : Yx := (⟨"TaskWeave", "findReplica", "(II)LTaskWeave$Replica;"⟩, prog_1_method_24_code, 3, (some (.object "TaskWeave$Replica")))
abbrev M_X10_findReplica : Mx := ("TaskWeave", prog_1_method_24_code, 3, false)
theorem yk_X10_findReplica : Yk Y_X10_findReplica 2 := ⟨by decide +kernel, by decide +kernel, ⟨by decide, by decide⟩, by decide +kernel, by decide, by decide +kernel⟩
theorem d_X10_findReplica_0 : decode prog_1_method_24_code 0 = .ok (.iload_n 1, 1) := by decide +kernel
theorem d_X10_findReplica_1 : decode prog_1_method_24_code 1 = .ok (.ifCond .lt 25, 3) := by decide +kernel
theorem d_X10_findReplica_4 : decode prog_1_method_24_code 4 = .ok (.iload_n 1, 1) := by decide +kernel
theorem d_X10_findReplica_5 : decode prog_1_method_24_code 5 = .ok (.iconst 4, 1) := by decide +kernel
theorem d_X10_findReplica_6 : decode prog_1_method_24_code 6 = .ok (.if_icmp .ge 20, 3) := by decide +kernel
theorem d_X10_findReplica_9 : decode prog_1_method_24_code 9 = .ok (.iload_n 2, 1) := by decide +kernel
theorem d_X10_findReplica_10 : decode prog_1_method_24_code 10 = .ok (.ifCond .lt 16, 3) := by decide +kernel
theorem d_X10_findReplica_13 : decode prog_1_method_24_code 13 = .ok (.iload_n 2, 1) := by decide +kernel
theorem d_X10_findReplica_14 : decode prog_1_method_24_code 14 = .ok (.aload_n 0, 1) := by decide +kernel
theorem d_X10_findReplica_15 : decode prog_1_method_24_code 15 = .ok (.getfield 18, 3) := by decide +kernel
theorem d_X10_findReplica_18 : decode prog_1_method_24_code 18 = .ok (.iload_n 1, 1) := by decide +kernel
theorem d_X10_findReplica_19 : decode prog_1_method_24_code 19 = .ok (.aaload, 1) := by decide +kernel
theorem d_X10_findReplica_20 : decode prog_1_method_24_code 20 = .ok (.getfield 264, 3) := by decide +kernel
theorem d_X10_findReplica_23 : decode prog_1_method_24_code 23 = .ok (.if_icmp .lt 7, 3) := by decide +kernel
theorem d_X10_findReplica_26 : decode prog_1_method_24_code 26 = .ok (.aconst_null, 1) := by decide +kernel
theorem d_X10_findReplica_27 : decode prog_1_method_24_code 27 = .ok (.goto 14, 3) := by decide +kernel
theorem d_X10_findReplica_30 : decode prog_1_method_24_code 30 = .ok (.aload_n 0, 1) := by decide +kernel
theorem d_X10_findReplica_31 : decode prog_1_method_24_code 31 = .ok (.getfield 18, 3) := by decide +kernel
theorem d_X10_findReplica_34 : decode prog_1_method_24_code 34 = .ok (.iload_n 1, 1) := by decide +kernel
theorem d_X10_findReplica_35 : decode prog_1_method_24_code 35 = .ok (.aaload, 1) := by decide +kernel
theorem d_X10_findReplica_36 : decode prog_1_method_24_code 36 = .ok (.getfield 283, 3) := by decide +kernel
theorem d_X10_findReplica_39 : decode prog_1_method_24_code 39 = .ok (.iload_n 2, 1) := by decide +kernel
theorem d_X10_findReplica_40 : decode prog_1_method_24_code 40 = .ok (.aaload, 1) := by decide +kernel
theorem d_X10_findReplica_41 : decode prog_1_method_24_code 41 = .ok (.areturn, 1) := by decide +kernel
abbrev Y_X10_fuse : Yx := (⟨"TaskWeave", "fuse", "(III)Z"⟩, prog_1_method_17_code, 5, (some .boolean))
abbrev M_X10_fuse : Mx := ("TaskWeave", prog_1_method_17_code, 5, false)
theorem yk_X10_fuse : Yk Y_X10_fuse 3 := ⟨by decide +kernel, by decide +kernel, ⟨by decide, by decide⟩, by decide +kernel, by decide, by decide +kernel⟩
theorem d_X10_fuse_0 : decode prog_1_method_17_code 0 = .ok (.aload_n 0, 1) := by decide +kernel
theorem d_X10_fuse_1 : decode prog_1_method_17_code 1 = .ok (.iload_n 1, 1) := by decide +kernel
theorem d_X10_fuse_2 : decode prog_1_method_17_code 2 = .ok (.iload_n 2, 1) := by decide +kernel
theorem d_X10_fuse_3 : decode prog_1_method_17_code 3 = .ok (.invokevirtual 202, 3) := by decide +kernel
theorem d_X10_fuse_6 : decode prog_1_method_17_code 6 = .ok (.astore 4, 2) := by decide +kernel
theorem d_X10_fuse_8 : decode prog_1_method_17_code 8 = .ok (.aload 4, 2) := by decide +kernel
theorem d_X10_fuse_10 : decode prog_1_method_17_code 10 = .ok (.ifnull 21, 3) := by decide +kernel
theorem d_X10_fuse_13 : decode prog_1_method_17_code 13 = .ok (.aload 4, 2) := by decide +kernel
theorem d_X10_fuse_15 : decode prog_1_method_17_code 15 = .ok (.getfield 206, 3) := by decide +kernel
theorem d_X10_fuse_18 : decode prog_1_method_17_code 18 = .ok (.ifCond .eq 13, 3) := by decide +kernel
theorem d_X10_fuse_21 : decode prog_1_method_17_code 21 = .ok (.iload_n 3, 1) := by decide +kernel
theorem d_X10_fuse_22 : decode prog_1_method_17_code 22 = .ok (.ifCond .lt 9, 3) := by decide +kernel
theorem d_X10_fuse_25 : decode prog_1_method_17_code 25 = .ok (.iload_n 3, 1) := by decide +kernel
theorem d_X10_fuse_26 : decode prog_1_method_17_code 26 = .ok (.ldc 219, 2) := by decide +kernel
theorem d_X10_fuse_28 : decode prog_1_method_17_code 28 = .ok (.if_icmp .le 5, 3) := by decide +kernel
theorem d_X10_fuse_31 : decode prog_1_method_17_code 31 = .ok (.iconst 0, 1) := by decide +kernel
theorem d_X10_fuse_32 : decode prog_1_method_17_code 32 = .ok (.ireturn, 1) := by decide +kernel
theorem d_X10_fuse_33 : decode prog_1_method_17_code 33 = .ok (.aload 4, 2) := by decide +kernel
theorem d_X10_fuse_35 : decode prog_1_method_17_code 35 = .ok (.iload_n 3, 1) := by decide +kernel
theorem d_X10_fuse_36 : decode prog_1_method_17_code 36 = .ok (.putfield 220, 3) := by decide +kernel
theorem d_X10_fuse_39 : decode prog_1_method_17_code 39 = .ok (.iconst 1, 1) := by decide +kernel
theorem d_X10_fuse_40 : decode prog_1_method_17_code 40 = .ok (.ireturn, 1) := by decide +kernel
abbrev Y_X10_workflow : Yx := (⟨"TaskWeave", "workflow", "(II)I"⟩, prog_1_method_18_code, 4, (some .int))
abbrev M_X10_workflow : Mx := ("TaskWeave", prog_1_method_18_code, 4, false)
theorem yk_X10_workflow : Yk Y_X10_workflow 2 := ⟨by decide +kernel, by decide +kernel, ⟨by decide, by decide⟩, by decide +kernel, by decide, by decide +kernel⟩
theorem d_X10_workflow_0 : decode prog_1_method_18_code 0 = .ok (.aload_n 0, 1) := by decide +kernel
theorem d_X10_workflow_1 : decode prog_1_method_18_code 1 = .ok (.iload_n 1, 1) := by decide +kernel
theorem d_X10_workflow_2 : decode prog_1_method_18_code 2 = .ok (.invokevirtual 111, 3) := by decide +kernel
theorem d_X10_workflow_5 : decode prog_1_method_18_code 5 = .ok (.astore_n 3, 1) := by decide +kernel
theorem d_X10_workflow_6 : decode prog_1_method_18_code 6 = .ok (.aload_n 3, 1) := by decide +kernel
theorem d_X10_workflow_7 : decode prog_1_method_18_code 7 = .ok (.ifnonnull 5, 3) := by decide +kernel
theorem d_X10_workflow_10 : decode prog_1_method_18_code 10 = .ok (.iconst (-1), 1) := by decide +kernel
theorem d_X10_workflow_11 : decode prog_1_method_18_code 11 = .ok (.ireturn, 1) := by decide +kernel
theorem d_X10_workflow_12 : decode prog_1_method_18_code 12 = .ok (.iload_n 2, 1) := by decide +kernel
theorem d_X10_workflow_13 : decode prog_1_method_18_code 13 = .ok (.tableswitch 106 0 6 #[43, 48, 53, 61, 74, 79, 101], 43) := by decide +kernel
theorem d_X10_workflow_56 : decode prog_1_method_18_code 56 = .ok (.aload_n 3, 1) := by decide +kernel
theorem d_X10_workflow_57 : decode prog_1_method_18_code 57 = .ok (.getfield 123, 3) := by decide +kernel
theorem d_X10_workflow_60 : decode prog_1_method_18_code 60 = .ok (.ireturn, 1) := by decide +kernel
theorem d_X10_workflow_61 : decode prog_1_method_18_code 61 = .ok (.aload_n 3, 1) := by decide +kernel
theorem d_X10_workflow_62 : decode prog_1_method_18_code 62 = .ok (.getfield 223, 3) := by decide +kernel
theorem d_X10_workflow_65 : decode prog_1_method_18_code 65 = .ok (.ireturn, 1) := by decide +kernel
theorem d_X10_workflow_66 : decode prog_1_method_18_code 66 = .ok (.aload_n 3, 1) := by decide +kernel
theorem d_X10_workflow_67 : decode prog_1_method_18_code 67 = .ok (.getfield 114, 3) := by decide +kernel
theorem d_X10_workflow_70 : decode prog_1_method_18_code 70 = .ok (.getfield 226, 3) := by decide +kernel
theorem d_X10_workflow_73 : decode prog_1_method_18_code 73 = .ok (.ireturn, 1) := by decide +kernel
theorem d_X10_workflow_74 : decode prog_1_method_18_code 74 = .ok (.aload_n 3, 1) := by decide +kernel
theorem d_X10_workflow_75 : decode prog_1_method_18_code 75 = .ok (.getfield 114, 3) := by decide +kernel
theorem d_X10_workflow_78 : decode prog_1_method_18_code 78 = .ok (.getfield 229, 3) := by decide +kernel
theorem d_X10_workflow_81 : decode prog_1_method_18_code 81 = .ok (.iconst 0, 1) := by decide +kernel
theorem d_X10_workflow_82 : decode prog_1_method_18_code 82 = .ok (.iaload, 1) := by decide +kernel
theorem d_X10_workflow_83 : decode prog_1_method_18_code 83 = .ok (.bipush 8, 2) := by decide +kernel
theorem d_X10_workflow_85 : decode prog_1_method_18_code 85 = .ok (.irem, 1) := by decide +kernel
theorem d_X10_workflow_86 : decode prog_1_method_18_code 86 = .ok (.ireturn, 1) := by decide +kernel
theorem d_X10_workflow_87 : decode prog_1_method_18_code 87 = .ok (.aload_n 3, 1) := by decide +kernel
theorem d_X10_workflow_88 : decode prog_1_method_18_code 88 = .ok (.getfield 232, 3) := by decide +kernel
theorem d_X10_workflow_91 : decode prog_1_method_18_code 91 = .ok (.ireturn, 1) := by decide +kernel
theorem d_X10_workflow_92 : decode prog_1_method_18_code 92 = .ok (.aload_n 3, 1) := by decide +kernel
theorem d_X10_workflow_93 : decode prog_1_method_18_code 93 = .ok (.getfield 114, 3) := by decide +kernel
theorem d_X10_workflow_96 : decode prog_1_method_18_code 96 = .ok (.bipush 8, 2) := by decide +kernel
theorem d_X10_workflow_98 : decode prog_1_method_18_code 98 = .ok (.aload_n 3, 1) := by decide +kernel
theorem d_X10_workflow_99 : decode prog_1_method_18_code 99 = .ok (.getfield 114, 3) := by decide +kernel
theorem d_X10_workflow_102 : decode prog_1_method_18_code 102 = .ok (.getfield 226, 3) := by decide +kernel
theorem d_X10_workflow_105 : decode prog_1_method_18_code 105 = .ok (.invokevirtual 235, 3) := by decide +kernel
theorem d_X10_workflow_108 : decode prog_1_method_18_code 108 = .ok (.aload_n 3, 1) := by decide +kernel
theorem d_X10_workflow_109 : decode prog_1_method_18_code 109 = .ok (.getfield 238, 3) := by decide +kernel
theorem d_X10_workflow_112 : decode prog_1_method_18_code 112 = .ok (.isub, 1) := by decide +kernel
theorem d_X10_workflow_113 : decode prog_1_method_18_code 113 = .ok (.ireturn, 1) := by decide +kernel
theorem d_X10_workflow_114 : decode prog_1_method_18_code 114 = .ok (.aload_n 3, 1) := by decide +kernel
theorem d_X10_workflow_115 : decode prog_1_method_18_code 115 = .ok (.invokevirtual 241, 3) := by decide +kernel
theorem d_X10_workflow_118 : decode prog_1_method_18_code 118 = .ok (.ireturn, 1) := by decide +kernel
theorem d_X10_workflow_119 : decode prog_1_method_18_code 119 = .ok (.iconst (-1), 1) := by decide +kernel
theorem d_X10_workflow_120 : decode prog_1_method_18_code 120 = .ok (.ireturn, 1) := by decide +kernel
abbrev Y_X10_shard : Yx := (⟨"TaskWeave", "shard", "(II)I"⟩, prog_1_method_20_code, 3, (some .int))
abbrev M_X10_shard : Mx := ("TaskWeave", prog_1_method_20_code, 3, false)
theorem yk_X10_shard : Yk Y_X10_shard 2 := ⟨by decide +kernel, by decide +kernel, ⟨by decide, by decide⟩, by decide +kernel, by decide, by decide +kernel⟩
theorem d_X10_shard_0 : decode prog_1_method_20_code 0 = .ok (.iload_n 1, 1) := by decide +kernel
theorem d_X10_shard_1 : decode prog_1_method_20_code 1 = .ok (.ifCond .lt 8, 3) := by decide +kernel
theorem d_X10_shard_4 : decode prog_1_method_20_code 4 = .ok (.iload_n 1, 1) := by decide +kernel
theorem d_X10_shard_5 : decode prog_1_method_20_code 5 = .ok (.iconst 4, 1) := by decide +kernel
theorem d_X10_shard_6 : decode prog_1_method_20_code 6 = .ok (.if_icmp .lt 5, 3) := by decide +kernel
theorem d_X10_shard_9 : decode prog_1_method_20_code 9 = .ok (.iconst (-1), 1) := by decide +kernel
theorem d_X10_shard_10 : decode prog_1_method_20_code 10 = .ok (.ireturn, 1) := by decide +kernel
theorem d_X10_shard_11 : decode prog_1_method_20_code 11 = .ok (.iload_n 2, 1) := by decide +kernel
theorem d_X10_shard_12 : decode prog_1_method_20_code 12 = .ok (.tableswitch 119 0 6 #[44, 54, 64, 74, 84, 97, 108], 44) := by decide +kernel
theorem d_X10_shard_56 : decode prog_1_method_20_code 56 = .ok (.aload_n 0, 1) := by decide +kernel
theorem d_X10_shard_57 : decode prog_1_method_20_code 57 = .ok (.getfield 18, 3) := by decide +kernel
theorem d_X10_shard_60 : decode prog_1_method_20_code 60 = .ok (.iload_n 1, 1) := by decide +kernel
theorem d_X10_shard_61 : decode prog_1_method_20_code 61 = .ok (.aaload, 1) := by decide +kernel
theorem d_X10_shard_62 : decode prog_1_method_20_code 62 = .ok (.getfield 258, 3) := by decide +kernel
theorem d_X10_shard_65 : decode prog_1_method_20_code 65 = .ok (.ireturn, 1) := by decide +kernel
theorem d_X10_shard_66 : decode prog_1_method_20_code 66 = .ok (.aload_n 0, 1) := by decide +kernel
theorem d_X10_shard_67 : decode prog_1_method_20_code 67 = .ok (.getfield 18, 3) := by decide +kernel
theorem d_X10_shard_70 : decode prog_1_method_20_code 70 = .ok (.iload_n 1, 1) := by decide +kernel
theorem d_X10_shard_71 : decode prog_1_method_20_code 71 = .ok (.aaload, 1) := by decide +kernel
theorem d_X10_shard_72 : decode prog_1_method_20_code 72 = .ok (.getfield 261, 3) := by decide +kernel
theorem d_X10_shard_75 : decode prog_1_method_20_code 75 = .ok (.ireturn, 1) := by decide +kernel
theorem d_X10_shard_76 : decode prog_1_method_20_code 76 = .ok (.aload_n 0, 1) := by decide +kernel
theorem d_X10_shard_77 : decode prog_1_method_20_code 77 = .ok (.getfield 18, 3) := by decide +kernel
theorem d_X10_shard_80 : decode prog_1_method_20_code 80 = .ok (.iload_n 1, 1) := by decide +kernel
theorem d_X10_shard_81 : decode prog_1_method_20_code 81 = .ok (.aaload, 1) := by decide +kernel
theorem d_X10_shard_82 : decode prog_1_method_20_code 82 = .ok (.getfield 264, 3) := by decide +kernel
theorem d_X10_shard_85 : decode prog_1_method_20_code 85 = .ok (.ireturn, 1) := by decide +kernel
theorem d_X10_shard_86 : decode prog_1_method_20_code 86 = .ok (.aload_n 0, 1) := by decide +kernel
theorem d_X10_shard_87 : decode prog_1_method_20_code 87 = .ok (.getfield 18, 3) := by decide +kernel
theorem d_X10_shard_90 : decode prog_1_method_20_code 90 = .ok (.iload_n 1, 1) := by decide +kernel
theorem d_X10_shard_91 : decode prog_1_method_20_code 91 = .ok (.aaload, 1) := by decide +kernel
theorem d_X10_shard_92 : decode prog_1_method_20_code 92 = .ok (.getfield 101, 3) := by decide +kernel
theorem d_X10_shard_95 : decode prog_1_method_20_code 95 = .ok (.ireturn, 1) := by decide +kernel
theorem d_X10_shard_96 : decode prog_1_method_20_code 96 = .ok (.aload_n 0, 1) := by decide +kernel
theorem d_X10_shard_97 : decode prog_1_method_20_code 97 = .ok (.getfield 18, 3) := by decide +kernel
theorem d_X10_shard_100 : decode prog_1_method_20_code 100 = .ok (.iload_n 1, 1) := by decide +kernel
theorem d_X10_shard_101 : decode prog_1_method_20_code 101 = .ok (.aaload, 1) := by decide +kernel
theorem d_X10_shard_102 : decode prog_1_method_20_code 102 = .ok (.getfield 265, 3) := by decide +kernel
theorem d_X10_shard_105 : decode prog_1_method_20_code 105 = .ok (.getfield 269, 3) := by decide +kernel
theorem d_X10_shard_108 : decode prog_1_method_20_code 108 = .ok (.ireturn, 1) := by decide +kernel
theorem d_X10_shard_109 : decode prog_1_method_20_code 109 = .ok (.aload_n 0, 1) := by decide +kernel
theorem d_X10_shard_110 : decode prog_1_method_20_code 110 = .ok (.getfield 18, 3) := by decide +kernel
theorem d_X10_shard_113 : decode prog_1_method_20_code 113 = .ok (.iload_n 1, 1) := by decide +kernel
theorem d_X10_shard_114 : decode prog_1_method_20_code 114 = .ok (.aaload, 1) := by decide +kernel
theorem d_X10_shard_115 : decode prog_1_method_20_code 115 = .ok (.iconst 0, 1) := by decide +kernel
theorem d_X10_shard_116 : decode prog_1_method_20_code 116 = .ok (.invokevirtual 272, 3) := by decide +kernel
theorem d_X10_shard_119 : decode prog_1_method_20_code 119 = .ok (.ireturn, 1) := by decide +kernel
theorem d_X10_shard_120 : decode prog_1_method_20_code 120 = .ok (.aload_n 0, 1) := by decide +kernel
theorem d_X10_shard_121 : decode prog_1_method_20_code 121 = .ok (.getfield 18, 3) := by decide +kernel
theorem d_X10_shard_124 : decode prog_1_method_20_code 124 = .ok (.iload_n 1, 1) := by decide +kernel
theorem d_X10_shard_125 : decode prog_1_method_20_code 125 = .ok (.aaload, 1) := by decide +kernel
theorem d_X10_shard_126 : decode prog_1_method_20_code 126 = .ok (.iconst 1, 1) := by decide +kernel
theorem d_X10_shard_127 : decode prog_1_method_20_code 127 = .ok (.invokevirtual 272, 3) := by decide +kernel
theorem d_X10_shard_130 : decode prog_1_method_20_code 130 = .ok (.ireturn, 1) := by decide +kernel
theorem d_X10_shard_131 : decode prog_1_method_20_code 131 = .ok (.iconst (-1), 1) := by decide +kernel
theorem d_X10_shard_132 : decode prog_1_method_20_code 132 = .ok (.ireturn, 1) := by decide +kernel
abbrev Y_X10_replica : Yx := (⟨"TaskWeave", "replica", "(III)I"⟩, prog_1_method_21_code, 5, (some .int))
abbrev M_X10_replica : Mx := ("TaskWeave", prog_1_method_21_code, 5, false)
theorem yk_X10_replica : Yk Y_X10_replica 3 := ⟨by decide +kernel, by decide +kernel, ⟨by decide, by decide⟩, by decide +kernel, by decide, by decide +kernel⟩
theorem d_X10_replica_0 : decode prog_1_method_21_code 0 = .ok (.aload_n 0, 1) := by decide +kernel
theorem d_X10_replica_1 : decode prog_1_method_21_code 1 = .ok (.iload_n 1, 1) := by decide +kernel
theorem d_X10_replica_2 : decode prog_1_method_21_code 2 = .ok (.iload_n 2, 1) := by decide +kernel
theorem d_X10_replica_3 : decode prog_1_method_21_code 3 = .ok (.invokevirtual 202, 3) := by decide +kernel
theorem d_X10_replica_6 : decode prog_1_method_21_code 6 = .ok (.astore 4, 2) := by decide +kernel
theorem d_X10_replica_8 : decode prog_1_method_21_code 8 = .ok (.aload 4, 2) := by decide +kernel
theorem d_X10_replica_10 : decode prog_1_method_21_code 10 = .ok (.ifnonnull 5, 3) := by decide +kernel
theorem d_X10_replica_13 : decode prog_1_method_21_code 13 = .ok (.iconst (-1), 1) := by decide +kernel
theorem d_X10_replica_14 : decode prog_1_method_21_code 14 = .ok (.ireturn, 1) := by decide +kernel
theorem d_X10_replica_15 : decode prog_1_method_21_code 15 = .ok (.iload_n 3, 1) := by decide +kernel
theorem d_X10_replica_16 : decode prog_1_method_21_code 16 = .ok (.tableswitch 70 0 3 #[32, 46, 55, 64], 32) := by decide +kernel
theorem d_X10_replica_48 : decode prog_1_method_21_code 48 = .ok (.aload 4, 2) := by decide +kernel
theorem d_X10_replica_50 : decode prog_1_method_21_code 50 = .ok (.getfield 206, 3) := by decide +kernel
theorem d_X10_replica_53 : decode prog_1_method_21_code 53 = .ok (.ifCond .eq 7, 3) := by decide +kernel
theorem d_X10_replica_56 : decode prog_1_method_21_code 56 = .ok (.iconst 1, 1) := by decide +kernel
theorem d_X10_replica_57 : decode prog_1_method_21_code 57 = .ok (.goto 4, 3) := by decide +kernel
theorem d_X10_replica_60 : decode prog_1_method_21_code 60 = .ok (.iconst 0, 1) := by decide +kernel
theorem d_X10_replica_61 : decode prog_1_method_21_code 61 = .ok (.ireturn, 1) := by decide +kernel
theorem d_X10_replica_62 : decode prog_1_method_21_code 62 = .ok (.aload 4, 2) := by decide +kernel
theorem d_X10_replica_64 : decode prog_1_method_21_code 64 = .ok (.getfield 276, 3) := by decide +kernel
theorem d_X10_replica_67 : decode prog_1_method_21_code 67 = .ok (.bipush 16, 2) := by decide +kernel
theorem d_X10_replica_69 : decode prog_1_method_21_code 69 = .ok (.idiv, 1) := by decide +kernel
theorem d_X10_replica_70 : decode prog_1_method_21_code 70 = .ok (.ireturn, 1) := by decide +kernel
theorem d_X10_replica_71 : decode prog_1_method_21_code 71 = .ok (.aload 4, 2) := by decide +kernel
theorem d_X10_replica_73 : decode prog_1_method_21_code 73 = .ok (.getfield 276, 3) := by decide +kernel
theorem d_X10_replica_76 : decode prog_1_method_21_code 76 = .ok (.bipush 16, 2) := by decide +kernel
theorem d_X10_replica_78 : decode prog_1_method_21_code 78 = .ok (.irem, 1) := by decide +kernel
theorem d_X10_replica_79 : decode prog_1_method_21_code 79 = .ok (.ireturn, 1) := by decide +kernel
theorem d_X10_replica_80 : decode prog_1_method_21_code 80 = .ok (.aload 4, 2) := by decide +kernel
theorem d_X10_replica_82 : decode prog_1_method_21_code 82 = .ok (.getfield 220, 3) := by decide +kernel
theorem d_X10_replica_85 : decode prog_1_method_21_code 85 = .ok (.ireturn, 1) := by decide +kernel
theorem d_X10_replica_86 : decode prog_1_method_21_code 86 = .ok (.iconst (-1), 1) := by decide +kernel
theorem d_X10_replica_87 : decode prog_1_method_21_code 87 = .ok (.ireturn, 1) := by decide +kernel
abbrev Y_X10_disk : Yx := (⟨"TaskWeave", "disk", "(IIII)I"⟩, prog_1_method_22_code, 7, (some .int))
abbrev M_X10_disk : Mx := ("TaskWeave", prog_1_method_22_code, 7, false)
theorem yk_X10_disk : Yk Y_X10_disk 4 := ⟨by decide +kernel, by decide +kernel, ⟨by decide, by decide⟩, by decide +kernel, by decide, by decide +kernel⟩
theorem d_X10_disk_0 : decode prog_1_method_22_code 0 = .ok (.aload_n 0, 1) := by decide +kernel
theorem d_X10_disk_1 : decode prog_1_method_22_code 1 = .ok (.iload_n 1, 1) := by decide +kernel
theorem d_X10_disk_2 : decode prog_1_method_22_code 2 = .ok (.iload_n 2, 1) := by decide +kernel
theorem d_X10_disk_3 : decode prog_1_method_22_code 3 = .ok (.invokevirtual 202, 3) := by decide +kernel
theorem d_X10_disk_6 : decode prog_1_method_22_code 6 = .ok (.astore 5, 2) := by decide +kernel
theorem d_X10_disk_8 : decode prog_1_method_22_code 8 = .ok (.aload 5, 2) := by decide +kernel
theorem d_X10_disk_10 : decode prog_1_method_22_code 10 = .ok (.ifnull 20, 3) := by decide +kernel
theorem d_X10_disk_13 : decode prog_1_method_22_code 13 = .ok (.iload_n 3, 1) := by decide +kernel
theorem d_X10_disk_14 : decode prog_1_method_22_code 14 = .ok (.ifCond .lt 16, 3) := by decide +kernel
theorem d_X10_disk_17 : decode prog_1_method_22_code 17 = .ok (.iload 4, 2) := by decide +kernel
theorem d_X10_disk_19 : decode prog_1_method_22_code 19 = .ok (.ifCond .lt 11, 3) := by decide +kernel
theorem d_X10_disk_22 : decode prog_1_method_22_code 22 = .ok (.iload 4, 2) := by decide +kernel
theorem d_X10_disk_24 : decode prog_1_method_22_code 24 = .ok (.sipush 512, 3) := by decide +kernel
theorem d_X10_disk_27 : decode prog_1_method_22_code 27 = .ok (.if_icmp .lt 5, 3) := by decide +kernel
theorem d_X10_disk_30 : decode prog_1_method_22_code 30 = .ok (.iconst (-1), 1) := by decide +kernel
theorem d_X10_disk_31 : decode prog_1_method_22_code 31 = .ok (.ireturn, 1) := by decide +kernel
theorem d_X10_disk_32 : decode prog_1_method_22_code 32 = .ok (.aload 5, 2) := by decide +kernel
theorem d_X10_disk_34 : decode prog_1_method_22_code 34 = .ok (.getfield 276, 3) := by decide +kernel
theorem d_X10_disk_37 : decode prog_1_method_22_code 37 = .ok (.sipush 512, 3) := by decide +kernel
theorem d_X10_disk_40 : decode prog_1_method_22_code 40 = .ok (.iadd, 1) := by decide +kernel
theorem d_X10_disk_41 : decode prog_1_method_22_code 41 = .ok (.iconst 1, 1) := by decide +kernel
theorem d_X10_disk_42 : decode prog_1_method_22_code 42 = .ok (.isub, 1) := by decide +kernel
theorem d_X10_disk_43 : decode prog_1_method_22_code 43 = .ok (.sipush 512, 3) := by decide +kernel
theorem d_X10_disk_46 : decode prog_1_method_22_code 46 = .ok (.idiv, 1) := by decide +kernel
theorem d_X10_disk_47 : decode prog_1_method_22_code 47 = .ok (.istore 6, 2) := by decide +kernel
theorem d_X10_disk_49 : decode prog_1_method_22_code 49 = .ok (.iload_n 3, 1) := by decide +kernel
theorem d_X10_disk_50 : decode prog_1_method_22_code 50 = .ok (.iload 6, 2) := by decide +kernel
theorem d_X10_disk_52 : decode prog_1_method_22_code 52 = .ok (.if_icmp .ge 19, 3) := by decide +kernel
theorem d_X10_disk_55 : decode prog_1_method_22_code 55 = .ok (.aload 5, 2) := by decide +kernel
theorem d_X10_disk_57 : decode prog_1_method_22_code 57 = .ok (.iload_n 3, 1) := by decide +kernel
theorem d_X10_disk_58 : decode prog_1_method_22_code 58 = .ok (.sipush 512, 3) := by decide +kernel
theorem d_X10_disk_61 : decode prog_1_method_22_code 61 = .ok (.imul, 1) := by decide +kernel
theorem d_X10_disk_62 : decode prog_1_method_22_code 62 = .ok (.iload 4, 2) := by decide +kernel
theorem d_X10_disk_64 : decode prog_1_method_22_code 64 = .ok (.iadd, 1) := by decide +kernel
theorem d_X10_disk_65 : decode prog_1_method_22_code 65 = .ok (.invokevirtual 277, 3) := by decide +kernel
theorem d_X10_disk_68 : decode prog_1_method_22_code 68 = .ok (.goto 4, 3) := by decide +kernel
theorem d_X10_disk_71 : decode prog_1_method_22_code 71 = .ok (.iconst (-1), 1) := by decide +kernel
theorem d_X10_disk_72 : decode prog_1_method_22_code 72 = .ok (.ireturn, 1) := by decide +kernel
abbrev Y_X10_originOf : Yx := (⟨"TaskWeave", "originOf", "(II)I"⟩, prog_1_method_26_code, 2, (some .int))
abbrev M_X10_originOf : Mx := ("TaskWeave", prog_1_method_26_code, 2, false)
theorem yk_X10_originOf : Yk Y_X10_originOf 2 := ⟨by decide +kernel, by decide +kernel, ⟨by decide, by decide⟩, by decide +kernel, by decide, by decide +kernel⟩
theorem d_X10_originOf_0 : decode prog_1_method_26_code 0 = .ok (.iconst (-1), 1) := by decide +kernel
theorem d_X10_originOf_1 : decode prog_1_method_26_code 1 = .ok (.bipush 64, 2) := by decide +kernel
theorem d_X10_originOf_3 : decode prog_1_method_26_code 3 = .ok (.iload_n 0, 1) := by decide +kernel
theorem d_X10_originOf_4 : decode prog_1_method_26_code 4 = .ok (.imul, 1) := by decide +kernel
theorem d_X10_originOf_5 : decode prog_1_method_26_code 5 = .ok (.iload_n 1, 1) := by decide +kernel
theorem d_X10_originOf_6 : decode prog_1_method_26_code 6 = .ok (.iadd, 1) := by decide +kernel
theorem d_X10_originOf_7 : decode prog_1_method_26_code 7 = .ok (.isub, 1) := by decide +kernel
theorem d_X10_originOf_8 : decode prog_1_method_26_code 8 = .ok (.ireturn, 1) := by decide +kernel
abbrev Y_X10_recordsTried : Yx := (⟨"TaskWeave", "recordsTried", "()J"⟩, prog_1_method_27_code, 4, (some .long))
abbrev M_X10_recordsTried : Mx := ("TaskWeave", prog_1_method_27_code, 4, false)
theorem yk_X10_recordsTried : Yk Y_X10_recordsTried 0 := ⟨by decide +kernel, by decide +kernel, ⟨by decide, by decide⟩, by decide +kernel, by decide, by decide +kernel⟩
theorem d_X10_recordsTried_0 : decode prog_1_method_27_code 0 = .ok (.lconst 0, 1) := by decide +kernel
theorem d_X10_recordsTried_1 : decode prog_1_method_27_code 1 = .ok (.lstore_n 1, 1) := by decide +kernel
theorem d_X10_recordsTried_2 : decode prog_1_method_27_code 2 = .ok (.iconst 0, 1) := by decide +kernel
theorem d_X10_recordsTried_3 : decode prog_1_method_27_code 3 = .ok (.istore_n 3, 1) := by decide +kernel
theorem d_X10_recordsTried_4 : decode prog_1_method_27_code 4 = .ok (.iload_n 3, 1) := by decide +kernel
theorem d_X10_recordsTried_5 : decode prog_1_method_27_code 5 = .ok (.iconst 4, 1) := by decide +kernel
theorem d_X10_recordsTried_6 : decode prog_1_method_27_code 6 = .ok (.if_icmp .ge 21, 3) := by decide +kernel
theorem d_X10_recordsTried_9 : decode prog_1_method_27_code 9 = .ok (.lload_n 1, 1) := by decide +kernel
theorem d_X10_recordsTried_10 : decode prog_1_method_27_code 10 = .ok (.aload_n 0, 1) := by decide +kernel
theorem d_X10_recordsTried_11 : decode prog_1_method_27_code 11 = .ok (.getfield 18, 3) := by decide +kernel
theorem d_X10_recordsTried_14 : decode prog_1_method_27_code 14 = .ok (.iload_n 3, 1) := by decide +kernel
theorem d_X10_recordsTried_15 : decode prog_1_method_27_code 15 = .ok (.aaload, 1) := by decide +kernel
theorem d_X10_recordsTried_16 : decode prog_1_method_27_code 16 = .ok (.getfield 287, 3) := by decide +kernel
theorem d_X10_recordsTried_19 : decode prog_1_method_27_code 19 = .ok (.ladd, 1) := by decide +kernel
theorem d_X10_recordsTried_20 : decode prog_1_method_27_code 20 = .ok (.lstore_n 1, 1) := by decide +kernel
theorem d_X10_recordsTried_21 : decode prog_1_method_27_code 21 = .ok (.iinc 3 1, 3) := by decide +kernel
theorem d_X10_recordsTried_24 : decode prog_1_method_27_code 24 = .ok (.goto (-20), 3) := by decide +kernel
theorem d_X10_recordsTried_27 : decode prog_1_method_27_code 27 = .ok (.lload_n 1, 1) := by decide +kernel
theorem d_X10_recordsTried_28 : decode prog_1_method_27_code 28 = .ok (.lreturn, 1) := by decide +kernel
abbrev Y_J9_min_7cf53 : Yx := (⟨"java/lang/Math", "min", "(II)I"⟩, prog_21_method_69_code, 2, (some .int))
abbrev M_J9_min_7cf53 : Mx := ("java/lang/Math", prog_21_method_69_code, 2, false)
theorem yk_J9_min_7cf53 : Yk Y_J9_min_7cf53 2 := ⟨by decide +kernel, by decide +kernel, ⟨by decide, by decide⟩, by decide +kernel, by decide, by decide +kernel⟩
theorem d_J9_min_7cf53_0 : decode prog_21_method_69_code 0 = .ok (.iload_n 0, 1) := by decide +kernel
theorem d_J9_min_7cf53_1 : decode prog_21_method_69_code 1 = .ok (.iload_n 1, 1) := by decide +kernel
theorem d_J9_min_7cf53_2 : decode prog_21_method_69_code 2 = .ok (.if_icmp .gt 7, 3) := by decide +kernel
theorem d_J9_min_7cf53_5 : decode prog_21_method_69_code 5 = .ok (.iload_n 0, 1) := by decide +kernel
theorem d_J9_min_7cf53_6 : decode prog_21_method_69_code 6 = .ok (.goto 4, 3) := by decide +kernel
theorem d_J9_min_7cf53_9 : decode prog_21_method_69_code 9 = .ok (.iload_n 1, 1) := by decide +kernel
theorem d_J9_min_7cf53_10 : decode prog_21_method_69_code 10 = .ok (.ireturn, 1) := by decide +kernel
abbrev Y_X10_lastQuietTick : Yx := (⟨"TaskWeave", "lastQuietTick", "(I)I"⟩, prog_1_method_28_code, 5, (some .int))
abbrev M_X10_lastQuietTick : Mx := ("TaskWeave", prog_1_method_28_code, 5, false)
theorem yk_X10_lastQuietTick : Yk Y_X10_lastQuietTick 1 := ⟨by decide +kernel, by decide +kernel, ⟨by decide, by decide⟩, by decide +kernel, by decide, by decide +kernel⟩
theorem d_X10_lastQuietTick_0 : decode prog_1_method_28_code 0 = .ok (.iload_n 1, 1) := by decide +kernel
theorem d_X10_lastQuietTick_1 : decode prog_1_method_28_code 1 = .ok (.istore_n 2, 1) := by decide +kernel
theorem d_X10_lastQuietTick_2 : decode prog_1_method_28_code 2 = .ok (.iconst 0, 1) := by decide +kernel
theorem d_X10_lastQuietTick_3 : decode prog_1_method_28_code 3 = .ok (.istore_n 3, 1) := by decide +kernel
theorem d_X10_lastQuietTick_4 : decode prog_1_method_28_code 4 = .ok (.iload_n 3, 1) := by decide +kernel
theorem d_X10_lastQuietTick_5 : decode prog_1_method_28_code 5 = .ok (.bipush 64, 2) := by decide +kernel
theorem d_X10_lastQuietTick_7 : decode prog_1_method_28_code 7 = .ok (.if_icmp .ge 55, 3) := by decide +kernel
theorem d_X10_lastQuietTick_10 : decode prog_1_method_28_code 10 = .ok (.aload_n 0, 1) := by decide +kernel
theorem d_X10_lastQuietTick_11 : decode prog_1_method_28_code 11 = .ok (.iload_n 3, 1) := by decide +kernel
theorem d_X10_lastQuietTick_12 : decode prog_1_method_28_code 12 = .ok (.invokevirtual 111, 3) := by decide +kernel
theorem d_X10_lastQuietTick_15 : decode prog_1_method_28_code 15 = .ok (.astore 4, 2) := by decide +kernel
theorem d_X10_lastQuietTick_17 : decode prog_1_method_28_code 17 = .ok (.aload 4, 2) := by decide +kernel
theorem d_X10_lastQuietTick_19 : decode prog_1_method_28_code 19 = .ok (.ifnull 37, 3) := by decide +kernel
theorem d_X10_lastQuietTick_22 : decode prog_1_method_28_code 22 = .ok (.aload_n 0, 1) := by decide +kernel
theorem d_X10_lastQuietTick_23 : decode prog_1_method_28_code 23 = .ok (.getfield 18, 3) := by decide +kernel
theorem d_X10_lastQuietTick_26 : decode prog_1_method_28_code 26 = .ok (.iload_n 3, 1) := by decide +kernel
theorem d_X10_lastQuietTick_27 : decode prog_1_method_28_code 27 = .ok (.iconst 4, 1) := by decide +kernel
theorem d_X10_lastQuietTick_28 : decode prog_1_method_28_code 28 = .ok (.irem, 1) := by decide +kernel
theorem d_X10_lastQuietTick_29 : decode prog_1_method_28_code 29 = .ok (.aaload, 1) := by decide +kernel
theorem d_X10_lastQuietTick_30 : decode prog_1_method_28_code 30 = .ok (.invokevirtual 81, 3) := by decide +kernel
theorem d_X10_lastQuietTick_33 : decode prog_1_method_28_code 33 = .ok (.ifCond .eq 23, 3) := by decide +kernel
theorem d_X10_lastQuietTick_36 : decode prog_1_method_28_code 36 = .ok (.aload 4, 2) := by decide +kernel
theorem d_X10_lastQuietTick_38 : decode prog_1_method_28_code 38 = .ok (.invokevirtual 290, 3) := by decide +kernel
theorem d_X10_lastQuietTick_41 : decode prog_1_method_28_code 41 = .ok (.ifCond .eq 15, 3) := by decide +kernel
theorem d_X10_lastQuietTick_44 : decode prog_1_method_28_code 44 = .ok (.iload_n 2, 1) := by decide +kernel
theorem d_X10_lastQuietTick_45 : decode prog_1_method_28_code 45 = .ok (.aload 4, 2) := by decide +kernel
theorem d_X10_lastQuietTick_47 : decode prog_1_method_28_code 47 = .ok (.invokevirtual 293, 3) := by decide +kernel
theorem d_X10_lastQuietTick_50 : decode prog_1_method_28_code 50 = .ok (.iconst 1, 1) := by decide +kernel
theorem d_X10_lastQuietTick_51 : decode prog_1_method_28_code 51 = .ok (.isub, 1) := by decide +kernel
theorem d_X10_lastQuietTick_52 : decode prog_1_method_28_code 52 = .ok (.invokestatic 296, 3) := by decide +kernel
theorem d_X10_lastQuietTick_55 : decode prog_1_method_28_code 55 = .ok (.istore_n 2, 1) := by decide +kernel
theorem d_X10_lastQuietTick_56 : decode prog_1_method_28_code 56 = .ok (.iinc 3 1, 3) := by decide +kernel
theorem d_X10_lastQuietTick_59 : decode prog_1_method_28_code 59 = .ok (.goto (-55), 3) := by decide +kernel
theorem d_X10_lastQuietTick_62 : decode prog_1_method_28_code 62 = .ok (.iload_n 2, 1) := by decide +kernel
theorem d_X10_lastQuietTick_63 : decode prog_1_method_28_code 63 = .ok (.aload_n 0, 1) := by decide +kernel
theorem d_X10_lastQuietTick_64 : decode prog_1_method_28_code 64 = .ok (.getfield 31, 3) := by decide +kernel
theorem d_X10_lastQuietTick_67 : decode prog_1_method_28_code 67 = .ok (.getfield 144, 3) := by decide +kernel
theorem d_X10_lastQuietTick_70 : decode prog_1_method_28_code 70 = .ok (.invokestatic 301, 3) := by decide +kernel
theorem d_X10_lastQuietTick_73 : decode prog_1_method_28_code 73 = .ok (.ireturn, 1) := by decide +kernel
abbrev Y_X11_fresh : Yx := (⟨"TaskWeaveModel", "fresh", "(II)V"⟩, prog_13_method_5_code, 4, none)
abbrev M_X11_fresh : Mx := ("TaskWeaveModel", prog_13_method_5_code, 4, false)
theorem yk_X11_fresh : Yk Y_X11_fresh 2 := ⟨by decide +kernel, by decide +kernel, ⟨by decide, by decide⟩, by decide +kernel, by decide, by decide +kernel⟩
theorem d_X11_fresh_0 : decode prog_13_method_5_code 0 = .ok (.aload_n 0, 1) := by decide +kernel
theorem d_X11_fresh_1 : decode prog_13_method_5_code 1 = .ok (.getfield 98, 3) := by decide +kernel
theorem d_X11_fresh_4 : decode prog_13_method_5_code 4 = .ok (.iload_n 1, 1) := by decide +kernel
theorem d_X11_fresh_5 : decode prog_13_method_5_code 5 = .ok (.iload_n 2, 1) := by decide +kernel
theorem d_X11_fresh_6 : decode prog_13_method_5_code 6 = .ok (.iastore, 1) := by decide +kernel
theorem d_X11_fresh_7 : decode prog_13_method_5_code 7 = .ok (.aload_n 0, 1) := by decide +kernel
theorem d_X11_fresh_8 : decode prog_13_method_5_code 8 = .ok (.getfield 101, 3) := by decide +kernel
theorem d_X11_fresh_11 : decode prog_13_method_5_code 11 = .ok (.iload_n 1, 1) := by decide +kernel
theorem d_X11_fresh_12 : decode prog_13_method_5_code 12 = .ok (.iconst 0, 1) := by decide +kernel
theorem d_X11_fresh_13 : decode prog_13_method_5_code 13 = .ok (.iastore, 1) := by decide +kernel
theorem d_X11_fresh_14 : decode prog_13_method_5_code 14 = .ok (.iconst 5, 1) := by decide +kernel
theorem d_X11_fresh_15 : decode prog_13_method_5_code 15 = .ok (.iload_n 1, 1) := by decide +kernel
theorem d_X11_fresh_16 : decode prog_13_method_5_code 16 = .ok (.imul, 1) := by decide +kernel
theorem d_X11_fresh_17 : decode prog_13_method_5_code 17 = .ok (.istore_n 3, 1) := by decide +kernel
theorem d_X11_fresh_18 : decode prog_13_method_5_code 18 = .ok (.iload_n 3, 1) := by decide +kernel
theorem d_X11_fresh_19 : decode prog_13_method_5_code 19 = .ok (.iconst 5, 1) := by decide +kernel
theorem d_X11_fresh_20 : decode prog_13_method_5_code 20 = .ok (.iload_n 1, 1) := by decide +kernel
theorem d_X11_fresh_21 : decode prog_13_method_5_code 21 = .ok (.imul, 1) := by decide +kernel
theorem d_X11_fresh_22 : decode prog_13_method_5_code 22 = .ok (.iconst 5, 1) := by decide +kernel
theorem d_X11_fresh_23 : decode prog_13_method_5_code 23 = .ok (.iadd, 1) := by decide +kernel
theorem d_X11_fresh_24 : decode prog_13_method_5_code 24 = .ok (.if_icmp .ge 43, 3) := by decide +kernel
theorem d_X11_fresh_27 : decode prog_13_method_5_code 27 = .ok (.aload_n 0, 1) := by decide +kernel
theorem d_X11_fresh_28 : decode prog_13_method_5_code 28 = .ok (.getfield 92, 3) := by decide +kernel
theorem d_X11_fresh_31 : decode prog_13_method_5_code 31 = .ok (.iload_n 3, 1) := by decide +kernel
theorem d_X11_fresh_32 : decode prog_13_method_5_code 32 = .ok (.iload_n 3, 1) := by decide +kernel
theorem d_X11_fresh_33 : decode prog_13_method_5_code 33 = .ok (.iconst 5, 1) := by decide +kernel
theorem d_X11_fresh_34 : decode prog_13_method_5_code 34 = .ok (.iload_n 1, 1) := by decide +kernel
theorem d_X11_fresh_35 : decode prog_13_method_5_code 35 = .ok (.imul, 1) := by decide +kernel
theorem d_X11_fresh_36 : decode prog_13_method_5_code 36 = .ok (.iload_n 2, 1) := by decide +kernel
theorem d_X11_fresh_37 : decode prog_13_method_5_code 37 = .ok (.iadd, 1) := by decide +kernel
theorem d_X11_fresh_38 : decode prog_13_method_5_code 38 = .ok (.if_icmp .ge 7, 3) := by decide +kernel
theorem d_X11_fresh_41 : decode prog_13_method_5_code 41 = .ok (.iconst 1, 1) := by decide +kernel
theorem d_X11_fresh_42 : decode prog_13_method_5_code 42 = .ok (.goto 4, 3) := by decide +kernel
theorem d_X11_fresh_45 : decode prog_13_method_5_code 45 = .ok (.iconst 0, 1) := by decide +kernel
theorem d_X11_fresh_46 : decode prog_13_method_5_code 46 = .ok (.bastore, 1) := by decide +kernel
theorem d_X11_fresh_47 : decode prog_13_method_5_code 47 = .ok (.aload_n 0, 1) := by decide +kernel
theorem d_X11_fresh_48 : decode prog_13_method_5_code 48 = .ok (.getfield 95, 3) := by decide +kernel
theorem d_X11_fresh_51 : decode prog_13_method_5_code 51 = .ok (.iload_n 3, 1) := by decide +kernel
theorem d_X11_fresh_52 : decode prog_13_method_5_code 52 = .ok (.iconst (-1), 1) := by decide +kernel
theorem d_X11_fresh_53 : decode prog_13_method_5_code 53 = .ok (.iastore, 1) := by decide +kernel
theorem d_X11_fresh_54 : decode prog_13_method_5_code 54 = .ok (.aload_n 0, 1) := by decide +kernel
theorem d_X11_fresh_55 : decode prog_13_method_5_code 55 = .ok (.getfield 86, 3) := by decide +kernel
theorem d_X11_fresh_58 : decode prog_13_method_5_code 58 = .ok (.iload_n 3, 1) := by decide +kernel
theorem d_X11_fresh_59 : decode prog_13_method_5_code 59 = .ok (.iconst 0, 1) := by decide +kernel
theorem d_X11_fresh_60 : decode prog_13_method_5_code 60 = .ok (.iastore, 1) := by decide +kernel
theorem d_X11_fresh_61 : decode prog_13_method_5_code 61 = .ok (.iinc 3 1, 3) := by decide +kernel
theorem d_X11_fresh_64 : decode prog_13_method_5_code 64 = .ok (.goto (-46), 3) := by decide +kernel
theorem d_X11_fresh_67 : decode prog_13_method_5_code 67 = .ok (.return_, 1) := by decide +kernel
theorem vk_10_102 : Vk "TaskWeave$Workflow" 102 1 10 Y_X9_wish := ⟨yk_X9_wish, by decide +kernel, by decide +kernel, by decide +kernel, by decide⟩
theorem vk_10_106 : Vk "TaskWeave$Workflow" 106 0 10 Y_X9_walk := ⟨yk_X9_walk, by decide +kernel, by decide +kernel, by decide +kernel, by decide⟩
def f_X9_run_2 : Nat → Nat → Int32 → Int32 → Hp → Option (Int32 × Hp)
  | 0, _, _, _, _ => none
  | n + 1, l0, l1, l2, h => if ((200 : Int32)) < (l2) then (some ((-1 : Int32), h)) else (ck (isO (h) (l0) 10) (if (zI (h) 1007 (l0)) = ((5 : Int32)) then (if (zR (h) 1004 (l0)) = 0 then (some ((-1 : Int32), h)) else ((f_X9_wish (l0) (l1) (h)).bind (fun q5 => if (q5.1) = ((-1 : Int32)) then (ck (isO (q5.2) (l0) 10) ((f_X9_walk (l0) (q5.2)).bind (fun q7 => bh ((l2) + (1 : Int32)) (fun x9 => f_X9_run_2 n (l0) (l1) (x9) (q7))))) else (some (q5.1, q5.2))))) else (some ((-1 : Int32), h))))
theorem f_X9_run_2_ok {G : Gd} {d : Nat} (hj : 3 ≤ d) : ∀ (n : Nat) (l0 : Nat) (l1 : Int32) (l2 : Int32) (L : List (Nat × Value)) (h : Hp) (o : (Int32 × Hp)), zlk L 0 = some (zrf (l0)) → zlk L 1 = some (.int (l1)) → zlk L 2 = some (.int (l2)) → f_X9_run_2 n l0 l1 l2 h = some o → Ev G M_X9_run d 2 L [] h (Ret Y_X9_run (some (.int o.1)) o.2) := by
  intro n
  induction n with
  | zero =>
    intro l0 l1 l2 L h o g0 g1 g2 e
    cases e
  | succ n ih =>
    intro l0 l1 l2 L h o g0 g1 g2 e
    unfold f_X9_run_2 at e
    refine r_iload_n d_X9_run_2 rfl g2 ?_
    refine r_sipush d_X9_run_3 (v := (200 : Int32)) (by decide +kernel) ?_
    refine r_icmp_gt d_X9_run_6 (tgt := 47) (by decide) (fun c1 => ?_) (fun c1 => ?_)
    · replace e := (if_pos c1).symm.trans e
      refine r_iconst d_X9_run_47 (v := (-1 : Int32)) (by decide +kernel) ?_
      cases e
      exact g_iret d_X9_run_48 rfl rfl
    · replace e := (if_neg c1).symm.trans e
      refine g_ald_n d_X9_run_9 rfl g0 ?_
      replace e := ckd e
      obtain ⟨k2, e⟩ := e
      refine g_getI d_X9_run_10 (f := 1007) k2 fk_10_59 rfl rfl ?_
      refine r_iconst d_X9_run_13 (v := (5 : Int32)) (by decide +kernel) ?_
      refine r_icmp_ne d_X9_run_14 (tgt := 47) (by decide) (fun c3 => ?_) (fun c3 => ?_)
      · replace e := (if_neg c3).symm.trans e
        refine r_iconst d_X9_run_47 (v := (-1 : Int32)) (by decide +kernel) ?_
        cases e
        exact g_iret d_X9_run_48 rfl rfl
      · replace e := (if_pos c3).symm.trans e
        refine g_ald_n d_X9_run_17 rfl g0 ?_
        refine g_getR d_X9_run_18 (f := 1004) k2 fk_10_33 rfl rfl ?_
        refine g_ifnull d_X9_run_21 (tgt := 47) (by decide) (fun c4 => ?_) (fun c4 => ?_)
        · replace e := (if_pos c4).symm.trans e
          refine r_iconst d_X9_run_47 (v := (-1 : Int32)) (by decide +kernel) ?_
          cases e
          exact g_iret d_X9_run_48 rfl rfl
        · replace e := (if_neg c4).symm.trans e
          refine g_ald_n d_X9_run_24 rfl g0 ?_
          refine r_iload_n d_X9_run_25 rfl g1 ?_
          replace e := bd e
          obtain ⟨q5, eq5, e⟩ := e
          refine g_callV d_X9_run_26 vk_10_102 (as := [_]) rfl k2 rfl (by simp [zrf_cat, cat_int, cat_long]) (j := 2) (by omega) (c_X9_wish (by omega) eq5) ?_
          refine s_istore_n d_X9_run_29 rfl (by decide) (fun L g3 gK => ?_)
          replace g0 := gK _ _ (by decide) (Or.inr (zrf_cat _)) g0
          replace g1 := gK _ _ (by decide) (Or.inr rfl) g1
          replace g2 := gK _ _ (by decide) (Or.inr rfl) g2
          refine r_iload_n d_X9_run_30 rfl g3 ?_
          refine r_iconst d_X9_run_31 (v := (-1 : Int32)) (by decide +kernel) ?_
          refine r_icmp_eq d_X9_run_32 (tgt := 37) (by decide) (fun c6 => ?_) (fun c6 => ?_)
          · replace e := (if_pos c6).symm.trans e
            refine g_ald_n d_X9_run_37 rfl g0 ?_
            replace e := ckd e
            obtain ⟨k8, e⟩ := e
            replace e := bd e
            obtain ⟨q7, eq7, e⟩ := e
            refine g_callV d_X9_run_38 vk_10_106 (as := []) rfl k8 rfl (by simp [zrf_cat, cat_int, cat_long]) (j := 2) (by omega) (c_X9_walk (by omega) eq7) ?_
            replace e := bhd e
            obtain ⟨_, rfl, e⟩ := e
            refine s_iinc d_X9_run_41 g2 (w := (1 : Int32)) (by decide +kernel) (by decide) (fun L g2 gK => ?_)
            replace g0 := gK _ _ (by decide) (Or.inr (zrf_cat _)) g0
            replace g1 := gK _ _ (by decide) (Or.inr rfl) g1
            refine r_goto d_X9_run_44 (tgt := 2) (by decide) ?_
            exact ih _ _ _ _ _ _ g0 g1 g2 e
          · replace e := (if_neg c6).symm.trans e
            refine r_iload_n d_X9_run_35 rfl g3 ?_
            cases e
            exact g_iret d_X9_run_36 rfl rfl

def f_X9_run (l0 : Nat) (l1 : Int32) (h : Hp) : Option (Int32 × Hp) := f_X9_run_2 fz (l0) (l1) ((0 : Int32)) (h)
theorem f_X9_run_ok {G : Gd} {d : Nat} (hj : 3 ≤ d) : ∀ (l0 : Nat) (l1 : Int32) (L : List (Nat × Value)) (h : Hp) (o : (Int32 × Hp)), zlk L 0 = some (zrf (l0)) → zlk L 1 = some (.int (l1)) → f_X9_run l0 l1 h = some o → Ev G M_X9_run d 0 L [] h (Ret Y_X9_run (some (.int o.1)) o.2) := by
  intro l0 l1 L h o g0 g1 e
  unfold f_X9_run at e
  refine r_iconst d_X9_run_0 (v := (0 : Int32)) (by decide +kernel) ?_
  refine s_istore_n d_X9_run_1 rfl (by decide) (fun L g2 gK => ?_)
  replace g0 := gK _ _ (by decide) (Or.inr (zrf_cat _)) g0
  replace g1 := gK _ _ (by decide) (Or.inr rfl) g1
  exact f_X9_run_2_ok hj _ _ _ _ _ _ _ g0 g1 g2 e

theorem c_X9_run {G : Gd} {j : Nat} (hj : 3 ≤ j) {l0 : Nat} {l1 : Int32} {h : Hp} {o : (Int32 × Hp)} (e : f_X9_run l0 l1 h = some o) : Cal G j Y_X9_run [zrf (l0), .int (l1)] h (some (.int o.1)) o.2 := Cal.of (n := 0) (I := false) (by decide +kernel) (by decide) (by simp [lg_sl, zrf_cat, cat_int, cat_long]) (f_X9_run_ok hj _ _ _ h o (by simp [lv_args, zlk, zrf_cat, cat_int, cat_long]) (by simp [lv_args, zlk, zrf_cat, cat_int, cat_long]) e)
def f_X9_resume (l0 : Nat) (h : Hp) : Option Hp := ck (isO (h) (l0) 10) (bh (pI (h) 1006 (l0) ((0 : Int32))) (fun h2 => bh (pI (h2) 1007 (l0) ((5 : Int32))) (fun h3 => some (h3))))
theorem f_X9_resume_ok {G : Gd} {d : Nat} (hj : 1 ≤ d) : ∀ (l0 : Nat) (L : List (Nat × Value)) (h : Hp) (o : Hp), zlk L 0 = some (zrf (l0)) → f_X9_resume l0 h = some o → Ev G M_X9_resume d 0 L [] h (Ret Y_X9_resume none o) := by
  intro l0 L h o g0 e
  unfold f_X9_resume at e
  refine g_ald_n d_X9_resume_0 rfl g0 ?_
  refine r_iconst d_X9_resume_1 (v := (0 : Int32)) (by decide +kernel) ?_
  replace e := ckd e
  obtain ⟨k1, e⟩ := e
  refine g_putI d_X9_resume_2 (f := 1006) k1 fk_10_56 rfl (Or.inl rfl) ⟨rfl, rfl⟩ ?_
  replace e := bhd e
  obtain ⟨_, rfl, e⟩ := e
  refine g_ald_n d_X9_resume_5 rfl g0 ?_
  refine r_iconst d_X9_resume_6 (v := (5 : Int32)) (by decide +kernel) ?_
  refine g_putI d_X9_resume_7 (f := 1007) (tO_pI k1) fk_10_59 rfl (Or.inl rfl) ⟨rfl, rfl⟩ ?_
  replace e := bhd e
  obtain ⟨_, rfl, e⟩ := e
  cases e
  exact g_vret d_X9_resume_10 rfl

theorem c_X9_resume {G : Gd} {j : Nat} (hj : 1 ≤ j) {l0 : Nat} {h : Hp} {o : Hp} (e : f_X9_resume l0 h = some o) : Cal G j Y_X9_resume [zrf (l0)] h none o := Cal.of (n := 0) (I := false) (by decide +kernel) (by decide) (by simp [lg_sl, zrf_cat, cat_int, cat_long]) (f_X9_resume_ok hj _ _ h o (by simp [lv_args, zlk, zrf_cat, cat_int, cat_long]) e)
theorem vk_10_157 : Vk "TaskWeave$Workflow" 157 3 9 Y_X8_open := ⟨yk_X8_open, by decide +kernel, by decide +kernel, by decide +kernel, by decide⟩
theorem vk_10_161 : Vk "TaskWeave$Workflow" 161 0 10 Y_X9_resume := ⟨yk_X9_resume, by decide +kernel, by decide +kernel, by decide +kernel, by decide⟩
def f_X9_take (l0 : Nat) (l1 : Int32) (l2 : Int32) (l3 : Int32) (l4 : Int32) (l5 : Int32) (h : Hp) : Option Hp := ck (isO (h) (l0) 10) (ck (isO (h) (zR (h) 1002 (l0)) 2) ((f_X1_add (zR (h) 1002 (l0)) (l1) (l2) (l3) (l4) (h)).bind (fun q2 => if (l1) = (1 : Int32) then (ck (isO (q2) (l0) 10) (ck (isO (q2) (zR (q2) 1003 (l0)) 9) ((f_X8_open (zR (q2) 1003 (l0)) (l2) (l3) (l5) (q2)).bind (fun q6 => ck (isO (q6) (l0) 10) ((f_X9_rest (l0) ((0 : Int32)) ((0 : Int32)) (q6)).bind (fun q8 => some (q8))))))) else (if (l1) = (2 : Int32) then (ck (isO (q2) (l0) 10) (ck (isO (q2) (zR (q2) 1003 (l0)) 9) (bh (pI (q2) 904 (zR (q2) 1003 (l0)) ((0 : Int32))) (fun h13 => (f_X9_set (l0) (l2) (h13)).bind (fun q14 => ck (isO (q14) (l0) 10) ((f_X9_resume (l0) (q14)).bind (fun q15 => some (q15)))))))) else (if (l1) = (3 : Int32) then (ck (isO (q2) (l0) 10) (ck (isO (q2) (zR (q2) 1003 (l0)) 9) (bh (pI (q2) 904 (zR (q2) 1003 (l0)) ((0 : Int32))) (fun h20 => (f_X9_set (l0) (l2) (h20)).bind (fun q21 => ck (isO (q21) (l0) 10) ((f_X9_resume (l0) (q21)).bind (fun q22 => some (q22)))))))) else (if (l1) = (4 : Int32) then (ck (isO (q2) (l0) 10) ((f_X9_rest (l0) ((1 : Int32)) (l2) (q2)).bind (fun q25 => some (q25)))) else (if (l1) = (5 : Int32) then (ck (isO (q2) (l0) 10) ((f_X9_leave (l0) ((zI (q2) 1005 (l0)) + ((1 : Int32))) (q2)).bind (fun q29 => ck (isO (q29) (l0) 10) ((f_X9_resume (l0) (q29)).bind (fun q30 => some (q30)))))) else (if (l1) = (6 : Int32) then (ck (isO (q2) (l0) 10) ((f_X9_set (l0) (zI (q2) 1010 (l0)) (q2)).bind (fun q34 => ck (isO (q34) (l0) 10) (bh (pI (q34) 1010 (l0) ((zI (q34) 1010 (l0)) + ((1 : Int32)))) (fun h36 => some (h36)))))) else (if (l1) = (7 : Int32) then (ck (isO (q2) (l0) 10) (if (zI (q2) 1007 (l0)) = ((3 : Int32)) then (if (zI (q2) 1008 (l0)) = (l2) then ((f_X9_set (l0) (l3) (q2)).bind (fun q41 => ck (isO (q41) (l0) 10) ((f_X9_resume (l0) (q41)).bind (fun q42 => some (q42))))) else (some (q2))) else (some (q2)))) else (if (l1) = (8 : Int32) then (ck (isO (q2) (l0) 10) (if (zI (q2) 1007 (l0)) = ((2 : Int32)) then (bh (pI (q2) 1009 (l0) ((zI (q2) 1009 (l0)) + ((1 : Int32)))) (fun h47 => (f_X9_set (l0) (l2) (h47)).bind (fun q48 => ck (isO (q48) (l0) 10) ((f_X9_resume (l0) (q48)).bind (fun q49 => some (q49)))))) else (some (q2)))) else (if (l1) = (9 : Int32) then (ck (isO (q2) (l0) 10) ((f_X9_leave (l0) ((zI (q2) 1005 (l0)) + ((1 : Int32))) (q2)).bind (fun q53 => some (q53)))) else (ck (isO (q2) (l0) 10) (ck (isO (q2) (zR (q2) 1003 (l0)) 9) (bh (pI (q2) 904 (zR (q2) 1003 (l0)) ((0 : Int32))) (fun h56 => bh (pI (h56) 1007 (l0) ((4 : Int32))) (fun h57 => bh (pI (h57) 1011 (l0) (l2)) (fun h58 => some (h58))))))))))))))))))
theorem f_X9_take_ok {G : Gd} {d : Nat} (hj : 2 ≤ d) : ∀ (l0 : Nat) (l1 : Int32) (l2 : Int32) (l3 : Int32) (l4 : Int32) (l5 : Int32) (L : List (Nat × Value)) (h : Hp) (o : Hp), zlk L 0 = some (zrf (l0)) → zlk L 1 = some (.int (l1)) → zlk L 2 = some (.int (l2)) → zlk L 3 = some (.int (l3)) → zlk L 4 = some (.int (l4)) → zlk L 5 = some (.int (l5)) → f_X9_take l0 l1 l2 l3 l4 l5 h = some o → Ev G M_X9_take d 0 L [] h (Ret Y_X9_take none o) := by
  intro l0 l1 l2 l3 l4 l5 L h o g0 g1 g2 g3 g4 g5 e
  unfold f_X9_take at e
  refine g_ald_n d_X9_take_0 rfl g0 ?_
  replace e := ckd e
  obtain ⟨k1, e⟩ := e
  refine g_getR d_X9_take_1 (f := 1002) k1 fk_10_18 rfl rfl ?_
  refine r_iload_n d_X9_take_4 rfl g1 ?_
  refine r_iload_n d_X9_take_5 rfl g2 ?_
  refine r_iload_n d_X9_take_6 rfl g3 ?_
  refine r_iload d_X9_take_7 g4 ?_
  replace e := ckd e
  obtain ⟨k3, e⟩ := e
  replace e := bd e
  obtain ⟨q2, eq2, e⟩ := e
  refine g_callV d_X9_take_9 vk_10_40 (as := [_, _, _, _]) rfl k3 rfl (by simp [zrf_cat, cat_int, cat_long]) (j := 1) (by omega) (c_X1_add (by omega) eq2) ?_
  refine r_iload_n d_X9_take_12 rfl g1 ?_
  rcases ite_or e with ⟨c4, e⟩ | ⟨c4, e⟩
  · refine r_tableIn d_X9_take_13 (off := 51) (tgt := 64) (by rw [c4]; decide +kernel) (by rw [c4]; decide +kernel) (by rw [c4] <;> rfl) (by decide) ?_
    refine g_ald_n d_X9_take_64 rfl g0 ?_
    replace e := ckd e
    obtain ⟨k5, e⟩ := e
    refine g_getR d_X9_take_65 (f := 1003) k5 fk_10_25 rfl rfl ?_
    refine r_iload_n d_X9_take_68 rfl g2 ?_
    refine r_iload_n d_X9_take_69 rfl g3 ?_
    refine r_iload d_X9_take_70 g5 ?_
    replace e := ckd e
    obtain ⟨k7, e⟩ := e
    replace e := bd e
    obtain ⟨q6, eq6, e⟩ := e
    refine g_callV d_X9_take_72 vk_10_157 (as := [_, _, _]) rfl k7 rfl (by simp [zrf_cat, cat_int, cat_long]) (j := 1) (by omega) (c_X8_open (by omega) eq6) ?_
    refine g_ald_n d_X9_take_75 rfl g0 ?_
    refine r_iconst d_X9_take_76 (v := (0 : Int32)) (by decide +kernel) ?_
    refine r_iconst d_X9_take_77 (v := (0 : Int32)) (by decide +kernel) ?_
    replace e := ckd e
    obtain ⟨k9, e⟩ := e
    replace e := bd e
    obtain ⟨q8, eq8, e⟩ := e
    refine g_callV d_X9_take_78 vk_10_141 (as := [_, _]) rfl k9 rfl (by simp [zrf_cat, cat_int, cat_long]) (j := 1) (by omega) (c_X9_rest (by omega) eq8) ?_
    refine r_goto d_X9_take_81 (tgt := 240) (by decide) ?_
    cases e
    exact g_vret d_X9_take_240 rfl
  · rcases ite_or e with ⟨c10, e⟩ | ⟨c10, e⟩
    · refine r_tableIn d_X9_take_13 (off := 114) (tgt := 127) (by rw [c10]; decide +kernel) (by rw [c10]; decide +kernel) (by rw [c10] <;> rfl) (by decide) ?_
      refine g_ald_n d_X9_take_127 rfl g0 ?_
      replace e := ckd e
      obtain ⟨k11, e⟩ := e
      refine g_getR d_X9_take_128 (f := 1003) k11 fk_10_25 rfl rfl ?_
      refine r_iconst d_X9_take_131 (v := (0 : Int32)) (by decide +kernel) ?_
      replace e := ckd e
      obtain ⟨k12, e⟩ := e
      refine g_putI d_X9_take_132 (f := 904) k12 fk_10_50 rfl (Or.inl rfl) ⟨rfl, rfl⟩ ?_
      replace e := bhd e
      obtain ⟨_, rfl, e⟩ := e
      refine g_ald_n d_X9_take_135 rfl g0 ?_
      refine r_iload_n d_X9_take_136 rfl g2 ?_
      replace e := bd e
      obtain ⟨q14, eq14, e⟩ := e
      refine g_callV d_X9_take_137 vk_10_145 (as := [_]) rfl (tO_pI k11) rfl (by simp [zrf_cat, cat_int, cat_long]) (j := 1) (by omega) (c_X9_set (by omega) eq14) ?_
      refine g_ald_n d_X9_take_140 rfl g0 ?_
      replace e := ckd e
      obtain ⟨k16, e⟩ := e
      replace e := bd e
      obtain ⟨q15, eq15, e⟩ := e
      refine g_callV d_X9_take_141 vk_10_161 (as := []) rfl k16 rfl (by simp [zrf_cat, cat_int, cat_long]) (j := 1) (by omega) (c_X9_resume (by omega) eq15) ?_
      refine r_goto d_X9_take_144 (tgt := 240) (by decide) ?_
      cases e
      exact g_vret d_X9_take_240 rfl
    · rcases ite_or e with ⟨c17, e⟩ | ⟨c17, e⟩
      · refine r_tableIn d_X9_take_13 (off := 114) (tgt := 127) (by rw [c17]; decide +kernel) (by rw [c17]; decide +kernel) (by rw [c17] <;> rfl) (by decide) ?_
        refine g_ald_n d_X9_take_127 rfl g0 ?_
        replace e := ckd e
        obtain ⟨k18, e⟩ := e
        refine g_getR d_X9_take_128 (f := 1003) k18 fk_10_25 rfl rfl ?_
        refine r_iconst d_X9_take_131 (v := (0 : Int32)) (by decide +kernel) ?_
        replace e := ckd e
        obtain ⟨k19, e⟩ := e
        refine g_putI d_X9_take_132 (f := 904) k19 fk_10_50 rfl (Or.inl rfl) ⟨rfl, rfl⟩ ?_
        replace e := bhd e
        obtain ⟨_, rfl, e⟩ := e
        refine g_ald_n d_X9_take_135 rfl g0 ?_
        refine r_iload_n d_X9_take_136 rfl g2 ?_
        replace e := bd e
        obtain ⟨q21, eq21, e⟩ := e
        refine g_callV d_X9_take_137 vk_10_145 (as := [_]) rfl (tO_pI k18) rfl (by simp [zrf_cat, cat_int, cat_long]) (j := 1) (by omega) (c_X9_set (by omega) eq21) ?_
        refine g_ald_n d_X9_take_140 rfl g0 ?_
        replace e := ckd e
        obtain ⟨k23, e⟩ := e
        replace e := bd e
        obtain ⟨q22, eq22, e⟩ := e
        refine g_callV d_X9_take_141 vk_10_161 (as := []) rfl k23 rfl (by simp [zrf_cat, cat_int, cat_long]) (j := 1) (by omega) (c_X9_resume (by omega) eq22) ?_
        refine r_goto d_X9_take_144 (tgt := 240) (by decide) ?_
        cases e
        exact g_vret d_X9_take_240 rfl
      · rcases ite_or e with ⟨c24, e⟩ | ⟨c24, e⟩
        · refine r_tableIn d_X9_take_13 (off := 71) (tgt := 84) (by rw [c24]; decide +kernel) (by rw [c24]; decide +kernel) (by rw [c24] <;> rfl) (by decide) ?_
          refine g_ald_n d_X9_take_84 rfl g0 ?_
          refine r_iconst d_X9_take_85 (v := (1 : Int32)) (by decide +kernel) ?_
          refine r_iload_n d_X9_take_86 rfl g2 ?_
          replace e := ckd e
          obtain ⟨k26, e⟩ := e
          replace e := bd e
          obtain ⟨q25, eq25, e⟩ := e
          refine g_callV d_X9_take_87 vk_10_141 (as := [_, _]) rfl k26 rfl (by simp [zrf_cat, cat_int, cat_long]) (j := 1) (by omega) (c_X9_rest (by omega) eq25) ?_
          refine r_goto d_X9_take_90 (tgt := 240) (by decide) ?_
          cases e
          exact g_vret d_X9_take_240 rfl
        · rcases ite_or e with ⟨c27, e⟩ | ⟨c27, e⟩
          · refine r_tableIn d_X9_take_13 (off := 134) (tgt := 147) (by rw [c27]; decide +kernel) (by rw [c27]; decide +kernel) (by rw [c27] <;> rfl) (by decide) ?_
            refine g_ald_n d_X9_take_147 rfl g0 ?_
            refine g_ald_n d_X9_take_148 rfl g0 ?_
            replace e := ckd e
            obtain ⟨k28, e⟩ := e
            refine g_getI d_X9_take_149 (f := 1005) k28 fk_10_53 rfl rfl ?_
            refine r_iconst d_X9_take_152 (v := (1 : Int32)) (by decide +kernel) ?_
            refine r_iadd d_X9_take_153 ?_
            replace e := bd e
            obtain ⟨q29, eq29, e⟩ := e
            refine g_callV d_X9_take_154 vk_10_137 (as := [_]) rfl k28 rfl (by simp [zrf_cat, cat_int, cat_long]) (j := 1) (by omega) (c_X9_leave (by omega) eq29) ?_
            refine g_ald_n d_X9_take_157 rfl g0 ?_
            replace e := ckd e
            obtain ⟨k31, e⟩ := e
            replace e := bd e
            obtain ⟨q30, eq30, e⟩ := e
            refine g_callV d_X9_take_158 vk_10_161 (as := []) rfl k31 rfl (by simp [zrf_cat, cat_int, cat_long]) (j := 1) (by omega) (c_X9_resume (by omega) eq30) ?_
            refine r_goto d_X9_take_161 (tgt := 240) (by decide) ?_
            cases e
            exact g_vret d_X9_take_240 rfl
          · rcases ite_or e with ⟨c32, e⟩ | ⟨c32, e⟩
            · refine r_tableIn d_X9_take_13 (off := 80) (tgt := 93) (by rw [c32]; decide +kernel) (by rw [c32]; decide +kernel) (by rw [c32] <;> rfl) (by decide) ?_
              refine g_ald_n d_X9_take_93 rfl g0 ?_
              refine g_ald_n d_X9_take_94 rfl g0 ?_
              replace e := ckd e
              obtain ⟨k33, e⟩ := e
              refine g_getI d_X9_take_95 (f := 1010) k33 fk_10_65 rfl rfl ?_
              replace e := bd e
              obtain ⟨q34, eq34, e⟩ := e
              refine g_callV d_X9_take_98 vk_10_145 (as := [_]) rfl k33 rfl (by simp [zrf_cat, cat_int, cat_long]) (j := 1) (by omega) (c_X9_set (by omega) eq34) ?_
              refine g_ald_n d_X9_take_101 rfl g0 ?_
              refine r_dup d_X9_take_102 (zrf_cat _) ?_
              replace e := ckd e
              obtain ⟨k35, e⟩ := e
              refine g_getI d_X9_take_103 (f := 1010) k35 fk_10_65 rfl rfl ?_
              refine r_iconst d_X9_take_106 (v := (1 : Int32)) (by decide +kernel) ?_
              refine r_iadd d_X9_take_107 ?_
              refine g_putI d_X9_take_108 (f := 1010) k35 fk_10_65 rfl (Or.inl rfl) ⟨rfl, rfl⟩ ?_
              replace e := bhd e
              obtain ⟨_, rfl, e⟩ := e
              refine r_goto d_X9_take_111 (tgt := 240) (by decide) ?_
              cases e
              exact g_vret d_X9_take_240 rfl
            · rcases ite_or e with ⟨c37, e⟩ | ⟨c37, e⟩
              · refine r_tableIn d_X9_take_13 (off := 181) (tgt := 194) (by rw [c37]; decide +kernel) (by rw [c37]; decide +kernel) (by rw [c37] <;> rfl) (by decide) ?_
                refine g_ald_n d_X9_take_194 rfl g0 ?_
                replace e := ckd e
                obtain ⟨k38, e⟩ := e
                refine g_getI d_X9_take_195 (f := 1007) k38 fk_10_59 rfl rfl ?_
                refine r_iconst d_X9_take_198 (v := (3 : Int32)) (by decide +kernel) ?_
                refine r_icmp_ne d_X9_take_199 (tgt := 240) (by decide) (fun c39 => ?_) (fun c39 => ?_)
                · replace e := (if_neg c39).symm.trans e
                  cases e
                  exact g_vret d_X9_take_240 rfl
                · replace e := (if_pos c39).symm.trans e
                  refine g_ald_n d_X9_take_202 rfl g0 ?_
                  refine g_getI d_X9_take_203 (f := 1008) k38 fk_10_96 rfl rfl ?_
                  refine r_iload_n d_X9_take_206 rfl g2 ?_
                  refine r_icmp_ne d_X9_take_207 (tgt := 240) (by decide) (fun c40 => ?_) (fun c40 => ?_)
                  · replace e := (if_neg c40).symm.trans e
                    cases e
                    exact g_vret d_X9_take_240 rfl
                  · replace e := (if_pos c40).symm.trans e
                    refine g_ald_n d_X9_take_210 rfl g0 ?_
                    refine r_iload_n d_X9_take_211 rfl g3 ?_
                    replace e := bd e
                    obtain ⟨q41, eq41, e⟩ := e
                    refine g_callV d_X9_take_212 vk_10_145 (as := [_]) rfl k38 rfl (by simp [zrf_cat, cat_int, cat_long]) (j := 1) (by omega) (c_X9_set (by omega) eq41) ?_
                    refine g_ald_n d_X9_take_215 rfl g0 ?_
                    replace e := ckd e
                    obtain ⟨k43, e⟩ := e
                    replace e := bd e
                    obtain ⟨q42, eq42, e⟩ := e
                    refine g_callV d_X9_take_216 vk_10_161 (as := []) rfl k43 rfl (by simp [zrf_cat, cat_int, cat_long]) (j := 1) (by omega) (c_X9_resume (by omega) eq42) ?_
                    refine r_goto d_X9_take_219 (tgt := 240) (by decide) ?_
                    cases e
                    exact g_vret d_X9_take_240 rfl
              · rcases ite_or e with ⟨c44, e⟩ | ⟨c44, e⟩
                · refine r_tableIn d_X9_take_13 (off := 151) (tgt := 164) (by rw [c44]; decide +kernel) (by rw [c44]; decide +kernel) (by rw [c44] <;> rfl) (by decide) ?_
                  refine g_ald_n d_X9_take_164 rfl g0 ?_
                  replace e := ckd e
                  obtain ⟨k45, e⟩ := e
                  refine g_getI d_X9_take_165 (f := 1007) k45 fk_10_59 rfl rfl ?_
                  refine r_iconst d_X9_take_168 (v := (2 : Int32)) (by decide +kernel) ?_
                  refine r_icmp_ne d_X9_take_169 (tgt := 240) (by decide) (fun c46 => ?_) (fun c46 => ?_)
                  · replace e := (if_neg c46).symm.trans e
                    cases e
                    exact g_vret d_X9_take_240 rfl
                  · replace e := (if_pos c46).symm.trans e
                    refine g_ald_n d_X9_take_172 rfl g0 ?_
                    refine r_dup d_X9_take_173 (zrf_cat _) ?_
                    refine g_getI d_X9_take_174 (f := 1009) k45 fk_10_62 rfl rfl ?_
                    refine r_iconst d_X9_take_177 (v := (1 : Int32)) (by decide +kernel) ?_
                    refine r_iadd d_X9_take_178 ?_
                    refine g_putI d_X9_take_179 (f := 1009) k45 fk_10_62 rfl (Or.inl rfl) ⟨rfl, rfl⟩ ?_
                    replace e := bhd e
                    obtain ⟨_, rfl, e⟩ := e
                    refine g_ald_n d_X9_take_182 rfl g0 ?_
                    refine r_iload_n d_X9_take_183 rfl g2 ?_
                    replace e := bd e
                    obtain ⟨q48, eq48, e⟩ := e
                    refine g_callV d_X9_take_184 vk_10_145 (as := [_]) rfl (tO_pI k45) rfl (by simp [zrf_cat, cat_int, cat_long]) (j := 1) (by omega) (c_X9_set (by omega) eq48) ?_
                    refine g_ald_n d_X9_take_187 rfl g0 ?_
                    replace e := ckd e
                    obtain ⟨k50, e⟩ := e
                    replace e := bd e
                    obtain ⟨q49, eq49, e⟩ := e
                    refine g_callV d_X9_take_188 vk_10_161 (as := []) rfl k50 rfl (by simp [zrf_cat, cat_int, cat_long]) (j := 1) (by omega) (c_X9_resume (by omega) eq49) ?_
                    refine r_goto d_X9_take_191 (tgt := 240) (by decide) ?_
                    cases e
                    exact g_vret d_X9_take_240 rfl
                · rcases ite_or e with ⟨c51, e⟩ | ⟨c51, e⟩
                  · refine r_tableIn d_X9_take_13 (off := 101) (tgt := 114) (by rw [c51]; decide +kernel) (by rw [c51]; decide +kernel) (by rw [c51] <;> rfl) (by decide) ?_
                    refine g_ald_n d_X9_take_114 rfl g0 ?_
                    refine g_ald_n d_X9_take_115 rfl g0 ?_
                    replace e := ckd e
                    obtain ⟨k52, e⟩ := e
                    refine g_getI d_X9_take_116 (f := 1005) k52 fk_10_53 rfl rfl ?_
                    refine r_iconst d_X9_take_119 (v := (1 : Int32)) (by decide +kernel) ?_
                    refine r_iadd d_X9_take_120 ?_
                    replace e := bd e
                    obtain ⟨q53, eq53, e⟩ := e
                    refine g_callV d_X9_take_121 vk_10_137 (as := [_]) rfl k52 rfl (by simp [zrf_cat, cat_int, cat_long]) (j := 1) (by omega) (c_X9_leave (by omega) eq53) ?_
                    refine r_goto d_X9_take_124 (tgt := 240) (by decide) ?_
                    cases e
                    exact g_vret d_X9_take_240 rfl
                  · refine r_tableOut d_X9_take_13 (tgt := 222) (by have := lv_neT (a := 1) c4 (by decide +kernel); have := lv_neT (a := 2) c10 (by decide +kernel); have := lv_neT (a := 3) c17 (by decide +kernel); have := lv_neT (a := 4) c24 (by decide +kernel); have := lv_neT (a := 5) c27 (by decide +kernel); have := lv_neT (a := 6) c32 (by decide +kernel); have := lv_neT (a := 7) c37 (by decide +kernel); have := lv_neT (a := 8) c44 (by decide +kernel); have := lv_neT (a := 9) c51 (by decide +kernel); omega) (by decide) ?_
                    refine g_ald_n d_X9_take_222 rfl g0 ?_
                    replace e := ckd e
                    obtain ⟨k54, e⟩ := e
                    refine g_getR d_X9_take_223 (f := 1003) k54 fk_10_25 rfl rfl ?_
                    refine r_iconst d_X9_take_226 (v := (0 : Int32)) (by decide +kernel) ?_
                    replace e := ckd e
                    obtain ⟨k55, e⟩ := e
                    refine g_putI d_X9_take_227 (f := 904) k55 fk_10_50 rfl (Or.inl rfl) ⟨rfl, rfl⟩ ?_
                    replace e := bhd e
                    obtain ⟨_, rfl, e⟩ := e
                    refine g_ald_n d_X9_take_230 rfl g0 ?_
                    refine r_iconst d_X9_take_231 (v := (4 : Int32)) (by decide +kernel) ?_
                    refine g_putI d_X9_take_232 (f := 1007) (tO_pI k54) fk_10_59 rfl (Or.inl rfl) ⟨rfl, rfl⟩ ?_
                    replace e := bhd e
                    obtain ⟨_, rfl, e⟩ := e
                    refine g_ald_n d_X9_take_235 rfl g0 ?_
                    refine r_iload_n d_X9_take_236 rfl g2 ?_
                    refine g_putI d_X9_take_237 (f := 1011) (tO_pI (tO_pI k54)) fk_10_68 rfl (Or.inl rfl) ⟨rfl, rfl⟩ ?_
                    replace e := bhd e
                    obtain ⟨_, rfl, e⟩ := e
                    cases e
                    exact g_vret d_X9_take_240 rfl

theorem c_X9_take {G : Gd} {j : Nat} (hj : 2 ≤ j) {l0 : Nat} {l1 : Int32} {l2 : Int32} {l3 : Int32} {l4 : Int32} {l5 : Int32} {h : Hp} {o : Hp} (e : f_X9_take l0 l1 l2 l3 l4 l5 h = some o) : Cal G j Y_X9_take [zrf (l0), .int (l1), .int (l2), .int (l3), .int (l4), .int (l5)] h none o := Cal.of (n := 0) (I := false) (by decide +kernel) (by decide) (by simp [lg_sl, zrf_cat, cat_int, cat_long]) (f_X9_take_ok hj _ _ _ _ _ _ _ h o (by simp [lv_args, zlk, zrf_cat, cat_int, cat_long]) (by simp [lv_args, zlk, zrf_cat, cat_int, cat_long]) (by simp [lv_args, zlk, zrf_cat, cat_int, cat_long]) (by simp [lv_args, zlk, zrf_cat, cat_int, cat_long]) (by simp [lv_args, zlk, zrf_cat, cat_int, cat_long]) (by simp [lv_args, zlk, zrf_cat, cat_int, cat_long]) e)
theorem fk_11_10 : Fk "TaskWeave" 10 1100 := ⟨by decide, by decide, by decide +kernel⟩
theorem vk_11_39 : Vk "TaskWeave" 39 2 4 Y_X3_append := ⟨yk_X3_append, by decide +kernel, by decide +kernel, by decide +kernel, by decide⟩
def f_X10_type (l0 : Nat) (l1 : Int64) (l3 : Int32) (h : Hp) : Option (Int32 × Hp) := ck (isO (h) (l0) 11) (ck (isO (h) (zR (h) 1100 (l0)) 4) ((f_X3_append (zR (h) 1100 (l0)) (l1) (l3) (h)).bind (fun q2 => ck (isB (q2.1)) (some (q2.1, q2.2)))))
theorem f_X10_type_ok {G : Gd} {d : Nat} (hj : 2 ≤ d) : ∀ (l0 : Nat) (l1 : Int64) (l3 : Int32) (L : List (Nat × Value)) (h : Hp) (o : (Int32 × Hp)), zlk L 0 = some (zrf (l0)) → zlk L 1 = some (.long (l1)) → zlk L 3 = some (.int (l3)) → f_X10_type l0 l1 l3 h = some o → Ev G M_X10_type d 0 L [] h (Ret Y_X10_type (some (.int o.1)) o.2) := by
  intro l0 l1 l3 L h o g0 g1 g3 e
  unfold f_X10_type at e
  refine g_ald_n d_X10_type_0 rfl g0 ?_
  replace e := ckd e
  obtain ⟨k1, e⟩ := e
  refine g_getR d_X10_type_1 (f := 1100) k1 fk_11_10 rfl rfl ?_
  refine r_lload_n d_X10_type_4 rfl g1 ?_
  refine r_iload_n d_X10_type_5 rfl g3 ?_
  replace e := ckd e
  obtain ⟨k3, e⟩ := e
  replace e := bd e
  obtain ⟨q2, eq2, e⟩ := e
  refine g_callV d_X10_type_6 vk_11_39 (as := [_, _]) rfl k3 rfl (by simp [zrf_cat, cat_int, cat_long]) (j := 1) (by omega) (c_X3_append (by omega) eq2) ?_
  replace e := ckd e
  obtain ⟨k4, e⟩ := e
  cases e
  exact g_iret d_X10_type_9 rfl k4

theorem c_X10_type {G : Gd} {j : Nat} (hj : 2 ≤ j) {l0 : Nat} {l1 : Int64} {l3 : Int32} {h : Hp} {o : (Int32 × Hp)} (e : f_X10_type l0 l1 l3 h = some o) : Cal G j Y_X10_type [zrf (l0), .long (l1), .int (l3)] h (some (.int o.1)) o.2 := Cal.of (n := 0) (I := false) (by decide +kernel) (by decide) (by simp [lg_sl, zrf_cat, cat_int, cat_long]) (f_X10_type_ok hj _ _ _ _ h o (by simp [lv_args, zlk, zrf_cat, cat_int, cat_long]) (by simp [lv_args, zlk, zrf_cat, cat_int, cat_long]) (by simp [lv_args, zlk, zrf_cat, cat_int, cat_long]) e)
theorem fk_11_78 : Fk "TaskWeave" 78 405 := ⟨by decide, by decide, by decide +kernel⟩
def f_X10_fault (l0 : Nat) (h : Hp) : Option (Int32 × Hp) := ck (isO (h) (l0) 11) (ck (isO (h) (zR (h) 1100 (l0)) 4) (some (zI (h) 405 (zR (h) 1100 (l0)), h)))
theorem f_X10_fault_ok {G : Gd} {d : Nat} (hj : 1 ≤ d) : ∀ (l0 : Nat) (L : List (Nat × Value)) (h : Hp) (o : (Int32 × Hp)), zlk L 0 = some (zrf (l0)) → f_X10_fault l0 h = some o → Ev G M_X10_fault d 0 L [] h (Ret Y_X10_fault (some (.int o.1)) o.2) := by
  intro l0 L h o g0 e
  unfold f_X10_fault at e
  refine g_ald_n d_X10_fault_0 rfl g0 ?_
  replace e := ckd e
  obtain ⟨k1, e⟩ := e
  refine g_getR d_X10_fault_1 (f := 1100) k1 fk_11_10 rfl rfl ?_
  replace e := ckd e
  obtain ⟨k2, e⟩ := e
  refine g_getI d_X10_fault_4 (f := 405) k2 fk_11_78 rfl rfl ?_
  cases e
  exact g_iret d_X10_fault_7 rfl rfl

theorem c_X10_fault {G : Gd} {j : Nat} (hj : 1 ≤ j) {l0 : Nat} {h : Hp} {o : (Int32 × Hp)} (e : f_X10_fault l0 h = some o) : Cal G j Y_X10_fault [zrf (l0)] h (some (.int o.1)) o.2 := Cal.of (n := 0) (I := false) (by decide +kernel) (by decide) (by simp [lg_sl, zrf_cat, cat_int, cat_long]) (f_X10_fault_ok hj _ _ h o (by simp [lv_args, zlk, zrf_cat, cat_int, cat_long]) e)
theorem fk_11_18 : Fk "TaskWeave" 18 1103 := ⟨by decide, by decide, by decide +kernel⟩
theorem vk_11_280 : Vk "TaskWeave" 280 1 7 Y_X6_row := ⟨yk_X6_row, by decide +kernel, by decide +kernel, by decide +kernel, by decide⟩
def f_X10_find (l0 : Nat) (l1 : Int32) (h : Hp) : Option (Nat × Hp) := if (0) ≤ (l1) then (ck (isO (h) (l0) 11) (ck (isO (h) (zR (h) 1103 (l0)) 26) (ck (inR ((l1) - (l1) / ((4 : Int32)) * ((4 : Int32))) (zL (h) (zR (h) 1103 (l0)))) (ck (isO (h) (zQ (h) (zR (h) 1103 (l0)) ((l1) - (l1) / ((4 : Int32)) * ((4 : Int32))).toNatClampNeg) 7) ((f_X6_row (zQ (h) (zR (h) 1103 (l0)) ((l1) - (l1) / ((4 : Int32)) * ((4 : Int32))).toNatClampNeg) ((l1) / ((4 : Int32))) (h)).bind (fun q5 => some (q5.1, q5.2))))))) else (some (0, h))
theorem f_X10_find_ok {G : Gd} {d : Nat} (hj : 2 ≤ d) : ∀ (l0 : Nat) (l1 : Int32) (L : List (Nat × Value)) (h : Hp) (o : (Nat × Hp)), zlk L 0 = some (zrf (l0)) → zlk L 1 = some (.int (l1)) → f_X10_find l0 l1 h = some o → Ev G M_X10_find d 0 L [] h (Ret Y_X10_find (some (zrf o.1)) o.2) := by
  intro l0 l1 L h o g0 g1 e
  unfold f_X10_find at e
  refine r_iload_n d_X10_find_0 rfl g1 ?_
  refine r_if_ge d_X10_find_1 (tgt := 8) (by decide) (fun c1 => ?_) (fun c1 => ?_)
  · replace e := (if_pos c1).symm.trans e
    refine g_ald_n d_X10_find_8 rfl g0 ?_
    replace e := ckd e
    obtain ⟨k2, e⟩ := e
    refine g_getR d_X10_find_9 (f := 1103) k2 fk_11_18 rfl rfl ?_
    refine r_iload_n d_X10_find_12 rfl g1 ?_
    refine r_iconst d_X10_find_13 (v := (4 : Int32)) (by decide +kernel) ?_
    refine r_irem d_X10_find_14 (by decide +kernel) ?_
    replace e := ckd e
    obtain ⟨k3, e⟩ := e
    replace e := ckd e
    obtain ⟨k4, e⟩ := e
    refine g_aald d_X10_find_15 k3 (by decide) (by decide) k4 rfl ?_
    refine r_iload_n d_X10_find_16 rfl g1 ?_
    refine r_iconst d_X10_find_17 (v := (4 : Int32)) (by decide +kernel) ?_
    refine r_idiv d_X10_find_18 (by decide +kernel) ?_
    replace e := ckd e
    obtain ⟨k6, e⟩ := e
    replace e := bd e
    obtain ⟨q5, eq5, e⟩ := e
    refine g_callV d_X10_find_19 vk_11_280 (as := [_]) rfl k6 rfl (by simp [zrf_cat, cat_int, cat_long]) (j := 1) (by omega) (c_X6_row (by omega) eq5) ?_
    cases e
    exact g_aret d_X10_find_22 rfl (Or.inl ⟨_, rfl⟩)
  · replace e := (if_neg c1).symm.trans e
    refine g_null d_X10_find_4 ?_
    refine r_goto d_X10_find_5 (tgt := 22) (by decide) ?_
    cases e
    exact g_aret d_X10_find_22 rfl (Or.inl ⟨_, rfl⟩)

theorem c_X10_find {G : Gd} {j : Nat} (hj : 2 ≤ j) {l0 : Nat} {l1 : Int32} {h : Hp} {o : (Nat × Hp)} (e : f_X10_find l0 l1 h = some o) : Cal G j Y_X10_find [zrf (l0), .int (l1)] h (some (zrf o.1)) o.2 := Cal.of (n := 0) (I := false) (by decide +kernel) (by decide) (by simp [lg_sl, zrf_cat, cat_int, cat_long]) (f_X10_find_ok hj _ _ _ h o (by simp [lv_args, zlk, zrf_cat, cat_int, cat_long]) (by simp [lv_args, zlk, zrf_cat, cat_int, cat_long]) e)
theorem fk_11_160 : Fk "TaskWeave" 160 1104 := ⟨by decide, by decide, by decide +kernel⟩
theorem fk_11_151 : Fk "TaskWeave" 151 1003 := ⟨by decide, by decide, by decide +kernel⟩
theorem fk_11_163 : Fk "TaskWeave" 163 904 := ⟨by decide, by decide, by decide +kernel⟩
theorem fk_11_31 : Fk "TaskWeave" 31 1101 := ⟨by decide, by decide, by decide +kernel⟩
theorem fk_11_144 : Fk "TaskWeave" 144 100 := ⟨by decide, by decide, by decide +kernel⟩
theorem fk_11_166 : Fk "TaskWeave" 166 905 := ⟨by decide, by decide, by decide +kernel⟩
theorem vk_11_111 : Vk "TaskWeave" 111 1 11 Y_X10_find := ⟨yk_X10_find, by decide +kernel, by decide +kernel, by decide +kernel, by decide⟩
theorem vk_11_81 : Vk "TaskWeave" 81 0 7 Y_X6_works := ⟨yk_X6_works, by decide +kernel, by decide +kernel, by decide +kernel, by decide⟩
theorem vk_11_147 : Vk "TaskWeave" 147 2 10 Y_X9_offers := ⟨yk_X9_offers, by decide +kernel, by decide +kernel, by decide +kernel, by decide⟩
theorem fk_11_155 : Fk "TaskWeave" 155 903 := ⟨by decide, by decide, by decide +kernel⟩
def f_X10_poll_89 (K4 : Nat → Int32 → Nat → Int32 → Hp → Option (Int32 × Hp)) (l0 : Nat) (l1 : Int32) (l2 : Nat) (l3 : Int32) (h : Hp) : Option (Int32 × Hp) := bh ((l3) + (1 : Int32)) (fun x32 => K4 (l0) (l1) (l2) (x32) (h))
theorem f_X10_poll_89_ok {G : Gd} {d : Nat} (K4 : Nat → Int32 → Nat → Int32 → Hp → Option (Int32 × Hp)) (hj : 3 ≤ d) (hK4 : ∀ (l0 : Nat) (l1 : Int32) (l2 : Nat) (l3 : Int32) (L : List (Nat × Value)) (h : Hp) (o : (Int32 × Hp)), zlk L 0 = some (zrf (l0)) → zlk L 1 = some (.int (l1)) → zlk L 2 = some (zrf (l2)) → zlk L 3 = some (.int (l3)) → K4 l0 l1 l2 l3 h = some o → Ev G M_X10_poll d 4 L [] h (Ret Y_X10_poll (some (.int o.1)) o.2)) : ∀ (l0 : Nat) (l1 : Int32) (l2 : Nat) (l3 : Int32) (L : List (Nat × Value)) (h : Hp) (o : (Int32 × Hp)), zlk L 0 = some (zrf (l0)) → zlk L 1 = some (.int (l1)) → zlk L 2 = some (zrf (l2)) → zlk L 3 = some (.int (l3)) → f_X10_poll_89 K4 l0 l1 l2 l3 h = some o → Ev G M_X10_poll d 89 L [] h (Ret Y_X10_poll (some (.int o.1)) o.2) := by
  intro l0 l1 l2 l3 L h o g0 g1 g2 g3 e
  unfold f_X10_poll_89 at e
  replace e := bhd e
  obtain ⟨_, rfl, e⟩ := e
  refine s_iinc d_X10_poll_89 g3 (w := (1 : Int32)) (by decide +kernel) (by decide) (fun L g3 gK => ?_)
  replace g0 := gK _ _ (by decide) (Or.inr (zrf_cat _)) g0
  replace g1 := gK _ _ (by decide) (Or.inr rfl) g1
  replace g2 := gK _ _ (by decide) (Or.inr (zrf_cat _)) g2
  refine r_goto d_X10_poll_92 (tgt := 4) (by decide) ?_
  exact hK4 _ _ _ _ _ _ _ g0 g1 g2 g3 e

def f_X10_poll_86 (K4 : Nat → Int32 → Nat → Int32 → Hp → Option (Int32 × Hp)) (l0 : Nat) (l1 : Int32) (l3 : Int32) (l4 : Nat) (h : Hp) : Option (Int32 × Hp) := f_X10_poll_89 K4 (l0) (l1) (l4) (l3) (h)
theorem f_X10_poll_86_ok {G : Gd} {d : Nat} (K4 : Nat → Int32 → Nat → Int32 → Hp → Option (Int32 × Hp)) (hj : 3 ≤ d) (hK4 : ∀ (l0 : Nat) (l1 : Int32) (l2 : Nat) (l3 : Int32) (L : List (Nat × Value)) (h : Hp) (o : (Int32 × Hp)), zlk L 0 = some (zrf (l0)) → zlk L 1 = some (.int (l1)) → zlk L 2 = some (zrf (l2)) → zlk L 3 = some (.int (l3)) → K4 l0 l1 l2 l3 h = some o → Ev G M_X10_poll d 4 L [] h (Ret Y_X10_poll (some (.int o.1)) o.2)) : ∀ (l0 : Nat) (l1 : Int32) (l3 : Int32) (l4 : Nat) (L : List (Nat × Value)) (h : Hp) (o : (Int32 × Hp)), zlk L 0 = some (zrf (l0)) → zlk L 1 = some (.int (l1)) → zlk L 3 = some (.int (l3)) → zlk L 4 = some (zrf (l4)) → f_X10_poll_86 K4 l0 l1 l3 l4 h = some o → Ev G M_X10_poll d 86 L [] h (Ret Y_X10_poll (some (.int o.1)) o.2) := by
  intro l0 l1 l3 l4 L h o g0 g1 g3 g4 e
  unfold f_X10_poll_86 at e
  refine g_ald d_X10_poll_86 g4 ?_
  refine s_ast_n d_X10_poll_88 rfl (by decide) (fun L g2 gK => ?_)
  replace g0 := gK _ _ (by decide) (Or.inr (zrf_cat _)) g0
  replace g1 := gK _ _ (by decide) (Or.inr rfl) g1
  replace g3 := gK _ _ (by decide) (Or.inr rfl) g3
  exact f_X10_poll_89_ok _ hj hK4 _ _ _ _ _ _ _ g0 g1 g2 g3 e

def f_X10_poll_57 (K4 : Nat → Int32 → Nat → Int32 → Hp → Option (Int32 × Hp)) (s0 : Int32) (l0 : Nat) (l1 : Int32) (l2 : Nat) (l3 : Int32) (l4 : Nat) (h : Hp) : Option (Int32 × Hp) := if (s0) = (0) then (f_X10_poll_89 K4 (l0) (l1) (l2) (l3) (h)) else (if (l2) = 0 then (f_X10_poll_86 K4 (l0) (l1) (l3) (l4) (h)) else (ck (isO (h) (l4) 10) (ck (isO (h) (zR (h) 1003 (l4)) 9) (ck (isO (h) (l2) 10) (ck (isO (h) (zR (h) 1003 (l2)) 9) (if (zI (h) 903 (zR (h) 1003 (l2))) ≤ (zI (h) 903 (zR (h) 1003 (l4))) then (f_X10_poll_89 K4 (l0) (l1) (l2) (l3) (h)) else (f_X10_poll_86 K4 (l0) (l1) (l3) (l4) (h))))))))
theorem f_X10_poll_57_ok {G : Gd} {d : Nat} (K4 : Nat → Int32 → Nat → Int32 → Hp → Option (Int32 × Hp)) (hj : 3 ≤ d) (hK4 : ∀ (l0 : Nat) (l1 : Int32) (l2 : Nat) (l3 : Int32) (L : List (Nat × Value)) (h : Hp) (o : (Int32 × Hp)), zlk L 0 = some (zrf (l0)) → zlk L 1 = some (.int (l1)) → zlk L 2 = some (zrf (l2)) → zlk L 3 = some (.int (l3)) → K4 l0 l1 l2 l3 h = some o → Ev G M_X10_poll d 4 L [] h (Ret Y_X10_poll (some (.int o.1)) o.2)) : ∀ (s0 : Int32) (l0 : Nat) (l1 : Int32) (l2 : Nat) (l3 : Int32) (l4 : Nat) (L : List (Nat × Value)) (h : Hp) (o : (Int32 × Hp)), zlk L 0 = some (zrf (l0)) → zlk L 1 = some (.int (l1)) → zlk L 2 = some (zrf (l2)) → zlk L 3 = some (.int (l3)) → zlk L 4 = some (zrf (l4)) → f_X10_poll_57 K4 s0 l0 l1 l2 l3 l4 h = some o → Ev G M_X10_poll d 57 L [.int (s0)] h (Ret Y_X10_poll (some (.int o.1)) o.2) := by
  intro s0 l0 l1 l2 l3 l4 L h o g0 g1 g2 g3 g4 e
  unfold f_X10_poll_57 at e
  refine s_istore d_X10_poll_57 (by decide) (fun L g5 gK => ?_)
  replace g0 := gK _ _ (by decide) (Or.inr (zrf_cat _)) g0
  replace g1 := gK _ _ (by decide) (Or.inr rfl) g1
  replace g2 := gK _ _ (by decide) (Or.inr (zrf_cat _)) g2
  replace g3 := gK _ _ (by decide) (Or.inr rfl) g3
  replace g4 := gK _ _ (by decide) (Or.inr (zrf_cat _)) g4
  refine r_iload d_X10_poll_59 g5 ?_
  refine r_if_eq d_X10_poll_61 (tgt := 89) (by decide) (fun c25 => ?_) (fun c25 => ?_)
  · replace e := (if_pos c25).symm.trans e
    exact f_X10_poll_89_ok _ hj hK4 _ _ _ _ _ _ _ g0 g1 g2 g3 e
  · replace e := (if_neg c25).symm.trans e
    refine g_ald_n d_X10_poll_64 rfl g2 ?_
    refine g_ifnull d_X10_poll_65 (tgt := 86) (by decide) (fun c26 => ?_) (fun c26 => ?_)
    · replace e := (if_pos c26).symm.trans e
      exact f_X10_poll_86_ok _ hj hK4 _ _ _ _ _ _ _ g0 g1 g3 g4 e
    · replace e := (if_neg c26).symm.trans e
      refine g_ald d_X10_poll_68 g4 ?_
      replace e := ckd e
      obtain ⟨k27, e⟩ := e
      refine g_getR d_X10_poll_70 (f := 1003) k27 fk_11_151 rfl rfl ?_
      replace e := ckd e
      obtain ⟨k28, e⟩ := e
      refine g_getI d_X10_poll_73 (f := 903) k28 fk_11_155 rfl rfl ?_
      refine g_ald_n d_X10_poll_76 rfl g2 ?_
      replace e := ckd e
      obtain ⟨k29, e⟩ := e
      refine g_getR d_X10_poll_77 (f := 1003) k29 fk_11_151 rfl rfl ?_
      replace e := ckd e
      obtain ⟨k30, e⟩ := e
      refine g_getI d_X10_poll_80 (f := 903) k30 fk_11_155 rfl rfl ?_
      refine r_icmp_ge d_X10_poll_83 (tgt := 89) (by decide) (fun c31 => ?_) (fun c31 => ?_)
      · replace e := (if_pos c31).symm.trans e
        exact f_X10_poll_89_ok _ hj hK4 _ _ _ _ _ _ _ g0 g1 g2 g3 e
      · replace e := (if_neg c31).symm.trans e
        exact f_X10_poll_86_ok _ hj hK4 _ _ _ _ _ _ _ g0 g1 g3 g4 e

def f_X10_poll_56 (K4 : Nat → Int32 → Nat → Int32 → Hp → Option (Int32 × Hp)) (l0 : Nat) (l1 : Int32) (l2 : Nat) (l3 : Int32) (l4 : Nat) (h : Hp) : Option (Int32 × Hp) := f_X10_poll_57 K4 ((0 : Int32)) (l0) (l1) (l2) (l3) (l4) (h)
theorem f_X10_poll_56_ok {G : Gd} {d : Nat} (K4 : Nat → Int32 → Nat → Int32 → Hp → Option (Int32 × Hp)) (hj : 3 ≤ d) (hK4 : ∀ (l0 : Nat) (l1 : Int32) (l2 : Nat) (l3 : Int32) (L : List (Nat × Value)) (h : Hp) (o : (Int32 × Hp)), zlk L 0 = some (zrf (l0)) → zlk L 1 = some (.int (l1)) → zlk L 2 = some (zrf (l2)) → zlk L 3 = some (.int (l3)) → K4 l0 l1 l2 l3 h = some o → Ev G M_X10_poll d 4 L [] h (Ret Y_X10_poll (some (.int o.1)) o.2)) : ∀ (l0 : Nat) (l1 : Int32) (l2 : Nat) (l3 : Int32) (l4 : Nat) (L : List (Nat × Value)) (h : Hp) (o : (Int32 × Hp)), zlk L 0 = some (zrf (l0)) → zlk L 1 = some (.int (l1)) → zlk L 2 = some (zrf (l2)) → zlk L 3 = some (.int (l3)) → zlk L 4 = some (zrf (l4)) → f_X10_poll_56 K4 l0 l1 l2 l3 l4 h = some o → Ev G M_X10_poll d 56 L [] h (Ret Y_X10_poll (some (.int o.1)) o.2) := by
  intro l0 l1 l2 l3 l4 L h o g0 g1 g2 g3 g4 e
  unfold f_X10_poll_56 at e
  refine r_iconst d_X10_poll_56 (v := (0 : Int32)) (by decide +kernel) ?_
  exact f_X10_poll_57_ok _ hj hK4 _ _ _ _ _ _ _ _ _ g0 g1 g2 g3 g4 e

def f_X10_poll_4 : Nat → Nat → Int32 → Nat → Int32 → Hp → Option (Int32 × Hp)
  | 0, _, _, _, _, _ => none
  | n + 1, l0, l1, l2, l3, h => if ((64 : Int32)) ≤ (l3) then (if (l2) = 0 then (some ((-1 : Int32), h)) else (ck (isO (h) (l0) 11) (bh (pI (h) 1104 (l0) ((zI (h) 1104 (l0)) + ((1 : Int32)))) (fun h4 => ck (isO (h4) (l2) 10) (ck (isO (h4) (zR (h4) 1003 (l2)) 9) (bh (pI (h4) 904 (zR (h4) 1003 (l2)) (zI (h4) 1104 (l0))) (fun h7 => ck (isO (h7) (zR (h7) 1101 (l0)) 1) (ck (isO (h7) (zR (h7) 1003 (l2)) 9) (bh (pI (h7) 905 (zR (h7) 1003 (l2)) ((zI (h7) 100 (zR (h7) 1101 (l0))) + ((10 : Int32)))) (fun h10 => some (zI (h10) 1104 (l0), h10))))))))))) else (ck (isO (h) (l0) 11) ((f_X10_find (l0) (l3) (h)).bind (fun q11 => if (q11.1) = 0 then (f_X10_poll_56 (f_X10_poll_4 n ) (l0) (l1) (l2) (l3) (q11.1) (q11.2)) else (ck (isO (q11.2) (l0) 11) (ck (isO (q11.2) (zR (q11.2) 1103 (l0)) 26) (ck (inR ((l3) - (l3) / ((4 : Int32)) * ((4 : Int32))) (zL (q11.2) (zR (q11.2) 1103 (l0)))) (ck (isO (q11.2) (zQ (q11.2) (zR (q11.2) 1103 (l0)) ((l3) - (l3) / ((4 : Int32)) * ((4 : Int32))).toNatClampNeg) 7) ((f_X6_works (zQ (q11.2) (zR (q11.2) 1103 (l0)) ((l3) - (l3) / ((4 : Int32)) * ((4 : Int32))).toNatClampNeg) (q11.2)).bind (fun q17 => if (q17.1) = (0) then (f_X10_poll_56 (f_X10_poll_4 n ) (l0) (l1) (l2) (l3) (q11.1) (q17.2)) else (ck (isO (q17.2) (l0) 11) (ck (isO (q17.2) (zR (q17.2) 1101 (l0)) 1) (ck (isO (q17.2) (q11.1) 10) ((f_X9_offers (q11.1) (l1) (zI (q17.2) 100 (zR (q17.2) 1101 (l0))) (q17.2)).bind (fun q22 => if (q22.1) = (0) then (f_X10_poll_56 (f_X10_poll_4 n ) (l0) (l1) (l2) (l3) (q11.1) (q22.2)) else (f_X10_poll_57 (f_X10_poll_4 n ) ((1 : Int32)) (l0) (l1) (l2) (l3) (q11.1) (q22.2))))))))))))))))
theorem f_X10_poll_4_ok {G : Gd} {d : Nat} (hj : 3 ≤ d) : ∀ (n : Nat) (l0 : Nat) (l1 : Int32) (l2 : Nat) (l3 : Int32) (L : List (Nat × Value)) (h : Hp) (o : (Int32 × Hp)), zlk L 0 = some (zrf (l0)) → zlk L 1 = some (.int (l1)) → zlk L 2 = some (zrf (l2)) → zlk L 3 = some (.int (l3)) → f_X10_poll_4 n l0 l1 l2 l3 h = some o → Ev G M_X10_poll d 4 L [] h (Ret Y_X10_poll (some (.int o.1)) o.2) := by
  intro n
  induction n with
  | zero =>
    intro l0 l1 l2 l3 L h o g0 g1 g2 g3 e
    cases e
  | succ n ih =>
    intro l0 l1 l2 l3 L h o g0 g1 g2 g3 e
    unfold f_X10_poll_4 at e
    refine r_iload_n d_X10_poll_4 rfl g3 ?_
    refine r_bipush d_X10_poll_5 (v := (64 : Int32)) (by decide +kernel) ?_
    refine r_icmp_ge d_X10_poll_7 (tgt := 95) (by decide) (fun c1 => ?_) (fun c1 => ?_)
    · replace e := (if_pos c1).symm.trans e
      refine g_ald_n d_X10_poll_95 rfl g2 ?_
      refine g_ifnonnull d_X10_poll_96 (tgt := 101) (by decide) (fun c2 => ?_) (fun c2 => ?_)
      · replace e := (if_neg c2).symm.trans e
        refine g_ald_n d_X10_poll_101 rfl g0 ?_
        refine r_dup d_X10_poll_102 (zrf_cat _) ?_
        replace e := ckd e
        obtain ⟨k3, e⟩ := e
        refine g_getI d_X10_poll_103 (f := 1104) k3 fk_11_160 rfl rfl ?_
        refine r_iconst d_X10_poll_106 (v := (1 : Int32)) (by decide +kernel) ?_
        refine r_iadd d_X10_poll_107 ?_
        refine g_putI d_X10_poll_108 (f := 1104) k3 fk_11_160 rfl (Or.inl rfl) ⟨rfl, rfl⟩ ?_
        replace e := bhd e
        obtain ⟨_, rfl, e⟩ := e
        refine g_ald_n d_X10_poll_111 rfl g2 ?_
        replace e := ckd e
        obtain ⟨k5, e⟩ := e
        refine g_getR d_X10_poll_112 (f := 1003) k5 fk_11_151 rfl rfl ?_
        refine g_ald_n d_X10_poll_115 rfl g0 ?_
        refine g_getI d_X10_poll_116 (f := 1104) (tO_pI k3) fk_11_160 rfl rfl ?_
        replace e := ckd e
        obtain ⟨k6, e⟩ := e
        refine g_putI d_X10_poll_119 (f := 904) k6 fk_11_163 rfl (Or.inl rfl) ⟨rfl, rfl⟩ ?_
        replace e := bhd e
        obtain ⟨_, rfl, e⟩ := e
        refine g_ald_n d_X10_poll_122 rfl g2 ?_
        refine g_getR d_X10_poll_123 (f := 1003) (tO_pI k5) fk_11_151 rfl rfl ?_
        refine g_ald_n d_X10_poll_126 rfl g0 ?_
        refine g_getR d_X10_poll_127 (f := 1101) (tO_pI (tO_pI k3)) fk_11_31 rfl rfl ?_
        replace e := ckd e
        obtain ⟨k8, e⟩ := e
        refine g_getI d_X10_poll_130 (f := 100) k8 fk_11_144 rfl rfl ?_
        refine r_bipush d_X10_poll_133 (v := (10 : Int32)) (by decide +kernel) ?_
        refine r_iadd d_X10_poll_135 ?_
        replace e := ckd e
        obtain ⟨k9, e⟩ := e
        refine g_putI d_X10_poll_136 (f := 905) k9 fk_11_166 rfl (Or.inl rfl) ⟨rfl, rfl⟩ ?_
        replace e := bhd e
        obtain ⟨_, rfl, e⟩ := e
        refine g_ald_n d_X10_poll_139 rfl g0 ?_
        refine g_getI d_X10_poll_140 (f := 1104) (tO_pI (tO_pI (tO_pI k3))) fk_11_160 rfl rfl ?_
        cases e
        exact g_iret d_X10_poll_143 rfl rfl
      · replace e := (if_pos c2).symm.trans e
        refine r_iconst d_X10_poll_99 (v := (-1 : Int32)) (by decide +kernel) ?_
        cases e
        exact g_iret d_X10_poll_100 rfl rfl
    · replace e := (if_neg c1).symm.trans e
      refine g_ald_n d_X10_poll_10 rfl g0 ?_
      refine r_iload_n d_X10_poll_11 rfl g3 ?_
      replace e := ckd e
      obtain ⟨k12, e⟩ := e
      replace e := bd e
      obtain ⟨q11, eq11, e⟩ := e
      refine g_callV d_X10_poll_12 vk_11_111 (as := [_]) rfl k12 rfl (by simp [zrf_cat, cat_int, cat_long]) (j := 2) (by omega) (c_X10_find (by omega) eq11) ?_
      refine s_ast d_X10_poll_15 (by decide) (fun L g4 gK => ?_)
      replace g0 := gK _ _ (by decide) (Or.inr (zrf_cat _)) g0
      replace g1 := gK _ _ (by decide) (Or.inr rfl) g1
      replace g2 := gK _ _ (by decide) (Or.inr (zrf_cat _)) g2
      replace g3 := gK _ _ (by decide) (Or.inr rfl) g3
      refine g_ald d_X10_poll_17 g4 ?_
      refine g_ifnull d_X10_poll_19 (tgt := 56) (by decide) (fun c13 => ?_) (fun c13 => ?_)
      · replace e := (if_pos c13).symm.trans e
        exact f_X10_poll_56_ok _ hj ih _ _ _ _ _ _ _ _ g0 g1 g2 g3 g4 e
      · replace e := (if_neg c13).symm.trans e
        refine g_ald_n d_X10_poll_22 rfl g0 ?_
        replace e := ckd e
        obtain ⟨k14, e⟩ := e
        refine g_getR d_X10_poll_23 (f := 1103) k14 fk_11_18 rfl rfl ?_
        refine r_iload_n d_X10_poll_26 rfl g3 ?_
        refine r_iconst d_X10_poll_27 (v := (4 : Int32)) (by decide +kernel) ?_
        refine r_irem d_X10_poll_28 (by decide +kernel) ?_
        replace e := ckd e
        obtain ⟨k15, e⟩ := e
        replace e := ckd e
        obtain ⟨k16, e⟩ := e
        refine g_aald d_X10_poll_29 k15 (by decide) (by decide) k16 rfl ?_
        replace e := ckd e
        obtain ⟨k18, e⟩ := e
        replace e := bd e
        obtain ⟨q17, eq17, e⟩ := e
        refine g_callV d_X10_poll_30 vk_11_81 (as := []) rfl k18 rfl (by simp [zrf_cat, cat_int, cat_long]) (j := 1) (by omega) (c_X6_works (by omega) eq17) ?_
        refine r_if_eq d_X10_poll_33 (tgt := 56) (by decide) (fun c19 => ?_) (fun c19 => ?_)
        · replace e := (if_pos c19).symm.trans e
          exact f_X10_poll_56_ok _ hj ih _ _ _ _ _ _ _ _ g0 g1 g2 g3 g4 e
        · replace e := (if_neg c19).symm.trans e
          refine g_ald d_X10_poll_36 g4 ?_
          refine r_iload_n d_X10_poll_38 rfl g1 ?_
          refine g_ald_n d_X10_poll_39 rfl g0 ?_
          replace e := ckd e
          obtain ⟨k20, e⟩ := e
          refine g_getR d_X10_poll_40 (f := 1101) k20 fk_11_31 rfl rfl ?_
          replace e := ckd e
          obtain ⟨k21, e⟩ := e
          refine g_getI d_X10_poll_43 (f := 100) k21 fk_11_144 rfl rfl ?_
          replace e := ckd e
          obtain ⟨k23, e⟩ := e
          replace e := bd e
          obtain ⟨q22, eq22, e⟩ := e
          refine g_callV d_X10_poll_46 vk_11_147 (as := [_, _]) rfl k23 rfl (by simp [zrf_cat, cat_int, cat_long]) (j := 1) (by omega) (c_X9_offers (by omega) eq22) ?_
          refine r_if_eq d_X10_poll_49 (tgt := 56) (by decide) (fun c24 => ?_) (fun c24 => ?_)
          · replace e := (if_pos c24).symm.trans e
            exact f_X10_poll_56_ok _ hj ih _ _ _ _ _ _ _ _ g0 g1 g2 g3 g4 e
          · replace e := (if_neg c24).symm.trans e
            refine r_iconst d_X10_poll_52 (v := (1 : Int32)) (by decide +kernel) ?_
            refine r_goto d_X10_poll_53 (tgt := 57) (by decide) ?_
            exact f_X10_poll_57_ok _ hj ih _ _ _ _ _ _ _ _ _ g0 g1 g2 g3 g4 e

def f_X10_poll (l0 : Nat) (l1 : Int32) (h : Hp) : Option (Int32 × Hp) := f_X10_poll_4 fz (l0) (l1) (0) ((0 : Int32)) (h)
theorem f_X10_poll_ok {G : Gd} {d : Nat} (hj : 3 ≤ d) : ∀ (l0 : Nat) (l1 : Int32) (L : List (Nat × Value)) (h : Hp) (o : (Int32 × Hp)), zlk L 0 = some (zrf (l0)) → zlk L 1 = some (.int (l1)) → f_X10_poll l0 l1 h = some o → Ev G M_X10_poll d 0 L [] h (Ret Y_X10_poll (some (.int o.1)) o.2) := by
  intro l0 l1 L h o g0 g1 e
  unfold f_X10_poll at e
  refine g_null d_X10_poll_0 ?_
  refine s_ast_n d_X10_poll_1 rfl (by decide) (fun L g2 gK => ?_)
  replace g0 := gK _ _ (by decide) (Or.inr (zrf_cat _)) g0
  replace g1 := gK _ _ (by decide) (Or.inr rfl) g1
  refine r_iconst d_X10_poll_2 (v := (0 : Int32)) (by decide +kernel) ?_
  refine s_istore_n d_X10_poll_3 rfl (by decide) (fun L g3 gK => ?_)
  replace g0 := gK _ _ (by decide) (Or.inr (zrf_cat _)) g0
  replace g1 := gK _ _ (by decide) (Or.inr rfl) g1
  replace g2 := gK _ _ (by decide) (Or.inr (zrf_cat _)) g2
  exact f_X10_poll_4_ok hj _ _ _ _ _ _ _ _ g0 g1 g2 g3 e

theorem c_X10_poll {G : Gd} {j : Nat} (hj : 3 ≤ j) {l0 : Nat} {l1 : Int32} {h : Hp} {o : (Int32 × Hp)} (e : f_X10_poll l0 l1 h = some o) : Cal G j Y_X10_poll [zrf (l0), .int (l1)] h (some (.int o.1)) o.2 := Cal.of (n := 0) (I := false) (by decide +kernel) (by decide) (by simp [lg_sl, zrf_cat, cat_int, cat_long]) (f_X10_poll_ok hj _ _ _ h o (by simp [lv_args, zlk, zrf_cat, cat_int, cat_long]) (by simp [lv_args, zlk, zrf_cat, cat_int, cat_long]) e)
def f_X10_leased_35 (K2 : Nat → Int32 → Int32 → Hp → Option (Nat × Hp)) (l0 : Nat) (l1 : Int32) (l2 : Int32) (h : Hp) : Option (Nat × Hp) := bh ((l2) + (1 : Int32)) (fun x9 => K2 (l0) (l1) (x9) (h))
theorem f_X10_leased_35_ok {G : Gd} {d : Nat} (K2 : Nat → Int32 → Int32 → Hp → Option (Nat × Hp)) (hj : 3 ≤ d) (hK2 : ∀ (l0 : Nat) (l1 : Int32) (l2 : Int32) (L : List (Nat × Value)) (h : Hp) (o : (Nat × Hp)), zlk L 0 = some (zrf (l0)) → zlk L 1 = some (.int (l1)) → zlk L 2 = some (.int (l2)) → K2 l0 l1 l2 h = some o → Ev G M_X10_leased d 2 L [] h (Ret Y_X10_leased (some (zrf o.1)) o.2)) : ∀ (l0 : Nat) (l1 : Int32) (l2 : Int32) (L : List (Nat × Value)) (h : Hp) (o : (Nat × Hp)), zlk L 0 = some (zrf (l0)) → zlk L 1 = some (.int (l1)) → zlk L 2 = some (.int (l2)) → f_X10_leased_35 K2 l0 l1 l2 h = some o → Ev G M_X10_leased d 35 L [] h (Ret Y_X10_leased (some (zrf o.1)) o.2) := by
  intro l0 l1 l2 L h o g0 g1 g2 e
  unfold f_X10_leased_35 at e
  replace e := bhd e
  obtain ⟨_, rfl, e⟩ := e
  refine s_iinc d_X10_leased_35 g2 (w := (1 : Int32)) (by decide +kernel) (by decide) (fun L g2 gK => ?_)
  replace g0 := gK _ _ (by decide) (Or.inr (zrf_cat _)) g0
  replace g1 := gK _ _ (by decide) (Or.inr rfl) g1
  refine r_goto d_X10_leased_38 (tgt := 2) (by decide) ?_
  exact hK2 _ _ _ _ _ _ g0 g1 g2 e

def f_X10_leased_2 : Nat → Nat → Int32 → Int32 → Hp → Option (Nat × Hp)
  | 0, _, _, _, _ => none
  | n + 1, l0, l1, l2, h => if ((64 : Int32)) ≤ (l2) then (some (0, h)) else (if (l1) ≤ (0) then (some (0, h)) else (ck (isO (h) (l0) 11) ((f_X10_find (l0) (l2) (h)).bind (fun q3 => if (q3.1) = 0 then (f_X10_leased_35 (f_X10_leased_2 n ) (l0) (l1) (l2) (q3.2)) else (ck (isO (q3.2) (q3.1) 10) (ck (isO (q3.2) (zR (q3.2) 1003 (q3.1)) 9) (if (zI (q3.2) 904 (zR (q3.2) 1003 (q3.1))) = (l1) then (some (q3.1, q3.2)) else (f_X10_leased_35 (f_X10_leased_2 n ) (l0) (l1) (l2) (q3.2)))))))))
theorem f_X10_leased_2_ok {G : Gd} {d : Nat} (hj : 3 ≤ d) : ∀ (n : Nat) (l0 : Nat) (l1 : Int32) (l2 : Int32) (L : List (Nat × Value)) (h : Hp) (o : (Nat × Hp)), zlk L 0 = some (zrf (l0)) → zlk L 1 = some (.int (l1)) → zlk L 2 = some (.int (l2)) → f_X10_leased_2 n l0 l1 l2 h = some o → Ev G M_X10_leased d 2 L [] h (Ret Y_X10_leased (some (zrf o.1)) o.2) := by
  intro n
  induction n with
  | zero =>
    intro l0 l1 l2 L h o g0 g1 g2 e
    cases e
  | succ n ih =>
    intro l0 l1 l2 L h o g0 g1 g2 e
    unfold f_X10_leased_2 at e
    refine r_iload_n d_X10_leased_2 rfl g2 ?_
    refine r_bipush d_X10_leased_3 (v := (64 : Int32)) (by decide +kernel) ?_
    refine r_icmp_ge d_X10_leased_5 (tgt := 41) (by decide) (fun c1 => ?_) (fun c1 => ?_)
    · replace e := (if_pos c1).symm.trans e
      refine g_null d_X10_leased_41 ?_
      cases e
      exact g_aret d_X10_leased_42 rfl (Or.inl ⟨_, rfl⟩)
    · replace e := (if_neg c1).symm.trans e
      refine r_iload_n d_X10_leased_8 rfl g1 ?_
      refine r_if_le d_X10_leased_9 (tgt := 41) (by decide) (fun c2 => ?_) (fun c2 => ?_)
      · replace e := (if_pos c2).symm.trans e
        refine g_null d_X10_leased_41 ?_
        cases e
        exact g_aret d_X10_leased_42 rfl (Or.inl ⟨_, rfl⟩)
      · replace e := (if_neg c2).symm.trans e
        refine g_ald_n d_X10_leased_12 rfl g0 ?_
        refine r_iload_n d_X10_leased_13 rfl g2 ?_
        replace e := ckd e
        obtain ⟨k4, e⟩ := e
        replace e := bd e
        obtain ⟨q3, eq3, e⟩ := e
        refine g_callV d_X10_leased_14 vk_11_111 (as := [_]) rfl k4 rfl (by simp [zrf_cat, cat_int, cat_long]) (j := 2) (by omega) (c_X10_find (by omega) eq3) ?_
        refine s_ast_n d_X10_leased_17 rfl (by decide) (fun L g3 gK => ?_)
        replace g0 := gK _ _ (by decide) (Or.inr (zrf_cat _)) g0
        replace g1 := gK _ _ (by decide) (Or.inr rfl) g1
        replace g2 := gK _ _ (by decide) (Or.inr rfl) g2
        refine g_ald_n d_X10_leased_18 rfl g3 ?_
        refine g_ifnull d_X10_leased_19 (tgt := 35) (by decide) (fun c5 => ?_) (fun c5 => ?_)
        · replace e := (if_pos c5).symm.trans e
          exact f_X10_leased_35_ok _ hj ih _ _ _ _ _ _ g0 g1 g2 e
        · replace e := (if_neg c5).symm.trans e
          refine g_ald_n d_X10_leased_22 rfl g3 ?_
          replace e := ckd e
          obtain ⟨k6, e⟩ := e
          refine g_getR d_X10_leased_23 (f := 1003) k6 fk_11_151 rfl rfl ?_
          replace e := ckd e
          obtain ⟨k7, e⟩ := e
          refine g_getI d_X10_leased_26 (f := 904) k7 fk_11_163 rfl rfl ?_
          refine r_iload_n d_X10_leased_29 rfl g1 ?_
          refine r_icmp_ne d_X10_leased_30 (tgt := 35) (by decide) (fun c8 => ?_) (fun c8 => ?_)
          · replace e := (if_neg c8).symm.trans e
            exact f_X10_leased_35_ok _ hj ih _ _ _ _ _ _ g0 g1 g2 e
          · replace e := (if_pos c8).symm.trans e
            refine g_ald_n d_X10_leased_33 rfl g3 ?_
            cases e
            exact g_aret d_X10_leased_34 rfl (Or.inl ⟨_, rfl⟩)

def f_X10_leased (l0 : Nat) (l1 : Int32) (h : Hp) : Option (Nat × Hp) := f_X10_leased_2 fz (l0) (l1) ((0 : Int32)) (h)
theorem f_X10_leased_ok {G : Gd} {d : Nat} (hj : 3 ≤ d) : ∀ (l0 : Nat) (l1 : Int32) (L : List (Nat × Value)) (h : Hp) (o : (Nat × Hp)), zlk L 0 = some (zrf (l0)) → zlk L 1 = some (.int (l1)) → f_X10_leased l0 l1 h = some o → Ev G M_X10_leased d 0 L [] h (Ret Y_X10_leased (some (zrf o.1)) o.2) := by
  intro l0 l1 L h o g0 g1 e
  unfold f_X10_leased at e
  refine r_iconst d_X10_leased_0 (v := (0 : Int32)) (by decide +kernel) ?_
  refine s_istore_n d_X10_leased_1 rfl (by decide) (fun L g2 gK => ?_)
  replace g0 := gK _ _ (by decide) (Or.inr (zrf_cat _)) g0
  replace g1 := gK _ _ (by decide) (Or.inr rfl) g1
  exact f_X10_leased_2_ok hj _ _ _ _ _ _ _ g0 g1 g2 e

theorem c_X10_leased {G : Gd} {j : Nat} (hj : 3 ≤ j) {l0 : Nat} {l1 : Int32} {h : Hp} {o : (Nat × Hp)} (e : f_X10_leased l0 l1 h = some o) : Cal G j Y_X10_leased [zrf (l0), .int (l1)] h (some (zrf o.1)) o.2 := Cal.of (n := 0) (I := false) (by decide +kernel) (by decide) (by simp [lg_sl, zrf_cat, cat_int, cat_long]) (f_X10_leased_ok hj _ _ _ h o (by simp [lv_args, zlk, zrf_cat, cat_int, cat_long]) (by simp [lv_args, zlk, zrf_cat, cat_int, cat_long]) e)
theorem vk_11_169 : Vk "TaskWeave" 169 1 11 Y_X10_leased := ⟨yk_X10_leased, by decide +kernel, by decide +kernel, by decide +kernel, by decide⟩
def f_X10_beat (l0 : Nat) (l1 : Int32) (h : Hp) : Option (Int32 × Hp) := ck (isO (h) (l0) 11) ((f_X10_leased (l0) (l1) (h)).bind (fun q1 => if (q1.1) = 0 then (some ((0 : Int32), q1.2)) else (ck (isO (q1.2) (q1.1) 10) (ck (isO (q1.2) (l0) 11) (ck (isO (q1.2) (zR (q1.2) 1101 (l0)) 1) (ck (isO (q1.2) (zR (q1.2) 1003 (q1.1)) 9) (bh (pI (q1.2) 905 (zR (q1.2) 1003 (q1.1)) ((zI (q1.2) 100 (zR (q1.2) 1101 (l0))) + ((10 : Int32)))) (fun h8 => some ((1 : Int32), h8)))))))))
theorem f_X10_beat_ok {G : Gd} {d : Nat} (hj : 4 ≤ d) : ∀ (l0 : Nat) (l1 : Int32) (L : List (Nat × Value)) (h : Hp) (o : (Int32 × Hp)), zlk L 0 = some (zrf (l0)) → zlk L 1 = some (.int (l1)) → f_X10_beat l0 l1 h = some o → Ev G M_X10_beat d 0 L [] h (Ret Y_X10_beat (some (.int o.1)) o.2) := by
  intro l0 l1 L h o g0 g1 e
  unfold f_X10_beat at e
  refine g_ald_n d_X10_beat_0 rfl g0 ?_
  refine r_iload_n d_X10_beat_1 rfl g1 ?_
  replace e := ckd e
  obtain ⟨k2, e⟩ := e
  replace e := bd e
  obtain ⟨q1, eq1, e⟩ := e
  refine g_callV d_X10_beat_2 vk_11_169 (as := [_]) rfl k2 rfl (by simp [zrf_cat, cat_int, cat_long]) (j := 3) (by omega) (c_X10_leased (by omega) eq1) ?_
  refine s_ast_n d_X10_beat_5 rfl (by decide) (fun L g2 gK => ?_)
  replace g0 := gK _ _ (by decide) (Or.inr (zrf_cat _)) g0
  refine g_ald_n d_X10_beat_6 rfl g2 ?_
  refine g_ifnonnull d_X10_beat_7 (tgt := 12) (by decide) (fun c3 => ?_) (fun c3 => ?_)
  · replace e := (if_neg c3).symm.trans e
    refine g_ald_n d_X10_beat_12 rfl g2 ?_
    replace e := ckd e
    obtain ⟨k4, e⟩ := e
    refine g_getR d_X10_beat_13 (f := 1003) k4 fk_11_151 rfl rfl ?_
    refine g_ald_n d_X10_beat_16 rfl g0 ?_
    replace e := ckd e
    obtain ⟨k5, e⟩ := e
    refine g_getR d_X10_beat_17 (f := 1101) k5 fk_11_31 rfl rfl ?_
    replace e := ckd e
    obtain ⟨k6, e⟩ := e
    refine g_getI d_X10_beat_20 (f := 100) k6 fk_11_144 rfl rfl ?_
    refine r_bipush d_X10_beat_23 (v := (10 : Int32)) (by decide +kernel) ?_
    refine r_iadd d_X10_beat_25 ?_
    replace e := ckd e
    obtain ⟨k7, e⟩ := e
    refine g_putI d_X10_beat_26 (f := 905) k7 fk_11_166 rfl (Or.inl rfl) ⟨rfl, rfl⟩ ?_
    replace e := bhd e
    obtain ⟨_, rfl, e⟩ := e
    refine r_iconst d_X10_beat_29 (v := (1 : Int32)) (by decide +kernel) ?_
    cases e
    exact g_iret d_X10_beat_30 rfl rfl
  · replace e := (if_pos c3).symm.trans e
    refine r_iconst d_X10_beat_10 (v := (0 : Int32)) (by decide +kernel) ?_
    cases e
    exact g_iret d_X10_beat_11 rfl rfl

theorem c_X10_beat {G : Gd} {j : Nat} (hj : 4 ≤ j) {l0 : Nat} {l1 : Int32} {h : Hp} {o : (Int32 × Hp)} (e : f_X10_beat l0 l1 h = some o) : Cal G j Y_X10_beat [zrf (l0), .int (l1)] h (some (.int o.1)) o.2 := Cal.of (n := 0) (I := false) (by decide +kernel) (by decide) (by simp [lg_sl, zrf_cat, cat_int, cat_long]) (f_X10_beat_ok hj _ _ _ h o (by simp [lv_args, zlk, zrf_cat, cat_int, cat_long]) (by simp [lv_args, zlk, zrf_cat, cat_int, cat_long]) e)
theorem fk_11_89 : Fk "TaskWeave" 89 1000 := ⟨by decide, by decide, by decide +kernel⟩
theorem fk_11_176 : Fk "TaskWeave" 176 901 := ⟨by decide, by decide, by decide +kernel⟩
theorem fk_11_179 : Fk "TaskWeave" 179 902 := ⟨by decide, by decide, by decide +kernel⟩
def f_X10_task (l0 : Nat) (l1 : Int32) (l2 : Int32) (h : Hp) : Option (Int32 × Hp) := ck (isO (h) (l0) 11) ((f_X10_leased (l0) (l1) (h)).bind (fun q1 => if (q1.1) = 0 then (some ((-1 : Int32), q1.2)) else (if (l2) = (0 : Int32) then (ck (isO (q1.2) (q1.1) 10) (some (zI (q1.2) 1000 (q1.1), q1.2))) else (if (l2) = (1 : Int32) then (ck (isO (q1.2) (q1.1) 10) (ck (isO (q1.2) (zR (q1.2) 1003 (q1.1)) 9) (some (zI (q1.2) 901 (zR (q1.2) 1003 (q1.1)), q1.2)))) else (if (l2) = (2 : Int32) then (ck (isO (q1.2) (q1.1) 10) (ck (isO (q1.2) (zR (q1.2) 1003 (q1.1)) 9) (some (zI (q1.2) 902 (zR (q1.2) 1003 (q1.1)), q1.2)))) else (if (l2) = (3 : Int32) then (ck (isO (q1.2) (q1.1) 10) (ck (isO (q1.2) (zR (q1.2) 1003 (q1.1)) 9) (some (zI (q1.2) 905 (zR (q1.2) 1003 (q1.1)), q1.2)))) else (some ((-1 : Int32), q1.2))))))))
theorem f_X10_task_ok {G : Gd} {d : Nat} (hj : 4 ≤ d) : ∀ (l0 : Nat) (l1 : Int32) (l2 : Int32) (L : List (Nat × Value)) (h : Hp) (o : (Int32 × Hp)), zlk L 0 = some (zrf (l0)) → zlk L 1 = some (.int (l1)) → zlk L 2 = some (.int (l2)) → f_X10_task l0 l1 l2 h = some o → Ev G M_X10_task d 0 L [] h (Ret Y_X10_task (some (.int o.1)) o.2) := by
  intro l0 l1 l2 L h o g0 g1 g2 e
  unfold f_X10_task at e
  refine g_ald_n d_X10_task_0 rfl g0 ?_
  refine r_iload_n d_X10_task_1 rfl g1 ?_
  replace e := ckd e
  obtain ⟨k2, e⟩ := e
  replace e := bd e
  obtain ⟨q1, eq1, e⟩ := e
  refine g_callV d_X10_task_2 vk_11_169 (as := [_]) rfl k2 rfl (by simp [zrf_cat, cat_int, cat_long]) (j := 3) (by omega) (c_X10_leased (by omega) eq1) ?_
  refine s_ast_n d_X10_task_5 rfl (by decide) (fun L g3 gK => ?_)
  replace g2 := gK _ _ (by decide) (Or.inr rfl) g2
  refine g_ald_n d_X10_task_6 rfl g3 ?_
  refine g_ifnonnull d_X10_task_7 (tgt := 12) (by decide) (fun c3 => ?_) (fun c3 => ?_)
  · replace e := (if_neg c3).symm.trans e
    refine r_iload_n d_X10_task_12 rfl g2 ?_
    rcases ite_or e with ⟨c4, e⟩ | ⟨c4, e⟩
    · refine r_tableIn d_X10_task_13 (off := 31) (tgt := 44) (by rw [c4]; decide +kernel) (by rw [c4]; decide +kernel) (by rw [c4] <;> rfl) (by decide) ?_
      refine g_ald_n d_X10_task_44 rfl g3 ?_
      replace e := ckd e
      obtain ⟨k5, e⟩ := e
      refine g_getI d_X10_task_45 (f := 1000) k5 fk_11_89 rfl rfl ?_
      cases e
      exact g_iret d_X10_task_48 rfl rfl
    · rcases ite_or e with ⟨c6, e⟩ | ⟨c6, e⟩
      · refine r_tableIn d_X10_task_13 (off := 36) (tgt := 49) (by rw [c6]; decide +kernel) (by rw [c6]; decide +kernel) (by rw [c6] <;> rfl) (by decide) ?_
        refine g_ald_n d_X10_task_49 rfl g3 ?_
        replace e := ckd e
        obtain ⟨k7, e⟩ := e
        refine g_getR d_X10_task_50 (f := 1003) k7 fk_11_151 rfl rfl ?_
        replace e := ckd e
        obtain ⟨k8, e⟩ := e
        refine g_getI d_X10_task_53 (f := 901) k8 fk_11_176 rfl rfl ?_
        cases e
        exact g_iret d_X10_task_56 rfl rfl
      · rcases ite_or e with ⟨c9, e⟩ | ⟨c9, e⟩
        · refine r_tableIn d_X10_task_13 (off := 44) (tgt := 57) (by rw [c9]; decide +kernel) (by rw [c9]; decide +kernel) (by rw [c9] <;> rfl) (by decide) ?_
          refine g_ald_n d_X10_task_57 rfl g3 ?_
          replace e := ckd e
          obtain ⟨k10, e⟩ := e
          refine g_getR d_X10_task_58 (f := 1003) k10 fk_11_151 rfl rfl ?_
          replace e := ckd e
          obtain ⟨k11, e⟩ := e
          refine g_getI d_X10_task_61 (f := 902) k11 fk_11_179 rfl rfl ?_
          cases e
          exact g_iret d_X10_task_64 rfl rfl
        · rcases ite_or e with ⟨c12, e⟩ | ⟨c12, e⟩
          · refine r_tableIn d_X10_task_13 (off := 52) (tgt := 65) (by rw [c12]; decide +kernel) (by rw [c12]; decide +kernel) (by rw [c12] <;> rfl) (by decide) ?_
            refine g_ald_n d_X10_task_65 rfl g3 ?_
            replace e := ckd e
            obtain ⟨k13, e⟩ := e
            refine g_getR d_X10_task_66 (f := 1003) k13 fk_11_151 rfl rfl ?_
            replace e := ckd e
            obtain ⟨k14, e⟩ := e
            refine g_getI d_X10_task_69 (f := 905) k14 fk_11_166 rfl rfl ?_
            cases e
            exact g_iret d_X10_task_72 rfl rfl
          · refine r_tableOut d_X10_task_13 (tgt := 73) (by have := lv_neT (a := 0) c4 (by decide +kernel); have := lv_neT (a := 1) c6 (by decide +kernel); have := lv_neT (a := 2) c9 (by decide +kernel); have := lv_neT (a := 3) c12 (by decide +kernel); omega) (by decide) ?_
            refine r_iconst d_X10_task_73 (v := (-1 : Int32)) (by decide +kernel) ?_
            cases e
            exact g_iret d_X10_task_74 rfl rfl
  · replace e := (if_pos c3).symm.trans e
    refine r_iconst d_X10_task_10 (v := (-1 : Int32)) (by decide +kernel) ?_
    cases e
    exact g_iret d_X10_task_11 rfl rfl

theorem c_X10_task {G : Gd} {j : Nat} (hj : 4 ≤ j) {l0 : Nat} {l1 : Int32} {l2 : Int32} {h : Hp} {o : (Int32 × Hp)} (e : f_X10_task l0 l1 l2 h = some o) : Cal G j Y_X10_task [zrf (l0), .int (l1), .int (l2)] h (some (.int o.1)) o.2 := Cal.of (n := 0) (I := false) (by decide +kernel) (by decide) (by simp [lg_sl, zrf_cat, cat_int, cat_long]) (f_X10_task_ok hj _ _ _ _ h o (by simp [lv_args, zlk, zrf_cat, cat_int, cat_long]) (by simp [lv_args, zlk, zrf_cat, cat_int, cat_long]) (by simp [lv_args, zlk, zrf_cat, cat_int, cat_long]) e)
theorem vk_11_199 : Vk "TaskWeave" 199 1 7 Y_X6_renew := ⟨yk_X6_renew, by decide +kernel, by decide +kernel, by decide +kernel, by decide⟩
def f_X10_replicas (l0 : Nat) (l1 : Int32) (l2 : Int32) (h : Hp) : Option (Int32 × Hp) := if (l1) < (0) then (some ((0 : Int32), h)) else (if ((4 : Int32)) ≤ (l1) then (some ((0 : Int32), h)) else (if (l2) < ((3 : Int32)) then (some ((0 : Int32), h)) else (if (l2) ≤ ((5 : Int32)) then (ck (isO (h) (l0) 11) (ck (isO (h) (zR (h) 1103 (l0)) 26) (ck (inR (l1) (zL (h) (zR (h) 1103 (l0)))) (ck (isO (h) (zQ (h) (zR (h) 1103 (l0)) (l1).toNatClampNeg) 7) ((f_X6_renew (zQ (h) (zR (h) 1103 (l0)) (l1).toNatClampNeg) (l2) (h)).bind (fun q8 => ck (isB (q8.1)) (some (q8.1, q8.2)))))))) else (some ((0 : Int32), h)))))
theorem f_X10_replicas_ok {G : Gd} {d : Nat} (hj : 2 ≤ d) : ∀ (l0 : Nat) (l1 : Int32) (l2 : Int32) (L : List (Nat × Value)) (h : Hp) (o : (Int32 × Hp)), zlk L 0 = some (zrf (l0)) → zlk L 1 = some (.int (l1)) → zlk L 2 = some (.int (l2)) → f_X10_replicas l0 l1 l2 h = some o → Ev G M_X10_replicas d 0 L [] h (Ret Y_X10_replicas (some (.int o.1)) o.2) := by
  intro l0 l1 l2 L h o g0 g1 g2 e
  unfold f_X10_replicas at e
  refine r_iload_n d_X10_replicas_0 rfl g1 ?_
  refine r_if_lt d_X10_replicas_1 (tgt := 19) (by decide) (fun c1 => ?_) (fun c1 => ?_)
  · replace e := (if_pos c1).symm.trans e
    refine r_iconst d_X10_replicas_19 (v := (0 : Int32)) (by decide +kernel) ?_
    cases e
    exact g_iret d_X10_replicas_20 rfl rfl
  · replace e := (if_neg c1).symm.trans e
    refine r_iload_n d_X10_replicas_4 rfl g1 ?_
    refine r_iconst d_X10_replicas_5 (v := (4 : Int32)) (by decide +kernel) ?_
    refine r_icmp_ge d_X10_replicas_6 (tgt := 19) (by decide) (fun c2 => ?_) (fun c2 => ?_)
    · replace e := (if_pos c2).symm.trans e
      refine r_iconst d_X10_replicas_19 (v := (0 : Int32)) (by decide +kernel) ?_
      cases e
      exact g_iret d_X10_replicas_20 rfl rfl
    · replace e := (if_neg c2).symm.trans e
      refine r_iload_n d_X10_replicas_9 rfl g2 ?_
      refine r_iconst d_X10_replicas_10 (v := (3 : Int32)) (by decide +kernel) ?_
      refine r_icmp_lt d_X10_replicas_11 (tgt := 19) (by decide) (fun c3 => ?_) (fun c3 => ?_)
      · replace e := (if_pos c3).symm.trans e
        refine r_iconst d_X10_replicas_19 (v := (0 : Int32)) (by decide +kernel) ?_
        cases e
        exact g_iret d_X10_replicas_20 rfl rfl
      · replace e := (if_neg c3).symm.trans e
        refine r_iload_n d_X10_replicas_14 rfl g2 ?_
        refine r_iconst d_X10_replicas_15 (v := (5 : Int32)) (by decide +kernel) ?_
        refine r_icmp_le d_X10_replicas_16 (tgt := 21) (by decide) (fun c4 => ?_) (fun c4 => ?_)
        · replace e := (if_pos c4).symm.trans e
          refine g_ald_n d_X10_replicas_21 rfl g0 ?_
          replace e := ckd e
          obtain ⟨k5, e⟩ := e
          refine g_getR d_X10_replicas_22 (f := 1103) k5 fk_11_18 rfl rfl ?_
          refine r_iload_n d_X10_replicas_25 rfl g1 ?_
          replace e := ckd e
          obtain ⟨k6, e⟩ := e
          replace e := ckd e
          obtain ⟨k7, e⟩ := e
          refine g_aald d_X10_replicas_26 k6 (by decide) (by decide) k7 rfl ?_
          refine r_iload_n d_X10_replicas_27 rfl g2 ?_
          replace e := ckd e
          obtain ⟨k9, e⟩ := e
          replace e := bd e
          obtain ⟨q8, eq8, e⟩ := e
          refine g_callV d_X10_replicas_28 vk_11_199 (as := [_]) rfl k9 rfl (by simp [zrf_cat, cat_int, cat_long]) (j := 1) (by omega) (c_X6_renew (by omega) eq8) ?_
          replace e := ckd e
          obtain ⟨k10, e⟩ := e
          cases e
          exact g_iret d_X10_replicas_31 rfl k10
        · replace e := (if_neg c4).symm.trans e
          refine r_iconst d_X10_replicas_19 (v := (0 : Int32)) (by decide +kernel) ?_
          cases e
          exact g_iret d_X10_replicas_20 rfl rfl

theorem c_X10_replicas {G : Gd} {j : Nat} (hj : 2 ≤ j) {l0 : Nat} {l1 : Int32} {l2 : Int32} {h : Hp} {o : (Int32 × Hp)} (e : f_X10_replicas l0 l1 l2 h = some o) : Cal G j Y_X10_replicas [zrf (l0), .int (l1), .int (l2)] h (some (.int o.1)) o.2 := Cal.of (n := 0) (I := false) (by decide +kernel) (by decide) (by simp [lg_sl, zrf_cat, cat_int, cat_long]) (f_X10_replicas_ok hj _ _ _ _ h o (by simp [lv_args, zlk, zrf_cat, cat_int, cat_long]) (by simp [lv_args, zlk, zrf_cat, cat_int, cat_long]) (by simp [lv_args, zlk, zrf_cat, cat_int, cat_long]) e)
theorem fk_11_264 : Fk "TaskWeave" 264 707 := ⟨by decide, by decide, by decide +kernel⟩
theorem fk_11_283 : Fk "TaskWeave" 283 703 := ⟨by decide, by decide, by decide +kernel⟩
def f_X10_findReplica (l0 : Nat) (l1 : Int32) (l2 : Int32) (h : Hp) : Option (Nat × Hp) := if (l1) < (0) then (some (0, h)) else (if ((4 : Int32)) ≤ (l1) then (some (0, h)) else (if (l2) < (0) then (some (0, h)) else (ck (isO (h) (l0) 11) (ck (isO (h) (zR (h) 1103 (l0)) 26) (ck (inR (l1) (zL (h) (zR (h) 1103 (l0)))) (ck (isO (h) (zQ (h) (zR (h) 1103 (l0)) (l1).toNatClampNeg) 7) (if (l2) < (zI (h) 707 (zQ (h) (zR (h) 1103 (l0)) (l1).toNatClampNeg)) then (ck (isO (h) (zR (h) 703 (zQ (h) (zR (h) 1103 (l0)) (l1).toNatClampNeg)) 26) (ck (inR (l2) (zL (h) (zR (h) 703 (zQ (h) (zR (h) 1103 (l0)) (l1).toNatClampNeg)))) (some (zQ (h) (zR (h) 703 (zQ (h) (zR (h) 1103 (l0)) (l1).toNatClampNeg)) (l2).toNatClampNeg, h)))) else (some (0, h)))))))))
theorem f_X10_findReplica_ok {G : Gd} {d : Nat} (hj : 1 ≤ d) : ∀ (l0 : Nat) (l1 : Int32) (l2 : Int32) (L : List (Nat × Value)) (h : Hp) (o : (Nat × Hp)), zlk L 0 = some (zrf (l0)) → zlk L 1 = some (.int (l1)) → zlk L 2 = some (.int (l2)) → f_X10_findReplica l0 l1 l2 h = some o → Ev G M_X10_findReplica d 0 L [] h (Ret Y_X10_findReplica (some (zrf o.1)) o.2) := by
  intro l0 l1 l2 L h o g0 g1 g2 e
  unfold f_X10_findReplica at e
  refine r_iload_n d_X10_findReplica_0 rfl g1 ?_
  refine r_if_lt d_X10_findReplica_1 (tgt := 26) (by decide) (fun c1 => ?_) (fun c1 => ?_)
  · replace e := (if_pos c1).symm.trans e
    refine g_null d_X10_findReplica_26 ?_
    refine r_goto d_X10_findReplica_27 (tgt := 41) (by decide) ?_
    cases e
    exact g_aret d_X10_findReplica_41 rfl (Or.inl ⟨_, rfl⟩)
  · replace e := (if_neg c1).symm.trans e
    refine r_iload_n d_X10_findReplica_4 rfl g1 ?_
    refine r_iconst d_X10_findReplica_5 (v := (4 : Int32)) (by decide +kernel) ?_
    refine r_icmp_ge d_X10_findReplica_6 (tgt := 26) (by decide) (fun c2 => ?_) (fun c2 => ?_)
    · replace e := (if_pos c2).symm.trans e
      refine g_null d_X10_findReplica_26 ?_
      refine r_goto d_X10_findReplica_27 (tgt := 41) (by decide) ?_
      cases e
      exact g_aret d_X10_findReplica_41 rfl (Or.inl ⟨_, rfl⟩)
    · replace e := (if_neg c2).symm.trans e
      refine r_iload_n d_X10_findReplica_9 rfl g2 ?_
      refine r_if_lt d_X10_findReplica_10 (tgt := 26) (by decide) (fun c3 => ?_) (fun c3 => ?_)
      · replace e := (if_pos c3).symm.trans e
        refine g_null d_X10_findReplica_26 ?_
        refine r_goto d_X10_findReplica_27 (tgt := 41) (by decide) ?_
        cases e
        exact g_aret d_X10_findReplica_41 rfl (Or.inl ⟨_, rfl⟩)
      · replace e := (if_neg c3).symm.trans e
        refine r_iload_n d_X10_findReplica_13 rfl g2 ?_
        refine g_ald_n d_X10_findReplica_14 rfl g0 ?_
        replace e := ckd e
        obtain ⟨k4, e⟩ := e
        refine g_getR d_X10_findReplica_15 (f := 1103) k4 fk_11_18 rfl rfl ?_
        refine r_iload_n d_X10_findReplica_18 rfl g1 ?_
        replace e := ckd e
        obtain ⟨k5, e⟩ := e
        replace e := ckd e
        obtain ⟨k6, e⟩ := e
        refine g_aald d_X10_findReplica_19 k5 (by decide) (by decide) k6 rfl ?_
        replace e := ckd e
        obtain ⟨k7, e⟩ := e
        refine g_getI d_X10_findReplica_20 (f := 707) k7 fk_11_264 rfl rfl ?_
        refine r_icmp_lt d_X10_findReplica_23 (tgt := 30) (by decide) (fun c8 => ?_) (fun c8 => ?_)
        · replace e := (if_pos c8).symm.trans e
          refine g_ald_n d_X10_findReplica_30 rfl g0 ?_
          refine g_getR d_X10_findReplica_31 (f := 1103) k4 fk_11_18 rfl rfl ?_
          refine r_iload_n d_X10_findReplica_34 rfl g1 ?_
          refine g_aald d_X10_findReplica_35 k5 (by decide) (by decide) k6 rfl ?_
          refine g_getR d_X10_findReplica_36 (f := 703) k7 fk_11_283 rfl rfl ?_
          refine r_iload_n d_X10_findReplica_39 rfl g2 ?_
          replace e := ckd e
          obtain ⟨k9, e⟩ := e
          replace e := ckd e
          obtain ⟨k10, e⟩ := e
          refine g_aald d_X10_findReplica_40 k9 (by decide) (by decide) k10 rfl ?_
          cases e
          exact g_aret d_X10_findReplica_41 rfl (Or.inl ⟨_, rfl⟩)
        · replace e := (if_neg c8).symm.trans e
          refine g_null d_X10_findReplica_26 ?_
          refine r_goto d_X10_findReplica_27 (tgt := 41) (by decide) ?_
          cases e
          exact g_aret d_X10_findReplica_41 rfl (Or.inl ⟨_, rfl⟩)

theorem c_X10_findReplica {G : Gd} {j : Nat} (hj : 1 ≤ j) {l0 : Nat} {l1 : Int32} {l2 : Int32} {h : Hp} {o : (Nat × Hp)} (e : f_X10_findReplica l0 l1 l2 h = some o) : Cal G j Y_X10_findReplica [zrf (l0), .int (l1), .int (l2)] h (some (zrf o.1)) o.2 := Cal.of (n := 0) (I := false) (by decide +kernel) (by decide) (by simp [lg_sl, zrf_cat, cat_int, cat_long]) (f_X10_findReplica_ok hj _ _ _ _ h o (by simp [lv_args, zlk, zrf_cat, cat_int, cat_long]) (by simp [lv_args, zlk, zrf_cat, cat_int, cat_long]) (by simp [lv_args, zlk, zrf_cat, cat_int, cat_long]) e)
theorem vk_11_202 : Vk "TaskWeave" 202 2 11 Y_X10_findReplica := ⟨yk_X10_findReplica, by decide +kernel, by decide +kernel, by decide +kernel, by decide⟩
theorem fk_11_206 : Fk "TaskWeave" 206 603 := ⟨by decide, by decide, by decide +kernel⟩
theorem fk_11_220 : Fk "TaskWeave" 220 604 := ⟨by decide, by decide, by decide +kernel⟩
def f_X10_fuse (l0 : Nat) (l1 : Int32) (l2 : Int32) (l3 : Int32) (h : Hp) : Option (Int32 × Hp) := ck (isO (h) (l0) 11) ((f_X10_findReplica (l0) (l1) (l2) (h)).bind (fun q1 => if (q1.1) = 0 then (some ((0 : Int32), q1.2)) else (ck (isO (q1.2) (q1.1) 6) (if (zI (q1.2) 603 (q1.1)) = (0) then (some ((0 : Int32), q1.2)) else (if (l3) < (0) then (some ((0 : Int32), q1.2)) else (if (l3) ≤ ((100000 : Int32)) then (bh (pI (q1.2) 604 (q1.1) (l3)) (fun h8 => some ((1 : Int32), h8))) else (some ((0 : Int32), q1.2))))))))
theorem f_X10_fuse_ok {G : Gd} {d : Nat} (hj : 2 ≤ d) : ∀ (l0 : Nat) (l1 : Int32) (l2 : Int32) (l3 : Int32) (L : List (Nat × Value)) (h : Hp) (o : (Int32 × Hp)), zlk L 0 = some (zrf (l0)) → zlk L 1 = some (.int (l1)) → zlk L 2 = some (.int (l2)) → zlk L 3 = some (.int (l3)) → f_X10_fuse l0 l1 l2 l3 h = some o → Ev G M_X10_fuse d 0 L [] h (Ret Y_X10_fuse (some (.int o.1)) o.2) := by
  intro l0 l1 l2 l3 L h o g0 g1 g2 g3 e
  unfold f_X10_fuse at e
  refine g_ald_n d_X10_fuse_0 rfl g0 ?_
  refine r_iload_n d_X10_fuse_1 rfl g1 ?_
  refine r_iload_n d_X10_fuse_2 rfl g2 ?_
  replace e := ckd e
  obtain ⟨k2, e⟩ := e
  replace e := bd e
  obtain ⟨q1, eq1, e⟩ := e
  refine g_callV d_X10_fuse_3 vk_11_202 (as := [_, _]) rfl k2 rfl (by simp [zrf_cat, cat_int, cat_long]) (j := 1) (by omega) (c_X10_findReplica (by omega) eq1) ?_
  refine s_ast d_X10_fuse_6 (by decide) (fun L g4 gK => ?_)
  replace g3 := gK _ _ (by decide) (Or.inr rfl) g3
  refine g_ald d_X10_fuse_8 g4 ?_
  refine g_ifnull d_X10_fuse_10 (tgt := 31) (by decide) (fun c3 => ?_) (fun c3 => ?_)
  · replace e := (if_pos c3).symm.trans e
    refine r_iconst d_X10_fuse_31 (v := (0 : Int32)) (by decide +kernel) ?_
    cases e
    exact g_iret d_X10_fuse_32 rfl rfl
  · replace e := (if_neg c3).symm.trans e
    refine g_ald d_X10_fuse_13 g4 ?_
    replace e := ckd e
    obtain ⟨k4, e⟩ := e
    refine g_getI d_X10_fuse_15 (f := 603) k4 fk_11_206 rfl rfl ?_
    refine r_if_eq d_X10_fuse_18 (tgt := 31) (by decide) (fun c5 => ?_) (fun c5 => ?_)
    · replace e := (if_pos c5).symm.trans e
      refine r_iconst d_X10_fuse_31 (v := (0 : Int32)) (by decide +kernel) ?_
      cases e
      exact g_iret d_X10_fuse_32 rfl rfl
    · replace e := (if_neg c5).symm.trans e
      refine r_iload_n d_X10_fuse_21 rfl g3 ?_
      refine r_if_lt d_X10_fuse_22 (tgt := 31) (by decide) (fun c6 => ?_) (fun c6 => ?_)
      · replace e := (if_pos c6).symm.trans e
        refine r_iconst d_X10_fuse_31 (v := (0 : Int32)) (by decide +kernel) ?_
        cases e
        exact g_iret d_X10_fuse_32 rfl rfl
      · replace e := (if_neg c6).symm.trans e
        refine r_iload_n d_X10_fuse_25 rfl g3 ?_
        refine r_ldc d_X10_fuse_26 (v := (100000 : Int32)) (by decide +kernel) ?_
        refine r_icmp_le d_X10_fuse_28 (tgt := 33) (by decide) (fun c7 => ?_) (fun c7 => ?_)
        · replace e := (if_pos c7).symm.trans e
          refine g_ald d_X10_fuse_33 g4 ?_
          refine r_iload_n d_X10_fuse_35 rfl g3 ?_
          refine g_putI d_X10_fuse_36 (f := 604) k4 fk_11_220 rfl (Or.inl rfl) ⟨rfl, rfl⟩ ?_
          replace e := bhd e
          obtain ⟨_, rfl, e⟩ := e
          refine r_iconst d_X10_fuse_39 (v := (1 : Int32)) (by decide +kernel) ?_
          cases e
          exact g_iret d_X10_fuse_40 rfl rfl
        · replace e := (if_neg c7).symm.trans e
          refine r_iconst d_X10_fuse_31 (v := (0 : Int32)) (by decide +kernel) ?_
          cases e
          exact g_iret d_X10_fuse_32 rfl rfl

theorem c_X10_fuse {G : Gd} {j : Nat} (hj : 2 ≤ j) {l0 : Nat} {l1 : Int32} {l2 : Int32} {l3 : Int32} {h : Hp} {o : (Int32 × Hp)} (e : f_X10_fuse l0 l1 l2 l3 h = some o) : Cal G j Y_X10_fuse [zrf (l0), .int (l1), .int (l2), .int (l3)] h (some (.int o.1)) o.2 := Cal.of (n := 0) (I := false) (by decide +kernel) (by decide) (by simp [lg_sl, zrf_cat, cat_int, cat_long]) (f_X10_fuse_ok hj _ _ _ _ _ h o (by simp [lv_args, zlk, zrf_cat, cat_int, cat_long]) (by simp [lv_args, zlk, zrf_cat, cat_int, cat_long]) (by simp [lv_args, zlk, zrf_cat, cat_int, cat_long]) (by simp [lv_args, zlk, zrf_cat, cat_int, cat_long]) e)
theorem fk_11_123 : Fk "TaskWeave" 123 1007 := ⟨by decide, by decide, by decide +kernel⟩
theorem fk_11_223 : Fk "TaskWeave" 223 1011 := ⟨by decide, by decide, by decide +kernel⟩
theorem fk_11_114 : Fk "TaskWeave" 114 1002 := ⟨by decide, by decide, by decide +kernel⟩
theorem fk_11_226 : Fk "TaskWeave" 226 204 := ⟨by decide, by decide, by decide +kernel⟩
theorem fk_11_229 : Fk "TaskWeave" 229 201 := ⟨by decide, by decide, by decide +kernel⟩
theorem fk_11_232 : Fk "TaskWeave" 232 1010 := ⟨by decide, by decide, by decide +kernel⟩
theorem vk_11_235 : Vk "TaskWeave" 235 2 2 Y_X1_count := ⟨yk_X1_count, by decide +kernel, by decide +kernel, by decide +kernel, by decide⟩
theorem fk_11_238 : Fk "TaskWeave" 238 1009 := ⟨by decide, by decide, by decide +kernel⟩
theorem vk_11_241 : Vk "TaskWeave" 241 0 10 Y_X9_parent := ⟨yk_X9_parent, by decide +kernel, by decide +kernel, by decide +kernel, by decide⟩
def f_X10_workflow (l0 : Nat) (l1 : Int32) (l2 : Int32) (h : Hp) : Option (Int32 × Hp) := ck (isO (h) (l0) 11) ((f_X10_find (l0) (l1) (h)).bind (fun q1 => if (q1.1) = 0 then (some ((-1 : Int32), q1.2)) else (if (l2) = (0 : Int32) then (ck (isO (q1.2) (q1.1) 10) (some (zI (q1.2) 1007 (q1.1), q1.2))) else (if (l2) = (1 : Int32) then (ck (isO (q1.2) (q1.1) 10) (some (zI (q1.2) 1011 (q1.1), q1.2))) else (if (l2) = (2 : Int32) then (ck (isO (q1.2) (q1.1) 10) (ck (isO (q1.2) (zR (q1.2) 1002 (q1.1)) 2) (some (zI (q1.2) 204 (zR (q1.2) 1002 (q1.1)), q1.2)))) else (if (l2) = (3 : Int32) then (ck (isO (q1.2) (q1.1) 10) (ck (isO (q1.2) (zR (q1.2) 1002 (q1.1)) 2) (ck (isO (q1.2) (zR (q1.2) 201 (zR (q1.2) 1002 (q1.1))) 22) (ck (inR ((0 : Int32)) (zL (q1.2) (zR (q1.2) 201 (zR (q1.2) 1002 (q1.1))))) (some ((zE (q1.2) (zR (q1.2) 201 (zR (q1.2) 1002 (q1.1))) ((0 : Int32)).toNatClampNeg) - (zE (q1.2) (zR (q1.2) 201 (zR (q1.2) 1002 (q1.1))) ((0 : Int32)).toNatClampNeg) / ((8 : Int32)) * ((8 : Int32)), q1.2)))))) else (if (l2) = (4 : Int32) then (ck (isO (q1.2) (q1.1) 10) (some (zI (q1.2) 1010 (q1.1), q1.2))) else (if (l2) = (5 : Int32) then (ck (isO (q1.2) (q1.1) 10) (ck (isO (q1.2) (zR (q1.2) 1002 (q1.1)) 2) ((f_X1_count (zR (q1.2) 1002 (q1.1)) ((8 : Int32)) (zI (q1.2) 204 (zR (q1.2) 1002 (q1.1))) (q1.2)).bind (fun q21 => ck (isO (q21.2) (q1.1) 10) (some ((q21.1) - (zI (q21.2) 1009 (q1.1)), q21.2)))))) else (if (l2) = (6 : Int32) then (ck (isO (q1.2) (q1.1) 10) ((f_X9_parent (q1.1) (q1.2)).bind (fun q24 => some (q24.1, q24.2)))) else (some ((-1 : Int32), q1.2)))))))))))
theorem f_X10_workflow_ok {G : Gd} {d : Nat} (hj : 3 ≤ d) : ∀ (l0 : Nat) (l1 : Int32) (l2 : Int32) (L : List (Nat × Value)) (h : Hp) (o : (Int32 × Hp)), zlk L 0 = some (zrf (l0)) → zlk L 1 = some (.int (l1)) → zlk L 2 = some (.int (l2)) → f_X10_workflow l0 l1 l2 h = some o → Ev G M_X10_workflow d 0 L [] h (Ret Y_X10_workflow (some (.int o.1)) o.2) := by
  intro l0 l1 l2 L h o g0 g1 g2 e
  unfold f_X10_workflow at e
  refine g_ald_n d_X10_workflow_0 rfl g0 ?_
  refine r_iload_n d_X10_workflow_1 rfl g1 ?_
  replace e := ckd e
  obtain ⟨k2, e⟩ := e
  replace e := bd e
  obtain ⟨q1, eq1, e⟩ := e
  refine g_callV d_X10_workflow_2 vk_11_111 (as := [_]) rfl k2 rfl (by simp [zrf_cat, cat_int, cat_long]) (j := 2) (by omega) (c_X10_find (by omega) eq1) ?_
  refine s_ast_n d_X10_workflow_5 rfl (by decide) (fun L g3 gK => ?_)
  replace g2 := gK _ _ (by decide) (Or.inr rfl) g2
  refine g_ald_n d_X10_workflow_6 rfl g3 ?_
  refine g_ifnonnull d_X10_workflow_7 (tgt := 12) (by decide) (fun c3 => ?_) (fun c3 => ?_)
  · replace e := (if_neg c3).symm.trans e
    refine r_iload_n d_X10_workflow_12 rfl g2 ?_
    rcases ite_or e with ⟨c4, e⟩ | ⟨c4, e⟩
    · refine r_tableIn d_X10_workflow_13 (off := 43) (tgt := 56) (by rw [c4]; decide +kernel) (by rw [c4]; decide +kernel) (by rw [c4] <;> rfl) (by decide) ?_
      refine g_ald_n d_X10_workflow_56 rfl g3 ?_
      replace e := ckd e
      obtain ⟨k5, e⟩ := e
      refine g_getI d_X10_workflow_57 (f := 1007) k5 fk_11_123 rfl rfl ?_
      cases e
      exact g_iret d_X10_workflow_60 rfl rfl
    · rcases ite_or e with ⟨c6, e⟩ | ⟨c6, e⟩
      · refine r_tableIn d_X10_workflow_13 (off := 48) (tgt := 61) (by rw [c6]; decide +kernel) (by rw [c6]; decide +kernel) (by rw [c6] <;> rfl) (by decide) ?_
        refine g_ald_n d_X10_workflow_61 rfl g3 ?_
        replace e := ckd e
        obtain ⟨k7, e⟩ := e
        refine g_getI d_X10_workflow_62 (f := 1011) k7 fk_11_223 rfl rfl ?_
        cases e
        exact g_iret d_X10_workflow_65 rfl rfl
      · rcases ite_or e with ⟨c8, e⟩ | ⟨c8, e⟩
        · refine r_tableIn d_X10_workflow_13 (off := 53) (tgt := 66) (by rw [c8]; decide +kernel) (by rw [c8]; decide +kernel) (by rw [c8] <;> rfl) (by decide) ?_
          refine g_ald_n d_X10_workflow_66 rfl g3 ?_
          replace e := ckd e
          obtain ⟨k9, e⟩ := e
          refine g_getR d_X10_workflow_67 (f := 1002) k9 fk_11_114 rfl rfl ?_
          replace e := ckd e
          obtain ⟨k10, e⟩ := e
          refine g_getI d_X10_workflow_70 (f := 204) k10 fk_11_226 rfl rfl ?_
          cases e
          exact g_iret d_X10_workflow_73 rfl rfl
        · rcases ite_or e with ⟨c11, e⟩ | ⟨c11, e⟩
          · refine r_tableIn d_X10_workflow_13 (off := 61) (tgt := 74) (by rw [c11]; decide +kernel) (by rw [c11]; decide +kernel) (by rw [c11] <;> rfl) (by decide) ?_
            refine g_ald_n d_X10_workflow_74 rfl g3 ?_
            replace e := ckd e
            obtain ⟨k12, e⟩ := e
            refine g_getR d_X10_workflow_75 (f := 1002) k12 fk_11_114 rfl rfl ?_
            replace e := ckd e
            obtain ⟨k13, e⟩ := e
            refine g_getR d_X10_workflow_78 (f := 201) k13 fk_11_229 rfl rfl ?_
            refine r_iconst d_X10_workflow_81 (v := (0 : Int32)) (by decide +kernel) ?_
            replace e := ckd e
            obtain ⟨k14, e⟩ := e
            replace e := ckd e
            obtain ⟨k15, e⟩ := e
            refine g_iald d_X10_workflow_82 k14 k15 rfl ?_
            refine r_bipush d_X10_workflow_83 (v := (8 : Int32)) (by decide +kernel) ?_
            refine r_irem d_X10_workflow_85 (by decide +kernel) ?_
            cases e
            exact g_iret d_X10_workflow_86 rfl rfl
          · rcases ite_or e with ⟨c16, e⟩ | ⟨c16, e⟩
            · refine r_tableIn d_X10_workflow_13 (off := 74) (tgt := 87) (by rw [c16]; decide +kernel) (by rw [c16]; decide +kernel) (by rw [c16] <;> rfl) (by decide) ?_
              refine g_ald_n d_X10_workflow_87 rfl g3 ?_
              replace e := ckd e
              obtain ⟨k17, e⟩ := e
              refine g_getI d_X10_workflow_88 (f := 1010) k17 fk_11_232 rfl rfl ?_
              cases e
              exact g_iret d_X10_workflow_91 rfl rfl
            · rcases ite_or e with ⟨c18, e⟩ | ⟨c18, e⟩
              · refine r_tableIn d_X10_workflow_13 (off := 79) (tgt := 92) (by rw [c18]; decide +kernel) (by rw [c18]; decide +kernel) (by rw [c18] <;> rfl) (by decide) ?_
                refine g_ald_n d_X10_workflow_92 rfl g3 ?_
                replace e := ckd e
                obtain ⟨k19, e⟩ := e
                refine g_getR d_X10_workflow_93 (f := 1002) k19 fk_11_114 rfl rfl ?_
                refine r_bipush d_X10_workflow_96 (v := (8 : Int32)) (by decide +kernel) ?_
                refine g_ald_n d_X10_workflow_98 rfl g3 ?_
                refine g_getR d_X10_workflow_99 (f := 1002) k19 fk_11_114 rfl rfl ?_
                replace e := ckd e
                obtain ⟨k20, e⟩ := e
                refine g_getI d_X10_workflow_102 (f := 204) k20 fk_11_226 rfl rfl ?_
                replace e := bd e
                obtain ⟨q21, eq21, e⟩ := e
                refine g_callV d_X10_workflow_105 vk_11_235 (as := [_, _]) rfl k20 rfl (by simp [zrf_cat, cat_int, cat_long]) (j := 1) (by omega) (c_X1_count (by omega) eq21) ?_
                refine g_ald_n d_X10_workflow_108 rfl g3 ?_
                replace e := ckd e
                obtain ⟨k22, e⟩ := e
                refine g_getI d_X10_workflow_109 (f := 1009) k22 fk_11_238 rfl rfl ?_
                refine r_isub d_X10_workflow_112 ?_
                cases e
                exact g_iret d_X10_workflow_113 rfl rfl
              · rcases ite_or e with ⟨c23, e⟩ | ⟨c23, e⟩
                · refine r_tableIn d_X10_workflow_13 (off := 101) (tgt := 114) (by rw [c23]; decide +kernel) (by rw [c23]; decide +kernel) (by rw [c23] <;> rfl) (by decide) ?_
                  refine g_ald_n d_X10_workflow_114 rfl g3 ?_
                  replace e := ckd e
                  obtain ⟨k25, e⟩ := e
                  replace e := bd e
                  obtain ⟨q24, eq24, e⟩ := e
                  refine g_callV d_X10_workflow_115 vk_11_241 (as := []) rfl k25 rfl (by simp [zrf_cat, cat_int, cat_long]) (j := 1) (by omega) (c_X9_parent (by omega) eq24) ?_
                  cases e
                  exact g_iret d_X10_workflow_118 rfl rfl
                · refine r_tableOut d_X10_workflow_13 (tgt := 119) (by have := lv_neT (a := 0) c4 (by decide +kernel); have := lv_neT (a := 1) c6 (by decide +kernel); have := lv_neT (a := 2) c8 (by decide +kernel); have := lv_neT (a := 3) c11 (by decide +kernel); have := lv_neT (a := 4) c16 (by decide +kernel); have := lv_neT (a := 5) c18 (by decide +kernel); have := lv_neT (a := 6) c23 (by decide +kernel); omega) (by decide) ?_
                  refine r_iconst d_X10_workflow_119 (v := (-1 : Int32)) (by decide +kernel) ?_
                  cases e
                  exact g_iret d_X10_workflow_120 rfl rfl
  · replace e := (if_pos c3).symm.trans e
    refine r_iconst d_X10_workflow_10 (v := (-1 : Int32)) (by decide +kernel) ?_
    cases e
    exact g_iret d_X10_workflow_11 rfl rfl

theorem c_X10_workflow {G : Gd} {j : Nat} (hj : 3 ≤ j) {l0 : Nat} {l1 : Int32} {l2 : Int32} {h : Hp} {o : (Int32 × Hp)} (e : f_X10_workflow l0 l1 l2 h = some o) : Cal G j Y_X10_workflow [zrf (l0), .int (l1), .int (l2)] h (some (.int o.1)) o.2 := Cal.of (n := 0) (I := false) (by decide +kernel) (by decide) (by simp [lg_sl, zrf_cat, cat_int, cat_long]) (f_X10_workflow_ok hj _ _ _ _ h o (by simp [lv_args, zlk, zrf_cat, cat_int, cat_long]) (by simp [lv_args, zlk, zrf_cat, cat_int, cat_long]) (by simp [lv_args, zlk, zrf_cat, cat_int, cat_long]) e)
theorem fk_11_258 : Fk "TaskWeave" 258 708 := ⟨by decide, by decide, by decide +kernel⟩
theorem fk_11_261 : Fk "TaskWeave" 261 709 := ⟨by decide, by decide, by decide +kernel⟩
theorem fk_11_101 : Fk "TaskWeave" 101 710 := ⟨by decide, by decide, by decide +kernel⟩
theorem fk_11_265 : Fk "TaskWeave" 265 706 := ⟨by decide, by decide, by decide +kernel⟩
theorem fk_11_269 : Fk "TaskWeave" 269 303 := ⟨by decide, by decide, by decide +kernel⟩
theorem vk_11_272 : Vk "TaskWeave" 272 1 7 Y_X6_countTasks := ⟨yk_X6_countTasks, by decide +kernel, by decide +kernel, by decide +kernel, by decide⟩
def f_X10_shard (l0 : Nat) (l1 : Int32) (l2 : Int32) (h : Hp) : Option (Int32 × Hp) := if (l1) < (0) then (some ((-1 : Int32), h)) else (if (l1) < ((4 : Int32)) then (if (l2) = (0 : Int32) then (ck (isO (h) (l0) 11) (ck (isO (h) (zR (h) 1103 (l0)) 26) (ck (inR (l1) (zL (h) (zR (h) 1103 (l0)))) (ck (isO (h) (zQ (h) (zR (h) 1103 (l0)) (l1).toNatClampNeg) 7) (some (zI (h) 708 (zQ (h) (zR (h) 1103 (l0)) (l1).toNatClampNeg), h)))))) else (if (l2) = (1 : Int32) then (ck (isO (h) (l0) 11) (ck (isO (h) (zR (h) 1103 (l0)) 26) (ck (inR (l1) (zL (h) (zR (h) 1103 (l0)))) (ck (isO (h) (zQ (h) (zR (h) 1103 (l0)) (l1).toNatClampNeg) 7) (some (zI (h) 709 (zQ (h) (zR (h) 1103 (l0)) (l1).toNatClampNeg), h)))))) else (if (l2) = (2 : Int32) then (ck (isO (h) (l0) 11) (ck (isO (h) (zR (h) 1103 (l0)) 26) (ck (inR (l1) (zL (h) (zR (h) 1103 (l0)))) (ck (isO (h) (zQ (h) (zR (h) 1103 (l0)) (l1).toNatClampNeg) 7) (some (zI (h) 707 (zQ (h) (zR (h) 1103 (l0)) (l1).toNatClampNeg), h)))))) else (if (l2) = (3 : Int32) then (ck (isO (h) (l0) 11) (ck (isO (h) (zR (h) 1103 (l0)) 26) (ck (inR (l1) (zL (h) (zR (h) 1103 (l0)))) (ck (isO (h) (zQ (h) (zR (h) 1103 (l0)) (l1).toNatClampNeg) 7) (some (zI (h) 710 (zQ (h) (zR (h) 1103 (l0)) (l1).toNatClampNeg), h)))))) else (if (l2) = (4 : Int32) then (ck (isO (h) (l0) 11) (ck (isO (h) (zR (h) 1103 (l0)) 26) (ck (inR (l1) (zL (h) (zR (h) 1103 (l0)))) (ck (isO (h) (zQ (h) (zR (h) 1103 (l0)) (l1).toNatClampNeg) 7) (ck (isO (h) (zR (h) 706 (zQ (h) (zR (h) 1103 (l0)) (l1).toNatClampNeg)) 3) (some (zI (h) 303 (zR (h) 706 (zQ (h) (zR (h) 1103 (l0)) (l1).toNatClampNeg)), h))))))) else (if (l2) = (5 : Int32) then (ck (isO (h) (l0) 11) (ck (isO (h) (zR (h) 1103 (l0)) 26) (ck (inR (l1) (zL (h) (zR (h) 1103 (l0)))) (ck (isO (h) (zQ (h) (zR (h) 1103 (l0)) (l1).toNatClampNeg) 7) ((f_X6_countTasks (zQ (h) (zR (h) 1103 (l0)) (l1).toNatClampNeg) ((0 : Int32)) (h)).bind (fun q33 => some (q33.1, q33.2))))))) else (if (l2) = (6 : Int32) then (ck (isO (h) (l0) 11) (ck (isO (h) (zR (h) 1103 (l0)) 26) (ck (inR (l1) (zL (h) (zR (h) 1103 (l0)))) (ck (isO (h) (zQ (h) (zR (h) 1103 (l0)) (l1).toNatClampNeg) 7) ((f_X6_countTasks (zQ (h) (zR (h) 1103 (l0)) (l1).toNatClampNeg) ((1 : Int32)) (h)).bind (fun q39 => some (q39.1, q39.2))))))) else (some ((-1 : Int32), h))))))))) else (some ((-1 : Int32), h)))
theorem f_X10_shard_ok {G : Gd} {d : Nat} (hj : 2 ≤ d) : ∀ (l0 : Nat) (l1 : Int32) (l2 : Int32) (L : List (Nat × Value)) (h : Hp) (o : (Int32 × Hp)), zlk L 0 = some (zrf (l0)) → zlk L 1 = some (.int (l1)) → zlk L 2 = some (.int (l2)) → f_X10_shard l0 l1 l2 h = some o → Ev G M_X10_shard d 0 L [] h (Ret Y_X10_shard (some (.int o.1)) o.2) := by
  intro l0 l1 l2 L h o g0 g1 g2 e
  unfold f_X10_shard at e
  refine r_iload_n d_X10_shard_0 rfl g1 ?_
  refine r_if_lt d_X10_shard_1 (tgt := 9) (by decide) (fun c1 => ?_) (fun c1 => ?_)
  · replace e := (if_pos c1).symm.trans e
    refine r_iconst d_X10_shard_9 (v := (-1 : Int32)) (by decide +kernel) ?_
    cases e
    exact g_iret d_X10_shard_10 rfl rfl
  · replace e := (if_neg c1).symm.trans e
    refine r_iload_n d_X10_shard_4 rfl g1 ?_
    refine r_iconst d_X10_shard_5 (v := (4 : Int32)) (by decide +kernel) ?_
    refine r_icmp_lt d_X10_shard_6 (tgt := 11) (by decide) (fun c2 => ?_) (fun c2 => ?_)
    · replace e := (if_pos c2).symm.trans e
      refine r_iload_n d_X10_shard_11 rfl g2 ?_
      rcases ite_or e with ⟨c3, e⟩ | ⟨c3, e⟩
      · refine r_tableIn d_X10_shard_12 (off := 44) (tgt := 56) (by rw [c3]; decide +kernel) (by rw [c3]; decide +kernel) (by rw [c3] <;> rfl) (by decide) ?_
        refine g_ald_n d_X10_shard_56 rfl g0 ?_
        replace e := ckd e
        obtain ⟨k4, e⟩ := e
        refine g_getR d_X10_shard_57 (f := 1103) k4 fk_11_18 rfl rfl ?_
        refine r_iload_n d_X10_shard_60 rfl g1 ?_
        replace e := ckd e
        obtain ⟨k5, e⟩ := e
        replace e := ckd e
        obtain ⟨k6, e⟩ := e
        refine g_aald d_X10_shard_61 k5 (by decide) (by decide) k6 rfl ?_
        replace e := ckd e
        obtain ⟨k7, e⟩ := e
        refine g_getI d_X10_shard_62 (f := 708) k7 fk_11_258 rfl rfl ?_
        cases e
        exact g_iret d_X10_shard_65 rfl rfl
      · rcases ite_or e with ⟨c8, e⟩ | ⟨c8, e⟩
        · refine r_tableIn d_X10_shard_12 (off := 54) (tgt := 66) (by rw [c8]; decide +kernel) (by rw [c8]; decide +kernel) (by rw [c8] <;> rfl) (by decide) ?_
          refine g_ald_n d_X10_shard_66 rfl g0 ?_
          replace e := ckd e
          obtain ⟨k9, e⟩ := e
          refine g_getR d_X10_shard_67 (f := 1103) k9 fk_11_18 rfl rfl ?_
          refine r_iload_n d_X10_shard_70 rfl g1 ?_
          replace e := ckd e
          obtain ⟨k10, e⟩ := e
          replace e := ckd e
          obtain ⟨k11, e⟩ := e
          refine g_aald d_X10_shard_71 k10 (by decide) (by decide) k11 rfl ?_
          replace e := ckd e
          obtain ⟨k12, e⟩ := e
          refine g_getI d_X10_shard_72 (f := 709) k12 fk_11_261 rfl rfl ?_
          cases e
          exact g_iret d_X10_shard_75 rfl rfl
        · rcases ite_or e with ⟨c13, e⟩ | ⟨c13, e⟩
          · refine r_tableIn d_X10_shard_12 (off := 64) (tgt := 76) (by rw [c13]; decide +kernel) (by rw [c13]; decide +kernel) (by rw [c13] <;> rfl) (by decide) ?_
            refine g_ald_n d_X10_shard_76 rfl g0 ?_
            replace e := ckd e
            obtain ⟨k14, e⟩ := e
            refine g_getR d_X10_shard_77 (f := 1103) k14 fk_11_18 rfl rfl ?_
            refine r_iload_n d_X10_shard_80 rfl g1 ?_
            replace e := ckd e
            obtain ⟨k15, e⟩ := e
            replace e := ckd e
            obtain ⟨k16, e⟩ := e
            refine g_aald d_X10_shard_81 k15 (by decide) (by decide) k16 rfl ?_
            replace e := ckd e
            obtain ⟨k17, e⟩ := e
            refine g_getI d_X10_shard_82 (f := 707) k17 fk_11_264 rfl rfl ?_
            cases e
            exact g_iret d_X10_shard_85 rfl rfl
          · rcases ite_or e with ⟨c18, e⟩ | ⟨c18, e⟩
            · refine r_tableIn d_X10_shard_12 (off := 74) (tgt := 86) (by rw [c18]; decide +kernel) (by rw [c18]; decide +kernel) (by rw [c18] <;> rfl) (by decide) ?_
              refine g_ald_n d_X10_shard_86 rfl g0 ?_
              replace e := ckd e
              obtain ⟨k19, e⟩ := e
              refine g_getR d_X10_shard_87 (f := 1103) k19 fk_11_18 rfl rfl ?_
              refine r_iload_n d_X10_shard_90 rfl g1 ?_
              replace e := ckd e
              obtain ⟨k20, e⟩ := e
              replace e := ckd e
              obtain ⟨k21, e⟩ := e
              refine g_aald d_X10_shard_91 k20 (by decide) (by decide) k21 rfl ?_
              replace e := ckd e
              obtain ⟨k22, e⟩ := e
              refine g_getI d_X10_shard_92 (f := 710) k22 fk_11_101 rfl rfl ?_
              cases e
              exact g_iret d_X10_shard_95 rfl rfl
            · rcases ite_or e with ⟨c23, e⟩ | ⟨c23, e⟩
              · refine r_tableIn d_X10_shard_12 (off := 84) (tgt := 96) (by rw [c23]; decide +kernel) (by rw [c23]; decide +kernel) (by rw [c23] <;> rfl) (by decide) ?_
                refine g_ald_n d_X10_shard_96 rfl g0 ?_
                replace e := ckd e
                obtain ⟨k24, e⟩ := e
                refine g_getR d_X10_shard_97 (f := 1103) k24 fk_11_18 rfl rfl ?_
                refine r_iload_n d_X10_shard_100 rfl g1 ?_
                replace e := ckd e
                obtain ⟨k25, e⟩ := e
                replace e := ckd e
                obtain ⟨k26, e⟩ := e
                refine g_aald d_X10_shard_101 k25 (by decide) (by decide) k26 rfl ?_
                replace e := ckd e
                obtain ⟨k27, e⟩ := e
                refine g_getR d_X10_shard_102 (f := 706) k27 fk_11_265 rfl rfl ?_
                replace e := ckd e
                obtain ⟨k28, e⟩ := e
                refine g_getI d_X10_shard_105 (f := 303) k28 fk_11_269 rfl rfl ?_
                cases e
                exact g_iret d_X10_shard_108 rfl rfl
              · rcases ite_or e with ⟨c29, e⟩ | ⟨c29, e⟩
                · refine r_tableIn d_X10_shard_12 (off := 97) (tgt := 109) (by rw [c29]; decide +kernel) (by rw [c29]; decide +kernel) (by rw [c29] <;> rfl) (by decide) ?_
                  refine g_ald_n d_X10_shard_109 rfl g0 ?_
                  replace e := ckd e
                  obtain ⟨k30, e⟩ := e
                  refine g_getR d_X10_shard_110 (f := 1103) k30 fk_11_18 rfl rfl ?_
                  refine r_iload_n d_X10_shard_113 rfl g1 ?_
                  replace e := ckd e
                  obtain ⟨k31, e⟩ := e
                  replace e := ckd e
                  obtain ⟨k32, e⟩ := e
                  refine g_aald d_X10_shard_114 k31 (by decide) (by decide) k32 rfl ?_
                  refine r_iconst d_X10_shard_115 (v := (0 : Int32)) (by decide +kernel) ?_
                  replace e := ckd e
                  obtain ⟨k34, e⟩ := e
                  replace e := bd e
                  obtain ⟨q33, eq33, e⟩ := e
                  refine g_callV d_X10_shard_116 vk_11_272 (as := [_]) rfl k34 rfl (by simp [zrf_cat, cat_int, cat_long]) (j := 1) (by omega) (c_X6_countTasks (by omega) eq33) ?_
                  cases e
                  exact g_iret d_X10_shard_119 rfl rfl
                · rcases ite_or e with ⟨c35, e⟩ | ⟨c35, e⟩
                  · refine r_tableIn d_X10_shard_12 (off := 108) (tgt := 120) (by rw [c35]; decide +kernel) (by rw [c35]; decide +kernel) (by rw [c35] <;> rfl) (by decide) ?_
                    refine g_ald_n d_X10_shard_120 rfl g0 ?_
                    replace e := ckd e
                    obtain ⟨k36, e⟩ := e
                    refine g_getR d_X10_shard_121 (f := 1103) k36 fk_11_18 rfl rfl ?_
                    refine r_iload_n d_X10_shard_124 rfl g1 ?_
                    replace e := ckd e
                    obtain ⟨k37, e⟩ := e
                    replace e := ckd e
                    obtain ⟨k38, e⟩ := e
                    refine g_aald d_X10_shard_125 k37 (by decide) (by decide) k38 rfl ?_
                    refine r_iconst d_X10_shard_126 (v := (1 : Int32)) (by decide +kernel) ?_
                    replace e := ckd e
                    obtain ⟨k40, e⟩ := e
                    replace e := bd e
                    obtain ⟨q39, eq39, e⟩ := e
                    refine g_callV d_X10_shard_127 vk_11_272 (as := [_]) rfl k40 rfl (by simp [zrf_cat, cat_int, cat_long]) (j := 1) (by omega) (c_X6_countTasks (by omega) eq39) ?_
                    cases e
                    exact g_iret d_X10_shard_130 rfl rfl
                  · refine r_tableOut d_X10_shard_12 (tgt := 131) (by have := lv_neT (a := 0) c3 (by decide +kernel); have := lv_neT (a := 1) c8 (by decide +kernel); have := lv_neT (a := 2) c13 (by decide +kernel); have := lv_neT (a := 3) c18 (by decide +kernel); have := lv_neT (a := 4) c23 (by decide +kernel); have := lv_neT (a := 5) c29 (by decide +kernel); have := lv_neT (a := 6) c35 (by decide +kernel); omega) (by decide) ?_
                    refine r_iconst d_X10_shard_131 (v := (-1 : Int32)) (by decide +kernel) ?_
                    cases e
                    exact g_iret d_X10_shard_132 rfl rfl
    · replace e := (if_neg c2).symm.trans e
      refine r_iconst d_X10_shard_9 (v := (-1 : Int32)) (by decide +kernel) ?_
      cases e
      exact g_iret d_X10_shard_10 rfl rfl

theorem c_X10_shard {G : Gd} {j : Nat} (hj : 2 ≤ j) {l0 : Nat} {l1 : Int32} {l2 : Int32} {h : Hp} {o : (Int32 × Hp)} (e : f_X10_shard l0 l1 l2 h = some o) : Cal G j Y_X10_shard [zrf (l0), .int (l1), .int (l2)] h (some (.int o.1)) o.2 := Cal.of (n := 0) (I := false) (by decide +kernel) (by decide) (by simp [lg_sl, zrf_cat, cat_int, cat_long]) (f_X10_shard_ok hj _ _ _ _ h o (by simp [lv_args, zlk, zrf_cat, cat_int, cat_long]) (by simp [lv_args, zlk, zrf_cat, cat_int, cat_long]) (by simp [lv_args, zlk, zrf_cat, cat_int, cat_long]) e)
theorem fk_11_276 : Fk "TaskWeave" 276 602 := ⟨by decide, by decide, by decide +kernel⟩
def f_X10_replica (l0 : Nat) (l1 : Int32) (l2 : Int32) (l3 : Int32) (h : Hp) : Option (Int32 × Hp) := ck (isO (h) (l0) 11) ((f_X10_findReplica (l0) (l1) (l2) (h)).bind (fun q1 => if (q1.1) = 0 then (some ((-1 : Int32), q1.2)) else (if (l3) = (0 : Int32) then (ck (isO (q1.2) (q1.1) 6) (if (zI (q1.2) 603 (q1.1)) = (0) then (some ((0 : Int32), q1.2)) else (some ((1 : Int32), q1.2)))) else (if (l3) = (1 : Int32) then (ck (isO (q1.2) (q1.1) 6) (some ((zI (q1.2) 602 (q1.1)) / ((16 : Int32)), q1.2))) else (if (l3) = (2 : Int32) then (ck (isO (q1.2) (q1.1) 6) (some ((zI (q1.2) 602 (q1.1)) - (zI (q1.2) 602 (q1.1)) / ((16 : Int32)) * ((16 : Int32)), q1.2))) else (if (l3) = (3 : Int32) then (ck (isO (q1.2) (q1.1) 6) (some (zI (q1.2) 604 (q1.1), q1.2))) else (some ((-1 : Int32), q1.2))))))))
theorem f_X10_replica_ok {G : Gd} {d : Nat} (hj : 2 ≤ d) : ∀ (l0 : Nat) (l1 : Int32) (l2 : Int32) (l3 : Int32) (L : List (Nat × Value)) (h : Hp) (o : (Int32 × Hp)), zlk L 0 = some (zrf (l0)) → zlk L 1 = some (.int (l1)) → zlk L 2 = some (.int (l2)) → zlk L 3 = some (.int (l3)) → f_X10_replica l0 l1 l2 l3 h = some o → Ev G M_X10_replica d 0 L [] h (Ret Y_X10_replica (some (.int o.1)) o.2) := by
  intro l0 l1 l2 l3 L h o g0 g1 g2 g3 e
  unfold f_X10_replica at e
  refine g_ald_n d_X10_replica_0 rfl g0 ?_
  refine r_iload_n d_X10_replica_1 rfl g1 ?_
  refine r_iload_n d_X10_replica_2 rfl g2 ?_
  replace e := ckd e
  obtain ⟨k2, e⟩ := e
  replace e := bd e
  obtain ⟨q1, eq1, e⟩ := e
  refine g_callV d_X10_replica_3 vk_11_202 (as := [_, _]) rfl k2 rfl (by simp [zrf_cat, cat_int, cat_long]) (j := 1) (by omega) (c_X10_findReplica (by omega) eq1) ?_
  refine s_ast d_X10_replica_6 (by decide) (fun L g4 gK => ?_)
  replace g3 := gK _ _ (by decide) (Or.inr rfl) g3
  refine g_ald d_X10_replica_8 g4 ?_
  refine g_ifnonnull d_X10_replica_10 (tgt := 15) (by decide) (fun c3 => ?_) (fun c3 => ?_)
  · replace e := (if_neg c3).symm.trans e
    refine r_iload_n d_X10_replica_15 rfl g3 ?_
    rcases ite_or e with ⟨c4, e⟩ | ⟨c4, e⟩
    · refine r_tableIn d_X10_replica_16 (off := 32) (tgt := 48) (by rw [c4]; decide +kernel) (by rw [c4]; decide +kernel) (by rw [c4] <;> rfl) (by decide) ?_
      refine g_ald d_X10_replica_48 g4 ?_
      replace e := ckd e
      obtain ⟨k5, e⟩ := e
      refine g_getI d_X10_replica_50 (f := 603) k5 fk_11_206 rfl rfl ?_
      refine r_if_eq d_X10_replica_53 (tgt := 60) (by decide) (fun c6 => ?_) (fun c6 => ?_)
      · replace e := (if_pos c6).symm.trans e
        refine r_iconst d_X10_replica_60 (v := (0 : Int32)) (by decide +kernel) ?_
        cases e
        exact g_iret d_X10_replica_61 rfl rfl
      · replace e := (if_neg c6).symm.trans e
        refine r_iconst d_X10_replica_56 (v := (1 : Int32)) (by decide +kernel) ?_
        refine r_goto d_X10_replica_57 (tgt := 61) (by decide) ?_
        cases e
        exact g_iret d_X10_replica_61 rfl rfl
    · rcases ite_or e with ⟨c7, e⟩ | ⟨c7, e⟩
      · refine r_tableIn d_X10_replica_16 (off := 46) (tgt := 62) (by rw [c7]; decide +kernel) (by rw [c7]; decide +kernel) (by rw [c7] <;> rfl) (by decide) ?_
        refine g_ald d_X10_replica_62 g4 ?_
        replace e := ckd e
        obtain ⟨k8, e⟩ := e
        refine g_getI d_X10_replica_64 (f := 602) k8 fk_11_276 rfl rfl ?_
        refine r_bipush d_X10_replica_67 (v := (16 : Int32)) (by decide +kernel) ?_
        refine r_idiv d_X10_replica_69 (by decide +kernel) ?_
        cases e
        exact g_iret d_X10_replica_70 rfl rfl
      · rcases ite_or e with ⟨c9, e⟩ | ⟨c9, e⟩
        · refine r_tableIn d_X10_replica_16 (off := 55) (tgt := 71) (by rw [c9]; decide +kernel) (by rw [c9]; decide +kernel) (by rw [c9] <;> rfl) (by decide) ?_
          refine g_ald d_X10_replica_71 g4 ?_
          replace e := ckd e
          obtain ⟨k10, e⟩ := e
          refine g_getI d_X10_replica_73 (f := 602) k10 fk_11_276 rfl rfl ?_
          refine r_bipush d_X10_replica_76 (v := (16 : Int32)) (by decide +kernel) ?_
          refine r_irem d_X10_replica_78 (by decide +kernel) ?_
          cases e
          exact g_iret d_X10_replica_79 rfl rfl
        · rcases ite_or e with ⟨c11, e⟩ | ⟨c11, e⟩
          · refine r_tableIn d_X10_replica_16 (off := 64) (tgt := 80) (by rw [c11]; decide +kernel) (by rw [c11]; decide +kernel) (by rw [c11] <;> rfl) (by decide) ?_
            refine g_ald d_X10_replica_80 g4 ?_
            replace e := ckd e
            obtain ⟨k12, e⟩ := e
            refine g_getI d_X10_replica_82 (f := 604) k12 fk_11_220 rfl rfl ?_
            cases e
            exact g_iret d_X10_replica_85 rfl rfl
          · refine r_tableOut d_X10_replica_16 (tgt := 86) (by have := lv_neT (a := 0) c4 (by decide +kernel); have := lv_neT (a := 1) c7 (by decide +kernel); have := lv_neT (a := 2) c9 (by decide +kernel); have := lv_neT (a := 3) c11 (by decide +kernel); omega) (by decide) ?_
            refine r_iconst d_X10_replica_86 (v := (-1 : Int32)) (by decide +kernel) ?_
            cases e
            exact g_iret d_X10_replica_87 rfl rfl
  · replace e := (if_pos c3).symm.trans e
    refine r_iconst d_X10_replica_13 (v := (-1 : Int32)) (by decide +kernel) ?_
    cases e
    exact g_iret d_X10_replica_14 rfl rfl

theorem c_X10_replica {G : Gd} {j : Nat} (hj : 2 ≤ j) {l0 : Nat} {l1 : Int32} {l2 : Int32} {l3 : Int32} {h : Hp} {o : (Int32 × Hp)} (e : f_X10_replica l0 l1 l2 l3 h = some o) : Cal G j Y_X10_replica [zrf (l0), .int (l1), .int (l2), .int (l3)] h (some (.int o.1)) o.2 := Cal.of (n := 0) (I := false) (by decide +kernel) (by decide) (by simp [lg_sl, zrf_cat, cat_int, cat_long]) (f_X10_replica_ok hj _ _ _ _ _ h o (by simp [lv_args, zlk, zrf_cat, cat_int, cat_long]) (by simp [lv_args, zlk, zrf_cat, cat_int, cat_long]) (by simp [lv_args, zlk, zrf_cat, cat_int, cat_long]) (by simp [lv_args, zlk, zrf_cat, cat_int, cat_long]) e)
theorem vk_11_277 : Vk "TaskWeave" 277 1 6 Y_X5_byteAt := ⟨yk_X5_byteAt, by decide +kernel, by decide +kernel, by decide +kernel, by decide⟩
def f_X10_disk (l0 : Nat) (l1 : Int32) (l2 : Int32) (l3 : Int32) (l4 : Int32) (h : Hp) : Option (Int32 × Hp) := ck (isO (h) (l0) 11) ((f_X10_findReplica (l0) (l1) (l2) (h)).bind (fun q1 => if (q1.1) = 0 then (some ((-1 : Int32), q1.2)) else (if (l3) < (0) then (some ((-1 : Int32), q1.2)) else (if (l4) < (0) then (some ((-1 : Int32), q1.2)) else (if (l4) < ((512 : Int32)) then (ck (isO (q1.2) (q1.1) 6) (bh ((((zI (q1.2) 602 (q1.1)) + ((512 : Int32))) - ((1 : Int32))) / ((512 : Int32))) (fun x8 => if (x8) ≤ (l3) then (some ((-1 : Int32), q1.2)) else ((f_X5_byteAt (q1.1) (((l3) * ((512 : Int32))) + (l4)) (q1.2)).bind (fun q10 => some (q10.1, q10.2)))))) else (some ((-1 : Int32), q1.2)))))))
theorem f_X10_disk_ok {G : Gd} {d : Nat} (hj : 2 ≤ d) : ∀ (l0 : Nat) (l1 : Int32) (l2 : Int32) (l3 : Int32) (l4 : Int32) (L : List (Nat × Value)) (h : Hp) (o : (Int32 × Hp)), zlk L 0 = some (zrf (l0)) → zlk L 1 = some (.int (l1)) → zlk L 2 = some (.int (l2)) → zlk L 3 = some (.int (l3)) → zlk L 4 = some (.int (l4)) → f_X10_disk l0 l1 l2 l3 l4 h = some o → Ev G M_X10_disk d 0 L [] h (Ret Y_X10_disk (some (.int o.1)) o.2) := by
  intro l0 l1 l2 l3 l4 L h o g0 g1 g2 g3 g4 e
  unfold f_X10_disk at e
  refine g_ald_n d_X10_disk_0 rfl g0 ?_
  refine r_iload_n d_X10_disk_1 rfl g1 ?_
  refine r_iload_n d_X10_disk_2 rfl g2 ?_
  replace e := ckd e
  obtain ⟨k2, e⟩ := e
  replace e := bd e
  obtain ⟨q1, eq1, e⟩ := e
  refine g_callV d_X10_disk_3 vk_11_202 (as := [_, _]) rfl k2 rfl (by simp [zrf_cat, cat_int, cat_long]) (j := 1) (by omega) (c_X10_findReplica (by omega) eq1) ?_
  refine s_ast d_X10_disk_6 (by decide) (fun L g5 gK => ?_)
  replace g3 := gK _ _ (by decide) (Or.inr rfl) g3
  replace g4 := gK _ _ (by decide) (Or.inr rfl) g4
  refine g_ald d_X10_disk_8 g5 ?_
  refine g_ifnull d_X10_disk_10 (tgt := 30) (by decide) (fun c3 => ?_) (fun c3 => ?_)
  · replace e := (if_pos c3).symm.trans e
    refine r_iconst d_X10_disk_30 (v := (-1 : Int32)) (by decide +kernel) ?_
    cases e
    exact g_iret d_X10_disk_31 rfl rfl
  · replace e := (if_neg c3).symm.trans e
    refine r_iload_n d_X10_disk_13 rfl g3 ?_
    refine r_if_lt d_X10_disk_14 (tgt := 30) (by decide) (fun c4 => ?_) (fun c4 => ?_)
    · replace e := (if_pos c4).symm.trans e
      refine r_iconst d_X10_disk_30 (v := (-1 : Int32)) (by decide +kernel) ?_
      cases e
      exact g_iret d_X10_disk_31 rfl rfl
    · replace e := (if_neg c4).symm.trans e
      refine r_iload d_X10_disk_17 g4 ?_
      refine r_if_lt d_X10_disk_19 (tgt := 30) (by decide) (fun c5 => ?_) (fun c5 => ?_)
      · replace e := (if_pos c5).symm.trans e
        refine r_iconst d_X10_disk_30 (v := (-1 : Int32)) (by decide +kernel) ?_
        cases e
        exact g_iret d_X10_disk_31 rfl rfl
      · replace e := (if_neg c5).symm.trans e
        refine r_iload d_X10_disk_22 g4 ?_
        refine r_sipush d_X10_disk_24 (v := (512 : Int32)) (by decide +kernel) ?_
        refine r_icmp_lt d_X10_disk_27 (tgt := 32) (by decide) (fun c6 => ?_) (fun c6 => ?_)
        · replace e := (if_pos c6).symm.trans e
          refine g_ald d_X10_disk_32 g5 ?_
          replace e := ckd e
          obtain ⟨k7, e⟩ := e
          refine g_getI d_X10_disk_34 (f := 602) k7 fk_11_276 rfl rfl ?_
          refine r_sipush d_X10_disk_37 (v := (512 : Int32)) (by decide +kernel) ?_
          refine r_iadd d_X10_disk_40 ?_
          refine r_iconst d_X10_disk_41 (v := (1 : Int32)) (by decide +kernel) ?_
          refine r_isub d_X10_disk_42 ?_
          refine r_sipush d_X10_disk_43 (v := (512 : Int32)) (by decide +kernel) ?_
          refine r_idiv d_X10_disk_46 (by decide +kernel) ?_
          replace e := bhd e
          obtain ⟨_, rfl, e⟩ := e
          refine s_istore d_X10_disk_47 (by decide) (fun L g6 gK => ?_)
          replace g3 := gK _ _ (by decide) (Or.inr rfl) g3
          replace g4 := gK _ _ (by decide) (Or.inr rfl) g4
          replace g5 := gK _ _ (by decide) (Or.inr (zrf_cat _)) g5
          refine r_iload_n d_X10_disk_49 rfl g3 ?_
          refine r_iload d_X10_disk_50 g6 ?_
          refine r_icmp_ge d_X10_disk_52 (tgt := 71) (by decide) (fun c9 => ?_) (fun c9 => ?_)
          · replace e := (if_pos c9).symm.trans e
            refine r_iconst d_X10_disk_71 (v := (-1 : Int32)) (by decide +kernel) ?_
            cases e
            exact g_iret d_X10_disk_72 rfl rfl
          · replace e := (if_neg c9).symm.trans e
            refine g_ald d_X10_disk_55 g5 ?_
            refine r_iload_n d_X10_disk_57 rfl g3 ?_
            refine r_sipush d_X10_disk_58 (v := (512 : Int32)) (by decide +kernel) ?_
            refine r_imul d_X10_disk_61 ?_
            refine r_iload d_X10_disk_62 g4 ?_
            refine r_iadd d_X10_disk_64 ?_
            replace e := bd e
            obtain ⟨q10, eq10, e⟩ := e
            refine g_callV d_X10_disk_65 vk_11_277 (as := [_]) rfl k7 rfl (by simp [zrf_cat, cat_int, cat_long]) (j := 1) (by omega) (c_X5_byteAt (by omega) eq10) ?_
            refine r_goto d_X10_disk_68 (tgt := 72) (by decide) ?_
            cases e
            exact g_iret d_X10_disk_72 rfl rfl
        · replace e := (if_neg c6).symm.trans e
          refine r_iconst d_X10_disk_30 (v := (-1 : Int32)) (by decide +kernel) ?_
          cases e
          exact g_iret d_X10_disk_31 rfl rfl

theorem c_X10_disk {G : Gd} {j : Nat} (hj : 2 ≤ j) {l0 : Nat} {l1 : Int32} {l2 : Int32} {l3 : Int32} {l4 : Int32} {h : Hp} {o : (Int32 × Hp)} (e : f_X10_disk l0 l1 l2 l3 l4 h = some o) : Cal G j Y_X10_disk [zrf (l0), .int (l1), .int (l2), .int (l3), .int (l4)] h (some (.int o.1)) o.2 := Cal.of (n := 0) (I := false) (by decide +kernel) (by decide) (by simp [lg_sl, zrf_cat, cat_int, cat_long]) (f_X10_disk_ok hj _ _ _ _ _ _ h o (by simp [lv_args, zlk, zrf_cat, cat_int, cat_long]) (by simp [lv_args, zlk, zrf_cat, cat_int, cat_long]) (by simp [lv_args, zlk, zrf_cat, cat_int, cat_long]) (by simp [lv_args, zlk, zrf_cat, cat_int, cat_long]) (by simp [lv_args, zlk, zrf_cat, cat_int, cat_long]) e)
def f_X10_originOf (l0 : Int32) (l1 : Int32) (h : Hp) : Option (Int32 × Hp) := some (((-1 : Int32)) - ((((64 : Int32)) * (l0)) + (l1)), h)
theorem f_X10_originOf_ok {G : Gd} {d : Nat} (hj : 1 ≤ d) : ∀ (l0 : Int32) (l1 : Int32) (L : List (Nat × Value)) (h : Hp) (o : (Int32 × Hp)), zlk L 0 = some (.int (l0)) → zlk L 1 = some (.int (l1)) → f_X10_originOf l0 l1 h = some o → Ev G M_X10_originOf d 0 L [] h (Ret Y_X10_originOf (some (.int o.1)) o.2) := by
  intro l0 l1 L h o g0 g1 e
  unfold f_X10_originOf at e
  refine r_iconst d_X10_originOf_0 (v := (-1 : Int32)) (by decide +kernel) ?_
  refine r_bipush d_X10_originOf_1 (v := (64 : Int32)) (by decide +kernel) ?_
  refine r_iload_n d_X10_originOf_3 rfl g0 ?_
  refine r_imul d_X10_originOf_4 ?_
  refine r_iload_n d_X10_originOf_5 rfl g1 ?_
  refine r_iadd d_X10_originOf_6 ?_
  refine r_isub d_X10_originOf_7 ?_
  cases e
  exact g_iret d_X10_originOf_8 rfl rfl

theorem c_X10_originOf {G : Gd} {j : Nat} (hj : 1 ≤ j) {l0 : Int32} {l1 : Int32} {h : Hp} {o : (Int32 × Hp)} (e : f_X10_originOf l0 l1 h = some o) : Cal G j Y_X10_originOf [.int (l0), .int (l1)] h (some (.int o.1)) o.2 := Cal.of (n := 0) (I := false) (by decide +kernel) (by decide) (by simp [lg_sl, zrf_cat, cat_int, cat_long]) (f_X10_originOf_ok hj _ _ _ h o (by simp [lv_args, zlk, zrf_cat, cat_int, cat_long]) (by simp [lv_args, zlk, zrf_cat, cat_int, cat_long]) e)
theorem fk_11_287 : Fk "TaskWeave" 287 711 := ⟨by decide, by decide, by decide +kernel⟩
def f_X10_recordsTried_4 : Nat → Nat → Int64 → Int32 → Hp → Option (Int64 × Hp)
  | 0, _, _, _, _ => none
  | n + 1, l0, l1, l3, h => if ((4 : Int32)) ≤ (l3) then (some (l1, h)) else (ck (isO (h) (l0) 11) (ck (isO (h) (zR (h) 1103 (l0)) 26) (ck (inR (l3) (zL (h) (zR (h) 1103 (l0)))) (ck (isO (h) (zQ (h) (zR (h) 1103 (l0)) (l3).toNatClampNeg) 7) (bh ((l1) + (zJ (h) 711 (zQ (h) (zR (h) 1103 (l0)) (l3).toNatClampNeg))) (fun x7 => bh ((l3) + (1 : Int32)) (fun x8 => f_X10_recordsTried_4 n (l0) (x7) (x8) (h))))))))
theorem f_X10_recordsTried_4_ok {G : Gd} {d : Nat} (hj : 1 ≤ d) : ∀ (n : Nat) (l0 : Nat) (l1 : Int64) (l3 : Int32) (L : List (Nat × Value)) (h : Hp) (o : (Int64 × Hp)), zlk L 0 = some (zrf (l0)) → zlk L 1 = some (.long (l1)) → zlk L 3 = some (.int (l3)) → f_X10_recordsTried_4 n l0 l1 l3 h = some o → Ev G M_X10_recordsTried d 4 L [] h (Ret Y_X10_recordsTried (some (.long o.1)) o.2) := by
  intro n
  induction n with
  | zero =>
    intro l0 l1 l3 L h o g0 g1 g3 e
    cases e
  | succ n ih =>
    intro l0 l1 l3 L h o g0 g1 g3 e
    unfold f_X10_recordsTried_4 at e
    refine r_iload_n d_X10_recordsTried_4 rfl g3 ?_
    refine r_iconst d_X10_recordsTried_5 (v := (4 : Int32)) (by decide +kernel) ?_
    refine r_icmp_ge d_X10_recordsTried_6 (tgt := 27) (by decide) (fun c2 => ?_) (fun c2 => ?_)
    · replace e := (if_pos c2).symm.trans e
      refine r_lload_n d_X10_recordsTried_27 rfl g1 ?_
      cases e
      exact g_lret d_X10_recordsTried_28 rfl
    · replace e := (if_neg c2).symm.trans e
      refine r_lload_n d_X10_recordsTried_9 rfl g1 ?_
      refine g_ald_n d_X10_recordsTried_10 rfl g0 ?_
      replace e := ckd e
      obtain ⟨k3, e⟩ := e
      refine g_getR d_X10_recordsTried_11 (f := 1103) k3 fk_11_18 rfl rfl ?_
      refine r_iload_n d_X10_recordsTried_14 rfl g3 ?_
      replace e := ckd e
      obtain ⟨k4, e⟩ := e
      replace e := ckd e
      obtain ⟨k5, e⟩ := e
      refine g_aald d_X10_recordsTried_15 k4 (by decide) (by decide) k5 rfl ?_
      replace e := ckd e
      obtain ⟨k6, e⟩ := e
      refine g_getJ d_X10_recordsTried_16 (f := 711) k6 fk_11_287 rfl rfl ?_
      refine r_ladd d_X10_recordsTried_19 ?_
      replace e := bhd e
      obtain ⟨_, rfl, e⟩ := e
      refine s_lstore_n d_X10_recordsTried_20 rfl (by decide) (fun L g1 gK => ?_)
      replace g0 := gK _ _ (by decide) (by decide) (Or.inr (zrf_cat _)) g0
      replace g3 := gK _ _ (by decide) (by decide) (Or.inr rfl) g3
      replace e := bhd e
      obtain ⟨_, rfl, e⟩ := e
      refine s_iinc d_X10_recordsTried_21 g3 (w := (1 : Int32)) (by decide +kernel) (by decide) (fun L g3 gK => ?_)
      replace g0 := gK _ _ (by decide) (Or.inr (zrf_cat _)) g0
      replace g1 := gK _ _ (by decide) (Or.inl (by decide)) g1
      refine r_goto d_X10_recordsTried_24 (tgt := 4) (by decide) ?_
      exact ih _ _ _ _ _ _ g0 g1 g3 e

def f_X10_recordsTried (l0 : Nat) (h : Hp) : Option (Int64 × Hp) := bh ((0 : Int64)) (fun x1 => f_X10_recordsTried_4 fz (l0) (x1) ((0 : Int32)) (h))
theorem f_X10_recordsTried_ok {G : Gd} {d : Nat} (hj : 1 ≤ d) : ∀ (l0 : Nat) (L : List (Nat × Value)) (h : Hp) (o : (Int64 × Hp)), zlk L 0 = some (zrf (l0)) → f_X10_recordsTried l0 h = some o → Ev G M_X10_recordsTried d 0 L [] h (Ret Y_X10_recordsTried (some (.long o.1)) o.2) := by
  intro l0 L h o g0 e
  unfold f_X10_recordsTried at e
  refine r_lconst d_X10_recordsTried_0 (v := (0 : Int64)) (by decide +kernel) ?_
  replace e := bhd e
  obtain ⟨_, rfl, e⟩ := e
  refine s_lstore_n d_X10_recordsTried_1 rfl (by decide) (fun L g1 gK => ?_)
  replace g0 := gK _ _ (by decide) (by decide) (Or.inr (zrf_cat _)) g0
  refine r_iconst d_X10_recordsTried_2 (v := (0 : Int32)) (by decide +kernel) ?_
  refine s_istore_n d_X10_recordsTried_3 rfl (by decide) (fun L g3 gK => ?_)
  replace g0 := gK _ _ (by decide) (Or.inr (zrf_cat _)) g0
  replace g1 := gK _ _ (by decide) (Or.inl (by decide)) g1
  exact f_X10_recordsTried_4_ok hj _ _ _ _ _ _ _ g0 g1 g3 e

theorem c_X10_recordsTried {G : Gd} {j : Nat} (hj : 1 ≤ j) {l0 : Nat} {h : Hp} {o : (Int64 × Hp)} (e : f_X10_recordsTried l0 h = some o) : Cal G j Y_X10_recordsTried [zrf (l0)] h (some (.long o.1)) o.2 := Cal.of (n := 0) (I := false) (by decide +kernel) (by decide) (by simp [lg_sl, zrf_cat, cat_int, cat_long]) (f_X10_recordsTried_ok hj _ _ h o (by simp [lv_args, zlk, zrf_cat, cat_int, cat_long]) e)
def f_J9_min_7cf53 (l0 : Int32) (l1 : Int32) (h : Hp) : Option (Int32 × Hp) := if (l1) < (l0) then (some (l1, h)) else (some (l0, h))
theorem f_J9_min_7cf53_ok {G : Gd} {d : Nat} (hj : 1 ≤ d) : ∀ (l0 : Int32) (l1 : Int32) (L : List (Nat × Value)) (h : Hp) (o : (Int32 × Hp)), zlk L 0 = some (.int (l0)) → zlk L 1 = some (.int (l1)) → f_J9_min_7cf53 l0 l1 h = some o → Ev G M_J9_min_7cf53 d 0 L [] h (Ret Y_J9_min_7cf53 (some (.int o.1)) o.2) := by
  intro l0 l1 L h o g0 g1 e
  unfold f_J9_min_7cf53 at e
  refine r_iload_n d_J9_min_7cf53_0 rfl g0 ?_
  refine r_iload_n d_J9_min_7cf53_1 rfl g1 ?_
  refine r_icmp_gt d_J9_min_7cf53_2 (tgt := 9) (by decide) (fun c1 => ?_) (fun c1 => ?_)
  · replace e := (if_pos c1).symm.trans e
    refine r_iload_n d_J9_min_7cf53_9 rfl g1 ?_
    cases e
    exact g_iret d_J9_min_7cf53_10 rfl rfl
  · replace e := (if_neg c1).symm.trans e
    refine r_iload_n d_J9_min_7cf53_5 rfl g0 ?_
    refine r_goto d_J9_min_7cf53_6 (tgt := 10) (by decide) ?_
    cases e
    exact g_iret d_J9_min_7cf53_10 rfl rfl

theorem c_J9_min_7cf53 {G : Gd} {j : Nat} (hj : 1 ≤ j) {l0 : Int32} {l1 : Int32} {h : Hp} {o : (Int32 × Hp)} (e : f_J9_min_7cf53 l0 l1 h = some o) : Cal G j Y_J9_min_7cf53 [.int (l0), .int (l1)] h (some (.int o.1)) o.2 := Cal.of (n := 0) (I := false) (by decide +kernel) (by decide) (by simp [lg_sl, zrf_cat, cat_int, cat_long]) (f_J9_min_7cf53_ok hj _ _ _ h o (by simp [lv_args, zlk, zrf_cat, cat_int, cat_long]) (by simp [lv_args, zlk, zrf_cat, cat_int, cat_long]) e)
theorem vk_11_290 : Vk "TaskWeave" 290 0 10 Y_X9_hasDeadline := ⟨yk_X9_hasDeadline, by decide +kernel, by decide +kernel, by decide +kernel, by decide⟩
theorem vk_11_293 : Vk "TaskWeave" 293 0 10 Y_X9_deadline := ⟨yk_X9_deadline, by decide +kernel, by decide +kernel, by decide +kernel, by decide⟩
def f_X10_lastQuietTick_56 (K4 : Nat → Int32 → Int32 → Hp → Option (Int32 × Hp)) (l0 : Nat) (l2 : Int32) (l3 : Int32) (h : Hp) : Option (Int32 × Hp) := bh ((l3) + (1 : Int32)) (fun x19 => K4 (l0) (l2) (x19) (h))
theorem f_X10_lastQuietTick_56_ok {G : Gd} {d : Nat} (K4 : Nat → Int32 → Int32 → Hp → Option (Int32 × Hp)) (hj : 3 ≤ d) (hK4 : ∀ (l0 : Nat) (l2 : Int32) (l3 : Int32) (L : List (Nat × Value)) (h : Hp) (o : (Int32 × Hp)), zlk L 0 = some (zrf (l0)) → zlk L 2 = some (.int (l2)) → zlk L 3 = some (.int (l3)) → K4 l0 l2 l3 h = some o → Ev G M_X10_lastQuietTick d 4 L [] h (Ret Y_X10_lastQuietTick (some (.int o.1)) o.2)) : ∀ (l0 : Nat) (l2 : Int32) (l3 : Int32) (L : List (Nat × Value)) (h : Hp) (o : (Int32 × Hp)), zlk L 0 = some (zrf (l0)) → zlk L 2 = some (.int (l2)) → zlk L 3 = some (.int (l3)) → f_X10_lastQuietTick_56 K4 l0 l2 l3 h = some o → Ev G M_X10_lastQuietTick d 56 L [] h (Ret Y_X10_lastQuietTick (some (.int o.1)) o.2) := by
  intro l0 l2 l3 L h o g0 g2 g3 e
  unfold f_X10_lastQuietTick_56 at e
  replace e := bhd e
  obtain ⟨_, rfl, e⟩ := e
  refine s_iinc d_X10_lastQuietTick_56 g3 (w := (1 : Int32)) (by decide +kernel) (by decide) (fun L g3 gK => ?_)
  replace g0 := gK _ _ (by decide) (Or.inr (zrf_cat _)) g0
  replace g2 := gK _ _ (by decide) (Or.inr rfl) g2
  refine r_goto d_X10_lastQuietTick_59 (tgt := 4) (by decide) ?_
  exact hK4 _ _ _ _ _ _ g0 g2 g3 e

def f_X10_lastQuietTick_4 : Nat → Nat → Int32 → Int32 → Hp → Option (Int32 × Hp)
  | 0, _, _, _, _ => none
  | n + 1, l0, l2, l3, h => if ((64 : Int32)) ≤ (l3) then (ck (isO (h) (l0) 11) (ck (isO (h) (zR (h) 1101 (l0)) 1) (some ((if (l2) < (zI (h) 100 (zR (h) 1101 (l0))) then (zI (h) 100 (zR (h) 1101 (l0))) else (l2)), h)))) else (ck (isO (h) (l0) 11) ((f_X10_find (l0) (l3) (h)).bind (fun q4 => if (q4.1) = 0 then (f_X10_lastQuietTick_56 (f_X10_lastQuietTick_4 n ) (l0) (l2) (l3) (q4.2)) else (ck (isO (q4.2) (l0) 11) (ck (isO (q4.2) (zR (q4.2) 1103 (l0)) 26) (ck (inR ((l3) - (l3) / ((4 : Int32)) * ((4 : Int32))) (zL (q4.2) (zR (q4.2) 1103 (l0)))) (ck (isO (q4.2) (zQ (q4.2) (zR (q4.2) 1103 (l0)) ((l3) - (l3) / ((4 : Int32)) * ((4 : Int32))).toNatClampNeg) 7) ((f_X6_works (zQ (q4.2) (zR (q4.2) 1103 (l0)) ((l3) - (l3) / ((4 : Int32)) * ((4 : Int32))).toNatClampNeg) (q4.2)).bind (fun q10 => if (q10.1) = (0) then (f_X10_lastQuietTick_56 (f_X10_lastQuietTick_4 n ) (l0) (l2) (l3) (q10.2)) else (ck (isO (q10.2) (q4.1) 10) ((f_X9_hasDeadline (q4.1) (q10.2)).bind (fun q13 => if (q13.1) = (0) then (f_X10_lastQuietTick_56 (f_X10_lastQuietTick_4 n ) (l0) (l2) (l3) (q13.2)) else (ck (isO (q13.2) (q4.1) 10) ((f_X9_deadline (q4.1) (q13.2)).bind (fun q16 => bh ((if ((q16.1) - ((1 : Int32))) < (l2) then ((q16.1) - ((1 : Int32))) else (l2))) (fun x18 => f_X10_lastQuietTick_56 (f_X10_lastQuietTick_4 n ) (l0) (x18) (l3) (q16.2)))))))))))))))))
theorem f_X10_lastQuietTick_4_ok {G : Gd} {d : Nat} (hj : 3 ≤ d) : ∀ (n : Nat) (l0 : Nat) (l2 : Int32) (l3 : Int32) (L : List (Nat × Value)) (h : Hp) (o : (Int32 × Hp)), zlk L 0 = some (zrf (l0)) → zlk L 2 = some (.int (l2)) → zlk L 3 = some (.int (l3)) → f_X10_lastQuietTick_4 n l0 l2 l3 h = some o → Ev G M_X10_lastQuietTick d 4 L [] h (Ret Y_X10_lastQuietTick (some (.int o.1)) o.2) := by
  intro n
  induction n with
  | zero =>
    intro l0 l2 l3 L h o g0 g2 g3 e
    cases e
  | succ n ih =>
    intro l0 l2 l3 L h o g0 g2 g3 e
    unfold f_X10_lastQuietTick_4 at e
    refine r_iload_n d_X10_lastQuietTick_4 rfl g3 ?_
    refine r_bipush d_X10_lastQuietTick_5 (v := (64 : Int32)) (by decide +kernel) ?_
    refine r_icmp_ge d_X10_lastQuietTick_7 (tgt := 62) (by decide) (fun c1 => ?_) (fun c1 => ?_)
    · replace e := (if_pos c1).symm.trans e
      refine r_iload_n d_X10_lastQuietTick_62 rfl g2 ?_
      refine g_ald_n d_X10_lastQuietTick_63 rfl g0 ?_
      replace e := ckd e
      obtain ⟨k2, e⟩ := e
      refine g_getR d_X10_lastQuietTick_64 (f := 1101) k2 fk_11_31 rfl rfl ?_
      replace e := ckd e
      obtain ⟨k3, e⟩ := e
      refine g_getI d_X10_lastQuietTick_67 (f := 100) k3 fk_11_144 rfl rfl ?_
      refine g_mmax d_X10_lastQuietTick_70 (by decide +kernel) (by omega) (by simp [zrf_cat, cat_int, cat_long]) ?_
      cases e
      exact g_iret d_X10_lastQuietTick_73 rfl rfl
    · replace e := (if_neg c1).symm.trans e
      refine g_ald_n d_X10_lastQuietTick_10 rfl g0 ?_
      refine r_iload_n d_X10_lastQuietTick_11 rfl g3 ?_
      replace e := ckd e
      obtain ⟨k5, e⟩ := e
      replace e := bd e
      obtain ⟨q4, eq4, e⟩ := e
      refine g_callV d_X10_lastQuietTick_12 vk_11_111 (as := [_]) rfl k5 rfl (by simp [zrf_cat, cat_int, cat_long]) (j := 2) (by omega) (c_X10_find (by omega) eq4) ?_
      refine s_ast d_X10_lastQuietTick_15 (by decide) (fun L g4 gK => ?_)
      replace g0 := gK _ _ (by decide) (Or.inr (zrf_cat _)) g0
      replace g2 := gK _ _ (by decide) (Or.inr rfl) g2
      replace g3 := gK _ _ (by decide) (Or.inr rfl) g3
      refine g_ald d_X10_lastQuietTick_17 g4 ?_
      refine g_ifnull d_X10_lastQuietTick_19 (tgt := 56) (by decide) (fun c6 => ?_) (fun c6 => ?_)
      · replace e := (if_pos c6).symm.trans e
        exact f_X10_lastQuietTick_56_ok _ hj ih _ _ _ _ _ _ g0 g2 g3 e
      · replace e := (if_neg c6).symm.trans e
        refine g_ald_n d_X10_lastQuietTick_22 rfl g0 ?_
        replace e := ckd e
        obtain ⟨k7, e⟩ := e
        refine g_getR d_X10_lastQuietTick_23 (f := 1103) k7 fk_11_18 rfl rfl ?_
        refine r_iload_n d_X10_lastQuietTick_26 rfl g3 ?_
        refine r_iconst d_X10_lastQuietTick_27 (v := (4 : Int32)) (by decide +kernel) ?_
        refine r_irem d_X10_lastQuietTick_28 (by decide +kernel) ?_
        replace e := ckd e
        obtain ⟨k8, e⟩ := e
        replace e := ckd e
        obtain ⟨k9, e⟩ := e
        refine g_aald d_X10_lastQuietTick_29 k8 (by decide) (by decide) k9 rfl ?_
        replace e := ckd e
        obtain ⟨k11, e⟩ := e
        replace e := bd e
        obtain ⟨q10, eq10, e⟩ := e
        refine g_callV d_X10_lastQuietTick_30 vk_11_81 (as := []) rfl k11 rfl (by simp [zrf_cat, cat_int, cat_long]) (j := 1) (by omega) (c_X6_works (by omega) eq10) ?_
        refine r_if_eq d_X10_lastQuietTick_33 (tgt := 56) (by decide) (fun c12 => ?_) (fun c12 => ?_)
        · replace e := (if_pos c12).symm.trans e
          exact f_X10_lastQuietTick_56_ok _ hj ih _ _ _ _ _ _ g0 g2 g3 e
        · replace e := (if_neg c12).symm.trans e
          refine g_ald d_X10_lastQuietTick_36 g4 ?_
          replace e := ckd e
          obtain ⟨k14, e⟩ := e
          replace e := bd e
          obtain ⟨q13, eq13, e⟩ := e
          refine g_callV d_X10_lastQuietTick_38 vk_11_290 (as := []) rfl k14 rfl (by simp [zrf_cat, cat_int, cat_long]) (j := 1) (by omega) (c_X9_hasDeadline (by omega) eq13) ?_
          refine r_if_eq d_X10_lastQuietTick_41 (tgt := 56) (by decide) (fun c15 => ?_) (fun c15 => ?_)
          · replace e := (if_pos c15).symm.trans e
            exact f_X10_lastQuietTick_56_ok _ hj ih _ _ _ _ _ _ g0 g2 g3 e
          · replace e := (if_neg c15).symm.trans e
            refine r_iload_n d_X10_lastQuietTick_44 rfl g2 ?_
            refine g_ald d_X10_lastQuietTick_45 g4 ?_
            replace e := ckd e
            obtain ⟨k17, e⟩ := e
            replace e := bd e
            obtain ⟨q16, eq16, e⟩ := e
            refine g_callV d_X10_lastQuietTick_47 vk_11_293 (as := []) rfl k17 rfl (by simp [zrf_cat, cat_int, cat_long]) (j := 1) (by omega) (c_X9_deadline (by omega) eq16) ?_
            refine r_iconst d_X10_lastQuietTick_50 (v := (1 : Int32)) (by decide +kernel) ?_
            refine r_isub d_X10_lastQuietTick_51 ?_
            refine g_mmin d_X10_lastQuietTick_52 (by decide +kernel) (by omega) (by simp [zrf_cat, cat_int, cat_long]) ?_
            replace e := bhd e
            obtain ⟨_, rfl, e⟩ := e
            refine s_istore_n d_X10_lastQuietTick_55 rfl (by decide) (fun L g2 gK => ?_)
            replace g0 := gK _ _ (by decide) (Or.inr (zrf_cat _)) g0
            replace g3 := gK _ _ (by decide) (Or.inr rfl) g3
            exact f_X10_lastQuietTick_56_ok _ hj ih _ _ _ _ _ _ g0 g2 g3 e

def f_X10_lastQuietTick (l0 : Nat) (l1 : Int32) (h : Hp) : Option (Int32 × Hp) := f_X10_lastQuietTick_4 fz (l0) (l1) ((0 : Int32)) (h)
theorem f_X10_lastQuietTick_ok {G : Gd} {d : Nat} (hj : 3 ≤ d) : ∀ (l0 : Nat) (l1 : Int32) (L : List (Nat × Value)) (h : Hp) (o : (Int32 × Hp)), zlk L 0 = some (zrf (l0)) → zlk L 1 = some (.int (l1)) → f_X10_lastQuietTick l0 l1 h = some o → Ev G M_X10_lastQuietTick d 0 L [] h (Ret Y_X10_lastQuietTick (some (.int o.1)) o.2) := by
  intro l0 l1 L h o g0 g1 e
  unfold f_X10_lastQuietTick at e
  refine r_iload_n d_X10_lastQuietTick_0 rfl g1 ?_
  refine s_istore_n d_X10_lastQuietTick_1 rfl (by decide) (fun L g2 gK => ?_)
  replace g0 := gK _ _ (by decide) (Or.inr (zrf_cat _)) g0
  refine r_iconst d_X10_lastQuietTick_2 (v := (0 : Int32)) (by decide +kernel) ?_
  refine s_istore_n d_X10_lastQuietTick_3 rfl (by decide) (fun L g3 gK => ?_)
  replace g0 := gK _ _ (by decide) (Or.inr (zrf_cat _)) g0
  replace g2 := gK _ _ (by decide) (Or.inr rfl) g2
  exact f_X10_lastQuietTick_4_ok hj _ _ _ _ _ _ _ g0 g2 g3 e

theorem c_X10_lastQuietTick {G : Gd} {j : Nat} (hj : 3 ≤ j) {l0 : Nat} {l1 : Int32} {h : Hp} {o : (Int32 × Hp)} (e : f_X10_lastQuietTick l0 l1 h = some o) : Cal G j Y_X10_lastQuietTick [zrf (l0), .int (l1)] h (some (.int o.1)) o.2 := Cal.of (n := 0) (I := false) (by decide +kernel) (by decide) (by simp [lg_sl, zrf_cat, cat_int, cat_long]) (f_X10_lastQuietTick_ok hj _ _ _ h o (by simp [lv_args, zlk, zrf_cat, cat_int, cat_long]) (by simp [lv_args, zlk, zrf_cat, cat_int, cat_long]) e)
theorem fk_12_98 : Fk "TaskWeaveModel" 98 1236 := ⟨by decide, by decide, by decide +kernel⟩
theorem fk_12_101 : Fk "TaskWeaveModel" 101 1237 := ⟨by decide, by decide, by decide +kernel⟩
theorem fk_12_92 : Fk "TaskWeaveModel" 92 1234 := ⟨by decide, by decide, by decide +kernel⟩
theorem fk_12_95 : Fk "TaskWeaveModel" 95 1235 := ⟨by decide, by decide, by decide +kernel⟩
theorem fk_12_86 : Fk "TaskWeaveModel" 86 1232 := ⟨by decide, by decide, by decide +kernel⟩
def f_X11_fresh_46 (K18 : Nat → Int32 → Int32 → Int32 → Hp → Option Hp) (s0 : Nat) (s1 : Int32) (s2 : Int32) (l0 : Nat) (l1 : Int32) (l2 : Int32) (l3 : Int32) (h : Hp) : Option Hp := ck (isO (h) (s0) 23) (ck (inR (s1) (zL (h) (s0))) (bh (pE (h) (s0) (s1).toNatClampNeg (((s2) &&& 1))) (fun h14 => ck (isO (h14) (l0) 12) (ck (isO (h14) (zR (h14) 1235 (l0)) 22) (ck (inR (l3) (zL (h14) (zR (h14) 1235 (l0)))) (bh (pE (h14) (zR (h14) 1235 (l0)) (l3).toNatClampNeg ((-1 : Int32))) (fun h18 => ck (isO (h18) (zR (h18) 1232 (l0)) 22) (ck (inR (l3) (zL (h18) (zR (h18) 1232 (l0)))) (bh (pE (h18) (zR (h18) 1232 (l0)) (l3).toNatClampNeg ((0 : Int32))) (fun h21 => bh ((l3) + (1 : Int32)) (fun x22 => K18 (l0) (l1) (l2) (x22) (h21))))))))))))
theorem f_X11_fresh_46_ok {G : Gd} {d : Nat} (K18 : Nat → Int32 → Int32 → Int32 → Hp → Option Hp) (hj : 1 ≤ d) (hK18 : ∀ (l0 : Nat) (l1 : Int32) (l2 : Int32) (l3 : Int32) (L : List (Nat × Value)) (h : Hp) (o : Hp), zlk L 0 = some (zrf (l0)) → zlk L 1 = some (.int (l1)) → zlk L 2 = some (.int (l2)) → zlk L 3 = some (.int (l3)) → K18 l0 l1 l2 l3 h = some o → Ev G M_X11_fresh d 18 L [] h (Ret Y_X11_fresh none o)) : ∀ (s0 : Nat) (s1 : Int32) (s2 : Int32) (l0 : Nat) (l1 : Int32) (l2 : Int32) (l3 : Int32) (L : List (Nat × Value)) (h : Hp) (o : Hp), zlk L 0 = some (zrf (l0)) → zlk L 1 = some (.int (l1)) → zlk L 2 = some (.int (l2)) → zlk L 3 = some (.int (l3)) → f_X11_fresh_46 K18 s0 s1 s2 l0 l1 l2 l3 h = some o → Ev G M_X11_fresh d 46 L [.int (s2), .int (s1), zrf (s0)] h (Ret Y_X11_fresh none o) := by
  intro s0 s1 s2 l0 l1 l2 l3 L h o g0 g1 g2 g3 e
  unfold f_X11_fresh_46 at e
  replace e := ckd e
  obtain ⟨k12, e⟩ := e
  replace e := ckd e
  obtain ⟨k13, e⟩ := e
  refine g_zast d_X11_fresh_46 k12 k13 ?_
  replace e := bhd e
  obtain ⟨_, rfl, e⟩ := e
  refine g_ald_n d_X11_fresh_47 rfl g0 ?_
  replace e := ckd e
  obtain ⟨k15, e⟩ := e
  refine g_getR d_X11_fresh_48 (f := 1235) k15 fk_12_95 rfl rfl ?_
  refine r_iload_n d_X11_fresh_51 rfl g3 ?_
  refine r_iconst d_X11_fresh_52 (v := (-1 : Int32)) (by decide +kernel) ?_
  replace e := ckd e
  obtain ⟨k16, e⟩ := e
  replace e := ckd e
  obtain ⟨k17, e⟩ := e
  refine g_iast d_X11_fresh_53 k16 k17 ?_
  replace e := bhd e
  obtain ⟨_, rfl, e⟩ := e
  refine g_ald_n d_X11_fresh_54 rfl g0 ?_
  refine g_getR d_X11_fresh_55 (f := 1232) (tO_pE k15) fk_12_86 rfl rfl ?_
  refine r_iload_n d_X11_fresh_58 rfl g3 ?_
  refine r_iconst d_X11_fresh_59 (v := (0 : Int32)) (by decide +kernel) ?_
  replace e := ckd e
  obtain ⟨k19, e⟩ := e
  replace e := ckd e
  obtain ⟨k20, e⟩ := e
  refine g_iast d_X11_fresh_60 k19 k20 ?_
  replace e := bhd e
  obtain ⟨_, rfl, e⟩ := e
  replace e := bhd e
  obtain ⟨_, rfl, e⟩ := e
  refine s_iinc d_X11_fresh_61 g3 (w := (1 : Int32)) (by decide +kernel) (by decide) (fun L g3 gK => ?_)
  replace g0 := gK _ _ (by decide) (Or.inr (zrf_cat _)) g0
  replace g1 := gK _ _ (by decide) (Or.inr rfl) g1
  replace g2 := gK _ _ (by decide) (Or.inr rfl) g2
  refine r_goto d_X11_fresh_64 (tgt := 18) (by decide) ?_
  exact hK18 _ _ _ _ _ _ _ g0 g1 g2 g3 e

def f_X11_fresh_18 : Nat → Nat → Int32 → Int32 → Int32 → Hp → Option Hp
  | 0, _, _, _, _, _ => none
  | n + 1, l0, l1, l2, l3, h => if ((((5 : Int32)) * (l1)) + ((5 : Int32))) ≤ (l3) then (some (h)) else (ck (isO (h) (l0) 12) (if ((((5 : Int32)) * (l1)) + (l2)) ≤ (l3) then (f_X11_fresh_46 (f_X11_fresh_18 n ) (zR (h) 1234 (l0)) (l3) ((0 : Int32)) (l0) (l1) (l2) (l3) (h)) else (f_X11_fresh_46 (f_X11_fresh_18 n ) (zR (h) 1234 (l0)) (l3) ((1 : Int32)) (l0) (l1) (l2) (l3) (h))))
theorem f_X11_fresh_18_ok {G : Gd} {d : Nat} (hj : 1 ≤ d) : ∀ (n : Nat) (l0 : Nat) (l1 : Int32) (l2 : Int32) (l3 : Int32) (L : List (Nat × Value)) (h : Hp) (o : Hp), zlk L 0 = some (zrf (l0)) → zlk L 1 = some (.int (l1)) → zlk L 2 = some (.int (l2)) → zlk L 3 = some (.int (l3)) → f_X11_fresh_18 n l0 l1 l2 l3 h = some o → Ev G M_X11_fresh d 18 L [] h (Ret Y_X11_fresh none o) := by
  intro n
  induction n with
  | zero =>
    intro l0 l1 l2 l3 L h o g0 g1 g2 g3 e
    cases e
  | succ n ih =>
    intro l0 l1 l2 l3 L h o g0 g1 g2 g3 e
    unfold f_X11_fresh_18 at e
    refine r_iload_n d_X11_fresh_18 rfl g3 ?_
    refine r_iconst d_X11_fresh_19 (v := (5 : Int32)) (by decide +kernel) ?_
    refine r_iload_n d_X11_fresh_20 rfl g1 ?_
    refine r_imul d_X11_fresh_21 ?_
    refine r_iconst d_X11_fresh_22 (v := (5 : Int32)) (by decide +kernel) ?_
    refine r_iadd d_X11_fresh_23 ?_
    refine r_icmp_ge d_X11_fresh_24 (tgt := 67) (by decide) (fun c9 => ?_) (fun c9 => ?_)
    · replace e := (if_pos c9).symm.trans e
      cases e
      exact g_vret d_X11_fresh_67 rfl
    · replace e := (if_neg c9).symm.trans e
      refine g_ald_n d_X11_fresh_27 rfl g0 ?_
      replace e := ckd e
      obtain ⟨k10, e⟩ := e
      refine g_getR d_X11_fresh_28 (f := 1234) k10 fk_12_92 rfl rfl ?_
      refine r_iload_n d_X11_fresh_31 rfl g3 ?_
      refine r_iload_n d_X11_fresh_32 rfl g3 ?_
      refine r_iconst d_X11_fresh_33 (v := (5 : Int32)) (by decide +kernel) ?_
      refine r_iload_n d_X11_fresh_34 rfl g1 ?_
      refine r_imul d_X11_fresh_35 ?_
      refine r_iload_n d_X11_fresh_36 rfl g2 ?_
      refine r_iadd d_X11_fresh_37 ?_
      refine r_icmp_ge d_X11_fresh_38 (tgt := 45) (by decide) (fun c11 => ?_) (fun c11 => ?_)
      · replace e := (if_pos c11).symm.trans e
        refine r_iconst d_X11_fresh_45 (v := (0 : Int32)) (by decide +kernel) ?_
        exact f_X11_fresh_46_ok _ hj ih _ _ _ _ _ _ _ _ _ _ g0 g1 g2 g3 e
      · replace e := (if_neg c11).symm.trans e
        refine r_iconst d_X11_fresh_41 (v := (1 : Int32)) (by decide +kernel) ?_
        refine r_goto d_X11_fresh_42 (tgt := 46) (by decide) ?_
        exact f_X11_fresh_46_ok _ hj ih _ _ _ _ _ _ _ _ _ _ g0 g1 g2 g3 e

def f_X11_fresh (l0 : Nat) (l1 : Int32) (l2 : Int32) (h : Hp) : Option Hp := ck (isO (h) (l0) 12) (ck (isO (h) (zR (h) 1236 (l0)) 22) (ck (inR (l1) (zL (h) (zR (h) 1236 (l0)))) (bh (pE (h) (zR (h) 1236 (l0)) (l1).toNatClampNeg (l2)) (fun h4 => ck (isO (h4) (zR (h4) 1237 (l0)) 22) (ck (inR (l1) (zL (h4) (zR (h4) 1237 (l0)))) (bh (pE (h4) (zR (h4) 1237 (l0)) (l1).toNatClampNeg ((0 : Int32))) (fun h7 => bh (((5 : Int32)) * (l1)) (fun x8 => f_X11_fresh_18 fz (l0) (l1) (l2) (x8) (h7)))))))))
theorem f_X11_fresh_ok {G : Gd} {d : Nat} (hj : 1 ≤ d) : ∀ (l0 : Nat) (l1 : Int32) (l2 : Int32) (L : List (Nat × Value)) (h : Hp) (o : Hp), zlk L 0 = some (zrf (l0)) → zlk L 1 = some (.int (l1)) → zlk L 2 = some (.int (l2)) → f_X11_fresh l0 l1 l2 h = some o → Ev G M_X11_fresh d 0 L [] h (Ret Y_X11_fresh none o) := by
  intro l0 l1 l2 L h o g0 g1 g2 e
  unfold f_X11_fresh at e
  refine g_ald_n d_X11_fresh_0 rfl g0 ?_
  replace e := ckd e
  obtain ⟨k1, e⟩ := e
  refine g_getR d_X11_fresh_1 (f := 1236) k1 fk_12_98 rfl rfl ?_
  refine r_iload_n d_X11_fresh_4 rfl g1 ?_
  refine r_iload_n d_X11_fresh_5 rfl g2 ?_
  replace e := ckd e
  obtain ⟨k2, e⟩ := e
  replace e := ckd e
  obtain ⟨k3, e⟩ := e
  refine g_iast d_X11_fresh_6 k2 k3 ?_
  replace e := bhd e
  obtain ⟨_, rfl, e⟩ := e
  refine g_ald_n d_X11_fresh_7 rfl g0 ?_
  refine g_getR d_X11_fresh_8 (f := 1237) (tO_pE k1) fk_12_101 rfl rfl ?_
  refine r_iload_n d_X11_fresh_11 rfl g1 ?_
  refine r_iconst d_X11_fresh_12 (v := (0 : Int32)) (by decide +kernel) ?_
  replace e := ckd e
  obtain ⟨k5, e⟩ := e
  replace e := ckd e
  obtain ⟨k6, e⟩ := e
  refine g_iast d_X11_fresh_13 k5 k6 ?_
  replace e := bhd e
  obtain ⟨_, rfl, e⟩ := e
  refine r_iconst d_X11_fresh_14 (v := (5 : Int32)) (by decide +kernel) ?_
  refine r_iload_n d_X11_fresh_15 rfl g1 ?_
  refine r_imul d_X11_fresh_16 ?_
  replace e := bhd e
  obtain ⟨_, rfl, e⟩ := e
  refine s_istore_n d_X11_fresh_17 rfl (by decide) (fun L g3 gK => ?_)
  replace g0 := gK _ _ (by decide) (Or.inr (zrf_cat _)) g0
  replace g1 := gK _ _ (by decide) (Or.inr rfl) g1
  replace g2 := gK _ _ (by decide) (Or.inr rfl) g2
  exact f_X11_fresh_18_ok hj _ _ _ _ _ _ _ _ g0 g1 g2 g3 e

theorem c_X11_fresh {G : Gd} {j : Nat} (hj : 1 ≤ j) {l0 : Nat} {l1 : Int32} {l2 : Int32} {h : Hp} {o : Hp} (e : f_X11_fresh l0 l1 l2 h = some o) : Cal G j Y_X11_fresh [zrf (l0), .int (l1), .int (l2)] h none o := Cal.of (n := 0) (I := false) (by decide +kernel) (by decide) (by simp [lg_sl, zrf_cat, cat_int, cat_long]) (f_X11_fresh_ok hj _ _ _ _ h o (by simp [lv_args, zlk, zrf_cat, cat_int, cat_long]) (by simp [lv_args, zlk, zrf_cat, cat_int, cat_long]) (by simp [lv_args, zlk, zrf_cat, cat_int, cat_long]) e)
