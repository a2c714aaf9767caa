abbrev Y_X11_step : Yx := (⟨"TaskWeaveModel", "step", "()Z"⟩, prog_13_method_16_code, 1, (some .boolean))
abbrev M_X11_step : Mx := ("TaskWeaveModel", prog_13_method_16_code, 1, false)
theorem yk_X11_step : Yk Y_X11_step 0 := ⟨by decide +kernel, by decide +kernel, ⟨by decide, by decide⟩, by decide +kernel, by decide, by decide +kernel⟩
theorem d_X11_step_0 : decode prog_13_method_16_code 0 = .ok (.aload_n 0, 1) := by decide +kernel
theorem d_X11_step_1 : decode prog_13_method_16_code 1 = .ok (.invokevirtual 198, 3) := by decide +kernel
theorem d_X11_step_4 : decode prog_13_method_16_code 4 = .ok (.ifCond .eq 8, 3) := by decide +kernel
theorem d_X11_step_7 : decode prog_13_method_16_code 7 = .ok (.aload_n 0, 1) := by decide +kernel
theorem d_X11_step_8 : decode prog_13_method_16_code 8 = .ok (.invokevirtual 224, 3) := by decide +kernel
theorem d_X11_step_11 : decode prog_13_method_16_code 11 = .ok (.ireturn, 1) := by decide +kernel
theorem d_X11_step_12 : decode prog_13_method_16_code 12 = .ok (.aload_n 0, 1) := by decide +kernel
theorem d_X11_step_13 : decode prog_13_method_16_code 13 = .ok (.bipush 84, 2) := by decide +kernel
theorem d_X11_step_15 : decode prog_13_method_16_code 15 = .ok (.invokevirtual 202, 3) := by decide +kernel
theorem d_X11_step_18 : decode prog_13_method_16_code 18 = .ok (.ifCond .eq 25, 3) := by decide +kernel
theorem d_X11_step_21 : decode prog_13_method_16_code 21 = .ok (.aload_n 0, 1) := by decide +kernel
theorem d_X11_step_22 : decode prog_13_method_16_code 22 = .ok (.invokevirtual 218, 3) := by decide +kernel
theorem d_X11_step_25 : decode prog_13_method_16_code 25 = .ok (.ifCond .eq 16, 3) := by decide +kernel
theorem d_X11_step_28 : decode prog_13_method_16_code 28 = .ok (.aload_n 0, 1) := by decide +kernel
theorem d_X11_step_29 : decode prog_13_method_16_code 29 = .ok (.bipush 10, 2) := by decide +kernel
theorem d_X11_step_31 : decode prog_13_method_16_code 31 = .ok (.invokevirtual 221, 3) := by decide +kernel
theorem d_X11_step_34 : decode prog_13_method_16_code 34 = .ok (.ifCond .eq 7, 3) := by decide +kernel
theorem d_X11_step_37 : decode prog_13_method_16_code 37 = .ok (.iconst 1, 1) := by decide +kernel
theorem d_X11_step_38 : decode prog_13_method_16_code 38 = .ok (.goto 4, 3) := by decide +kernel
theorem d_X11_step_41 : decode prog_13_method_16_code 41 = .ok (.iconst 0, 1) := by decide +kernel
theorem d_X11_step_42 : decode prog_13_method_16_code 42 = .ok (.ireturn, 1) := by decide +kernel
theorem d_X11_step_43 : decode prog_13_method_16_code 43 = .ok (.aload_n 0, 1) := by decide +kernel
theorem d_X11_step_44 : decode prog_13_method_16_code 44 = .ok (.bipush 83, 2) := by decide +kernel
theorem d_X11_step_46 : decode prog_13_method_16_code 46 = .ok (.invokevirtual 202, 3) := by decide +kernel
theorem d_X11_step_49 : decode prog_13_method_16_code 49 = .ok (.ifCond .eq 61, 3) := by decide +kernel
theorem d_X11_step_52 : decode prog_13_method_16_code 52 = .ok (.aload_n 0, 1) := by decide +kernel
theorem d_X11_step_53 : decode prog_13_method_16_code 53 = .ok (.bipush 40, 2) := by decide +kernel
theorem d_X11_step_55 : decode prog_13_method_16_code 55 = .ok (.invokevirtual 202, 3) := by decide +kernel
theorem d_X11_step_58 : decode prog_13_method_16_code 58 = .ok (.ifCond .eq 50, 3) := by decide +kernel
theorem d_X11_step_61 : decode prog_13_method_16_code 61 = .ok (.aload_n 0, 1) := by decide +kernel
theorem d_X11_step_62 : decode prog_13_method_16_code 62 = .ok (.iconst 0, 1) := by decide +kernel
theorem d_X11_step_63 : decode prog_13_method_16_code 63 = .ok (.invokevirtual 212, 3) := by decide +kernel
theorem d_X11_step_66 : decode prog_13_method_16_code 66 = .ok (.ifCond .eq 42, 3) := by decide +kernel
theorem d_X11_step_69 : decode prog_13_method_16_code 69 = .ok (.aload_n 0, 1) := by decide +kernel
theorem d_X11_step_70 : decode prog_13_method_16_code 70 = .ok (.bipush 44, 2) := by decide +kernel
theorem d_X11_step_72 : decode prog_13_method_16_code 72 = .ok (.invokevirtual 202, 3) := by decide +kernel
theorem d_X11_step_75 : decode prog_13_method_16_code 75 = .ok (.ifCond .eq 33, 3) := by decide +kernel
theorem d_X11_step_78 : decode prog_13_method_16_code 78 = .ok (.aload_n 0, 1) := by decide +kernel
theorem d_X11_step_79 : decode prog_13_method_16_code 79 = .ok (.iconst 1, 1) := by decide +kernel
theorem d_X11_step_80 : decode prog_13_method_16_code 80 = .ok (.invokevirtual 212, 3) := by decide +kernel
theorem d_X11_step_83 : decode prog_13_method_16_code 83 = .ok (.ifCond .eq 25, 3) := by decide +kernel
theorem d_X11_step_86 : decode prog_13_method_16_code 86 = .ok (.aload_n 0, 1) := by decide +kernel
theorem d_X11_step_87 : decode prog_13_method_16_code 87 = .ok (.bipush 41, 2) := by decide +kernel
theorem d_X11_step_89 : decode prog_13_method_16_code 89 = .ok (.invokevirtual 202, 3) := by decide +kernel
theorem d_X11_step_92 : decode prog_13_method_16_code 92 = .ok (.ifCond .eq 16, 3) := by decide +kernel
theorem d_X11_step_95 : decode prog_13_method_16_code 95 = .ok (.aload_n 0, 1) := by decide +kernel
theorem d_X11_step_96 : decode prog_13_method_16_code 96 = .ok (.bipush 11, 2) := by decide +kernel
theorem d_X11_step_98 : decode prog_13_method_16_code 98 = .ok (.invokevirtual 221, 3) := by decide +kernel
theorem d_X11_step_101 : decode prog_13_method_16_code 101 = .ok (.ifCond .eq 7, 3) := by decide +kernel
theorem d_X11_step_104 : decode prog_13_method_16_code 104 = .ok (.iconst 1, 1) := by decide +kernel
theorem d_X11_step_105 : decode prog_13_method_16_code 105 = .ok (.goto 4, 3) := by decide +kernel
theorem d_X11_step_108 : decode prog_13_method_16_code 108 = .ok (.iconst 0, 1) := by decide +kernel
theorem d_X11_step_109 : decode prog_13_method_16_code 109 = .ok (.ireturn, 1) := by decide +kernel
theorem d_X11_step_110 : decode prog_13_method_16_code 110 = .ok (.aload_n 0, 1) := by decide +kernel
theorem d_X11_step_111 : decode prog_13_method_16_code 111 = .ok (.bipush 73, 2) := by decide +kernel
theorem d_X11_step_113 : decode prog_13_method_16_code 113 = .ok (.invokevirtual 202, 3) := by decide +kernel
theorem d_X11_step_116 : decode prog_13_method_16_code 116 = .ok (.ifCond .eq 34, 3) := by decide +kernel
theorem d_X11_step_119 : decode prog_13_method_16_code 119 = .ok (.aload_n 0, 1) := by decide +kernel
theorem d_X11_step_120 : decode prog_13_method_16_code 120 = .ok (.invokevirtual 218, 3) := by decide +kernel
theorem d_X11_step_123 : decode prog_13_method_16_code 123 = .ok (.ifCond .eq 25, 3) := by decide +kernel
theorem d_X11_step_126 : decode prog_13_method_16_code 126 = .ok (.aload_n 0, 1) := by decide +kernel
theorem d_X11_step_127 : decode prog_13_method_16_code 127 = .ok (.bipush 10, 2) := by decide +kernel
theorem d_X11_step_129 : decode prog_13_method_16_code 129 = .ok (.invokevirtual 215, 3) := by decide +kernel
theorem d_X11_step_132 : decode prog_13_method_16_code 132 = .ok (.ifCond .eq 16, 3) := by decide +kernel
theorem d_X11_step_135 : decode prog_13_method_16_code 135 = .ok (.aload_n 0, 1) := by decide +kernel
theorem d_X11_step_136 : decode prog_13_method_16_code 136 = .ok (.bipush 12, 2) := by decide +kernel
theorem d_X11_step_138 : decode prog_13_method_16_code 138 = .ok (.invokevirtual 221, 3) := by decide +kernel
theorem d_X11_step_141 : decode prog_13_method_16_code 141 = .ok (.ifCond .eq 7, 3) := by decide +kernel
theorem d_X11_step_144 : decode prog_13_method_16_code 144 = .ok (.iconst 1, 1) := by decide +kernel
theorem d_X11_step_145 : decode prog_13_method_16_code 145 = .ok (.goto 4, 3) := by decide +kernel
theorem d_X11_step_148 : decode prog_13_method_16_code 148 = .ok (.iconst 0, 1) := by decide +kernel
theorem d_X11_step_149 : decode prog_13_method_16_code 149 = .ok (.ireturn, 1) := by decide +kernel
theorem d_X11_step_150 : decode prog_13_method_16_code 150 = .ok (.aload_n 0, 1) := by decide +kernel
theorem d_X11_step_151 : decode prog_13_method_16_code 151 = .ok (.bipush 71, 2) := by decide +kernel
theorem d_X11_step_153 : decode prog_13_method_16_code 153 = .ok (.invokevirtual 202, 3) := by decide +kernel
theorem d_X11_step_156 : decode prog_13_method_16_code 156 = .ok (.ifCond .eq 27, 3) := by decide +kernel
theorem d_X11_step_159 : decode prog_13_method_16_code 159 = .ok (.aload_n 0, 1) := by decide +kernel
theorem d_X11_step_160 : decode prog_13_method_16_code 160 = .ok (.bipush 10, 2) := by decide +kernel
theorem d_X11_step_162 : decode prog_13_method_16_code 162 = .ok (.invokevirtual 215, 3) := by decide +kernel
theorem d_X11_step_165 : decode prog_13_method_16_code 165 = .ok (.ifCond .eq 16, 3) := by decide +kernel
theorem d_X11_step_168 : decode prog_13_method_16_code 168 = .ok (.aload_n 0, 1) := by decide +kernel
theorem d_X11_step_169 : decode prog_13_method_16_code 169 = .ok (.bipush 13, 2) := by decide +kernel
theorem d_X11_step_171 : decode prog_13_method_16_code 171 = .ok (.invokevirtual 221, 3) := by decide +kernel
theorem d_X11_step_174 : decode prog_13_method_16_code 174 = .ok (.ifCond .eq 7, 3) := by decide +kernel
theorem d_X11_step_177 : decode prog_13_method_16_code 177 = .ok (.iconst 1, 1) := by decide +kernel
theorem d_X11_step_178 : decode prog_13_method_16_code 178 = .ok (.goto 4, 3) := by decide +kernel
theorem d_X11_step_181 : decode prog_13_method_16_code 181 = .ok (.iconst 0, 1) := by decide +kernel
theorem d_X11_step_182 : decode prog_13_method_16_code 182 = .ok (.ireturn, 1) := by decide +kernel
theorem d_X11_step_183 : decode prog_13_method_16_code 183 = .ok (.aload_n 0, 1) := by decide +kernel
theorem d_X11_step_184 : decode prog_13_method_16_code 184 = .ok (.bipush 69, 2) := by decide +kernel
theorem d_X11_step_186 : decode prog_13_method_16_code 186 = .ok (.invokevirtual 202, 3) := by decide +kernel
theorem d_X11_step_189 : decode prog_13_method_16_code 189 = .ok (.ifCond .eq 23, 3) := by decide +kernel
theorem d_X11_step_192 : decode prog_13_method_16_code 192 = .ok (.aload_n 0, 1) := by decide +kernel
theorem d_X11_step_193 : decode prog_13_method_16_code 193 = .ok (.invokevirtual 218, 3) := by decide +kernel
theorem d_X11_step_196 : decode prog_13_method_16_code 196 = .ok (.ifCond .eq 16, 3) := by decide +kernel
theorem d_X11_step_199 : decode prog_13_method_16_code 199 = .ok (.aload_n 0, 1) := by decide +kernel
theorem d_X11_step_200 : decode prog_13_method_16_code 200 = .ok (.bipush 14, 2) := by decide +kernel
theorem d_X11_step_202 : decode prog_13_method_16_code 202 = .ok (.invokevirtual 221, 3) := by decide +kernel
theorem d_X11_step_205 : decode prog_13_method_16_code 205 = .ok (.ifCond .eq 7, 3) := by decide +kernel
theorem d_X11_step_208 : decode prog_13_method_16_code 208 = .ok (.iconst 1, 1) := by decide +kernel
theorem d_X11_step_209 : decode prog_13_method_16_code 209 = .ok (.goto 4, 3) := by decide +kernel
theorem d_X11_step_212 : decode prog_13_method_16_code 212 = .ok (.iconst 0, 1) := by decide +kernel
theorem d_X11_step_213 : decode prog_13_method_16_code 213 = .ok (.ireturn, 1) := by decide +kernel
abbrev Y_X11_read : Yx := (⟨"TaskWeaveModel", "read", "(I)I"⟩, prog_13_method_17_code, 3, (some .int))
abbrev M_X11_read : Mx := ("TaskWeaveModel", prog_13_method_17_code, 3, false)
theorem yk_X11_read : Yk Y_X11_read 1 := ⟨by decide +kernel, by decide +kernel, ⟨by decide, by decide⟩, by decide +kernel, by decide, by decide +kernel⟩
theorem d_X11_read_0 : decode prog_13_method_17_code 0 = .ok (.aload_n 0, 1) := by decide +kernel
theorem d_X11_read_1 : decode prog_13_method_17_code 1 = .ok (.iconst 0, 1) := by decide +kernel
theorem d_X11_read_2 : decode prog_13_method_17_code 2 = .ok (.putfield 191, 3) := by decide +kernel
theorem d_X11_read_5 : decode prog_13_method_17_code 5 = .ok (.iconst 0, 1) := by decide +kernel
theorem d_X11_read_6 : decode prog_13_method_17_code 6 = .ok (.istore_n 2, 1) := by decide +kernel
theorem d_X11_read_7 : decode prog_13_method_17_code 7 = .ok (.iload_n 2, 1) := by decide +kernel
theorem d_X11_read_8 : decode prog_13_method_17_code 8 = .ok (.bipush 10, 2) := by decide +kernel
theorem d_X11_read_10 : decode prog_13_method_17_code 10 = .ok (.if_icmp .ge 16, 3) := by decide +kernel
theorem d_X11_read_13 : decode prog_13_method_17_code 13 = .ok (.aload_n 0, 1) := by decide +kernel
theorem d_X11_read_14 : decode prog_13_method_17_code 14 = .ok (.getfield 60, 3) := by decide +kernel
theorem d_X11_read_17 : decode prog_13_method_17_code 17 = .ok (.iload_n 2, 1) := by decide +kernel
theorem d_X11_read_18 : decode prog_13_method_17_code 18 = .ok (.iconst (-1), 1) := by decide +kernel
theorem d_X11_read_19 : decode prog_13_method_17_code 19 = .ok (.iastore, 1) := by decide +kernel
theorem d_X11_read_20 : decode prog_13_method_17_code 20 = .ok (.iinc 2 1, 3) := by decide +kernel
theorem d_X11_read_23 : decode prog_13_method_17_code 23 = .ok (.goto (-16), 3) := by decide +kernel
theorem d_X11_read_26 : decode prog_13_method_17_code 26 = .ok (.aload_n 0, 1) := by decide +kernel
theorem d_X11_read_27 : decode prog_13_method_17_code 27 = .ok (.getfield 191, 3) := by decide +kernel
theorem d_X11_read_30 : decode prog_13_method_17_code 30 = .ok (.aload_n 0, 1) := by decide +kernel
theorem d_X11_read_31 : decode prog_13_method_17_code 31 = .ok (.getfield 186, 3) := by decide +kernel
theorem d_X11_read_34 : decode prog_13_method_17_code 34 = .ok (.if_icmp .ge 110, 3) := by decide +kernel
theorem d_X11_read_37 : decode prog_13_method_17_code 37 = .ok (.aload_n 0, 1) := by decide +kernel
theorem d_X11_read_38 : decode prog_13_method_17_code 38 = .ok (.getfield 209, 3) := by decide +kernel
theorem d_X11_read_41 : decode prog_13_method_17_code 41 = .ok (.iload_n 1, 1) := by decide +kernel
theorem d_X11_read_42 : decode prog_13_method_17_code 42 = .ok (.isub, 1) := by decide +kernel
theorem d_X11_read_43 : decode prog_13_method_17_code 43 = .ok (.bipush 60, 2) := by decide +kernel
theorem d_X11_read_45 : decode prog_13_method_17_code 45 = .ok (.if_icmp .ne 8, 3) := by decide +kernel
theorem d_X11_read_48 : decode prog_13_method_17_code 48 = .ok (.aload_n 0, 1) := by decide +kernel
theorem d_X11_read_49 : decode prog_13_method_17_code 49 = .ok (.getfield 191, 3) := by decide +kernel
theorem d_X11_read_52 : decode prog_13_method_17_code 52 = .ok (.ireturn, 1) := by decide +kernel
theorem d_X11_read_53 : decode prog_13_method_17_code 53 = .ok (.aload_n 0, 1) := by decide +kernel
theorem d_X11_read_54 : decode prog_13_method_17_code 54 = .ok (.invokevirtual 206, 3) := by decide +kernel
theorem d_X11_read_57 : decode prog_13_method_17_code 57 = .ok (.ifCond .eq 62, 3) := by decide +kernel
theorem d_X11_read_60 : decode prog_13_method_17_code 60 = .ok (.aload_n 0, 1) := by decide +kernel
theorem d_X11_read_61 : decode prog_13_method_17_code 61 = .ok (.invokevirtual 194, 3) := by decide +kernel
theorem d_X11_read_64 : decode prog_13_method_17_code 64 = .ok (.bipush 48, 2) := by decide +kernel
theorem d_X11_read_66 : decode prog_13_method_17_code 66 = .ok (.isub, 1) := by decide +kernel
theorem d_X11_read_67 : decode prog_13_method_17_code 67 = .ok (.istore_n 2, 1) := by decide +kernel
theorem d_X11_read_68 : decode prog_13_method_17_code 68 = .ok (.aload_n 0, 1) := by decide +kernel
theorem d_X11_read_69 : decode prog_13_method_17_code 69 = .ok (.getfield 60, 3) := by decide +kernel
theorem d_X11_read_72 : decode prog_13_method_17_code 72 = .ok (.iload_n 2, 1) := by decide +kernel
theorem d_X11_read_73 : decode prog_13_method_17_code 73 = .ok (.iaload, 1) := by decide +kernel
theorem d_X11_read_74 : decode prog_13_method_17_code 74 = .ok (.iconst (-1), 1) := by decide +kernel
theorem d_X11_read_75 : decode prog_13_method_17_code 75 = .ok (.if_icmp .eq 8, 3) := by decide +kernel
theorem d_X11_read_78 : decode prog_13_method_17_code 78 = .ok (.aload_n 0, 1) := by decide +kernel
theorem d_X11_read_79 : decode prog_13_method_17_code 79 = .ok (.getfield 191, 3) := by decide +kernel
theorem d_X11_read_82 : decode prog_13_method_17_code 82 = .ok (.ireturn, 1) := by decide +kernel
theorem d_X11_read_83 : decode prog_13_method_17_code 83 = .ok (.aload_n 0, 1) := by decide +kernel
theorem d_X11_read_84 : decode prog_13_method_17_code 84 = .ok (.getfield 60, 3) := by decide +kernel
theorem d_X11_read_87 : decode prog_13_method_17_code 87 = .ok (.iload_n 2, 1) := by decide +kernel
theorem d_X11_read_88 : decode prog_13_method_17_code 88 = .ok (.aload_n 0, 1) := by decide +kernel
theorem d_X11_read_89 : decode prog_13_method_17_code 89 = .ok (.getfield 209, 3) := by decide +kernel
theorem d_X11_read_92 : decode prog_13_method_17_code 92 = .ok (.iload_n 1, 1) := by decide +kernel
theorem d_X11_read_93 : decode prog_13_method_17_code 93 = .ok (.isub, 1) := by decide +kernel
theorem d_X11_read_94 : decode prog_13_method_17_code 94 = .ok (.iastore, 1) := by decide +kernel
theorem d_X11_read_95 : decode prog_13_method_17_code 95 = .ok (.aload_n 0, 1) := by decide +kernel
theorem d_X11_read_96 : decode prog_13_method_17_code 96 = .ok (.dup, 1) := by decide +kernel
theorem d_X11_read_97 : decode prog_13_method_17_code 97 = .ok (.getfield 191, 3) := by decide +kernel
theorem d_X11_read_100 : decode prog_13_method_17_code 100 = .ok (.iconst 1, 1) := by decide +kernel
theorem d_X11_read_101 : decode prog_13_method_17_code 101 = .ok (.iadd, 1) := by decide +kernel
theorem d_X11_read_102 : decode prog_13_method_17_code 102 = .ok (.putfield 191, 3) := by decide +kernel
theorem d_X11_read_105 : decode prog_13_method_17_code 105 = .ok (.aload_n 0, 1) := by decide +kernel
theorem d_X11_read_106 : decode prog_13_method_17_code 106 = .ok (.bipush 58, 2) := by decide +kernel
theorem d_X11_read_108 : decode prog_13_method_17_code 108 = .ok (.invokevirtual 202, 3) := by decide +kernel
theorem d_X11_read_111 : decode prog_13_method_17_code 111 = .ok (.ifCond .ne 8, 3) := by decide +kernel
theorem d_X11_read_114 : decode prog_13_method_17_code 114 = .ok (.aload_n 0, 1) := by decide +kernel
theorem d_X11_read_115 : decode prog_13_method_17_code 115 = .ok (.getfield 191, 3) := by decide +kernel
theorem d_X11_read_118 : decode prog_13_method_17_code 118 = .ok (.ireturn, 1) := by decide +kernel
theorem d_X11_read_119 : decode prog_13_method_17_code 119 = .ok (.aload_n 0, 1) := by decide +kernel
theorem d_X11_read_120 : decode prog_13_method_17_code 120 = .ok (.invokevirtual 227, 3) := by decide +kernel
theorem d_X11_read_123 : decode prog_13_method_17_code 123 = .ok (.ifCond .ne 8, 3) := by decide +kernel
theorem d_X11_read_126 : decode prog_13_method_17_code 126 = .ok (.aload_n 0, 1) := by decide +kernel
theorem d_X11_read_127 : decode prog_13_method_17_code 127 = .ok (.getfield 191, 3) := by decide +kernel
theorem d_X11_read_130 : decode prog_13_method_17_code 130 = .ok (.ireturn, 1) := by decide +kernel
theorem d_X11_read_131 : decode prog_13_method_17_code 131 = .ok (.aload_n 0, 1) := by decide +kernel
theorem d_X11_read_132 : decode prog_13_method_17_code 132 = .ok (.dup, 1) := by decide +kernel
theorem d_X11_read_133 : decode prog_13_method_17_code 133 = .ok (.getfield 209, 3) := by decide +kernel
theorem d_X11_read_136 : decode prog_13_method_17_code 136 = .ok (.iconst 1, 1) := by decide +kernel
theorem d_X11_read_137 : decode prog_13_method_17_code 137 = .ok (.iadd, 1) := by decide +kernel
theorem d_X11_read_138 : decode prog_13_method_17_code 138 = .ok (.putfield 209, 3) := by decide +kernel
theorem d_X11_read_141 : decode prog_13_method_17_code 141 = .ok (.goto (-115), 3) := by decide +kernel
theorem d_X11_read_144 : decode prog_13_method_17_code 144 = .ok (.iload_n 1, 1) := by decide +kernel
theorem d_X11_read_145 : decode prog_13_method_17_code 145 = .ok (.istore_n 2, 1) := by decide +kernel
theorem d_X11_read_146 : decode prog_13_method_17_code 146 = .ok (.iload_n 2, 1) := by decide +kernel
theorem d_X11_read_147 : decode prog_13_method_17_code 147 = .ok (.aload_n 0, 1) := by decide +kernel
theorem d_X11_read_148 : decode prog_13_method_17_code 148 = .ok (.getfield 209, 3) := by decide +kernel
theorem d_X11_read_151 : decode prog_13_method_17_code 151 = .ok (.if_icmp .ge 73, 3) := by decide +kernel
theorem d_X11_read_154 : decode prog_13_method_17_code 154 = .ok (.aload_n 0, 1) := by decide +kernel
theorem d_X11_read_155 : decode prog_13_method_17_code 155 = .ok (.getfield 35, 3) := by decide +kernel
theorem d_X11_read_158 : decode prog_13_method_17_code 158 = .ok (.iload_n 2, 1) := by decide +kernel
theorem d_X11_read_159 : decode prog_13_method_17_code 159 = .ok (.iaload, 1) := by decide +kernel
theorem d_X11_read_160 : decode prog_13_method_17_code 160 = .ok (.bipush 12, 2) := by decide +kernel
theorem d_X11_read_162 : decode prog_13_method_17_code 162 = .ok (.if_icmp .eq 17, 3) := by decide +kernel
theorem d_X11_read_165 : decode prog_13_method_17_code 165 = .ok (.aload_n 0, 1) := by decide +kernel
theorem d_X11_read_166 : decode prog_13_method_17_code 166 = .ok (.getfield 35, 3) := by decide +kernel
theorem d_X11_read_169 : decode prog_13_method_17_code 169 = .ok (.iload_n 2, 1) := by decide +kernel
theorem d_X11_read_170 : decode prog_13_method_17_code 170 = .ok (.iaload, 1) := by decide +kernel
theorem d_X11_read_171 : decode prog_13_method_17_code 171 = .ok (.bipush 13, 2) := by decide +kernel
theorem d_X11_read_173 : decode prog_13_method_17_code 173 = .ok (.if_icmp .eq 6, 3) := by decide +kernel
theorem d_X11_read_176 : decode prog_13_method_17_code 176 = .ok (.goto 42, 3) := by decide +kernel
theorem d_X11_read_179 : decode prog_13_method_17_code 179 = .ok (.aload_n 0, 1) := by decide +kernel
theorem d_X11_read_180 : decode prog_13_method_17_code 180 = .ok (.getfield 60, 3) := by decide +kernel
theorem d_X11_read_183 : decode prog_13_method_17_code 183 = .ok (.aload_n 0, 1) := by decide +kernel
theorem d_X11_read_184 : decode prog_13_method_17_code 184 = .ok (.getfield 54, 3) := by decide +kernel
theorem d_X11_read_187 : decode prog_13_method_17_code 187 = .ok (.iload_n 2, 1) := by decide +kernel
theorem d_X11_read_188 : decode prog_13_method_17_code 188 = .ok (.iaload, 1) := by decide +kernel
theorem d_X11_read_189 : decode prog_13_method_17_code 189 = .ok (.iaload, 1) := by decide +kernel
theorem d_X11_read_190 : decode prog_13_method_17_code 190 = .ok (.iconst (-1), 1) := by decide +kernel
theorem d_X11_read_191 : decode prog_13_method_17_code 191 = .ok (.if_icmp .ne 10, 3) := by decide +kernel
theorem d_X11_read_194 : decode prog_13_method_17_code 194 = .ok (.aload_n 0, 1) := by decide +kernel
theorem d_X11_read_195 : decode prog_13_method_17_code 195 = .ok (.getfield 57, 3) := by decide +kernel
theorem d_X11_read_198 : decode prog_13_method_17_code 198 = .ok (.iload_n 2, 1) := by decide +kernel
theorem d_X11_read_199 : decode prog_13_method_17_code 199 = .ok (.iaload, 1) := by decide +kernel
theorem d_X11_read_200 : decode prog_13_method_17_code 200 = .ok (.ireturn, 1) := by decide +kernel
theorem d_X11_read_201 : decode prog_13_method_17_code 201 = .ok (.aload_n 0, 1) := by decide +kernel
theorem d_X11_read_202 : decode prog_13_method_17_code 202 = .ok (.getfield 54, 3) := by decide +kernel
theorem d_X11_read_205 : decode prog_13_method_17_code 205 = .ok (.iload_n 2, 1) := by decide +kernel
theorem d_X11_read_206 : decode prog_13_method_17_code 206 = .ok (.aload_n 0, 1) := by decide +kernel
theorem d_X11_read_207 : decode prog_13_method_17_code 207 = .ok (.getfield 60, 3) := by decide +kernel
theorem d_X11_read_210 : decode prog_13_method_17_code 210 = .ok (.aload_n 0, 1) := by decide +kernel
theorem d_X11_read_211 : decode prog_13_method_17_code 211 = .ok (.getfield 54, 3) := by decide +kernel
theorem d_X11_read_214 : decode prog_13_method_17_code 214 = .ok (.iload_n 2, 1) := by decide +kernel
theorem d_X11_read_215 : decode prog_13_method_17_code 215 = .ok (.iaload, 1) := by decide +kernel
theorem d_X11_read_216 : decode prog_13_method_17_code 216 = .ok (.iaload, 1) := by decide +kernel
theorem d_X11_read_217 : decode prog_13_method_17_code 217 = .ok (.iastore, 1) := by decide +kernel
theorem d_X11_read_218 : decode prog_13_method_17_code 218 = .ok (.iinc 2 1, 3) := by decide +kernel
theorem d_X11_read_221 : decode prog_13_method_17_code 221 = .ok (.goto (-75), 3) := by decide +kernel
theorem d_X11_read_224 : decode prog_13_method_17_code 224 = .ok (.iconst (-1), 1) := by decide +kernel
theorem d_X11_read_225 : decode prog_13_method_17_code 225 = .ok (.ireturn, 1) := by decide +kernel
abbrev Y_X11_program : Yx := (⟨"TaskWeaveModel", "program", "(I)I"⟩, prog_13_method_18_code, 4, (some .int))
abbrev M_X11_program : Mx := ("TaskWeaveModel", prog_13_method_18_code, 4, false)
theorem yk_X11_program : Yk Y_X11_program 1 := ⟨by decide +kernel, by decide +kernel, ⟨by decide, by decide⟩, by decide +kernel, by decide, by decide +kernel⟩
theorem d_X11_program_0 : decode prog_13_method_18_code 0 = .ok (.aload_n 0, 1) := by decide +kernel
theorem d_X11_program_1 : decode prog_13_method_18_code 1 = .ok (.getfield 209, 3) := by decide +kernel
theorem d_X11_program_4 : decode prog_13_method_18_code 4 = .ok (.istore_n 2, 1) := by decide +kernel
theorem d_X11_program_5 : decode prog_13_method_18_code 5 = .ok (.iload_n 1, 1) := by decide +kernel
theorem d_X11_program_6 : decode prog_13_method_18_code 6 = .ok (.bipush 8, 2) := by decide +kernel
theorem d_X11_program_8 : decode prog_13_method_18_code 8 = .ok (.invokestatic 230, 3) := by decide +kernel
theorem d_X11_program_11 : decode prog_13_method_18_code 11 = .ok (.istore_n 3, 1) := by decide +kernel
theorem d_X11_program_12 : decode prog_13_method_18_code 12 = .ok (.aload_n 0, 1) := by decide +kernel
theorem d_X11_program_13 : decode prog_13_method_18_code 13 = .ok (.iload_n 3, 1) := by decide +kernel
theorem d_X11_program_14 : decode prog_13_method_18_code 14 = .ok (.ifCond .eq 11, 3) := by decide +kernel
theorem d_X11_program_17 : decode prog_13_method_18_code 17 = .ok (.aload_n 0, 1) := by decide +kernel
theorem d_X11_program_18 : decode prog_13_method_18_code 18 = .ok (.iload_n 2, 1) := by decide +kernel
theorem d_X11_program_19 : decode prog_13_method_18_code 19 = .ok (.invokevirtual 234, 3) := by decide +kernel
theorem d_X11_program_22 : decode prog_13_method_18_code 22 = .ok (.goto 4, 3) := by decide +kernel
theorem d_X11_program_25 : decode prog_13_method_18_code 25 = .ok (.iconst (-1), 1) := by decide +kernel
theorem d_X11_program_26 : decode prog_13_method_18_code 26 = .ok (.putfield 13, 3) := by decide +kernel
theorem d_X11_program_29 : decode prog_13_method_18_code 29 = .ok (.aload_n 0, 1) := by decide +kernel
theorem d_X11_program_30 : decode prog_13_method_18_code 30 = .ok (.iconst 0, 1) := by decide +kernel
theorem d_X11_program_31 : decode prog_13_method_18_code 31 = .ok (.putfield 186, 3) := by decide +kernel
theorem d_X11_program_34 : decode prog_13_method_18_code 34 = .ok (.iload_n 3, 1) := by decide +kernel
theorem d_X11_program_35 : decode prog_13_method_18_code 35 = .ok (.ifCond .eq 11, 3) := by decide +kernel
theorem d_X11_program_38 : decode prog_13_method_18_code 38 = .ok (.aload_n 0, 1) := by decide +kernel
theorem d_X11_program_39 : decode prog_13_method_18_code 39 = .ok (.getfield 13, 3) := by decide +kernel
theorem d_X11_program_42 : decode prog_13_method_18_code 42 = .ok (.iconst (-1), 1) := by decide +kernel
theorem d_X11_program_43 : decode prog_13_method_18_code 43 = .ok (.if_icmp .eq 22, 3) := by decide +kernel
theorem d_X11_program_46 : decode prog_13_method_18_code 46 = .ok (.aload_n 0, 1) := by decide +kernel
theorem d_X11_program_47 : decode prog_13_method_18_code 47 = .ok (.iload_n 2, 1) := by decide +kernel
theorem d_X11_program_48 : decode prog_13_method_18_code 48 = .ok (.putfield 209, 3) := by decide +kernel
theorem d_X11_program_51 : decode prog_13_method_18_code 51 = .ok (.aload_n 0, 1) := by decide +kernel
theorem d_X11_program_52 : decode prog_13_method_18_code 52 = .ok (.iload_n 3, 1) := by decide +kernel
theorem d_X11_program_53 : decode prog_13_method_18_code 53 = .ok (.ifCond .eq 7, 3) := by decide +kernel
theorem d_X11_program_56 : decode prog_13_method_18_code 56 = .ok (.iconst 1, 1) := by decide +kernel
theorem d_X11_program_57 : decode prog_13_method_18_code 57 = .ok (.goto 4, 3) := by decide +kernel
theorem d_X11_program_60 : decode prog_13_method_18_code 60 = .ok (.iconst 2, 1) := by decide +kernel
theorem d_X11_program_61 : decode prog_13_method_18_code 61 = .ok (.invokevirtual 238, 3) := by decide +kernel
theorem d_X11_program_64 : decode prog_13_method_18_code 64 = .ok (.ireturn, 1) := by decide +kernel
theorem d_X11_program_65 : decode prog_13_method_18_code 65 = .ok (.aload_n 0, 1) := by decide +kernel
theorem d_X11_program_66 : decode prog_13_method_18_code 66 = .ok (.iconst 0, 1) := by decide +kernel
theorem d_X11_program_67 : decode prog_13_method_18_code 67 = .ok (.putfield 183, 3) := by decide +kernel
theorem d_X11_program_70 : decode prog_13_method_18_code 70 = .ok (.aload_n 0, 1) := by decide +kernel
theorem d_X11_program_71 : decode prog_13_method_18_code 71 = .ok (.getfield 17, 3) := by decide +kernel
theorem d_X11_program_74 : decode prog_13_method_18_code 74 = .ok (.aload_n 0, 1) := by decide +kernel
theorem d_X11_program_75 : decode prog_13_method_18_code 75 = .ok (.getfield 241, 3) := by decide +kernel
theorem d_X11_program_78 : decode prog_13_method_18_code 78 = .ok (.iload_n 1, 1) := by decide +kernel
theorem d_X11_program_79 : decode prog_13_method_18_code 79 = .ok (.iastore, 1) := by decide +kernel
theorem d_X11_program_80 : decode prog_13_method_18_code 80 = .ok (.aload_n 0, 1) := by decide +kernel
theorem d_X11_program_81 : decode prog_13_method_18_code 81 = .ok (.getfield 20, 3) := by decide +kernel
theorem d_X11_program_84 : decode prog_13_method_18_code 84 = .ok (.aload_n 0, 1) := by decide +kernel
theorem d_X11_program_85 : decode prog_13_method_18_code 85 = .ok (.getfield 241, 3) := by decide +kernel
theorem d_X11_program_88 : decode prog_13_method_18_code 88 = .ok (.aload_n 0, 1) := by decide +kernel
theorem d_X11_program_89 : decode prog_13_method_18_code 89 = .ok (.getfield 32, 3) := by decide +kernel
theorem d_X11_program_92 : decode prog_13_method_18_code 92 = .ok (.iload_n 1, 1) := by decide +kernel
theorem d_X11_program_93 : decode prog_13_method_18_code 93 = .ok (.iaload, 1) := by decide +kernel
theorem d_X11_program_94 : decode prog_13_method_18_code 94 = .ok (.iastore, 1) := by decide +kernel
theorem d_X11_program_95 : decode prog_13_method_18_code 95 = .ok (.aload_n 0, 1) := by decide +kernel
theorem d_X11_program_96 : decode prog_13_method_18_code 96 = .ok (.getfield 23, 3) := by decide +kernel
theorem d_X11_program_99 : decode prog_13_method_18_code 99 = .ok (.aload_n 0, 1) := by decide +kernel
theorem d_X11_program_100 : decode prog_13_method_18_code 100 = .ok (.getfield 241, 3) := by decide +kernel
theorem d_X11_program_103 : decode prog_13_method_18_code 103 = .ok (.iload_n 2, 1) := by decide +kernel
theorem d_X11_program_104 : decode prog_13_method_18_code 104 = .ok (.iastore, 1) := by decide +kernel
theorem d_X11_program_105 : decode prog_13_method_18_code 105 = .ok (.aload_n 0, 1) := by decide +kernel
theorem d_X11_program_106 : decode prog_13_method_18_code 106 = .ok (.getfield 26, 3) := by decide +kernel
theorem d_X11_program_109 : decode prog_13_method_18_code 109 = .ok (.aload_n 0, 1) := by decide +kernel
theorem d_X11_program_110 : decode prog_13_method_18_code 110 = .ok (.getfield 241, 3) := by decide +kernel
theorem d_X11_program_113 : decode prog_13_method_18_code 113 = .ok (.aload_n 0, 1) := by decide +kernel
theorem d_X11_program_114 : decode prog_13_method_18_code 114 = .ok (.getfield 209, 3) := by decide +kernel
theorem d_X11_program_117 : decode prog_13_method_18_code 117 = .ok (.iload_n 2, 1) := by decide +kernel
theorem d_X11_program_118 : decode prog_13_method_18_code 118 = .ok (.isub, 1) := by decide +kernel
theorem d_X11_program_119 : decode prog_13_method_18_code 119 = .ok (.iastore, 1) := by decide +kernel
theorem d_X11_program_120 : decode prog_13_method_18_code 120 = .ok (.aload_n 0, 1) := by decide +kernel
theorem d_X11_program_121 : decode prog_13_method_18_code 121 = .ok (.getfield 29, 3) := by decide +kernel
theorem d_X11_program_124 : decode prog_13_method_18_code 124 = .ok (.iload_n 1, 1) := by decide +kernel
theorem d_X11_program_125 : decode prog_13_method_18_code 125 = .ok (.aload_n 0, 1) := by decide +kernel
theorem d_X11_program_126 : decode prog_13_method_18_code 126 = .ok (.getfield 241, 3) := by decide +kernel
theorem d_X11_program_129 : decode prog_13_method_18_code 129 = .ok (.iastore, 1) := by decide +kernel
theorem d_X11_program_130 : decode prog_13_method_18_code 130 = .ok (.aload_n 0, 1) := by decide +kernel
theorem d_X11_program_131 : decode prog_13_method_18_code 131 = .ok (.getfield 32, 3) := by decide +kernel
theorem d_X11_program_134 : decode prog_13_method_18_code 134 = .ok (.iload_n 1, 1) := by decide +kernel
theorem d_X11_program_135 : decode prog_13_method_18_code 135 = .ok (.dup2, 1) := by decide +kernel
theorem d_X11_program_136 : decode prog_13_method_18_code 136 = .ok (.iaload, 1) := by decide +kernel
theorem d_X11_program_137 : decode prog_13_method_18_code 137 = .ok (.iconst 1, 1) := by decide +kernel
theorem d_X11_program_138 : decode prog_13_method_18_code 138 = .ok (.iadd, 1) := by decide +kernel
theorem d_X11_program_139 : decode prog_13_method_18_code 139 = .ok (.iastore, 1) := by decide +kernel
theorem d_X11_program_140 : decode prog_13_method_18_code 140 = .ok (.aload_n 0, 1) := by decide +kernel
theorem d_X11_program_141 : decode prog_13_method_18_code 141 = .ok (.dup, 1) := by decide +kernel
theorem d_X11_program_142 : decode prog_13_method_18_code 142 = .ok (.getfield 241, 3) := by decide +kernel
theorem d_X11_program_145 : decode prog_13_method_18_code 145 = .ok (.iconst 1, 1) := by decide +kernel
theorem d_X11_program_146 : decode prog_13_method_18_code 146 = .ok (.iadd, 1) := by decide +kernel
theorem d_X11_program_147 : decode prog_13_method_18_code 147 = .ok (.putfield 241, 3) := by decide +kernel
theorem d_X11_program_150 : decode prog_13_method_18_code 150 = .ok (.aload_n 0, 1) := by decide +kernel
theorem d_X11_program_151 : decode prog_13_method_18_code 151 = .ok (.getfield 209, 3) := by decide +kernel
theorem d_X11_program_154 : decode prog_13_method_18_code 154 = .ok (.iload_n 2, 1) := by decide +kernel
theorem d_X11_program_155 : decode prog_13_method_18_code 155 = .ok (.isub, 1) := by decide +kernel
theorem d_X11_program_156 : decode prog_13_method_18_code 156 = .ok (.ireturn, 1) := by decide +kernel
abbrev Y_X11_fault : Yx := (⟨"TaskWeaveModel", "fault", "()I"⟩, prog_13_method_19_code, 1, (some .int))
abbrev M_X11_fault : Mx := ("TaskWeaveModel", prog_13_method_19_code, 1, false)
theorem yk_X11_fault : Yk Y_X11_fault 0 := ⟨by decide +kernel, by decide +kernel, ⟨by decide, by decide⟩, by decide +kernel, by decide, by decide +kernel⟩
theorem d_X11_fault_0 : decode prog_13_method_19_code 0 = .ok (.aload_n 0, 1) := by decide +kernel
theorem d_X11_fault_1 : decode prog_13_method_19_code 1 = .ok (.iconst 0, 1) := by decide +kernel
theorem d_X11_fault_2 : decode prog_13_method_19_code 2 = .ok (.putfield 183, 3) := by decide +kernel
theorem d_X11_fault_5 : decode prog_13_method_19_code 5 = .ok (.aload_n 0, 1) := by decide +kernel
theorem d_X11_fault_6 : decode prog_13_method_19_code 6 = .ok (.getfield 13, 3) := by decide +kernel
theorem d_X11_fault_9 : decode prog_13_method_19_code 9 = .ok (.ireturn, 1) := by decide +kernel
abbrev Y_X11_textFor : Yx := (⟨"TaskWeaveModel", "textFor", "(I)I"⟩, prog_13_method_20_code, 3, (some .int))
abbrev M_X11_textFor : Mx := ("TaskWeaveModel", prog_13_method_20_code, 3, false)
theorem yk_X11_textFor : Yk Y_X11_textFor 1 := ⟨by decide +kernel, by decide +kernel, ⟨by decide, by decide⟩, by decide +kernel, by decide, by decide +kernel⟩
theorem d_X11_textFor_0 : decode prog_13_method_20_code 0 = .ok (.iconst 0, 1) := by decide +kernel
theorem d_X11_textFor_1 : decode prog_13_method_20_code 1 = .ok (.istore_n 2, 1) := by decide +kernel
theorem d_X11_textFor_2 : decode prog_13_method_20_code 2 = .ok (.aload_n 0, 1) := by decide +kernel
theorem d_X11_textFor_3 : decode prog_13_method_20_code 3 = .ok (.getfield 17, 3) := by decide +kernel
theorem d_X11_textFor_6 : decode prog_13_method_20_code 6 = .ok (.iload_n 2, 1) := by decide +kernel
theorem d_X11_textFor_7 : decode prog_13_method_20_code 7 = .ok (.iaload, 1) := by decide +kernel
theorem d_X11_textFor_8 : decode prog_13_method_20_code 8 = .ok (.iload_n 1, 1) := by decide +kernel
theorem d_X11_textFor_9 : decode prog_13_method_20_code 9 = .ok (.bipush 8, 2) := by decide +kernel
theorem d_X11_textFor_11 : decode prog_13_method_20_code 11 = .ok (.irem, 1) := by decide +kernel
theorem d_X11_textFor_12 : decode prog_13_method_20_code 12 = .ok (.if_icmp .ne 16, 3) := by decide +kernel
theorem d_X11_textFor_15 : decode prog_13_method_20_code 15 = .ok (.aload_n 0, 1) := by decide +kernel
theorem d_X11_textFor_16 : decode prog_13_method_20_code 16 = .ok (.getfield 20, 3) := by decide +kernel
theorem d_X11_textFor_19 : decode prog_13_method_20_code 19 = .ok (.iload_n 2, 1) := by decide +kernel
theorem d_X11_textFor_20 : decode prog_13_method_20_code 20 = .ok (.iaload, 1) := by decide +kernel
theorem d_X11_textFor_21 : decode prog_13_method_20_code 21 = .ok (.iload_n 1, 1) := by decide +kernel
theorem d_X11_textFor_22 : decode prog_13_method_20_code 22 = .ok (.bipush 8, 2) := by decide +kernel
theorem d_X11_textFor_24 : decode prog_13_method_20_code 24 = .ok (.idiv, 1) := by decide +kernel
theorem d_X11_textFor_25 : decode prog_13_method_20_code 25 = .ok (.if_icmp .eq 9, 3) := by decide +kernel
theorem d_X11_textFor_28 : decode prog_13_method_20_code 28 = .ok (.iinc 2 1, 3) := by decide +kernel
theorem d_X11_textFor_31 : decode prog_13_method_20_code 31 = .ok (.goto (-29), 3) := by decide +kernel
theorem d_X11_textFor_34 : decode prog_13_method_20_code 34 = .ok (.iload_n 2, 1) := by decide +kernel
theorem d_X11_textFor_35 : decode prog_13_method_20_code 35 = .ok (.ireturn, 1) := by decide +kernel
abbrev Y_X11_newRecord : Yx := (⟨"TaskWeaveModel", "newRecord", "(IIIIII)I"⟩, prog_13_method_21_code, 7, (some .int))
abbrev M_X11_newRecord : Mx := ("TaskWeaveModel", prog_13_method_21_code, 7, false)
theorem yk_X11_newRecord : Yk Y_X11_newRecord 6 := ⟨by decide +kernel, by decide +kernel, ⟨by decide, by decide⟩, by decide +kernel, by decide, by decide +kernel⟩
theorem d_X11_newRecord_0 : decode prog_13_method_21_code 0 = .ok (.aload_n 0, 1) := by decide +kernel
theorem d_X11_newRecord_1 : decode prog_13_method_21_code 1 = .ok (.getfield 64, 3) := by decide +kernel
theorem d_X11_newRecord_4 : decode prog_13_method_21_code 4 = .ok (.aload_n 0, 1) := by decide +kernel
theorem d_X11_newRecord_5 : decode prog_13_method_21_code 5 = .ok (.getfield 244, 3) := by decide +kernel
theorem d_X11_newRecord_8 : decode prog_13_method_21_code 8 = .ok (.bipush 16, 2) := by decide +kernel
theorem d_X11_newRecord_10 : decode prog_13_method_21_code 10 = .ok (.iload_n 1, 1) := by decide +kernel
theorem d_X11_newRecord_11 : decode prog_13_method_21_code 11 = .ok (.imul, 1) := by decide +kernel
theorem d_X11_newRecord_12 : decode prog_13_method_21_code 12 = .ok (.iload_n 2, 1) := by decide +kernel
theorem d_X11_newRecord_13 : decode prog_13_method_21_code 13 = .ok (.iadd, 1) := by decide +kernel
theorem d_X11_newRecord_14 : decode prog_13_method_21_code 14 = .ok (.iastore, 1) := by decide +kernel
theorem d_X11_newRecord_15 : decode prog_13_method_21_code 15 = .ok (.aload_n 0, 1) := by decide +kernel
theorem d_X11_newRecord_16 : decode prog_13_method_21_code 16 = .ok (.getfield 67, 3) := by decide +kernel
theorem d_X11_newRecord_19 : decode prog_13_method_21_code 19 = .ok (.aload_n 0, 1) := by decide +kernel
theorem d_X11_newRecord_20 : decode prog_13_method_21_code 20 = .ok (.getfield 244, 3) := by decide +kernel
theorem d_X11_newRecord_23 : decode prog_13_method_21_code 23 = .ok (.iload_n 3, 1) := by decide +kernel
theorem d_X11_newRecord_24 : decode prog_13_method_21_code 24 = .ok (.iastore, 1) := by decide +kernel
theorem d_X11_newRecord_25 : decode prog_13_method_21_code 25 = .ok (.aload_n 0, 1) := by decide +kernel
theorem d_X11_newRecord_26 : decode prog_13_method_21_code 26 = .ok (.getfield 70, 3) := by decide +kernel
theorem d_X11_newRecord_29 : decode prog_13_method_21_code 29 = .ok (.aload_n 0, 1) := by decide +kernel
theorem d_X11_newRecord_30 : decode prog_13_method_21_code 30 = .ok (.getfield 244, 3) := by decide +kernel
theorem d_X11_newRecord_33 : decode prog_13_method_21_code 33 = .ok (.iload 4, 2) := by decide +kernel
theorem d_X11_newRecord_35 : decode prog_13_method_21_code 35 = .ok (.iastore, 1) := by decide +kernel
theorem d_X11_newRecord_36 : decode prog_13_method_21_code 36 = .ok (.aload_n 0, 1) := by decide +kernel
theorem d_X11_newRecord_37 : decode prog_13_method_21_code 37 = .ok (.getfield 73, 3) := by decide +kernel
theorem d_X11_newRecord_40 : decode prog_13_method_21_code 40 = .ok (.aload_n 0, 1) := by decide +kernel
theorem d_X11_newRecord_41 : decode prog_13_method_21_code 41 = .ok (.getfield 244, 3) := by decide +kernel
theorem d_X11_newRecord_44 : decode prog_13_method_21_code 44 = .ok (.iload 5, 2) := by decide +kernel
theorem d_X11_newRecord_46 : decode prog_13_method_21_code 46 = .ok (.iastore, 1) := by decide +kernel
theorem d_X11_newRecord_47 : decode prog_13_method_21_code 47 = .ok (.aload_n 0, 1) := by decide +kernel
theorem d_X11_newRecord_48 : decode prog_13_method_21_code 48 = .ok (.getfield 76, 3) := by decide +kernel
theorem d_X11_newRecord_51 : decode prog_13_method_21_code 51 = .ok (.aload_n 0, 1) := by decide +kernel
theorem d_X11_newRecord_52 : decode prog_13_method_21_code 52 = .ok (.getfield 244, 3) := by decide +kernel
theorem d_X11_newRecord_55 : decode prog_13_method_21_code 55 = .ok (.iload 6, 2) := by decide +kernel
theorem d_X11_newRecord_57 : decode prog_13_method_21_code 57 = .ok (.iastore, 1) := by decide +kernel
theorem d_X11_newRecord_58 : decode prog_13_method_21_code 58 = .ok (.aload_n 0, 1) := by decide +kernel
theorem d_X11_newRecord_59 : decode prog_13_method_21_code 59 = .ok (.dup, 1) := by decide +kernel
theorem d_X11_newRecord_60 : decode prog_13_method_21_code 60 = .ok (.getfield 244, 3) := by decide +kernel
theorem d_X11_newRecord_63 : decode prog_13_method_21_code 63 = .ok (.iconst 1, 1) := by decide +kernel
theorem d_X11_newRecord_64 : decode prog_13_method_21_code 64 = .ok (.iadd, 1) := by decide +kernel
theorem d_X11_newRecord_65 : decode prog_13_method_21_code 65 = .ok (.putfield 244, 3) := by decide +kernel
theorem d_X11_newRecord_68 : decode prog_13_method_21_code 68 = .ok (.aload_n 0, 1) := by decide +kernel
theorem d_X11_newRecord_69 : decode prog_13_method_21_code 69 = .ok (.getfield 244, 3) := by decide +kernel
theorem d_X11_newRecord_72 : decode prog_13_method_21_code 72 = .ok (.iconst 1, 1) := by decide +kernel
theorem d_X11_newRecord_73 : decode prog_13_method_21_code 73 = .ok (.isub, 1) := by decide +kernel
theorem d_X11_newRecord_74 : decode prog_13_method_21_code 74 = .ok (.ireturn, 1) := by decide +kernel
abbrev Y_X11_kindOf : Yx := (⟨"TaskWeaveModel", "kindOf", "(I)I"⟩, prog_13_method_22_code, 2, (some .int))
abbrev M_X11_kindOf : Mx := ("TaskWeaveModel", prog_13_method_22_code, 2, false)
theorem yk_X11_kindOf : Yk Y_X11_kindOf 1 := ⟨by decide +kernel, by decide +kernel, ⟨by decide, by decide⟩, by decide +kernel, by decide, by decide +kernel⟩
theorem d_X11_kindOf_0 : decode prog_13_method_22_code 0 = .ok (.aload_n 0, 1) := by decide +kernel
theorem d_X11_kindOf_1 : decode prog_13_method_22_code 1 = .ok (.getfield 64, 3) := by decide +kernel
theorem d_X11_kindOf_4 : decode prog_13_method_22_code 4 = .ok (.iload_n 1, 1) := by decide +kernel
theorem d_X11_kindOf_5 : decode prog_13_method_22_code 5 = .ok (.iaload, 1) := by decide +kernel
theorem d_X11_kindOf_6 : decode prog_13_method_22_code 6 = .ok (.bipush 16, 2) := by decide +kernel
theorem d_X11_kindOf_8 : decode prog_13_method_22_code 8 = .ok (.irem, 1) := by decide +kernel
theorem d_X11_kindOf_9 : decode prog_13_method_22_code 9 = .ok (.ireturn, 1) := by decide +kernel
abbrev Y_X11_down : Yx := (⟨"TaskWeaveModel", "down", "(I)V"⟩, prog_13_method_23_code, 2, none)
abbrev M_X11_down : Mx := ("TaskWeaveModel", prog_13_method_23_code, 2, false)
theorem yk_X11_down : Yk Y_X11_down 1 := ⟨by decide +kernel, by decide +kernel, ⟨by decide, by decide⟩, by decide +kernel, by decide, by decide +kernel⟩
theorem d_X11_down_0 : decode prog_13_method_23_code 0 = .ok (.aload_n 0, 1) := by decide +kernel
theorem d_X11_down_1 : decode prog_13_method_23_code 1 = .ok (.getfield 92, 3) := by decide +kernel
theorem d_X11_down_4 : decode prog_13_method_23_code 4 = .ok (.iload_n 1, 1) := by decide +kernel
theorem d_X11_down_5 : decode prog_13_method_23_code 5 = .ok (.iconst 0, 1) := by decide +kernel
theorem d_X11_down_6 : decode prog_13_method_23_code 6 = .ok (.bastore, 1) := by decide +kernel
theorem d_X11_down_7 : decode prog_13_method_23_code 7 = .ok (.aload_n 0, 1) := by decide +kernel
theorem d_X11_down_8 : decode prog_13_method_23_code 8 = .ok (.getfield 95, 3) := by decide +kernel
theorem d_X11_down_11 : decode prog_13_method_23_code 11 = .ok (.iload_n 1, 1) := by decide +kernel
theorem d_X11_down_12 : decode prog_13_method_23_code 12 = .ok (.iconst (-1), 1) := by decide +kernel
theorem d_X11_down_13 : decode prog_13_method_23_code 13 = .ok (.iastore, 1) := by decide +kernel
theorem d_X11_down_14 : decode prog_13_method_23_code 14 = .ok (.return_, 1) := by decide +kernel
abbrev Y_X11_write : Yx := (⟨"TaskWeaveModel", "write", "(II)Z"⟩, prog_13_method_24_code, 3, (some .boolean))
abbrev M_X11_write : Mx := ("TaskWeaveModel", prog_13_method_24_code, 3, false)
theorem yk_X11_write : Yk Y_X11_write 2 := ⟨by decide +kernel, by decide +kernel, ⟨by decide, by decide⟩, by decide +kernel, by decide, by decide +kernel⟩
theorem d_X11_write_0 : decode prog_13_method_24_code 0 = .ok (.aload_n 0, 1) := by decide +kernel
theorem d_X11_write_1 : decode prog_13_method_24_code 1 = .ok (.getfield 95, 3) := by decide +kernel
theorem d_X11_write_4 : decode prog_13_method_24_code 4 = .ok (.iload_n 1, 1) := by decide +kernel
theorem d_X11_write_5 : decode prog_13_method_24_code 5 = .ok (.iaload, 1) := by decide +kernel
theorem d_X11_write_6 : decode prog_13_method_24_code 6 = .ok (.iconst (-1), 1) := by decide +kernel
theorem d_X11_write_7 : decode prog_13_method_24_code 7 = .ok (.if_icmp .eq 40, 3) := by decide +kernel
theorem d_X11_write_10 : decode prog_13_method_24_code 10 = .ok (.aload_n 0, 1) := by decide +kernel
theorem d_X11_write_11 : decode prog_13_method_24_code 11 = .ok (.getfield 95, 3) := by decide +kernel
theorem d_X11_write_14 : decode prog_13_method_24_code 14 = .ok (.iload_n 1, 1) := by decide +kernel
theorem d_X11_write_15 : decode prog_13_method_24_code 15 = .ok (.iaload, 1) := by decide +kernel
theorem d_X11_write_16 : decode prog_13_method_24_code 16 = .ok (.bipush 16, 2) := by decide +kernel
theorem d_X11_write_18 : decode prog_13_method_24_code 18 = .ok (.if_icmp .ge 29, 3) := by decide +kernel
theorem d_X11_write_21 : decode prog_13_method_24_code 21 = .ok (.aload_n 0, 1) := by decide +kernel
theorem d_X11_write_22 : decode prog_13_method_24_code 22 = .ok (.getfield 86, 3) := by decide +kernel
theorem d_X11_write_25 : decode prog_13_method_24_code 25 = .ok (.iload_n 1, 1) := by decide +kernel
theorem d_X11_write_26 : decode prog_13_method_24_code 26 = .ok (.aload_n 0, 1) := by decide +kernel
theorem d_X11_write_27 : decode prog_13_method_24_code 27 = .ok (.getfield 95, 3) := by decide +kernel
theorem d_X11_write_30 : decode prog_13_method_24_code 30 = .ok (.iload_n 1, 1) := by decide +kernel
theorem d_X11_write_31 : decode prog_13_method_24_code 31 = .ok (.iaload, 1) := by decide +kernel
theorem d_X11_write_32 : decode prog_13_method_24_code 32 = .ok (.iastore, 1) := by decide +kernel
theorem d_X11_write_33 : decode prog_13_method_24_code 33 = .ok (.aload_n 0, 1) := by decide +kernel
theorem d_X11_write_34 : decode prog_13_method_24_code 34 = .ok (.getfield 89, 3) := by decide +kernel
theorem d_X11_write_37 : decode prog_13_method_24_code 37 = .ok (.iload_n 1, 1) := by decide +kernel
theorem d_X11_write_38 : decode prog_13_method_24_code 38 = .ok (.iload_n 2, 1) := by decide +kernel
theorem d_X11_write_39 : decode prog_13_method_24_code 39 = .ok (.iastore, 1) := by decide +kernel
theorem d_X11_write_40 : decode prog_13_method_24_code 40 = .ok (.aload_n 0, 1) := by decide +kernel
theorem d_X11_write_41 : decode prog_13_method_24_code 41 = .ok (.iload_n 1, 1) := by decide +kernel
theorem d_X11_write_42 : decode prog_13_method_24_code 42 = .ok (.invokevirtual 247, 3) := by decide +kernel
theorem d_X11_write_45 : decode prog_13_method_24_code 45 = .ok (.iconst 0, 1) := by decide +kernel
theorem d_X11_write_46 : decode prog_13_method_24_code 46 = .ok (.ireturn, 1) := by decide +kernel
theorem d_X11_write_47 : decode prog_13_method_24_code 47 = .ok (.aload_n 0, 1) := by decide +kernel
theorem d_X11_write_48 : decode prog_13_method_24_code 48 = .ok (.getfield 95, 3) := by decide +kernel
theorem d_X11_write_51 : decode prog_13_method_24_code 51 = .ok (.iload_n 1, 1) := by decide +kernel
theorem d_X11_write_52 : decode prog_13_method_24_code 52 = .ok (.iaload, 1) := by decide +kernel
theorem d_X11_write_53 : decode prog_13_method_24_code 53 = .ok (.iconst (-1), 1) := by decide +kernel
theorem d_X11_write_54 : decode prog_13_method_24_code 54 = .ok (.if_icmp .eq 14, 3) := by decide +kernel
theorem d_X11_write_57 : decode prog_13_method_24_code 57 = .ok (.aload_n 0, 1) := by decide +kernel
theorem d_X11_write_58 : decode prog_13_method_24_code 58 = .ok (.getfield 95, 3) := by decide +kernel
theorem d_X11_write_61 : decode prog_13_method_24_code 61 = .ok (.iload_n 1, 1) := by decide +kernel
theorem d_X11_write_62 : decode prog_13_method_24_code 62 = .ok (.dup2, 1) := by decide +kernel
theorem d_X11_write_63 : decode prog_13_method_24_code 63 = .ok (.iaload, 1) := by decide +kernel
theorem d_X11_write_64 : decode prog_13_method_24_code 64 = .ok (.bipush 16, 2) := by decide +kernel
theorem d_X11_write_66 : decode prog_13_method_24_code 66 = .ok (.isub, 1) := by decide +kernel
theorem d_X11_write_67 : decode prog_13_method_24_code 67 = .ok (.iastore, 1) := by decide +kernel
theorem d_X11_write_68 : decode prog_13_method_24_code 68 = .ok (.aload_n 0, 1) := by decide +kernel
theorem d_X11_write_69 : decode prog_13_method_24_code 69 = .ok (.getfield 80, 3) := by decide +kernel
theorem d_X11_write_72 : decode prog_13_method_24_code 72 = .ok (.sipush 8192, 3) := by decide +kernel
theorem d_X11_write_75 : decode prog_13_method_24_code 75 = .ok (.iload_n 1, 1) := by decide +kernel
theorem d_X11_write_76 : decode prog_13_method_24_code 76 = .ok (.imul, 1) := by decide +kernel
theorem d_X11_write_77 : decode prog_13_method_24_code 77 = .ok (.aload_n 0, 1) := by decide +kernel
theorem d_X11_write_78 : decode prog_13_method_24_code 78 = .ok (.getfield 83, 3) := by decide +kernel
theorem d_X11_write_81 : decode prog_13_method_24_code 81 = .ok (.iload_n 1, 1) := by decide +kernel
theorem d_X11_write_82 : decode prog_13_method_24_code 82 = .ok (.iaload, 1) := by decide +kernel
theorem d_X11_write_83 : decode prog_13_method_24_code 83 = .ok (.iadd, 1) := by decide +kernel
theorem d_X11_write_84 : decode prog_13_method_24_code 84 = .ok (.iload_n 2, 1) := by decide +kernel
theorem d_X11_write_85 : decode prog_13_method_24_code 85 = .ok (.iastore, 1) := by decide +kernel
theorem d_X11_write_86 : decode prog_13_method_24_code 86 = .ok (.aload_n 0, 1) := by decide +kernel
theorem d_X11_write_87 : decode prog_13_method_24_code 87 = .ok (.getfield 83, 3) := by decide +kernel
theorem d_X11_write_90 : decode prog_13_method_24_code 90 = .ok (.iload_n 1, 1) := by decide +kernel
theorem d_X11_write_91 : decode prog_13_method_24_code 91 = .ok (.dup2, 1) := by decide +kernel
theorem d_X11_write_92 : decode prog_13_method_24_code 92 = .ok (.iaload, 1) := by decide +kernel
theorem d_X11_write_93 : decode prog_13_method_24_code 93 = .ok (.iconst 1, 1) := by decide +kernel
theorem d_X11_write_94 : decode prog_13_method_24_code 94 = .ok (.iadd, 1) := by decide +kernel
theorem d_X11_write_95 : decode prog_13_method_24_code 95 = .ok (.iastore, 1) := by decide +kernel
theorem d_X11_write_96 : decode prog_13_method_24_code 96 = .ok (.iconst 1, 1) := by decide +kernel
theorem d_X11_write_97 : decode prog_13_method_24_code 97 = .ok (.ireturn, 1) := by decide +kernel
abbrev Y_X11_makeAlike : Yx := (⟨"TaskWeaveModel", "makeAlike", "(II)V"⟩, prog_13_method_25_code, 5, none)
abbrev M_X11_makeAlike : Mx := ("TaskWeaveModel", prog_13_method_25_code, 5, false)
theorem yk_X11_makeAlike : Yk Y_X11_makeAlike 2 := ⟨by decide +kernel, by decide +kernel, ⟨by decide, by decide⟩, by decide +kernel, by decide, by decide +kernel⟩
theorem d_X11_makeAlike_0 : decode prog_13_method_25_code 0 = .ok (.iconst 0, 1) := by decide +kernel
theorem d_X11_makeAlike_1 : decode prog_13_method_25_code 1 = .ok (.istore_n 3, 1) := by decide +kernel
theorem d_X11_makeAlike_2 : decode prog_13_method_25_code 2 = .ok (.iload_n 3, 1) := by decide +kernel
theorem d_X11_makeAlike_3 : decode prog_13_method_25_code 3 = .ok (.aload_n 0, 1) := by decide +kernel
theorem d_X11_makeAlike_4 : decode prog_13_method_25_code 4 = .ok (.getfield 83, 3) := by decide +kernel
theorem d_X11_makeAlike_7 : decode prog_13_method_25_code 7 = .ok (.iload_n 1, 1) := by decide +kernel
theorem d_X11_makeAlike_8 : decode prog_13_method_25_code 8 = .ok (.iaload, 1) := by decide +kernel
theorem d_X11_makeAlike_9 : decode prog_13_method_25_code 9 = .ok (.if_icmp .ge 46, 3) := by decide +kernel
theorem d_X11_makeAlike_12 : decode prog_13_method_25_code 12 = .ok (.iload_n 3, 1) := by decide +kernel
theorem d_X11_makeAlike_13 : decode prog_13_method_25_code 13 = .ok (.aload_n 0, 1) := by decide +kernel
theorem d_X11_makeAlike_14 : decode prog_13_method_25_code 14 = .ok (.getfield 83, 3) := by decide +kernel
theorem d_X11_makeAlike_17 : decode prog_13_method_25_code 17 = .ok (.iload_n 2, 1) := by decide +kernel
theorem d_X11_makeAlike_18 : decode prog_13_method_25_code 18 = .ok (.iaload, 1) := by decide +kernel
theorem d_X11_makeAlike_19 : decode prog_13_method_25_code 19 = .ok (.if_icmp .ge 36, 3) := by decide +kernel
theorem d_X11_makeAlike_22 : decode prog_13_method_25_code 22 = .ok (.aload_n 0, 1) := by decide +kernel
theorem d_X11_makeAlike_23 : decode prog_13_method_25_code 23 = .ok (.getfield 80, 3) := by decide +kernel
theorem d_X11_makeAlike_26 : decode prog_13_method_25_code 26 = .ok (.sipush 8192, 3) := by decide +kernel
theorem d_X11_makeAlike_29 : decode prog_13_method_25_code 29 = .ok (.iload_n 1, 1) := by decide +kernel
theorem d_X11_makeAlike_30 : decode prog_13_method_25_code 30 = .ok (.imul, 1) := by decide +kernel
theorem d_X11_makeAlike_31 : decode prog_13_method_25_code 31 = .ok (.iload_n 3, 1) := by decide +kernel
theorem d_X11_makeAlike_32 : decode prog_13_method_25_code 32 = .ok (.iadd, 1) := by decide +kernel
theorem d_X11_makeAlike_33 : decode prog_13_method_25_code 33 = .ok (.iaload, 1) := by decide +kernel
theorem d_X11_makeAlike_34 : decode prog_13_method_25_code 34 = .ok (.aload_n 0, 1) := by decide +kernel
theorem d_X11_makeAlike_35 : decode prog_13_method_25_code 35 = .ok (.getfield 80, 3) := by decide +kernel
theorem d_X11_makeAlike_38 : decode prog_13_method_25_code 38 = .ok (.sipush 8192, 3) := by decide +kernel
theorem d_X11_makeAlike_41 : decode prog_13_method_25_code 41 = .ok (.iload_n 2, 1) := by decide +kernel
theorem d_X11_makeAlike_42 : decode prog_13_method_25_code 42 = .ok (.imul, 1) := by decide +kernel
theorem d_X11_makeAlike_43 : decode prog_13_method_25_code 43 = .ok (.iload_n 3, 1) := by decide +kernel
theorem d_X11_makeAlike_44 : decode prog_13_method_25_code 44 = .ok (.iadd, 1) := by decide +kernel
theorem d_X11_makeAlike_45 : decode prog_13_method_25_code 45 = .ok (.iaload, 1) := by decide +kernel
theorem d_X11_makeAlike_46 : decode prog_13_method_25_code 46 = .ok (.if_icmp .ne 9, 3) := by decide +kernel
theorem d_X11_makeAlike_49 : decode prog_13_method_25_code 49 = .ok (.iinc 3 1, 3) := by decide +kernel
theorem d_X11_makeAlike_52 : decode prog_13_method_25_code 52 = .ok (.goto (-50), 3) := by decide +kernel
theorem d_X11_makeAlike_55 : decode prog_13_method_25_code 55 = .ok (.aload_n 0, 1) := by decide +kernel
theorem d_X11_makeAlike_56 : decode prog_13_method_25_code 56 = .ok (.getfield 83, 3) := by decide +kernel
theorem d_X11_makeAlike_59 : decode prog_13_method_25_code 59 = .ok (.iload_n 1, 1) := by decide +kernel
theorem d_X11_makeAlike_60 : decode prog_13_method_25_code 60 = .ok (.iload_n 3, 1) := by decide +kernel
theorem d_X11_makeAlike_61 : decode prog_13_method_25_code 61 = .ok (.iastore, 1) := by decide +kernel
theorem d_X11_makeAlike_62 : decode prog_13_method_25_code 62 = .ok (.iconst 1, 1) := by decide +kernel
theorem d_X11_makeAlike_63 : decode prog_13_method_25_code 63 = .ok (.istore 4, 2) := by decide +kernel
theorem d_X11_makeAlike_65 : decode prog_13_method_25_code 65 = .ok (.iload 4, 2) := by decide +kernel
theorem d_X11_makeAlike_67 : decode prog_13_method_25_code 67 = .ok (.ifCond .eq 38, 3) := by decide +kernel
theorem d_X11_makeAlike_70 : decode prog_13_method_25_code 70 = .ok (.iload_n 3, 1) := by decide +kernel
theorem d_X11_makeAlike_71 : decode prog_13_method_25_code 71 = .ok (.aload_n 0, 1) := by decide +kernel
theorem d_X11_makeAlike_72 : decode prog_13_method_25_code 72 = .ok (.getfield 83, 3) := by decide +kernel
theorem d_X11_makeAlike_75 : decode prog_13_method_25_code 75 = .ok (.iload_n 2, 1) := by decide +kernel
theorem d_X11_makeAlike_76 : decode prog_13_method_25_code 76 = .ok (.iaload, 1) := by decide +kernel
theorem d_X11_makeAlike_77 : decode prog_13_method_25_code 77 = .ok (.if_icmp .ge 28, 3) := by decide +kernel
theorem d_X11_makeAlike_80 : decode prog_13_method_25_code 80 = .ok (.aload_n 0, 1) := by decide +kernel
theorem d_X11_makeAlike_81 : decode prog_13_method_25_code 81 = .ok (.iload_n 1, 1) := by decide +kernel
theorem d_X11_makeAlike_82 : decode prog_13_method_25_code 82 = .ok (.aload_n 0, 1) := by decide +kernel
theorem d_X11_makeAlike_83 : decode prog_13_method_25_code 83 = .ok (.getfield 80, 3) := by decide +kernel
theorem d_X11_makeAlike_86 : decode prog_13_method_25_code 86 = .ok (.sipush 8192, 3) := by decide +kernel
theorem d_X11_makeAlike_89 : decode prog_13_method_25_code 89 = .ok (.iload_n 2, 1) := by decide +kernel
theorem d_X11_makeAlike_90 : decode prog_13_method_25_code 90 = .ok (.imul, 1) := by decide +kernel
theorem d_X11_makeAlike_91 : decode prog_13_method_25_code 91 = .ok (.iload_n 3, 1) := by decide +kernel
theorem d_X11_makeAlike_92 : decode prog_13_method_25_code 92 = .ok (.iadd, 1) := by decide +kernel
theorem d_X11_makeAlike_93 : decode prog_13_method_25_code 93 = .ok (.iaload, 1) := by decide +kernel
theorem d_X11_makeAlike_94 : decode prog_13_method_25_code 94 = .ok (.invokevirtual 251, 3) := by decide +kernel
theorem d_X11_makeAlike_97 : decode prog_13_method_25_code 97 = .ok (.istore 4, 2) := by decide +kernel
theorem d_X11_makeAlike_99 : decode prog_13_method_25_code 99 = .ok (.iinc 3 1, 3) := by decide +kernel
theorem d_X11_makeAlike_102 : decode prog_13_method_25_code 102 = .ok (.goto (-37), 3) := by decide +kernel
theorem d_X11_makeAlike_105 : decode prog_13_method_25_code 105 = .ok (.return_, 1) := by decide +kernel
abbrev Y_X11_ups : Yx := (⟨"TaskWeaveModel", "ups", "(I)I"⟩, prog_13_method_26_code, 4, (some .int))
abbrev M_X11_ups : Mx := ("TaskWeaveModel", prog_13_method_26_code, 4, false)
theorem yk_X11_ups : Yk Y_X11_ups 1 := ⟨by decide +kernel, by decide +kernel, ⟨by decide, by decide⟩, by decide +kernel, by decide, by decide +kernel⟩
theorem d_X11_ups_0 : decode prog_13_method_26_code 0 = .ok (.iconst 0, 1) := by decide +kernel
theorem d_X11_ups_1 : decode prog_13_method_26_code 1 = .ok (.istore_n 2, 1) := by decide +kernel
theorem d_X11_ups_2 : decode prog_13_method_26_code 2 = .ok (.iconst 0, 1) := by decide +kernel
theorem d_X11_ups_3 : decode prog_13_method_26_code 3 = .ok (.istore_n 3, 1) := by decide +kernel
theorem d_X11_ups_4 : decode prog_13_method_26_code 4 = .ok (.iload_n 3, 1) := by decide +kernel
theorem d_X11_ups_5 : decode prog_13_method_26_code 5 = .ok (.aload_n 0, 1) := by decide +kernel
theorem d_X11_ups_6 : decode prog_13_method_26_code 6 = .ok (.getfield 98, 3) := by decide +kernel
theorem d_X11_ups_9 : decode prog_13_method_26_code 9 = .ok (.iload_n 1, 1) := by decide +kernel
theorem d_X11_ups_10 : decode prog_13_method_26_code 10 = .ok (.iaload, 1) := by decide +kernel
theorem d_X11_ups_11 : decode prog_13_method_26_code 11 = .ok (.if_icmp .ge 30, 3) := by decide +kernel
theorem d_X11_ups_14 : decode prog_13_method_26_code 14 = .ok (.iload_n 2, 1) := by decide +kernel
theorem d_X11_ups_15 : decode prog_13_method_26_code 15 = .ok (.aload_n 0, 1) := by decide +kernel
theorem d_X11_ups_16 : decode prog_13_method_26_code 16 = .ok (.getfield 92, 3) := by decide +kernel
theorem d_X11_ups_19 : decode prog_13_method_26_code 19 = .ok (.iconst 5, 1) := by decide +kernel
theorem d_X11_ups_20 : decode prog_13_method_26_code 20 = .ok (.iload_n 1, 1) := by decide +kernel
theorem d_X11_ups_21 : decode prog_13_method_26_code 21 = .ok (.imul, 1) := by decide +kernel
theorem d_X11_ups_22 : decode prog_13_method_26_code 22 = .ok (.iload_n 3, 1) := by decide +kernel
theorem d_X11_ups_23 : decode prog_13_method_26_code 23 = .ok (.iadd, 1) := by decide +kernel
theorem d_X11_ups_24 : decode prog_13_method_26_code 24 = .ok (.baload, 1) := by decide +kernel
theorem d_X11_ups_25 : decode prog_13_method_26_code 25 = .ok (.ifCond .eq 7, 3) := by decide +kernel
theorem d_X11_ups_28 : decode prog_13_method_26_code 28 = .ok (.iconst 1, 1) := by decide +kernel
theorem d_X11_ups_29 : decode prog_13_method_26_code 29 = .ok (.goto 4, 3) := by decide +kernel
theorem d_X11_ups_32 : decode prog_13_method_26_code 32 = .ok (.iconst 0, 1) := by decide +kernel
theorem d_X11_ups_33 : decode prog_13_method_26_code 33 = .ok (.iadd, 1) := by decide +kernel
theorem d_X11_ups_34 : decode prog_13_method_26_code 34 = .ok (.istore_n 2, 1) := by decide +kernel
theorem d_X11_ups_35 : decode prog_13_method_26_code 35 = .ok (.iinc 3 1, 3) := by decide +kernel
theorem d_X11_ups_38 : decode prog_13_method_26_code 38 = .ok (.goto (-34), 3) := by decide +kernel
theorem d_X11_ups_41 : decode prog_13_method_26_code 41 = .ok (.iload_n 2, 1) := by decide +kernel
theorem d_X11_ups_42 : decode prog_13_method_26_code 42 = .ok (.ireturn, 1) := by decide +kernel
abbrev Y_X11_spread : Yx := (⟨"TaskWeaveModel", "spread", "(III)Z"⟩, prog_13_method_27_code, 6, (some .boolean))
abbrev M_X11_spread : Mx := ("TaskWeaveModel", prog_13_method_27_code, 6, false)
theorem yk_X11_spread : Yk Y_X11_spread 3 := ⟨by decide +kernel, by decide +kernel, ⟨by decide, by decide⟩, by decide +kernel, by decide, by decide +kernel⟩
theorem d_X11_spread_0 : decode prog_13_method_27_code 0 = .ok (.aload_n 0, 1) := by decide +kernel
theorem d_X11_spread_1 : decode prog_13_method_27_code 1 = .ok (.iconst 5, 1) := by decide +kernel
theorem d_X11_spread_2 : decode prog_13_method_27_code 2 = .ok (.iload_n 1, 1) := by decide +kernel
theorem d_X11_spread_3 : decode prog_13_method_27_code 3 = .ok (.imul, 1) := by decide +kernel
theorem d_X11_spread_4 : decode prog_13_method_27_code 4 = .ok (.iload_n 2, 1) := by decide +kernel
theorem d_X11_spread_5 : decode prog_13_method_27_code 5 = .ok (.iadd, 1) := by decide +kernel
theorem d_X11_spread_6 : decode prog_13_method_27_code 6 = .ok (.iload_n 3, 1) := by decide +kernel
theorem d_X11_spread_7 : decode prog_13_method_27_code 7 = .ok (.invokevirtual 251, 3) := by decide +kernel
theorem d_X11_spread_10 : decode prog_13_method_27_code 10 = .ok (.ifCond .ne 5, 3) := by decide +kernel
theorem d_X11_spread_13 : decode prog_13_method_27_code 13 = .ok (.iconst 0, 1) := by decide +kernel
theorem d_X11_spread_14 : decode prog_13_method_27_code 14 = .ok (.ireturn, 1) := by decide +kernel
theorem d_X11_spread_15 : decode prog_13_method_27_code 15 = .ok (.iconst 1, 1) := by decide +kernel
theorem d_X11_spread_16 : decode prog_13_method_27_code 16 = .ok (.istore 4, 2) := by decide +kernel
theorem d_X11_spread_18 : decode prog_13_method_27_code 18 = .ok (.iconst 0, 1) := by decide +kernel
theorem d_X11_spread_19 : decode prog_13_method_27_code 19 = .ok (.istore 5, 2) := by decide +kernel
theorem d_X11_spread_21 : decode prog_13_method_27_code 21 = .ok (.iload 5, 2) := by decide +kernel
theorem d_X11_spread_23 : decode prog_13_method_27_code 23 = .ok (.aload_n 0, 1) := by decide +kernel
theorem d_X11_spread_24 : decode prog_13_method_27_code 24 = .ok (.getfield 98, 3) := by decide +kernel
theorem d_X11_spread_27 : decode prog_13_method_27_code 27 = .ok (.iload_n 1, 1) := by decide +kernel
theorem d_X11_spread_28 : decode prog_13_method_27_code 28 = .ok (.iaload, 1) := by decide +kernel
theorem d_X11_spread_29 : decode prog_13_method_27_code 29 = .ok (.if_icmp .ge 46, 3) := by decide +kernel
theorem d_X11_spread_32 : decode prog_13_method_27_code 32 = .ok (.iload 5, 2) := by decide +kernel
theorem d_X11_spread_34 : decode prog_13_method_27_code 34 = .ok (.iload_n 2, 1) := by decide +kernel
theorem d_X11_spread_35 : decode prog_13_method_27_code 35 = .ok (.if_icmp .eq 34, 3) := by decide +kernel
theorem d_X11_spread_38 : decode prog_13_method_27_code 38 = .ok (.aload_n 0, 1) := by decide +kernel
theorem d_X11_spread_39 : decode prog_13_method_27_code 39 = .ok (.getfield 92, 3) := by decide +kernel
theorem d_X11_spread_42 : decode prog_13_method_27_code 42 = .ok (.iconst 5, 1) := by decide +kernel
theorem d_X11_spread_43 : decode prog_13_method_27_code 43 = .ok (.iload_n 1, 1) := by decide +kernel
theorem d_X11_spread_44 : decode prog_13_method_27_code 44 = .ok (.imul, 1) := by decide +kernel
theorem d_X11_spread_45 : decode prog_13_method_27_code 45 = .ok (.iload 5, 2) := by decide +kernel
theorem d_X11_spread_47 : decode prog_13_method_27_code 47 = .ok (.iadd, 1) := by decide +kernel
theorem d_X11_spread_48 : decode prog_13_method_27_code 48 = .ok (.baload, 1) := by decide +kernel
theorem d_X11_spread_49 : decode prog_13_method_27_code 49 = .ok (.ifCond .eq 20, 3) := by decide +kernel
theorem d_X11_spread_52 : decode prog_13_method_27_code 52 = .ok (.aload_n 0, 1) := by decide +kernel
theorem d_X11_spread_53 : decode prog_13_method_27_code 53 = .ok (.iconst 5, 1) := by decide +kernel
theorem d_X11_spread_54 : decode prog_13_method_27_code 54 = .ok (.iload_n 1, 1) := by decide +kernel
theorem d_X11_spread_55 : decode prog_13_method_27_code 55 = .ok (.imul, 1) := by decide +kernel
theorem d_X11_spread_56 : decode prog_13_method_27_code 56 = .ok (.iload 5, 2) := by decide +kernel
theorem d_X11_spread_58 : decode prog_13_method_27_code 58 = .ok (.iadd, 1) := by decide +kernel
theorem d_X11_spread_59 : decode prog_13_method_27_code 59 = .ok (.iload_n 3, 1) := by decide +kernel
theorem d_X11_spread_60 : decode prog_13_method_27_code 60 = .ok (.invokevirtual 251, 3) := by decide +kernel
theorem d_X11_spread_63 : decode prog_13_method_27_code 63 = .ok (.ifCond .eq 6, 3) := by decide +kernel
theorem d_X11_spread_66 : decode prog_13_method_27_code 66 = .ok (.iinc 4 1, 3) := by decide +kernel
theorem d_X11_spread_69 : decode prog_13_method_27_code 69 = .ok (.iinc 5 1, 3) := by decide +kernel
theorem d_X11_spread_72 : decode prog_13_method_27_code 72 = .ok (.goto (-51), 3) := by decide +kernel
theorem d_X11_spread_75 : decode prog_13_method_27_code 75 = .ok (.iconst 2, 1) := by decide +kernel
theorem d_X11_spread_76 : decode prog_13_method_27_code 76 = .ok (.iload 4, 2) := by decide +kernel
theorem d_X11_spread_78 : decode prog_13_method_27_code 78 = .ok (.imul, 1) := by decide +kernel
theorem d_X11_spread_79 : decode prog_13_method_27_code 79 = .ok (.aload_n 0, 1) := by decide +kernel
theorem d_X11_spread_80 : decode prog_13_method_27_code 80 = .ok (.getfield 98, 3) := by decide +kernel
theorem d_X11_spread_83 : decode prog_13_method_27_code 83 = .ok (.iload_n 1, 1) := by decide +kernel
theorem d_X11_spread_84 : decode prog_13_method_27_code 84 = .ok (.iaload, 1) := by decide +kernel
theorem d_X11_spread_85 : decode prog_13_method_27_code 85 = .ok (.if_icmp .le 7, 3) := by decide +kernel
theorem d_X11_spread_88 : decode prog_13_method_27_code 88 = .ok (.iconst 1, 1) := by decide +kernel
theorem d_X11_spread_89 : decode prog_13_method_27_code 89 = .ok (.goto 4, 3) := by decide +kernel
theorem d_X11_spread_92 : decode prog_13_method_27_code 92 = .ok (.iconst 0, 1) := by decide +kernel
theorem d_X11_spread_93 : decode prog_13_method_27_code 93 = .ok (.ireturn, 1) := by decide +kernel
abbrev Y_X11_lastTerm : Yx := (⟨"TaskWeaveModel", "lastTerm", "(I)I"⟩, prog_13_method_30_code, 2, (some .int))
abbrev M_X11_lastTerm : Mx := ("TaskWeaveModel", prog_13_method_30_code, 2, false)
theorem yk_X11_lastTerm : Yk Y_X11_lastTerm 1 := ⟨by decide +kernel, by decide +kernel, ⟨by decide, by decide⟩, by decide +kernel, by decide, by decide +kernel⟩
theorem d_X11_lastTerm_0 : decode prog_13_method_30_code 0 = .ok (.aload_n 0, 1) := by decide +kernel
theorem d_X11_lastTerm_1 : decode prog_13_method_30_code 1 = .ok (.getfield 83, 3) := by decide +kernel
theorem d_X11_lastTerm_4 : decode prog_13_method_30_code 4 = .ok (.iload_n 1, 1) := by decide +kernel
theorem d_X11_lastTerm_5 : decode prog_13_method_30_code 5 = .ok (.iaload, 1) := by decide +kernel
theorem d_X11_lastTerm_6 : decode prog_13_method_30_code 6 = .ok (.ifCond .ne 7, 3) := by decide +kernel
theorem d_X11_lastTerm_9 : decode prog_13_method_30_code 9 = .ok (.iconst 0, 1) := by decide +kernel
theorem d_X11_lastTerm_10 : decode prog_13_method_30_code 10 = .ok (.goto 27, 3) := by decide +kernel
theorem d_X11_lastTerm_13 : decode prog_13_method_30_code 13 = .ok (.aload_n 0, 1) := by decide +kernel
theorem d_X11_lastTerm_14 : decode prog_13_method_30_code 14 = .ok (.getfield 67, 3) := by decide +kernel
theorem d_X11_lastTerm_17 : decode prog_13_method_30_code 17 = .ok (.aload_n 0, 1) := by decide +kernel
theorem d_X11_lastTerm_18 : decode prog_13_method_30_code 18 = .ok (.getfield 80, 3) := by decide +kernel
theorem d_X11_lastTerm_21 : decode prog_13_method_30_code 21 = .ok (.sipush 8192, 3) := by decide +kernel
theorem d_X11_lastTerm_24 : decode prog_13_method_30_code 24 = .ok (.iload_n 1, 1) := by decide +kernel
theorem d_X11_lastTerm_25 : decode prog_13_method_30_code 25 = .ok (.imul, 1) := by decide +kernel
theorem d_X11_lastTerm_26 : decode prog_13_method_30_code 26 = .ok (.aload_n 0, 1) := by decide +kernel
theorem d_X11_lastTerm_27 : decode prog_13_method_30_code 27 = .ok (.getfield 83, 3) := by decide +kernel
theorem d_X11_lastTerm_30 : decode prog_13_method_30_code 30 = .ok (.iload_n 1, 1) := by decide +kernel
theorem d_X11_lastTerm_31 : decode prog_13_method_30_code 31 = .ok (.iaload, 1) := by decide +kernel
theorem d_X11_lastTerm_32 : decode prog_13_method_30_code 32 = .ok (.iadd, 1) := by decide +kernel
theorem d_X11_lastTerm_33 : decode prog_13_method_30_code 33 = .ok (.iconst 1, 1) := by decide +kernel
theorem d_X11_lastTerm_34 : decode prog_13_method_30_code 34 = .ok (.isub, 1) := by decide +kernel
theorem d_X11_lastTerm_35 : decode prog_13_method_30_code 35 = .ok (.iaload, 1) := by decide +kernel
theorem d_X11_lastTerm_36 : decode prog_13_method_30_code 36 = .ok (.iaload, 1) := by decide +kernel
theorem d_X11_lastTerm_37 : decode prog_13_method_30_code 37 = .ok (.ireturn, 1) := by decide +kernel
abbrev Y_X11_isBetter : Yx := (⟨"TaskWeaveModel", "isBetter", "(II)Z"⟩, prog_13_method_31_code, 3, (some .boolean))
abbrev M_X11_isBetter : Mx := ("TaskWeaveModel", prog_13_method_31_code, 3, false)
theorem yk_X11_isBetter : Yk Y_X11_isBetter 2 := ⟨by decide +kernel, by decide +kernel, ⟨by decide, by decide⟩, by decide +kernel, by decide, by decide +kernel⟩
theorem d_X11_isBetter_0 : decode prog_13_method_31_code 0 = .ok (.aload_n 0, 1) := by decide +kernel
theorem d_X11_isBetter_1 : decode prog_13_method_31_code 1 = .ok (.iload_n 1, 1) := by decide +kernel
theorem d_X11_isBetter_2 : decode prog_13_method_31_code 2 = .ok (.invokevirtual 271, 3) := by decide +kernel
theorem d_X11_isBetter_5 : decode prog_13_method_31_code 5 = .ok (.aload_n 0, 1) := by decide +kernel
theorem d_X11_isBetter_6 : decode prog_13_method_31_code 6 = .ok (.iload_n 2, 1) := by decide +kernel
theorem d_X11_isBetter_7 : decode prog_13_method_31_code 7 = .ok (.invokevirtual 271, 3) := by decide +kernel
theorem d_X11_isBetter_10 : decode prog_13_method_31_code 10 = .ok (.if_icmp .eq 24, 3) := by decide +kernel
theorem d_X11_isBetter_13 : decode prog_13_method_31_code 13 = .ok (.aload_n 0, 1) := by decide +kernel
theorem d_X11_isBetter_14 : decode prog_13_method_31_code 14 = .ok (.iload_n 1, 1) := by decide +kernel
theorem d_X11_isBetter_15 : decode prog_13_method_31_code 15 = .ok (.invokevirtual 271, 3) := by decide +kernel
theorem d_X11_isBetter_18 : decode prog_13_method_31_code 18 = .ok (.aload_n 0, 1) := by decide +kernel
theorem d_X11_isBetter_19 : decode prog_13_method_31_code 19 = .ok (.iload_n 2, 1) := by decide +kernel
theorem d_X11_isBetter_20 : decode prog_13_method_31_code 20 = .ok (.invokevirtual 271, 3) := by decide +kernel
theorem d_X11_isBetter_23 : decode prog_13_method_31_code 23 = .ok (.if_icmp .le 7, 3) := by decide +kernel
theorem d_X11_isBetter_26 : decode prog_13_method_31_code 26 = .ok (.iconst 1, 1) := by decide +kernel
theorem d_X11_isBetter_27 : decode prog_13_method_31_code 27 = .ok (.goto 27, 3) := by decide +kernel
theorem d_X11_isBetter_30 : decode prog_13_method_31_code 30 = .ok (.iconst 0, 1) := by decide +kernel
theorem d_X11_isBetter_31 : decode prog_13_method_31_code 31 = .ok (.goto 23, 3) := by decide +kernel
theorem d_X11_isBetter_34 : decode prog_13_method_31_code 34 = .ok (.aload_n 0, 1) := by decide +kernel
theorem d_X11_isBetter_35 : decode prog_13_method_31_code 35 = .ok (.getfield 83, 3) := by decide +kernel
theorem d_X11_isBetter_38 : decode prog_13_method_31_code 38 = .ok (.iload_n 1, 1) := by decide +kernel
theorem d_X11_isBetter_39 : decode prog_13_method_31_code 39 = .ok (.iaload, 1) := by decide +kernel
theorem d_X11_isBetter_40 : decode prog_13_method_31_code 40 = .ok (.aload_n 0, 1) := by decide +kernel
theorem d_X11_isBetter_41 : decode prog_13_method_31_code 41 = .ok (.getfield 83, 3) := by decide +kernel
theorem d_X11_isBetter_44 : decode prog_13_method_31_code 44 = .ok (.iload_n 2, 1) := by decide +kernel
theorem d_X11_isBetter_45 : decode prog_13_method_31_code 45 = .ok (.iaload, 1) := by decide +kernel
theorem d_X11_isBetter_46 : decode prog_13_method_31_code 46 = .ok (.if_icmp .le 7, 3) := by decide +kernel
theorem d_X11_isBetter_49 : decode prog_13_method_31_code 49 = .ok (.iconst 1, 1) := by decide +kernel
theorem d_X11_isBetter_50 : decode prog_13_method_31_code 50 = .ok (.goto 4, 3) := by decide +kernel
theorem d_X11_isBetter_53 : decode prog_13_method_31_code 53 = .ok (.iconst 0, 1) := by decide +kernel
theorem d_X11_isBetter_54 : decode prog_13_method_31_code 54 = .ok (.ireturn, 1) := by decide +kernel
abbrev Y_X11_event : Yx := (⟨"TaskWeaveModel", "event", "(II)I"⟩, prog_13_method_36_code, 3, (some .int))
abbrev M_X11_event : Mx := ("TaskWeaveModel", prog_13_method_36_code, 3, false)
theorem yk_X11_event : Yk Y_X11_event 2 := ⟨by decide +kernel, by decide +kernel, ⟨by decide, by decide⟩, by decide +kernel, by decide, by decide +kernel⟩
theorem d_X11_event_0 : decode prog_13_method_36_code 0 = .ok (.aload_n 0, 1) := by decide +kernel
theorem d_X11_event_1 : decode prog_13_method_36_code 1 = .ok (.getfield 110, 3) := by decide +kernel
theorem d_X11_event_4 : decode prog_13_method_36_code 4 = .ok (.bipush 60, 2) := by decide +kernel
theorem d_X11_event_6 : decode prog_13_method_36_code 6 = .ok (.iload_n 1, 1) := by decide +kernel
theorem d_X11_event_7 : decode prog_13_method_36_code 7 = .ok (.imul, 1) := by decide +kernel
theorem d_X11_event_8 : decode prog_13_method_36_code 8 = .ok (.iload_n 2, 1) := by decide +kernel
theorem d_X11_event_9 : decode prog_13_method_36_code 9 = .ok (.iadd, 1) := by decide +kernel
theorem d_X11_event_10 : decode prog_13_method_36_code 10 = .ok (.iaload, 1) := by decide +kernel
theorem d_X11_event_11 : decode prog_13_method_36_code 11 = .ok (.ireturn, 1) := by decide +kernel
theorem vk_12_224 : Vk "TaskWeaveModel" 224 0 12 Y_X11_set := ⟨yk_X11_set, by decide +kernel, by decide +kernel, by decide +kernel, by decide⟩
def f_X11_step (l0 : Nat) (h : Hp) : Option (Int32 × Hp) := ck (isO (h) (l0) 12) ((f_X11_isLetter (l0) (h)).bind (fun q1 => if (q1.1) = (0) then (ck (isO (q1.2) (l0) 12) ((f_X11_takes (l0) ((84 : Int32)) (q1.2)).bind (fun q4 => if (q4.1) = (0) then (ck (isO (q4.2) (l0) 12) ((f_X11_takes (l0) ((83 : Int32)) (q4.2)).bind (fun q7 => if (q7.1) = (0) then (ck (isO (q7.2) (l0) 12) ((f_X11_takes (l0) ((73 : Int32)) (q7.2)).bind (fun q10 => if (q10.1) = (0) then (ck (isO (q10.2) (l0) 12) ((f_X11_takes (l0) ((71 : Int32)) (q10.2)).bind (fun q13 => if (q13.1) = (0) then (ck (isO (q13.2) (l0) 12) ((f_X11_takes (l0) ((69 : Int32)) (q13.2)).bind (fun q16 => if (q16.1) = (0) then (some ((0 : Int32), q16.2)) else (ck (isO (q16.2) (l0) 12) ((f_X11_bracketed (l0) (q16.2)).bind (fun q19 => if (q19.1) = (0) then (some ((0 : Int32), q19.2)) else (ck (isO (q19.2) (l0) 12) ((f_X11_ends (l0) ((14 : Int32)) (q19.2)).bind (fun q22 => if (q22.1) = (0) then (some ((0 : Int32), q22.2)) else (some ((1 : Int32), q22.2))))))))))) else (ck (isO (q13.2) (l0) 12) ((f_X11_number (l0) ((10 : Int32)) (q13.2)).bind (fun q25 => if (q25.1) = (0) then (some ((0 : Int32), q25.2)) else (ck (isO (q25.2) (l0) 12) ((f_X11_ends (l0) ((13 : Int32)) (q25.2)).bind (fun q28 => if (q28.1) = (0) then (some ((0 : Int32), q28.2)) else (some ((1 : Int32), q28.2))))))))))) else (ck (isO (q10.2) (l0) 12) ((f_X11_bracketed (l0) (q10.2)).bind (fun q31 => if (q31.1) = (0) then (some ((0 : Int32), q31.2)) else (ck (isO (q31.2) (l0) 12) ((f_X11_number (l0) ((10 : Int32)) (q31.2)).bind (fun q34 => if (q34.1) = (0) then (some ((0 : Int32), q34.2)) else (ck (isO (q34.2) (l0) 12) ((f_X11_ends (l0) ((12 : Int32)) (q34.2)).bind (fun q37 => if (q37.1) = (0) then (some ((0 : Int32), q37.2)) else (some ((1 : Int32), q37.2)))))))))))))) else (ck (isO (q7.2) (l0) 12) ((f_X11_takes (l0) ((40 : Int32)) (q7.2)).bind (fun q40 => if (q40.1) = (0) then (some ((0 : Int32), q40.2)) else (ck (isO (q40.2) (l0) 12) ((f_X11_value (l0) ((0 : Int32)) (q40.2)).bind (fun q43 => if (q43.1) = (0) then (some ((0 : Int32), q43.2)) else (ck (isO (q43.2) (l0) 12) ((f_X11_takes (l0) ((44 : Int32)) (q43.2)).bind (fun q46 => if (q46.1) = (0) then (some ((0 : Int32), q46.2)) else (ck (isO (q46.2) (l0) 12) ((f_X11_value (l0) ((1 : Int32)) (q46.2)).bind (fun q49 => if (q49.1) = (0) then (some ((0 : Int32), q49.2)) else (ck (isO (q49.2) (l0) 12) ((f_X11_takes (l0) ((41 : Int32)) (q49.2)).bind (fun q52 => if (q52.1) = (0) then (some ((0 : Int32), q52.2)) else (ck (isO (q52.2) (l0) 12) ((f_X11_ends (l0) ((11 : Int32)) (q52.2)).bind (fun q55 => if (q55.1) = (0) then (some ((0 : Int32), q55.2)) else (some ((1 : Int32), q55.2))))))))))))))))))))))) else (ck (isO (q4.2) (l0) 12) ((f_X11_bracketed (l0) (q4.2)).bind (fun q58 => if (q58.1) = (0) then (some ((0 : Int32), q58.2)) else (ck (isO (q58.2) (l0) 12) ((f_X11_ends (l0) ((10 : Int32)) (q58.2)).bind (fun q61 => if (q61.1) = (0) then (some ((0 : Int32), q61.2)) else (some ((1 : Int32), q61.2))))))))))) else (ck (isO (q1.2) (l0) 12) ((f_X11_set (l0) (q1.2)).bind (fun q64 => ck (isB (q64.1)) (some (q64.1, q64.2)))))))
theorem f_X11_step_ok {G : Gd} {d : Nat} (hj : 6 ≤ d) : ∀ (l0 : Nat) (L : List (Nat × Value)) (h : Hp) (o : (Int32 × Hp)), zlk L 0 = some (zrf (l0)) → f_X11_step l0 h = some o → Ev G M_X11_step d 0 L [] h (Ret Y_X11_step (some (.int o.1)) o.2) := by
  intro l0 L h o g0 e
  unfold f_X11_step at e
  refine g_ald_n d_X11_step_0 rfl g0 ?_
  replace e := ckd e
  obtain ⟨k2, e⟩ := e
  replace e := bd e
  obtain ⟨q1, eq1, e⟩ := e
  refine g_callV d_X11_step_1 vk_12_198 (as := []) rfl k2 rfl (by simp [zrf_cat, cat_int, cat_long]) (j := 2) (by omega) (c_X11_isLetter (by omega) eq1) ?_
  refine r_if_eq d_X11_step_4 (tgt := 12) (by decide) (fun c3 => ?_) (fun c3 => ?_)
  · replace e := (if_pos c3).symm.trans e
    refine g_ald_n d_X11_step_12 rfl g0 ?_
    refine r_bipush d_X11_step_13 (v := (84 : Int32)) (by decide +kernel) ?_
    replace e := ckd e
    obtain ⟨k5, e⟩ := e
    replace e := bd e
    obtain ⟨q4, eq4, e⟩ := e
    refine g_callV d_X11_step_15 vk_12_202 (as := [_]) rfl k5 rfl (by simp [zrf_cat, cat_int, cat_long]) (j := 2) (by omega) (c_X11_takes (by omega) eq4) ?_
    refine r_if_eq d_X11_step_18 (tgt := 43) (by decide) (fun c6 => ?_) (fun c6 => ?_)
    · replace e := (if_pos c6).symm.trans e
      refine g_ald_n d_X11_step_43 rfl g0 ?_
      refine r_bipush d_X11_step_44 (v := (83 : Int32)) (by decide +kernel) ?_
      replace e := ckd e
      obtain ⟨k8, e⟩ := e
      replace e := bd e
      obtain ⟨q7, eq7, e⟩ := e
      refine g_callV d_X11_step_46 vk_12_202 (as := [_]) rfl k8 rfl (by simp [zrf_cat, cat_int, cat_long]) (j := 2) (by omega) (c_X11_takes (by omega) eq7) ?_
      refine r_if_eq d_X11_step_49 (tgt := 110) (by decide) (fun c9 => ?_) (fun c9 => ?_)
      · replace e := (if_pos c9).symm.trans e
        refine g_ald_n d_X11_step_110 rfl g0 ?_
        refine r_bipush d_X11_step_111 (v := (73 : Int32)) (by decide +kernel) ?_
        replace e := ckd e
        obtain ⟨k11, e⟩ := e
        replace e := bd e
        obtain ⟨q10, eq10, e⟩ := e
        refine g_callV d_X11_step_113 vk_12_202 (as := [_]) rfl k11 rfl (by simp [zrf_cat, cat_int, cat_long]) (j := 2) (by omega) (c_X11_takes (by omega) eq10) ?_
        refine r_if_eq d_X11_step_116 (tgt := 150) (by decide) (fun c12 => ?_) (fun c12 => ?_)
        · replace e := (if_pos c12).symm.trans e
          refine g_ald_n d_X11_step_150 rfl g0 ?_
          refine r_bipush d_X11_step_151 (v := (71 : Int32)) (by decide +kernel) ?_
          replace e := ckd e
          obtain ⟨k14, e⟩ := e
          replace e := bd e
          obtain ⟨q13, eq13, e⟩ := e
          refine g_callV d_X11_step_153 vk_12_202 (as := [_]) rfl k14 rfl (by simp [zrf_cat, cat_int, cat_long]) (j := 2) (by omega) (c_X11_takes (by omega) eq13) ?_
          refine r_if_eq d_X11_step_156 (tgt := 183) (by decide) (fun c15 => ?_) (fun c15 => ?_)
          · replace e := (if_pos c15).symm.trans e
            refine g_ald_n d_X11_step_183 rfl g0 ?_
            refine r_bipush d_X11_step_184 (v := (69 : Int32)) (by decide +kernel) ?_
            replace e := ckd e
            obtain ⟨k17, e⟩ := e
            replace e := bd e
            obtain ⟨q16, eq16, e⟩ := e
            refine g_callV d_X11_step_186 vk_12_202 (as := [_]) rfl k17 rfl (by simp [zrf_cat, cat_int, cat_long]) (j := 2) (by omega) (c_X11_takes (by omega) eq16) ?_
            refine r_if_eq d_X11_step_189 (tgt := 212) (by decide) (fun c18 => ?_) (fun c18 => ?_)
            · replace e := (if_pos c18).symm.trans e
              refine r_iconst d_X11_step_212 (v := (0 : Int32)) (by decide +kernel) ?_
              cases e
              exact g_iret d_X11_step_213 rfl rfl
            · replace e := (if_neg c18).symm.trans e
              refine g_ald_n d_X11_step_192 rfl g0 ?_
              replace e := ckd e
              obtain ⟨k20, e⟩ := e
              replace e := bd e
              obtain ⟨q19, eq19, e⟩ := e
              refine g_callV d_X11_step_193 vk_12_218 (as := []) rfl k20 rfl (by simp [zrf_cat, cat_int, cat_long]) (j := 4) (by omega) (c_X11_bracketed (by omega) eq19) ?_
              refine r_if_eq d_X11_step_196 (tgt := 212) (by decide) (fun c21 => ?_) (fun c21 => ?_)
              · replace e := (if_pos c21).symm.trans e
                refine r_iconst d_X11_step_212 (v := (0 : Int32)) (by decide +kernel) ?_
                cases e
                exact g_iret d_X11_step_213 rfl rfl
              · replace e := (if_neg c21).symm.trans e
                refine g_ald_n d_X11_step_199 rfl g0 ?_
                refine r_bipush d_X11_step_200 (v := (14 : Int32)) (by decide +kernel) ?_
                replace e := ckd e
                obtain ⟨k23, e⟩ := e
                replace e := bd e
                obtain ⟨q22, eq22, e⟩ := e
                refine g_callV d_X11_step_202 vk_12_221 (as := [_]) rfl k23 rfl (by simp [zrf_cat, cat_int, cat_long]) (j := 3) (by omega) (c_X11_ends (by omega) eq22) ?_
                refine r_if_eq d_X11_step_205 (tgt := 212) (by decide) (fun c24 => ?_) (fun c24 => ?_)
                · replace e := (if_pos c24).symm.trans e
                  refine r_iconst d_X11_step_212 (v := (0 : Int32)) (by decide +kernel) ?_
                  cases e
                  exact g_iret d_X11_step_213 rfl rfl
                · replace e := (if_neg c24).symm.trans e
                  refine r_iconst d_X11_step_208 (v := (1 : Int32)) (by decide +kernel) ?_
                  refine r_goto d_X11_step_209 (tgt := 213) (by decide) ?_
                  cases e
                  exact g_iret d_X11_step_213 rfl rfl
          · replace e := (if_neg c15).symm.trans e
            refine g_ald_n d_X11_step_159 rfl g0 ?_
            refine r_bipush d_X11_step_160 (v := (10 : Int32)) (by decide +kernel) ?_
            replace e := ckd e
            obtain ⟨k26, e⟩ := e
            replace e := bd e
            obtain ⟨q25, eq25, e⟩ := e
            refine g_callV d_X11_step_162 vk_12_215 (as := [_]) rfl k26 rfl (by simp [zrf_cat, cat_int, cat_long]) (j := 3) (by omega) (c_X11_number (by omega) eq25) ?_
            refine r_if_eq d_X11_step_165 (tgt := 181) (by decide) (fun c27 => ?_) (fun c27 => ?_)
            · replace e := (if_pos c27).symm.trans e
              refine r_iconst d_X11_step_181 (v := (0 : Int32)) (by decide +kernel) ?_
              cases e
              exact g_iret d_X11_step_182 rfl rfl
            · replace e := (if_neg c27).symm.trans e
              refine g_ald_n d_X11_step_168 rfl g0 ?_
              refine r_bipush d_X11_step_169 (v := (13 : Int32)) (by decide +kernel) ?_
              replace e := ckd e
              obtain ⟨k29, e⟩ := e
              replace e := bd e
              obtain ⟨q28, eq28, e⟩ := e
              refine g_callV d_X11_step_171 vk_12_221 (as := [_]) rfl k29 rfl (by simp [zrf_cat, cat_int, cat_long]) (j := 3) (by omega) (c_X11_ends (by omega) eq28) ?_
              refine r_if_eq d_X11_step_174 (tgt := 181) (by decide) (fun c30 => ?_) (fun c30 => ?_)
              · replace e := (if_pos c30).symm.trans e
                refine r_iconst d_X11_step_181 (v := (0 : Int32)) (by decide +kernel) ?_
                cases e
                exact g_iret d_X11_step_182 rfl rfl
              · replace e := (if_neg c30).symm.trans e
                refine r_iconst d_X11_step_177 (v := (1 : Int32)) (by decide +kernel) ?_
                refine r_goto d_X11_step_178 (tgt := 182) (by decide) ?_
                cases e
                exact g_iret d_X11_step_182 rfl rfl
        · replace e := (if_neg c12).symm.trans e
          refine g_ald_n d_X11_step_119 rfl g0 ?_
          replace e := ckd e
          obtain ⟨k32, e⟩ := e
          replace e := bd e
          obtain ⟨q31, eq31, e⟩ := e
          refine g_callV d_X11_step_120 vk_12_218 (as := []) rfl k32 rfl (by simp [zrf_cat, cat_int, cat_long]) (j := 4) (by omega) (c_X11_bracketed (by omega) eq31) ?_
          refine r_if_eq d_X11_step_123 (tgt := 148) (by decide) (fun c33 => ?_) (fun c33 => ?_)
          · replace e := (if_pos c33).symm.trans e
            refine r_iconst d_X11_step_148 (v := (0 : Int32)) (by decide +kernel) ?_
            cases e
            exact g_iret d_X11_step_149 rfl rfl
          · replace e := (if_neg c33).symm.trans e
            refine g_ald_n d_X11_step_126 rfl g0 ?_
            refine r_bipush d_X11_step_127 (v := (10 : Int32)) (by decide +kernel) ?_
            replace e := ckd e
            obtain ⟨k35, e⟩ := e
            replace e := bd e
            obtain ⟨q34, eq34, e⟩ := e
            refine g_callV d_X11_step_129 vk_12_215 (as := [_]) rfl k35 rfl (by simp [zrf_cat, cat_int, cat_long]) (j := 3) (by omega) (c_X11_number (by omega) eq34) ?_
            refine r_if_eq d_X11_step_132 (tgt := 148) (by decide) (fun c36 => ?_) (fun c36 => ?_)
            · replace e := (if_pos c36).symm.trans e
              refine r_iconst d_X11_step_148 (v := (0 : Int32)) (by decide +kernel) ?_
              cases e
              exact g_iret d_X11_step_149 rfl rfl
            · replace e := (if_neg c36).symm.trans e
              refine g_ald_n d_X11_step_135 rfl g0 ?_
              refine r_bipush d_X11_step_136 (v := (12 : Int32)) (by decide +kernel) ?_
              replace e := ckd e
              obtain ⟨k38, e⟩ := e
              replace e := bd e
              obtain ⟨q37, eq37, e⟩ := e
              refine g_callV d_X11_step_138 vk_12_221 (as := [_]) rfl k38 rfl (by simp [zrf_cat, cat_int, cat_long]) (j := 3) (by omega) (c_X11_ends (by omega) eq37) ?_
              refine r_if_eq d_X11_step_141 (tgt := 148) (by decide) (fun c39 => ?_) (fun c39 => ?_)
              · replace e := (if_pos c39).symm.trans e
                refine r_iconst d_X11_step_148 (v := (0 : Int32)) (by decide +kernel) ?_
                cases e
                exact g_iret d_X11_step_149 rfl rfl
              · replace e := (if_neg c39).symm.trans e
                refine r_iconst d_X11_step_144 (v := (1 : Int32)) (by decide +kernel) ?_
                refine r_goto d_X11_step_145 (tgt := 149) (by decide) ?_
                cases e
                exact g_iret d_X11_step_149 rfl rfl
      · replace e := (if_neg c9).symm.trans e
        refine g_ald_n d_X11_step_52 rfl g0 ?_
        refine r_bipush d_X11_step_53 (v := (40 : Int32)) (by decide +kernel) ?_
        replace e := ckd e
        obtain ⟨k41, e⟩ := e
        replace e := bd e
        obtain ⟨q40, eq40, e⟩ := e
        refine g_callV d_X11_step_55 vk_12_202 (as := [_]) rfl k41 rfl (by simp [zrf_cat, cat_int, cat_long]) (j := 2) (by omega) (c_X11_takes (by omega) eq40) ?_
        refine r_if_eq d_X11_step_58 (tgt := 108) (by decide) (fun c42 => ?_) (fun c42 => ?_)
        · replace e := (if_pos c42).symm.trans e
          refine r_iconst d_X11_step_108 (v := (0 : Int32)) (by decide +kernel) ?_
          cases e
          exact g_iret d_X11_step_109 rfl rfl
        · replace e := (if_neg c42).symm.trans e
          refine g_ald_n d_X11_step_61 rfl g0 ?_
          refine r_iconst d_X11_step_62 (v := (0 : Int32)) (by decide +kernel) ?_
          replace e := ckd e
          obtain ⟨k44, e⟩ := e
          replace e := bd e
          obtain ⟨q43, eq43, e⟩ := e
          refine g_callV d_X11_step_63 vk_12_212 (as := [_]) rfl k44 rfl (by simp [zrf_cat, cat_int, cat_long]) (j := 3) (by omega) (c_X11_value (by omega) eq43) ?_
          refine r_if_eq d_X11_step_66 (tgt := 108) (by decide) (fun c45 => ?_) (fun c45 => ?_)
          · replace e := (if_pos c45).symm.trans e
            refine r_iconst d_X11_step_108 (v := (0 : Int32)) (by decide +kernel) ?_
            cases e
            exact g_iret d_X11_step_109 rfl rfl
          · replace e := (if_neg c45).symm.trans e
            refine g_ald_n d_X11_step_69 rfl g0 ?_
            refine r_bipush d_X11_step_70 (v := (44 : Int32)) (by decide +kernel) ?_
            replace e := ckd e
            obtain ⟨k47, e⟩ := e
            replace e := bd e
            obtain ⟨q46, eq46, e⟩ := e
            refine g_callV d_X11_step_72 vk_12_202 (as := [_]) rfl k47 rfl (by simp [zrf_cat, cat_int, cat_long]) (j := 2) (by omega) (c_X11_takes (by omega) eq46) ?_
            refine r_if_eq d_X11_step_75 (tgt := 108) (by decide) (fun c48 => ?_) (fun c48 => ?_)
            · replace e := (if_pos c48).symm.trans e
              refine r_iconst d_X11_step_108 (v := (0 : Int32)) (by decide +kernel) ?_
              cases e
              exact g_iret d_X11_step_109 rfl rfl
            · replace e := (if_neg c48).symm.trans e
              refine g_ald_n d_X11_step_78 rfl g0 ?_
              refine r_iconst d_X11_step_79 (v := (1 : Int32)) (by decide +kernel) ?_
              replace e := ckd e
              obtain ⟨k50, e⟩ := e
              replace e := bd e
              obtain ⟨q49, eq49, e⟩ := e
              refine g_callV d_X11_step_80 vk_12_212 (as := [_]) rfl k50 rfl (by simp [zrf_cat, cat_int, cat_long]) (j := 3) (by omega) (c_X11_value (by omega) eq49) ?_
              refine r_if_eq d_X11_step_83 (tgt := 108) (by decide) (fun c51 => ?_) (fun c51 => ?_)
              · replace e := (if_pos c51).symm.trans e
                refine r_iconst d_X11_step_108 (v := (0 : Int32)) (by decide +kernel) ?_
                cases e
                exact g_iret d_X11_step_109 rfl rfl
              · replace e := (if_neg c51).symm.trans e
                refine g_ald_n d_X11_step_86 rfl g0 ?_
                refine r_bipush d_X11_step_87 (v := (41 : Int32)) (by decide +kernel) ?_
                replace e := ckd e
                obtain ⟨k53, e⟩ := e
                replace e := bd e
                obtain ⟨q52, eq52, e⟩ := e
                refine g_callV d_X11_step_89 vk_12_202 (as := [_]) rfl k53 rfl (by simp [zrf_cat, cat_int, cat_long]) (j := 2) (by omega) (c_X11_takes (by omega) eq52) ?_
                refine r_if_eq d_X11_step_92 (tgt := 108) (by decide) (fun c54 => ?_) (fun c54 => ?_)
                · replace e := (if_pos c54).symm.trans e
                  refine r_iconst d_X11_step_108 (v := (0 : Int32)) (by decide +kernel) ?_
                  cases e
                  exact g_iret d_X11_step_109 rfl rfl
                · replace e := (if_neg c54).symm.trans e
                  refine g_ald_n d_X11_step_95 rfl g0 ?_
                  refine r_bipush d_X11_step_96 (v := (11 : Int32)) (by decide +kernel) ?_
                  replace e := ckd e
                  obtain ⟨k56, e⟩ := e
                  replace e := bd e
                  obtain ⟨q55, eq55, e⟩ := e
                  refine g_callV d_X11_step_98 vk_12_221 (as := [_]) rfl k56 rfl (by simp [zrf_cat, cat_int, cat_long]) (j := 3) (by omega) (c_X11_ends (by omega) eq55) ?_
                  refine r_if_eq d_X11_step_101 (tgt := 108) (by decide) (fun c57 => ?_) (fun c57 => ?_)
                  · replace e := (if_pos c57).symm.trans e
                    refine r_iconst d_X11_step_108 (v := (0 : Int32)) (by decide +kernel) ?_
                    cases e
                    exact g_iret d_X11_step_109 rfl rfl
                  · replace e := (if_neg c57).symm.trans e
                    refine r_iconst d_X11_step_104 (v := (1 : Int32)) (by decide +kernel) ?_
                    refine r_goto d_X11_step_105 (tgt := 109) (by decide) ?_
                    cases e
                    exact g_iret d_X11_step_109 rfl rfl
    · replace e := (if_neg c6).symm.trans e
      refine g_ald_n d_X11_step_21 rfl g0 ?_
      replace e := ckd e
      obtain ⟨k59, e⟩ := e
      replace e := bd e
      obtain ⟨q58, eq58, e⟩ := e
      refine g_callV d_X11_step_22 vk_12_218 (as := []) rfl k59 rfl (by simp [zrf_cat, cat_int, cat_long]) (j := 4) (by omega) (c_X11_bracketed (by omega) eq58) ?_
      refine r_if_eq d_X11_step_25 (tgt := 41) (by decide) (fun c60 => ?_) (fun c60 => ?_)
      · replace e := (if_pos c60).symm.trans e
        refine r_iconst d_X11_step_41 (v := (0 : Int32)) (by decide +kernel) ?_
        cases e
        exact g_iret d_X11_step_42 rfl rfl
      · replace e := (if_neg c60).symm.trans e
        refine g_ald_n d_X11_step_28 rfl g0 ?_
        refine r_bipush d_X11_step_29 (v := (10 : Int32)) (by decide +kernel) ?_
        replace e := ckd e
        obtain ⟨k62, e⟩ := e
        replace e := bd e
        obtain ⟨q61, eq61, e⟩ := e
        refine g_callV d_X11_step_31 vk_12_221 (as := [_]) rfl k62 rfl (by simp [zrf_cat, cat_int, cat_long]) (j := 3) (by omega) (c_X11_ends (by omega) eq61) ?_
        refine r_if_eq d_X11_step_34 (tgt := 41) (by decide) (fun c63 => ?_) (fun c63 => ?_)
        · replace e := (if_pos c63).symm.trans e
          refine r_iconst d_X11_step_41 (v := (0 : Int32)) (by decide +kernel) ?_
          cases e
          exact g_iret d_X11_step_42 rfl rfl
        · replace e := (if_neg c63).symm.trans e
          refine r_iconst d_X11_step_37 (v := (1 : Int32)) (by decide +kernel) ?_
          refine r_goto d_X11_step_38 (tgt := 42) (by decide) ?_
          cases e
          exact g_iret d_X11_step_42 rfl rfl
  · replace e := (if_neg c3).symm.trans e
    refine g_ald_n d_X11_step_7 rfl g0 ?_
    replace e := ckd e
    obtain ⟨k65, e⟩ := e
    replace e := bd e
    obtain ⟨q64, eq64, e⟩ := e
    refine g_callV d_X11_step_8 vk_12_224 (as := []) rfl k65 rfl (by simp [zrf_cat, cat_int, cat_long]) (j := 5) (by omega) (c_X11_set (by omega) eq64) ?_
    replace e := ckd e
    obtain ⟨k66, e⟩ := e
    cases e
    exact g_iret d_X11_step_11 rfl k66

theorem c_X11_step {G : Gd} {j : Nat} (hj : 6 ≤ j) {l0 : Nat} {h : Hp} {o : (Int32 × Hp)} (e : f_X11_step l0 h = some o) : Cal G j Y_X11_step [zrf (l0)] h (some (.int o.1)) o.2 := Cal.of (n := 0) (I := false) (by decide +kernel) (by decide) (by simp [lg_sl, zrf_cat, cat_int, cat_long]) (f_X11_step_ok hj _ _ h o (by simp [lv_args, zlk, zrf_cat, cat_int, cat_long]) e)
theorem vk_12_227 : Vk "TaskWeaveModel" 227 0 12 Y_X11_step := ⟨yk_X11_step, by decide +kernel, by decide +kernel, by decide +kernel, by decide⟩
def f_X11_read_119 (K26 : Nat → Int32 → Hp → Option (Int32 × Hp)) (l0 : Nat) (l1 : Int32) (h : Hp) : Option (Int32 × Hp) := ck (isO (h) (l0) 12) ((f_X11_step (l0) (h)).bind (fun q32 => if (q32.1) = (0) then (ck (isO (q32.2) (l0) 12) (some (zI (q32.2) 1223 (l0), q32.2))) else (ck (isO (q32.2) (l0) 12) (bh (pI (q32.2) 1213 (l0) ((zI (q32.2) 1213 (l0)) + ((1 : Int32)))) (fun h36 => K26 (l0) (l1) (h36))))))
theorem f_X11_read_119_ok {G : Gd} {d : Nat} (K26 : Nat → Int32 → Hp → Option (Int32 × Hp)) (hj : 7 ≤ d) (hK26 : ∀ (l0 : Nat) (l1 : Int32) (L : List (Nat × Value)) (h : Hp) (o : (Int32 × Hp)), zlk L 0 = some (zrf (l0)) → zlk L 1 = some (.int (l1)) → K26 l0 l1 h = some o → Ev G M_X11_read d 26 L [] h (Ret Y_X11_read (some (.int o.1)) o.2)) : ∀ (l0 : Nat) (l1 : Int32) (L : List (Nat × Value)) (h : Hp) (o : (Int32 × Hp)), zlk L 0 = some (zrf (l0)) → zlk L 1 = some (.int (l1)) → f_X11_read_119 K26 l0 l1 h = some o → Ev G M_X11_read d 119 L [] h (Ret Y_X11_read (some (.int o.1)) o.2) := by
  intro l0 l1 L h o g0 g1 e
  unfold f_X11_read_119 at e
  refine g_ald_n d_X11_read_119 rfl g0 ?_
  replace e := ckd e
  obtain ⟨k33, e⟩ := e
  replace e := bd e
  obtain ⟨q32, eq32, e⟩ := e
  refine g_callV d_X11_read_120 vk_12_227 (as := []) rfl k33 rfl (by simp [zrf_cat, cat_int, cat_long]) (j := 6) (by omega) (c_X11_step (by omega) eq32) ?_
  refine r_if_ne d_X11_read_123 (tgt := 131) (by decide) (fun c34 => ?_) (fun c34 => ?_)
  · replace e := (if_neg c34).symm.trans e
    refine g_ald_n d_X11_read_131 rfl g0 ?_
    refine r_dup d_X11_read_132 (zrf_cat _) ?_
    replace e := ckd e
    obtain ⟨k35, e⟩ := e
    refine g_getI d_X11_read_133 (f := 1213) k35 fk_12_209 rfl rfl ?_
    refine r_iconst d_X11_read_136 (v := (1 : Int32)) (by decide +kernel) ?_
    refine r_iadd d_X11_read_137 ?_
    refine g_putI d_X11_read_138 (f := 1213) k35 fk_12_209 rfl (Or.inl rfl) ⟨rfl, rfl⟩ ?_
    replace e := bhd e
    obtain ⟨_, rfl, e⟩ := e
    refine r_goto d_X11_read_141 (tgt := 26) (by decide) ?_
    exact hK26 _ _ _ _ _ g0 g1 e
  · replace e := (if_pos c34).symm.trans e
    refine g_ald_n d_X11_read_126 rfl g0 ?_
    replace e := ckd e
    obtain ⟨k37, e⟩ := e
    refine g_getI d_X11_read_127 (f := 1223) k37 fk_12_191 rfl rfl ?_
    cases e
    exact g_iret d_X11_read_130 rfl rfl

def f_X11_read_218 (K146 : Nat → Int32 → Hp → Option (Int32 × Hp)) (l0 : Nat) (l2 : Int32) (h : Hp) : Option (Int32 × Hp) := bh ((l2) + (1 : Int32)) (fun x47 => K146 (l0) (x47) (h))
theorem f_X11_read_218_ok {G : Gd} {d : Nat} (K146 : Nat → Int32 → Hp → Option (Int32 × Hp)) (hj : 7 ≤ d) (hK146 : ∀ (l0 : Nat) (l2 : Int32) (L : List (Nat × Value)) (h : Hp) (o : (Int32 × Hp)), zlk L 0 = some (zrf (l0)) → zlk L 2 = some (.int (l2)) → K146 l0 l2 h = some o → Ev G M_X11_read d 146 L [] h (Ret Y_X11_read (some (.int o.1)) o.2)) : ∀ (l0 : Nat) (l2 : Int32) (L : List (Nat × Value)) (h : Hp) (o : (Int32 × Hp)), zlk L 0 = some (zrf (l0)) → zlk L 2 = some (.int (l2)) → f_X11_read_218 K146 l0 l2 h = some o → Ev G M_X11_read d 218 L [] h (Ret Y_X11_read (some (.int o.1)) o.2) := by
  intro l0 l2 L h o g0 g2 e
  unfold f_X11_read_218 at e
  replace e := bhd e
  obtain ⟨_, rfl, e⟩ := e
  refine s_iinc d_X11_read_218 g2 (w := (1 : Int32)) (by decide +kernel) (by decide) (fun L g2 gK => ?_)
  replace g0 := gK _ _ (by decide) (Or.inr (zrf_cat _)) g0
  refine r_goto d_X11_read_221 (tgt := 146) (by decide) ?_
  exact hK146 _ _ _ _ _ g0 g2 e

def f_X11_read_179 (K146 : Nat → Int32 → Hp → Option (Int32 × Hp)) (l0 : Nat) (l2 : Int32) (h : Hp) : Option (Int32 × Hp) := ck (isO (h) (l0) 12) (ck (isO (h) (zR (h) 1220 (l0)) 22) (ck (inR (l2) (zL (h) (zR (h) 1220 (l0)))) (ck (isO (h) (zR (h) 1222 (l0)) 22) (ck (inR (zE (h) (zR (h) 1220 (l0)) (l2).toNatClampNeg) (zL (h) (zR (h) 1222 (l0)))) (if (zE (h) (zR (h) 1222 (l0)) (zE (h) (zR (h) 1220 (l0)) (l2).toNatClampNeg).toNatClampNeg) = ((-1 : Int32)) then (ck (isO (h) (zR (h) 1221 (l0)) 22) (ck (inR (l2) (zL (h) (zR (h) 1221 (l0)))) (some (zE (h) (zR (h) 1221 (l0)) (l2).toNatClampNeg, h)))) else (bh (pE (h) (zR (h) 1220 (l0)) (l2).toNatClampNeg (zE (h) (zR (h) 1222 (l0)) (zE (h) (zR (h) 1220 (l0)) (l2).toNatClampNeg).toNatClampNeg)) (fun h44 => f_X11_read_218 K146 (l0) (l2) (h44))))))))
theorem f_X11_read_179_ok {G : Gd} {d : Nat} (K146 : Nat → Int32 → Hp → Option (Int32 × Hp)) (hj : 7 ≤ d) (hK146 : ∀ (l0 : Nat) (l2 : Int32) (L : List (Nat × Value)) (h : Hp) (o : (Int32 × Hp)), zlk L 0 = some (zrf (l0)) → zlk L 2 = some (.int (l2)) → K146 l0 l2 h = some o → Ev G M_X11_read d 146 L [] h (Ret Y_X11_read (some (.int o.1)) o.2)) : ∀ (l0 : Nat) (l2 : Int32) (L : List (Nat × Value)) (h : Hp) (o : (Int32 × Hp)), zlk L 0 = some (zrf (l0)) → zlk L 2 = some (.int (l2)) → f_X11_read_179 K146 l0 l2 h = some o → Ev G M_X11_read d 179 L [] h (Ret Y_X11_read (some (.int o.1)) o.2) := by
  intro l0 l2 L h o g0 g2 e
  unfold f_X11_read_179 at e
  refine g_ald_n d_X11_read_179 rfl g0 ?_
  replace e := ckd e
  obtain ⟨k38, e⟩ := e
  refine g_getR d_X11_read_180 (f := 1222) k38 fk_12_60 rfl rfl ?_
  refine g_ald_n d_X11_read_183 rfl g0 ?_
  refine g_getR d_X11_read_184 (f := 1220) k38 fk_12_54 rfl rfl ?_
  refine r_iload_n d_X11_read_187 rfl g2 ?_
  replace e := ckd e
  obtain ⟨k39, e⟩ := e
  replace e := ckd e
  obtain ⟨k40, e⟩ := e
  refine g_iald d_X11_read_188 k39 k40 rfl ?_
  replace e := ckd e
  obtain ⟨k41, e⟩ := e
  replace e := ckd e
  obtain ⟨k42, e⟩ := e
  refine g_iald d_X11_read_189 k41 k42 rfl ?_
  refine r_iconst d_X11_read_190 (v := (-1 : Int32)) (by decide +kernel) ?_
  refine r_icmp_ne d_X11_read_191 (tgt := 201) (by decide) (fun c43 => ?_) (fun c43 => ?_)
  · replace e := (if_neg c43).symm.trans e
    refine g_ald_n d_X11_read_201 rfl g0 ?_
    refine g_getR d_X11_read_202 (f := 1220) k38 fk_12_54 rfl rfl ?_
    refine r_iload_n d_X11_read_205 rfl g2 ?_
    refine g_ald_n d_X11_read_206 rfl g0 ?_
    refine g_getR d_X11_read_207 (f := 1222) k38 fk_12_60 rfl rfl ?_
    refine g_ald_n d_X11_read_210 rfl g0 ?_
    refine g_getR d_X11_read_211 (f := 1220) k38 fk_12_54 rfl rfl ?_
    refine r_iload_n d_X11_read_214 rfl g2 ?_
    refine g_iald d_X11_read_215 k39 k40 rfl ?_
    refine g_iald d_X11_read_216 k41 k42 rfl ?_
    refine g_iast d_X11_read_217 k39 k40 ?_
    replace e := bhd e
    obtain ⟨_, rfl, e⟩ := e
    exact f_X11_read_218_ok _ hj hK146 _ _ _ _ _ g0 g2 e
  · replace e := (if_pos c43).symm.trans e
    refine g_ald_n d_X11_read_194 rfl g0 ?_
    refine g_getR d_X11_read_195 (f := 1221) k38 fk_12_57 rfl rfl ?_
    refine r_iload_n d_X11_read_198 rfl g2 ?_
    replace e := ckd e
    obtain ⟨k45, e⟩ := e
    replace e := ckd e
    obtain ⟨k46, e⟩ := e
    refine g_iald d_X11_read_199 k45 k46 rfl ?_
    cases e
    exact g_iret d_X11_read_200 rfl rfl

def f_X11_read_146 : Nat → Nat → Int32 → Hp → Option (Int32 × Hp)
  | 0, _, _, _ => none
  | n + 1, l0, l2, h => ck (isO (h) (l0) 12) (if (zI (h) 1213 (l0)) ≤ (l2) then (some ((-1 : Int32), h)) else (ck (isO (h) (zR (h) 1214 (l0)) 22) (ck (inR (l2) (zL (h) (zR (h) 1214 (l0)))) (if (zE (h) (zR (h) 1214 (l0)) (l2).toNatClampNeg) = ((12 : Int32)) then (f_X11_read_179 (f_X11_read_146 n ) (l0) (l2) (h)) else (if (zE (h) (zR (h) 1214 (l0)) (l2).toNatClampNeg) = ((13 : Int32)) then (f_X11_read_179 (f_X11_read_146 n ) (l0) (l2) (h)) else (f_X11_read_218 (f_X11_read_146 n ) (l0) (l2) (h)))))))
theorem f_X11_read_146_ok {G : Gd} {d : Nat} (hj : 7 ≤ d) : ∀ (n : Nat) (l0 : Nat) (l2 : Int32) (L : List (Nat × Value)) (h : Hp) (o : (Int32 × Hp)), zlk L 0 = some (zrf (l0)) → zlk L 2 = some (.int (l2)) → f_X11_read_146 n l0 l2 h = some o → Ev G M_X11_read d 146 L [] h (Ret Y_X11_read (some (.int o.1)) o.2) := by
  intro n
  induction n with
  | zero =>
    intro l0 l2 L h o g0 g2 e
    cases e
  | succ n ih =>
    intro l0 l2 L h o g0 g2 e
    unfold f_X11_read_146 at e
    refine r_iload_n d_X11_read_146 rfl g2 ?_
    refine g_ald_n d_X11_read_147 rfl g0 ?_
    replace e := ckd e
    obtain ⟨k26, e⟩ := e
    refine g_getI d_X11_read_148 (f := 1213) k26 fk_12_209 rfl rfl ?_
    refine r_icmp_ge d_X11_read_151 (tgt := 224) (by decide) (fun c27 => ?_) (fun c27 => ?_)
    · replace e := (if_pos c27).symm.trans e
      refine r_iconst d_X11_read_224 (v := (-1 : Int32)) (by decide +kernel) ?_
      cases e
      exact g_iret d_X11_read_225 rfl rfl
    · replace e := (if_neg c27).symm.trans e
      refine g_ald_n d_X11_read_154 rfl g0 ?_
      refine g_getR d_X11_read_155 (f := 1214) k26 fk_12_35 rfl rfl ?_
      refine r_iload_n d_X11_read_158 rfl g2 ?_
      replace e := ckd e
      obtain ⟨k28, e⟩ := e
      replace e := ckd e
      obtain ⟨k29, e⟩ := e
      refine g_iald d_X11_read_159 k28 k29 rfl ?_
      refine r_bipush d_X11_read_160 (v := (12 : Int32)) (by decide +kernel) ?_
      refine r_icmp_eq d_X11_read_162 (tgt := 179) (by decide) (fun c30 => ?_) (fun c30 => ?_)
      · replace e := (if_pos c30).symm.trans e
        exact f_X11_read_179_ok _ hj ih _ _ _ _ _ g0 g2 e
      · replace e := (if_neg c30).symm.trans e
        refine g_ald_n d_X11_read_165 rfl g0 ?_
        refine g_getR d_X11_read_166 (f := 1214) k26 fk_12_35 rfl rfl ?_
        refine r_iload_n d_X11_read_169 rfl g2 ?_
        refine g_iald d_X11_read_170 k28 k29 rfl ?_
        refine r_bipush d_X11_read_171 (v := (13 : Int32)) (by decide +kernel) ?_
        refine r_icmp_eq d_X11_read_173 (tgt := 179) (by decide) (fun c31 => ?_) (fun c31 => ?_)
        · replace e := (if_pos c31).symm.trans e
          exact f_X11_read_179_ok _ hj ih _ _ _ _ _ g0 g2 e
        · replace e := (if_neg c31).symm.trans e
          refine r_goto d_X11_read_176 (tgt := 218) (by decide) ?_
          exact f_X11_read_218_ok _ hj ih _ _ _ _ _ g0 g2 e

def f_X11_read_26 : Nat → Nat → Int32 → Hp → Option (Int32 × Hp)
  | 0, _, _, _ => none
  | n + 1, l0, l1, h => ck (isO (h) (l0) 12) (if (zI (h) 1204 (l0)) ≤ (zI (h) 1223 (l0)) then (f_X11_read_146 fz (l0) (l1) (h)) else (if ((zI (h) 1213 (l0)) - (l1)) = ((60 : Int32)) then (some (zI (h) 1223 (l0), h)) else ((f_X11_isDigit (l0) (h)).bind (fun q12 => if (q12.1) = (0) then (f_X11_read_119 (f_X11_read_26 n ) (l0) (l1) (q12.2)) else (ck (isO (q12.2) (l0) 12) ((f_X11_see (l0) (q12.2)).bind (fun q14 => bh ((q14.1) - ((48 : Int32))) (fun x16 => ck (isO (q14.2) (l0) 12) (ck (isO (q14.2) (zR (q14.2) 1222 (l0)) 22) (ck (inR (x16) (zL (q14.2) (zR (q14.2) 1222 (l0)))) (if (zE (q14.2) (zR (q14.2) 1222 (l0)) (x16).toNatClampNeg) = ((-1 : Int32)) then (bh (pE (q14.2) (zR (q14.2) 1222 (l0)) (x16).toNatClampNeg ((zI (q14.2) 1213 (l0)) - (l1))) (fun h21 => bh (pI (h21) 1223 (l0) ((zI (h21) 1223 (l0)) + ((1 : Int32)))) (fun h22 => (f_X11_takes (l0) ((58 : Int32)) (h22)).bind (fun q23 => if (q23.1) = (0) then (ck (isO (q23.2) (l0) 12) (some (zI (q23.2) 1223 (l0), q23.2))) else (f_X11_read_119 (f_X11_read_26 n ) (l0) (l1) (q23.2)))))) else (some (zI (q14.2) 1223 (l0), q14.2)))))))))))))
theorem f_X11_read_26_ok {G : Gd} {d : Nat} (hj : 7 ≤ d) : ∀ (n : Nat) (l0 : Nat) (l1 : Int32) (L : List (Nat × Value)) (h : Hp) (o : (Int32 × Hp)), zlk L 0 = some (zrf (l0)) → zlk L 1 = some (.int (l1)) → f_X11_read_26 n l0 l1 h = some o → Ev G M_X11_read d 26 L [] h (Ret Y_X11_read (some (.int o.1)) o.2) := by
  intro n
  induction n with
  | zero =>
    intro l0 l1 L h o g0 g1 e
    cases e
  | succ n ih =>
    intro l0 l1 L h o g0 g1 e
    unfold f_X11_read_26 at e
    refine g_ald_n d_X11_read_26 rfl g0 ?_
    replace e := ckd e
    obtain ⟨k9, e⟩ := e
    refine g_getI d_X11_read_27 (f := 1223) k9 fk_12_191 rfl rfl ?_
    refine g_ald_n d_X11_read_30 rfl g0 ?_
    refine g_getI d_X11_read_31 (f := 1204) k9 fk_12_186 rfl rfl ?_
    refine r_icmp_ge d_X11_read_34 (tgt := 144) (by decide) (fun c10 => ?_) (fun c10 => ?_)
    · replace e := (if_pos c10).symm.trans e
      refine r_iload_n d_X11_read_144 rfl g1 ?_
      refine s_istore_n d_X11_read_145 rfl (by decide) (fun L g2 gK => ?_)
      replace g0 := gK _ _ (by decide) (Or.inr (zrf_cat _)) g0
      exact f_X11_read_146_ok hj _ _ _ _ _ _ g0 g2 e
    · replace e := (if_neg c10).symm.trans e
      refine g_ald_n d_X11_read_37 rfl g0 ?_
      refine g_getI d_X11_read_38 (f := 1213) k9 fk_12_209 rfl rfl ?_
      refine r_iload_n d_X11_read_41 rfl g1 ?_
      refine r_isub d_X11_read_42 ?_
      refine r_bipush d_X11_read_43 (v := (60 : Int32)) (by decide +kernel) ?_
      refine r_icmp_ne d_X11_read_45 (tgt := 53) (by decide) (fun c11 => ?_) (fun c11 => ?_)
      · replace e := (if_neg c11).symm.trans e
        refine g_ald_n d_X11_read_53 rfl g0 ?_
        replace e := bd e
        obtain ⟨q12, eq12, e⟩ := e
        refine g_callV d_X11_read_54 vk_12_206 (as := []) rfl k9 rfl (by simp [zrf_cat, cat_int, cat_long]) (j := 2) (by omega) (c_X11_isDigit (by omega) eq12) ?_
        refine r_if_eq d_X11_read_57 (tgt := 119) (by decide) (fun c13 => ?_) (fun c13 => ?_)
        · replace e := (if_pos c13).symm.trans e
          exact f_X11_read_119_ok _ hj ih _ _ _ _ _ g0 g1 e
        · replace e := (if_neg c13).symm.trans e
          refine g_ald_n d_X11_read_60 rfl g0 ?_
          replace e := ckd e
          obtain ⟨k15, e⟩ := e
          replace e := bd e
          obtain ⟨q14, eq14, e⟩ := e
          refine g_callV d_X11_read_61 vk_12_194 (as := []) rfl k15 rfl (by simp [zrf_cat, cat_int, cat_long]) (j := 1) (by omega) (c_X11_see (by omega) eq14) ?_
          refine r_bipush d_X11_read_64 (v := (48 : Int32)) (by decide +kernel) ?_
          refine r_isub d_X11_read_66 ?_
          replace e := bhd e
          obtain ⟨_, rfl, e⟩ := e
          refine s_istore_n d_X11_read_67 rfl (by decide) (fun L g2 gK => ?_)
          replace g0 := gK _ _ (by decide) (Or.inr (zrf_cat _)) g0
          replace g1 := gK _ _ (by decide) (Or.inr rfl) g1
          refine g_ald_n d_X11_read_68 rfl g0 ?_
          replace e := ckd e
          obtain ⟨k17, e⟩ := e
          refine g_getR d_X11_read_69 (f := 1222) k17 fk_12_60 rfl rfl ?_
          refine r_iload_n d_X11_read_72 rfl g2 ?_
          replace e := ckd e
          obtain ⟨k18, e⟩ := e
          replace e := ckd e
          obtain ⟨k19, e⟩ := e
          refine g_iald d_X11_read_73 k18 k19 rfl ?_
          refine r_iconst d_X11_read_74 (v := (-1 : Int32)) (by decide +kernel) ?_
          refine r_icmp_eq d_X11_read_75 (tgt := 83) (by decide) (fun c20 => ?_) (fun c20 => ?_)
          · replace e := (if_pos c20).symm.trans e
            refine g_ald_n d_X11_read_83 rfl g0 ?_
            refine g_getR d_X11_read_84 (f := 1222) k17 fk_12_60 rfl rfl ?_
            refine r_iload_n d_X11_read_87 rfl g2 ?_
            refine g_ald_n d_X11_read_88 rfl g0 ?_
            refine g_getI d_X11_read_89 (f := 1213) k17 fk_12_209 rfl rfl ?_
            refine r_iload_n d_X11_read_92 rfl g1 ?_
            refine r_isub d_X11_read_93 ?_
            refine g_iast d_X11_read_94 k18 k19 ?_
            replace e := bhd e
            obtain ⟨_, rfl, e⟩ := e
            refine g_ald_n d_X11_read_95 rfl g0 ?_
            refine r_dup d_X11_read_96 (zrf_cat _) ?_
            refine g_getI d_X11_read_97 (f := 1223) (tO_pE k17) fk_12_191 rfl rfl ?_
            refine r_iconst d_X11_read_100 (v := (1 : Int32)) (by decide +kernel) ?_
            refine r_iadd d_X11_read_101 ?_
            refine g_putI d_X11_read_102 (f := 1223) (tO_pE k17) fk_12_191 rfl (Or.inl rfl) ⟨rfl, rfl⟩ ?_
            replace e := bhd e
            obtain ⟨_, rfl, e⟩ := e
            refine g_ald_n d_X11_read_105 rfl g0 ?_
            refine r_bipush d_X11_read_106 (v := (58 : Int32)) (by decide +kernel) ?_
            replace e := bd e
            obtain ⟨q23, eq23, e⟩ := e
            refine g_callV d_X11_read_108 vk_12_202 (as := [_]) rfl (tO_pI (tO_pE k17)) rfl (by simp [zrf_cat, cat_int, cat_long]) (j := 2) (by omega) (c_X11_takes (by omega) eq23) ?_
            refine r_if_ne d_X11_read_111 (tgt := 119) (by decide) (fun c24 => ?_) (fun c24 => ?_)
            · replace e := (if_neg c24).symm.trans e
              exact f_X11_read_119_ok _ hj ih _ _ _ _ _ g0 g1 e
            · replace e := (if_pos c24).symm.trans e
              refine g_ald_n d_X11_read_114 rfl g0 ?_
              replace e := ckd e
              obtain ⟨k25, e⟩ := e
              refine g_getI d_X11_read_115 (f := 1223) k25 fk_12_191 rfl rfl ?_
              cases e
              exact g_iret d_X11_read_118 rfl rfl
          · replace e := (if_neg c20).symm.trans e
            refine g_ald_n d_X11_read_78 rfl g0 ?_
            refine g_getI d_X11_read_79 (f := 1223) k17 fk_12_191 rfl rfl ?_
            cases e
            exact g_iret d_X11_read_82 rfl rfl
      · replace e := (if_pos c11).symm.trans e
        refine g_ald_n d_X11_read_48 rfl g0 ?_
        refine g_getI d_X11_read_49 (f := 1223) k9 fk_12_191 rfl rfl ?_
        cases e
        exact g_iret d_X11_read_52 rfl rfl

def f_X11_read_7 : Nat → Nat → Int32 → Int32 → Hp → Option (Int32 × Hp)
  | 0, _, _, _, _ => none
  | n + 1, l0, l1, l2, h => if ((10 : Int32)) ≤ (l2) then (f_X11_read_26 fz (l0) (l1) (h)) else (ck (isO (h) (l0) 12) (ck (isO (h) (zR (h) 1222 (l0)) 22) (ck (inR (l2) (zL (h) (zR (h) 1222 (l0)))) (bh (pE (h) (zR (h) 1222 (l0)) (l2).toNatClampNeg ((-1 : Int32))) (fun h7 => bh ((l2) + (1 : Int32)) (fun x8 => f_X11_read_7 n (l0) (l1) (x8) (h7)))))))
theorem f_X11_read_7_ok {G : Gd} {d : Nat} (hj : 7 ≤ d) : ∀ (n : Nat) (l0 : Nat) (l1 : Int32) (l2 : Int32) (L : List (Nat × Value)) (h : Hp) (o : (Int32 × Hp)), zlk L 0 = some (zrf (l0)) → zlk L 1 = some (.int (l1)) → zlk L 2 = some (.int (l2)) → f_X11_read_7 n l0 l1 l2 h = some o → Ev G M_X11_read d 7 L [] h (Ret Y_X11_read (some (.int o.1)) o.2) := by
  intro n
  induction n with
  | zero =>
    intro l0 l1 l2 L h o g0 g1 g2 e
    cases e
  | succ n ih =>
    intro l0 l1 l2 L h o g0 g1 g2 e
    unfold f_X11_read_7 at e
    refine r_iload_n d_X11_read_7 rfl g2 ?_
    refine r_bipush d_X11_read_8 (v := (10 : Int32)) (by decide +kernel) ?_
    refine r_icmp_ge d_X11_read_10 (tgt := 26) (by decide) (fun c3 => ?_) (fun c3 => ?_)
    · replace e := (if_pos c3).symm.trans e
      exact f_X11_read_26_ok hj _ _ _ _ _ _ g0 g1 e
    · replace e := (if_neg c3).symm.trans e
      refine g_ald_n d_X11_read_13 rfl g0 ?_
      replace e := ckd e
      obtain ⟨k4, e⟩ := e
      refine g_getR d_X11_read_14 (f := 1222) k4 fk_12_60 rfl rfl ?_
      refine r_iload_n d_X11_read_17 rfl g2 ?_
      refine r_iconst d_X11_read_18 (v := (-1 : Int32)) (by decide +kernel) ?_
      replace e := ckd e
      obtain ⟨k5, e⟩ := e
      replace e := ckd e
      obtain ⟨k6, e⟩ := e
      refine g_iast d_X11_read_19 k5 k6 ?_
      replace e := bhd e
      obtain ⟨_, rfl, e⟩ := e
      replace e := bhd e
      obtain ⟨_, rfl, e⟩ := e
      refine s_iinc d_X11_read_20 g2 (w := (1 : Int32)) (by decide +kernel) (by decide) (fun L g2 gK => ?_)
      replace g0 := gK _ _ (by decide) (Or.inr (zrf_cat _)) g0
      replace g1 := gK _ _ (by decide) (Or.inr rfl) g1
      refine r_goto d_X11_read_23 (tgt := 7) (by decide) ?_
      exact ih _ _ _ _ _ _ g0 g1 g2 e

def f_X11_read (l0 : Nat) (l1 : Int32) (h : Hp) : Option (Int32 × Hp) := ck (isO (h) (l0) 12) (bh (pI (h) 1223 (l0) ((0 : Int32))) (fun h2 => f_X11_read_7 fz (l0) (l1) ((0 : Int32)) (h2)))
theorem f_X11_read_ok {G : Gd} {d : Nat} (hj : 7 ≤ d) : ∀ (l0 : Nat) (l1 : Int32) (L : List (Nat × Value)) (h : Hp) (o : (Int32 × Hp)), zlk L 0 = some (zrf (l0)) → zlk L 1 = some (.int (l1)) → f_X11_read l0 l1 h = some o → Ev G M_X11_read d 0 L [] h (Ret Y_X11_read (some (.int o.1)) o.2) := by
  intro l0 l1 L h o g0 g1 e
  unfold f_X11_read at e
  refine g_ald_n d_X11_read_0 rfl g0 ?_
  refine r_iconst d_X11_read_1 (v := (0 : Int32)) (by decide +kernel) ?_
  replace e := ckd e
  obtain ⟨k1, e⟩ := e
  refine g_putI d_X11_read_2 (f := 1223) k1 fk_12_191 rfl (Or.inl rfl) ⟨rfl, rfl⟩ ?_
  replace e := bhd e
  obtain ⟨_, rfl, e⟩ := e
  refine r_iconst d_X11_read_5 (v := (0 : Int32)) (by decide +kernel) ?_
  refine s_istore_n d_X11_read_6 rfl (by decide) (fun L g2 gK => ?_)
  replace g0 := gK _ _ (by decide) (Or.inr (zrf_cat _)) g0
  replace g1 := gK _ _ (by decide) (Or.inr rfl) g1
  exact f_X11_read_7_ok hj _ _ _ _ _ _ _ g0 g1 g2 e

theorem c_X11_read {G : Gd} {j : Nat} (hj : 7 ≤ j) {l0 : Nat} {l1 : Int32} {h : Hp} {o : (Int32 × Hp)} (e : f_X11_read l0 l1 h = some o) : Cal G j Y_X11_read [zrf (l0), .int (l1)] h (some (.int o.1)) o.2 := Cal.of (n := 0) (I := false) (by decide +kernel) (by decide) (by simp [lg_sl, zrf_cat, cat_int, cat_long]) (f_X11_read_ok hj _ _ _ h o (by simp [lv_args, zlk, zrf_cat, cat_int, cat_long]) (by simp [lv_args, zlk, zrf_cat, cat_int, cat_long]) e)
theorem sk_12_230 : Sk "TaskWeaveModel" 230 2 Y_X11_in := ⟨yk_X11_in, by decide +kernel, by decide +kernel⟩
theorem vk_12_234 : Vk "TaskWeaveModel" 234 1 12 Y_X11_read := ⟨yk_X11_read, by decide +kernel, by decide +kernel, by decide +kernel, by decide⟩
theorem vk_12_238 : Vk "TaskWeaveModel" 238 1 12 Y_X11_raise := ⟨yk_X11_raise, by decide +kernel, by decide +kernel, by decide +kernel, by decide⟩
theorem fk_12_241 : Fk "TaskWeaveModel" 241 1206 := ⟨by decide, by decide, by decide +kernel⟩
def f_X11_program_26 (s0 : Nat) (s1 : Int32) (l0 : Nat) (l1 : Int32) (l2 : Int32) (l3 : Int32) (h : Hp) : Option (Int32 × Hp) := ck (isO (h) (s0) 12) (bh (pI (h) 1205 (s0) (s1)) (fun h8 => ck (isO (h8) (l0) 12) (bh (pI (h8) 1204 (l0) ((0 : Int32))) (fun h10 => if (l3) = (0) then (bh (pI (h10) 1213 (l0) (l2)) (fun h12 => if (l3) = (0) then ((f_X11_raise (l0) ((2 : Int32)) (h12)).bind (fun q14 => some (q14.1, q14.2))) else ((f_X11_raise (l0) ((1 : Int32)) (h12)).bind (fun q15 => some (q15.1, q15.2))))) else (if (zI (h10) 1205 (l0)) = ((-1 : Int32)) then (bh (pI (h10) 1200 (l0) ((0 : Int32))) (fun h17 => ck (isO (h17) (zR (h17) 1207 (l0)) 22) (ck (inR (zI (h17) 1206 (l0)) (zL (h17) (zR (h17) 1207 (l0)))) (bh (pE (h17) (zR (h17) 1207 (l0)) (zI (h17) 1206 (l0)).toNatClampNeg (l1)) (fun h20 => ck (isO (h20) (zR (h20) 1212 (l0)) 22) (ck (inR (l1) (zL (h20) (zR (h20) 1212 (l0)))) (ck (isO (h20) (zR (h20) 1208 (l0)) 22) (ck (inR (zI (h20) 1206 (l0)) (zL (h20) (zR (h20) 1208 (l0)))) (bh (pE (h20) (zR (h20) 1208 (l0)) (zI (h20) 1206 (l0)).toNatClampNeg (zE (h20) (zR (h20) 1212 (l0)) (l1).toNatClampNeg)) (fun h25 => ck (isO (h25) (zR (h25) 1209 (l0)) 22) (ck (inR (zI (h25) 1206 (l0)) (zL (h25) (zR (h25) 1209 (l0)))) (bh (pE (h25) (zR (h25) 1209 (l0)) (zI (h25) 1206 (l0)).toNatClampNeg (l2)) (fun h28 => ck (isO (h28) (zR (h28) 1210 (l0)) 22) (ck (inR (zI (h28) 1206 (l0)) (zL (h28) (zR (h28) 1210 (l0)))) (bh (pE (h28) (zR (h28) 1210 (l0)) (zI (h28) 1206 (l0)).toNatClampNeg ((zI (h28) 1213 (l0)) - (l2))) (fun h31 => ck (isO (h31) (zR (h31) 1211 (l0)) 22) (ck (inR (l1) (zL (h31) (zR (h31) 1211 (l0)))) (bh (pE (h31) (zR (h31) 1211 (l0)) (l1).toNatClampNeg (zI (h31) 1206 (l0))) (fun h34 => ck (isO (h34) (zR (h34) 1212 (l0)) 22) (ck (inR (l1) (zL (h34) (zR (h34) 1212 (l0)))) (bh (pE (h34) (zR (h34) 1212 (l0)) (l1).toNatClampNeg ((zE (h34) (zR (h34) 1212 (l0)) (l1).toNatClampNeg) + ((1 : Int32)))) (fun h37 => bh (pI (h37) 1206 (l0) ((zI (h37) 1206 (l0)) + ((1 : Int32)))) (fun h38 => some ((zI (h38) 1213 (l0)) - (l2), h38)))))))))))))))))))))))) else (bh (pI (h10) 1213 (l0) (l2)) (fun h39 => if (l3) = (0) then ((f_X11_raise (l0) ((2 : Int32)) (h39)).bind (fun q41 => some (q41.1, q41.2))) else ((f_X11_raise (l0) ((1 : Int32)) (h39)).bind (fun q42 => some (q42.1, q42.2))))))))))
theorem f_X11_program_26_ok {G : Gd} {d : Nat} (hj : 8 ≤ d) : ∀ (s0 : Nat) (s1 : Int32) (l0 : Nat) (l1 : Int32) (l2 : Int32) (l3 : Int32) (L : List (Nat × Value)) (h : Hp) (o : (Int32 × Hp)), zlk L 0 = some (zrf (l0)) → zlk L 1 = some (.int (l1)) → zlk L 2 = some (.int (l2)) → zlk L 3 = some (.int (l3)) → f_X11_program_26 s0 s1 l0 l1 l2 l3 h = some o → Ev G M_X11_program d 26 L [.int (s1), zrf (s0)] h (Ret Y_X11_program (some (.int o.1)) o.2) := by
  intro s0 s1 l0 l1 l2 l3 L h o g0 g1 g2 g3 e
  unfold f_X11_program_26 at e
  replace e := ckd e
  obtain ⟨k7, e⟩ := e
  refine g_putI d_X11_program_26 (f := 1205) k7 fk_12_13 rfl (Or.inl rfl) ⟨rfl, rfl⟩ ?_
  replace e := bhd e
  obtain ⟨_, rfl, e⟩ := e
  refine g_ald_n d_X11_program_29 rfl g0 ?_
  refine r_iconst d_X11_program_30 (v := (0 : Int32)) (by decide +kernel) ?_
  replace e := ckd e
  obtain ⟨k9, e⟩ := e
  refine g_putI d_X11_program_31 (f := 1204) k9 fk_12_186 rfl (Or.inl rfl) ⟨rfl, rfl⟩ ?_
  replace e := bhd e
  obtain ⟨_, rfl, e⟩ := e
  refine r_iload_n d_X11_program_34 rfl g3 ?_
  refine r_if_eq d_X11_program_35 (tgt := 46) (by decide) (fun c11 => ?_) (fun c11 => ?_)
  · replace e := (if_pos c11).symm.trans e
    refine g_ald_n d_X11_program_46 rfl g0 ?_
    refine r_iload_n d_X11_program_47 rfl g2 ?_
    refine g_putI d_X11_program_48 (f := 1213) (tO_pI k9) fk_12_209 rfl (Or.inl rfl) ⟨rfl, rfl⟩ ?_
    replace e := bhd e
    obtain ⟨_, rfl, e⟩ := e
    refine g_ald_n d_X11_program_51 rfl g0 ?_
    refine r_iload_n d_X11_program_52 rfl g3 ?_
    refine r_if_eq d_X11_program_53 (tgt := 60) (by decide) (fun c13 => ?_) (fun c13 => ?_)
    · replace e := (if_pos c13).symm.trans e
      refine r_iconst d_X11_program_60 (v := (2 : Int32)) (by decide +kernel) ?_
      replace e := bd e
      obtain ⟨q14, eq14, e⟩ := e
      refine g_callV d_X11_program_61 vk_12_238 (as := [_]) rfl (tO_pI (tO_pI k9)) rfl (by simp [zrf_cat, cat_int, cat_long]) (j := 1) (by omega) (c_X11_raise (by omega) eq14) ?_
      cases e
      exact g_iret d_X11_program_64 rfl rfl
    · replace e := (if_neg c13).symm.trans e
      refine r_iconst d_X11_program_56 (v := (1 : Int32)) (by decide +kernel) ?_
      refine r_goto d_X11_program_57 (tgt := 61) (by decide) ?_
      replace e := bd e
      obtain ⟨q15, eq15, e⟩ := e
      refine g_callV d_X11_program_61 vk_12_238 (as := [_]) rfl (tO_pI (tO_pI k9)) rfl (by simp [zrf_cat, cat_int, cat_long]) (j := 1) (by omega) (c_X11_raise (by omega) eq15) ?_
      cases e
      exact g_iret d_X11_program_64 rfl rfl
  · replace e := (if_neg c11).symm.trans e
    refine g_ald_n d_X11_program_38 rfl g0 ?_
    refine g_getI d_X11_program_39 (f := 1205) (tO_pI k9) fk_12_13 rfl rfl ?_
    refine r_iconst d_X11_program_42 (v := (-1 : Int32)) (by decide +kernel) ?_
    refine r_icmp_eq d_X11_program_43 (tgt := 65) (by decide) (fun c16 => ?_) (fun c16 => ?_)
    · replace e := (if_pos c16).symm.trans e
      refine g_ald_n d_X11_program_65 rfl g0 ?_
      refine r_iconst d_X11_program_66 (v := (0 : Int32)) (by decide +kernel) ?_
      refine g_putI d_X11_program_67 (f := 1200) (tO_pI k9) fk_12_183 rfl (Or.inl rfl) ⟨rfl, rfl⟩ ?_
      replace e := bhd e
      obtain ⟨_, rfl, e⟩ := e
      refine g_ald_n d_X11_program_70 rfl g0 ?_
      refine g_getR d_X11_program_71 (f := 1207) (tO_pI (tO_pI k9)) fk_12_17 rfl rfl ?_
      refine g_ald_n d_X11_program_74 rfl g0 ?_
      refine g_getI d_X11_program_75 (f := 1206) (tO_pI (tO_pI k9)) fk_12_241 rfl rfl ?_
      refine r_iload_n d_X11_program_78 rfl g1 ?_
      replace e := ckd e
      obtain ⟨k18, e⟩ := e
      replace e := ckd e
      obtain ⟨k19, e⟩ := e
      refine g_iast d_X11_program_79 k18 k19 ?_
      replace e := bhd e
      obtain ⟨_, rfl, e⟩ := e
      refine g_ald_n d_X11_program_80 rfl g0 ?_
      refine g_getR d_X11_program_81 (f := 1208) (tO_pE (tO_pI (tO_pI k9))) fk_12_20 rfl rfl ?_
      refine g_ald_n d_X11_program_84 rfl g0 ?_
      refine g_getI d_X11_program_85 (f := 1206) (tO_pE (tO_pI (tO_pI k9))) fk_12_241 rfl rfl ?_
      refine g_ald_n d_X11_program_88 rfl g0 ?_
      refine g_getR d_X11_program_89 (f := 1212) (tO_pE (tO_pI (tO_pI k9))) fk_12_32 rfl rfl ?_
      refine r_iload_n d_X11_program_92 rfl g1 ?_
      replace e := ckd e
      obtain ⟨k21, e⟩ := e
      replace e := ckd e
      obtain ⟨k22, e⟩ := e
      refine g_iald d_X11_program_93 k21 k22 rfl ?_
      replace e := ckd e
      obtain ⟨k23, e⟩ := e
      replace e := ckd e
      obtain ⟨k24, e⟩ := e
      refine g_iast d_X11_program_94 k23 k24 ?_
      replace e := bhd e
      obtain ⟨_, rfl, e⟩ := e
      refine g_ald_n d_X11_program_95 rfl g0 ?_
      refine g_getR d_X11_program_96 (f := 1209) (tO_pE (tO_pE (tO_pI (tO_pI k9)))) fk_12_23 rfl rfl ?_
      refine g_ald_n d_X11_program_99 rfl g0 ?_
      refine g_getI d_X11_program_100 (f := 1206) (tO_pE (tO_pE (tO_pI (tO_pI k9)))) fk_12_241 rfl rfl ?_
      refine r_iload_n d_X11_program_103 rfl g2 ?_
      replace e := ckd e
      obtain ⟨k26, e⟩ := e
      replace e := ckd e
      obtain ⟨k27, e⟩ := e
      refine g_iast d_X11_program_104 k26 k27 ?_
      replace e := bhd e
      obtain ⟨_, rfl, e⟩ := e
      refine g_ald_n d_X11_program_105 rfl g0 ?_
      refine g_getR d_X11_program_106 (f := 1210) (tO_pE (tO_pE (tO_pE (tO_pI (tO_pI k9))))) fk_12_26 rfl rfl ?_
      refine g_ald_n d_X11_program_109 rfl g0 ?_
      refine g_getI d_X11_program_110 (f := 1206) (tO_pE (tO_pE (tO_pE (tO_pI (tO_pI k9))))) fk_12_241 rfl rfl ?_
      refine g_ald_n d_X11_program_113 rfl g0 ?_
      refine g_getI d_X11_program_114 (f := 1213) (tO_pE (tO_pE (tO_pE (tO_pI (tO_pI k9))))) fk_12_209 rfl rfl ?_
      refine r_iload_n d_X11_program_117 rfl g2 ?_
      refine r_isub d_X11_program_118 ?_
      replace e := ckd e
      obtain ⟨k29, e⟩ := e
      replace e := ckd e
      obtain ⟨k30, e⟩ := e
      refine g_iast d_X11_program_119 k29 k30 ?_
      replace e := bhd e
      obtain ⟨_, rfl, e⟩ := e
      refine g_ald_n d_X11_program_120 rfl g0 ?_
      refine g_getR d_X11_program_121 (f := 1211) (tO_pE (tO_pE (tO_pE (tO_pE (tO_pI (tO_pI k9)))))) fk_12_29 rfl rfl ?_
      refine r_iload_n d_X11_program_124 rfl g1 ?_
      refine g_ald_n d_X11_program_125 rfl g0 ?_
      refine g_getI d_X11_program_126 (f := 1206) (tO_pE (tO_pE (tO_pE (tO_pE (tO_pI (tO_pI k9)))))) fk_12_241 rfl rfl ?_
      replace e := ckd e
      obtain ⟨k32, e⟩ := e
      replace e := ckd e
      obtain ⟨k33, e⟩ := e
      refine g_iast d_X11_program_129 k32 k33 ?_
      replace e := bhd e
      obtain ⟨_, rfl, e⟩ := e
      refine g_ald_n d_X11_program_130 rfl g0 ?_
      refine g_getR d_X11_program_131 (f := 1212) (tO_pE (tO_pE (tO_pE (tO_pE (tO_pE (tO_pI (tO_pI k9))))))) fk_12_32 rfl rfl ?_
      refine r_iload_n d_X11_program_134 rfl g1 ?_
      refine r_dup2 d_X11_program_135 rfl (zrf_cat _) ?_
      replace e := ckd e
      obtain ⟨k35, e⟩ := e
      replace e := ckd e
      obtain ⟨k36, e⟩ := e
      refine g_iald d_X11_program_136 k35 k36 rfl ?_
      refine r_iconst d_X11_program_137 (v := (1 : Int32)) (by decide +kernel) ?_
      refine r_iadd d_X11_program_138 ?_
      refine g_iast d_X11_program_139 k35 k36 ?_
      replace e := bhd e
      obtain ⟨_, rfl, e⟩ := e
      refine g_ald_n d_X11_program_140 rfl g0 ?_
      refine r_dup d_X11_program_141 (zrf_cat _) ?_
      refine g_getI d_X11_program_142 (f := 1206) (tO_pE (tO_pE (tO_pE (tO_pE (tO_pE (tO_pE (tO_pI (tO_pI k9)))))))) fk_12_241 rfl rfl ?_
      refine r_iconst d_X11_program_145 (v := (1 : Int32)) (by decide +kernel) ?_
      refine r_iadd d_X11_program_146 ?_
      refine g_putI d_X11_program_147 (f := 1206) (tO_pE (tO_pE (tO_pE (tO_pE (tO_pE (tO_pE (tO_pI (tO_pI k9)))))))) fk_12_241 rfl (Or.inl rfl) ⟨rfl, rfl⟩ ?_
      replace e := bhd e
      obtain ⟨_, rfl, e⟩ := e
      refine g_ald_n d_X11_program_150 rfl g0 ?_
      refine g_getI d_X11_program_151 (f := 1213) (tO_pI (tO_pE (tO_pE (tO_pE (tO_pE (tO_pE (tO_pE (tO_pI (tO_pI k9))))))))) fk_12_209 rfl rfl ?_
      refine r_iload_n d_X11_program_154 rfl g2 ?_
      refine r_isub d_X11_program_155 ?_
      cases e
      exact g_iret d_X11_program_156 rfl rfl
    · replace e := (if_neg c16).symm.trans e
      refine g_ald_n d_X11_program_46 rfl g0 ?_
      refine r_iload_n d_X11_program_47 rfl g2 ?_
      refine g_putI d_X11_program_48 (f := 1213) (tO_pI k9) fk_12_209 rfl (Or.inl rfl) ⟨rfl, rfl⟩ ?_
      replace e := bhd e
      obtain ⟨_, rfl, e⟩ := e
      refine g_ald_n d_X11_program_51 rfl g0 ?_
      refine r_iload_n d_X11_program_52 rfl g3 ?_
      refine r_if_eq d_X11_program_53 (tgt := 60) (by decide) (fun c40 => ?_) (fun c40 => ?_)
      · replace e := (if_pos c40).symm.trans e
        refine r_iconst d_X11_program_60 (v := (2 : Int32)) (by decide +kernel) ?_
        replace e := bd e
        obtain ⟨q41, eq41, e⟩ := e
        refine g_callV d_X11_program_61 vk_12_238 (as := [_]) rfl (tO_pI (tO_pI k9)) rfl (by simp [zrf_cat, cat_int, cat_long]) (j := 1) (by omega) (c_X11_raise (by omega) eq41) ?_
        cases e
        exact g_iret d_X11_program_64 rfl rfl
      · replace e := (if_neg c40).symm.trans e
        refine r_iconst d_X11_program_56 (v := (1 : Int32)) (by decide +kernel) ?_
        refine r_goto d_X11_program_57 (tgt := 61) (by decide) ?_
        replace e := bd e
        obtain ⟨q42, eq42, e⟩ := e
        refine g_callV d_X11_program_61 vk_12_238 (as := [_]) rfl (tO_pI (tO_pI k9)) rfl (by simp [zrf_cat, cat_int, cat_long]) (j := 1) (by omega) (c_X11_raise (by omega) eq42) ?_
        cases e
        exact g_iret d_X11_program_64 rfl rfl

def f_X11_program (l0 : Nat) (l1 : Int32) (h : Hp) : Option (Int32 × Hp) := ck (isO (h) (l0) 12) (bh (zI (h) 1213 (l0)) (fun x2 => (f_X11_in (l1) ((8 : Int32)) (h)).bind (fun q3 => if (q3.1) = (0) then (f_X11_program_26 (l0) ((-1 : Int32)) (l0) (l1) (x2) (q3.1) (q3.2)) else (ck (isO (q3.2) (l0) 12) ((f_X11_read (l0) (x2) (q3.2)).bind (fun q5 => f_X11_program_26 (l0) (q5.1) (l0) (l1) (x2) (q3.1) (q5.2)))))))
theorem f_X11_program_ok {G : Gd} {d : Nat} (hj : 8 ≤ d) : ∀ (l0 : Nat) (l1 : Int32) (L : List (Nat × Value)) (h : Hp) (o : (Int32 × Hp)), zlk L 0 = some (zrf (l0)) → zlk L 1 = some (.int (l1)) → f_X11_program l0 l1 h = some o → Ev G M_X11_program d 0 L [] h (Ret Y_X11_program (some (.int o.1)) o.2) := by
  intro l0 l1 L h o g0 g1 e
  unfold f_X11_program at e
  refine g_ald_n d_X11_program_0 rfl g0 ?_
  replace e := ckd e
  obtain ⟨k1, e⟩ := e
  refine g_getI d_X11_program_1 (f := 1213) k1 fk_12_209 rfl rfl ?_
  replace e := bhd e
  obtain ⟨_, rfl, e⟩ := e
  refine s_istore_n d_X11_program_4 rfl (by decide) (fun L g2 gK => ?_)
  replace g0 := gK _ _ (by decide) (Or.inr (zrf_cat _)) g0
  replace g1 := gK _ _ (by decide) (Or.inr rfl) g1
  refine r_iload_n d_X11_program_5 rfl g1 ?_
  refine r_bipush d_X11_program_6 (v := (8 : Int32)) (by decide +kernel) ?_
  replace e := bd e
  obtain ⟨q3, eq3, e⟩ := e
  refine g_callS d_X11_program_8 sk_12_230 (as := [_, _]) rfl rfl (by simp [zrf_cat, cat_int, cat_long]) (j := 1) (by omega) (c_X11_in (by omega) eq3) ?_
  refine s_istore_n d_X11_program_11 rfl (by decide) (fun L g3 gK => ?_)
  replace g0 := gK _ _ (by decide) (Or.inr (zrf_cat _)) g0
  replace g1 := gK _ _ (by decide) (Or.inr rfl) g1
  replace g2 := gK _ _ (by decide) (Or.inr rfl) g2
  refine g_ald_n d_X11_program_12 rfl g0 ?_
  refine r_iload_n d_X11_program_13 rfl g3 ?_
  refine r_if_eq d_X11_program_14 (tgt := 25) (by decide) (fun c4 => ?_) (fun c4 => ?_)
  · replace e := (if_pos c4).symm.trans e
    refine r_iconst d_X11_program_25 (v := (-1 : Int32)) (by decide +kernel) ?_
    exact f_X11_program_26_ok hj _ _ _ _ _ _ _ _ _ g0 g1 g2 g3 e
  · replace e := (if_neg c4).symm.trans e
    refine g_ald_n d_X11_program_17 rfl g0 ?_
    refine r_iload_n d_X11_program_18 rfl g2 ?_
    replace e := ckd e
    obtain ⟨k6, e⟩ := e
    replace e := bd e
    obtain ⟨q5, eq5, e⟩ := e
    refine g_callV d_X11_program_19 vk_12_234 (as := [_]) rfl k6 rfl (by simp [zrf_cat, cat_int, cat_long]) (j := 7) (by omega) (c_X11_read (by omega) eq5) ?_
    refine r_goto d_X11_program_22 (tgt := 26) (by decide) ?_
    exact f_X11_program_26_ok hj _ _ _ _ _ _ _ _ _ g0 g1 g2 g3 e

theorem c_X11_program {G : Gd} {j : Nat} (hj : 8 ≤ j) {l0 : Nat} {l1 : Int32} {h : Hp} {o : (Int32 × Hp)} (e : f_X11_program l0 l1 h = some o) : Cal G j Y_X11_program [zrf (l0), .int (l1)] h (some (.int o.1)) o.2 := Cal.of (n := 0) (I := false) (by decide +kernel) (by decide) (by simp [lg_sl, zrf_cat, cat_int, cat_long]) (f_X11_program_ok hj _ _ _ h o (by simp [lv_args, zlk, zrf_cat, cat_int, cat_long]) (by simp [lv_args, zlk, zrf_cat, cat_int, cat_long]) e)
def f_X11_fault (l0 : Nat) (h : Hp) : Option (Int32 × Hp) := ck (isO (h) (l0) 12) (bh (pI (h) 1200 (l0) ((0 : Int32))) (fun h2 => some (zI (h2) 1205 (l0), h2)))
theorem f_X11_fault_ok {G : Gd} {d : Nat} (hj : 1 ≤ d) : ∀ (l0 : Nat) (L : List (Nat × Value)) (h : Hp) (o : (Int32 × Hp)), zlk L 0 = some (zrf (l0)) → f_X11_fault l0 h = some o → Ev G M_X11_fault d 0 L [] h (Ret Y_X11_fault (some (.int o.1)) o.2) := by
  intro l0 L h o g0 e
  unfold f_X11_fault at e
  refine g_ald_n d_X11_fault_0 rfl g0 ?_
  refine r_iconst d_X11_fault_1 (v := (0 : Int32)) (by decide +kernel) ?_
  replace e := ckd e
  obtain ⟨k1, e⟩ := e
  refine g_putI d_X11_fault_2 (f := 1200) k1 fk_12_183 rfl (Or.inl rfl) ⟨rfl, rfl⟩ ?_
  replace e := bhd e
  obtain ⟨_, rfl, e⟩ := e
  refine g_ald_n d_X11_fault_5 rfl g0 ?_
  refine g_getI d_X11_fault_6 (f := 1205) (tO_pI k1) fk_12_13 rfl rfl ?_
  cases e
  exact g_iret d_X11_fault_9 rfl rfl

theorem c_X11_fault {G : Gd} {j : Nat} (hj : 1 ≤ j) {l0 : Nat} {h : Hp} {o : (Int32 × Hp)} (e : f_X11_fault l0 h = some o) : Cal G j Y_X11_fault [zrf (l0)] h (some (.int o.1)) o.2 := Cal.of (n := 0) (I := false) (by decide +kernel) (by decide) (by simp [lg_sl, zrf_cat, cat_int, cat_long]) (f_X11_fault_ok hj _ _ h o (by simp [lv_args, zlk, zrf_cat, cat_int, cat_long]) e)
def f_X11_textFor_28 (K2 : Nat → Int32 → Int32 → Hp → Option (Int32 × Hp)) (l0 : Nat) (l1 : Int32) (l2 : Int32) (h : Hp) : Option (Int32 × Hp) := bh ((l2) + (1 : Int32)) (fun x8 => K2 (l0) (l1) (x8) (h))
theorem f_X11_textFor_28_ok {G : Gd} {d : Nat} (K2 : Nat → Int32 → Int32 → Hp → Option (Int32 × Hp)) (hj : 1 ≤ d) (hK2 : ∀ (l0 : Nat) (l1 : Int32) (l2 : Int32) (L : List (Nat × Value)) (h : Hp) (o : (Int32 × Hp)), zlk L 0 = some (zrf (l0)) → zlk L 1 = some (.int (l1)) → zlk L 2 = some (.int (l2)) → K2 l0 l1 l2 h = some o → Ev G M_X11_textFor d 2 L [] h (Ret Y_X11_textFor (some (.int o.1)) o.2)) : ∀ (l0 : Nat) (l1 : Int32) (l2 : Int32) (L : List (Nat × Value)) (h : Hp) (o : (Int32 × Hp)), zlk L 0 = some (zrf (l0)) → zlk L 1 = some (.int (l1)) → zlk L 2 = some (.int (l2)) → f_X11_textFor_28 K2 l0 l1 l2 h = some o → Ev G M_X11_textFor d 28 L [] h (Ret Y_X11_textFor (some (.int o.1)) o.2) := by
  intro l0 l1 l2 L h o g0 g1 g2 e
  unfold f_X11_textFor_28 at e
  replace e := bhd e
  obtain ⟨_, rfl, e⟩ := e
  refine s_iinc d_X11_textFor_28 g2 (w := (1 : Int32)) (by decide +kernel) (by decide) (fun L g2 gK => ?_)
  replace g0 := gK _ _ (by decide) (Or.inr (zrf_cat _)) g0
  replace g1 := gK _ _ (by decide) (Or.inr rfl) g1
  refine r_goto d_X11_textFor_31 (tgt := 2) (by decide) ?_
  exact hK2 _ _ _ _ _ _ g0 g1 g2 e

def f_X11_textFor_2 : Nat → Nat → Int32 → Int32 → Hp → Option (Int32 × Hp)
  | 0, _, _, _, _ => none
  | n + 1, l0, l1, l2, h => ck (isO (h) (l0) 12) (ck (isO (h) (zR (h) 1207 (l0)) 22) (ck (inR (l2) (zL (h) (zR (h) 1207 (l0)))) (if (zE (h) (zR (h) 1207 (l0)) (l2).toNatClampNeg) = ((l1) - (l1) / ((8 : Int32)) * ((8 : Int32))) then (ck (isO (h) (zR (h) 1208 (l0)) 22) (ck (inR (l2) (zL (h) (zR (h) 1208 (l0)))) (if (zE (h) (zR (h) 1208 (l0)) (l2).toNatClampNeg) = ((l1) / ((8 : Int32))) then (some (l2, h)) else (f_X11_textFor_28 (f_X11_textFor_2 n ) (l0) (l1) (l2) (h))))) else (f_X11_textFor_28 (f_X11_textFor_2 n ) (l0) (l1) (l2) (h)))))
theorem f_X11_textFor_2_ok {G : Gd} {d : Nat} (hj : 1 ≤ d) : ∀ (n : Nat) (l0 : Nat) (l1 : Int32) (l2 : Int32) (L : List (Nat × Value)) (h : Hp) (o : (Int32 × Hp)), zlk L 0 = some (zrf (l0)) → zlk L 1 = some (.int (l1)) → zlk L 2 = some (.int (l2)) → f_X11_textFor_2 n l0 l1 l2 h = some o → Ev G M_X11_textFor d 2 L [] h (Ret Y_X11_textFor (some (.int o.1)) o.2) := by
  intro n
  induction n with
  | zero =>
    intro l0 l1 l2 L h o g0 g1 g2 e
    cases e
  | succ n ih =>
    intro l0 l1 l2 L h o g0 g1 g2 e
    unfold f_X11_textFor_2 at e
    refine g_ald_n d_X11_textFor_2 rfl g0 ?_
    replace e := ckd e
    obtain ⟨k1, e⟩ := e
    refine g_getR d_X11_textFor_3 (f := 1207) k1 fk_12_17 rfl rfl ?_
    refine r_iload_n d_X11_textFor_6 rfl g2 ?_
    replace e := ckd e
    obtain ⟨k2, e⟩ := e
    replace e := ckd e
    obtain ⟨k3, e⟩ := e
    refine g_iald d_X11_textFor_7 k2 k3 rfl ?_
    refine r_iload_n d_X11_textFor_8 rfl g1 ?_
    refine r_bipush d_X11_textFor_9 (v := (8 : Int32)) (by decide +kernel) ?_
    refine r_irem d_X11_textFor_11 (by decide +kernel) ?_
    refine r_icmp_ne d_X11_textFor_12 (tgt := 28) (by decide) (fun c4 => ?_) (fun c4 => ?_)
    · replace e := (if_neg c4).symm.trans e
      exact f_X11_textFor_28_ok _ hj ih _ _ _ _ _ _ g0 g1 g2 e
    · replace e := (if_pos c4).symm.trans e
      refine g_ald_n d_X11_textFor_15 rfl g0 ?_
      refine g_getR d_X11_textFor_16 (f := 1208) k1 fk_12_20 rfl rfl ?_
      refine r_iload_n d_X11_textFor_19 rfl g2 ?_
      replace e := ckd e
      obtain ⟨k5, e⟩ := e
      replace e := ckd e
      obtain ⟨k6, e⟩ := e
      refine g_iald d_X11_textFor_20 k5 k6 rfl ?_
      refine r_iload_n d_X11_textFor_21 rfl g1 ?_
      refine r_bipush d_X11_textFor_22 (v := (8 : Int32)) (by decide +kernel) ?_
      refine r_idiv d_X11_textFor_24 (by decide +kernel) ?_
      refine r_icmp_eq d_X11_textFor_25 (tgt := 34) (by decide) (fun c7 => ?_) (fun c7 => ?_)
      · replace e := (if_pos c7).symm.trans e
        refine r_iload_n d_X11_textFor_34 rfl g2 ?_
        cases e
        exact g_iret d_X11_textFor_35 rfl rfl
      · replace e := (if_neg c7).symm.trans e
        exact f_X11_textFor_28_ok _ hj ih _ _ _ _ _ _ g0 g1 g2 e

def f_X11_textFor (l0 : Nat) (l1 : Int32) (h : Hp) : Option (Int32 × Hp) := f_X11_textFor_2 fz (l0) (l1) ((0 : Int32)) (h)
theorem f_X11_textFor_ok {G : Gd} {d : Nat} (hj : 1 ≤ d) : ∀ (l0 : Nat) (l1 : Int32) (L : List (Nat × Value)) (h : Hp) (o : (Int32 × Hp)), zlk L 0 = some (zrf (l0)) → zlk L 1 = some (.int (l1)) → f_X11_textFor l0 l1 h = some o → Ev G M_X11_textFor d 0 L [] h (Ret Y_X11_textFor (some (.int o.1)) o.2) := by
  intro l0 l1 L h o g0 g1 e
  unfold f_X11_textFor at e
  refine r_iconst d_X11_textFor_0 (v := (0 : Int32)) (by decide +kernel) ?_
  refine s_istore_n d_X11_textFor_1 rfl (by decide) (fun L g2 gK => ?_)
  replace g0 := gK _ _ (by decide) (Or.inr (zrf_cat _)) g0
  replace g1 := gK _ _ (by decide) (Or.inr rfl) g1
  exact f_X11_textFor_2_ok hj _ _ _ _ _ _ _ g0 g1 g2 e

theorem c_X11_textFor {G : Gd} {j : Nat} (hj : 1 ≤ j) {l0 : Nat} {l1 : Int32} {h : Hp} {o : (Int32 × Hp)} (e : f_X11_textFor l0 l1 h = some o) : Cal G j Y_X11_textFor [zrf (l0), .int (l1)] h (some (.int o.1)) o.2 := Cal.of (n := 0) (I := false) (by decide +kernel) (by decide) (by simp [lg_sl, zrf_cat, cat_int, cat_long]) (f_X11_textFor_ok hj _ _ _ h o (by simp [lv_args, zlk, zrf_cat, cat_int, cat_long]) (by simp [lv_args, zlk, zrf_cat, cat_int, cat_long]) e)
theorem fk_12_244 : Fk "TaskWeaveModel" 244 1224 := ⟨by decide, by decide, by decide +kernel⟩
def f_X11_newRecord (l0 : Nat) (l1 : Int32) (l2 : Int32) (l3 : Int32) (l4 : Int32) (l5 : Int32) (l6 : Int32) (h : Hp) : Option (Int32 × Hp) := ck (isO (h) (l0) 12) (ck (isO (h) (zR (h) 1225 (l0)) 22) (ck (inR (zI (h) 1224 (l0)) (zL (h) (zR (h) 1225 (l0)))) (bh (pE (h) (zR (h) 1225 (l0)) (zI (h) 1224 (l0)).toNatClampNeg ((((16 : Int32)) * (l1)) + (l2))) (fun h4 => ck (isO (h4) (zR (h4) 1226 (l0)) 22) (ck (inR (zI (h4) 1224 (l0)) (zL (h4) (zR (h4) 1226 (l0)))) (bh (pE (h4) (zR (h4) 1226 (l0)) (zI (h4) 1224 (l0)).toNatClampNeg (l3)) (fun h7 => ck (isO (h7) (zR (h7) 1227 (l0)) 22) (ck (inR (zI (h7) 1224 (l0)) (zL (h7) (zR (h7) 1227 (l0)))) (bh (pE (h7) (zR (h7) 1227 (l0)) (zI (h7) 1224 (l0)).toNatClampNeg (l4)) (fun h10 => ck (isO (h10) (zR (h10) 1228 (l0)) 22) (ck (inR (zI (h10) 1224 (l0)) (zL (h10) (zR (h10) 1228 (l0)))) (bh (pE (h10) (zR (h10) 1228 (l0)) (zI (h10) 1224 (l0)).toNatClampNeg (l5)) (fun h13 => ck (isO (h13) (zR (h13) 1229 (l0)) 22) (ck (inR (zI (h13) 1224 (l0)) (zL (h13) (zR (h13) 1229 (l0)))) (bh (pE (h13) (zR (h13) 1229 (l0)) (zI (h13) 1224 (l0)).toNatClampNeg (l6)) (fun h16 => bh (pI (h16) 1224 (l0) ((zI (h16) 1224 (l0)) + ((1 : Int32)))) (fun h17 => some ((zI (h17) 1224 (l0)) - ((1 : Int32)), h17))))))))))))))))))
theorem f_X11_newRecord_ok {G : Gd} {d : Nat} (hj : 1 ≤ d) : ∀ (l0 : Nat) (l1 : Int32) (l2 : Int32) (l3 : Int32) (l4 : Int32) (l5 : Int32) (l6 : Int32) (L : List (Nat × Value)) (h : Hp) (o : (Int32 × Hp)), zlk L 0 = some (zrf (l0)) → zlk L 1 = some (.int (l1)) → zlk L 2 = some (.int (l2)) → zlk L 3 = some (.int (l3)) → zlk L 4 = some (.int (l4)) → zlk L 5 = some (.int (l5)) → zlk L 6 = some (.int (l6)) → f_X11_newRecord l0 l1 l2 l3 l4 l5 l6 h = some o → Ev G M_X11_newRecord d 0 L [] h (Ret Y_X11_newRecord (some (.int o.1)) o.2) := by
  intro l0 l1 l2 l3 l4 l5 l6 L h o g0 g1 g2 g3 g4 g5 g6 e
  unfold f_X11_newRecord at e
  refine g_ald_n d_X11_newRecord_0 rfl g0 ?_
  replace e := ckd e
  obtain ⟨k1, e⟩ := e
  refine g_getR d_X11_newRecord_1 (f := 1225) k1 fk_12_64 rfl rfl ?_
  refine g_ald_n d_X11_newRecord_4 rfl g0 ?_
  refine g_getI d_X11_newRecord_5 (f := 1224) k1 fk_12_244 rfl rfl ?_
  refine r_bipush d_X11_newRecord_8 (v := (16 : Int32)) (by decide +kernel) ?_
  refine r_iload_n d_X11_newRecord_10 rfl g1 ?_
  refine r_imul d_X11_newRecord_11 ?_
  refine r_iload_n d_X11_newRecord_12 rfl g2 ?_
  refine r_iadd d_X11_newRecord_13 ?_
  replace e := ckd e
  obtain ⟨k2, e⟩ := e
  replace e := ckd e
  obtain ⟨k3, e⟩ := e
  refine g_iast d_X11_newRecord_14 k2 k3 ?_
  replace e := bhd e
  obtain ⟨_, rfl, e⟩ := e
  refine g_ald_n d_X11_newRecord_15 rfl g0 ?_
  refine g_getR d_X11_newRecord_16 (f := 1226) (tO_pE k1) fk_12_67 rfl rfl ?_
  refine g_ald_n d_X11_newRecord_19 rfl g0 ?_
  refine g_getI d_X11_newRecord_20 (f := 1224) (tO_pE k1) fk_12_244 rfl rfl ?_
  refine r_iload_n d_X11_newRecord_23 rfl g3 ?_
  replace e := ckd e
  obtain ⟨k5, e⟩ := e
  replace e := ckd e
  obtain ⟨k6, e⟩ := e
  refine g_iast d_X11_newRecord_24 k5 k6 ?_
  replace e := bhd e
  obtain ⟨_, rfl, e⟩ := e
  refine g_ald_n d_X11_newRecord_25 rfl g0 ?_
  refine g_getR d_X11_newRecord_26 (f := 1227) (tO_pE (tO_pE k1)) fk_12_70 rfl rfl ?_
  refine g_ald_n d_X11_newRecord_29 rfl g0 ?_
  refine g_getI d_X11_newRecord_30 (f := 1224) (tO_pE (tO_pE k1)) fk_12_244 rfl rfl ?_
  refine r_iload d_X11_newRecord_33 g4 ?_
  replace e := ckd e
  obtain ⟨k8, e⟩ := e
  replace e := ckd e
  obtain ⟨k9, e⟩ := e
  refine g_iast d_X11_newRecord_35 k8 k9 ?_
  replace e := bhd e
  obtain ⟨_, rfl, e⟩ := e
  refine g_ald_n d_X11_newRecord_36 rfl g0 ?_
  refine g_getR d_X11_newRecord_37 (f := 1228) (tO_pE (tO_pE (tO_pE k1))) fk_12_73 rfl rfl ?_
  refine g_ald_n d_X11_newRecord_40 rfl g0 ?_
  refine g_getI d_X11_newRecord_41 (f := 1224) (tO_pE (tO_pE (tO_pE k1))) fk_12_244 rfl rfl ?_
  refine r_iload d_X11_newRecord_44 g5 ?_
  replace e := ckd e
  obtain ⟨k11, e⟩ := e
  replace e := ckd e
  obtain ⟨k12, e⟩ := e
  refine g_iast d_X11_newRecord_46 k11 k12 ?_
  replace e := bhd e
  obtain ⟨_, rfl, e⟩ := e
  refine g_ald_n d_X11_newRecord_47 rfl g0 ?_
  refine g_getR d_X11_newRecord_48 (f := 1229) (tO_pE (tO_pE (tO_pE (tO_pE k1)))) fk_12_76 rfl rfl ?_
  refine g_ald_n d_X11_newRecord_51 rfl g0 ?_
  refine g_getI d_X11_newRecord_52 (f := 1224) (tO_pE (tO_pE (tO_pE (tO_pE k1)))) fk_12_244 rfl rfl ?_
  refine r_iload d_X11_newRecord_55 g6 ?_
  replace e := ckd e
  obtain ⟨k14, e⟩ := e
  replace e := ckd e
  obtain ⟨k15, e⟩ := e
  refine g_iast d_X11_newRecord_57 k14 k15 ?_
  replace e := bhd e
  obtain ⟨_, rfl, e⟩ := e
  refine g_ald_n d_X11_newRecord_58 rfl g0 ?_
  refine r_dup d_X11_newRecord_59 (zrf_cat _) ?_
  refine g_getI d_X11_newRecord_60 (f := 1224) (tO_pE (tO_pE (tO_pE (tO_pE (tO_pE k1))))) fk_12_244 rfl rfl ?_
  refine r_iconst d_X11_newRecord_63 (v := (1 : Int32)) (by decide +kernel) ?_
  refine r_iadd d_X11_newRecord_64 ?_
  refine g_putI d_X11_newRecord_65 (f := 1224) (tO_pE (tO_pE (tO_pE (tO_pE (tO_pE k1))))) fk_12_244 rfl (Or.inl rfl) ⟨rfl, rfl⟩ ?_
  replace e := bhd e
  obtain ⟨_, rfl, e⟩ := e
  refine g_ald_n d_X11_newRecord_68 rfl g0 ?_
  refine g_getI d_X11_newRecord_69 (f := 1224) (tO_pI (tO_pE (tO_pE (tO_pE (tO_pE (tO_pE k1)))))) fk_12_244 rfl rfl ?_
  refine r_iconst d_X11_newRecord_72 (v := (1 : Int32)) (by decide +kernel) ?_
  refine r_isub d_X11_newRecord_73 ?_
  cases e
  exact g_iret d_X11_newRecord_74 rfl rfl

theorem c_X11_newRecord {G : Gd} {j : Nat} (hj : 1 ≤ j) {l0 : Nat} {l1 : Int32} {l2 : Int32} {l3 : Int32} {l4 : Int32} {l5 : Int32} {l6 : Int32} {h : Hp} {o : (Int32 × Hp)} (e : f_X11_newRecord l0 l1 l2 l3 l4 l5 l6 h = some o) : Cal G j Y_X11_newRecord [zrf (l0), .int (l1), .int (l2), .int (l3), .int (l4), .int (l5), .int (l6)] h (some (.int o.1)) o.2 := Cal.of (n := 0) (I := false) (by decide +kernel) (by decide) (by simp [lg_sl, zrf_cat, cat_int, cat_long]) (f_X11_newRecord_ok hj _ _ _ _ _ _ _ _ h o (by simp [lv_args, zlk, zrf_cat, cat_int, cat_long]) (by simp [lv_args, zlk, zrf_cat, cat_int, cat_long]) (by simp [lv_args, zlk, zrf_cat, cat_int, cat_long]) (by simp [lv_args, zlk, zrf_cat, cat_int, cat_long]) (by simp [lv_args, zlk, zrf_cat, cat_int, cat_long]) (by simp [lv_args, zlk, zrf_cat, cat_int, cat_long]) (by simp [lv_args, zlk, zrf_cat, cat_int, cat_long]) e)
def f_X11_kindOf (l0 : Nat) (l1 : Int32) (h : Hp) : Option (Int32 × Hp) := ck (isO (h) (l0) 12) (ck (isO (h) (zR (h) 1225 (l0)) 22) (ck (inR (l1) (zL (h) (zR (h) 1225 (l0)))) (some ((zE (h) (zR (h) 1225 (l0)) (l1).toNatClampNeg) - (zE (h) (zR (h) 1225 (l0)) (l1).toNatClampNeg) / ((16 : Int32)) * ((16 : Int32)), h))))
theorem f_X11_kindOf_ok {G : Gd} {d : Nat} (hj : 1 ≤ d) : ∀ (l0 : Nat) (l1 : Int32) (L : List (Nat × Value)) (h : Hp) (o : (Int32 × Hp)), zlk L 0 = some (zrf (l0)) → zlk L 1 = some (.int (l1)) → f_X11_kindOf l0 l1 h = some o → Ev G M_X11_kindOf d 0 L [] h (Ret Y_X11_kindOf (some (.int o.1)) o.2) := by
  intro l0 l1 L h o g0 g1 e
  unfold f_X11_kindOf at e
  refine g_ald_n d_X11_kindOf_0 rfl g0 ?_
  replace e := ckd e
  obtain ⟨k1, e⟩ := e
  refine g_getR d_X11_kindOf_1 (f := 1225) k1 fk_12_64 rfl rfl ?_
  refine r_iload_n d_X11_kindOf_4 rfl g1 ?_
  replace e := ckd e
  obtain ⟨k2, e⟩ := e
  replace e := ckd e
  obtain ⟨k3, e⟩ := e
  refine g_iald d_X11_kindOf_5 k2 k3 rfl ?_
  refine r_bipush d_X11_kindOf_6 (v := (16 : Int32)) (by decide +kernel) ?_
  refine r_irem d_X11_kindOf_8 (by decide +kernel) ?_
  cases e
  exact g_iret d_X11_kindOf_9 rfl rfl

theorem c_X11_kindOf {G : Gd} {j : Nat} (hj : 1 ≤ j) {l0 : Nat} {l1 : Int32} {h : Hp} {o : (Int32 × Hp)} (e : f_X11_kindOf l0 l1 h = some o) : Cal G j Y_X11_kindOf [zrf (l0), .int (l1)] h (some (.int o.1)) o.2 := Cal.of (n := 0) (I := false) (by decide +kernel) (by decide) (by simp [lg_sl, zrf_cat, cat_int, cat_long]) (f_X11_kindOf_ok hj _ _ _ h o (by simp [lv_args, zlk, zrf_cat, cat_int, cat_long]) (by simp [lv_args, zlk, zrf_cat, cat_int, cat_long]) e)
def f_X11_down (l0 : Nat) (l1 : Int32) (h : Hp) : Option Hp := ck (isO (h) (l0) 12) (ck (isO (h) (zR (h) 1234 (l0)) 23) (ck (inR (l1) (zL (h) (zR (h) 1234 (l0)))) (bh (pE (h) (zR (h) 1234 (l0)) (l1).toNatClampNeg ((((0 : Int32)) &&& 1))) (fun h4 => ck (isO (h4) (zR (h4) 1235 (l0)) 22) (ck (inR (l1) (zL (h4) (zR (h4) 1235 (l0)))) (bh (pE (h4) (zR (h4) 1235 (l0)) (l1).toNatClampNeg ((-1 : Int32))) (fun h7 => some (h7))))))))
theorem f_X11_down_ok {G : Gd} {d : Nat} (hj : 1 ≤ d) : ∀ (l0 : Nat) (l1 : Int32) (L : List (Nat × Value)) (h : Hp) (o : Hp), zlk L 0 = some (zrf (l0)) → zlk L 1 = some (.int (l1)) → f_X11_down l0 l1 h = some o → Ev G M_X11_down d 0 L [] h (Ret Y_X11_down none o) := by
  intro l0 l1 L h o g0 g1 e
  unfold f_X11_down at e
  refine g_ald_n d_X11_down_0 rfl g0 ?_
  replace e := ckd e
  obtain ⟨k1, e⟩ := e
  refine g_getR d_X11_down_1 (f := 1234) k1 fk_12_92 rfl rfl ?_
  refine r_iload_n d_X11_down_4 rfl g1 ?_
  refine r_iconst d_X11_down_5 (v := (0 : Int32)) (by decide +kernel) ?_
  replace e := ckd e
  obtain ⟨k2, e⟩ := e
  replace e := ckd e
  obtain ⟨k3, e⟩ := e
  refine g_zast d_X11_down_6 k2 k3 ?_
  replace e := bhd e
  obtain ⟨_, rfl, e⟩ := e
  refine g_ald_n d_X11_down_7 rfl g0 ?_
  refine g_getR d_X11_down_8 (f := 1235) (tO_pE k1) fk_12_95 rfl rfl ?_
  refine r_iload_n d_X11_down_11 rfl g1 ?_
  refine r_iconst d_X11_down_12 (v := (-1 : Int32)) (by decide +kernel) ?_
  replace e := ckd e
  obtain ⟨k5, e⟩ := e
  replace e := ckd e
  obtain ⟨k6, e⟩ := e
  refine g_iast d_X11_down_13 k5 k6 ?_
  replace e := bhd e
  obtain ⟨_, rfl, e⟩ := e
  cases e
  exact g_vret d_X11_down_14 rfl

theorem c_X11_down {G : Gd} {j : Nat} (hj : 1 ≤ j) {l0 : Nat} {l1 : Int32} {h : Hp} {o : Hp} (e : f_X11_down l0 l1 h = some o) : Cal G j Y_X11_down [zrf (l0), .int (l1)] h none o := Cal.of (n := 0) (I := false) (by decide +kernel) (by decide) (by simp [lg_sl, zrf_cat, cat_int, cat_long]) (f_X11_down_ok hj _ _ _ h o (by simp [lv_args, zlk, zrf_cat, cat_int, cat_long]) (by simp [lv_args, zlk, zrf_cat, cat_int, cat_long]) e)
theorem vk_12_247 : Vk "TaskWeaveModel" 247 1 12 Y_X11_down := ⟨yk_X11_down, by decide +kernel, by decide +kernel, by decide +kernel, by decide⟩
def f_X11_write_68 (l0 : Nat) (l1 : Int32) (l2 : Int32) (h : Hp) : Option (Int32 × Hp) := ck (isO (h) (l0) 12) (ck (isO (h) (zR (h) 1231 (l0)) 22) (ck (inR (l1) (zL (h) (zR (h) 1231 (l0)))) (ck (isO (h) (zR (h) 1230 (l0)) 22) (ck (inR ((((8192 : Int32)) * (l1)) + (zE (h) (zR (h) 1231 (l0)) (l1).toNatClampNeg)) (zL (h) (zR (h) 1230 (l0)))) (bh (pE (h) (zR (h) 1230 (l0)) ((((8192 : Int32)) * (l1)) + (zE (h) (zR (h) 1231 (l0)) (l1).toNatClampNeg)).toNatClampNeg (l2)) (fun h23 => ck (isO (h23) (zR (h23) 1231 (l0)) 22) (ck (inR (l1) (zL (h23) (zR (h23) 1231 (l0)))) (bh (pE (h23) (zR (h23) 1231 (l0)) (l1).toNatClampNeg ((zE (h23) (zR (h23) 1231 (l0)) (l1).toNatClampNeg) + ((1 : Int32)))) (fun h26 => some ((1 : Int32), h26))))))))))
theorem f_X11_write_68_ok {G : Gd} {d : Nat} (hj : 2 ≤ d) : ∀ (l0 : Nat) (l1 : Int32) (l2 : Int32) (L : List (Nat × Value)) (h : Hp) (o : (Int32 × Hp)), zlk L 0 = some (zrf (l0)) → zlk L 1 = some (.int (l1)) → zlk L 2 = some (.int (l2)) → f_X11_write_68 l0 l1 l2 h = some o → Ev G M_X11_write d 68 L [] h (Ret Y_X11_write (some (.int o.1)) o.2) := by
  intro l0 l1 l2 L h o g0 g1 g2 e
  unfold f_X11_write_68 at e
  refine g_ald_n d_X11_write_68 rfl g0 ?_
  replace e := ckd e
  obtain ⟨k18, e⟩ := e
  refine g_getR d_X11_write_69 (f := 1230) k18 fk_12_80 rfl rfl ?_
  refine r_sipush d_X11_write_72 (v := (8192 : Int32)) (by decide +kernel) ?_
  refine r_iload_n d_X11_write_75 rfl g1 ?_
  refine r_imul d_X11_write_76 ?_
  refine g_ald_n d_X11_write_77 rfl g0 ?_
  refine g_getR d_X11_write_78 (f := 1231) k18 fk_12_83 rfl rfl ?_
  refine r_iload_n d_X11_write_81 rfl g1 ?_
  replace e := ckd e
  obtain ⟨k19, e⟩ := e
  replace e := ckd e
  obtain ⟨k20, e⟩ := e
  refine g_iald d_X11_write_82 k19 k20 rfl ?_
  refine r_iadd d_X11_write_83 ?_
  refine r_iload_n d_X11_write_84 rfl g2 ?_
  replace e := ckd e
  obtain ⟨k21, e⟩ := e
  replace e := ckd e
  obtain ⟨k22, e⟩ := e
  refine g_iast d_X11_write_85 k21 k22 ?_
  replace e := bhd e
  obtain ⟨_, rfl, e⟩ := e
  refine g_ald_n d_X11_write_86 rfl g0 ?_
  refine g_getR d_X11_write_87 (f := 1231) (tO_pE k18) fk_12_83 rfl rfl ?_
  refine r_iload_n d_X11_write_90 rfl g1 ?_
  refine r_dup2 d_X11_write_91 rfl (zrf_cat _) ?_
  replace e := ckd e
  obtain ⟨k24, e⟩ := e
  replace e := ckd e
  obtain ⟨k25, e⟩ := e
  refine g_iald d_X11_write_92 k24 k25 rfl ?_
  refine r_iconst d_X11_write_93 (v := (1 : Int32)) (by decide +kernel) ?_
  refine r_iadd d_X11_write_94 ?_
  refine g_iast d_X11_write_95 k24 k25 ?_
  replace e := bhd e
  obtain ⟨_, rfl, e⟩ := e
  refine r_iconst d_X11_write_96 (v := (1 : Int32)) (by decide +kernel) ?_
  cases e
  exact g_iret d_X11_write_97 rfl rfl

def f_X11_write_47 (l0 : Nat) (l1 : Int32) (l2 : Int32) (h : Hp) : Option (Int32 × Hp) := ck (isO (h) (l0) 12) (ck (isO (h) (zR (h) 1235 (l0)) 22) (ck (inR (l1) (zL (h) (zR (h) 1235 (l0)))) (if (zE (h) (zR (h) 1235 (l0)) (l1).toNatClampNeg) = ((-1 : Int32)) then (f_X11_write_68 (l0) (l1) (l2) (h)) else (bh (pE (h) (zR (h) 1235 (l0)) (l1).toNatClampNeg ((zE (h) (zR (h) 1235 (l0)) (l1).toNatClampNeg) - ((16 : Int32)))) (fun h17 => f_X11_write_68 (l0) (l1) (l2) (h17))))))
theorem f_X11_write_47_ok {G : Gd} {d : Nat} (hj : 2 ≤ d) : ∀ (l0 : Nat) (l1 : Int32) (l2 : Int32) (L : List (Nat × Value)) (h : Hp) (o : (Int32 × Hp)), zlk L 0 = some (zrf (l0)) → zlk L 1 = some (.int (l1)) → zlk L 2 = some (.int (l2)) → f_X11_write_47 l0 l1 l2 h = some o → Ev G M_X11_write d 47 L [] h (Ret Y_X11_write (some (.int o.1)) o.2) := by
  intro l0 l1 l2 L h o g0 g1 g2 e
  unfold f_X11_write_47 at e
  refine g_ald_n d_X11_write_47 rfl g0 ?_
  replace e := ckd e
  obtain ⟨k13, e⟩ := e
  refine g_getR d_X11_write_48 (f := 1235) k13 fk_12_95 rfl rfl ?_
  refine r_iload_n d_X11_write_51 rfl g1 ?_
  replace e := ckd e
  obtain ⟨k14, e⟩ := e
  replace e := ckd e
  obtain ⟨k15, e⟩ := e
  refine g_iald d_X11_write_52 k14 k15 rfl ?_
  refine r_iconst d_X11_write_53 (v := (-1 : Int32)) (by decide +kernel) ?_
  refine r_icmp_eq d_X11_write_54 (tgt := 68) (by decide) (fun c16 => ?_) (fun c16 => ?_)
  · replace e := (if_pos c16).symm.trans e
    exact f_X11_write_68_ok hj _ _ _ _ _ _ g0 g1 g2 e
  · replace e := (if_neg c16).symm.trans e
    refine g_ald_n d_X11_write_57 rfl g0 ?_
    refine g_getR d_X11_write_58 (f := 1235) k13 fk_12_95 rfl rfl ?_
    refine r_iload_n d_X11_write_61 rfl g1 ?_
    refine r_dup2 d_X11_write_62 rfl (zrf_cat _) ?_
    refine g_iald d_X11_write_63 k14 k15 rfl ?_
    refine r_bipush d_X11_write_64 (v := (16 : Int32)) (by decide +kernel) ?_
    refine r_isub d_X11_write_66 ?_
    refine g_iast d_X11_write_67 k14 k15 ?_
    replace e := bhd e
    obtain ⟨_, rfl, e⟩ := e
    exact f_X11_write_68_ok hj _ _ _ _ _ _ g0 g1 g2 e

def f_X11_write (l0 : Nat) (l1 : Int32) (l2 : Int32) (h : Hp) : Option (Int32 × Hp) := ck (isO (h) (l0) 12) (ck (isO (h) (zR (h) 1235 (l0)) 22) (ck (inR (l1) (zL (h) (zR (h) 1235 (l0)))) (if (zE (h) (zR (h) 1235 (l0)) (l1).toNatClampNeg) = ((-1 : Int32)) then (f_X11_write_47 (l0) (l1) (l2) (h)) else (if ((16 : Int32)) ≤ (zE (h) (zR (h) 1235 (l0)) (l1).toNatClampNeg) then (f_X11_write_47 (l0) (l1) (l2) (h)) else (ck (isO (h) (zR (h) 1232 (l0)) 22) (ck (inR (l1) (zL (h) (zR (h) 1232 (l0)))) (bh (pE (h) (zR (h) 1232 (l0)) (l1).toNatClampNeg (zE (h) (zR (h) 1235 (l0)) (l1).toNatClampNeg)) (fun h8 => ck (isO (h8) (zR (h8) 1233 (l0)) 22) (ck (inR (l1) (zL (h8) (zR (h8) 1233 (l0)))) (bh (pE (h8) (zR (h8) 1233 (l0)) (l1).toNatClampNeg (l2)) (fun h11 => (f_X11_down (l0) (l1) (h11)).bind (fun q12 => some ((0 : Int32), q12)))))))))))))
theorem f_X11_write_ok {G : Gd} {d : Nat} (hj : 2 ≤ d) : ∀ (l0 : Nat) (l1 : Int32) (l2 : Int32) (L : List (Nat × Value)) (h : Hp) (o : (Int32 × Hp)), zlk L 0 = some (zrf (l0)) → zlk L 1 = some (.int (l1)) → zlk L 2 = some (.int (l2)) → f_X11_write l0 l1 l2 h = some o → Ev G M_X11_write d 0 L [] h (Ret Y_X11_write (some (.int o.1)) o.2) := by
  intro l0 l1 l2 L h o g0 g1 g2 e
  unfold f_X11_write at e
  refine g_ald_n d_X11_write_0 rfl g0 ?_
  replace e := ckd e
  obtain ⟨k1, e⟩ := e
  refine g_getR d_X11_write_1 (f := 1235) k1 fk_12_95 rfl rfl ?_
  refine r_iload_n d_X11_write_4 rfl g1 ?_
  replace e := ckd e
  obtain ⟨k2, e⟩ := e
  replace e := ckd e
  obtain ⟨k3, e⟩ := e
  refine g_iald d_X11_write_5 k2 k3 rfl ?_
  refine r_iconst d_X11_write_6 (v := (-1 : Int32)) (by decide +kernel) ?_
  refine r_icmp_eq d_X11_write_7 (tgt := 47) (by decide) (fun c4 => ?_) (fun c4 => ?_)
  · replace e := (if_pos c4).symm.trans e
    exact f_X11_write_47_ok hj _ _ _ _ _ _ g0 g1 g2 e
  · replace e := (if_neg c4).symm.trans e
    refine g_ald_n d_X11_write_10 rfl g0 ?_
    refine g_getR d_X11_write_11 (f := 1235) k1 fk_12_95 rfl rfl ?_
    refine r_iload_n d_X11_write_14 rfl g1 ?_
    refine g_iald d_X11_write_15 k2 k3 rfl ?_
    refine r_bipush d_X11_write_16 (v := (16 : Int32)) (by decide +kernel) ?_
    refine r_icmp_ge d_X11_write_18 (tgt := 47) (by decide) (fun c5 => ?_) (fun c5 => ?_)
    · replace e := (if_pos c5).symm.trans e
      exact f_X11_write_47_ok hj _ _ _ _ _ _ g0 g1 g2 e
    · replace e := (if_neg c5).symm.trans e
      refine g_ald_n d_X11_write_21 rfl g0 ?_
      refine g_getR d_X11_write_22 (f := 1232) k1 fk_12_86 rfl rfl ?_
      refine r_iload_n d_X11_write_25 rfl g1 ?_
      refine g_ald_n d_X11_write_26 rfl g0 ?_
      refine g_getR d_X11_write_27 (f := 1235) k1 fk_12_95 rfl rfl ?_
      refine r_iload_n d_X11_write_30 rfl g1 ?_
      refine g_iald d_X11_write_31 k2 k3 rfl ?_
      replace e := ckd e
      obtain ⟨k6, e⟩ := e
      replace e := ckd e
      obtain ⟨k7, e⟩ := e
      refine g_iast d_X11_write_32 k6 k7 ?_
      replace e := bhd e
      obtain ⟨_, rfl, e⟩ := e
      refine g_ald_n d_X11_write_33 rfl g0 ?_
      refine g_getR d_X11_write_34 (f := 1233) (tO_pE k1) fk_12_89 rfl rfl ?_
      refine r_iload_n d_X11_write_37 rfl g1 ?_
      refine r_iload_n d_X11_write_38 rfl g2 ?_
      replace e := ckd e
      obtain ⟨k9, e⟩ := e
      replace e := ckd e
      obtain ⟨k10, e⟩ := e
      refine g_iast d_X11_write_39 k9 k10 ?_
      replace e := bhd e
      obtain ⟨_, rfl, e⟩ := e
      refine g_ald_n d_X11_write_40 rfl g0 ?_
      refine r_iload_n d_X11_write_41 rfl g1 ?_
      replace e := bd e
      obtain ⟨q12, eq12, e⟩ := e
      refine g_callV d_X11_write_42 vk_12_247 (as := [_]) rfl (tO_pE (tO_pE k1)) rfl (by simp [zrf_cat, cat_int, cat_long]) (j := 1) (by omega) (c_X11_down (by omega) eq12) ?_
      refine r_iconst d_X11_write_45 (v := (0 : Int32)) (by decide +kernel) ?_
      cases e
      exact g_iret d_X11_write_46 rfl rfl

theorem c_X11_write {G : Gd} {j : Nat} (hj : 2 ≤ j) {l0 : Nat} {l1 : Int32} {l2 : Int32} {h : Hp} {o : (Int32 × Hp)} (e : f_X11_write l0 l1 l2 h = some o) : Cal G j Y_X11_write [zrf (l0), .int (l1), .int (l2)] h (some (.int o.1)) o.2 := Cal.of (n := 0) (I := false) (by decide +kernel) (by decide) (by simp [lg_sl, zrf_cat, cat_int, cat_long]) (f_X11_write_ok hj _ _ _ _ h o (by simp [lv_args, zlk, zrf_cat, cat_int, cat_long]) (by simp [lv_args, zlk, zrf_cat, cat_int, cat_long]) (by simp [lv_args, zlk, zrf_cat, cat_int, cat_long]) e)
theorem vk_12_251 : Vk "TaskWeaveModel" 251 2 12 Y_X11_write := ⟨yk_X11_write, by decide +kernel, by decide +kernel, by decide +kernel, by decide⟩
def f_X11_makeAlike_65 : Nat → Nat → Int32 → Int32 → Int32 → Int32 → Hp → Option Hp
  | 0, _, _, _, _, _, _ => none
  | n + 1, l0, l1, l2, l3, l4, h => if (l4) = (0) then (some (h)) else (ck (isO (h) (l0) 12) (ck (isO (h) (zR (h) 1231 (l0)) 22) (ck (inR (l2) (zL (h) (zR (h) 1231 (l0)))) (if (zE (h) (zR (h) 1231 (l0)) (l2).toNatClampNeg) ≤ (l3) then (some (h)) else (ck (isO (h) (zR (h) 1230 (l0)) 22) (ck (inR ((((8192 : Int32)) * (l2)) + (l3)) (zL (h) (zR (h) 1230 (l0)))) ((f_X11_write (l0) (l1) (zE (h) (zR (h) 1230 (l0)) ((((8192 : Int32)) * (l2)) + (l3)).toNatClampNeg) (h)).bind (fun q23 => bh ((l3) + (1 : Int32)) (fun x24 => f_X11_makeAlike_65 n (l0) (l1) (l2) (x24) (q23.1) (q23.2))))))))))
theorem f_X11_makeAlike_65_ok {G : Gd} {d : Nat} (hj : 3 ≤ d) : ∀ (n : Nat) (l0 : Nat) (l1 : Int32) (l2 : Int32) (l3 : Int32) (l4 : Int32) (L : List (Nat × Value)) (h : Hp) (o : Hp), zlk L 0 = some (zrf (l0)) → zlk L 1 = some (.int (l1)) → zlk L 2 = some (.int (l2)) → zlk L 3 = some (.int (l3)) → zlk L 4 = some (.int (l4)) → f_X11_makeAlike_65 n l0 l1 l2 l3 l4 h = some o → Ev G M_X11_makeAlike d 65 L [] h (Ret Y_X11_makeAlike none o) := by
  intro n
  induction n with
  | zero =>
    intro l0 l1 l2 l3 l4 L h o g0 g1 g2 g3 g4 e
    cases e
  | succ n ih =>
    intro l0 l1 l2 l3 l4 L h o g0 g1 g2 g3 g4 e
    unfold f_X11_makeAlike_65 at e
    refine r_iload d_X11_makeAlike_65 g4 ?_
    refine r_if_eq d_X11_makeAlike_67 (tgt := 105) (by decide) (fun c16 => ?_) (fun c16 => ?_)
    · replace e := (if_pos c16).symm.trans e
      cases e
      exact g_vret d_X11_makeAlike_105 rfl
    · replace e := (if_neg c16).symm.trans e
      refine r_iload_n d_X11_makeAlike_70 rfl g3 ?_
      refine g_ald_n d_X11_makeAlike_71 rfl g0 ?_
      replace e := ckd e
      obtain ⟨k17, e⟩ := e
      refine g_getR d_X11_makeAlike_72 (f := 1231) k17 fk_12_83 rfl rfl ?_
      refine r_iload_n d_X11_makeAlike_75 rfl g2 ?_
      replace e := ckd e
      obtain ⟨k18, e⟩ := e
      replace e := ckd e
      obtain ⟨k19, e⟩ := e
      refine g_iald d_X11_makeAlike_76 k18 k19 rfl ?_
      refine r_icmp_ge d_X11_makeAlike_77 (tgt := 105) (by decide) (fun c20 => ?_) (fun c20 => ?_)
      · replace e := (if_pos c20).symm.trans e
        cases e
        exact g_vret d_X11_makeAlike_105 rfl
      · replace e := (if_neg c20).symm.trans e
        refine g_ald_n d_X11_makeAlike_80 rfl g0 ?_
        refine r_iload_n d_X11_makeAlike_81 rfl g1 ?_
        refine g_ald_n d_X11_makeAlike_82 rfl g0 ?_
        refine g_getR d_X11_makeAlike_83 (f := 1230) k17 fk_12_80 rfl rfl ?_
        refine r_sipush d_X11_makeAlike_86 (v := (8192 : Int32)) (by decide +kernel) ?_
        refine r_iload_n d_X11_makeAlike_89 rfl g2 ?_
        refine r_imul d_X11_makeAlike_90 ?_
        refine r_iload_n d_X11_makeAlike_91 rfl g3 ?_
        refine r_iadd d_X11_makeAlike_92 ?_
        replace e := ckd e
        obtain ⟨k21, e⟩ := e
        replace e := ckd e
        obtain ⟨k22, e⟩ := e
        refine g_iald d_X11_makeAlike_93 k21 k22 rfl ?_
        replace e := bd e
        obtain ⟨q23, eq23, e⟩ := e
        refine g_callV d_X11_makeAlike_94 vk_12_251 (as := [_, _]) rfl k17 rfl (by simp [zrf_cat, cat_int, cat_long]) (j := 2) (by omega) (c_X11_write (by omega) eq23) ?_
        refine s_istore d_X11_makeAlike_97 (by decide) (fun L g4 gK => ?_)
        replace g0 := gK _ _ (by decide) (Or.inr (zrf_cat _)) g0
        replace g1 := gK _ _ (by decide) (Or.inr rfl) g1
        replace g2 := gK _ _ (by decide) (Or.inr rfl) g2
        replace g3 := gK _ _ (by decide) (Or.inr rfl) g3
        replace e := bhd e
        obtain ⟨_, rfl, e⟩ := e
        refine s_iinc d_X11_makeAlike_99 g3 (w := (1 : Int32)) (by decide +kernel) (by decide) (fun L g3 gK => ?_)
        replace g0 := gK _ _ (by decide) (Or.inr (zrf_cat _)) g0
        replace g1 := gK _ _ (by decide) (Or.inr rfl) g1
        replace g2 := gK _ _ (by decide) (Or.inr rfl) g2
        replace g4 := gK _ _ (by decide) (Or.inr rfl) g4
        refine r_goto d_X11_makeAlike_102 (tgt := 65) (by decide) ?_
        exact ih _ _ _ _ _ _ _ _ g0 g1 g2 g3 g4 e

def f_X11_makeAlike_55 (l0 : Nat) (l1 : Int32) (l2 : Int32) (l3 : Int32) (h : Hp) : Option Hp := ck (isO (h) (l0) 12) (ck (isO (h) (zR (h) 1231 (l0)) 22) (ck (inR (l1) (zL (h) (zR (h) 1231 (l0)))) (bh (pE (h) (zR (h) 1231 (l0)) (l1).toNatClampNeg (l3)) (fun h15 => f_X11_makeAlike_65 fz (l0) (l1) (l2) (l3) ((1 : Int32)) (h15)))))
theorem f_X11_makeAlike_55_ok {G : Gd} {d : Nat} (hj : 3 ≤ d) : ∀ (l0 : Nat) (l1 : Int32) (l2 : Int32) (l3 : Int32) (L : List (Nat × Value)) (h : Hp) (o : Hp), zlk L 0 = some (zrf (l0)) → zlk L 1 = some (.int (l1)) → zlk L 2 = some (.int (l2)) → zlk L 3 = some (.int (l3)) → f_X11_makeAlike_55 l0 l1 l2 l3 h = some o → Ev G M_X11_makeAlike d 55 L [] h (Ret Y_X11_makeAlike none o) := by
  intro l0 l1 l2 l3 L h o g0 g1 g2 g3 e
  unfold f_X11_makeAlike_55 at e
  refine g_ald_n d_X11_makeAlike_55 rfl g0 ?_
  replace e := ckd e
  obtain ⟨k12, e⟩ := e
  refine g_getR d_X11_makeAlike_56 (f := 1231) k12 fk_12_83 rfl rfl ?_
  refine r_iload_n d_X11_makeAlike_59 rfl g1 ?_
  refine r_iload_n d_X11_makeAlike_60 rfl g3 ?_
  replace e := ckd e
  obtain ⟨k13, e⟩ := e
  replace e := ckd e
  obtain ⟨k14, e⟩ := e
  refine g_iast d_X11_makeAlike_61 k13 k14 ?_
  replace e := bhd e
  obtain ⟨_, rfl, e⟩ := e
  refine r_iconst d_X11_makeAlike_62 (v := (1 : Int32)) (by decide +kernel) ?_
  refine s_istore d_X11_makeAlike_63 (by decide) (fun L g4 gK => ?_)
  replace g0 := gK _ _ (by decide) (Or.inr (zrf_cat _)) g0
  replace g1 := gK _ _ (by decide) (Or.inr rfl) g1
  replace g2 := gK _ _ (by decide) (Or.inr rfl) g2
  replace g3 := gK _ _ (by decide) (Or.inr rfl) g3
  exact f_X11_makeAlike_65_ok hj _ _ _ _ _ _ _ _ _ g0 g1 g2 g3 g4 e

def f_X11_makeAlike_2 : Nat → Nat → Int32 → Int32 → Int32 → Hp → Option Hp
  | 0, _, _, _, _, _ => none
  | n + 1, l0, l1, l2, l3, h => ck (isO (h) (l0) 12) (ck (isO (h) (zR (h) 1231 (l0)) 22) (ck (inR (l1) (zL (h) (zR (h) 1231 (l0)))) (if (zE (h) (zR (h) 1231 (l0)) (l1).toNatClampNeg) ≤ (l3) then (f_X11_makeAlike_55 (l0) (l1) (l2) (l3) (h)) else (ck (inR (l2) (zL (h) (zR (h) 1231 (l0)))) (if (zE (h) (zR (h) 1231 (l0)) (l2).toNatClampNeg) ≤ (l3) then (f_X11_makeAlike_55 (l0) (l1) (l2) (l3) (h)) else (ck (isO (h) (zR (h) 1230 (l0)) 22) (ck (inR ((((8192 : Int32)) * (l1)) + (l3)) (zL (h) (zR (h) 1230 (l0)))) (ck (inR ((((8192 : Int32)) * (l2)) + (l3)) (zL (h) (zR (h) 1230 (l0)))) (if (zE (h) (zR (h) 1230 (l0)) ((((8192 : Int32)) * (l1)) + (l3)).toNatClampNeg) = (zE (h) (zR (h) 1230 (l0)) ((((8192 : Int32)) * (l2)) + (l3)).toNatClampNeg) then (bh ((l3) + (1 : Int32)) (fun x11 => f_X11_makeAlike_2 n (l0) (l1) (l2) (x11) (h))) else (f_X11_makeAlike_55 (l0) (l1) (l2) (l3) (h)))))))))))
theorem f_X11_makeAlike_2_ok {G : Gd} {d : Nat} (hj : 3 ≤ d) : ∀ (n : Nat) (l0 : Nat) (l1 : Int32) (l2 : Int32) (l3 : Int32) (L : List (Nat × Value)) (h : Hp) (o : Hp), zlk L 0 = some (zrf (l0)) → zlk L 1 = some (.int (l1)) → zlk L 2 = some (.int (l2)) → zlk L 3 = some (.int (l3)) → f_X11_makeAlike_2 n l0 l1 l2 l3 h = some o → Ev G M_X11_makeAlike d 2 L [] h (Ret Y_X11_makeAlike none o) := by
  intro n
  induction n with
  | zero =>
    intro l0 l1 l2 l3 L h o g0 g1 g2 g3 e
    cases e
  | succ n ih =>
    intro l0 l1 l2 l3 L h o g0 g1 g2 g3 e
    unfold f_X11_makeAlike_2 at e
    refine r_iload_n d_X11_makeAlike_2 rfl g3 ?_
    refine g_ald_n d_X11_makeAlike_3 rfl g0 ?_
    replace e := ckd e
    obtain ⟨k1, e⟩ := e
    refine g_getR d_X11_makeAlike_4 (f := 1231) k1 fk_12_83 rfl rfl ?_
    refine r_iload_n d_X11_makeAlike_7 rfl g1 ?_
    replace e := ckd e
    obtain ⟨k2, e⟩ := e
    replace e := ckd e
    obtain ⟨k3, e⟩ := e
    refine g_iald d_X11_makeAlike_8 k2 k3 rfl ?_
    refine r_icmp_ge d_X11_makeAlike_9 (tgt := 55) (by decide) (fun c4 => ?_) (fun c4 => ?_)
    · replace e := (if_pos c4).symm.trans e
      exact f_X11_makeAlike_55_ok hj _ _ _ _ _ _ _ g0 g1 g2 g3 e
    · replace e := (if_neg c4).symm.trans e
      refine r_iload_n d_X11_makeAlike_12 rfl g3 ?_
      refine g_ald_n d_X11_makeAlike_13 rfl g0 ?_
      refine g_getR d_X11_makeAlike_14 (f := 1231) k1 fk_12_83 rfl rfl ?_
      refine r_iload_n d_X11_makeAlike_17 rfl g2 ?_
      replace e := ckd e
      obtain ⟨k5, e⟩ := e
      refine g_iald d_X11_makeAlike_18 k2 k5 rfl ?_
      refine r_icmp_ge d_X11_makeAlike_19 (tgt := 55) (by decide) (fun c6 => ?_) (fun c6 => ?_)
      · replace e := (if_pos c6).symm.trans e
        exact f_X11_makeAlike_55_ok hj _ _ _ _ _ _ _ g0 g1 g2 g3 e
      · replace e := (if_neg c6).symm.trans e
        refine g_ald_n d_X11_makeAlike_22 rfl g0 ?_
        refine g_getR d_X11_makeAlike_23 (f := 1230) k1 fk_12_80 rfl rfl ?_
        refine r_sipush d_X11_makeAlike_26 (v := (8192 : Int32)) (by decide +kernel) ?_
        refine r_iload_n d_X11_makeAlike_29 rfl g1 ?_
        refine r_imul d_X11_makeAlike_30 ?_
        refine r_iload_n d_X11_makeAlike_31 rfl g3 ?_
        refine r_iadd d_X11_makeAlike_32 ?_
        replace e := ckd e
        obtain ⟨k7, e⟩ := e
        replace e := ckd e
        obtain ⟨k8, e⟩ := e
        refine g_iald d_X11_makeAlike_33 k7 k8 rfl ?_
        refine g_ald_n d_X11_makeAlike_34 rfl g0 ?_
        refine g_getR d_X11_makeAlike_35 (f := 1230) k1 fk_12_80 rfl rfl ?_
        refine r_sipush d_X11_makeAlike_38 (v := (8192 : Int32)) (by decide +kernel) ?_
        refine r_iload_n d_X11_makeAlike_41 rfl g2 ?_
        refine r_imul d_X11_makeAlike_42 ?_
        refine r_iload_n d_X11_makeAlike_43 rfl g3 ?_
        refine r_iadd d_X11_makeAlike_44 ?_
        replace e := ckd e
        obtain ⟨k9, e⟩ := e
        refine g_iald d_X11_makeAlike_45 k7 k9 rfl ?_
        refine r_icmp_ne d_X11_makeAlike_46 (tgt := 55) (by decide) (fun c10 => ?_) (fun c10 => ?_)
        · replace e := (if_neg c10).symm.trans e
          exact f_X11_makeAlike_55_ok hj _ _ _ _ _ _ _ g0 g1 g2 g3 e
        · replace e := (if_pos c10).symm.trans e
          replace e := bhd e
          obtain ⟨_, rfl, e⟩ := e
          refine s_iinc d_X11_makeAlike_49 g3 (w := (1 : Int32)) (by decide +kernel) (by decide) (fun L g3 gK => ?_)
          replace g0 := gK _ _ (by decide) (Or.inr (zrf_cat _)) g0
          replace g1 := gK _ _ (by decide) (Or.inr rfl) g1
          replace g2 := gK _ _ (by decide) (Or.inr rfl) g2
          refine r_goto d_X11_makeAlike_52 (tgt := 2) (by decide) ?_
          exact ih _ _ _ _ _ _ _ g0 g1 g2 g3 e

def f_X11_makeAlike (l0 : Nat) (l1 : Int32) (l2 : Int32) (h : Hp) : Option Hp := f_X11_makeAlike_2 fz (l0) (l1) (l2) ((0 : Int32)) (h)
theorem f_X11_makeAlike_ok {G : Gd} {d : Nat} (hj : 3 ≤ d) : ∀ (l0 : Nat) (l1 : Int32) (l2 : Int32) (L : List (Nat × Value)) (h : Hp) (o : Hp), zlk L 0 = some (zrf (l0)) → zlk L 1 = some (.int (l1)) → zlk L 2 = some (.int (l2)) → f_X11_makeAlike l0 l1 l2 h = some o → Ev G M_X11_makeAlike d 0 L [] h (Ret Y_X11_makeAlike none o) := by
  intro l0 l1 l2 L h o g0 g1 g2 e
  unfold f_X11_makeAlike at e
  refine r_iconst d_X11_makeAlike_0 (v := (0 : Int32)) (by decide +kernel) ?_
  refine s_istore_n d_X11_makeAlike_1 rfl (by decide) (fun L g3 gK => ?_)
  replace g0 := gK _ _ (by decide) (Or.inr (zrf_cat _)) g0
  replace g1 := gK _ _ (by decide) (Or.inr rfl) g1
  replace g2 := gK _ _ (by decide) (Or.inr rfl) g2
  exact f_X11_makeAlike_2_ok hj _ _ _ _ _ _ _ _ g0 g1 g2 g3 e

theorem c_X11_makeAlike {G : Gd} {j : Nat} (hj : 3 ≤ j) {l0 : Nat} {l1 : Int32} {l2 : Int32} {h : Hp} {o : Hp} (e : f_X11_makeAlike l0 l1 l2 h = some o) : Cal G j Y_X11_makeAlike [zrf (l0), .int (l1), .int (l2)] h none o := Cal.of (n := 0) (I := false) (by decide +kernel) (by decide) (by simp [lg_sl, zrf_cat, cat_int, cat_long]) (f_X11_makeAlike_ok hj _ _ _ _ h o (by simp [lv_args, zlk, zrf_cat, cat_int, cat_long]) (by simp [lv_args, zlk, zrf_cat, cat_int, cat_long]) (by simp [lv_args, zlk, zrf_cat, cat_int, cat_long]) e)
def f_X11_ups_33 (K4 : Nat → Int32 → Int32 → Int32 → Hp → Option (Int32 × Hp)) (s0 : Int32) (s1 : Int32) (l0 : Nat) (l1 : Int32) (l3 : Int32) (h : Hp) : Option (Int32 × Hp) := bh ((s0) + (s1)) (fun x8 => bh ((l3) + (1 : Int32)) (fun x9 => K4 (l0) (l1) (x8) (x9) (h)))
theorem f_X11_ups_33_ok {G : Gd} {d : Nat} (K4 : Nat → Int32 → Int32 → Int32 → Hp → Option (Int32 × Hp)) (hj : 1 ≤ d) (hK4 : ∀ (l0 : Nat) (l1 : Int32) (l2 : Int32) (l3 : Int32) (L : List (Nat × Value)) (h : Hp) (o : (Int32 × Hp)), zlk L 0 = some (zrf (l0)) → zlk L 1 = some (.int (l1)) → zlk L 2 = some (.int (l2)) → zlk L 3 = some (.int (l3)) → K4 l0 l1 l2 l3 h = some o → Ev G M_X11_ups d 4 L [] h (Ret Y_X11_ups (some (.int o.1)) o.2)) : ∀ (s0 : Int32) (s1 : Int32) (l0 : Nat) (l1 : Int32) (l3 : Int32) (L : List (Nat × Value)) (h : Hp) (o : (Int32 × Hp)), zlk L 0 = some (zrf (l0)) → zlk L 1 = some (.int (l1)) → zlk L 3 = some (.int (l3)) → f_X11_ups_33 K4 s0 s1 l0 l1 l3 h = some o → Ev G M_X11_ups d 33 L [.int (s1), .int (s0)] h (Ret Y_X11_ups (some (.int o.1)) o.2) := by
  intro s0 s1 l0 l1 l3 L h o g0 g1 g3 e
  unfold f_X11_ups_33 at e
  refine r_iadd d_X11_ups_33 ?_
  replace e := bhd e
  obtain ⟨_, rfl, e⟩ := e
  refine s_istore_n d_X11_ups_34 rfl (by decide) (fun L g2 gK => ?_)
  replace g0 := gK _ _ (by decide) (Or.inr (zrf_cat _)) g0
  replace g1 := gK _ _ (by decide) (Or.inr rfl) g1
  replace g3 := gK _ _ (by decide) (Or.inr rfl) g3
  replace e := bhd e
  obtain ⟨_, rfl, e⟩ := e
  refine s_iinc d_X11_ups_35 g3 (w := (1 : Int32)) (by decide +kernel) (by decide) (fun L g3 gK => ?_)
  replace g0 := gK _ _ (by decide) (Or.inr (zrf_cat _)) g0
  replace g1 := gK _ _ (by decide) (Or.inr rfl) g1
  replace g2 := gK _ _ (by decide) (Or.inr rfl) g2
  refine r_goto d_X11_ups_38 (tgt := 4) (by decide) ?_
  exact hK4 _ _ _ _ _ _ _ g0 g1 g2 g3 e

def f_X11_ups_4 : Nat → Nat → Int32 → Int32 → Int32 → Hp → Option (Int32 × Hp)
  | 0, _, _, _, _, _ => none
  | n + 1, l0, l1, l2, l3, h => ck (isO (h) (l0) 12) (ck (isO (h) (zR (h) 1236 (l0)) 22) (ck (inR (l1) (zL (h) (zR (h) 1236 (l0)))) (if (zE (h) (zR (h) 1236 (l0)) (l1).toNatClampNeg) ≤ (l3) then (some (l2, h)) else (ck (isO (h) (zR (h) 1234 (l0)) 23) (ck (inR ((((5 : Int32)) * (l1)) + (l3)) (zL (h) (zR (h) 1234 (l0)))) (if (zE (h) (zR (h) 1234 (l0)) ((((5 : Int32)) * (l1)) + (l3)).toNatClampNeg) = (0) then (f_X11_ups_33 (f_X11_ups_4 n ) (l2) ((0 : Int32)) (l0) (l1) (l3) (h)) else (f_X11_ups_33 (f_X11_ups_4 n ) (l2) ((1 : Int32)) (l0) (l1) (l3) (h))))))))
theorem f_X11_ups_4_ok {G : Gd} {d : Nat} (hj : 1 ≤ d) : ∀ (n : Nat) (l0 : Nat) (l1 : Int32) (l2 : Int32) (l3 : Int32) (L : List (Nat × Value)) (h : Hp) (o : (Int32 × Hp)), zlk L 0 = some (zrf (l0)) → zlk L 1 = some (.int (l1)) → zlk L 2 = some (.int (l2)) → zlk L 3 = some (.int (l3)) → f_X11_ups_4 n l0 l1 l2 l3 h = some o → Ev G M_X11_ups d 4 L [] h (Ret Y_X11_ups (some (.int o.1)) o.2) := by
  intro n
  induction n with
  | zero =>
    intro l0 l1 l2 l3 L h o g0 g1 g2 g3 e
    cases e
  | succ n ih =>
    intro l0 l1 l2 l3 L h o g0 g1 g2 g3 e
    unfold f_X11_ups_4 at e
    refine r_iload_n d_X11_ups_4 rfl g3 ?_
    refine g_ald_n d_X11_ups_5 rfl g0 ?_
    replace e := ckd e
    obtain ⟨k1, e⟩ := e
    refine g_getR d_X11_ups_6 (f := 1236) k1 fk_12_98 rfl rfl ?_
    refine r_iload_n d_X11_ups_9 rfl g1 ?_
    replace e := ckd e
    obtain ⟨k2, e⟩ := e
    replace e := ckd e
    obtain ⟨k3, e⟩ := e
    refine g_iald d_X11_ups_10 k2 k3 rfl ?_
    refine r_icmp_ge d_X11_ups_11 (tgt := 41) (by decide) (fun c4 => ?_) (fun c4 => ?_)
    · replace e := (if_pos c4).symm.trans e
      refine r_iload_n d_X11_ups_41 rfl g2 ?_
      cases e
      exact g_iret d_X11_ups_42 rfl rfl
    · replace e := (if_neg c4).symm.trans e
      refine r_iload_n d_X11_ups_14 rfl g2 ?_
      refine g_ald_n d_X11_ups_15 rfl g0 ?_
      refine g_getR d_X11_ups_16 (f := 1234) k1 fk_12_92 rfl rfl ?_
      refine r_iconst d_X11_ups_19 (v := (5 : Int32)) (by decide +kernel) ?_
      refine r_iload_n d_X11_ups_20 rfl g1 ?_
      refine r_imul d_X11_ups_21 ?_
      refine r_iload_n d_X11_ups_22 rfl g3 ?_
      refine r_iadd d_X11_ups_23 ?_
      replace e := ckd e
      obtain ⟨k5, e⟩ := e
      replace e := ckd e
      obtain ⟨k6, e⟩ := e
      refine g_zald d_X11_ups_24 k5 k6 rfl ?_
      refine r_if_eq d_X11_ups_25 (tgt := 32) (by decide) (fun c7 => ?_) (fun c7 => ?_)
      · replace e := (if_pos c7).symm.trans e
        refine r_iconst d_X11_ups_32 (v := (0 : Int32)) (by decide +kernel) ?_
        exact f_X11_ups_33_ok _ hj ih _ _ _ _ _ _ _ _ g0 g1 g3 e
      · replace e := (if_neg c7).symm.trans e
        refine r_iconst d_X11_ups_28 (v := (1 : Int32)) (by decide +kernel) ?_
        refine r_goto d_X11_ups_29 (tgt := 33) (by decide) ?_
        exact f_X11_ups_33_ok _ hj ih _ _ _ _ _ _ _ _ g0 g1 g3 e

def f_X11_ups (l0 : Nat) (l1 : Int32) (h : Hp) : Option (Int32 × Hp) := f_X11_ups_4 fz (l0) (l1) ((0 : Int32)) ((0 : Int32)) (h)
theorem f_X11_ups_ok {G : Gd} {d : Nat} (hj : 1 ≤ d) : ∀ (l0 : Nat) (l1 : Int32) (L : List (Nat × Value)) (h : Hp) (o : (Int32 × Hp)), zlk L 0 = some (zrf (l0)) → zlk L 1 = some (.int (l1)) → f_X11_ups l0 l1 h = some o → Ev G M_X11_ups d 0 L [] h (Ret Y_X11_ups (some (.int o.1)) o.2) := by
  intro l0 l1 L h o g0 g1 e
  unfold f_X11_ups at e
  refine r_iconst d_X11_ups_0 (v := (0 : Int32)) (by decide +kernel) ?_
  refine s_istore_n d_X11_ups_1 rfl (by decide) (fun L g2 gK => ?_)
  replace g0 := gK _ _ (by decide) (Or.inr (zrf_cat _)) g0
  replace g1 := gK _ _ (by decide) (Or.inr rfl) g1
  refine r_iconst d_X11_ups_2 (v := (0 : Int32)) (by decide +kernel) ?_
  refine s_istore_n d_X11_ups_3 rfl (by decide) (fun L g3 gK => ?_)
  replace g0 := gK _ _ (by decide) (Or.inr (zrf_cat _)) g0
  replace g1 := gK _ _ (by decide) (Or.inr rfl) g1
  replace g2 := gK _ _ (by decide) (Or.inr rfl) g2
  exact f_X11_ups_4_ok hj _ _ _ _ _ _ _ _ g0 g1 g2 g3 e

theorem c_X11_ups {G : Gd} {j : Nat} (hj : 1 ≤ j) {l0 : Nat} {l1 : Int32} {h : Hp} {o : (Int32 × Hp)} (e : f_X11_ups l0 l1 h = some o) : Cal G j Y_X11_ups [zrf (l0), .int (l1)] h (some (.int o.1)) o.2 := Cal.of (n := 0) (I := false) (by decide +kernel) (by decide) (by simp [lg_sl, zrf_cat, cat_int, cat_long]) (f_X11_ups_ok hj _ _ _ h o (by simp [lv_args, zlk, zrf_cat, cat_int, cat_long]) (by simp [lv_args, zlk, zrf_cat, cat_int, cat_long]) e)
def f_X11_spread_69 (K21 : Nat → Int32 → Int32 → Int32 → Int32 → Int32 → Hp → Option (Int32 × Hp)) (l0 : Nat) (l1 : Int32) (l2 : Int32) (l3 : Int32) (l4 : Int32) (l5 : Int32) (h : Hp) : Option (Int32 × Hp) := bh ((l5) + (1 : Int32)) (fun x16 => K21 (l0) (l1) (l2) (l3) (l4) (x16) (h))
theorem f_X11_spread_69_ok {G : Gd} {d : Nat} (K21 : Nat → Int32 → Int32 → Int32 → Int32 → Int32 → Hp → Option (Int32 × Hp)) (hj : 3 ≤ d) (hK21 : ∀ (l0 : Nat) (l1 : Int32) (l2 : Int32) (l3 : Int32) (l4 : Int32) (l5 : Int32) (L : List (Nat × Value)) (h : Hp) (o : (Int32 × Hp)), zlk L 0 = some (zrf (l0)) → zlk L 1 = some (.int (l1)) → zlk L 2 = some (.int (l2)) → zlk L 3 = some (.int (l3)) → zlk L 4 = some (.int (l4)) → zlk L 5 = some (.int (l5)) → K21 l0 l1 l2 l3 l4 l5 h = some o → Ev G M_X11_spread d 21 L [] h (Ret Y_X11_spread (some (.int o.1)) o.2)) : ∀ (l0 : Nat) (l1 : Int32) (l2 : Int32) (l3 : Int32) (l4 : Int32) (l5 : Int32) (L : List (Nat × Value)) (h : Hp) (o : (Int32 × Hp)), zlk L 0 = some (zrf (l0)) → zlk L 1 = some (.int (l1)) → zlk L 2 = some (.int (l2)) → zlk L 3 = some (.int (l3)) → zlk L 4 = some (.int (l4)) → zlk L 5 = some (.int (l5)) → f_X11_spread_69 K21 l0 l1 l2 l3 l4 l5 h = some o → Ev G M_X11_spread d 69 L [] h (Ret Y_X11_spread (some (.int o.1)) o.2) := by
  intro l0 l1 l2 l3 l4 l5 L h o g0 g1 g2 g3 g4 g5 e
  unfold f_X11_spread_69 at e
  replace e := bhd e
  obtain ⟨_, rfl, e⟩ := e
  refine s_iinc d_X11_spread_69 g5 (w := (1 : Int32)) (by decide +kernel) (by decide) (fun L g5 gK => ?_)
  replace g0 := gK _ _ (by decide) (Or.inr (zrf_cat _)) g0
  replace g1 := gK _ _ (by decide) (Or.inr rfl) g1
  replace g2 := gK _ _ (by decide) (Or.inr rfl) g2
  replace g3 := gK _ _ (by decide) (Or.inr rfl) g3
  replace g4 := gK _ _ (by decide) (Or.inr rfl) g4
  refine r_goto d_X11_spread_72 (tgt := 21) (by decide) ?_
  exact hK21 _ _ _ _ _ _ _ _ _ g0 g1 g2 g3 g4 g5 e

def f_X11_spread_21 : Nat → Nat → Int32 → Int32 → Int32 → Int32 → Int32 → Hp → Option (Int32 × Hp)
  | 0, _, _, _, _, _, _, _ => none
  | n + 1, l0, l1, l2, l3, l4, l5, h => ck (isO (h) (l0) 12) (ck (isO (h) (zR (h) 1236 (l0)) 22) (ck (inR (l1) (zL (h) (zR (h) 1236 (l0)))) (if (zE (h) (zR (h) 1236 (l0)) (l1).toNatClampNeg) ≤ (l5) then (if (((2 : Int32)) * (l4)) ≤ (zE (h) (zR (h) 1236 (l0)) (l1).toNatClampNeg) then (some ((0 : Int32), h)) else (some ((1 : Int32), h))) else (if (l5) = (l2) then (f_X11_spread_69 (f_X11_spread_21 n ) (l0) (l1) (l2) (l3) (l4) (l5) (h)) else (ck (isO (h) (zR (h) 1234 (l0)) 23) (ck (inR ((((5 : Int32)) * (l1)) + (l5)) (zL (h) (zR (h) 1234 (l0)))) (if (zE (h) (zR (h) 1234 (l0)) ((((5 : Int32)) * (l1)) + (l5)).toNatClampNeg) = (0) then (f_X11_spread_69 (f_X11_spread_21 n ) (l0) (l1) (l2) (l3) (l4) (l5) (h)) else ((f_X11_write (l0) ((((5 : Int32)) * (l1)) + (l5)) (l3) (h)).bind (fun q13 => if (q13.1) = (0) then (f_X11_spread_69 (f_X11_spread_21 n ) (l0) (l1) (l2) (l3) (l4) (l5) (q13.2)) else (bh ((l4) + (1 : Int32)) (fun x15 => f_X11_spread_69 (f_X11_spread_21 n ) (l0) (l1) (l2) (l3) (x15) (l5) (q13.2))))))))))))
theorem f_X11_spread_21_ok {G : Gd} {d : Nat} (hj : 3 ≤ d) : ∀ (n : Nat) (l0 : Nat) (l1 : Int32) (l2 : Int32) (l3 : Int32) (l4 : Int32) (l5 : Int32) (L : List (Nat × Value)) (h : Hp) (o : (Int32 × Hp)), zlk L 0 = some (zrf (l0)) → zlk L 1 = some (.int (l1)) → zlk L 2 = some (.int (l2)) → zlk L 3 = some (.int (l3)) → zlk L 4 = some (.int (l4)) → zlk L 5 = some (.int (l5)) → f_X11_spread_21 n l0 l1 l2 l3 l4 l5 h = some o → Ev G M_X11_spread d 21 L [] h (Ret Y_X11_spread (some (.int o.1)) o.2) := by
  intro n
  induction n with
  | zero =>
    intro l0 l1 l2 l3 l4 l5 L h o g0 g1 g2 g3 g4 g5 e
    cases e
  | succ n ih =>
    intro l0 l1 l2 l3 l4 l5 L h o g0 g1 g2 g3 g4 g5 e
    unfold f_X11_spread_21 at e
    refine r_iload d_X11_spread_21 g5 ?_
    refine g_ald_n d_X11_spread_23 rfl g0 ?_
    replace e := ckd e
    obtain ⟨k4, e⟩ := e
    refine g_getR d_X11_spread_24 (f := 1236) k4 fk_12_98 rfl rfl ?_
    refine r_iload_n d_X11_spread_27 rfl g1 ?_
    replace e := ckd e
    obtain ⟨k5, e⟩ := e
    replace e := ckd e
    obtain ⟨k6, e⟩ := e
    refine g_iald d_X11_spread_28 k5 k6 rfl ?_
    refine r_icmp_ge d_X11_spread_29 (tgt := 75) (by decide) (fun c7 => ?_) (fun c7 => ?_)
    · replace e := (if_pos c7).symm.trans e
      refine r_iconst d_X11_spread_75 (v := (2 : Int32)) (by decide +kernel) ?_
      refine r_iload d_X11_spread_76 g4 ?_
      refine r_imul d_X11_spread_78 ?_
      refine g_ald_n d_X11_spread_79 rfl g0 ?_
      refine g_getR d_X11_spread_80 (f := 1236) k4 fk_12_98 rfl rfl ?_
      refine r_iload_n d_X11_spread_83 rfl g1 ?_
      refine g_iald d_X11_spread_84 k5 k6 rfl ?_
      refine r_icmp_le d_X11_spread_85 (tgt := 92) (by decide) (fun c8 => ?_) (fun c8 => ?_)
      · replace e := (if_pos c8).symm.trans e
        refine r_iconst d_X11_spread_92 (v := (0 : Int32)) (by decide +kernel) ?_
        cases e
        exact g_iret d_X11_spread_93 rfl rfl
      · replace e := (if_neg c8).symm.trans e
        refine r_iconst d_X11_spread_88 (v := (1 : Int32)) (by decide +kernel) ?_
        refine r_goto d_X11_spread_89 (tgt := 93) (by decide) ?_
        cases e
        exact g_iret d_X11_spread_93 rfl rfl
    · replace e := (if_neg c7).symm.trans e
      refine r_iload d_X11_spread_32 g5 ?_
      refine r_iload_n d_X11_spread_34 rfl g2 ?_
      refine r_icmp_eq d_X11_spread_35 (tgt := 69) (by decide) (fun c9 => ?_) (fun c9 => ?_)
      · replace e := (if_pos c9).symm.trans e
        exact f_X11_spread_69_ok _ hj ih _ _ _ _ _ _ _ _ _ g0 g1 g2 g3 g4 g5 e
      · replace e := (if_neg c9).symm.trans e
        refine g_ald_n d_X11_spread_38 rfl g0 ?_
        refine g_getR d_X11_spread_39 (f := 1234) k4 fk_12_92 rfl rfl ?_
        refine r_iconst d_X11_spread_42 (v := (5 : Int32)) (by decide +kernel) ?_
        refine r_iload_n d_X11_spread_43 rfl g1 ?_
        refine r_imul d_X11_spread_44 ?_
        refine r_iload d_X11_spread_45 g5 ?_
        refine r_iadd d_X11_spread_47 ?_
        replace e := ckd e
        obtain ⟨k10, e⟩ := e
        replace e := ckd e
        obtain ⟨k11, e⟩ := e
        refine g_zald d_X11_spread_48 k10 k11 rfl ?_
        refine r_if_eq d_X11_spread_49 (tgt := 69) (by decide) (fun c12 => ?_) (fun c12 => ?_)
        · replace e := (if_pos c12).symm.trans e
          exact f_X11_spread_69_ok _ hj ih _ _ _ _ _ _ _ _ _ g0 g1 g2 g3 g4 g5 e
        · replace e := (if_neg c12).symm.trans e
          refine g_ald_n d_X11_spread_52 rfl g0 ?_
          refine r_iconst d_X11_spread_53 (v := (5 : Int32)) (by decide +kernel) ?_
          refine r_iload_n d_X11_spread_54 rfl g1 ?_
          refine r_imul d_X11_spread_55 ?_
          refine r_iload d_X11_spread_56 g5 ?_
          refine r_iadd d_X11_spread_58 ?_
          refine r_iload_n d_X11_spread_59 rfl g3 ?_
          replace e := bd e
          obtain ⟨q13, eq13, e⟩ := e
          refine g_callV d_X11_spread_60 vk_12_251 (as := [_, _]) rfl k4 rfl (by simp [zrf_cat, cat_int, cat_long]) (j := 2) (by omega) (c_X11_write (by omega) eq13) ?_
          refine r_if_eq d_X11_spread_63 (tgt := 69) (by decide) (fun c14 => ?_) (fun c14 => ?_)
          · replace e := (if_pos c14).symm.trans e
            exact f_X11_spread_69_ok _ hj ih _ _ _ _ _ _ _ _ _ g0 g1 g2 g3 g4 g5 e
          · replace e := (if_neg c14).symm.trans e
            replace e := bhd e
            obtain ⟨_, rfl, e⟩ := e
            refine s_iinc d_X11_spread_66 g4 (w := (1 : Int32)) (by decide +kernel) (by decide) (fun L g4 gK => ?_)
            replace g0 := gK _ _ (by decide) (Or.inr (zrf_cat _)) g0
            replace g1 := gK _ _ (by decide) (Or.inr rfl) g1
            replace g2 := gK _ _ (by decide) (Or.inr rfl) g2
            replace g3 := gK _ _ (by decide) (Or.inr rfl) g3
            replace g5 := gK _ _ (by decide) (Or.inr rfl) g5
            exact f_X11_spread_69_ok _ hj ih _ _ _ _ _ _ _ _ _ g0 g1 g2 g3 g4 g5 e

def f_X11_spread (l0 : Nat) (l1 : Int32) (l2 : Int32) (l3 : Int32) (h : Hp) : Option (Int32 × Hp) := ck (isO (h) (l0) 12) ((f_X11_write (l0) ((((5 : Int32)) * (l1)) + (l2)) (l3) (h)).bind (fun q1 => if (q1.1) = (0) then (some ((0 : Int32), q1.2)) else (f_X11_spread_21 fz (l0) (l1) (l2) (l3) ((1 : Int32)) ((0 : Int32)) (q1.2))))
theorem f_X11_spread_ok {G : Gd} {d : Nat} (hj : 3 ≤ d) : ∀ (l0 : Nat) (l1 : Int32) (l2 : Int32) (l3 : Int32) (L : List (Nat × Value)) (h : Hp) (o : (Int32 × Hp)), zlk L 0 = some (zrf (l0)) → zlk L 1 = some (.int (l1)) → zlk L 2 = some (.int (l2)) → zlk L 3 = some (.int (l3)) → f_X11_spread l0 l1 l2 l3 h = some o → Ev G M_X11_spread d 0 L [] h (Ret Y_X11_spread (some (.int o.1)) o.2) := by
  intro l0 l1 l2 l3 L h o g0 g1 g2 g3 e
  unfold f_X11_spread at e
  refine g_ald_n d_X11_spread_0 rfl g0 ?_
  refine r_iconst d_X11_spread_1 (v := (5 : Int32)) (by decide +kernel) ?_
  refine r_iload_n d_X11_spread_2 rfl g1 ?_
  refine r_imul d_X11_spread_3 ?_
  refine r_iload_n d_X11_spread_4 rfl g2 ?_
  refine r_iadd d_X11_spread_5 ?_
  refine r_iload_n d_X11_spread_6 rfl g3 ?_
  replace e := ckd e
  obtain ⟨k2, e⟩ := e
  replace e := bd e
  obtain ⟨q1, eq1, e⟩ := e
  refine g_callV d_X11_spread_7 vk_12_251 (as := [_, _]) rfl k2 rfl (by simp [zrf_cat, cat_int, cat_long]) (j := 2) (by omega) (c_X11_write (by omega) eq1) ?_
  refine r_if_ne d_X11_spread_10 (tgt := 15) (by decide) (fun c3 => ?_) (fun c3 => ?_)
  · replace e := (if_neg c3).symm.trans e
    refine r_iconst d_X11_spread_15 (v := (1 : Int32)) (by decide +kernel) ?_
    refine s_istore d_X11_spread_16 (by decide) (fun L g4 gK => ?_)
    replace g0 := gK _ _ (by decide) (Or.inr (zrf_cat _)) g0
    replace g1 := gK _ _ (by decide) (Or.inr rfl) g1
    replace g2 := gK _ _ (by decide) (Or.inr rfl) g2
    replace g3 := gK _ _ (by decide) (Or.inr rfl) g3
    refine r_iconst d_X11_spread_18 (v := (0 : Int32)) (by decide +kernel) ?_
    refine s_istore d_X11_spread_19 (by decide) (fun L g5 gK => ?_)
    replace g0 := gK _ _ (by decide) (Or.inr (zrf_cat _)) g0
    replace g1 := gK _ _ (by decide) (Or.inr rfl) g1
    replace g2 := gK _ _ (by decide) (Or.inr rfl) g2
    replace g3 := gK _ _ (by decide) (Or.inr rfl) g3
    replace g4 := gK _ _ (by decide) (Or.inr rfl) g4
    exact f_X11_spread_21_ok hj _ _ _ _ _ _ _ _ _ _ g0 g1 g2 g3 g4 g5 e
  · replace e := (if_pos c3).symm.trans e
    refine r_iconst d_X11_spread_13 (v := (0 : Int32)) (by decide +kernel) ?_
    cases e
    exact g_iret d_X11_spread_14 rfl rfl

theorem c_X11_spread {G : Gd} {j : Nat} (hj : 3 ≤ j) {l0 : Nat} {l1 : Int32} {l2 : Int32} {l3 : Int32} {h : Hp} {o : (Int32 × Hp)} (e : f_X11_spread l0 l1 l2 l3 h = some o) : Cal G j Y_X11_spread [zrf (l0), .int (l1), .int (l2), .int (l3)] h (some (.int o.1)) o.2 := Cal.of (n := 0) (I := false) (by decide +kernel) (by decide) (by simp [lg_sl, zrf_cat, cat_int, cat_long]) (f_X11_spread_ok hj _ _ _ _ _ h o (by simp [lv_args, zlk, zrf_cat, cat_int, cat_long]) (by simp [lv_args, zlk, zrf_cat, cat_int, cat_long]) (by simp [lv_args, zlk, zrf_cat, cat_int, cat_long]) (by simp [lv_args, zlk, zrf_cat, cat_int, cat_long]) e)
def f_X11_lastTerm (l0 : Nat) (l1 : Int32) (h : Hp) : Option (Int32 × Hp) := ck (isO (h) (l0) 12) (ck (isO (h) (zR (h) 1231 (l0)) 22) (ck (inR (l1) (zL (h) (zR (h) 1231 (l0)))) (if (zE (h) (zR (h) 1231 (l0)) (l1).toNatClampNeg) = (0) then (some ((0 : Int32), h)) else (ck (isO (h) (zR (h) 1230 (l0)) 22) (ck (inR (((((8192 : Int32)) * (l1)) + (zE (h) (zR (h) 1231 (l0)) (l1).toNatClampNeg)) - ((1 : Int32))) (zL (h) (zR (h) 1230 (l0)))) (ck (isO (h) (zR (h) 1226 (l0)) 22) (ck (inR (zE (h) (zR (h) 1230 (l0)) (((((8192 : Int32)) * (l1)) + (zE (h) (zR (h) 1231 (l0)) (l1).toNatClampNeg)) - ((1 : Int32))).toNatClampNeg) (zL (h) (zR (h) 1226 (l0)))) (some (zE (h) (zR (h) 1226 (l0)) (zE (h) (zR (h) 1230 (l0)) (((((8192 : Int32)) * (l1)) + (zE (h) (zR (h) 1231 (l0)) (l1).toNatClampNeg)) - ((1 : Int32))).toNatClampNeg).toNatClampNeg, h)))))))))
theorem f_X11_lastTerm_ok {G : Gd} {d : Nat} (hj : 1 ≤ d) : ∀ (l0 : Nat) (l1 : Int32) (L : List (Nat × Value)) (h : Hp) (o : (Int32 × Hp)), zlk L 0 = some (zrf (l0)) → zlk L 1 = some (.int (l1)) → f_X11_lastTerm l0 l1 h = some o → Ev G M_X11_lastTerm d 0 L [] h (Ret Y_X11_lastTerm (some (.int o.1)) o.2) := by
  intro l0 l1 L h o g0 g1 e
  unfold f_X11_lastTerm at e
  refine g_ald_n d_X11_lastTerm_0 rfl g0 ?_
  replace e := ckd e
  obtain ⟨k1, e⟩ := e
  refine g_getR d_X11_lastTerm_1 (f := 1231) k1 fk_12_83 rfl rfl ?_
  refine r_iload_n d_X11_lastTerm_4 rfl g1 ?_
  replace e := ckd e
  obtain ⟨k2, e⟩ := e
  replace e := ckd e
  obtain ⟨k3, e⟩ := e
  refine g_iald d_X11_lastTerm_5 k2 k3 rfl ?_
  refine r_if_ne d_X11_lastTerm_6 (tgt := 13) (by decide) (fun c4 => ?_) (fun c4 => ?_)
  · replace e := (if_neg c4).symm.trans e
    refine g_ald_n d_X11_lastTerm_13 rfl g0 ?_
    refine g_getR d_X11_lastTerm_14 (f := 1226) k1 fk_12_67 rfl rfl ?_
    refine g_ald_n d_X11_lastTerm_17 rfl g0 ?_
    refine g_getR d_X11_lastTerm_18 (f := 1230) k1 fk_12_80 rfl rfl ?_
    refine r_sipush d_X11_lastTerm_21 (v := (8192 : Int32)) (by decide +kernel) ?_
    refine r_iload_n d_X11_lastTerm_24 rfl g1 ?_
    refine r_imul d_X11_lastTerm_25 ?_
    refine g_ald_n d_X11_lastTerm_26 rfl g0 ?_
    refine g_getR d_X11_lastTerm_27 (f := 1231) k1 fk_12_83 rfl rfl ?_
    refine r_iload_n d_X11_lastTerm_30 rfl g1 ?_
    refine g_iald d_X11_lastTerm_31 k2 k3 rfl ?_
    refine r_iadd d_X11_lastTerm_32 ?_
    refine r_iconst d_X11_lastTerm_33 (v := (1 : Int32)) (by decide +kernel) ?_
    refine r_isub d_X11_lastTerm_34 ?_
    replace e := ckd e
    obtain ⟨k5, e⟩ := e
    replace e := ckd e
    obtain ⟨k6, e⟩ := e
    refine g_iald d_X11_lastTerm_35 k5 k6 rfl ?_
    replace e := ckd e
    obtain ⟨k7, e⟩ := e
    replace e := ckd e
    obtain ⟨k8, e⟩ := e
    refine g_iald d_X11_lastTerm_36 k7 k8 rfl ?_
    cases e
    exact g_iret d_X11_lastTerm_37 rfl rfl
  · replace e := (if_pos c4).symm.trans e
    refine r_iconst d_X11_lastTerm_9 (v := (0 : Int32)) (by decide +kernel) ?_
    refine r_goto d_X11_lastTerm_10 (tgt := 37) (by decide) ?_
    cases e
    exact g_iret d_X11_lastTerm_37 rfl rfl

theorem c_X11_lastTerm {G : Gd} {j : Nat} (hj : 1 ≤ j) {l0 : Nat} {l1 : Int32} {h : Hp} {o : (Int32 × Hp)} (e : f_X11_lastTerm l0 l1 h = some o) : Cal G j Y_X11_lastTerm [zrf (l0), .int (l1)] h (some (.int o.1)) o.2 := Cal.of (n := 0) (I := false) (by decide +kernel) (by decide) (by simp [lg_sl, zrf_cat, cat_int, cat_long]) (f_X11_lastTerm_ok hj _ _ _ h o (by simp [lv_args, zlk, zrf_cat, cat_int, cat_long]) (by simp [lv_args, zlk, zrf_cat, cat_int, cat_long]) e)
theorem vk_12_271 : Vk "TaskWeaveModel" 271 1 12 Y_X11_lastTerm := ⟨yk_X11_lastTerm, by decide +kernel, by decide +kernel, by decide +kernel, by decide⟩
def f_X11_isBetter (l0 : Nat) (l1 : Int32) (l2 : Int32) (h : Hp) : Option (Int32 × Hp) := ck (isO (h) (l0) 12) ((f_X11_lastTerm (l0) (l1) (h)).bind (fun q1 => ck (isO (q1.2) (l0) 12) ((f_X11_lastTerm (l0) (l2) (q1.2)).bind (fun q3 => if (q1.1) = (q3.1) then (ck (isO (q3.2) (l0) 12) (ck (isO (q3.2) (zR (q3.2) 1231 (l0)) 22) (ck (inR (l1) (zL (q3.2) (zR (q3.2) 1231 (l0)))) (ck (inR (l2) (zL (q3.2) (zR (q3.2) 1231 (l0)))) (if (zE (q3.2) (zR (q3.2) 1231 (l0)) (l1).toNatClampNeg) ≤ (zE (q3.2) (zR (q3.2) 1231 (l0)) (l2).toNatClampNeg) then (some ((0 : Int32), q3.2)) else (some ((1 : Int32), q3.2))))))) else (ck (isO (q3.2) (l0) 12) ((f_X11_lastTerm (l0) (l1) (q3.2)).bind (fun q11 => ck (isO (q11.2) (l0) 12) ((f_X11_lastTerm (l0) (l2) (q11.2)).bind (fun q13 => if (q11.1) ≤ (q13.1) then (some ((0 : Int32), q13.2)) else (some ((1 : Int32), q13.2)))))))))))
theorem f_X11_isBetter_ok {G : Gd} {d : Nat} (hj : 2 ≤ d) : ∀ (l0 : Nat) (l1 : Int32) (l2 : Int32) (L : List (Nat × Value)) (h : Hp) (o : (Int32 × Hp)), zlk L 0 = some (zrf (l0)) → zlk L 1 = some (.int (l1)) → zlk L 2 = some (.int (l2)) → f_X11_isBetter l0 l1 l2 h = some o → Ev G M_X11_isBetter d 0 L [] h (Ret Y_X11_isBetter (some (.int o.1)) o.2) := by
  intro l0 l1 l2 L h o g0 g1 g2 e
  unfold f_X11_isBetter at e
  refine g_ald_n d_X11_isBetter_0 rfl g0 ?_
  refine r_iload_n d_X11_isBetter_1 rfl g1 ?_
  replace e := ckd e
  obtain ⟨k2, e⟩ := e
  replace e := bd e
  obtain ⟨q1, eq1, e⟩ := e
  refine g_callV d_X11_isBetter_2 vk_12_271 (as := [_]) rfl k2 rfl (by simp [zrf_cat, cat_int, cat_long]) (j := 1) (by omega) (c_X11_lastTerm (by omega) eq1) ?_
  refine g_ald_n d_X11_isBetter_5 rfl g0 ?_
  refine r_iload_n d_X11_isBetter_6 rfl g2 ?_
  replace e := ckd e
  obtain ⟨k4, e⟩ := e
  replace e := bd e
  obtain ⟨q3, eq3, e⟩ := e
  refine g_callV d_X11_isBetter_7 vk_12_271 (as := [_]) rfl k4 rfl (by simp [zrf_cat, cat_int, cat_long]) (j := 1) (by omega) (c_X11_lastTerm (by omega) eq3) ?_
  refine r_icmp_eq d_X11_isBetter_10 (tgt := 34) (by decide) (fun c5 => ?_) (fun c5 => ?_)
  · replace e := (if_pos c5).symm.trans e
    refine g_ald_n d_X11_isBetter_34 rfl g0 ?_
    replace e := ckd e
    obtain ⟨k6, e⟩ := e
    refine g_getR d_X11_isBetter_35 (f := 1231) k6 fk_12_83 rfl rfl ?_
    refine r_iload_n d_X11_isBetter_38 rfl g1 ?_
    replace e := ckd e
    obtain ⟨k7, e⟩ := e
    replace e := ckd e
    obtain ⟨k8, e⟩ := e
    refine g_iald d_X11_isBetter_39 k7 k8 rfl ?_
    refine g_ald_n d_X11_isBetter_40 rfl g0 ?_
    refine g_getR d_X11_isBetter_41 (f := 1231) k6 fk_12_83 rfl rfl ?_
    refine r_iload_n d_X11_isBetter_44 rfl g2 ?_
    replace e := ckd e
    obtain ⟨k9, e⟩ := e
    refine g_iald d_X11_isBetter_45 k7 k9 rfl ?_
    refine r_icmp_le d_X11_isBetter_46 (tgt := 53) (by decide) (fun c10 => ?_) (fun c10 => ?_)
    · replace e := (if_pos c10).symm.trans e
      refine r_iconst d_X11_isBetter_53 (v := (0 : Int32)) (by decide +kernel) ?_
      cases e
      exact g_iret d_X11_isBetter_54 rfl rfl
    · replace e := (if_neg c10).symm.trans e
      refine r_iconst d_X11_isBetter_49 (v := (1 : Int32)) (by decide +kernel) ?_
      refine r_goto d_X11_isBetter_50 (tgt := 54) (by decide) ?_
      cases e
      exact g_iret d_X11_isBetter_54 rfl rfl
  · replace e := (if_neg c5).symm.trans e
    refine g_ald_n d_X11_isBetter_13 rfl g0 ?_
    refine r_iload_n d_X11_isBetter_14 rfl g1 ?_
    replace e := ckd e
    obtain ⟨k12, e⟩ := e
    replace e := bd e
    obtain ⟨q11, eq11, e⟩ := e
    refine g_callV d_X11_isBetter_15 vk_12_271 (as := [_]) rfl k12 rfl (by simp [zrf_cat, cat_int, cat_long]) (j := 1) (by omega) (c_X11_lastTerm (by omega) eq11) ?_
    refine g_ald_n d_X11_isBetter_18 rfl g0 ?_
    refine r_iload_n d_X11_isBetter_19 rfl g2 ?_
    replace e := ckd e
    obtain ⟨k14, e⟩ := e
    replace e := bd e
    obtain ⟨q13, eq13, e⟩ := e
    refine g_callV d_X11_isBetter_20 vk_12_271 (as := [_]) rfl k14 rfl (by simp [zrf_cat, cat_int, cat_long]) (j := 1) (by omega) (c_X11_lastTerm (by omega) eq13) ?_
    refine r_icmp_le d_X11_isBetter_23 (tgt := 30) (by decide) (fun c15 => ?_) (fun c15 => ?_)
    · replace e := (if_pos c15).symm.trans e
      refine r_iconst d_X11_isBetter_30 (v := (0 : Int32)) (by decide +kernel) ?_
      refine r_goto d_X11_isBetter_31 (tgt := 54) (by decide) ?_
      cases e
      exact g_iret d_X11_isBetter_54 rfl rfl
    · replace e := (if_neg c15).symm.trans e
      refine r_iconst d_X11_isBetter_26 (v := (1 : Int32)) (by decide +kernel) ?_
      refine r_goto d_X11_isBetter_27 (tgt := 54) (by decide) ?_
      cases e
      exact g_iret d_X11_isBetter_54 rfl rfl

theorem c_X11_isBetter {G : Gd} {j : Nat} (hj : 2 ≤ j) {l0 : Nat} {l1 : Int32} {l2 : Int32} {h : Hp} {o : (Int32 × Hp)} (e : f_X11_isBetter l0 l1 l2 h = some o) : Cal G j Y_X11_isBetter [zrf (l0), .int (l1), .int (l2)] h (some (.int o.1)) o.2 := Cal.of (n := 0) (I := false) (by decide +kernel) (by decide) (by simp [lg_sl, zrf_cat, cat_int, cat_long]) (f_X11_isBetter_ok hj _ _ _ _ h o (by simp [lv_args, zlk, zrf_cat, cat_int, cat_long]) (by simp [lv_args, zlk, zrf_cat, cat_int, cat_long]) (by simp [lv_args, zlk, zrf_cat, cat_int, cat_long]) e)
def f_X11_event (l0 : Nat) (l1 : Int32) (l2 : Int32) (h : Hp) : Option (Int32 × Hp) := ck (isO (h) (l0) 12) (ck (isO (h) (zR (h) 1240 (l0)) 22) (ck (inR ((((60 : Int32)) * (l1)) + (l2)) (zL (h) (zR (h) 1240 (l0)))) (some (zE (h) (zR (h) 1240 (l0)) ((((60 : Int32)) * (l1)) + (l2)).toNatClampNeg, h))))
theorem f_X11_event_ok {G : Gd} {d : Nat} (hj : 1 ≤ d) : ∀ (l0 : Nat) (l1 : Int32) (l2 : Int32) (L : List (Nat × Value)) (h : Hp) (o : (Int32 × Hp)), zlk L 0 = some (zrf (l0)) → zlk L 1 = some (.int (l1)) → zlk L 2 = some (.int (l2)) → f_X11_event l0 l1 l2 h = some o → Ev G M_X11_event d 0 L [] h (Ret Y_X11_event (some (.int o.1)) o.2) := by
  intro l0 l1 l2 L h o g0 g1 g2 e
  unfold f_X11_event at e
  refine g_ald_n d_X11_event_0 rfl g0 ?_
  replace e := ckd e
  obtain ⟨k1, e⟩ := e
  refine g_getR d_X11_event_1 (f := 1240) k1 fk_12_110 rfl rfl ?_
  refine r_bipush d_X11_event_4 (v := (60 : Int32)) (by decide +kernel) ?_
  refine r_iload_n d_X11_event_6 rfl g1 ?_
  refine r_imul d_X11_event_7 ?_
  refine r_iload_n d_X11_event_8 rfl g2 ?_
  refine r_iadd d_X11_event_9 ?_
  replace e := ckd e
  obtain ⟨k2, e⟩ := e
  replace e := ckd e
  obtain ⟨k3, e⟩ := e
  refine g_iald d_X11_event_10 k2 k3 rfl ?_
  cases e
  exact g_iret d_X11_event_11 rfl rfl

theorem c_X11_event {G : Gd} {j : Nat} (hj : 1 ≤ j) {l0 : Nat} {l1 : Int32} {l2 : Int32} {h : Hp} {o : (Int32 × Hp)} (e : f_X11_event l0 l1 l2 h = some o) : Cal G j Y_X11_event [zrf (l0), .int (l1), .int (l2)] h (some (.int o.1)) o.2 := Cal.of (n := 0) (I := false) (by decide +kernel) (by decide) (by simp [lg_sl, zrf_cat, cat_int, cat_long]) (f_X11_event_ok hj _ _ _ _ h o (by simp [lv_args, zlk, zrf_cat, cat_int, cat_long]) (by simp [lv_args, zlk, zrf_cat, cat_int, cat_long]) (by simp [lv_args, zlk, zrf_cat, cat_int, cat_long]) e)
