abbrev Y_X11_value : Yx := (⟨"TaskWeaveModel", "value", "(Z)Z"⟩, prog_13_method_11_code, 6, (some .boolean))
abbrev M_X11_value : Mx := ("TaskWeaveModel", prog_13_method_11_code, 6, false)
theorem yk_X11_value : Yk Y_X11_value 1 := ⟨by decide +kernel, by decide +kernel, ⟨by decide, by decide⟩, by decide +kernel, by decide, trivial⟩
theorem d_X11_value_0 : decode prog_13_method_11_code 0 = .ok (.aload_n 0, 1) := by decide +kernel
theorem d_X11_value_1 : decode prog_13_method_11_code 1 = .ok (.invokevirtual 198, 3) := by decide +kernel
theorem d_X11_value_4 : decode prog_13_method_11_code 4 = .ok (.istore_n 2, 1) := by decide +kernel
theorem d_X11_value_5 : decode prog_13_method_11_code 5 = .ok (.iconst 0, 1) := by decide +kernel
theorem d_X11_value_6 : decode prog_13_method_11_code 6 = .ok (.istore_n 3, 1) := by decide +kernel
theorem d_X11_value_7 : decode prog_13_method_11_code 7 = .ok (.iload_n 2, 1) := by decide +kernel
theorem d_X11_value_8 : decode prog_13_method_11_code 8 = .ok (.ifCond .eq 24, 3) := by decide +kernel
theorem d_X11_value_11 : decode prog_13_method_11_code 11 = .ok (.aload_n 0, 1) := by decide +kernel
theorem d_X11_value_12 : decode prog_13_method_11_code 12 = .ok (.invokevirtual 194, 3) := by decide +kernel
theorem d_X11_value_15 : decode prog_13_method_11_code 15 = .ok (.bipush 97, 2) := by decide +kernel
theorem d_X11_value_17 : decode prog_13_method_11_code 17 = .ok (.isub, 1) := by decide +kernel
theorem d_X11_value_18 : decode prog_13_method_11_code 18 = .ok (.istore_n 3, 1) := by decide +kernel
theorem d_X11_value_19 : decode prog_13_method_11_code 19 = .ok (.aload_n 0, 1) := by decide +kernel
theorem d_X11_value_20 : decode prog_13_method_11_code 20 = .ok (.dup, 1) := by decide +kernel
theorem d_X11_value_21 : decode prog_13_method_11_code 21 = .ok (.getfield 191, 3) := by decide +kernel
theorem d_X11_value_24 : decode prog_13_method_11_code 24 = .ok (.iconst 1, 1) := by decide +kernel
theorem d_X11_value_25 : decode prog_13_method_11_code 25 = .ok (.iadd, 1) := by decide +kernel
theorem d_X11_value_26 : decode prog_13_method_11_code 26 = .ok (.putfield 191, 3) := by decide +kernel
theorem d_X11_value_29 : decode prog_13_method_11_code 29 = .ok (.goto 77, 3) := by decide +kernel
theorem d_X11_value_32 : decode prog_13_method_11_code 32 = .ok (.aload_n 0, 1) := by decide +kernel
theorem d_X11_value_33 : decode prog_13_method_11_code 33 = .ok (.bipush 45, 2) := by decide +kernel
theorem d_X11_value_35 : decode prog_13_method_11_code 35 = .ok (.invokevirtual 202, 3) := by decide +kernel
theorem d_X11_value_38 : decode prog_13_method_11_code 38 = .ok (.istore 4, 2) := by decide +kernel
theorem d_X11_value_40 : decode prog_13_method_11_code 40 = .ok (.aload_n 0, 1) := by decide +kernel
theorem d_X11_value_41 : decode prog_13_method_11_code 41 = .ok (.invokevirtual 206, 3) := by decide +kernel
theorem d_X11_value_44 : decode prog_13_method_11_code 44 = .ok (.ifCond .ne 5, 3) := by decide +kernel
theorem d_X11_value_47 : decode prog_13_method_11_code 47 = .ok (.iconst 0, 1) := by decide +kernel
theorem d_X11_value_48 : decode prog_13_method_11_code 48 = .ok (.ireturn, 1) := by decide +kernel
theorem d_X11_value_49 : decode prog_13_method_11_code 49 = .ok (.iconst 0, 1) := by decide +kernel
theorem d_X11_value_50 : decode prog_13_method_11_code 50 = .ok (.istore 5, 2) := by decide +kernel
theorem d_X11_value_52 : decode prog_13_method_11_code 52 = .ok (.iload 5, 2) := by decide +kernel
theorem d_X11_value_54 : decode prog_13_method_11_code 54 = .ok (.iconst 5, 1) := by decide +kernel
theorem d_X11_value_55 : decode prog_13_method_11_code 55 = .ok (.if_icmp .ge 39, 3) := by decide +kernel
theorem d_X11_value_58 : decode prog_13_method_11_code 58 = .ok (.aload_n 0, 1) := by decide +kernel
theorem d_X11_value_59 : decode prog_13_method_11_code 59 = .ok (.invokevirtual 206, 3) := by decide +kernel
theorem d_X11_value_62 : decode prog_13_method_11_code 62 = .ok (.ifCond .eq 32, 3) := by decide +kernel
theorem d_X11_value_65 : decode prog_13_method_11_code 65 = .ok (.bipush 10, 2) := by decide +kernel
theorem d_X11_value_67 : decode prog_13_method_11_code 67 = .ok (.iload_n 3, 1) := by decide +kernel
theorem d_X11_value_68 : decode prog_13_method_11_code 68 = .ok (.imul, 1) := by decide +kernel
theorem d_X11_value_69 : decode prog_13_method_11_code 69 = .ok (.aload_n 0, 1) := by decide +kernel
theorem d_X11_value_70 : decode prog_13_method_11_code 70 = .ok (.invokevirtual 194, 3) := by decide +kernel
theorem d_X11_value_73 : decode prog_13_method_11_code 73 = .ok (.iadd, 1) := by decide +kernel
theorem d_X11_value_74 : decode prog_13_method_11_code 74 = .ok (.bipush 48, 2) := by decide +kernel
theorem d_X11_value_76 : decode prog_13_method_11_code 76 = .ok (.isub, 1) := by decide +kernel
theorem d_X11_value_77 : decode prog_13_method_11_code 77 = .ok (.istore_n 3, 1) := by decide +kernel
theorem d_X11_value_78 : decode prog_13_method_11_code 78 = .ok (.aload_n 0, 1) := by decide +kernel
theorem d_X11_value_79 : decode prog_13_method_11_code 79 = .ok (.dup, 1) := by decide +kernel
theorem d_X11_value_80 : decode prog_13_method_11_code 80 = .ok (.getfield 191, 3) := by decide +kernel
theorem d_X11_value_83 : decode prog_13_method_11_code 83 = .ok (.iconst 1, 1) := by decide +kernel
theorem d_X11_value_84 : decode prog_13_method_11_code 84 = .ok (.iadd, 1) := by decide +kernel
theorem d_X11_value_85 : decode prog_13_method_11_code 85 = .ok (.putfield 191, 3) := by decide +kernel
theorem d_X11_value_88 : decode prog_13_method_11_code 88 = .ok (.iinc 5 1, 3) := by decide +kernel
theorem d_X11_value_91 : decode prog_13_method_11_code 91 = .ok (.goto (-39), 3) := by decide +kernel
theorem d_X11_value_94 : decode prog_13_method_11_code 94 = .ok (.iload 4, 2) := by decide +kernel
theorem d_X11_value_96 : decode prog_13_method_11_code 96 = .ok (.ifCond .eq 8, 3) := by decide +kernel
theorem d_X11_value_99 : decode prog_13_method_11_code 99 = .ok (.iload_n 3, 1) := by decide +kernel
theorem d_X11_value_100 : decode prog_13_method_11_code 100 = .ok (.ineg, 1) := by decide +kernel
theorem d_X11_value_101 : decode prog_13_method_11_code 101 = .ok (.goto 4, 3) := by decide +kernel
theorem d_X11_value_104 : decode prog_13_method_11_code 104 = .ok (.iload_n 3, 1) := by decide +kernel
theorem d_X11_value_105 : decode prog_13_method_11_code 105 = .ok (.istore_n 3, 1) := by decide +kernel
theorem d_X11_value_106 : decode prog_13_method_11_code 106 = .ok (.iload_n 1, 1) := by decide +kernel
theorem d_X11_value_107 : decode prog_13_method_11_code 107 = .ok (.ifCond .eq 26, 3) := by decide +kernel
theorem d_X11_value_110 : decode prog_13_method_11_code 110 = .ok (.aload_n 0, 1) := by decide +kernel
theorem d_X11_value_111 : decode prog_13_method_11_code 111 = .ok (.getfield 48, 3) := by decide +kernel
theorem d_X11_value_114 : decode prog_13_method_11_code 114 = .ok (.aload_n 0, 1) := by decide +kernel
theorem d_X11_value_115 : decode prog_13_method_11_code 115 = .ok (.getfield 209, 3) := by decide +kernel
theorem d_X11_value_118 : decode prog_13_method_11_code 118 = .ok (.iload_n 2, 1) := by decide +kernel
theorem d_X11_value_119 : decode prog_13_method_11_code 119 = .ok (.bastore, 1) := by decide +kernel
theorem d_X11_value_120 : decode prog_13_method_11_code 120 = .ok (.aload_n 0, 1) := by decide +kernel
theorem d_X11_value_121 : decode prog_13_method_11_code 121 = .ok (.getfield 51, 3) := by decide +kernel
theorem d_X11_value_124 : decode prog_13_method_11_code 124 = .ok (.aload_n 0, 1) := by decide +kernel
theorem d_X11_value_125 : decode prog_13_method_11_code 125 = .ok (.getfield 209, 3) := by decide +kernel
theorem d_X11_value_128 : decode prog_13_method_11_code 128 = .ok (.iload_n 3, 1) := by decide +kernel
theorem d_X11_value_129 : decode prog_13_method_11_code 129 = .ok (.iastore, 1) := by decide +kernel
theorem d_X11_value_130 : decode prog_13_method_11_code 130 = .ok (.goto 23, 3) := by decide +kernel
theorem d_X11_value_133 : decode prog_13_method_11_code 133 = .ok (.aload_n 0, 1) := by decide +kernel
theorem d_X11_value_134 : decode prog_13_method_11_code 134 = .ok (.getfield 41, 3) := by decide +kernel
theorem d_X11_value_137 : decode prog_13_method_11_code 137 = .ok (.aload_n 0, 1) := by decide +kernel
theorem d_X11_value_138 : decode prog_13_method_11_code 138 = .ok (.getfield 209, 3) := by decide +kernel
theorem d_X11_value_141 : decode prog_13_method_11_code 141 = .ok (.iload_n 2, 1) := by decide +kernel
theorem d_X11_value_142 : decode prog_13_method_11_code 142 = .ok (.bastore, 1) := by decide +kernel
theorem d_X11_value_143 : decode prog_13_method_11_code 143 = .ok (.aload_n 0, 1) := by decide +kernel
theorem d_X11_value_144 : decode prog_13_method_11_code 144 = .ok (.getfield 45, 3) := by decide +kernel
theorem d_X11_value_147 : decode prog_13_method_11_code 147 = .ok (.aload_n 0, 1) := by decide +kernel
theorem d_X11_value_148 : decode prog_13_method_11_code 148 = .ok (.getfield 209, 3) := by decide +kernel
theorem d_X11_value_151 : decode prog_13_method_11_code 151 = .ok (.iload_n 3, 1) := by decide +kernel
theorem d_X11_value_152 : decode prog_13_method_11_code 152 = .ok (.iastore, 1) := by decide +kernel
theorem d_X11_value_153 : decode prog_13_method_11_code 153 = .ok (.iconst 1, 1) := by decide +kernel
theorem d_X11_value_154 : decode prog_13_method_11_code 154 = .ok (.ireturn, 1) := by decide +kernel
abbrev Y_X11_bracketed : Yx := (⟨"TaskWeaveModel", "bracketed", "()Z"⟩, prog_13_method_12_code, 1, (some .boolean))
abbrev M_X11_bracketed : Mx := ("TaskWeaveModel", prog_13_method_12_code, 1, false)
theorem yk_X11_bracketed : Yk Y_X11_bracketed 0 := ⟨by decide +kernel, by decide +kernel, ⟨by decide, by decide⟩, by decide +kernel, by decide, trivial⟩
theorem d_X11_bracketed_0 : decode prog_13_method_12_code 0 = .ok (.aload_n 0, 1) := by decide +kernel
theorem d_X11_bracketed_1 : decode prog_13_method_12_code 1 = .ok (.bipush 40, 2) := by decide +kernel
theorem d_X11_bracketed_3 : decode prog_13_method_12_code 3 = .ok (.invokevirtual 202, 3) := by decide +kernel
theorem d_X11_bracketed_6 : decode prog_13_method_12_code 6 = .ok (.ifCond .eq 24, 3) := by decide +kernel
theorem d_X11_bracketed_9 : decode prog_13_method_12_code 9 = .ok (.aload_n 0, 1) := by decide +kernel
theorem d_X11_bracketed_10 : decode prog_13_method_12_code 10 = .ok (.iconst 0, 1) := by decide +kernel
theorem d_X11_bracketed_11 : decode prog_13_method_12_code 11 = .ok (.invokevirtual 212, 3) := by decide +kernel
theorem d_X11_bracketed_14 : decode prog_13_method_12_code 14 = .ok (.ifCond .eq 16, 3) := by decide +kernel
theorem d_X11_bracketed_17 : decode prog_13_method_12_code 17 = .ok (.aload_n 0, 1) := by decide +kernel
theorem d_X11_bracketed_18 : decode prog_13_method_12_code 18 = .ok (.bipush 41, 2) := by decide +kernel
theorem d_X11_bracketed_20 : decode prog_13_method_12_code 20 = .ok (.invokevirtual 202, 3) := by decide +kernel
theorem d_X11_bracketed_23 : decode prog_13_method_12_code 23 = .ok (.ifCond .eq 7, 3) := by decide +kernel
theorem d_X11_bracketed_26 : decode prog_13_method_12_code 26 = .ok (.iconst 1, 1) := by decide +kernel
theorem d_X11_bracketed_27 : decode prog_13_method_12_code 27 = .ok (.goto 4, 3) := by decide +kernel
theorem d_X11_bracketed_30 : decode prog_13_method_12_code 30 = .ok (.iconst 0, 1) := by decide +kernel
theorem d_X11_bracketed_31 : decode prog_13_method_12_code 31 = .ok (.ireturn, 1) := by decide +kernel
abbrev Y_X11_ends : Yx := (⟨"TaskWeaveModel", "ends", "(I)Z"⟩, prog_13_method_13_code, 2, (some .boolean))
abbrev M_X11_ends : Mx := ("TaskWeaveModel", prog_13_method_13_code, 2, false)
theorem yk_X11_ends : Yk Y_X11_ends 1 := ⟨by decide +kernel, by decide +kernel, ⟨by decide, by decide⟩, by decide +kernel, by decide, trivial⟩
theorem d_X11_ends_0 : decode prog_13_method_13_code 0 = .ok (.aload_n 0, 1) := by decide +kernel
theorem d_X11_ends_1 : decode prog_13_method_13_code 1 = .ok (.getfield 35, 3) := by decide +kernel
theorem d_X11_ends_4 : decode prog_13_method_13_code 4 = .ok (.aload_n 0, 1) := by decide +kernel
theorem d_X11_ends_5 : decode prog_13_method_13_code 5 = .ok (.getfield 209, 3) := by decide +kernel
theorem d_X11_ends_8 : decode prog_13_method_13_code 8 = .ok (.iload_n 1, 1) := by decide +kernel
theorem d_X11_ends_9 : decode prog_13_method_13_code 9 = .ok (.iastore, 1) := by decide +kernel
theorem d_X11_ends_10 : decode prog_13_method_13_code 10 = .ok (.aload_n 0, 1) := by decide +kernel
theorem d_X11_ends_11 : decode prog_13_method_13_code 11 = .ok (.bipush 59, 2) := by decide +kernel
theorem d_X11_ends_13 : decode prog_13_method_13_code 13 = .ok (.invokevirtual 202, 3) := by decide +kernel
theorem d_X11_ends_16 : decode prog_13_method_13_code 16 = .ok (.ireturn, 1) := by decide +kernel
abbrev Y_X11_number : Yx := (⟨"TaskWeaveModel", "number", "(I)Z"⟩, prog_13_method_14_code, 2, (some .boolean))
abbrev M_X11_number : Mx := ("TaskWeaveModel", prog_13_method_14_code, 2, false)
theorem yk_X11_number : Yk Y_X11_number 1 := ⟨by decide +kernel, by decide +kernel, ⟨by decide, by decide⟩, by decide +kernel, by decide, trivial⟩
theorem d_X11_number_0 : decode prog_13_method_14_code 0 = .ok (.aload_n 0, 1) := by decide +kernel
theorem d_X11_number_1 : decode prog_13_method_14_code 1 = .ok (.getfield 57, 3) := by decide +kernel
theorem d_X11_number_4 : decode prog_13_method_14_code 4 = .ok (.aload_n 0, 1) := by decide +kernel
theorem d_X11_number_5 : decode prog_13_method_14_code 5 = .ok (.getfield 209, 3) := by decide +kernel
theorem d_X11_number_8 : decode prog_13_method_14_code 8 = .ok (.aload_n 0, 1) := by decide +kernel
theorem d_X11_number_9 : decode prog_13_method_14_code 9 = .ok (.getfield 191, 3) := by decide +kernel
theorem d_X11_number_12 : decode prog_13_method_14_code 12 = .ok (.iastore, 1) := by decide +kernel
theorem d_X11_number_13 : decode prog_13_method_14_code 13 = .ok (.aload_n 0, 1) := by decide +kernel
theorem d_X11_number_14 : decode prog_13_method_14_code 14 = .ok (.invokevirtual 206, 3) := by decide +kernel
theorem d_X11_number_17 : decode prog_13_method_14_code 17 = .ok (.ifCond .eq 14, 3) := by decide +kernel
theorem d_X11_number_20 : decode prog_13_method_14_code 20 = .ok (.aload_n 0, 1) := by decide +kernel
theorem d_X11_number_21 : decode prog_13_method_14_code 21 = .ok (.invokevirtual 194, 3) := by decide +kernel
theorem d_X11_number_24 : decode prog_13_method_14_code 24 = .ok (.bipush 48, 2) := by decide +kernel
theorem d_X11_number_26 : decode prog_13_method_14_code 26 = .ok (.isub, 1) := by decide +kernel
theorem d_X11_number_27 : decode prog_13_method_14_code 27 = .ok (.iload_n 1, 1) := by decide +kernel
theorem d_X11_number_28 : decode prog_13_method_14_code 28 = .ok (.if_icmp .lt 5, 3) := by decide +kernel
theorem d_X11_number_31 : decode prog_13_method_14_code 31 = .ok (.iconst 0, 1) := by decide +kernel
theorem d_X11_number_32 : decode prog_13_method_14_code 32 = .ok (.ireturn, 1) := by decide +kernel
theorem d_X11_number_33 : decode prog_13_method_14_code 33 = .ok (.aload_n 0, 1) := by decide +kernel
theorem d_X11_number_34 : decode prog_13_method_14_code 34 = .ok (.getfield 54, 3) := by decide +kernel
theorem d_X11_number_37 : decode prog_13_method_14_code 37 = .ok (.aload_n 0, 1) := by decide +kernel
theorem d_X11_number_38 : decode prog_13_method_14_code 38 = .ok (.getfield 209, 3) := by decide +kernel
theorem d_X11_number_41 : decode prog_13_method_14_code 41 = .ok (.aload_n 0, 1) := by decide +kernel
theorem d_X11_number_42 : decode prog_13_method_14_code 42 = .ok (.invokevirtual 194, 3) := by decide +kernel
theorem d_X11_number_45 : decode prog_13_method_14_code 45 = .ok (.bipush 48, 2) := by decide +kernel
theorem d_X11_number_47 : decode prog_13_method_14_code 47 = .ok (.isub, 1) := by decide +kernel
theorem d_X11_number_48 : decode prog_13_method_14_code 48 = .ok (.iastore, 1) := by decide +kernel
theorem d_X11_number_49 : decode prog_13_method_14_code 49 = .ok (.aload_n 0, 1) := by decide +kernel
theorem d_X11_number_50 : decode prog_13_method_14_code 50 = .ok (.dup, 1) := by decide +kernel
theorem d_X11_number_51 : decode prog_13_method_14_code 51 = .ok (.getfield 191, 3) := by decide +kernel
theorem d_X11_number_54 : decode prog_13_method_14_code 54 = .ok (.iconst 1, 1) := by decide +kernel
theorem d_X11_number_55 : decode prog_13_method_14_code 55 = .ok (.iadd, 1) := by decide +kernel
theorem d_X11_number_56 : decode prog_13_method_14_code 56 = .ok (.putfield 191, 3) := by decide +kernel
theorem d_X11_number_59 : decode prog_13_method_14_code 59 = .ok (.iconst 1, 1) := by decide +kernel
theorem d_X11_number_60 : decode prog_13_method_14_code 60 = .ok (.ireturn, 1) := by decide +kernel
abbrev Y_X11_set : Yx := (⟨"TaskWeaveModel", "set", "()Z"⟩, prog_13_method_15_code, 2, (some .boolean))
abbrev M_X11_set : Mx := ("TaskWeaveModel", prog_13_method_15_code, 2, false)
theorem yk_X11_set : Yk Y_X11_set 0 := ⟨by decide +kernel, by decide +kernel, ⟨by decide, by decide⟩, by decide +kernel, by decide, trivial⟩
theorem d_X11_set_0 : decode prog_13_method_15_code 0 = .ok (.aload_n 0, 1) := by decide +kernel
theorem d_X11_set_1 : decode prog_13_method_15_code 1 = .ok (.getfield 38, 3) := by decide +kernel
theorem d_X11_set_4 : decode prog_13_method_15_code 4 = .ok (.aload_n 0, 1) := by decide +kernel
theorem d_X11_set_5 : decode prog_13_method_15_code 5 = .ok (.getfield 209, 3) := by decide +kernel
theorem d_X11_set_8 : decode prog_13_method_15_code 8 = .ok (.aload_n 0, 1) := by decide +kernel
theorem d_X11_set_9 : decode prog_13_method_15_code 9 = .ok (.invokevirtual 194, 3) := by decide +kernel
theorem d_X11_set_12 : decode prog_13_method_15_code 12 = .ok (.bipush 97, 2) := by decide +kernel
theorem d_X11_set_14 : decode prog_13_method_15_code 14 = .ok (.isub, 1) := by decide +kernel
theorem d_X11_set_15 : decode prog_13_method_15_code 15 = .ok (.iastore, 1) := by decide +kernel
theorem d_X11_set_16 : decode prog_13_method_15_code 16 = .ok (.aload_n 0, 1) := by decide +kernel
theorem d_X11_set_17 : decode prog_13_method_15_code 17 = .ok (.dup, 1) := by decide +kernel
theorem d_X11_set_18 : decode prog_13_method_15_code 18 = .ok (.getfield 191, 3) := by decide +kernel
theorem d_X11_set_21 : decode prog_13_method_15_code 21 = .ok (.iconst 1, 1) := by decide +kernel
theorem d_X11_set_22 : decode prog_13_method_15_code 22 = .ok (.iadd, 1) := by decide +kernel
theorem d_X11_set_23 : decode prog_13_method_15_code 23 = .ok (.putfield 191, 3) := by decide +kernel
theorem d_X11_set_26 : decode prog_13_method_15_code 26 = .ok (.aload_n 0, 1) := by decide +kernel
theorem d_X11_set_27 : decode prog_13_method_15_code 27 = .ok (.bipush 61, 2) := by decide +kernel
theorem d_X11_set_29 : decode prog_13_method_15_code 29 = .ok (.invokevirtual 202, 3) := by decide +kernel
theorem d_X11_set_32 : decode prog_13_method_15_code 32 = .ok (.ifCond .ne 5, 3) := by decide +kernel
theorem d_X11_set_35 : decode prog_13_method_15_code 35 = .ok (.iconst 0, 1) := by decide +kernel
theorem d_X11_set_36 : decode prog_13_method_15_code 36 = .ok (.ireturn, 1) := by decide +kernel
theorem d_X11_set_37 : decode prog_13_method_15_code 37 = .ok (.aload_n 0, 1) := by decide +kernel
theorem d_X11_set_38 : decode prog_13_method_15_code 38 = .ok (.bipush 65, 2) := by decide +kernel
theorem d_X11_set_40 : decode prog_13_method_15_code 40 = .ok (.invokevirtual 202, 3) := by decide +kernel
theorem d_X11_set_43 : decode prog_13_method_15_code 43 = .ok (.ifCond .eq 34, 3) := by decide +kernel
theorem d_X11_set_46 : decode prog_13_method_15_code 46 = .ok (.aload_n 0, 1) := by decide +kernel
theorem d_X11_set_47 : decode prog_13_method_15_code 47 = .ok (.bipush 10, 2) := by decide +kernel
theorem d_X11_set_49 : decode prog_13_method_15_code 49 = .ok (.invokevirtual 215, 3) := by decide +kernel
theorem d_X11_set_52 : decode prog_13_method_15_code 52 = .ok (.ifCond .eq 23, 3) := by decide +kernel
theorem d_X11_set_55 : decode prog_13_method_15_code 55 = .ok (.aload_n 0, 1) := by decide +kernel
theorem d_X11_set_56 : decode prog_13_method_15_code 56 = .ok (.invokevirtual 218, 3) := by decide +kernel
theorem d_X11_set_59 : decode prog_13_method_15_code 59 = .ok (.ifCond .eq 16, 3) := by decide +kernel
theorem d_X11_set_62 : decode prog_13_method_15_code 62 = .ok (.aload_n 0, 1) := by decide +kernel
theorem d_X11_set_63 : decode prog_13_method_15_code 63 = .ok (.bipush 6, 2) := by decide +kernel
theorem d_X11_set_65 : decode prog_13_method_15_code 65 = .ok (.invokevirtual 221, 3) := by decide +kernel
theorem d_X11_set_68 : decode prog_13_method_15_code 68 = .ok (.ifCond .eq 7, 3) := by decide +kernel
theorem d_X11_set_71 : decode prog_13_method_15_code 71 = .ok (.iconst 1, 1) := by decide +kernel
theorem d_X11_set_72 : decode prog_13_method_15_code 72 = .ok (.goto 4, 3) := by decide +kernel
theorem d_X11_set_75 : decode prog_13_method_15_code 75 = .ok (.iconst 0, 1) := by decide +kernel
theorem d_X11_set_76 : decode prog_13_method_15_code 76 = .ok (.ireturn, 1) := by decide +kernel
theorem d_X11_set_77 : decode prog_13_method_15_code 77 = .ok (.aload_n 0, 1) := by decide +kernel
theorem d_X11_set_78 : decode prog_13_method_15_code 78 = .ok (.bipush 87, 2) := by decide +kernel
theorem d_X11_set_80 : decode prog_13_method_15_code 80 = .ok (.invokevirtual 202, 3) := by decide +kernel
theorem d_X11_set_83 : decode prog_13_method_15_code 83 = .ok (.ifCond .eq 10, 3) := by decide +kernel
theorem d_X11_set_86 : decode prog_13_method_15_code 86 = .ok (.aload_n 0, 1) := by decide +kernel
theorem d_X11_set_87 : decode prog_13_method_15_code 87 = .ok (.bipush 7, 2) := by decide +kernel
theorem d_X11_set_89 : decode prog_13_method_15_code 89 = .ok (.invokevirtual 221, 3) := by decide +kernel
theorem d_X11_set_92 : decode prog_13_method_15_code 92 = .ok (.ireturn, 1) := by decide +kernel
theorem d_X11_set_93 : decode prog_13_method_15_code 93 = .ok (.aload_n 0, 1) := by decide +kernel
theorem d_X11_set_94 : decode prog_13_method_15_code 94 = .ok (.bipush 67, 2) := by decide +kernel
theorem d_X11_set_96 : decode prog_13_method_15_code 96 = .ok (.invokevirtual 202, 3) := by decide +kernel
theorem d_X11_set_99 : decode prog_13_method_15_code 99 = .ok (.ifCond .eq 34, 3) := by decide +kernel
theorem d_X11_set_102 : decode prog_13_method_15_code 102 = .ok (.aload_n 0, 1) := by decide +kernel
theorem d_X11_set_103 : decode prog_13_method_15_code 103 = .ok (.bipush 8, 2) := by decide +kernel
theorem d_X11_set_105 : decode prog_13_method_15_code 105 = .ok (.invokevirtual 215, 3) := by decide +kernel
theorem d_X11_set_108 : decode prog_13_method_15_code 108 = .ok (.ifCond .eq 23, 3) := by decide +kernel
theorem d_X11_set_111 : decode prog_13_method_15_code 111 = .ok (.aload_n 0, 1) := by decide +kernel
theorem d_X11_set_112 : decode prog_13_method_15_code 112 = .ok (.invokevirtual 218, 3) := by decide +kernel
theorem d_X11_set_115 : decode prog_13_method_15_code 115 = .ok (.ifCond .eq 16, 3) := by decide +kernel
theorem d_X11_set_118 : decode prog_13_method_15_code 118 = .ok (.aload_n 0, 1) := by decide +kernel
theorem d_X11_set_119 : decode prog_13_method_15_code 119 = .ok (.bipush 8, 2) := by decide +kernel
theorem d_X11_set_121 : decode prog_13_method_15_code 121 = .ok (.invokevirtual 221, 3) := by decide +kernel
theorem d_X11_set_124 : decode prog_13_method_15_code 124 = .ok (.ifCond .eq 7, 3) := by decide +kernel
theorem d_X11_set_127 : decode prog_13_method_15_code 127 = .ok (.iconst 1, 1) := by decide +kernel
theorem d_X11_set_128 : decode prog_13_method_15_code 128 = .ok (.goto 4, 3) := by decide +kernel
theorem d_X11_set_131 : decode prog_13_method_15_code 131 = .ok (.iconst 0, 1) := by decide +kernel
theorem d_X11_set_132 : decode prog_13_method_15_code 132 = .ok (.ireturn, 1) := by decide +kernel
theorem d_X11_set_133 : decode prog_13_method_15_code 133 = .ok (.aload_n 0, 1) := by decide +kernel
theorem d_X11_set_134 : decode prog_13_method_15_code 134 = .ok (.bipush 74, 2) := by decide +kernel
theorem d_X11_set_136 : decode prog_13_method_15_code 136 = .ok (.invokevirtual 202, 3) := by decide +kernel
theorem d_X11_set_139 : decode prog_13_method_15_code 139 = .ok (.ifCond .eq 25, 3) := by decide +kernel
theorem d_X11_set_142 : decode prog_13_method_15_code 142 = .ok (.aload_n 0, 1) := by decide +kernel
theorem d_X11_set_143 : decode prog_13_method_15_code 143 = .ok (.invokevirtual 218, 3) := by decide +kernel
theorem d_X11_set_146 : decode prog_13_method_15_code 146 = .ok (.ifCond .eq 16, 3) := by decide +kernel
theorem d_X11_set_149 : decode prog_13_method_15_code 149 = .ok (.aload_n 0, 1) := by decide +kernel
theorem d_X11_set_150 : decode prog_13_method_15_code 150 = .ok (.bipush 9, 2) := by decide +kernel
theorem d_X11_set_152 : decode prog_13_method_15_code 152 = .ok (.invokevirtual 221, 3) := by decide +kernel
theorem d_X11_set_155 : decode prog_13_method_15_code 155 = .ok (.ifCond .eq 7, 3) := by decide +kernel
theorem d_X11_set_158 : decode prog_13_method_15_code 158 = .ok (.iconst 1, 1) := by decide +kernel
theorem d_X11_set_159 : decode prog_13_method_15_code 159 = .ok (.goto 4, 3) := by decide +kernel
theorem d_X11_set_162 : decode prog_13_method_15_code 162 = .ok (.iconst 0, 1) := by decide +kernel
theorem d_X11_set_163 : decode prog_13_method_15_code 163 = .ok (.ireturn, 1) := by decide +kernel
theorem d_X11_set_164 : decode prog_13_method_15_code 164 = .ok (.aload_n 0, 1) := by decide +kernel
theorem d_X11_set_165 : decode prog_13_method_15_code 165 = .ok (.iconst 0, 1) := by decide +kernel
theorem d_X11_set_166 : decode prog_13_method_15_code 166 = .ok (.invokevirtual 212, 3) := by decide +kernel
theorem d_X11_set_169 : decode prog_13_method_15_code 169 = .ok (.ifCond .ne 5, 3) := by decide +kernel
theorem d_X11_set_172 : decode prog_13_method_15_code 172 = .ok (.iconst 0, 1) := by decide +kernel
theorem d_X11_set_173 : decode prog_13_method_15_code 173 = .ok (.ireturn, 1) := by decide +kernel
theorem d_X11_set_174 : decode prog_13_method_15_code 174 = .ok (.aload_n 0, 1) := by decide +kernel
theorem d_X11_set_175 : decode prog_13_method_15_code 175 = .ok (.bipush 43, 2) := by decide +kernel
theorem d_X11_set_177 : decode prog_13_method_15_code 177 = .ok (.invokevirtual 202, 3) := by decide +kernel
theorem d_X11_set_180 : decode prog_13_method_15_code 180 = .ok (.ifCond .eq 7, 3) := by decide +kernel
theorem d_X11_set_183 : decode prog_13_method_15_code 183 = .ok (.iconst 1, 1) := by decide +kernel
theorem d_X11_set_184 : decode prog_13_method_15_code 184 = .ok (.goto 56, 3) := by decide +kernel
theorem d_X11_set_187 : decode prog_13_method_15_code 187 = .ok (.aload_n 0, 1) := by decide +kernel
theorem d_X11_set_188 : decode prog_13_method_15_code 188 = .ok (.bipush 45, 2) := by decide +kernel
theorem d_X11_set_190 : decode prog_13_method_15_code 190 = .ok (.invokevirtual 202, 3) := by decide +kernel
theorem d_X11_set_193 : decode prog_13_method_15_code 193 = .ok (.ifCond .eq 7, 3) := by decide +kernel
theorem d_X11_set_196 : decode prog_13_method_15_code 196 = .ok (.iconst 2, 1) := by decide +kernel
theorem d_X11_set_197 : decode prog_13_method_15_code 197 = .ok (.goto 43, 3) := by decide +kernel
theorem d_X11_set_200 : decode prog_13_method_15_code 200 = .ok (.aload_n 0, 1) := by decide +kernel
theorem d_X11_set_201 : decode prog_13_method_15_code 201 = .ok (.bipush 42, 2) := by decide +kernel
theorem d_X11_set_203 : decode prog_13_method_15_code 203 = .ok (.invokevirtual 202, 3) := by decide +kernel
theorem d_X11_set_206 : decode prog_13_method_15_code 206 = .ok (.ifCond .eq 7, 3) := by decide +kernel
theorem d_X11_set_209 : decode prog_13_method_15_code 209 = .ok (.iconst 3, 1) := by decide +kernel
theorem d_X11_set_210 : decode prog_13_method_15_code 210 = .ok (.goto 30, 3) := by decide +kernel
theorem d_X11_set_213 : decode prog_13_method_15_code 213 = .ok (.aload_n 0, 1) := by decide +kernel
theorem d_X11_set_214 : decode prog_13_method_15_code 214 = .ok (.bipush 60, 2) := by decide +kernel
theorem d_X11_set_216 : decode prog_13_method_15_code 216 = .ok (.invokevirtual 202, 3) := by decide +kernel
theorem d_X11_set_219 : decode prog_13_method_15_code 219 = .ok (.ifCond .eq 7, 3) := by decide +kernel
theorem d_X11_set_222 : decode prog_13_method_15_code 222 = .ok (.iconst 4, 1) := by decide +kernel
theorem d_X11_set_223 : decode prog_13_method_15_code 223 = .ok (.goto 17, 3) := by decide +kernel
theorem d_X11_set_226 : decode prog_13_method_15_code 226 = .ok (.aload_n 0, 1) := by decide +kernel
theorem d_X11_set_227 : decode prog_13_method_15_code 227 = .ok (.bipush 61, 2) := by decide +kernel
theorem d_X11_set_229 : decode prog_13_method_15_code 229 = .ok (.invokevirtual 202, 3) := by decide +kernel
theorem d_X11_set_232 : decode prog_13_method_15_code 232 = .ok (.ifCond .eq 7, 3) := by decide +kernel
theorem d_X11_set_235 : decode prog_13_method_15_code 235 = .ok (.iconst 5, 1) := by decide +kernel
theorem d_X11_set_236 : decode prog_13_method_15_code 236 = .ok (.goto 4, 3) := by decide +kernel
theorem d_X11_set_239 : decode prog_13_method_15_code 239 = .ok (.iconst 0, 1) := by decide +kernel
theorem d_X11_set_240 : decode prog_13_method_15_code 240 = .ok (.istore_n 1, 1) := by decide +kernel
theorem d_X11_set_241 : decode prog_13_method_15_code 241 = .ok (.iload_n 1, 1) := by decide +kernel
theorem d_X11_set_242 : decode prog_13_method_15_code 242 = .ok (.ifCond .eq 11, 3) := by decide +kernel
theorem d_X11_set_245 : decode prog_13_method_15_code 245 = .ok (.aload_n 0, 1) := by decide +kernel
theorem d_X11_set_246 : decode prog_13_method_15_code 246 = .ok (.iconst 1, 1) := by decide +kernel
theorem d_X11_set_247 : decode prog_13_method_15_code 247 = .ok (.invokevirtual 212, 3) := by decide +kernel
theorem d_X11_set_250 : decode prog_13_method_15_code 250 = .ok (.ifCond .eq 15, 3) := by decide +kernel
theorem d_X11_set_253 : decode prog_13_method_15_code 253 = .ok (.aload_n 0, 1) := by decide +kernel
theorem d_X11_set_254 : decode prog_13_method_15_code 254 = .ok (.iload_n 1, 1) := by decide +kernel
theorem d_X11_set_255 : decode prog_13_method_15_code 255 = .ok (.invokevirtual 221, 3) := by decide +kernel
theorem d_X11_set_258 : decode prog_13_method_15_code 258 = .ok (.ifCond .eq 7, 3) := by decide +kernel
theorem d_X11_set_261 : decode prog_13_method_15_code 261 = .ok (.iconst 1, 1) := by decide +kernel
theorem d_X11_set_262 : decode prog_13_method_15_code 262 = .ok (.goto 4, 3) := by decide +kernel
theorem d_X11_set_265 : decode prog_13_method_15_code 265 = .ok (.iconst 0, 1) := by decide +kernel
theorem d_X11_set_266 : decode prog_13_method_15_code 266 = .ok (.ireturn, 1) := by decide +kernel
abbrev Y_X11_step : Yx := (⟨"TaskWeaveModel", "step", "()Z"⟩, prog_13_method_16_code, 1, (some .boolean))
abbrev M_X11_step : Mx := ("TaskWeaveModel", prog_13_method_16_code, 1, false)
theorem yk_X11_step : Yk Y_X11_step 0 := ⟨by decide +kernel, by decide +kernel, ⟨by decide, by decide⟩, by decide +kernel, by decide, trivial⟩
theorem d_X11_step_0 : decode prog_13_method_16_code 0 = .ok (.aload_n 0, 1) := by decide +kernel
theorem d_X11_step_1 : decode prog_13_method_16_code 1 = .ok (.invokevirtual 198, 3) := by decide +kernel
theorem d_X11_step_4 : decode prog_13_method_16_code 4 = .ok (.ifCond .eq 8, 3) := by decide +kernel
theorem d_X11_step_7 : decode prog_13_method_16_code 7 = .ok (.aload_n 0, 1) := by decide +kernel
theorem d_X11_step_8 : decode prog_13_method_16_code 8 = .ok (.invokevirtual 224, 3) := by decide +kernel
theorem d_X11_step_11 : decode prog_13_method_16_code 11 = .ok (.ireturn, 1) := by decide +kernel
theorem d_X11_step_12 : decode prog_13_method_16_code 12 = .ok (.aload_n 0, 1) := by decide +kernel
theorem d_X11_step_13 : decode prog_13_method_16_code 13 = .ok (.bipush 84, 2) := by decide +kernel
theorem d_X11_step_15 : decode prog_13_method_16_code 15 = .ok (.invokevirtual 202, 3) := by decide +kernel
theorem d_X11_step_18 : decode prog_13_method_16_code 18 = .ok (.ifCond .eq 25, 3) := by decide +kernel
theorem d_X11_step_21 : decode prog_13_method_16_code 21 = .ok (.aload_n 0, 1) := by decide +kernel
theorem d_X11_step_22 : decode prog_13_method_16_code 22 = .ok (.invokevirtual 218, 3) := by decide +kernel
theorem d_X11_step_25 : decode prog_13_method_16_code 25 = .ok (.ifCond .eq 16, 3) := by decide +kernel
theorem d_X11_step_28 : decode prog_13_method_16_code 28 = .ok (.aload_n 0, 1) := by decide +kernel
theorem d_X11_step_29 : decode prog_13_method_16_code 29 = .ok (.bipush 10, 2) := by decide +kernel
theorem d_X11_step_31 : decode prog_13_method_16_code 31 = .ok (.invokevirtual 221, 3) := by decide +kernel
theorem d_X11_step_34 : decode prog_13_method_16_code 34 = .ok (.ifCond .eq 7, 3) := by decide +kernel
theorem d_X11_step_37 : decode prog_13_method_16_code 37 = .ok (.iconst 1, 1) := by decide +kernel
theorem d_X11_step_38 : decode prog_13_method_16_code 38 = .ok (.goto 4, 3) := by decide +kernel
theorem d_X11_step_41 : decode prog_13_method_16_code 41 = .ok (.iconst 0, 1) := by decide +kernel
theorem d_X11_step_42 : decode prog_13_method_16_code 42 = .ok (.ireturn, 1) := by decide +kernel
theorem d_X11_step_43 : decode prog_13_method_16_code 43 = .ok (.aload_n 0, 1) := by decide +kernel
theorem d_X11_step_44 : decode prog_13_method_16_code 44 = .ok (.bipush 83, 2) := by decide +kernel
theorem d_X11_step_46 : decode prog_13_method_16_code 46 = .ok (.invokevirtual 202, 3) := by decide +kernel
theorem d_X11_step_49 : decode prog_13_method_16_code 49 = .ok (.ifCond .eq 61, 3) := by decide +kernel
theorem d_X11_step_52 : decode prog_13_method_16_code 52 = .ok (.aload_n 0, 1) := by decide +kernel
theorem d_X11_step_53 : decode prog_13_method_16_code 53 = .ok (.bipush 40, 2) := by decide +kernel
theorem d_X11_step_55 : decode prog_13_method_16_code 55 = .ok (.invokevirtual 202, 3) := by decide +kernel
theorem d_X11_step_58 : decode prog_13_method_16_code 58 = .ok (.ifCond .eq 50, 3) := by decide +kernel
theorem d_X11_step_61 : decode prog_13_method_16_code 61 = .ok (.aload_n 0, 1) := by decide +kernel
theorem d_X11_step_62 : decode prog_13_method_16_code 62 = .ok (.iconst 0, 1) := by decide +kernel
theorem d_X11_step_63 : decode prog_13_method_16_code 63 = .ok (.invokevirtual 212, 3) := by decide +kernel
theorem d_X11_step_66 : decode prog_13_method_16_code 66 = .ok (.ifCond .eq 42, 3) := by decide +kernel
theorem d_X11_step_69 : decode prog_13_method_16_code 69 = .ok (.aload_n 0, 1) := by decide +kernel
theorem d_X11_step_70 : decode prog_13_method_16_code 70 = .ok (.bipush 44, 2) := by decide +kernel
theorem d_X11_step_72 : decode prog_13_method_16_code 72 = .ok (.invokevirtual 202, 3) := by decide +kernel
theorem d_X11_step_75 : decode prog_13_method_16_code 75 = .ok (.ifCond .eq 33, 3) := by decide +kernel
theorem d_X11_step_78 : decode prog_13_method_16_code 78 = .ok (.aload_n 0, 1) := by decide +kernel
theorem d_X11_step_79 : decode prog_13_method_16_code 79 = .ok (.iconst 1, 1) := by decide +kernel
theorem d_X11_step_80 : decode prog_13_method_16_code 80 = .ok (.invokevirtual 212, 3) := by decide +kernel
theorem d_X11_step_83 : decode prog_13_method_16_code 83 = .ok (.ifCond .eq 25, 3) := by decide +kernel
theorem d_X11_step_86 : decode prog_13_method_16_code 86 = .ok (.aload_n 0, 1) := by decide +kernel
theorem d_X11_step_87 : decode prog_13_method_16_code 87 = .ok (.bipush 41, 2) := by decide +kernel
theorem d_X11_step_89 : decode prog_13_method_16_code 89 = .ok (.invokevirtual 202, 3) := by decide +kernel
theorem d_X11_step_92 : decode prog_13_method_16_code 92 = .ok (.ifCond .eq 16, 3) := by decide +kernel
theorem d_X11_step_95 : decode prog_13_method_16_code 95 = .ok (.aload_n 0, 1) := by decide +kernel
theorem d_X11_step_96 : decode prog_13_method_16_code 96 = .ok (.bipush 11, 2) := by decide +kernel
theorem d_X11_step_98 : decode prog_13_method_16_code 98 = .ok (.invokevirtual 221, 3) := by decide +kernel
theorem d_X11_step_101 : decode prog_13_method_16_code 101 = .ok (.ifCond .eq 7, 3) := by decide +kernel
theorem d_X11_step_104 : decode prog_13_method_16_code 104 = .ok (.iconst 1, 1) := by decide +kernel
theorem d_X11_step_105 : decode prog_13_method_16_code 105 = .ok (.goto 4, 3) := by decide +kernel
theorem d_X11_step_108 : decode prog_13_method_16_code 108 = .ok (.iconst 0, 1) := by decide +kernel
theorem d_X11_step_109 : decode prog_13_method_16_code 109 = .ok (.ireturn, 1) := by decide +kernel
theorem d_X11_step_110 : decode prog_13_method_16_code 110 = .ok (.aload_n 0, 1) := by decide +kernel
theorem d_X11_step_111 : decode prog_13_method_16_code 111 = .ok (.bipush 73, 2) := by decide +kernel
theorem d_X11_step_113 : decode prog_13_method_16_code 113 = .ok (.invokevirtual 202, 3) := by decide +kernel
theorem d_X11_step_116 : decode prog_13_method_16_code 116 = .ok (.ifCond .eq 34, 3) := by decide +kernel
theorem d_X11_step_119 : decode prog_13_method_16_code 119 = .ok (.aload_n 0, 1) := by decide +kernel
theorem d_X11_step_120 : decode prog_13_method_16_code 120 = .ok (.invokevirtual 218, 3) := by decide +kernel
theorem d_X11_step_123 : decode prog_13_method_16_code 123 = .ok (.ifCond .eq 25, 3) := by decide +kernel
theorem d_X11_step_126 : decode prog_13_method_16_code 126 = .ok (.aload_n 0, 1) := by decide +kernel
theorem d_X11_step_127 : decode prog_13_method_16_code 127 = .ok (.bipush 10, 2) := by decide +kernel
theorem d_X11_step_129 : decode prog_13_method_16_code 129 = .ok (.invokevirtual 215, 3) := by decide +kernel
theorem d_X11_step_132 : decode prog_13_method_16_code 132 = .ok (.ifCond .eq 16, 3) := by decide +kernel
theorem d_X11_step_135 : decode prog_13_method_16_code 135 = .ok (.aload_n 0, 1) := by decide +kernel
theorem d_X11_step_136 : decode prog_13_method_16_code 136 = .ok (.bipush 12, 2) := by decide +kernel
theorem d_X11_step_138 : decode prog_13_method_16_code 138 = .ok (.invokevirtual 221, 3) := by decide +kernel
theorem d_X11_step_141 : decode prog_13_method_16_code 141 = .ok (.ifCond .eq 7, 3) := by decide +kernel
theorem d_X11_step_144 : decode prog_13_method_16_code 144 = .ok (.iconst 1, 1) := by decide +kernel
theorem d_X11_step_145 : decode prog_13_method_16_code 145 = .ok (.goto 4, 3) := by decide +kernel
theorem d_X11_step_148 : decode prog_13_method_16_code 148 = .ok (.iconst 0, 1) := by decide +kernel
theorem d_X11_step_149 : decode prog_13_method_16_code 149 = .ok (.ireturn, 1) := by decide +kernel
theorem d_X11_step_150 : decode prog_13_method_16_code 150 = .ok (.aload_n 0, 1) := by decide +kernel
theorem d_X11_step_151 : decode prog_13_method_16_code 151 = .ok (.bipush 71, 2) := by decide +kernel
theorem d_X11_step_153 : decode prog_13_method_16_code 153 = .ok (.invokevirtual 202, 3) := by decide +kernel
theorem d_X11_step_156 : decode prog_13_method_16_code 156 = .ok (.ifCond .eq 27, 3) := by decide +kernel
theorem d_X11_step_159 : decode prog_13_method_16_code 159 = .ok (.aload_n 0, 1) := by decide +kernel
theorem d_X11_step_160 : decode prog_13_method_16_code 160 = .ok (.bipush 10, 2) := by decide +kernel
theorem d_X11_step_162 : decode prog_13_method_16_code 162 = .ok (.invokevirtual 215, 3) := by decide +kernel
theorem d_X11_step_165 : decode prog_13_method_16_code 165 = .ok (.ifCond .eq 16, 3) := by decide +kernel
theorem d_X11_step_168 : decode prog_13_method_16_code 168 = .ok (.aload_n 0, 1) := by decide +kernel
theorem d_X11_step_169 : decode prog_13_method_16_code 169 = .ok (.bipush 13, 2) := by decide +kernel
theorem d_X11_step_171 : decode prog_13_method_16_code 171 = .ok (.invokevirtual 221, 3) := by decide +kernel
theorem d_X11_step_174 : decode prog_13_method_16_code 174 = .ok (.ifCond .eq 7, 3) := by decide +kernel
theorem d_X11_step_177 : decode prog_13_method_16_code 177 = .ok (.iconst 1, 1) := by decide +kernel
theorem d_X11_step_178 : decode prog_13_method_16_code 178 = .ok (.goto 4, 3) := by decide +kernel
theorem d_X11_step_181 : decode prog_13_method_16_code 181 = .ok (.iconst 0, 1) := by decide +kernel
theorem d_X11_step_182 : decode prog_13_method_16_code 182 = .ok (.ireturn, 1) := by decide +kernel
theorem d_X11_step_183 : decode prog_13_method_16_code 183 = .ok (.aload_n 0, 1) := by decide +kernel
theorem d_X11_step_184 : decode prog_13_method_16_code 184 = .ok (.bipush 69, 2) := by decide +kernel
theorem d_X11_step_186 : decode prog_13_method_16_code 186 = .ok (.invokevirtual 202, 3) := by decide +kernel
theorem d_X11_step_189 : decode prog_13_method_16_code 189 = .ok (.ifCond .eq 23, 3) := by decide +kernel
theorem d_X11_step_192 : decode prog_13_method_16_code 192 = .ok (.aload_n 0, 1) := by decide +kernel
theorem d_X11_step_193 : decode prog_13_method_16_code 193 = .ok (.invokevirtual 218, 3) := by decide +kernel
theorem d_X11_step_196 : decode prog_13_method_16_code 196 = .ok (.ifCond .eq 16, 3) := by decide +kernel
theorem d_X11_step_199 : decode prog_13_method_16_code 199 = .ok (.aload_n 0, 1) := by decide +kernel
theorem d_X11_step_200 : decode prog_13_method_16_code 200 = .ok (.bipush 14, 2) := by decide +kernel
theorem d_X11_step_202 : decode prog_13_method_16_code 202 = .ok (.invokevirtual 221, 3) := by decide +kernel
theorem d_X11_step_205 : decode prog_13_method_16_code 205 = .ok (.ifCond .eq 7, 3) := by decide +kernel
theorem d_X11_step_208 : decode prog_13_method_16_code 208 = .ok (.iconst 1, 1) := by decide +kernel
theorem d_X11_step_209 : decode prog_13_method_16_code 209 = .ok (.goto 4, 3) := by decide +kernel
theorem d_X11_step_212 : decode prog_13_method_16_code 212 = .ok (.iconst 0, 1) := by decide +kernel
theorem d_X11_step_213 : decode prog_13_method_16_code 213 = .ok (.ireturn, 1) := by decide +kernel
abbrev Y_X11_read : Yx := (⟨"TaskWeaveModel", "read", "(I)I"⟩, prog_13_method_17_code, 3, (some .int))
abbrev M_X11_read : Mx := ("TaskWeaveModel", prog_13_method_17_code, 3, false)
theorem yk_X11_read : Yk Y_X11_read 1 := ⟨by decide +kernel, by decide +kernel, ⟨by decide, by decide⟩, by decide +kernel, by decide, trivial⟩
theorem d_X11_read_0 : decode prog_13_method_17_code 0 = .ok (.aload_n 0, 1) := by decide +kernel
theorem d_X11_read_1 : decode prog_13_method_17_code 1 = .ok (.iconst 0, 1) := by decide +kernel
theorem d_X11_read_2 : decode prog_13_method_17_code 2 = .ok (.putfield 191, 3) := by decide +kernel
theorem d_X11_read_5 : decode prog_13_method_17_code 5 = .ok (.iconst 0, 1) := by decide +kernel
theorem d_X11_read_6 : decode prog_13_method_17_code 6 = .ok (.istore_n 2, 1) := by decide +kernel
theorem d_X11_read_7 : decode prog_13_method_17_code 7 = .ok (.iload_n 2, 1) := by decide +kernel
theorem d_X11_read_8 : decode prog_13_method_17_code 8 = .ok (.bipush 10, 2) := by decide +kernel
theorem d_X11_read_10 : decode prog_13_method_17_code 10 = .ok (.if_icmp .ge 16, 3) := by decide +kernel
theorem d_X11_read_13 : decode prog_13_method_17_code 13 = .ok (.aload_n 0, 1) := by decide +kernel
theorem d_X11_read_14 : decode prog_13_method_17_code 14 = .ok (.getfield 60, 3) := by decide +kernel
theorem d_X11_read_17 : decode prog_13_method_17_code 17 = .ok (.iload_n 2, 1) := by decide +kernel
theorem d_X11_read_18 : decode prog_13_method_17_code 18 = .ok (.iconst (-1), 1) := by decide +kernel
theorem d_X11_read_19 : decode prog_13_method_17_code 19 = .ok (.iastore, 1) := by decide +kernel
theorem d_X11_read_20 : decode prog_13_method_17_code 20 = .ok (.iinc 2 1, 3) := by decide +kernel
theorem d_X11_read_23 : decode prog_13_method_17_code 23 = .ok (.goto (-16), 3) := by decide +kernel
theorem d_X11_read_26 : decode prog_13_method_17_code 26 = .ok (.aload_n 0, 1) := by decide +kernel
theorem d_X11_read_27 : decode prog_13_method_17_code 27 = .ok (.getfield 191, 3) := by decide +kernel
theorem d_X11_read_30 : decode prog_13_method_17_code 30 = .ok (.aload_n 0, 1) := by decide +kernel
theorem d_X11_read_31 : decode prog_13_method_17_code 31 = .ok (.getfield 186, 3) := by decide +kernel
theorem d_X11_read_34 : decode prog_13_method_17_code 34 = .ok (.if_icmp .ge 110, 3) := by decide +kernel
theorem d_X11_read_37 : decode prog_13_method_17_code 37 = .ok (.aload_n 0, 1) := by decide +kernel
theorem d_X11_read_38 : decode prog_13_method_17_code 38 = .ok (.getfield 209, 3) := by decide +kernel
theorem d_X11_read_41 : decode prog_13_method_17_code 41 = .ok (.iload_n 1, 1) := by decide +kernel
theorem d_X11_read_42 : decode prog_13_method_17_code 42 = .ok (.isub, 1) := by decide +kernel
theorem d_X11_read_43 : decode prog_13_method_17_code 43 = .ok (.bipush 60, 2) := by decide +kernel
theorem d_X11_read_45 : decode prog_13_method_17_code 45 = .ok (.if_icmp .ne 8, 3) := by decide +kernel
theorem d_X11_read_48 : decode prog_13_method_17_code 48 = .ok (.aload_n 0, 1) := by decide +kernel
theorem d_X11_read_49 : decode prog_13_method_17_code 49 = .ok (.getfield 191, 3) := by decide +kernel
theorem d_X11_read_52 : decode prog_13_method_17_code 52 = .ok (.ireturn, 1) := by decide +kernel
theorem d_X11_read_53 : decode prog_13_method_17_code 53 = .ok (.aload_n 0, 1) := by decide +kernel
theorem d_X11_read_54 : decode prog_13_method_17_code 54 = .ok (.invokevirtual 206, 3) := by decide +kernel
theorem d_X11_read_57 : decode prog_13_method_17_code 57 = .ok (.ifCond .eq 62, 3) := by decide +kernel
theorem d_X11_read_60 : decode prog_13_method_17_code 60 = .ok (.aload_n 0, 1) := by decide +kernel
theorem d_X11_read_61 : decode prog_13_method_17_code 61 = .ok (.invokevirtual 194, 3) := by decide +kernel
theorem d_X11_read_64 : decode prog_13_method_17_code 64 = .ok (.bipush 48, 2) := by decide +kernel
theorem d_X11_read_66 : decode prog_13_method_17_code 66 = .ok (.isub, 1) := by decide +kernel
theorem d_X11_read_67 : decode prog_13_method_17_code 67 = .ok (.istore_n 2, 1) := by decide +kernel
theorem d_X11_read_68 : decode prog_13_method_17_code 68 = .ok (.aload_n 0, 1) := by decide +kernel
theorem d_X11_read_69 : decode prog_13_method_17_code 69 = .ok (.getfield 60, 3) := by decide +kernel
theorem d_X11_read_72 : decode prog_13_method_17_code 72 = .ok (.iload_n 2, 1) := by decide +kernel
theorem d_X11_read_73 : decode prog_13_method_17_code 73 = .ok (.iaload, 1) := by decide +kernel
theorem d_X11_read_74 : decode prog_13_method_17_code 74 = .ok (.iconst (-1), 1) := by decide +kernel
theorem d_X11_read_75 : decode prog_13_method_17_code 75 = .ok (.if_icmp .eq 8, 3) := by decide +kernel
theorem d_X11_read_78 : decode prog_13_method_17_code 78 = .ok (.aload_n 0, 1) := by decide +kernel
theorem d_X11_read_79 : decode prog_13_method_17_code 79 = .ok (.getfield 191, 3) := by decide +kernel
theorem d_X11_read_82 : decode prog_13_method_17_code 82 = .ok (.ireturn, 1) := by decide +kernel
theorem d_X11_read_83 : decode prog_13_method_17_code 83 = .ok (.aload_n 0, 1) := by decide +kernel
theorem d_X11_read_84 : decode prog_13_method_17_code 84 = .ok (.getfield 60, 3) := by decide +kernel
theorem d_X11_read_87 : decode prog_13_method_17_code 87 = .ok (.iload_n 2, 1) := by decide +kernel
theorem d_X11_read_88 : decode prog_13_method_17_code 88 = .ok (.aload_n 0, 1) := by decide +kernel
theorem d_X11_read_89 : decode prog_13_method_17_code 89 = .ok (.getfield 209, 3) := by decide +kernel
theorem d_X11_read_92 : decode prog_13_method_17_code 92 = .ok (.iload_n 1, 1) := by decide +kernel
theorem d_X11_read_93 : decode prog_13_method_17_code 93 = .ok (.isub, 1) := by decide +kernel
theorem d_X11_read_94 : decode prog_13_method_17_code 94 = .ok (.iastore, 1) := by decide +kernel
theorem d_X11_read_95 : decode prog_13_method_17_code 95 = .ok (.aload_n 0, 1) := by decide +kernel
theorem d_X11_read_96 : decode prog_13_method_17_code 96 = .ok (.dup, 1) := by decide +kernel
theorem d_X11_read_97 : decode prog_13_method_17_code 97 = .ok (.getfield 191, 3) := by decide +kernel
theorem d_X11_read_100 : decode prog_13_method_17_code 100 = .ok (.iconst 1, 1) := by decide +kernel
theorem d_X11_read_101 : decode prog_13_method_17_code 101 = .ok (.iadd, 1) := by decide +kernel
theorem d_X11_read_102 : decode prog_13_method_17_code 102 = .ok (.putfield 191, 3) := by decide +kernel
theorem d_X11_read_105 : decode prog_13_method_17_code 105 = .ok (.aload_n 0, 1) := by decide +kernel
theorem d_X11_read_106 : decode prog_13_method_17_code 106 = .ok (.bipush 58, 2) := by decide +kernel
theorem d_X11_read_108 : decode prog_13_method_17_code 108 = .ok (.invokevirtual 202, 3) := by decide +kernel
theorem d_X11_read_111 : decode prog_13_method_17_code 111 = .ok (.ifCond .ne 8, 3) := by decide +kernel
theorem d_X11_read_114 : decode prog_13_method_17_code 114 = .ok (.aload_n 0, 1) := by decide +kernel
theorem d_X11_read_115 : decode prog_13_method_17_code 115 = .ok (.getfield 191, 3) := by decide +kernel
theorem d_X11_read_118 : decode prog_13_method_17_code 118 = .ok (.ireturn, 1) := by decide +kernel
theorem d_X11_read_119 : decode prog_13_method_17_code 119 = .ok (.aload_n 0, 1) := by decide +kernel
theorem d_X11_read_120 : decode prog_13_method_17_code 120 = .ok (.invokevirtual 227, 3) := by decide +kernel
theorem d_X11_read_123 : decode prog_13_method_17_code 123 = .ok (.ifCond .ne 8, 3) := by decide +kernel
theorem d_X11_read_126 : decode prog_13_method_17_code 126 = .ok (.aload_n 0, 1) := by decide +kernel
theorem d_X11_read_127 : decode prog_13_method_17_code 127 = .ok (.getfield 191, 3) := by decide +kernel
theorem d_X11_read_130 : decode prog_13_method_17_code 130 = .ok (.ireturn, 1) := by decide +kernel
theorem d_X11_read_131 : decode prog_13_method_17_code 131 = .ok (.aload_n 0, 1) := by decide +kernel
theorem d_X11_read_132 : decode prog_13_method_17_code 132 = .ok (.dup, 1) := by decide +kernel
theorem d_X11_read_133 : decode prog_13_method_17_code 133 = .ok (.getfield 209, 3) := by decide +kernel
theorem d_X11_read_136 : decode prog_13_method_17_code 136 = .ok (.iconst 1, 1) := by decide +kernel
theorem d_X11_read_137 : decode prog_13_method_17_code 137 = .ok (.iadd, 1) := by decide +kernel
theorem d_X11_read_138 : decode prog_13_method_17_code 138 = .ok (.putfield 209, 3) := by decide +kernel
theorem d_X11_read_141 : decode prog_13_method_17_code 141 = .ok (.goto (-115), 3) := by decide +kernel
theorem d_X11_read_144 : decode prog_13_method_17_code 144 = .ok (.iload_n 1, 1) := by decide +kernel
theorem d_X11_read_145 : decode prog_13_method_17_code 145 = .ok (.istore_n 2, 1) := by decide +kernel
theorem d_X11_read_146 : decode prog_13_method_17_code 146 = .ok (.iload_n 2, 1) := by decide +kernel
theorem d_X11_read_147 : decode prog_13_method_17_code 147 = .ok (.aload_n 0, 1) := by decide +kernel
theorem d_X11_read_148 : decode prog_13_method_17_code 148 = .ok (.getfield 209, 3) := by decide +kernel
theorem d_X11_read_151 : decode prog_13_method_17_code 151 = .ok (.if_icmp .ge 73, 3) := by decide +kernel
theorem d_X11_read_154 : decode prog_13_method_17_code 154 = .ok (.aload_n 0, 1) := by decide +kernel
theorem d_X11_read_155 : decode prog_13_method_17_code 155 = .ok (.getfield 35, 3) := by decide +kernel
theorem d_X11_read_158 : decode prog_13_method_17_code 158 = .ok (.iload_n 2, 1) := by decide +kernel
theorem d_X11_read_159 : decode prog_13_method_17_code 159 = .ok (.iaload, 1) := by decide +kernel
theorem d_X11_read_160 : decode prog_13_method_17_code 160 = .ok (.bipush 12, 2) := by decide +kernel
theorem d_X11_read_162 : decode prog_13_method_17_code 162 = .ok (.if_icmp .eq 17, 3) := by decide +kernel
theorem d_X11_read_165 : decode prog_13_method_17_code 165 = .ok (.aload_n 0, 1) := by decide +kernel
theorem d_X11_read_166 : decode prog_13_method_17_code 166 = .ok (.getfield 35, 3) := by decide +kernel
theorem d_X11_read_169 : decode prog_13_method_17_code 169 = .ok (.iload_n 2, 1) := by decide +kernel
theorem d_X11_read_170 : decode prog_13_method_17_code 170 = .ok (.iaload, 1) := by decide +kernel
theorem d_X11_read_171 : decode prog_13_method_17_code 171 = .ok (.bipush 13, 2) := by decide +kernel
theorem d_X11_read_173 : decode prog_13_method_17_code 173 = .ok (.if_icmp .eq 6, 3) := by decide +kernel
theorem d_X11_read_176 : decode prog_13_method_17_code 176 = .ok (.goto 42, 3) := by decide +kernel
theorem d_X11_read_179 : decode prog_13_method_17_code 179 = .ok (.aload_n 0, 1) := by decide +kernel
theorem d_X11_read_180 : decode prog_13_method_17_code 180 = .ok (.getfield 60, 3) := by decide +kernel
theorem d_X11_read_183 : decode prog_13_method_17_code 183 = .ok (.aload_n 0, 1) := by decide +kernel
theorem d_X11_read_184 : decode prog_13_method_17_code 184 = .ok (.getfield 54, 3) := by decide +kernel
theorem d_X11_read_187 : decode prog_13_method_17_code 187 = .ok (.iload_n 2, 1) := by decide +kernel
theorem d_X11_read_188 : decode prog_13_method_17_code 188 = .ok (.iaload, 1) := by decide +kernel
theorem d_X11_read_189 : decode prog_13_method_17_code 189 = .ok (.iaload, 1) := by decide +kernel
theorem d_X11_read_190 : decode prog_13_method_17_code 190 = .ok (.iconst (-1), 1) := by decide +kernel
theorem d_X11_read_191 : decode prog_13_method_17_code 191 = .ok (.if_icmp .ne 10, 3) := by decide +kernel
theorem d_X11_read_194 : decode prog_13_method_17_code 194 = .ok (.aload_n 0, 1) := by decide +kernel
theorem d_X11_read_195 : decode prog_13_method_17_code 195 = .ok (.getfield 57, 3) := by decide +kernel
theorem d_X11_read_198 : decode prog_13_method_17_code 198 = .ok (.iload_n 2, 1) := by decide +kernel
theorem d_X11_read_199 : decode prog_13_method_17_code 199 = .ok (.iaload, 1) := by decide +kernel
theorem d_X11_read_200 : decode prog_13_method_17_code 200 = .ok (.ireturn, 1) := by decide +kernel
theorem d_X11_read_201 : decode prog_13_method_17_code 201 = .ok (.aload_n 0, 1) := by decide +kernel
theorem d_X11_read_202 : decode prog_13_method_17_code 202 = .ok (.getfield 54, 3) := by decide +kernel
theorem d_X11_read_205 : decode prog_13_method_17_code 205 = .ok (.iload_n 2, 1) := by decide +kernel
theorem d_X11_read_206 : decode prog_13_method_17_code 206 = .ok (.aload_n 0, 1) := by decide +kernel
theorem d_X11_read_207 : decode prog_13_method_17_code 207 = .ok (.getfield 60, 3) := by decide +kernel
theorem d_X11_read_210 : decode prog_13_method_17_code 210 = .ok (.aload_n 0, 1) := by decide +kernel
theorem d_X11_read_211 : decode prog_13_method_17_code 211 = .ok (.getfield 54, 3) := by decide +kernel
theorem d_X11_read_214 : decode prog_13_method_17_code 214 = .ok (.iload_n 2, 1) := by decide +kernel
theorem d_X11_read_215 : decode prog_13_method_17_code 215 = .ok (.iaload, 1) := by decide +kernel
theorem d_X11_read_216 : decode prog_13_method_17_code 216 = .ok (.iaload, 1) := by decide +kernel
theorem d_X11_read_217 : decode prog_13_method_17_code 217 = .ok (.iastore, 1) := by decide +kernel
theorem d_X11_read_218 : decode prog_13_method_17_code 218 = .ok (.iinc 2 1, 3) := by decide +kernel
theorem d_X11_read_221 : decode prog_13_method_17_code 221 = .ok (.goto (-75), 3) := by decide +kernel
theorem d_X11_read_224 : decode prog_13_method_17_code 224 = .ok (.iconst (-1), 1) := by decide +kernel
theorem d_X11_read_225 : decode prog_13_method_17_code 225 = .ok (.ireturn, 1) := by decide +kernel
abbrev Y_X11_program : Yx := (⟨"TaskWeaveModel", "program", "(I)I"⟩, prog_13_method_18_code, 4, (some .int))
abbrev M_X11_program : Mx := ("TaskWeaveModel", prog_13_method_18_code, 4, false)
theorem yk_X11_program : Yk Y_X11_program 1 := ⟨by decide +kernel, by decide +kernel, ⟨by decide, by decide⟩, by decide +kernel, by decide, trivial⟩
theorem d_X11_program_0 : decode prog_13_method_18_code 0 = .ok (.aload_n 0, 1) := by decide +kernel
theorem d_X11_program_1 : decode prog_13_method_18_code 1 = .ok (.getfield 209, 3) := by decide +kernel
theorem d_X11_program_4 : decode prog_13_method_18_code 4 = .ok (.istore_n 2, 1) := by decide +kernel
theorem d_X11_program_5 : decode prog_13_method_18_code 5 = .ok (.iload_n 1, 1) := by decide +kernel
theorem d_X11_program_6 : decode prog_13_method_18_code 6 = .ok (.bipush 8, 2) := by decide +kernel
theorem d_X11_program_8 : decode prog_13_method_18_code 8 = .ok (.invokestatic 230, 3) := by decide +kernel
theorem d_X11_program_11 : decode prog_13_method_18_code 11 = .ok (.istore_n 3, 1) := by decide +kernel
theorem d_X11_program_12 : decode prog_13_method_18_code 12 = .ok (.aload_n 0, 1) := by decide +kernel
theorem d_X11_program_13 : decode prog_13_method_18_code 13 = .ok (.iload_n 3, 1) := by decide +kernel
theorem d_X11_program_14 : decode prog_13_method_18_code 14 = .ok (.ifCond .eq 11, 3) := by decide +kernel
theorem d_X11_program_17 : decode prog_13_method_18_code 17 = .ok (.aload_n 0, 1) := by decide +kernel
theorem d_X11_program_18 : decode prog_13_method_18_code 18 = .ok (.iload_n 2, 1) := by decide +kernel
theorem d_X11_program_19 : decode prog_13_method_18_code 19 = .ok (.invokevirtual 234, 3) := by decide +kernel
theorem d_X11_program_22 : decode prog_13_method_18_code 22 = .ok (.goto 4, 3) := by decide +kernel
theorem d_X11_program_25 : decode prog_13_method_18_code 25 = .ok (.iconst (-1), 1) := by decide +kernel
theorem d_X11_program_26 : decode prog_13_method_18_code 26 = .ok (.putfield 13, 3) := by decide +kernel
theorem d_X11_program_29 : decode prog_13_method_18_code 29 = .ok (.aload_n 0, 1) := by decide +kernel
theorem d_X11_program_30 : decode prog_13_method_18_code 30 = .ok (.iconst 0, 1) := by decide +kernel
theorem d_X11_program_31 : decode prog_13_method_18_code 31 = .ok (.putfield 186, 3) := by decide +kernel
theorem d_X11_program_34 : decode prog_13_method_18_code 34 = .ok (.iload_n 3, 1) := by decide +kernel
theorem d_X11_program_35 : decode prog_13_method_18_code 35 = .ok (.ifCond .eq 11, 3) := by decide +kernel
theorem d_X11_program_38 : decode prog_13_method_18_code 38 = .ok (.aload_n 0, 1) := by decide +kernel
theorem d_X11_program_39 : decode prog_13_method_18_code 39 = .ok (.getfield 13, 3) := by decide +kernel
theorem d_X11_program_42 : decode prog_13_method_18_code 42 = .ok (.iconst (-1), 1) := by decide +kernel
theorem d_X11_program_43 : decode prog_13_method_18_code 43 = .ok (.if_icmp .eq 22, 3) := by decide +kernel
theorem d_X11_program_46 : decode prog_13_method_18_code 46 = .ok (.aload_n 0, 1) := by decide +kernel
theorem d_X11_program_47 : decode prog_13_method_18_code 47 = .ok (.iload_n 2, 1) := by decide +kernel
theorem d_X11_program_48 : decode prog_13_method_18_code 48 = .ok (.putfield 209, 3) := by decide +kernel
theorem d_X11_program_51 : decode prog_13_method_18_code 51 = .ok (.aload_n 0, 1) := by decide +kernel
theorem d_X11_program_52 : decode prog_13_method_18_code 52 = .ok (.iload_n 3, 1) := by decide +kernel
theorem d_X11_program_53 : decode prog_13_method_18_code 53 = .ok (.ifCond .eq 7, 3) := by decide +kernel
theorem d_X11_program_56 : decode prog_13_method_18_code 56 = .ok (.iconst 1, 1) := by decide +kernel
theorem d_X11_program_57 : decode prog_13_method_18_code 57 = .ok (.goto 4, 3) := by decide +kernel
theorem d_X11_program_60 : decode prog_13_method_18_code 60 = .ok (.iconst 2, 1) := by decide +kernel
theorem d_X11_program_61 : decode prog_13_method_18_code 61 = .ok (.invokevirtual 238, 3) := by decide +kernel
theorem d_X11_program_64 : decode prog_13_method_18_code 64 = .ok (.ireturn, 1) := by decide +kernel
theorem d_X11_program_65 : decode prog_13_method_18_code 65 = .ok (.aload_n 0, 1) := by decide +kernel
theorem d_X11_program_66 : decode prog_13_method_18_code 66 = .ok (.iconst 0, 1) := by decide +kernel
theorem d_X11_program_67 : decode prog_13_method_18_code 67 = .ok (.putfield 183, 3) := by decide +kernel
theorem d_X11_program_70 : decode prog_13_method_18_code 70 = .ok (.aload_n 0, 1) := by decide +kernel
theorem d_X11_program_71 : decode prog_13_method_18_code 71 = .ok (.getfield 17, 3) := by decide +kernel
theorem d_X11_program_74 : decode prog_13_method_18_code 74 = .ok (.aload_n 0, 1) := by decide +kernel
theorem d_X11_program_75 : decode prog_13_method_18_code 75 = .ok (.getfield 241, 3) := by decide +kernel
theorem d_X11_program_78 : decode prog_13_method_18_code 78 = .ok (.iload_n 1, 1) := by decide +kernel
theorem d_X11_program_79 : decode prog_13_method_18_code 79 = .ok (.iastore, 1) := by decide +kernel
theorem d_X11_program_80 : decode prog_13_method_18_code 80 = .ok (.aload_n 0, 1) := by decide +kernel
theorem d_X11_program_81 : decode prog_13_method_18_code 81 = .ok (.getfield 20, 3) := by decide +kernel
theorem d_X11_program_84 : decode prog_13_method_18_code 84 = .ok (.aload_n 0, 1) := by decide +kernel
theorem d_X11_program_85 : decode prog_13_method_18_code 85 = .ok (.getfield 241, 3) := by decide +kernel
theorem d_X11_program_88 : decode prog_13_method_18_code 88 = .ok (.aload_n 0, 1) := by decide +kernel
theorem d_X11_program_89 : decode prog_13_method_18_code 89 = .ok (.getfield 32, 3) := by decide +kernel
theorem d_X11_program_92 : decode prog_13_method_18_code 92 = .ok (.iload_n 1, 1) := by decide +kernel
theorem d_X11_program_93 : decode prog_13_method_18_code 93 = .ok (.iaload, 1) := by decide +kernel
theorem d_X11_program_94 : decode prog_13_method_18_code 94 = .ok (.iastore, 1) := by decide +kernel
theorem d_X11_program_95 : decode prog_13_method_18_code 95 = .ok (.aload_n 0, 1) := by decide +kernel
theorem d_X11_program_96 : decode prog_13_method_18_code 96 = .ok (.getfield 23, 3) := by decide +kernel
theorem d_X11_program_99 : decode prog_13_method_18_code 99 = .ok (.aload_n 0, 1) := by decide +kernel
theorem d_X11_program_100 : decode prog_13_method_18_code 100 = .ok (.getfield 241, 3) := by decide +kernel
theorem d_X11_program_103 : decode prog_13_method_18_code 103 = .ok (.iload_n 2, 1) := by decide +kernel
theorem d_X11_program_104 : decode prog_13_method_18_code 104 = .ok (.iastore, 1) := by decide +kernel
theorem d_X11_program_105 : decode prog_13_method_18_code 105 = .ok (.aload_n 0, 1) := by decide +kernel
theorem d_X11_program_106 : decode prog_13_method_18_code 106 = .ok (.getfield 26, 3) := by decide +kernel
theorem d_X11_program_109 : decode prog_13_method_18_code 109 = .ok (.aload_n 0, 1) := by decide +kernel
theorem d_X11_program_110 : decode prog_13_method_18_code 110 = .ok (.getfield 241, 3) := by decide +kernel
theorem d_X11_program_113 : decode prog_13_method_18_code 113 = .ok (.aload_n 0, 1) := by decide +kernel
theorem d_X11_program_114 : decode prog_13_method_18_code 114 = .ok (.getfield 209, 3) := by decide +kernel
theorem d_X11_program_117 : decode prog_13_method_18_code 117 = .ok (.iload_n 2, 1) := by decide +kernel
theorem d_X11_program_118 : decode prog_13_method_18_code 118 = .ok (.isub, 1) := by decide +kernel
theorem d_X11_program_119 : decode prog_13_method_18_code 119 = .ok (.iastore, 1) := by decide +kernel
theorem d_X11_program_120 : decode prog_13_method_18_code 120 = .ok (.aload_n 0, 1) := by decide +kernel
theorem d_X11_program_121 : decode prog_13_method_18_code 121 = .ok (.getfield 29, 3) := by decide +kernel
theorem d_X11_program_124 : decode prog_13_method_18_code 124 = .ok (.iload_n 1, 1) := by decide +kernel
theorem d_X11_program_125 : decode prog_13_method_18_code 125 = .ok (.aload_n 0, 1) := by decide +kernel
theorem d_X11_program_126 : decode prog_13_method_18_code 126 = .ok (.getfield 241, 3) := by decide +kernel
theorem d_X11_program_129 : decode prog_13_method_18_code 129 = .ok (.iastore, 1) := by decide +kernel
theorem d_X11_program_130 : decode prog_13_method_18_code 130 = .ok (.aload_n 0, 1) := by decide +kernel
theorem d_X11_program_131 : decode prog_13_method_18_code 131 = .ok (.getfield 32, 3) := by decide +kernel
theorem d_X11_program_134 : decode prog_13_method_18_code 134 = .ok (.iload_n 1, 1) := by decide +kernel
theorem d_X11_program_135 : decode prog_13_method_18_code 135 = .ok (.dup2, 1) := by decide +kernel
theorem d_X11_program_136 : decode prog_13_method_18_code 136 = .ok (.iaload, 1) := by decide +kernel
theorem d_X11_program_137 : decode prog_13_method_18_code 137 = .ok (.iconst 1, 1) := by decide +kernel
theorem d_X11_program_138 : decode prog_13_method_18_code 138 = .ok (.iadd, 1) := by decide +kernel
theorem d_X11_program_139 : decode prog_13_method_18_code 139 = .ok (.iastore, 1) := by decide +kernel
theorem d_X11_program_140 : decode prog_13_method_18_code 140 = .ok (.aload_n 0, 1) := by decide +kernel
theorem d_X11_program_141 : decode prog_13_method_18_code 141 = .ok (.dup, 1) := by decide +kernel
theorem d_X11_program_142 : decode prog_13_method_18_code 142 = .ok (.getfield 241, 3) := by decide +kernel
theorem d_X11_program_145 : decode prog_13_method_18_code 145 = .ok (.iconst 1, 1) := by decide +kernel
theorem d_X11_program_146 : decode prog_13_method_18_code 146 = .ok (.iadd, 1) := by decide +kernel
theorem d_X11_program_147 : decode prog_13_method_18_code 147 = .ok (.putfield 241, 3) := by decide +kernel
theorem d_X11_program_150 : decode prog_13_method_18_code 150 = .ok (.aload_n 0, 1) := by decide +kernel
theorem d_X11_program_151 : decode prog_13_method_18_code 151 = .ok (.getfield 209, 3) := by decide +kernel
theorem d_X11_program_154 : decode prog_13_method_18_code 154 = .ok (.iload_n 2, 1) := by decide +kernel
theorem d_X11_program_155 : decode prog_13_method_18_code 155 = .ok (.isub, 1) := by decide +kernel
theorem d_X11_program_156 : decode prog_13_method_18_code 156 = .ok (.ireturn, 1) := by decide +kernel
abbrev Y_X11_fault : Yx := (⟨"TaskWeaveModel", "fault", "()I"⟩, prog_13_method_19_code, 1, (some .int))
abbrev M_X11_fault : Mx := ("TaskWeaveModel", prog_13_method_19_code, 1, false)
theorem yk_X11_fault : Yk Y_X11_fault 0 := ⟨by decide +kernel, by decide +kernel, ⟨by decide, by decide⟩, by decide +kernel, by decide, trivial⟩
theorem d_X11_fault_0 : decode prog_13_method_19_code 0 = .ok (.aload_n 0, 1) := by decide +kernel
theorem d_X11_fault_1 : decode prog_13_method_19_code 1 = .ok (.iconst 0, 1) := by decide +kernel
theorem d_X11_fault_2 : decode prog_13_method_19_code 2 = .ok (.putfield 183, 3) := by decide +kernel
theorem d_X11_fault_5 : decode prog_13_method_19_code 5 = .ok (.aload_n 0, 1) := by decide +kernel
theorem d_X11_fault_6 : decode prog_13_method_19_code 6 = .ok (.getfield 13, 3) := by decide +kernel
theorem d_X11_fault_9 : decode prog_13_method_19_code 9 = .ok (.ireturn, 1) := by decide +kernel
abbrev Y_X11_textFor : Yx := (⟨"TaskWeaveModel", "textFor", "(I)I"⟩, prog_13_method_20_code, 3, (some .int))
abbrev M_X11_textFor : Mx := ("TaskWeaveModel", prog_13_method_20_code, 3, false)
theorem yk_X11_textFor : Yk Y_X11_textFor 1 := ⟨by decide +kernel, by decide +kernel, ⟨by decide, by decide⟩, by decide +kernel, by decide, trivial⟩
theorem d_X11_textFor_0 : decode prog_13_method_20_code 0 = .ok (.iconst 0, 1) := by decide +kernel
theorem d_X11_textFor_1 : decode prog_13_method_20_code 1 = .ok (.istore_n 2, 1) := by decide +kernel
theorem d_X11_textFor_2 : decode prog_13_method_20_code 2 = .ok (.aload_n 0, 1) := by decide +kernel
theorem d_X11_textFor_3 : decode prog_13_method_20_code 3 = .ok (.getfield 17, 3) := by decide +kernel
theorem d_X11_textFor_6 : decode prog_13_method_20_code 6 = .ok (.iload_n 2, 1) := by decide +kernel
theorem d_X11_textFor_7 : decode prog_13_method_20_code 7 = .ok (.iaload, 1) := by decide +kernel
theorem d_X11_textFor_8 : decode prog_13_method_20_code 8 = .ok (.iload_n 1, 1) := by decide +kernel
theorem d_X11_textFor_9 : decode prog_13_method_20_code 9 = .ok (.bipush 8, 2) := by decide +kernel
theorem d_X11_textFor_11 : decode prog_13_method_20_code 11 = .ok (.irem, 1) := by decide +kernel
theorem d_X11_textFor_12 : decode prog_13_method_20_code 12 = .ok (.if_icmp .ne 16, 3) := by decide +kernel
theorem d_X11_textFor_15 : decode prog_13_method_20_code 15 = .ok (.aload_n 0, 1) := by decide +kernel
theorem d_X11_textFor_16 : decode prog_13_method_20_code 16 = .ok (.getfield 20, 3) := by decide +kernel
theorem d_X11_textFor_19 : decode prog_13_method_20_code 19 = .ok (.iload_n 2, 1) := by decide +kernel
theorem d_X11_textFor_20 : decode prog_13_method_20_code 20 = .ok (.iaload, 1) := by decide +kernel
theorem d_X11_textFor_21 : decode prog_13_method_20_code 21 = .ok (.iload_n 1, 1) := by decide +kernel
theorem d_X11_textFor_22 : decode prog_13_method_20_code 22 = .ok (.bipush 8, 2) := by decide +kernel
theorem d_X11_textFor_24 : decode prog_13_method_20_code 24 = .ok (.idiv, 1) := by decide +kernel
theorem d_X11_textFor_25 : decode prog_13_method_20_code 25 = .ok (.if_icmp .eq 9, 3) := by decide +kernel
theorem d_X11_textFor_28 : decode prog_13_method_20_code 28 = .ok (.iinc 2 1, 3) := by decide +kernel
theorem d_X11_textFor_31 : decode prog_13_method_20_code 31 = .ok (.goto (-29), 3) := by decide +kernel
theorem d_X11_textFor_34 : decode prog_13_method_20_code 34 = .ok (.iload_n 2, 1) := by decide +kernel
theorem d_X11_textFor_35 : decode prog_13_method_20_code 35 = .ok (.ireturn, 1) := by decide +kernel
abbrev Y_X11_newRecord : Yx := (⟨"TaskWeaveModel", "newRecord", "(IIIIII)I"⟩, prog_13_method_21_code, 7, (some .int))
abbrev M_X11_newRecord : Mx := ("TaskWeaveModel", prog_13_method_21_code, 7, false)
theorem yk_X11_newRecord : Yk Y_X11_newRecord 6 := ⟨by decide +kernel, by decide +kernel, ⟨by decide, by decide⟩, by decide +kernel, by decide, trivial⟩
theorem d_X11_newRecord_0 : decode prog_13_method_21_code 0 = .ok (.aload_n 0, 1) := by decide +kernel
theorem d_X11_newRecord_1 : decode prog_13_method_21_code 1 = .ok (.getfield 64, 3) := by decide +kernel
theorem d_X11_newRecord_4 : decode prog_13_method_21_code 4 = .ok (.aload_n 0, 1) := by decide +kernel
theorem d_X11_newRecord_5 : decode prog_13_method_21_code 5 = .ok (.getfield 244, 3) := by decide +kernel
theorem d_X11_newRecord_8 : decode prog_13_method_21_code 8 = .ok (.bipush 16, 2) := by decide +kernel
theorem d_X11_newRecord_10 : decode prog_13_method_21_code 10 = .ok (.iload_n 1, 1) := by decide +kernel
theorem d_X11_newRecord_11 : decode prog_13_method_21_code 11 = .ok (.imul, 1) := by decide +kernel
theorem d_X11_newRecord_12 : decode prog_13_method_21_code 12 = .ok (.iload_n 2, 1) := by decide +kernel
theorem d_X11_newRecord_13 : decode prog_13_method_21_code 13 = .ok (.iadd, 1) := by decide +kernel
theorem d_X11_newRecord_14 : decode prog_13_method_21_code 14 = .ok (.iastore, 1) := by decide +kernel
theorem d_X11_newRecord_15 : decode prog_13_method_21_code 15 = .ok (.aload_n 0, 1) := by decide +kernel
theorem d_X11_newRecord_16 : decode prog_13_method_21_code 16 = .ok (.getfield 67, 3) := by decide +kernel
theorem d_X11_newRecord_19 : decode prog_13_method_21_code 19 = .ok (.aload_n 0, 1) := by decide +kernel
theorem d_X11_newRecord_20 : decode prog_13_method_21_code 20 = .ok (.getfield 244, 3) := by decide +kernel
theorem d_X11_newRecord_23 : decode prog_13_method_21_code 23 = .ok (.iload_n 3, 1) := by decide +kernel
theorem d_X11_newRecord_24 : decode prog_13_method_21_code 24 = .ok (.iastore, 1) := by decide +kernel
theorem d_X11_newRecord_25 : decode prog_13_method_21_code 25 = .ok (.aload_n 0, 1) := by decide +kernel
theorem d_X11_newRecord_26 : decode prog_13_method_21_code 26 = .ok (.getfield 70, 3) := by decide +kernel
theorem d_X11_newRecord_29 : decode prog_13_method_21_code 29 = .ok (.aload_n 0, 1) := by decide +kernel
theorem d_X11_newRecord_30 : decode prog_13_method_21_code 30 = .ok (.getfield 244, 3) := by decide +kernel
theorem d_X11_newRecord_33 : decode prog_13_method_21_code 33 = .ok (.iload 4, 2) := by decide +kernel
theorem d_X11_newRecord_35 : decode prog_13_method_21_code 35 = .ok (.iastore, 1) := by decide +kernel
theorem d_X11_newRecord_36 : decode prog_13_method_21_code 36 = .ok (.aload_n 0, 1) := by decide +kernel
theorem d_X11_newRecord_37 : decode prog_13_method_21_code 37 = .ok (.getfield 73, 3) := by decide +kernel
theorem d_X11_newRecord_40 : decode prog_13_method_21_code 40 = .ok (.aload_n 0, 1) := by decide +kernel
theorem d_X11_newRecord_41 : decode prog_13_method_21_code 41 = .ok (.getfield 244, 3) := by decide +kernel
theorem d_X11_newRecord_44 : decode prog_13_method_21_code 44 = .ok (.iload 5, 2) := by decide +kernel
theorem d_X11_newRecord_46 : decode prog_13_method_21_code 46 = .ok (.iastore, 1) := by decide +kernel
theorem d_X11_newRecord_47 : decode prog_13_method_21_code 47 = .ok (.aload_n 0, 1) := by decide +kernel
theorem d_X11_newRecord_48 : decode prog_13_method_21_code 48 = .ok (.getfield 76, 3) := by decide +kernel
theorem d_X11_newRecord_51 : decode prog_13_method_21_code 51 = .ok (.aload_n 0, 1) := by decide +kernel
theorem d_X11_newRecord_52 : decode prog_13_method_21_code 52 = .ok (.getfield 244, 3) := by decide +kernel
theorem d_X11_newRecord_55 : decode prog_13_method_21_code 55 = .ok (.iload 6, 2) := by decide +kernel
theorem d_X11_newRecord_57 : decode prog_13_method_21_code 57 = .ok (.iastore, 1) := by decide +kernel
theorem d_X11_newRecord_58 : decode prog_13_method_21_code 58 = .ok (.aload_n 0, 1) := by decide +kernel
theorem d_X11_newRecord_59 : decode prog_13_method_21_code 59 = .ok (.dup, 1) := by decide +kernel
theorem d_X11_newRecord_60 : decode prog_13_method_21_code 60 = .ok (.getfield 244, 3) := by decide +kernel
theorem d_X11_newRecord_63 : decode prog_13_method_21_code 63 = .ok (.iconst 1, 1) := by decide +kernel
theorem d_X11_newRecord_64 : decode prog_13_method_21_code 64 = .ok (.iadd, 1) := by decide +kernel
theorem d_X11_newRecord_65 : decode prog_13_method_21_code 65 = .ok (.putfield 244, 3) := by decide +kernel
theorem d_X11_newRecord_68 : decode prog_13_method_21_code 68 = .ok (.aload_n 0, 1) := by decide +kernel
theorem d_X11_newRecord_69 : decode prog_13_method_21_code 69 = .ok (.getfield 244, 3) := by decide +kernel
theorem d_X11_newRecord_72 : decode prog_13_method_21_code 72 = .ok (.iconst 1, 1) := by decide +kernel
theorem d_X11_newRecord_73 : decode prog_13_method_21_code 73 = .ok (.isub, 1) := by decide +kernel
theorem d_X11_newRecord_74 : decode prog_13_method_21_code 74 = .ok (.ireturn, 1) := by decide +kernel
abbrev Y_X11_kindOf : Yx := (⟨"TaskWeaveModel", "kindOf", "(I)I"⟩, prog_13_method_22_code, 2, (some .int))
abbrev M_X11_kindOf : Mx := ("TaskWeaveModel", prog_13_method_22_code, 2, false)
theorem yk_X11_kindOf : Yk Y_X11_kindOf 1 := ⟨by decide +kernel, by decide +kernel, ⟨by decide, by decide⟩, by decide +kernel, by decide, trivial⟩
theorem d_X11_kindOf_0 : decode prog_13_method_22_code 0 = .ok (.aload_n 0, 1) := by decide +kernel
theorem d_X11_kindOf_1 : decode prog_13_method_22_code 1 = .ok (.getfield 64, 3) := by decide +kernel
theorem d_X11_kindOf_4 : decode prog_13_method_22_code 4 = .ok (.iload_n 1, 1) := by decide +kernel
theorem d_X11_kindOf_5 : decode prog_13_method_22_code 5 = .ok (.iaload, 1) := by decide +kernel
theorem d_X11_kindOf_6 : decode prog_13_method_22_code 6 = .ok (.bipush 16, 2) := by decide +kernel
theorem d_X11_kindOf_8 : decode prog_13_method_22_code 8 = .ok (.irem, 1) := by decide +kernel
theorem d_X11_kindOf_9 : decode prog_13_method_22_code 9 = .ok (.ireturn, 1) := by decide +kernel
abbrev Y_X11_down : Yx := (⟨"TaskWeaveModel", "down", "(I)V"⟩, prog_13_method_23_code, 2, none)
abbrev M_X11_down : Mx := ("TaskWeaveModel", prog_13_method_23_code, 2, false)
theorem yk_X11_down : Yk Y_X11_down 1 := ⟨by decide +kernel, by decide +kernel, ⟨by decide, by decide⟩, by decide +kernel, by decide, trivial⟩
theorem d_X11_down_0 : decode prog_13_method_23_code 0 = .ok (.aload_n 0, 1) := by decide +kernel
theorem d_X11_down_1 : decode prog_13_method_23_code 1 = .ok (.getfield 92, 3) := by decide +kernel
theorem d_X11_down_4 : decode prog_13_method_23_code 4 = .ok (.iload_n 1, 1) := by decide +kernel
theorem d_X11_down_5 : decode prog_13_method_23_code 5 = .ok (.iconst 0, 1) := by decide +kernel
theorem d_X11_down_6 : decode prog_13_method_23_code 6 = .ok (.bastore, 1) := by decide +kernel
theorem d_X11_down_7 : decode prog_13_method_23_code 7 = .ok (.aload_n 0, 1) := by decide +kernel
theorem d_X11_down_8 : decode prog_13_method_23_code 8 = .ok (.getfield 95, 3) := by decide +kernel
theorem d_X11_down_11 : decode prog_13_method_23_code 11 = .ok (.iload_n 1, 1) := by decide +kernel
theorem d_X11_down_12 : decode prog_13_method_23_code 12 = .ok (.iconst (-1), 1) := by decide +kernel
theorem d_X11_down_13 : decode prog_13_method_23_code 13 = .ok (.iastore, 1) := by decide +kernel
theorem d_X11_down_14 : decode prog_13_method_23_code 14 = .ok (.return_, 1) := by decide +kernel
theorem vk_10_198 : Vk "TaskWeaveModel" 198 0 12 Y_X11_isLetter := ⟨yk_X11_isLetter, by decide +kernel, by decide +kernel, by decide +kernel, by decide⟩
theorem vk_10_202 : Vk "TaskWeaveModel" 202 1 12 Y_X11_takes := ⟨yk_X11_takes, by decide +kernel, by decide +kernel, by decide +kernel, by decide⟩
theorem vk_10_206 : Vk "TaskWeaveModel" 206 0 12 Y_X11_isDigit := ⟨yk_X11_isDigit, by decide +kernel, by decide +kernel, by decide +kernel, by decide⟩
theorem fk_10_209 : Fk "TaskWeaveModel" 209 1213 := ⟨by decide, by decide, by decide +kernel⟩
def f_X11_value_106 (l0 : Nat) (l1 : Int32) (l2 : Int32) (l3 : Int32) (h : Hp) : Option (Int32 × Hp) := if (l1) = (0) then (ck (isO (h) (l0) 12) (ck (isO (h) (zR (h) 1216 (l0)) 23) (ck (inR (zI (h) 1213 (l0)) (zL (h) (zR (h) 1216 (l0)))) (bh (pE (h) (zR (h) 1216 (l0)) (zI (h) 1213 (l0)).toNatClampNeg (((l2) &&& 1))) (fun h28 => ck (isO (h28) (zR (h28) 1217 (l0)) 22) (ck (inR (zI (h28) 1213 (l0)) (zL (h28) (zR (h28) 1217 (l0)))) (bh (pE (h28) (zR (h28) 1217 (l0)) (zI (h28) 1213 (l0)).toNatClampNeg (l3)) (fun h31 => some ((1 : Int32), h31))))))))) else (ck (isO (h) (l0) 12) (ck (isO (h) (zR (h) 1218 (l0)) 23) (ck (inR (zI (h) 1213 (l0)) (zL (h) (zR (h) 1218 (l0)))) (bh (pE (h) (zR (h) 1218 (l0)) (zI (h) 1213 (l0)).toNatClampNeg (((l2) &&& 1))) (fun h35 => ck (isO (h35) (zR (h35) 1219 (l0)) 22) (ck (inR (zI (h35) 1213 (l0)) (zL (h35) (zR (h35) 1219 (l0)))) (bh (pE (h35) (zR (h35) 1219 (l0)) (zI (h35) 1213 (l0)).toNatClampNeg (l3)) (fun h38 => some ((1 : Int32), h38)))))))))
theorem f_X11_value_106_ok {G : Gd} {d : Nat} (hj : 3 ≤ d) : ∀ (l0 : Nat) (l1 : Int32) (l2 : Int32) (l3 : Int32) (L : List (Nat × Value)) (h : Hp) (o : (Int32 × Hp)), zlk L 0 = some (zrf (l0)) → zlk L 1 = some (.int (l1)) → zlk L 2 = some (.int (l2)) → zlk L 3 = some (.int (l3)) → f_X11_value_106 l0 l1 l2 l3 h = some o → Ev G M_X11_value d 106 L [] h (Ret Y_X11_value (some (.int o.1)) o.2) := by
  intro l0 l1 l2 l3 L h o g0 g1 g2 g3 e
  unfold f_X11_value_106 at e
  refine r_iload_n d_X11_value_106 rfl g1 ?_
  refine r_if_eq d_X11_value_107 (tgt := 133) (by decide) (fun c24 => ?_) (fun c24 => ?_)
  · replace e := (if_pos c24).symm.trans e
    refine g_ald_n d_X11_value_133 rfl g0 ?_
    replace e := ckd e
    obtain ⟨k25, e⟩ := e
    refine g_getR d_X11_value_134 (f := 1216) k25 fk_10_41 rfl rfl ?_
    refine g_ald_n d_X11_value_137 rfl g0 ?_
    refine g_getI d_X11_value_138 (f := 1213) k25 fk_10_209 rfl rfl ?_
    refine r_iload_n d_X11_value_141 rfl g2 ?_
    replace e := ckd e
    obtain ⟨k26, e⟩ := e
    replace e := ckd e
    obtain ⟨k27, e⟩ := e
    refine g_zast d_X11_value_142 k26 k27 ?_
    replace e := bhd e
    obtain ⟨_, rfl, e⟩ := e
    refine g_ald_n d_X11_value_143 rfl g0 ?_
    refine g_getR d_X11_value_144 (f := 1217) (tO_pE k25) fk_10_45 rfl rfl ?_
    refine g_ald_n d_X11_value_147 rfl g0 ?_
    refine g_getI d_X11_value_148 (f := 1213) (tO_pE k25) fk_10_209 rfl rfl ?_
    refine r_iload_n d_X11_value_151 rfl g3 ?_
    replace e := ckd e
    obtain ⟨k29, e⟩ := e
    replace e := ckd e
    obtain ⟨k30, e⟩ := e
    refine g_iast d_X11_value_152 k29 k30 ?_
    replace e := bhd e
    obtain ⟨_, rfl, e⟩ := e
    refine r_iconst d_X11_value_153 (v := (1 : Int32)) (by decide +kernel) ?_
    obtain rfl := Option.some.inj e
    exact g_iret d_X11_value_154 rfl rfl
  · replace e := (if_neg c24).symm.trans e
    refine g_ald_n d_X11_value_110 rfl g0 ?_
    replace e := ckd e
    obtain ⟨k32, e⟩ := e
    refine g_getR d_X11_value_111 (f := 1218) k32 fk_10_48 rfl rfl ?_
    refine g_ald_n d_X11_value_114 rfl g0 ?_
    refine g_getI d_X11_value_115 (f := 1213) k32 fk_10_209 rfl rfl ?_
    refine r_iload_n d_X11_value_118 rfl g2 ?_
    replace e := ckd e
    obtain ⟨k33, e⟩ := e
    replace e := ckd e
    obtain ⟨k34, e⟩ := e
    refine g_zast d_X11_value_119 k33 k34 ?_
    replace e := bhd e
    obtain ⟨_, rfl, e⟩ := e
    refine g_ald_n d_X11_value_120 rfl g0 ?_
    refine g_getR d_X11_value_121 (f := 1219) (tO_pE k32) fk_10_51 rfl rfl ?_
    refine g_ald_n d_X11_value_124 rfl g0 ?_
    refine g_getI d_X11_value_125 (f := 1213) (tO_pE k32) fk_10_209 rfl rfl ?_
    refine r_iload_n d_X11_value_128 rfl g3 ?_
    replace e := ckd e
    obtain ⟨k36, e⟩ := e
    replace e := ckd e
    obtain ⟨k37, e⟩ := e
    refine g_iast d_X11_value_129 k36 k37 ?_
    replace e := bhd e
    obtain ⟨_, rfl, e⟩ := e
    refine r_goto d_X11_value_130 (tgt := 153) (by decide) ?_
    refine r_iconst d_X11_value_153 (v := (1 : Int32)) (by decide +kernel) ?_
    obtain rfl := Option.some.inj e
    exact g_iret d_X11_value_154 rfl rfl

def f_X11_value_105 (s0 : Int32) (l0 : Nat) (l1 : Int32) (l2 : Int32) (h : Hp) : Option (Int32 × Hp) := f_X11_value_106 (l0) (l1) (l2) (s0) (h)
theorem f_X11_value_105_ok {G : Gd} {d : Nat} (hj : 3 ≤ d) : ∀ (s0 : Int32) (l0 : Nat) (l1 : Int32) (l2 : Int32) (L : List (Nat × Value)) (h : Hp) (o : (Int32 × Hp)), zlk L 0 = some (zrf (l0)) → zlk L 1 = some (.int (l1)) → zlk L 2 = some (.int (l2)) → f_X11_value_105 s0 l0 l1 l2 h = some o → Ev G M_X11_value d 105 L [.int (s0)] h (Ret Y_X11_value (some (.int o.1)) o.2) := by
  intro s0 l0 l1 l2 L h o g0 g1 g2 e
  unfold f_X11_value_105 at e
  refine s_istore_n d_X11_value_105 rfl (by decide) (fun L g3 gK => ?_)
  replace g0 := gK _ _ (by decide) (Or.inr (zrf_cat _)) g0
  replace g1 := gK _ _ (by decide) (Or.inr rfl) g1
  replace g2 := gK _ _ (by decide) (Or.inr rfl) g2
  exact f_X11_value_106_ok hj _ _ _ _ _ _ _ g0 g1 g2 g3 e

def f_X11_value_94 (l0 : Nat) (l1 : Int32) (l2 : Int32) (l3 : Int32) (l4 : Int32) (h : Hp) : Option (Int32 × Hp) := if (l4) = (0) then (f_X11_value_105 (l3) (l0) (l1) (l2) (h)) else (f_X11_value_105 (-(l3)) (l0) (l1) (l2) (h))
theorem f_X11_value_94_ok {G : Gd} {d : Nat} (hj : 3 ≤ d) : ∀ (l0 : Nat) (l1 : Int32) (l2 : Int32) (l3 : Int32) (l4 : Int32) (L : List (Nat × Value)) (h : Hp) (o : (Int32 × Hp)), zlk L 0 = some (zrf (l0)) → zlk L 1 = some (.int (l1)) → zlk L 2 = some (.int (l2)) → zlk L 3 = some (.int (l3)) → zlk L 4 = some (.int (l4)) → f_X11_value_94 l0 l1 l2 l3 l4 h = some o → Ev G M_X11_value d 94 L [] h (Ret Y_X11_value (some (.int o.1)) o.2) := by
  intro l0 l1 l2 l3 l4 L h o g0 g1 g2 g3 g4 e
  unfold f_X11_value_94 at e
  refine r_iload d_X11_value_94 g4 ?_
  refine r_if_eq d_X11_value_96 (tgt := 104) (by decide) (fun c39 => ?_) (fun c39 => ?_)
  · replace e := (if_pos c39).symm.trans e
    refine r_iload_n d_X11_value_104 rfl g3 ?_
    exact f_X11_value_105_ok hj _ _ _ _ _ _ _ g0 g1 g2 e
  · replace e := (if_neg c39).symm.trans e
    refine r_iload_n d_X11_value_99 rfl g3 ?_
    refine r_ineg d_X11_value_100 ?_
    refine r_goto d_X11_value_101 (tgt := 105) (by decide) ?_
    exact f_X11_value_105_ok hj _ _ _ _ _ _ _ g0 g1 g2 e

def f_X11_value_52 : Nat → Nat → Int32 → Int32 → Int32 → Int32 → Int32 → Hp → Option (Int32 × Hp)
  | 0, _, _, _, _, _, _, _ => none
  | n + 1, l0, l1, l2, l3, l4, l5, h => if ((5 : Int32)) ≤ (l5) then (f_X11_value_94 (l0) (l1) (l2) (l3) (l4) (h)) else (ck (isO (h) (l0) 12) ((f_X11_isDigit (l0) (h)).bind (fun q15 => if (q15.1) = (0) then (f_X11_value_94 (l0) (l1) (l2) (l3) (l4) (q15.2)) else (ck (isO (q15.2) (l0) 12) ((f_X11_see (l0) (q15.2)).bind (fun q18 => bh (((((10 : Int32)) * (l3)) + (q18.1)) - ((48 : Int32))) (fun x20 => ck (isO (q18.2) (l0) 12) (bh (pI (q18.2) 1223 (l0) ((zI (q18.2) 1223 (l0)) + ((1 : Int32)))) (fun h22 => bh ((l5) + (1 : Int32)) (fun x23 => f_X11_value_52 n (l0) (l1) (l2) (x20) (l4) (x23) (h22)))))))))))
theorem f_X11_value_52_ok {G : Gd} {d : Nat} (hj : 3 ≤ d) : ∀ (n : Nat) (l0 : Nat) (l1 : Int32) (l2 : Int32) (l3 : Int32) (l4 : Int32) (l5 : Int32) (L : List (Nat × Value)) (h : Hp) (o : (Int32 × Hp)), zlk L 0 = some (zrf (l0)) → zlk L 1 = some (.int (l1)) → zlk L 2 = some (.int (l2)) → zlk L 3 = some (.int (l3)) → zlk L 4 = some (.int (l4)) → zlk L 5 = some (.int (l5)) → f_X11_value_52 n l0 l1 l2 l3 l4 l5 h = some o → Ev G M_X11_value d 52 L [] h (Ret Y_X11_value (some (.int o.1)) o.2) := by
  intro n
  induction n with
  | zero =>
    intro l0 l1 l2 l3 l4 l5 L h o g0 g1 g2 g3 g4 g5 e
    cases e
  | succ n ih =>
    intro l0 l1 l2 l3 l4 l5 L h o g0 g1 g2 g3 g4 g5 e
    unfold f_X11_value_52 at e
    refine r_iload d_X11_value_52 g5 ?_
    refine r_iconst d_X11_value_54 (v := (5 : Int32)) (by decide +kernel) ?_
    refine r_icmp_ge d_X11_value_55 (tgt := 94) (by decide) (fun c14 => ?_) (fun c14 => ?_)
    · replace e := (if_pos c14).symm.trans e
      exact f_X11_value_94_ok hj _ _ _ _ _ _ _ _ g0 g1 g2 g3 g4 e
    · replace e := (if_neg c14).symm.trans e
      refine g_ald_n d_X11_value_58 rfl g0 ?_
      replace e := ckd e
      obtain ⟨k16, e⟩ := e
      replace e := bd e
      obtain ⟨q15, eq15, e⟩ := e
      refine g_callV d_X11_value_59 vk_10_206 (as := []) rfl k16 rfl (by simp [zrf_cat, cat_int, cat_long]) (j := 2) (by omega) (c_X11_isDigit (by omega) eq15) ?_
      refine r_if_eq d_X11_value_62 (tgt := 94) (by decide) (fun c17 => ?_) (fun c17 => ?_)
      · replace e := (if_pos c17).symm.trans e
        exact f_X11_value_94_ok hj _ _ _ _ _ _ _ _ g0 g1 g2 g3 g4 e
      · replace e := (if_neg c17).symm.trans e
        refine r_bipush d_X11_value_65 (v := (10 : Int32)) (by decide +kernel) ?_
        refine r_iload_n d_X11_value_67 rfl g3 ?_
        refine r_imul d_X11_value_68 ?_
        refine g_ald_n d_X11_value_69 rfl g0 ?_
        replace e := ckd e
        obtain ⟨k19, e⟩ := e
        replace e := bd e
        obtain ⟨q18, eq18, e⟩ := e
        refine g_callV d_X11_value_70 vk_10_194 (as := []) rfl k19 rfl (by simp [zrf_cat, cat_int, cat_long]) (j := 1) (by omega) (c_X11_see (by omega) eq18) ?_
        refine r_iadd d_X11_value_73 ?_
        refine r_bipush d_X11_value_74 (v := (48 : Int32)) (by decide +kernel) ?_
        refine r_isub d_X11_value_76 ?_
        replace e := bhd e
        obtain ⟨_, rfl, e⟩ := e
        refine s_istore_n d_X11_value_77 rfl (by decide) (fun L g3 gK => ?_)
        replace g0 := gK _ _ (by decide) (Or.inr (zrf_cat _)) g0
        replace g1 := gK _ _ (by decide) (Or.inr rfl) g1
        replace g2 := gK _ _ (by decide) (Or.inr rfl) g2
        replace g4 := gK _ _ (by decide) (Or.inr rfl) g4
        replace g5 := gK _ _ (by decide) (Or.inr rfl) g5
        refine g_ald_n d_X11_value_78 rfl g0 ?_
        refine r_dup d_X11_value_79 (zrf_cat _) ?_
        replace e := ckd e
        obtain ⟨k21, e⟩ := e
        refine g_getI d_X11_value_80 (f := 1223) k21 fk_10_191 rfl rfl ?_
        refine r_iconst d_X11_value_83 (v := (1 : Int32)) (by decide +kernel) ?_
        refine r_iadd d_X11_value_84 ?_
        refine g_putI d_X11_value_85 (f := 1223) k21 fk_10_191 rfl (Or.inl rfl) ⟨rfl, rfl⟩ ?_
        replace e := bhd e
        obtain ⟨_, rfl, e⟩ := e
        replace e := bhd e
        obtain ⟨_, rfl, e⟩ := e
        refine s_iinc d_X11_value_88 g5 (w := (1 : Int32)) (by decide +kernel) (by decide) (fun L g5 gK => ?_)
        replace g0 := gK _ _ (by decide) (Or.inr (zrf_cat _)) g0
        replace g1 := gK _ _ (by decide) (Or.inr rfl) g1
        replace g2 := gK _ _ (by decide) (Or.inr rfl) g2
        replace g3 := gK _ _ (by decide) (Or.inr rfl) g3
        replace g4 := gK _ _ (by decide) (Or.inr rfl) g4
        refine r_goto d_X11_value_91 (tgt := 52) (by decide) ?_
        exact ih _ _ _ _ _ _ _ _ _ g0 g1 g2 g3 g4 g5 e

def f_X11_value (l0 : Nat) (l1 : Int32) (h : Hp) : Option (Int32 × Hp) := ck (isO (h) (l0) 12) ((f_X11_isLetter (l0) (h)).bind (fun q1 => if (q1.1) = (0) then (ck (isO (q1.2) (l0) 12) ((f_X11_takes (l0) ((45 : Int32)) (q1.2)).bind (fun q4 => ck (isO (q4.2) (l0) 12) ((f_X11_isDigit (l0) (q4.2)).bind (fun q6 => if (q6.1) = (0) then (some ((0 : Int32), q6.2)) else (f_X11_value_52 fz (l0) (l1) (q1.1) ((0 : Int32)) (q4.1) ((0 : Int32)) (q6.2))))))) else (ck (isO (q1.2) (l0) 12) ((f_X11_see (l0) (q1.2)).bind (fun q9 => bh ((q9.1) - ((97 : Int32))) (fun x11 => ck (isO (q9.2) (l0) 12) (bh (pI (q9.2) 1223 (l0) ((zI (q9.2) 1223 (l0)) + ((1 : Int32)))) (fun h13 => f_X11_value_106 (l0) (l1) (q1.1) (x11) (h13)))))))))
theorem f_X11_value_ok {G : Gd} {d : Nat} (hj : 3 ≤ d) : ∀ (l0 : Nat) (l1 : Int32) (L : List (Nat × Value)) (h : Hp) (o : (Int32 × Hp)), zlk L 0 = some (zrf (l0)) → zlk L 1 = some (.int (l1)) → f_X11_value l0 l1 h = some o → Ev G M_X11_value d 0 L [] h (Ret Y_X11_value (some (.int o.1)) o.2) := by
  intro l0 l1 L h o g0 g1 e
  unfold f_X11_value at e
  refine g_ald_n d_X11_value_0 rfl g0 ?_
  replace e := ckd e
  obtain ⟨k2, e⟩ := e
  replace e := bd e
  obtain ⟨q1, eq1, e⟩ := e
  refine g_callV d_X11_value_1 vk_10_198 (as := []) rfl k2 rfl (by simp [zrf_cat, cat_int, cat_long]) (j := 2) (by omega) (c_X11_isLetter (by omega) eq1) ?_
  refine s_istore_n d_X11_value_4 rfl (by decide) (fun L g2 gK => ?_)
  replace g0 := gK _ _ (by decide) (Or.inr (zrf_cat _)) g0
  replace g1 := gK _ _ (by decide) (Or.inr rfl) g1
  refine r_iconst d_X11_value_5 (v := (0 : Int32)) (by decide +kernel) ?_
  refine s_istore_n d_X11_value_6 rfl (by decide) (fun L g3 gK => ?_)
  replace g0 := gK _ _ (by decide) (Or.inr (zrf_cat _)) g0
  replace g1 := gK _ _ (by decide) (Or.inr rfl) g1
  replace g2 := gK _ _ (by decide) (Or.inr rfl) g2
  refine r_iload_n d_X11_value_7 rfl g2 ?_
  refine r_if_eq d_X11_value_8 (tgt := 32) (by decide) (fun c3 => ?_) (fun c3 => ?_)
  · replace e := (if_pos c3).symm.trans e
    refine g_ald_n d_X11_value_32 rfl g0 ?_
    refine r_bipush d_X11_value_33 (v := (45 : Int32)) (by decide +kernel) ?_
    replace e := ckd e
    obtain ⟨k5, e⟩ := e
    replace e := bd e
    obtain ⟨q4, eq4, e⟩ := e
    refine g_callV d_X11_value_35 vk_10_202 (as := [_]) rfl k5 rfl (by simp [zrf_cat, cat_int, cat_long]) (j := 2) (by omega) (c_X11_takes (by omega) eq4) ?_
    refine s_istore d_X11_value_38 (by decide) (fun L g4 gK => ?_)
    replace g0 := gK _ _ (by decide) (Or.inr (zrf_cat _)) g0
    replace g1 := gK _ _ (by decide) (Or.inr rfl) g1
    replace g2 := gK _ _ (by decide) (Or.inr rfl) g2
    replace g3 := gK _ _ (by decide) (Or.inr rfl) g3
    refine g_ald_n d_X11_value_40 rfl g0 ?_
    replace e := ckd e
    obtain ⟨k7, e⟩ := e
    replace e := bd e
    obtain ⟨q6, eq6, e⟩ := e
    refine g_callV d_X11_value_41 vk_10_206 (as := []) rfl k7 rfl (by simp [zrf_cat, cat_int, cat_long]) (j := 2) (by omega) (c_X11_isDigit (by omega) eq6) ?_
    refine r_if_ne d_X11_value_44 (tgt := 49) (by decide) (fun c8 => ?_) (fun c8 => ?_)
    · replace e := (if_neg c8).symm.trans e
      refine r_iconst d_X11_value_49 (v := (0 : Int32)) (by decide +kernel) ?_
      refine s_istore d_X11_value_50 (by decide) (fun L g5 gK => ?_)
      replace g0 := gK _ _ (by decide) (Or.inr (zrf_cat _)) g0
      replace g1 := gK _ _ (by decide) (Or.inr rfl) g1
      replace g2 := gK _ _ (by decide) (Or.inr rfl) g2
      replace g3 := gK _ _ (by decide) (Or.inr rfl) g3
      replace g4 := gK _ _ (by decide) (Or.inr rfl) g4
      exact f_X11_value_52_ok hj _ _ _ _ _ _ _ _ _ _ g0 g1 g2 g3 g4 g5 e
    · replace e := (if_pos c8).symm.trans e
      refine r_iconst d_X11_value_47 (v := (0 : Int32)) (by decide +kernel) ?_
      obtain rfl := Option.some.inj e
      exact g_iret d_X11_value_48 rfl rfl
  · replace e := (if_neg c3).symm.trans e
    refine g_ald_n d_X11_value_11 rfl g0 ?_
    replace e := ckd e
    obtain ⟨k10, e⟩ := e
    replace e := bd e
    obtain ⟨q9, eq9, e⟩ := e
    refine g_callV d_X11_value_12 vk_10_194 (as := []) rfl k10 rfl (by simp [zrf_cat, cat_int, cat_long]) (j := 1) (by omega) (c_X11_see (by omega) eq9) ?_
    refine r_bipush d_X11_value_15 (v := (97 : Int32)) (by decide +kernel) ?_
    refine r_isub d_X11_value_17 ?_
    replace e := bhd e
    obtain ⟨_, rfl, e⟩ := e
    refine s_istore_n d_X11_value_18 rfl (by decide) (fun L g3 gK => ?_)
    replace g0 := gK _ _ (by decide) (Or.inr (zrf_cat _)) g0
    replace g1 := gK _ _ (by decide) (Or.inr rfl) g1
    replace g2 := gK _ _ (by decide) (Or.inr rfl) g2
    refine g_ald_n d_X11_value_19 rfl g0 ?_
    refine r_dup d_X11_value_20 (zrf_cat _) ?_
    replace e := ckd e
    obtain ⟨k12, e⟩ := e
    refine g_getI d_X11_value_21 (f := 1223) k12 fk_10_191 rfl rfl ?_
    refine r_iconst d_X11_value_24 (v := (1 : Int32)) (by decide +kernel) ?_
    refine r_iadd d_X11_value_25 ?_
    refine g_putI d_X11_value_26 (f := 1223) k12 fk_10_191 rfl (Or.inl rfl) ⟨rfl, rfl⟩ ?_
    replace e := bhd e
    obtain ⟨_, rfl, e⟩ := e
    refine r_goto d_X11_value_29 (tgt := 106) (by decide) ?_
    exact f_X11_value_106_ok hj _ _ _ _ _ _ _ g0 g1 g2 g3 e

theorem c_X11_value {G : Gd} {j : Nat} (hj : 3 ≤ j) {l0 : Nat} {l1 : Int32} {h : Hp} {o : (Int32 × Hp)} (e : f_X11_value l0 l1 h = some o) : Cal G j Y_X11_value [zrf (l0), .int (l1)] h (some (.int o.1)) o.2 := Cal.of (n := 0) (I := false) (by first | exact Or.inl (by decide +kernel) | exact Or.inr (by decide +kernel)) (by decide) (by simp [lg_sl, zrf_cat, cat_int, cat_long]) (f_X11_value_ok hj _ _ _ h o (by simp [lv_args, zlk, zrf_cat, cat_int, cat_long]) (by simp [lv_args, zlk, zrf_cat, cat_int, cat_long]) e)
theorem vk_10_212 : Vk "TaskWeaveModel" 212 1 12 Y_X11_value := ⟨yk_X11_value, by decide +kernel, by decide +kernel, by decide +kernel, by decide⟩
def f_X11_bracketed (l0 : Nat) (h : Hp) : Option (Int32 × Hp) := ck (isO (h) (l0) 12) ((f_X11_takes (l0) ((40 : Int32)) (h)).bind (fun q1 => if (q1.1) = (0) then (some ((0 : Int32), q1.2)) else (ck (isO (q1.2) (l0) 12) ((f_X11_value (l0) ((0 : Int32)) (q1.2)).bind (fun q4 => if (q4.1) = (0) then (some ((0 : Int32), q4.2)) else (ck (isO (q4.2) (l0) 12) ((f_X11_takes (l0) ((41 : Int32)) (q4.2)).bind (fun q7 => if (q7.1) = (0) then (some ((0 : Int32), q7.2)) else (some ((1 : Int32), q7.2))))))))))
theorem f_X11_bracketed_ok {G : Gd} {d : Nat} (hj : 4 ≤ d) : ∀ (l0 : Nat) (L : List (Nat × Value)) (h : Hp) (o : (Int32 × Hp)), zlk L 0 = some (zrf (l0)) → f_X11_bracketed l0 h = some o → Ev G M_X11_bracketed d 0 L [] h (Ret Y_X11_bracketed (some (.int o.1)) o.2) := by
  intro l0 L h o g0 e
  unfold f_X11_bracketed at e
  refine g_ald_n d_X11_bracketed_0 rfl g0 ?_
  refine r_bipush d_X11_bracketed_1 (v := (40 : Int32)) (by decide +kernel) ?_
  replace e := ckd e
  obtain ⟨k2, e⟩ := e
  replace e := bd e
  obtain ⟨q1, eq1, e⟩ := e
  refine g_callV d_X11_bracketed_3 vk_10_202 (as := [_]) rfl k2 rfl (by simp [zrf_cat, cat_int, cat_long]) (j := 2) (by omega) (c_X11_takes (by omega) eq1) ?_
  refine r_if_eq d_X11_bracketed_6 (tgt := 30) (by decide) (fun c3 => ?_) (fun c3 => ?_)
  · replace e := (if_pos c3).symm.trans e
    refine r_iconst d_X11_bracketed_30 (v := (0 : Int32)) (by decide +kernel) ?_
    obtain rfl := Option.some.inj e
    exact g_iret d_X11_bracketed_31 rfl rfl
  · replace e := (if_neg c3).symm.trans e
    refine g_ald_n d_X11_bracketed_9 rfl g0 ?_
    refine r_iconst d_X11_bracketed_10 (v := (0 : Int32)) (by decide +kernel) ?_
    replace e := ckd e
    obtain ⟨k5, e⟩ := e
    replace e := bd e
    obtain ⟨q4, eq4, e⟩ := e
    refine g_callV d_X11_bracketed_11 vk_10_212 (as := [_]) rfl k5 rfl (by simp [zrf_cat, cat_int, cat_long]) (j := 3) (by omega) (c_X11_value (by omega) eq4) ?_
    refine r_if_eq d_X11_bracketed_14 (tgt := 30) (by decide) (fun c6 => ?_) (fun c6 => ?_)
    · replace e := (if_pos c6).symm.trans e
      refine r_iconst d_X11_bracketed_30 (v := (0 : Int32)) (by decide +kernel) ?_
      obtain rfl := Option.some.inj e
      exact g_iret d_X11_bracketed_31 rfl rfl
    · replace e := (if_neg c6).symm.trans e
      refine g_ald_n d_X11_bracketed_17 rfl g0 ?_
      refine r_bipush d_X11_bracketed_18 (v := (41 : Int32)) (by decide +kernel) ?_
      replace e := ckd e
      obtain ⟨k8, e⟩ := e
      replace e := bd e
      obtain ⟨q7, eq7, e⟩ := e
      refine g_callV d_X11_bracketed_20 vk_10_202 (as := [_]) rfl k8 rfl (by simp [zrf_cat, cat_int, cat_long]) (j := 2) (by omega) (c_X11_takes (by omega) eq7) ?_
      refine r_if_eq d_X11_bracketed_23 (tgt := 30) (by decide) (fun c9 => ?_) (fun c9 => ?_)
      · replace e := (if_pos c9).symm.trans e
        refine r_iconst d_X11_bracketed_30 (v := (0 : Int32)) (by decide +kernel) ?_
        obtain rfl := Option.some.inj e
        exact g_iret d_X11_bracketed_31 rfl rfl
      · replace e := (if_neg c9).symm.trans e
        refine r_iconst d_X11_bracketed_26 (v := (1 : Int32)) (by decide +kernel) ?_
        refine r_goto d_X11_bracketed_27 (tgt := 31) (by decide) ?_
        obtain rfl := Option.some.inj e
        exact g_iret d_X11_bracketed_31 rfl rfl

theorem c_X11_bracketed {G : Gd} {j : Nat} (hj : 4 ≤ j) {l0 : Nat} {h : Hp} {o : (Int32 × Hp)} (e : f_X11_bracketed l0 h = some o) : Cal G j Y_X11_bracketed [zrf (l0)] h (some (.int o.1)) o.2 := Cal.of (n := 0) (I := false) (by first | exact Or.inl (by decide +kernel) | exact Or.inr (by decide +kernel)) (by decide) (by simp [lg_sl, zrf_cat, cat_int, cat_long]) (f_X11_bracketed_ok hj _ _ h o (by simp [lv_args, zlk, zrf_cat, cat_int, cat_long]) e)
def f_X11_ends (l0 : Nat) (l1 : Int32) (h : Hp) : Option (Int32 × Hp) := ck (isO (h) (l0) 12) (ck (isO (h) (zR (h) 1214 (l0)) 22) (ck (inR (zI (h) 1213 (l0)) (zL (h) (zR (h) 1214 (l0)))) (bh (pE (h) (zR (h) 1214 (l0)) (zI (h) 1213 (l0)).toNatClampNeg (l1)) (fun h4 => (f_X11_takes (l0) ((59 : Int32)) (h4)).bind (fun q5 => ck (isB (q5.1)) (some (q5.1, q5.2)))))))
theorem f_X11_ends_ok {G : Gd} {d : Nat} (hj : 3 ≤ d) : ∀ (l0 : Nat) (l1 : Int32) (L : List (Nat × Value)) (h : Hp) (o : (Int32 × Hp)), zlk L 0 = some (zrf (l0)) → zlk L 1 = some (.int (l1)) → f_X11_ends l0 l1 h = some o → Ev G M_X11_ends d 0 L [] h (Ret Y_X11_ends (some (.int o.1)) o.2) := by
  intro l0 l1 L h o g0 g1 e
  unfold f_X11_ends at e
  refine g_ald_n d_X11_ends_0 rfl g0 ?_
  replace e := ckd e
  obtain ⟨k1, e⟩ := e
  refine g_getR d_X11_ends_1 (f := 1214) k1 fk_10_35 rfl rfl ?_
  refine g_ald_n d_X11_ends_4 rfl g0 ?_
  refine g_getI d_X11_ends_5 (f := 1213) k1 fk_10_209 rfl rfl ?_
  refine r_iload_n d_X11_ends_8 rfl g1 ?_
  replace e := ckd e
  obtain ⟨k2, e⟩ := e
  replace e := ckd e
  obtain ⟨k3, e⟩ := e
  refine g_iast d_X11_ends_9 k2 k3 ?_
  replace e := bhd e
  obtain ⟨_, rfl, e⟩ := e
  refine g_ald_n d_X11_ends_10 rfl g0 ?_
  refine r_bipush d_X11_ends_11 (v := (59 : Int32)) (by decide +kernel) ?_
  replace e := bd e
  obtain ⟨q5, eq5, e⟩ := e
  refine g_callV d_X11_ends_13 vk_10_202 (as := [_]) rfl (tO_pE k1) rfl (by simp [zrf_cat, cat_int, cat_long]) (j := 2) (by omega) (c_X11_takes (by omega) eq5) ?_
  replace e := ckd e
  obtain ⟨k6, e⟩ := e
  obtain rfl := Option.some.inj e
  exact g_iret d_X11_ends_16 rfl k6

theorem c_X11_ends {G : Gd} {j : Nat} (hj : 3 ≤ j) {l0 : Nat} {l1 : Int32} {h : Hp} {o : (Int32 × Hp)} (e : f_X11_ends l0 l1 h = some o) : Cal G j Y_X11_ends [zrf (l0), .int (l1)] h (some (.int o.1)) o.2 := Cal.of (n := 0) (I := false) (by first | exact Or.inl (by decide +kernel) | exact Or.inr (by decide +kernel)) (by decide) (by simp [lg_sl, zrf_cat, cat_int, cat_long]) (f_X11_ends_ok hj _ _ _ h o (by simp [lv_args, zlk, zrf_cat, cat_int, cat_long]) (by simp [lv_args, zlk, zrf_cat, cat_int, cat_long]) e)
def f_X11_number (l0 : Nat) (l1 : Int32) (h : Hp) : Option (Int32 × Hp) := ck (isO (h) (l0) 12) (ck (isO (h) (zR (h) 1221 (l0)) 22) (ck (inR (zI (h) 1213 (l0)) (zL (h) (zR (h) 1221 (l0)))) (bh (pE (h) (zR (h) 1221 (l0)) (zI (h) 1213 (l0)).toNatClampNeg (zI (h) 1223 (l0))) (fun h4 => (f_X11_isDigit (l0) (h4)).bind (fun q5 => if (q5.1) = (0) then (some ((0 : Int32), q5.2)) else (ck (isO (q5.2) (l0) 12) ((f_X11_see (l0) (q5.2)).bind (fun q7 => if ((q7.1) - ((48 : Int32))) < (l1) then (ck (isO (q7.2) (l0) 12) ((f_X11_see (l0) (q7.2)).bind (fun q11 => ck (isO (q11.2) (zR (q7.2) 1220 (l0)) 22) (ck (inR (zI (q7.2) 1213 (l0)) (zL (q11.2) (zR (q7.2) 1220 (l0)))) (bh (pE (q11.2) (zR (q7.2) 1220 (l0)) (zI (q7.2) 1213 (l0)).toNatClampNeg ((q11.1) - ((48 : Int32)))) (fun h14 => ck (isO (h14) (l0) 12) (bh (pI (h14) 1223 (l0) ((zI (h14) 1223 (l0)) + ((1 : Int32)))) (fun h16 => some ((1 : Int32), h16))))))))) else (some ((0 : Int32), q7.2))))))))))
theorem f_X11_number_ok {G : Gd} {d : Nat} (hj : 3 ≤ d) : ∀ (l0 : Nat) (l1 : Int32) (L : List (Nat × Value)) (h : Hp) (o : (Int32 × Hp)), zlk L 0 = some (zrf (l0)) → zlk L 1 = some (.int (l1)) → f_X11_number l0 l1 h = some o → Ev G M_X11_number d 0 L [] h (Ret Y_X11_number (some (.int o.1)) o.2) := by
  intro l0 l1 L h o g0 g1 e
  unfold f_X11_number at e
  refine g_ald_n d_X11_number_0 rfl g0 ?_
  replace e := ckd e
  obtain ⟨k1, e⟩ := e
  refine g_getR d_X11_number_1 (f := 1221) k1 fk_10_57 rfl rfl ?_
  refine g_ald_n d_X11_number_4 rfl g0 ?_
  refine g_getI d_X11_number_5 (f := 1213) k1 fk_10_209 rfl rfl ?_
  refine g_ald_n d_X11_number_8 rfl g0 ?_
  refine g_getI d_X11_number_9 (f := 1223) k1 fk_10_191 rfl rfl ?_
  replace e := ckd e
  obtain ⟨k2, e⟩ := e
  replace e := ckd e
  obtain ⟨k3, e⟩ := e
  refine g_iast d_X11_number_12 k2 k3 ?_
  replace e := bhd e
  obtain ⟨_, rfl, e⟩ := e
  refine g_ald_n d_X11_number_13 rfl g0 ?_
  replace e := bd e
  obtain ⟨q5, eq5, e⟩ := e
  refine g_callV d_X11_number_14 vk_10_206 (as := []) rfl (tO_pE k1) rfl (by simp [zrf_cat, cat_int, cat_long]) (j := 2) (by omega) (c_X11_isDigit (by omega) eq5) ?_
  refine r_if_eq d_X11_number_17 (tgt := 31) (by decide) (fun c6 => ?_) (fun c6 => ?_)
  · replace e := (if_pos c6).symm.trans e
    refine r_iconst d_X11_number_31 (v := (0 : Int32)) (by decide +kernel) ?_
    obtain rfl := Option.some.inj e
    exact g_iret d_X11_number_32 rfl rfl
  · replace e := (if_neg c6).symm.trans e
    refine g_ald_n d_X11_number_20 rfl g0 ?_
    replace e := ckd e
    obtain ⟨k8, e⟩ := e
    replace e := bd e
    obtain ⟨q7, eq7, e⟩ := e
    refine g_callV d_X11_number_21 vk_10_194 (as := []) rfl k8 rfl (by simp [zrf_cat, cat_int, cat_long]) (j := 1) (by omega) (c_X11_see (by omega) eq7) ?_
    refine r_bipush d_X11_number_24 (v := (48 : Int32)) (by decide +kernel) ?_
    refine r_isub d_X11_number_26 ?_
    refine r_iload_n d_X11_number_27 rfl g1 ?_
    refine r_icmp_lt d_X11_number_28 (tgt := 33) (by decide) (fun c9 => ?_) (fun c9 => ?_)
    · replace e := (if_pos c9).symm.trans e
      refine g_ald_n d_X11_number_33 rfl g0 ?_
      replace e := ckd e
      obtain ⟨k10, e⟩ := e
      refine g_getR d_X11_number_34 (f := 1220) k10 fk_10_54 rfl rfl ?_
      refine g_ald_n d_X11_number_37 rfl g0 ?_
      refine g_getI d_X11_number_38 (f := 1213) k10 fk_10_209 rfl rfl ?_
      refine g_ald_n d_X11_number_41 rfl g0 ?_
      replace e := bd e
      obtain ⟨q11, eq11, e⟩ := e
      refine g_callV d_X11_number_42 vk_10_194 (as := []) rfl k10 rfl (by simp [zrf_cat, cat_int, cat_long]) (j := 1) (by omega) (c_X11_see (by omega) eq11) ?_
      refine r_bipush d_X11_number_45 (v := (48 : Int32)) (by decide +kernel) ?_
      refine r_isub d_X11_number_47 ?_
      replace e := ckd e
      obtain ⟨k12, e⟩ := e
      replace e := ckd e
      obtain ⟨k13, e⟩ := e
      refine g_iast d_X11_number_48 k12 k13 ?_
      replace e := bhd e
      obtain ⟨_, rfl, e⟩ := e
      refine g_ald_n d_X11_number_49 rfl g0 ?_
      refine r_dup d_X11_number_50 (zrf_cat _) ?_
      replace e := ckd e
      obtain ⟨k15, e⟩ := e
      refine g_getI d_X11_number_51 (f := 1223) k15 fk_10_191 rfl rfl ?_
      refine r_iconst d_X11_number_54 (v := (1 : Int32)) (by decide +kernel) ?_
      refine r_iadd d_X11_number_55 ?_
      refine g_putI d_X11_number_56 (f := 1223) k15 fk_10_191 rfl (Or.inl rfl) ⟨rfl, rfl⟩ ?_
      replace e := bhd e
      obtain ⟨_, rfl, e⟩ := e
      refine r_iconst d_X11_number_59 (v := (1 : Int32)) (by decide +kernel) ?_
      obtain rfl := Option.some.inj e
      exact g_iret d_X11_number_60 rfl rfl
    · replace e := (if_neg c9).symm.trans e
      refine r_iconst d_X11_number_31 (v := (0 : Int32)) (by decide +kernel) ?_
      obtain rfl := Option.some.inj e
      exact g_iret d_X11_number_32 rfl rfl

theorem c_X11_number {G : Gd} {j : Nat} (hj : 3 ≤ j) {l0 : Nat} {l1 : Int32} {h : Hp} {o : (Int32 × Hp)} (e : f_X11_number l0 l1 h = some o) : Cal G j Y_X11_number [zrf (l0), .int (l1)] h (some (.int o.1)) o.2 := Cal.of (n := 0) (I := false) (by first | exact Or.inl (by decide +kernel) | exact Or.inr (by decide +kernel)) (by decide) (by simp [lg_sl, zrf_cat, cat_int, cat_long]) (f_X11_number_ok hj _ _ _ h o (by simp [lv_args, zlk, zrf_cat, cat_int, cat_long]) (by simp [lv_args, zlk, zrf_cat, cat_int, cat_long]) e)
theorem vk_10_218 : Vk "TaskWeaveModel" 218 0 12 Y_X11_bracketed := ⟨yk_X11_bracketed, by decide +kernel, by decide +kernel, by decide +kernel, by decide⟩
theorem vk_10_221 : Vk "TaskWeaveModel" 221 1 12 Y_X11_ends := ⟨yk_X11_ends, by decide +kernel, by decide +kernel, by decide +kernel, by decide⟩
theorem vk_10_215 : Vk "TaskWeaveModel" 215 1 12 Y_X11_number := ⟨yk_X11_number, by decide +kernel, by decide +kernel, by decide +kernel, by decide⟩
def f_X11_set_240 (s0 : Int32) (l0 : Nat) (h : Hp) : Option (Int32 × Hp) := if (s0) = (0) then (ck (isO (h) (l0) 12) ((f_X11_ends (l0) (s0) (h)).bind (fun q68 => if (q68.1) = (0) then (some ((0 : Int32), q68.2)) else (some ((1 : Int32), q68.2))))) else (ck (isO (h) (l0) 12) ((f_X11_value (l0) ((1 : Int32)) (h)).bind (fun q71 => if (q71.1) = (0) then (some ((0 : Int32), q71.2)) else (ck (isO (q71.2) (l0) 12) ((f_X11_ends (l0) (s0) (q71.2)).bind (fun q74 => if (q74.1) = (0) then (some ((0 : Int32), q74.2)) else (some ((1 : Int32), q74.2))))))))
theorem f_X11_set_240_ok {G : Gd} {d : Nat} (hj : 5 ≤ d) : ∀ (s0 : Int32) (l0 : Nat) (L : List (Nat × Value)) (h : Hp) (o : (Int32 × Hp)), zlk L 0 = some (zrf (l0)) → f_X11_set_240 s0 l0 h = some o → Ev G M_X11_set d 240 L [.int (s0)] h (Ret Y_X11_set (some (.int o.1)) o.2) := by
  intro s0 l0 L h o g0 e
  unfold f_X11_set_240 at e
  refine s_istore_n d_X11_set_240 rfl (by decide) (fun L g1 gK => ?_)
  replace g0 := gK _ _ (by decide) (Or.inr (zrf_cat _)) g0
  refine r_iload_n d_X11_set_241 rfl g1 ?_
  refine r_if_eq d_X11_set_242 (tgt := 253) (by decide) (fun c67 => ?_) (fun c67 => ?_)
  · replace e := (if_pos c67).symm.trans e
    refine g_ald_n d_X11_set_253 rfl g0 ?_
    refine r_iload_n d_X11_set_254 rfl g1 ?_
    replace e := ckd e
    obtain ⟨k69, e⟩ := e
    replace e := bd e
    obtain ⟨q68, eq68, e⟩ := e
    refine g_callV d_X11_set_255 vk_10_221 (as := [_]) rfl k69 rfl (by simp [zrf_cat, cat_int, cat_long]) (j := 3) (by omega) (c_X11_ends (by omega) eq68) ?_
    refine r_if_eq d_X11_set_258 (tgt := 265) (by decide) (fun c70 => ?_) (fun c70 => ?_)
    · replace e := (if_pos c70).symm.trans e
      refine r_iconst d_X11_set_265 (v := (0 : Int32)) (by decide +kernel) ?_
      obtain rfl := Option.some.inj e
      exact g_iret d_X11_set_266 rfl rfl
    · replace e := (if_neg c70).symm.trans e
      refine r_iconst d_X11_set_261 (v := (1 : Int32)) (by decide +kernel) ?_
      refine r_goto d_X11_set_262 (tgt := 266) (by decide) ?_
      obtain rfl := Option.some.inj e
      exact g_iret d_X11_set_266 rfl rfl
  · replace e := (if_neg c67).symm.trans e
    refine g_ald_n d_X11_set_245 rfl g0 ?_
    refine r_iconst d_X11_set_246 (v := (1 : Int32)) (by decide +kernel) ?_
    replace e := ckd e
    obtain ⟨k72, e⟩ := e
    replace e := bd e
    obtain ⟨q71, eq71, e⟩ := e
    refine g_callV d_X11_set_247 vk_10_212 (as := [_]) rfl k72 rfl (by simp [zrf_cat, cat_int, cat_long]) (j := 3) (by omega) (c_X11_value (by omega) eq71) ?_
    refine r_if_eq d_X11_set_250 (tgt := 265) (by decide) (fun c73 => ?_) (fun c73 => ?_)
    · replace e := (if_pos c73).symm.trans e
      refine r_iconst d_X11_set_265 (v := (0 : Int32)) (by decide +kernel) ?_
      obtain rfl := Option.some.inj e
      exact g_iret d_X11_set_266 rfl rfl
    · replace e := (if_neg c73).symm.trans e
      refine g_ald_n d_X11_set_253 rfl g0 ?_
      refine r_iload_n d_X11_set_254 rfl g1 ?_
      replace e := ckd e
      obtain ⟨k75, e⟩ := e
      replace e := bd e
      obtain ⟨q74, eq74, e⟩ := e
      refine g_callV d_X11_set_255 vk_10_221 (as := [_]) rfl k75 rfl (by simp [zrf_cat, cat_int, cat_long]) (j := 3) (by omega) (c_X11_ends (by omega) eq74) ?_
      refine r_if_eq d_X11_set_258 (tgt := 265) (by decide) (fun c76 => ?_) (fun c76 => ?_)
      · replace e := (if_pos c76).symm.trans e
        refine r_iconst d_X11_set_265 (v := (0 : Int32)) (by decide +kernel) ?_
        obtain rfl := Option.some.inj e
        exact g_iret d_X11_set_266 rfl rfl
      · replace e := (if_neg c76).symm.trans e
        refine r_iconst d_X11_set_261 (v := (1 : Int32)) (by decide +kernel) ?_
        refine r_goto d_X11_set_262 (tgt := 266) (by decide) ?_
        obtain rfl := Option.some.inj e
        exact g_iret d_X11_set_266 rfl rfl

def f_X11_set (l0 : Nat) (h : Hp) : Option (Int32 × Hp) := ck (isO (h) (l0) 12) ((f_X11_see (l0) (h)).bind (fun q2 => ck (isO (q2.2) (zR (h) 1215 (l0)) 22) (ck (inR (zI (h) 1213 (l0)) (zL (q2.2) (zR (h) 1215 (l0)))) (bh (pE (q2.2) (zR (h) 1215 (l0)) (zI (h) 1213 (l0)).toNatClampNeg ((q2.1) - ((97 : Int32)))) (fun h5 => ck (isO (h5) (l0) 12) (bh (pI (h5) 1223 (l0) ((zI (h5) 1223 (l0)) + ((1 : Int32)))) (fun h7 => (f_X11_takes (l0) ((61 : Int32)) (h7)).bind (fun q8 => if (q8.1) = (0) then (some ((0 : Int32), q8.2)) else (ck (isO (q8.2) (l0) 12) ((f_X11_takes (l0) ((65 : Int32)) (q8.2)).bind (fun q10 => if (q10.1) = (0) then (ck (isO (q10.2) (l0) 12) ((f_X11_takes (l0) ((87 : Int32)) (q10.2)).bind (fun q13 => if (q13.1) = (0) then (ck (isO (q13.2) (l0) 12) ((f_X11_takes (l0) ((67 : Int32)) (q13.2)).bind (fun q16 => if (q16.1) = (0) then (ck (isO (q16.2) (l0) 12) ((f_X11_takes (l0) ((74 : Int32)) (q16.2)).bind (fun q19 => if (q19.1) = (0) then (ck (isO (q19.2) (l0) 12) ((f_X11_value (l0) ((0 : Int32)) (q19.2)).bind (fun q22 => if (q22.1) = (0) then (some ((0 : Int32), q22.2)) else (ck (isO (q22.2) (l0) 12) ((f_X11_takes (l0) ((43 : Int32)) (q22.2)).bind (fun q25 => if (q25.1) = (0) then (ck (isO (q25.2) (l0) 12) ((f_X11_takes (l0) ((45 : Int32)) (q25.2)).bind (fun q28 => if (q28.1) = (0) then (ck (isO (q28.2) (l0) 12) ((f_X11_takes (l0) ((42 : Int32)) (q28.2)).bind (fun q31 => if (q31.1) = (0) then (ck (isO (q31.2) (l0) 12) ((f_X11_takes (l0) ((60 : Int32)) (q31.2)).bind (fun q34 => if (q34.1) = (0) then (ck (isO (q34.2) (l0) 12) ((f_X11_takes (l0) ((61 : Int32)) (q34.2)).bind (fun q37 => if (q37.1) = (0) then (f_X11_set_240 ((0 : Int32)) (l0) (q37.2)) else (f_X11_set_240 ((5 : Int32)) (l0) (q37.2))))) else (f_X11_set_240 ((4 : Int32)) (l0) (q34.2))))) else (f_X11_set_240 ((3 : Int32)) (l0) (q31.2))))) else (f_X11_set_240 ((2 : Int32)) (l0) (q28.2))))) else (f_X11_set_240 ((1 : Int32)) (l0) (q25.2)))))))) else (ck (isO (q19.2) (l0) 12) ((f_X11_bracketed (l0) (q19.2)).bind (fun q40 => if (q40.1) = (0) then (some ((0 : Int32), q40.2)) else (ck (isO (q40.2) (l0) 12) ((f_X11_ends (l0) ((9 : Int32)) (q40.2)).bind (fun q43 => if (q43.1) = (0) then (some ((0 : Int32), q43.2)) else (some ((1 : Int32), q43.2))))))))))) else (ck (isO (q16.2) (l0) 12) ((f_X11_number (l0) ((8 : Int32)) (q16.2)).bind (fun q46 => if (q46.1) = (0) then (some ((0 : Int32), q46.2)) else (ck (isO (q46.2) (l0) 12) ((f_X11_bracketed (l0) (q46.2)).bind (fun q49 => if (q49.1) = (0) then (some ((0 : Int32), q49.2)) else (ck (isO (q49.2) (l0) 12) ((f_X11_ends (l0) ((8 : Int32)) (q49.2)).bind (fun q52 => if (q52.1) = (0) then (some ((0 : Int32), q52.2)) else (some ((1 : Int32), q52.2)))))))))))))) else (ck (isO (q13.2) (l0) 12) ((f_X11_ends (l0) ((7 : Int32)) (q13.2)).bind (fun q55 => ck (isB (q55.1)) (some (q55.1, q55.2)))))))) else (ck (isO (q10.2) (l0) 12) ((f_X11_number (l0) ((10 : Int32)) (q10.2)).bind (fun q58 => if (q58.1) = (0) then (some ((0 : Int32), q58.2)) else (ck (isO (q58.2) (l0) 12) ((f_X11_bracketed (l0) (q58.2)).bind (fun q61 => if (q61.1) = (0) then (some ((0 : Int32), q61.2)) else (ck (isO (q61.2) (l0) 12) ((f_X11_ends (l0) ((6 : Int32)) (q61.2)).bind (fun q64 => if (q64.1) = (0) then (some ((0 : Int32), q64.2)) else (some ((1 : Int32), q64.2))))))))))))))))))))))
theorem f_X11_set_ok {G : Gd} {d : Nat} (hj : 5 ≤ d) : ∀ (l0 : Nat) (L : List (Nat × Value)) (h : Hp) (o : (Int32 × Hp)), zlk L 0 = some (zrf (l0)) → f_X11_set l0 h = some o → Ev G M_X11_set d 0 L [] h (Ret Y_X11_set (some (.int o.1)) o.2) := by
  intro l0 L h o g0 e
  unfold f_X11_set at e
  refine g_ald_n d_X11_set_0 rfl g0 ?_
  replace e := ckd e
  obtain ⟨k1, e⟩ := e
  refine g_getR d_X11_set_1 (f := 1215) k1 fk_10_38 rfl rfl ?_
  refine g_ald_n d_X11_set_4 rfl g0 ?_
  refine g_getI d_X11_set_5 (f := 1213) k1 fk_10_209 rfl rfl ?_
  refine g_ald_n d_X11_set_8 rfl g0 ?_
  replace e := bd e
  obtain ⟨q2, eq2, e⟩ := e
  refine g_callV d_X11_set_9 vk_10_194 (as := []) rfl k1 rfl (by simp [zrf_cat, cat_int, cat_long]) (j := 1) (by omega) (c_X11_see (by omega) eq2) ?_
  refine r_bipush d_X11_set_12 (v := (97 : Int32)) (by decide +kernel) ?_
  refine r_isub d_X11_set_14 ?_
  replace e := ckd e
  obtain ⟨k3, e⟩ := e
  replace e := ckd e
  obtain ⟨k4, e⟩ := e
  refine g_iast d_X11_set_15 k3 k4 ?_
  replace e := bhd e
  obtain ⟨_, rfl, e⟩ := e
  refine g_ald_n d_X11_set_16 rfl g0 ?_
  refine r_dup d_X11_set_17 (zrf_cat _) ?_
  replace e := ckd e
  obtain ⟨k6, e⟩ := e
  refine g_getI d_X11_set_18 (f := 1223) k6 fk_10_191 rfl rfl ?_
  refine r_iconst d_X11_set_21 (v := (1 : Int32)) (by decide +kernel) ?_
  refine r_iadd d_X11_set_22 ?_
  refine g_putI d_X11_set_23 (f := 1223) k6 fk_10_191 rfl (Or.inl rfl) ⟨rfl, rfl⟩ ?_
  replace e := bhd e
  obtain ⟨_, rfl, e⟩ := e
  refine g_ald_n d_X11_set_26 rfl g0 ?_
  refine r_bipush d_X11_set_27 (v := (61 : Int32)) (by decide +kernel) ?_
  replace e := bd e
  obtain ⟨q8, eq8, e⟩ := e
  refine g_callV d_X11_set_29 vk_10_202 (as := [_]) rfl (tO_pI k6) rfl (by simp [zrf_cat, cat_int, cat_long]) (j := 2) (by omega) (c_X11_takes (by omega) eq8) ?_
  refine r_if_ne d_X11_set_32 (tgt := 37) (by decide) (fun c9 => ?_) (fun c9 => ?_)
  · replace e := (if_neg c9).symm.trans e
    refine g_ald_n d_X11_set_37 rfl g0 ?_
    refine r_bipush d_X11_set_38 (v := (65 : Int32)) (by decide +kernel) ?_
    replace e := ckd e
    obtain ⟨k11, e⟩ := e
    replace e := bd e
    obtain ⟨q10, eq10, e⟩ := e
    refine g_callV d_X11_set_40 vk_10_202 (as := [_]) rfl k11 rfl (by simp [zrf_cat, cat_int, cat_long]) (j := 2) (by omega) (c_X11_takes (by omega) eq10) ?_
    refine r_if_eq d_X11_set_43 (tgt := 77) (by decide) (fun c12 => ?_) (fun c12 => ?_)
    · replace e := (if_pos c12).symm.trans e
      refine g_ald_n d_X11_set_77 rfl g0 ?_
      refine r_bipush d_X11_set_78 (v := (87 : Int32)) (by decide +kernel) ?_
      replace e := ckd e
      obtain ⟨k14, e⟩ := e
      replace e := bd e
      obtain ⟨q13, eq13, e⟩ := e
      refine g_callV d_X11_set_80 vk_10_202 (as := [_]) rfl k14 rfl (by simp [zrf_cat, cat_int, cat_long]) (j := 2) (by omega) (c_X11_takes (by omega) eq13) ?_
      refine r_if_eq d_X11_set_83 (tgt := 93) (by decide) (fun c15 => ?_) (fun c15 => ?_)
      · replace e := (if_pos c15).symm.trans e
        refine g_ald_n d_X11_set_93 rfl g0 ?_
        refine r_bipush d_X11_set_94 (v := (67 : Int32)) (by decide +kernel) ?_
        replace e := ckd e
        obtain ⟨k17, e⟩ := e
        replace e := bd e
        obtain ⟨q16, eq16, e⟩ := e
        refine g_callV d_X11_set_96 vk_10_202 (as := [_]) rfl k17 rfl (by simp [zrf_cat, cat_int, cat_long]) (j := 2) (by omega) (c_X11_takes (by omega) eq16) ?_
        refine r_if_eq d_X11_set_99 (tgt := 133) (by decide) (fun c18 => ?_) (fun c18 => ?_)
        · replace e := (if_pos c18).symm.trans e
          refine g_ald_n d_X11_set_133 rfl g0 ?_
          refine r_bipush d_X11_set_134 (v := (74 : Int32)) (by decide +kernel) ?_
          replace e := ckd e
          obtain ⟨k20, e⟩ := e
          replace e := bd e
          obtain ⟨q19, eq19, e⟩ := e
          refine g_callV d_X11_set_136 vk_10_202 (as := [_]) rfl k20 rfl (by simp [zrf_cat, cat_int, cat_long]) (j := 2) (by omega) (c_X11_takes (by omega) eq19) ?_
          refine r_if_eq d_X11_set_139 (tgt := 164) (by decide) (fun c21 => ?_) (fun c21 => ?_)
          · replace e := (if_pos c21).symm.trans e
            refine g_ald_n d_X11_set_164 rfl g0 ?_
            refine r_iconst d_X11_set_165 (v := (0 : Int32)) (by decide +kernel) ?_
            replace e := ckd e
            obtain ⟨k23, e⟩ := e
            replace e := bd e
            obtain ⟨q22, eq22, e⟩ := e
            refine g_callV d_X11_set_166 vk_10_212 (as := [_]) rfl k23 rfl (by simp [zrf_cat, cat_int, cat_long]) (j := 3) (by omega) (c_X11_value (by omega) eq22) ?_
            refine r_if_ne d_X11_set_169 (tgt := 174) (by decide) (fun c24 => ?_) (fun c24 => ?_)
            · replace e := (if_neg c24).symm.trans e
              refine g_ald_n d_X11_set_174 rfl g0 ?_
              refine r_bipush d_X11_set_175 (v := (43 : Int32)) (by decide +kernel) ?_
              replace e := ckd e
              obtain ⟨k26, e⟩ := e
              replace e := bd e
              obtain ⟨q25, eq25, e⟩ := e
              refine g_callV d_X11_set_177 vk_10_202 (as := [_]) rfl k26 rfl (by simp [zrf_cat, cat_int, cat_long]) (j := 2) (by omega) (c_X11_takes (by omega) eq25) ?_
              refine r_if_eq d_X11_set_180 (tgt := 187) (by decide) (fun c27 => ?_) (fun c27 => ?_)
              · replace e := (if_pos c27).symm.trans e
                refine g_ald_n d_X11_set_187 rfl g0 ?_
                refine r_bipush d_X11_set_188 (v := (45 : Int32)) (by decide +kernel) ?_
                replace e := ckd e
                obtain ⟨k29, e⟩ := e
                replace e := bd e
                obtain ⟨q28, eq28, e⟩ := e
                refine g_callV d_X11_set_190 vk_10_202 (as := [_]) rfl k29 rfl (by simp [zrf_cat, cat_int, cat_long]) (j := 2) (by omega) (c_X11_takes (by omega) eq28) ?_
                refine r_if_eq d_X11_set_193 (tgt := 200) (by decide) (fun c30 => ?_) (fun c30 => ?_)
                · replace e := (if_pos c30).symm.trans e
                  refine g_ald_n d_X11_set_200 rfl g0 ?_
                  refine r_bipush d_X11_set_201 (v := (42 : Int32)) (by decide +kernel) ?_
                  replace e := ckd e
                  obtain ⟨k32, e⟩ := e
                  replace e := bd e
                  obtain ⟨q31, eq31, e⟩ := e
                  refine g_callV d_X11_set_203 vk_10_202 (as := [_]) rfl k32 rfl (by simp [zrf_cat, cat_int, cat_long]) (j := 2) (by omega) (c_X11_takes (by omega) eq31) ?_
                  refine r_if_eq d_X11_set_206 (tgt := 213) (by decide) (fun c33 => ?_) (fun c33 => ?_)
                  · replace e := (if_pos c33).symm.trans e
                    refine g_ald_n d_X11_set_213 rfl g0 ?_
                    refine r_bipush d_X11_set_214 (v := (60 : Int32)) (by decide +kernel) ?_
                    replace e := ckd e
                    obtain ⟨k35, e⟩ := e
                    replace e := bd e
                    obtain ⟨q34, eq34, e⟩ := e
                    refine g_callV d_X11_set_216 vk_10_202 (as := [_]) rfl k35 rfl (by simp [zrf_cat, cat_int, cat_long]) (j := 2) (by omega) (c_X11_takes (by omega) eq34) ?_
                    refine r_if_eq d_X11_set_219 (tgt := 226) (by decide) (fun c36 => ?_) (fun c36 => ?_)
                    · replace e := (if_pos c36).symm.trans e
                      refine g_ald_n d_X11_set_226 rfl g0 ?_
                      refine r_bipush d_X11_set_227 (v := (61 : Int32)) (by decide +kernel) ?_
                      replace e := ckd e
                      obtain ⟨k38, e⟩ := e
                      replace e := bd e
                      obtain ⟨q37, eq37, e⟩ := e
                      refine g_callV d_X11_set_229 vk_10_202 (as := [_]) rfl k38 rfl (by simp [zrf_cat, cat_int, cat_long]) (j := 2) (by omega) (c_X11_takes (by omega) eq37) ?_
                      refine r_if_eq d_X11_set_232 (tgt := 239) (by decide) (fun c39 => ?_) (fun c39 => ?_)
                      · replace e := (if_pos c39).symm.trans e
                        refine r_iconst d_X11_set_239 (v := (0 : Int32)) (by decide +kernel) ?_
                        exact f_X11_set_240_ok hj _ _ _ _ _ g0 e
                      · replace e := (if_neg c39).symm.trans e
                        refine r_iconst d_X11_set_235 (v := (5 : Int32)) (by decide +kernel) ?_
                        refine r_goto d_X11_set_236 (tgt := 240) (by decide) ?_
                        exact f_X11_set_240_ok hj _ _ _ _ _ g0 e
                    · replace e := (if_neg c36).symm.trans e
                      refine r_iconst d_X11_set_222 (v := (4 : Int32)) (by decide +kernel) ?_
                      refine r_goto d_X11_set_223 (tgt := 240) (by decide) ?_
                      exact f_X11_set_240_ok hj _ _ _ _ _ g0 e
                  · replace e := (if_neg c33).symm.trans e
                    refine r_iconst d_X11_set_209 (v := (3 : Int32)) (by decide +kernel) ?_
                    refine r_goto d_X11_set_210 (tgt := 240) (by decide) ?_
                    exact f_X11_set_240_ok hj _ _ _ _ _ g0 e
                · replace e := (if_neg c30).symm.trans e
                  refine r_iconst d_X11_set_196 (v := (2 : Int32)) (by decide +kernel) ?_
                  refine r_goto d_X11_set_197 (tgt := 240) (by decide) ?_
                  exact f_X11_set_240_ok hj _ _ _ _ _ g0 e
              · replace e := (if_neg c27).symm.trans e
                refine r_iconst d_X11_set_183 (v := (1 : Int32)) (by decide +kernel) ?_
                refine r_goto d_X11_set_184 (tgt := 240) (by decide) ?_
                exact f_X11_set_240_ok hj _ _ _ _ _ g0 e
            · replace e := (if_pos c24).symm.trans e
              refine r_iconst d_X11_set_172 (v := (0 : Int32)) (by decide +kernel) ?_
              obtain rfl := Option.some.inj e
              exact g_iret d_X11_set_173 rfl rfl
          · replace e := (if_neg c21).symm.trans e
            refine g_ald_n d_X11_set_142 rfl g0 ?_
            replace e := ckd e
            obtain ⟨k41, e⟩ := e
            replace e := bd e
            obtain ⟨q40, eq40, e⟩ := e
            refine g_callV d_X11_set_143 vk_10_218 (as := []) rfl k41 rfl (by simp [zrf_cat, cat_int, cat_long]) (j := 4) (by omega) (c_X11_bracketed (by omega) eq40) ?_
            refine r_if_eq d_X11_set_146 (tgt := 162) (by decide) (fun c42 => ?_) (fun c42 => ?_)
            · replace e := (if_pos c42).symm.trans e
              refine r_iconst d_X11_set_162 (v := (0 : Int32)) (by decide +kernel) ?_
              obtain rfl := Option.some.inj e
              exact g_iret d_X11_set_163 rfl rfl
            · replace e := (if_neg c42).symm.trans e
              refine g_ald_n d_X11_set_149 rfl g0 ?_
              refine r_bipush d_X11_set_150 (v := (9 : Int32)) (by decide +kernel) ?_
              replace e := ckd e
              obtain ⟨k44, e⟩ := e
              replace e := bd e
              obtain ⟨q43, eq43, e⟩ := e
              refine g_callV d_X11_set_152 vk_10_221 (as := [_]) rfl k44 rfl (by simp [zrf_cat, cat_int, cat_long]) (j := 3) (by omega) (c_X11_ends (by omega) eq43) ?_
              refine r_if_eq d_X11_set_155 (tgt := 162) (by decide) (fun c45 => ?_) (fun c45 => ?_)
              · replace e := (if_pos c45).symm.trans e
                refine r_iconst d_X11_set_162 (v := (0 : Int32)) (by decide +kernel) ?_
                obtain rfl := Option.some.inj e
                exact g_iret d_X11_set_163 rfl rfl
              · replace e := (if_neg c45).symm.trans e
                refine r_iconst d_X11_set_158 (v := (1 : Int32)) (by decide +kernel) ?_
                refine r_goto d_X11_set_159 (tgt := 163) (by decide) ?_
                obtain rfl := Option.some.inj e
                exact g_iret d_X11_set_163 rfl rfl
        · replace e := (if_neg c18).symm.trans e
          refine g_ald_n d_X11_set_102 rfl g0 ?_
          refine r_bipush d_X11_set_103 (v := (8 : Int32)) (by decide +kernel) ?_
          replace e := ckd e
          obtain ⟨k47, e⟩ := e
          replace e := bd e
          obtain ⟨q46, eq46, e⟩ := e
          refine g_callV d_X11_set_105 vk_10_215 (as := [_]) rfl k47 rfl (by simp [zrf_cat, cat_int, cat_long]) (j := 3) (by omega) (c_X11_number (by omega) eq46) ?_
          refine r_if_eq d_X11_set_108 (tgt := 131) (by decide) (fun c48 => ?_) (fun c48 => ?_)
          · replace e := (if_pos c48).symm.trans e
            refine r_iconst d_X11_set_131 (v := (0 : Int32)) (by decide +kernel) ?_
            obtain rfl := Option.some.inj e
            exact g_iret d_X11_set_132 rfl rfl
          · replace e := (if_neg c48).symm.trans e
            refine g_ald_n d_X11_set_111 rfl g0 ?_
            replace e := ckd e
            obtain ⟨k50, e⟩ := e
            replace e := bd e
            obtain ⟨q49, eq49, e⟩ := e
            refine g_callV d_X11_set_112 vk_10_218 (as := []) rfl k50 rfl (by simp [zrf_cat, cat_int, cat_long]) (j := 4) (by omega) (c_X11_bracketed (by omega) eq49) ?_
            refine r_if_eq d_X11_set_115 (tgt := 131) (by decide) (fun c51 => ?_) (fun c51 => ?_)
            · replace e := (if_pos c51).symm.trans e
              refine r_iconst d_X11_set_131 (v := (0 : Int32)) (by decide +kernel) ?_
              obtain rfl := Option.some.inj e
              exact g_iret d_X11_set_132 rfl rfl
            · replace e := (if_neg c51).symm.trans e
              refine g_ald_n d_X11_set_118 rfl g0 ?_
              refine r_bipush d_X11_set_119 (v := (8 : Int32)) (by decide +kernel) ?_
              replace e := ckd e
              obtain ⟨k53, e⟩ := e
              replace e := bd e
              obtain ⟨q52, eq52, e⟩ := e
              refine g_callV d_X11_set_121 vk_10_221 (as := [_]) rfl k53 rfl (by simp [zrf_cat, cat_int, cat_long]) (j := 3) (by omega) (c_X11_ends (by omega) eq52) ?_
              refine r_if_eq d_X11_set_124 (tgt := 131) (by decide) (fun c54 => ?_) (fun c54 => ?_)
              · replace e := (if_pos c54).symm.trans e
                refine r_iconst d_X11_set_131 (v := (0 : Int32)) (by decide +kernel) ?_
                obtain rfl := Option.some.inj e
                exact g_iret d_X11_set_132 rfl rfl
              · replace e := (if_neg c54).symm.trans e
                refine r_iconst d_X11_set_127 (v := (1 : Int32)) (by decide +kernel) ?_
                refine r_goto d_X11_set_128 (tgt := 132) (by decide) ?_
                obtain rfl := Option.some.inj e
                exact g_iret d_X11_set_132 rfl rfl
      · replace e := (if_neg c15).symm.trans e
        refine g_ald_n d_X11_set_86 rfl g0 ?_
        refine r_bipush d_X11_set_87 (v := (7 : Int32)) (by decide +kernel) ?_
        replace e := ckd e
        obtain ⟨k56, e⟩ := e
        replace e := bd e
        obtain ⟨q55, eq55, e⟩ := e
        refine g_callV d_X11_set_89 vk_10_221 (as := [_]) rfl k56 rfl (by simp [zrf_cat, cat_int, cat_long]) (j := 3) (by omega) (c_X11_ends (by omega) eq55) ?_
        replace e := ckd e
        obtain ⟨k57, e⟩ := e
        obtain rfl := Option.some.inj e
        exact g_iret d_X11_set_92 rfl k57
    · replace e := (if_neg c12).symm.trans e
      refine g_ald_n d_X11_set_46 rfl g0 ?_
      refine r_bipush d_X11_set_47 (v := (10 : Int32)) (by decide +kernel) ?_
      replace e := ckd e
      obtain ⟨k59, e⟩ := e
      replace e := bd e
      obtain ⟨q58, eq58, e⟩ := e
      refine g_callV d_X11_set_49 vk_10_215 (as := [_]) rfl k59 rfl (by simp [zrf_cat, cat_int, cat_long]) (j := 3) (by omega) (c_X11_number (by omega) eq58) ?_
      refine r_if_eq d_X11_set_52 (tgt := 75) (by decide) (fun c60 => ?_) (fun c60 => ?_)
      · replace e := (if_pos c60).symm.trans e
        refine r_iconst d_X11_set_75 (v := (0 : Int32)) (by decide +kernel) ?_
        obtain rfl := Option.some.inj e
        exact g_iret d_X11_set_76 rfl rfl
      · replace e := (if_neg c60).symm.trans e
        refine g_ald_n d_X11_set_55 rfl g0 ?_
        replace e := ckd e
        obtain ⟨k62, e⟩ := e
        replace e := bd e
        obtain ⟨q61, eq61, e⟩ := e
        refine g_callV d_X11_set_56 vk_10_218 (as := []) rfl k62 rfl (by simp [zrf_cat, cat_int, cat_long]) (j := 4) (by omega) (c_X11_bracketed (by omega) eq61) ?_
        refine r_if_eq d_X11_set_59 (tgt := 75) (by decide) (fun c63 => ?_) (fun c63 => ?_)
        · replace e := (if_pos c63).symm.trans e
          refine r_iconst d_X11_set_75 (v := (0 : Int32)) (by decide +kernel) ?_
          obtain rfl := Option.some.inj e
          exact g_iret d_X11_set_76 rfl rfl
        · replace e := (if_neg c63).symm.trans e
          refine g_ald_n d_X11_set_62 rfl g0 ?_
          refine r_bipush d_X11_set_63 (v := (6 : Int32)) (by decide +kernel) ?_
          replace e := ckd e
          obtain ⟨k65, e⟩ := e
          replace e := bd e
          obtain ⟨q64, eq64, e⟩ := e
          refine g_callV d_X11_set_65 vk_10_221 (as := [_]) rfl k65 rfl (by simp [zrf_cat, cat_int, cat_long]) (j := 3) (by omega) (c_X11_ends (by omega) eq64) ?_
          refine r_if_eq d_X11_set_68 (tgt := 75) (by decide) (fun c66 => ?_) (fun c66 => ?_)
          · replace e := (if_pos c66).symm.trans e
            refine r_iconst d_X11_set_75 (v := (0 : Int32)) (by decide +kernel) ?_
            obtain rfl := Option.some.inj e
            exact g_iret d_X11_set_76 rfl rfl
          · replace e := (if_neg c66).symm.trans e
            refine r_iconst d_X11_set_71 (v := (1 : Int32)) (by decide +kernel) ?_
            refine r_goto d_X11_set_72 (tgt := 76) (by decide) ?_
            obtain rfl := Option.some.inj e
            exact g_iret d_X11_set_76 rfl rfl
  · replace e := (if_pos c9).symm.trans e
    refine r_iconst d_X11_set_35 (v := (0 : Int32)) (by decide +kernel) ?_
    obtain rfl := Option.some.inj e
    exact g_iret d_X11_set_36 rfl rfl

theorem c_X11_set {G : Gd} {j : Nat} (hj : 5 ≤ j) {l0 : Nat} {h : Hp} {o : (Int32 × Hp)} (e : f_X11_set l0 h = some o) : Cal G j Y_X11_set [zrf (l0)] h (some (.int o.1)) o.2 := Cal.of (n := 0) (I := false) (by first | exact Or.inl (by decide +kernel) | exact Or.inr (by decide +kernel)) (by decide) (by simp [lg_sl, zrf_cat, cat_int, cat_long]) (f_X11_set_ok hj _ _ h o (by simp [lv_args, zlk, zrf_cat, cat_int, cat_long]) e)
theorem vk_10_224 : Vk "TaskWeaveModel" 224 0 12 Y_X11_set := ⟨yk_X11_set, by decide +kernel, by decide +kernel, by decide +kernel, by decide⟩
def f_X11_step (l0 : Nat) (h : Hp) : Option (Int32 × Hp) := ck (isO (h) (l0) 12) ((f_X11_isLetter (l0) (h)).bind (fun q1 => if (q1.1) = (0) then (ck (isO (q1.2) (l0) 12) ((f_X11_takes (l0) ((84 : Int32)) (q1.2)).bind (fun q4 => if (q4.1) = (0) then (ck (isO (q4.2) (l0) 12) ((f_X11_takes (l0) ((83 : Int32)) (q4.2)).bind (fun q7 => if (q7.1) = (0) then (ck (isO (q7.2) (l0) 12) ((f_X11_takes (l0) ((73 : Int32)) (q7.2)).bind (fun q10 => if (q10.1) = (0) then (ck (isO (q10.2) (l0) 12) ((f_X11_takes (l0) ((71 : Int32)) (q10.2)).bind (fun q13 => if (q13.1) = (0) then (ck (isO (q13.2) (l0) 12) ((f_X11_takes (l0) ((69 : Int32)) (q13.2)).bind (fun q16 => if (q16.1) = (0) then (some ((0 : Int32), q16.2)) else (ck (isO (q16.2) (l0) 12) ((f_X11_bracketed (l0) (q16.2)).bind (fun q19 => if (q19.1) = (0) then (some ((0 : Int32), q19.2)) else (ck (isO (q19.2) (l0) 12) ((f_X11_ends (l0) ((14 : Int32)) (q19.2)).bind (fun q22 => if (q22.1) = (0) then (some ((0 : Int32), q22.2)) else (some ((1 : Int32), q22.2))))))))))) else (ck (isO (q13.2) (l0) 12) ((f_X11_number (l0) ((10 : Int32)) (q13.2)).bind (fun q25 => if (q25.1) = (0) then (some ((0 : Int32), q25.2)) else (ck (isO (q25.2) (l0) 12) ((f_X11_ends (l0) ((13 : Int32)) (q25.2)).bind (fun q28 => if (q28.1) = (0) then (some ((0 : Int32), q28.2)) else (some ((1 : Int32), q28.2))))))))))) else (ck (isO (q10.2) (l0) 12) ((f_X11_bracketed (l0) (q10.2)).bind (fun q31 => if (q31.1) = (0) then (some ((0 : Int32), q31.2)) else (ck (isO (q31.2) (l0) 12) ((f_X11_number (l0) ((10 : Int32)) (q31.2)).bind (fun q34 => if (q34.1) = (0) then (some ((0 : Int32), q34.2)) else (ck (isO (q34.2) (l0) 12) ((f_X11_ends (l0) ((12 : Int32)) (q34.2)).bind (fun q37 => if (q37.1) = (0) then (some ((0 : Int32), q37.2)) else (some ((1 : Int32), q37.2)))))))))))))) else (ck (isO (q7.2) (l0) 12) ((f_X11_takes (l0) ((40 : Int32)) (q7.2)).bind (fun q40 => if (q40.1) = (0) then (some ((0 : Int32), q40.2)) else (ck (isO (q40.2) (l0) 12) ((f_X11_value (l0) ((0 : Int32)) (q40.2)).bind (fun q43 => if (q43.1) = (0) then (some ((0 : Int32), q43.2)) else (ck (isO (q43.2) (l0) 12) ((f_X11_takes (l0) ((44 : Int32)) (q43.2)).bind (fun q46 => if (q46.1) = (0) then (some ((0 : Int32), q46.2)) else (ck (isO (q46.2) (l0) 12) ((f_X11_value (l0) ((1 : Int32)) (q46.2)).bind (fun q49 => if (q49.1) = (0) then (some ((0 : Int32), q49.2)) else (ck (isO (q49.2) (l0) 12) ((f_X11_takes (l0) ((41 : Int32)) (q49.2)).bind (fun q52 => if (q52.1) = (0) then (some ((0 : Int32), q52.2)) else (ck (isO (q52.2) (l0) 12) ((f_X11_ends (l0) ((11 : Int32)) (q52.2)).bind (fun q55 => if (q55.1) = (0) then (some ((0 : Int32), q55.2)) else (some ((1 : Int32), q55.2))))))))))))))))))))))) else (ck (isO (q4.2) (l0) 12) ((f_X11_bracketed (l0) (q4.2)).bind (fun q58 => if (q58.1) = (0) then (some ((0 : Int32), q58.2)) else (ck (isO (q58.2) (l0) 12) ((f_X11_ends (l0) ((10 : Int32)) (q58.2)).bind (fun q61 => if (q61.1) = (0) then (some ((0 : Int32), q61.2)) else (some ((1 : Int32), q61.2))))))))))) else (ck (isO (q1.2) (l0) 12) ((f_X11_set (l0) (q1.2)).bind (fun q64 => ck (isB (q64.1)) (some (q64.1, q64.2)))))))
theorem f_X11_step_ok {G : Gd} {d : Nat} (hj : 6 ≤ d) : ∀ (l0 : Nat) (L : List (Nat × Value)) (h : Hp) (o : (Int32 × Hp)), zlk L 0 = some (zrf (l0)) → f_X11_step l0 h = some o → Ev G M_X11_step d 0 L [] h (Ret Y_X11_step (some (.int o.1)) o.2) := by
  intro l0 L h o g0 e
  unfold f_X11_step at e
  refine g_ald_n d_X11_step_0 rfl g0 ?_
  replace e := ckd e
  obtain ⟨k2, e⟩ := e
  replace e := bd e
  obtain ⟨q1, eq1, e⟩ := e
  refine g_callV d_X11_step_1 vk_10_198 (as := []) rfl k2 rfl (by simp [zrf_cat, cat_int, cat_long]) (j := 2) (by omega) (c_X11_isLetter (by omega) eq1) ?_
  refine r_if_eq d_X11_step_4 (tgt := 12) (by decide) (fun c3 => ?_) (fun c3 => ?_)
  · replace e := (if_pos c3).symm.trans e
    refine g_ald_n d_X11_step_12 rfl g0 ?_
    refine r_bipush d_X11_step_13 (v := (84 : Int32)) (by decide +kernel) ?_
    replace e := ckd e
    obtain ⟨k5, e⟩ := e
    replace e := bd e
    obtain ⟨q4, eq4, e⟩ := e
    refine g_callV d_X11_step_15 vk_10_202 (as := [_]) rfl k5 rfl (by simp [zrf_cat, cat_int, cat_long]) (j := 2) (by omega) (c_X11_takes (by omega) eq4) ?_
    refine r_if_eq d_X11_step_18 (tgt := 43) (by decide) (fun c6 => ?_) (fun c6 => ?_)
    · replace e := (if_pos c6).symm.trans e
      refine g_ald_n d_X11_step_43 rfl g0 ?_
      refine r_bipush d_X11_step_44 (v := (83 : Int32)) (by decide +kernel) ?_
      replace e := ckd e
      obtain ⟨k8, e⟩ := e
      replace e := bd e
      obtain ⟨q7, eq7, e⟩ := e
      refine g_callV d_X11_step_46 vk_10_202 (as := [_]) rfl k8 rfl (by simp [zrf_cat, cat_int, cat_long]) (j := 2) (by omega) (c_X11_takes (by omega) eq7) ?_
      refine r_if_eq d_X11_step_49 (tgt := 110) (by decide) (fun c9 => ?_) (fun c9 => ?_)
      · replace e := (if_pos c9).symm.trans e
        refine g_ald_n d_X11_step_110 rfl g0 ?_
        refine r_bipush d_X11_step_111 (v := (73 : Int32)) (by decide +kernel) ?_
        replace e := ckd e
        obtain ⟨k11, e⟩ := e
        replace e := bd e
        obtain ⟨q10, eq10, e⟩ := e
        refine g_callV d_X11_step_113 vk_10_202 (as := [_]) rfl k11 rfl (by simp [zrf_cat, cat_int, cat_long]) (j := 2) (by omega) (c_X11_takes (by omega) eq10) ?_
        refine r_if_eq d_X11_step_116 (tgt := 150) (by decide) (fun c12 => ?_) (fun c12 => ?_)
        · replace e := (if_pos c12).symm.trans e
          refine g_ald_n d_X11_step_150 rfl g0 ?_
          refine r_bipush d_X11_step_151 (v := (71 : Int32)) (by decide +kernel) ?_
          replace e := ckd e
          obtain ⟨k14, e⟩ := e
          replace e := bd e
          obtain ⟨q13, eq13, e⟩ := e
          refine g_callV d_X11_step_153 vk_10_202 (as := [_]) rfl k14 rfl (by simp [zrf_cat, cat_int, cat_long]) (j := 2) (by omega) (c_X11_takes (by omega) eq13) ?_
          refine r_if_eq d_X11_step_156 (tgt := 183) (by decide) (fun c15 => ?_) (fun c15 => ?_)
          · replace e := (if_pos c15).symm.trans e
            refine g_ald_n d_X11_step_183 rfl g0 ?_
            refine r_bipush d_X11_step_184 (v := (69 : Int32)) (by decide +kernel) ?_
            replace e := ckd e
            obtain ⟨k17, e⟩ := e
            replace e := bd e
            obtain ⟨q16, eq16, e⟩ := e
            refine g_callV d_X11_step_186 vk_10_202 (as := [_]) rfl k17 rfl (by simp [zrf_cat, cat_int, cat_long]) (j := 2) (by omega) (c_X11_takes (by omega) eq16) ?_
            refine r_if_eq d_X11_step_189 (tgt := 212) (by decide) (fun c18 => ?_) (fun c18 => ?_)
            · replace e := (if_pos c18).symm.trans e
              refine r_iconst d_X11_step_212 (v := (0 : Int32)) (by decide +kernel) ?_
              obtain rfl := Option.some.inj e
              exact g_iret d_X11_step_213 rfl rfl
            · replace e := (if_neg c18).symm.trans e
              refine g_ald_n d_X11_step_192 rfl g0 ?_
              replace e := ckd e
              obtain ⟨k20, e⟩ := e
              replace e := bd e
              obtain ⟨q19, eq19, e⟩ := e
              refine g_callV d_X11_step_193 vk_10_218 (as := []) rfl k20 rfl (by simp [zrf_cat, cat_int, cat_long]) (j := 4) (by omega) (c_X11_bracketed (by omega) eq19) ?_
              refine r_if_eq d_X11_step_196 (tgt := 212) (by decide) (fun c21 => ?_) (fun c21 => ?_)
              · replace e := (if_pos c21).symm.trans e
                refine r_iconst d_X11_step_212 (v := (0 : Int32)) (by decide +kernel) ?_
                obtain rfl := Option.some.inj e
                exact g_iret d_X11_step_213 rfl rfl
              · replace e := (if_neg c21).symm.trans e
                refine g_ald_n d_X11_step_199 rfl g0 ?_
                refine r_bipush d_X11_step_200 (v := (14 : Int32)) (by decide +kernel) ?_
                replace e := ckd e
                obtain ⟨k23, e⟩ := e
                replace e := bd e
                obtain ⟨q22, eq22, e⟩ := e
                refine g_callV d_X11_step_202 vk_10_221 (as := [_]) rfl k23 rfl (by simp [zrf_cat, cat_int, cat_long]) (j := 3) (by omega) (c_X11_ends (by omega) eq22) ?_
                refine r_if_eq d_X11_step_205 (tgt := 212) (by decide) (fun c24 => ?_) (fun c24 => ?_)
                · replace e := (if_pos c24).symm.trans e
                  refine r_iconst d_X11_step_212 (v := (0 : Int32)) (by decide +kernel) ?_
                  obtain rfl := Option.some.inj e
                  exact g_iret d_X11_step_213 rfl rfl
                · replace e := (if_neg c24).symm.trans e
                  refine r_iconst d_X11_step_208 (v := (1 : Int32)) (by decide +kernel) ?_
                  refine r_goto d_X11_step_209 (tgt := 213) (by decide) ?_
                  obtain rfl := Option.some.inj e
                  exact g_iret d_X11_step_213 rfl rfl
          · replace e := (if_neg c15).symm.trans e
            refine g_ald_n d_X11_step_159 rfl g0 ?_
            refine r_bipush d_X11_step_160 (v := (10 : Int32)) (by decide +kernel) ?_
            replace e := ckd e
            obtain ⟨k26, e⟩ := e
            replace e := bd e
            obtain ⟨q25, eq25, e⟩ := e
            refine g_callV d_X11_step_162 vk_10_215 (as := [_]) rfl k26 rfl (by simp [zrf_cat, cat_int, cat_long]) (j := 3) (by omega) (c_X11_number (by omega) eq25) ?_
            refine r_if_eq d_X11_step_165 (tgt := 181) (by decide) (fun c27 => ?_) (fun c27 => ?_)
            · replace e := (if_pos c27).symm.trans e
              refine r_iconst d_X11_step_181 (v := (0 : Int32)) (by decide +kernel) ?_
              obtain rfl := Option.some.inj e
              exact g_iret d_X11_step_182 rfl rfl
            · replace e := (if_neg c27).symm.trans e
              refine g_ald_n d_X11_step_168 rfl g0 ?_
              refine r_bipush d_X11_step_169 (v := (13 : Int32)) (by decide +kernel) ?_
              replace e := ckd e
              obtain ⟨k29, e⟩ := e
              replace e := bd e
              obtain ⟨q28, eq28, e⟩ := e
              refine g_callV d_X11_step_171 vk_10_221 (as := [_]) rfl k29 rfl (by simp [zrf_cat, cat_int, cat_long]) (j := 3) (by omega) (c_X11_ends (by omega) eq28) ?_
              refine r_if_eq d_X11_step_174 (tgt := 181) (by decide) (fun c30 => ?_) (fun c30 => ?_)
              · replace e := (if_pos c30).symm.trans e
                refine r_iconst d_X11_step_181 (v := (0 : Int32)) (by decide +kernel) ?_
                obtain rfl := Option.some.inj e
                exact g_iret d_X11_step_182 rfl rfl
              · replace e := (if_neg c30).symm.trans e
                refine r_iconst d_X11_step_177 (v := (1 : Int32)) (by decide +kernel) ?_
                refine r_goto d_X11_step_178 (tgt := 182) (by decide) ?_
                obtain rfl := Option.some.inj e
                exact g_iret d_X11_step_182 rfl rfl
        · replace e := (if_neg c12).symm.trans e
          refine g_ald_n d_X11_step_119 rfl g0 ?_
          replace e := ckd e
          obtain ⟨k32, e⟩ := e
          replace e := bd e
          obtain ⟨q31, eq31, e⟩ := e
          refine g_callV d_X11_step_120 vk_10_218 (as := []) rfl k32 rfl (by simp [zrf_cat, cat_int, cat_long]) (j := 4) (by omega) (c_X11_bracketed (by omega) eq31) ?_
          refine r_if_eq d_X11_step_123 (tgt := 148) (by decide) (fun c33 => ?_) (fun c33 => ?_)
          · replace e := (if_pos c33).symm.trans e
            refine r_iconst d_X11_step_148 (v := (0 : Int32)) (by decide +kernel) ?_
            obtain rfl := Option.some.inj e
            exact g_iret d_X11_step_149 rfl rfl
          · replace e := (if_neg c33).symm.trans e
            refine g_ald_n d_X11_step_126 rfl g0 ?_
            refine r_bipush d_X11_step_127 (v := (10 : Int32)) (by decide +kernel) ?_
            replace e := ckd e
            obtain ⟨k35, e⟩ := e
            replace e := bd e
            obtain ⟨q34, eq34, e⟩ := e
            refine g_callV d_X11_step_129 vk_10_215 (as := [_]) rfl k35 rfl (by simp [zrf_cat, cat_int, cat_long]) (j := 3) (by omega) (c_X11_number (by omega) eq34) ?_
            refine r_if_eq d_X11_step_132 (tgt := 148) (by decide) (fun c36 => ?_) (fun c36 => ?_)
            · replace e := (if_pos c36).symm.trans e
              refine r_iconst d_X11_step_148 (v := (0 : Int32)) (by decide +kernel) ?_
              obtain rfl := Option.some.inj e
              exact g_iret d_X11_step_149 rfl rfl
            · replace e := (if_neg c36).symm.trans e
              refine g_ald_n d_X11_step_135 rfl g0 ?_
              refine r_bipush d_X11_step_136 (v := (12 : Int32)) (by decide +kernel) ?_
              replace e := ckd e
              obtain ⟨k38, e⟩ := e
              replace e := bd e
              obtain ⟨q37, eq37, e⟩ := e
              refine g_callV d_X11_step_138 vk_10_221 (as := [_]) rfl k38 rfl (by simp [zrf_cat, cat_int, cat_long]) (j := 3) (by omega) (c_X11_ends (by omega) eq37) ?_
              refine r_if_eq d_X11_step_141 (tgt := 148) (by decide) (fun c39 => ?_) (fun c39 => ?_)
              · replace e := (if_pos c39).symm.trans e
                refine r_iconst d_X11_step_148 (v := (0 : Int32)) (by decide +kernel) ?_
                obtain rfl := Option.some.inj e
                exact g_iret d_X11_step_149 rfl rfl
              · replace e := (if_neg c39).symm.trans e
                refine r_iconst d_X11_step_144 (v := (1 : Int32)) (by decide +kernel) ?_
                refine r_goto d_X11_step_145 (tgt := 149) (by decide) ?_
                obtain rfl := Option.some.inj e
                exact g_iret d_X11_step_149 rfl rfl
      · replace e := (if_neg c9).symm.trans e
        refine g_ald_n d_X11_step_52 rfl g0 ?_
        refine r_bipush d_X11_step_53 (v := (40 : Int32)) (by decide +kernel) ?_
        replace e := ckd e
        obtain ⟨k41, e⟩ := e
        replace e := bd e
        obtain ⟨q40, eq40, e⟩ := e
        refine g_callV d_X11_step_55 vk_10_202 (as := [_]) rfl k41 rfl (by simp [zrf_cat, cat_int, cat_long]) (j := 2) (by omega) (c_X11_takes (by omega) eq40) ?_
        refine r_if_eq d_X11_step_58 (tgt := 108) (by decide) (fun c42 => ?_) (fun c42 => ?_)
        · replace e := (if_pos c42).symm.trans e
          refine r_iconst d_X11_step_108 (v := (0 : Int32)) (by decide +kernel) ?_
          obtain rfl := Option.some.inj e
          exact g_iret d_X11_step_109 rfl rfl
        · replace e := (if_neg c42).symm.trans e
          refine g_ald_n d_X11_step_61 rfl g0 ?_
          refine r_iconst d_X11_step_62 (v := (0 : Int32)) (by decide +kernel) ?_
          replace e := ckd e
          obtain ⟨k44, e⟩ := e
          replace e := bd e
          obtain ⟨q43, eq43, e⟩ := e
          refine g_callV d_X11_step_63 vk_10_212 (as := [_]) rfl k44 rfl (by simp [zrf_cat, cat_int, cat_long]) (j := 3) (by omega) (c_X11_value (by omega) eq43) ?_
          refine r_if_eq d_X11_step_66 (tgt := 108) (by decide) (fun c45 => ?_) (fun c45 => ?_)
          · replace e := (if_pos c45).symm.trans e
            refine r_iconst d_X11_step_108 (v := (0 : Int32)) (by decide +kernel) ?_
            obtain rfl := Option.some.inj e
            exact g_iret d_X11_step_109 rfl rfl
          · replace e := (if_neg c45).symm.trans e
            refine g_ald_n d_X11_step_69 rfl g0 ?_
            refine r_bipush d_X11_step_70 (v := (44 : Int32)) (by decide +kernel) ?_
            replace e := ckd e
            obtain ⟨k47, e⟩ := e
            replace e := bd e
            obtain ⟨q46, eq46, e⟩ := e
            refine g_callV d_X11_step_72 vk_10_202 (as := [_]) rfl k47 rfl (by simp [zrf_cat, cat_int, cat_long]) (j := 2) (by omega) (c_X11_takes (by omega) eq46) ?_
            refine r_if_eq d_X11_step_75 (tgt := 108) (by decide) (fun c48 => ?_) (fun c48 => ?_)
            · replace e := (if_pos c48).symm.trans e
              refine r_iconst d_X11_step_108 (v := (0 : Int32)) (by decide +kernel) ?_
              obtain rfl := Option.some.inj e
              exact g_iret d_X11_step_109 rfl rfl
            · replace e := (if_neg c48).symm.trans e
              refine g_ald_n d_X11_step_78 rfl g0 ?_
              refine r_iconst d_X11_step_79 (v := (1 : Int32)) (by decide +kernel) ?_
              replace e := ckd e
              obtain ⟨k50, e⟩ := e
              replace e := bd e
              obtain ⟨q49, eq49, e⟩ := e
              refine g_callV d_X11_step_80 vk_10_212 (as := [_]) rfl k50 rfl (by simp [zrf_cat, cat_int, cat_long]) (j := 3) (by omega) (c_X11_value (by omega) eq49) ?_
              refine r_if_eq d_X11_step_83 (tgt := 108) (by decide) (fun c51 => ?_) (fun c51 => ?_)
              · replace e := (if_pos c51).symm.trans e
                refine r_iconst d_X11_step_108 (v := (0 : Int32)) (by decide +kernel) ?_
                obtain rfl := Option.some.inj e
                exact g_iret d_X11_step_109 rfl rfl
              · replace e := (if_neg c51).symm.trans e
                refine g_ald_n d_X11_step_86 rfl g0 ?_
                refine r_bipush d_X11_step_87 (v := (41 : Int32)) (by decide +kernel) ?_
                replace e := ckd e
                obtain ⟨k53, e⟩ := e
                replace e := bd e
                obtain ⟨q52, eq52, e⟩ := e
                refine g_callV d_X11_step_89 vk_10_202 (as := [_]) rfl k53 rfl (by simp [zrf_cat, cat_int, cat_long]) (j := 2) (by omega) (c_X11_takes (by omega) eq52) ?_
                refine r_if_eq d_X11_step_92 (tgt := 108) (by decide) (fun c54 => ?_) (fun c54 => ?_)
                · replace e := (if_pos c54).symm.trans e
                  refine r_iconst d_X11_step_108 (v := (0 : Int32)) (by decide +kernel) ?_
                  obtain rfl := Option.some.inj e
                  exact g_iret d_X11_step_109 rfl rfl
                · replace e := (if_neg c54).symm.trans e
                  refine g_ald_n d_X11_step_95 rfl g0 ?_
                  refine r_bipush d_X11_step_96 (v := (11 : Int32)) (by decide +kernel) ?_
                  replace e := ckd e
                  obtain ⟨k56, e⟩ := e
                  replace e := bd e
                  obtain ⟨q55, eq55, e⟩ := e
                  refine g_callV d_X11_step_98 vk_10_221 (as := [_]) rfl k56 rfl (by simp [zrf_cat, cat_int, cat_long]) (j := 3) (by omega) (c_X11_ends (by omega) eq55) ?_
                  refine r_if_eq d_X11_step_101 (tgt := 108) (by decide) (fun c57 => ?_) (fun c57 => ?_)
                  · replace e := (if_pos c57).symm.trans e
                    refine r_iconst d_X11_step_108 (v := (0 : Int32)) (by decide +kernel) ?_
                    obtain rfl := Option.some.inj e
                    exact g_iret d_X11_step_109 rfl rfl
                  · replace e := (if_neg c57).symm.trans e
                    refine r_iconst d_X11_step_104 (v := (1 : Int32)) (by decide +kernel) ?_
                    refine r_goto d_X11_step_105 (tgt := 109) (by decide) ?_
                    obtain rfl := Option.some.inj e
                    exact g_iret d_X11_step_109 rfl rfl
    · replace e := (if_neg c6).symm.trans e
      refine g_ald_n d_X11_step_21 rfl g0 ?_
      replace e := ckd e
      obtain ⟨k59, e⟩ := e
      replace e := bd e
      obtain ⟨q58, eq58, e⟩ := e
      refine g_callV d_X11_step_22 vk_10_218 (as := []) rfl k59 rfl (by simp [zrf_cat, cat_int, cat_long]) (j := 4) (by omega) (c_X11_bracketed (by omega) eq58) ?_
      refine r_if_eq d_X11_step_25 (tgt := 41) (by decide) (fun c60 => ?_) (fun c60 => ?_)
      · replace e := (if_pos c60).symm.trans e
        refine r_iconst d_X11_step_41 (v := (0 : Int32)) (by decide +kernel) ?_
        obtain rfl := Option.some.inj e
        exact g_iret d_X11_step_42 rfl rfl
      · replace e := (if_neg c60).symm.trans e
        refine g_ald_n d_X11_step_28 rfl g0 ?_
        refine r_bipush d_X11_step_29 (v := (10 : Int32)) (by decide +kernel) ?_
        replace e := ckd e
        obtain ⟨k62, e⟩ := e
        replace e := bd e
        obtain ⟨q61, eq61, e⟩ := e
        refine g_callV d_X11_step_31 vk_10_221 (as := [_]) rfl k62 rfl (by simp [zrf_cat, cat_int, cat_long]) (j := 3) (by omega) (c_X11_ends (by omega) eq61) ?_
        refine r_if_eq d_X11_step_34 (tgt := 41) (by decide) (fun c63 => ?_) (fun c63 => ?_)
        · replace e := (if_pos c63).symm.trans e
          refine r_iconst d_X11_step_41 (v := (0 : Int32)) (by decide +kernel) ?_
          obtain rfl := Option.some.inj e
          exact g_iret d_X11_step_42 rfl rfl
        · replace e := (if_neg c63).symm.trans e
          refine r_iconst d_X11_step_37 (v := (1 : Int32)) (by decide +kernel) ?_
          refine r_goto d_X11_step_38 (tgt := 42) (by decide) ?_
          obtain rfl := Option.some.inj e
          exact g_iret d_X11_step_42 rfl rfl
  · replace e := (if_neg c3).symm.trans e
    refine g_ald_n d_X11_step_7 rfl g0 ?_
    replace e := ckd e
    obtain ⟨k65, e⟩ := e
    replace e := bd e
    obtain ⟨q64, eq64, e⟩ := e
    refine g_callV d_X11_step_8 vk_10_224 (as := []) rfl k65 rfl (by simp [zrf_cat, cat_int, cat_long]) (j := 5) (by omega) (c_X11_set (by omega) eq64) ?_
    replace e := ckd e
    obtain ⟨k66, e⟩ := e
    obtain rfl := Option.some.inj e
    exact g_iret d_X11_step_11 rfl k66

theorem c_X11_step {G : Gd} {j : Nat} (hj : 6 ≤ j) {l0 : Nat} {h : Hp} {o : (Int32 × Hp)} (e : f_X11_step l0 h = some o) : Cal G j Y_X11_step [zrf (l0)] h (some (.int o.1)) o.2 := Cal.of (n := 0) (I := false) (by first | exact Or.inl (by decide +kernel) | exact Or.inr (by decide +kernel)) (by decide) (by simp [lg_sl, zrf_cat, cat_int, cat_long]) (f_X11_step_ok hj _ _ h o (by simp [lv_args, zlk, zrf_cat, cat_int, cat_long]) e)
theorem vk_10_227 : Vk "TaskWeaveModel" 227 0 12 Y_X11_step := ⟨yk_X11_step, by decide +kernel, by decide +kernel, by decide +kernel, by decide⟩
def f_X11_read_119 (K26 : Nat → Int32 → Hp → Option (Int32 × Hp)) (l0 : Nat) (l1 : Int32) (h : Hp) : Option (Int32 × Hp) := ck (isO (h) (l0) 12) ((f_X11_step (l0) (h)).bind (fun q32 => if (q32.1) = (0) then (ck (isO (q32.2) (l0) 12) (some (zI (q32.2) 1223 (l0), q32.2))) else (ck (isO (q32.2) (l0) 12) (bh (pI (q32.2) 1213 (l0) ((zI (q32.2) 1213 (l0)) + ((1 : Int32)))) (fun h36 => K26 (l0) (l1) (h36))))))
theorem f_X11_read_119_ok {G : Gd} {d : Nat} (K26 : Nat → Int32 → Hp → Option (Int32 × Hp)) (hj : 7 ≤ d) (hK26 : ∀ (l0 : Nat) (l1 : Int32) (L : List (Nat × Value)) (h : Hp) (o : (Int32 × Hp)), zlk L 0 = some (zrf (l0)) → zlk L 1 = some (.int (l1)) → K26 l0 l1 h = some o → Ev G M_X11_read d 26 L [] h (Ret Y_X11_read (some (.int o.1)) o.2)) : ∀ (l0 : Nat) (l1 : Int32) (L : List (Nat × Value)) (h : Hp) (o : (Int32 × Hp)), zlk L 0 = some (zrf (l0)) → zlk L 1 = some (.int (l1)) → f_X11_read_119 K26 l0 l1 h = some o → Ev G M_X11_read d 119 L [] h (Ret Y_X11_read (some (.int o.1)) o.2) := by
  intro l0 l1 L h o g0 g1 e
  unfold f_X11_read_119 at e
  refine g_ald_n d_X11_read_119 rfl g0 ?_
  replace e := ckd e
  obtain ⟨k33, e⟩ := e
  replace e := bd e
  obtain ⟨q32, eq32, e⟩ := e
  refine g_callV d_X11_read_120 vk_10_227 (as := []) rfl k33 rfl (by simp [zrf_cat, cat_int, cat_long]) (j := 6) (by omega) (c_X11_step (by omega) eq32) ?_
  refine r_if_ne d_X11_read_123 (tgt := 131) (by decide) (fun c34 => ?_) (fun c34 => ?_)
  · replace e := (if_neg c34).symm.trans e
    refine g_ald_n d_X11_read_131 rfl g0 ?_
    refine r_dup d_X11_read_132 (zrf_cat _) ?_
    replace e := ckd e
    obtain ⟨k35, e⟩ := e
    refine g_getI d_X11_read_133 (f := 1213) k35 fk_10_209 rfl rfl ?_
    refine r_iconst d_X11_read_136 (v := (1 : Int32)) (by decide +kernel) ?_
    refine r_iadd d_X11_read_137 ?_
    refine g_putI d_X11_read_138 (f := 1213) k35 fk_10_209 rfl (Or.inl rfl) ⟨rfl, rfl⟩ ?_
    replace e := bhd e
    obtain ⟨_, rfl, e⟩ := e
    refine r_goto d_X11_read_141 (tgt := 26) (by decide) ?_
    exact hK26 _ _ _ _ _ g0 g1 e
  · replace e := (if_pos c34).symm.trans e
    refine g_ald_n d_X11_read_126 rfl g0 ?_
    replace e := ckd e
    obtain ⟨k37, e⟩ := e
    refine g_getI d_X11_read_127 (f := 1223) k37 fk_10_191 rfl rfl ?_
    obtain rfl := Option.some.inj e
    exact g_iret d_X11_read_130 rfl rfl

def f_X11_read_218 (K146 : Nat → Int32 → Hp → Option (Int32 × Hp)) (l0 : Nat) (l2 : Int32) (h : Hp) : Option (Int32 × Hp) := bh ((l2) + (1 : Int32)) (fun x47 => K146 (l0) (x47) (h))
theorem f_X11_read_218_ok {G : Gd} {d : Nat} (K146 : Nat → Int32 → Hp → Option (Int32 × Hp)) (hj : 7 ≤ d) (hK146 : ∀ (l0 : Nat) (l2 : Int32) (L : List (Nat × Value)) (h : Hp) (o : (Int32 × Hp)), zlk L 0 = some (zrf (l0)) → zlk L 2 = some (.int (l2)) → K146 l0 l2 h = some o → Ev G M_X11_read d 146 L [] h (Ret Y_X11_read (some (.int o.1)) o.2)) : ∀ (l0 : Nat) (l2 : Int32) (L : List (Nat × Value)) (h : Hp) (o : (Int32 × Hp)), zlk L 0 = some (zrf (l0)) → zlk L 2 = some (.int (l2)) → f_X11_read_218 K146 l0 l2 h = some o → Ev G M_X11_read d 218 L [] h (Ret Y_X11_read (some (.int o.1)) o.2) := by
  intro l0 l2 L h o g0 g2 e
  unfold f_X11_read_218 at e
  replace e := bhd e
  obtain ⟨_, rfl, e⟩ := e
  refine s_iinc d_X11_read_218 g2 (w := (1 : Int32)) (by decide +kernel) (by decide) (fun L g2 gK => ?_)
  replace g0 := gK _ _ (by decide) (Or.inr (zrf_cat _)) g0
  refine r_goto d_X11_read_221 (tgt := 146) (by decide) ?_
  exact hK146 _ _ _ _ _ g0 g2 e

def f_X11_read_179 (K146 : Nat → Int32 → Hp → Option (Int32 × Hp)) (l0 : Nat) (l2 : Int32) (h : Hp) : Option (Int32 × Hp) := ck (isO (h) (l0) 12) (ck (isO (h) (zR (h) 1220 (l0)) 22) (ck (inR (l2) (zL (h) (zR (h) 1220 (l0)))) (ck (isO (h) (zR (h) 1222 (l0)) 22) (ck (inR (zE (h) (zR (h) 1220 (l0)) (l2).toNatClampNeg) (zL (h) (zR (h) 1222 (l0)))) (if (zE (h) (zR (h) 1222 (l0)) (zE (h) (zR (h) 1220 (l0)) (l2).toNatClampNeg).toNatClampNeg) = ((-1 : Int32)) then (ck (isO (h) (zR (h) 1221 (l0)) 22) (ck (inR (l2) (zL (h) (zR (h) 1221 (l0)))) (some (zE (h) (zR (h) 1221 (l0)) (l2).toNatClampNeg, h)))) else (bh (pE (h) (zR (h) 1220 (l0)) (l2).toNatClampNeg (zE (h) (zR (h) 1222 (l0)) (zE (h) (zR (h) 1220 (l0)) (l2).toNatClampNeg).toNatClampNeg)) (fun h44 => f_X11_read_218 K146 (l0) (l2) (h44))))))))
theorem f_X11_read_179_ok {G : Gd} {d : Nat} (K146 : Nat → Int32 → Hp → Option (Int32 × Hp)) (hj : 7 ≤ d) (hK146 : ∀ (l0 : Nat) (l2 : Int32) (L : List (Nat × Value)) (h : Hp) (o : (Int32 × Hp)), zlk L 0 = some (zrf (l0)) → zlk L 2 = some (.int (l2)) → K146 l0 l2 h = some o → Ev G M_X11_read d 146 L [] h (Ret Y_X11_read (some (.int o.1)) o.2)) : ∀ (l0 : Nat) (l2 : Int32) (L : List (Nat × Value)) (h : Hp) (o : (Int32 × Hp)), zlk L 0 = some (zrf (l0)) → zlk L 2 = some (.int (l2)) → f_X11_read_179 K146 l0 l2 h = some o → Ev G M_X11_read d 179 L [] h (Ret Y_X11_read (some (.int o.1)) o.2) := by
  intro l0 l2 L h o g0 g2 e
  unfold f_X11_read_179 at e
  refine g_ald_n d_X11_read_179 rfl g0 ?_
  replace e := ckd e
  obtain ⟨k38, e⟩ := e
  refine g_getR d_X11_read_180 (f := 1222) k38 fk_10_60 rfl rfl ?_
  refine g_ald_n d_X11_read_183 rfl g0 ?_
  refine g_getR d_X11_read_184 (f := 1220) k38 fk_10_54 rfl rfl ?_
  refine r_iload_n d_X11_read_187 rfl g2 ?_
  replace e := ckd e
  obtain ⟨k39, e⟩ := e
  replace e := ckd e
  obtain ⟨k40, e⟩ := e
  refine g_iald d_X11_read_188 k39 k40 rfl ?_
  replace e := ckd e
  obtain ⟨k41, e⟩ := e
  replace e := ckd e
  obtain ⟨k42, e⟩ := e
  refine g_iald d_X11_read_189 k41 k42 rfl ?_
  refine r_iconst d_X11_read_190 (v := (-1 : Int32)) (by decide +kernel) ?_
  refine r_icmp_ne d_X11_read_191 (tgt := 201) (by decide) (fun c43 => ?_) (fun c43 => ?_)
  · replace e := (if_neg c43).symm.trans e
    refine g_ald_n d_X11_read_201 rfl g0 ?_
    refine g_getR d_X11_read_202 (f := 1220) k38 fk_10_54 rfl rfl ?_
    refine r_iload_n d_X11_read_205 rfl g2 ?_
    refine g_ald_n d_X11_read_206 rfl g0 ?_
    refine g_getR d_X11_read_207 (f := 1222) k38 fk_10_60 rfl rfl ?_
    refine g_ald_n d_X11_read_210 rfl g0 ?_
    refine g_getR d_X11_read_211 (f := 1220) k38 fk_10_54 rfl rfl ?_
    refine r_iload_n d_X11_read_214 rfl g2 ?_
    refine g_iald d_X11_read_215 k39 k40 rfl ?_
    refine g_iald d_X11_read_216 k41 k42 rfl ?_
    refine g_iast d_X11_read_217 k39 k40 ?_
    replace e := bhd e
    obtain ⟨_, rfl, e⟩ := e
    exact f_X11_read_218_ok _ hj hK146 _ _ _ _ _ g0 g2 e
  · replace e := (if_pos c43).symm.trans e
    refine g_ald_n d_X11_read_194 rfl g0 ?_
    refine g_getR d_X11_read_195 (f := 1221) k38 fk_10_57 rfl rfl ?_
    refine r_iload_n d_X11_read_198 rfl g2 ?_
    replace e := ckd e
    obtain ⟨k45, e⟩ := e
    replace e := ckd e
    obtain ⟨k46, e⟩ := e
    refine g_iald d_X11_read_199 k45 k46 rfl ?_
    obtain rfl := Option.some.inj e
    exact g_iret d_X11_read_200 rfl rfl

def f_X11_read_146 : Nat → Nat → Int32 → Hp → Option (Int32 × Hp)
  | 0, _, _, _ => none
  | n + 1, l0, l2, h => ck (isO (h) (l0) 12) (if (zI (h) 1213 (l0)) ≤ (l2) then (some ((-1 : Int32), h)) else (ck (isO (h) (zR (h) 1214 (l0)) 22) (ck (inR (l2) (zL (h) (zR (h) 1214 (l0)))) (if (zE (h) (zR (h) 1214 (l0)) (l2).toNatClampNeg) = ((12 : Int32)) then (f_X11_read_179 (f_X11_read_146 n) (l0) (l2) (h)) else (if (zE (h) (zR (h) 1214 (l0)) (l2).toNatClampNeg) = ((13 : Int32)) then (f_X11_read_179 (f_X11_read_146 n) (l0) (l2) (h)) else (f_X11_read_218 (f_X11_read_146 n) (l0) (l2) (h)))))))
theorem f_X11_read_146_ok {G : Gd} {d : Nat} (hj : 7 ≤ d) : ∀ (n : Nat) (l0 : Nat) (l2 : Int32) (L : List (Nat × Value)) (h : Hp) (o : (Int32 × Hp)), zlk L 0 = some (zrf (l0)) → zlk L 2 = some (.int (l2)) → f_X11_read_146 n l0 l2 h = some o → Ev G M_X11_read d 146 L [] h (Ret Y_X11_read (some (.int o.1)) o.2) := by
  intro n
  induction n with
  | zero =>
    intro l0 l2 L h o g0 g2 e
    cases e
  | succ n ih =>
    intro l0 l2 L h o g0 g2 e
    unfold f_X11_read_146 at e
    refine r_iload_n d_X11_read_146 rfl g2 ?_
    refine g_ald_n d_X11_read_147 rfl g0 ?_
    replace e := ckd e
    obtain ⟨k26, e⟩ := e
    refine g_getI d_X11_read_148 (f := 1213) k26 fk_10_209 rfl rfl ?_
    refine r_icmp_ge d_X11_read_151 (tgt := 224) (by decide) (fun c27 => ?_) (fun c27 => ?_)
    · replace e := (if_pos c27).symm.trans e
      refine r_iconst d_X11_read_224 (v := (-1 : Int32)) (by decide +kernel) ?_
      obtain rfl := Option.some.inj e
      exact g_iret d_X11_read_225 rfl rfl
    · replace e := (if_neg c27).symm.trans e
      refine g_ald_n d_X11_read_154 rfl g0 ?_
      refine g_getR d_X11_read_155 (f := 1214) k26 fk_10_35 rfl rfl ?_
      refine r_iload_n d_X11_read_158 rfl g2 ?_
      replace e := ckd e
      obtain ⟨k28, e⟩ := e
      replace e := ckd e
      obtain ⟨k29, e⟩ := e
      refine g_iald d_X11_read_159 k28 k29 rfl ?_
      refine r_bipush d_X11_read_160 (v := (12 : Int32)) (by decide +kernel) ?_
      refine r_icmp_eq d_X11_read_162 (tgt := 179) (by decide) (fun c30 => ?_) (fun c30 => ?_)
      · replace e := (if_pos c30).symm.trans e
        exact f_X11_read_179_ok _ hj ih _ _ _ _ _ g0 g2 e
      · replace e := (if_neg c30).symm.trans e
        refine g_ald_n d_X11_read_165 rfl g0 ?_
        refine g_getR d_X11_read_166 (f := 1214) k26 fk_10_35 rfl rfl ?_
        refine r_iload_n d_X11_read_169 rfl g2 ?_
        refine g_iald d_X11_read_170 k28 k29 rfl ?_
        refine r_bipush d_X11_read_171 (v := (13 : Int32)) (by decide +kernel) ?_
        refine r_icmp_eq d_X11_read_173 (tgt := 179) (by decide) (fun c31 => ?_) (fun c31 => ?_)
        · replace e := (if_pos c31).symm.trans e
          exact f_X11_read_179_ok _ hj ih _ _ _ _ _ g0 g2 e
        · replace e := (if_neg c31).symm.trans e
          refine r_goto d_X11_read_176 (tgt := 218) (by decide) ?_
          exact f_X11_read_218_ok _ hj ih _ _ _ _ _ g0 g2 e

def f_X11_read_26 : Nat → Nat → Int32 → Hp → Option (Int32 × Hp)
  | 0, _, _, _ => none
  | n + 1, l0, l1, h => ck (isO (h) (l0) 12) (if (zI (h) 1204 (l0)) ≤ (zI (h) 1223 (l0)) then (f_X11_read_146 fz (l0) (l1) (h)) else (if ((zI (h) 1213 (l0)) - (l1)) = ((60 : Int32)) then (some (zI (h) 1223 (l0), h)) else ((f_X11_isDigit (l0) (h)).bind (fun q12 => if (q12.1) = (0) then (f_X11_read_119 (f_X11_read_26 n) (l0) (l1) (q12.2)) else (ck (isO (q12.2) (l0) 12) ((f_X11_see (l0) (q12.2)).bind (fun q14 => bh ((q14.1) - ((48 : Int32))) (fun x16 => ck (isO (q14.2) (l0) 12) (ck (isO (q14.2) (zR (q14.2) 1222 (l0)) 22) (ck (inR (x16) (zL (q14.2) (zR (q14.2) 1222 (l0)))) (if (zE (q14.2) (zR (q14.2) 1222 (l0)) (x16).toNatClampNeg) = ((-1 : Int32)) then (bh (pE (q14.2) (zR (q14.2) 1222 (l0)) (x16).toNatClampNeg ((zI (q14.2) 1213 (l0)) - (l1))) (fun h21 => bh (pI (h21) 1223 (l0) ((zI (h21) 1223 (l0)) + ((1 : Int32)))) (fun h22 => (f_X11_takes (l0) ((58 : Int32)) (h22)).bind (fun q23 => if (q23.1) = (0) then (ck (isO (q23.2) (l0) 12) (some (zI (q23.2) 1223 (l0), q23.2))) else (f_X11_read_119 (f_X11_read_26 n) (l0) (l1) (q23.2)))))) else (some (zI (q14.2) 1223 (l0), q14.2)))))))))))))
theorem f_X11_read_26_ok {G : Gd} {d : Nat} (hj : 7 ≤ d) : ∀ (n : Nat) (l0 : Nat) (l1 : Int32) (L : List (Nat × Value)) (h : Hp) (o : (Int32 × Hp)), zlk L 0 = some (zrf (l0)) → zlk L 1 = some (.int (l1)) → f_X11_read_26 n l0 l1 h = some o → Ev G M_X11_read d 26 L [] h (Ret Y_X11_read (some (.int o.1)) o.2) := by
  intro n
  induction n with
  | zero =>
    intro l0 l1 L h o g0 g1 e
    cases e
  | succ n ih =>
    intro l0 l1 L h o g0 g1 e
    unfold f_X11_read_26 at e
    refine g_ald_n d_X11_read_26 rfl g0 ?_
    replace e := ckd e
    obtain ⟨k9, e⟩ := e
    refine g_getI d_X11_read_27 (f := 1223) k9 fk_10_191 rfl rfl ?_
    refine g_ald_n d_X11_read_30 rfl g0 ?_
    refine g_getI d_X11_read_31 (f := 1204) k9 fk_10_186 rfl rfl ?_
    refine r_icmp_ge d_X11_read_34 (tgt := 144) (by decide) (fun c10 => ?_) (fun c10 => ?_)
    · replace e := (if_pos c10).symm.trans e
      refine r_iload_n d_X11_read_144 rfl g1 ?_
      refine s_istore_n d_X11_read_145 rfl (by decide) (fun L g2 gK => ?_)
      replace g0 := gK _ _ (by decide) (Or.inr (zrf_cat _)) g0
      exact f_X11_read_146_ok hj _ _ _ _ _ _ g0 g2 e
    · replace e := (if_neg c10).symm.trans e
      refine g_ald_n d_X11_read_37 rfl g0 ?_
      refine g_getI d_X11_read_38 (f := 1213) k9 fk_10_209 rfl rfl ?_
      refine r_iload_n d_X11_read_41 rfl g1 ?_
      refine r_isub d_X11_read_42 ?_
      refine r_bipush d_X11_read_43 (v := (60 : Int32)) (by decide +kernel) ?_
      refine r_icmp_ne d_X11_read_45 (tgt := 53) (by decide) (fun c11 => ?_) (fun c11 => ?_)
      · replace e := (if_neg c11).symm.trans e
        refine g_ald_n d_X11_read_53 rfl g0 ?_
        replace e := bd e
        obtain ⟨q12, eq12, e⟩ := e
        refine g_callV d_X11_read_54 vk_10_206 (as := []) rfl k9 rfl (by simp [zrf_cat, cat_int, cat_long]) (j := 2) (by omega) (c_X11_isDigit (by omega) eq12) ?_
        refine r_if_eq d_X11_read_57 (tgt := 119) (by decide) (fun c13 => ?_) (fun c13 => ?_)
        · replace e := (if_pos c13).symm.trans e
          exact f_X11_read_119_ok _ hj ih _ _ _ _ _ g0 g1 e
        · replace e := (if_neg c13).symm.trans e
          refine g_ald_n d_X11_read_60 rfl g0 ?_
          replace e := ckd e
          obtain ⟨k15, e⟩ := e
          replace e := bd e
          obtain ⟨q14, eq14, e⟩ := e
          refine g_callV d_X11_read_61 vk_10_194 (as := []) rfl k15 rfl (by simp [zrf_cat, cat_int, cat_long]) (j := 1) (by omega) (c_X11_see (by omega) eq14) ?_
          refine r_bipush d_X11_read_64 (v := (48 : Int32)) (by decide +kernel) ?_
          refine r_isub d_X11_read_66 ?_
          replace e := bhd e
          obtain ⟨_, rfl, e⟩ := e
          refine s_istore_n d_X11_read_67 rfl (by decide) (fun L g2 gK => ?_)
          replace g0 := gK _ _ (by decide) (Or.inr (zrf_cat _)) g0
          replace g1 := gK _ _ (by decide) (Or.inr rfl) g1
          refine g_ald_n d_X11_read_68 rfl g0 ?_
          replace e := ckd e
          obtain ⟨k17, e⟩ := e
          refine g_getR d_X11_read_69 (f := 1222) k17 fk_10_60 rfl rfl ?_
          refine r_iload_n d_X11_read_72 rfl g2 ?_
          replace e := ckd e
          obtain ⟨k18, e⟩ := e
          replace e := ckd e
          obtain ⟨k19, e⟩ := e
          refine g_iald d_X11_read_73 k18 k19 rfl ?_
          refine r_iconst d_X11_read_74 (v := (-1 : Int32)) (by decide +kernel) ?_
          refine r_icmp_eq d_X11_read_75 (tgt := 83) (by decide) (fun c20 => ?_) (fun c20 => ?_)
          · replace e := (if_pos c20).symm.trans e
            refine g_ald_n d_X11_read_83 rfl g0 ?_
            refine g_getR d_X11_read_84 (f := 1222) k17 fk_10_60 rfl rfl ?_
            refine r_iload_n d_X11_read_87 rfl g2 ?_
            refine g_ald_n d_X11_read_88 rfl g0 ?_
            refine g_getI d_X11_read_89 (f := 1213) k17 fk_10_209 rfl rfl ?_
            refine r_iload_n d_X11_read_92 rfl g1 ?_
            refine r_isub d_X11_read_93 ?_
            refine g_iast d_X11_read_94 k18 k19 ?_
            replace e := bhd e
            obtain ⟨_, rfl, e⟩ := e
            refine g_ald_n d_X11_read_95 rfl g0 ?_
            refine r_dup d_X11_read_96 (zrf_cat _) ?_
            refine g_getI d_X11_read_97 (f := 1223) (tO_pE k17) fk_10_191 rfl rfl ?_
            refine r_iconst d_X11_read_100 (v := (1 : Int32)) (by decide +kernel) ?_
            refine r_iadd d_X11_read_101 ?_
            refine g_putI d_X11_read_102 (f := 1223) (tO_pE k17) fk_10_191 rfl (Or.inl rfl) ⟨rfl, rfl⟩ ?_
            replace e := bhd e
            obtain ⟨_, rfl, e⟩ := e
            refine g_ald_n d_X11_read_105 rfl g0 ?_
            refine r_bipush d_X11_read_106 (v := (58 : Int32)) (by decide +kernel) ?_
            replace e := bd e
            obtain ⟨q23, eq23, e⟩ := e
            refine g_callV d_X11_read_108 vk_10_202 (as := [_]) rfl (tO_pI (tO_pE k17)) rfl (by simp [zrf_cat, cat_int, cat_long]) (j := 2) (by omega) (c_X11_takes (by omega) eq23) ?_
            refine r_if_ne d_X11_read_111 (tgt := 119) (by decide) (fun c24 => ?_) (fun c24 => ?_)
            · replace e := (if_neg c24).symm.trans e
              exact f_X11_read_119_ok _ hj ih _ _ _ _ _ g0 g1 e
            · replace e := (if_pos c24).symm.trans e
              refine g_ald_n d_X11_read_114 rfl g0 ?_
              replace e := ckd e
              obtain ⟨k25, e⟩ := e
              refine g_getI d_X11_read_115 (f := 1223) k25 fk_10_191 rfl rfl ?_
              obtain rfl := Option.some.inj e
              exact g_iret d_X11_read_118 rfl rfl
          · replace e := (if_neg c20).symm.trans e
            refine g_ald_n d_X11_read_78 rfl g0 ?_
            refine g_getI d_X11_read_79 (f := 1223) k17 fk_10_191 rfl rfl ?_
            obtain rfl := Option.some.inj e
            exact g_iret d_X11_read_82 rfl rfl
      · replace e := (if_pos c11).symm.trans e
        refine g_ald_n d_X11_read_48 rfl g0 ?_
        refine g_getI d_X11_read_49 (f := 1223) k9 fk_10_191 rfl rfl ?_
        obtain rfl := Option.some.inj e
        exact g_iret d_X11_read_52 rfl rfl

def f_X11_read_7 : Nat → Nat → Int32 → Int32 → Hp → Option (Int32 × Hp)
  | 0, _, _, _, _ => none
  | n + 1, l0, l1, l2, h => if ((10 : Int32)) ≤ (l2) then (f_X11_read_26 fz (l0) (l1) (h)) else (ck (isO (h) (l0) 12) (ck (isO (h) (zR (h) 1222 (l0)) 22) (ck (inR (l2) (zL (h) (zR (h) 1222 (l0)))) (bh (pE (h) (zR (h) 1222 (l0)) (l2).toNatClampNeg ((-1 : Int32))) (fun h7 => bh ((l2) + (1 : Int32)) (fun x8 => f_X11_read_7 n (l0) (l1) (x8) (h7)))))))
theorem f_X11_read_7_ok {G : Gd} {d : Nat} (hj : 7 ≤ d) : ∀ (n : Nat) (l0 : Nat) (l1 : Int32) (l2 : Int32) (L : List (Nat × Value)) (h : Hp) (o : (Int32 × Hp)), zlk L 0 = some (zrf (l0)) → zlk L 1 = some (.int (l1)) → zlk L 2 = some (.int (l2)) → f_X11_read_7 n l0 l1 l2 h = some o → Ev G M_X11_read d 7 L [] h (Ret Y_X11_read (some (.int o.1)) o.2) := by
  intro n
  induction n with
  | zero =>
    intro l0 l1 l2 L h o g0 g1 g2 e
    cases e
  | succ n ih =>
    intro l0 l1 l2 L h o g0 g1 g2 e
    unfold f_X11_read_7 at e
    refine r_iload_n d_X11_read_7 rfl g2 ?_
    refine r_bipush d_X11_read_8 (v := (10 : Int32)) (by decide +kernel) ?_
    refine r_icmp_ge d_X11_read_10 (tgt := 26) (by decide) (fun c3 => ?_) (fun c3 => ?_)
    · replace e := (if_pos c3).symm.trans e
      exact f_X11_read_26_ok hj _ _ _ _ _ _ g0 g1 e
    · replace e := (if_neg c3).symm.trans e
      refine g_ald_n d_X11_read_13 rfl g0 ?_
      replace e := ckd e
      obtain ⟨k4, e⟩ := e
      refine g_getR d_X11_read_14 (f := 1222) k4 fk_10_60 rfl rfl ?_
      refine r_iload_n d_X11_read_17 rfl g2 ?_
      refine r_iconst d_X11_read_18 (v := (-1 : Int32)) (by decide +kernel) ?_
      replace e := ckd e
      obtain ⟨k5, e⟩ := e
      replace e := ckd e
      obtain ⟨k6, e⟩ := e
      refine g_iast d_X11_read_19 k5 k6 ?_
      replace e := bhd e
      obtain ⟨_, rfl, e⟩ := e
      replace e := bhd e
      obtain ⟨_, rfl, e⟩ := e
      refine s_iinc d_X11_read_20 g2 (w := (1 : Int32)) (by decide +kernel) (by decide) (fun L g2 gK => ?_)
      replace g0 := gK _ _ (by decide) (Or.inr (zrf_cat _)) g0
      replace g1 := gK _ _ (by decide) (Or.inr rfl) g1
      refine r_goto d_X11_read_23 (tgt := 7) (by decide) ?_
      exact ih _ _ _ _ _ _ g0 g1 g2 e

def f_X11_read (l0 : Nat) (l1 : Int32) (h : Hp) : Option (Int32 × Hp) := ck (isO (h) (l0) 12) (bh (pI (h) 1223 (l0) ((0 : Int32))) (fun h2 => f_X11_read_7 fz (l0) (l1) ((0 : Int32)) (h2)))
theorem f_X11_read_ok {G : Gd} {d : Nat} (hj : 7 ≤ d) : ∀ (l0 : Nat) (l1 : Int32) (L : List (Nat × Value)) (h : Hp) (o : (Int32 × Hp)), zlk L 0 = some (zrf (l0)) → zlk L 1 = some (.int (l1)) → f_X11_read l0 l1 h = some o → Ev G M_X11_read d 0 L [] h (Ret Y_X11_read (some (.int o.1)) o.2) := by
  intro l0 l1 L h o g0 g1 e
  unfold f_X11_read at e
  refine g_ald_n d_X11_read_0 rfl g0 ?_
  refine r_iconst d_X11_read_1 (v := (0 : Int32)) (by decide +kernel) ?_
  replace e := ckd e
  obtain ⟨k1, e⟩ := e
  refine g_putI d_X11_read_2 (f := 1223) k1 fk_10_191 rfl (Or.inl rfl) ⟨rfl, rfl⟩ ?_
  replace e := bhd e
  obtain ⟨_, rfl, e⟩ := e
  refine r_iconst d_X11_read_5 (v := (0 : Int32)) (by decide +kernel) ?_
  refine s_istore_n d_X11_read_6 rfl (by decide) (fun L g2 gK => ?_)
  replace g0 := gK _ _ (by decide) (Or.inr (zrf_cat _)) g0
  replace g1 := gK _ _ (by decide) (Or.inr rfl) g1
  exact f_X11_read_7_ok hj _ _ _ _ _ _ _ g0 g1 g2 e

theorem c_X11_read {G : Gd} {j : Nat} (hj : 7 ≤ j) {l0 : Nat} {l1 : Int32} {h : Hp} {o : (Int32 × Hp)} (e : f_X11_read l0 l1 h = some o) : Cal G j Y_X11_read [zrf (l0), .int (l1)] h (some (.int o.1)) o.2 := Cal.of (n := 0) (I := false) (by first | exact Or.inl (by decide +kernel) | exact Or.inr (by decide +kernel)) (by decide) (by simp [lg_sl, zrf_cat, cat_int, cat_long]) (f_X11_read_ok hj _ _ _ h o (by simp [lv_args, zlk, zrf_cat, cat_int, cat_long]) (by simp [lv_args, zlk, zrf_cat, cat_int, cat_long]) e)
theorem sk_10_230 : Sk "TaskWeaveModel" 230 2 Y_X11_in := ⟨yk_X11_in, by decide +kernel, by decide +kernel⟩
theorem vk_10_234 : Vk "TaskWeaveModel" 234 1 12 Y_X11_read := ⟨yk_X11_read, by decide +kernel, by decide +kernel, by decide +kernel, by decide⟩
theorem vk_10_238 : Vk "TaskWeaveModel" 238 1 12 Y_X11_raise := ⟨yk_X11_raise, by decide +kernel, by decide +kernel, by decide +kernel, by decide⟩
theorem fk_10_241 : Fk "TaskWeaveModel" 241 1206 := ⟨by decide, by decide, by decide +kernel⟩
def f_X11_program_26 (s0 : Nat) (s1 : Int32) (l0 : Nat) (l1 : Int32) (l2 : Int32) (l3 : Int32) (h : Hp) : Option (Int32 × Hp) := ck (isO (h) (s0) 12) (bh (pI (h) 1205 (s0) (s1)) (fun h8 => ck (isO (h8) (l0) 12) (bh (pI (h8) 1204 (l0) ((0 : Int32))) (fun h10 => if (l3) = (0) then (bh (pI (h10) 1213 (l0) (l2)) (fun h12 => if (l3) = (0) then ((f_X11_raise (l0) ((2 : Int32)) (h12)).bind (fun q14 => some (q14.1, q14.2))) else ((f_X11_raise (l0) ((1 : Int32)) (h12)).bind (fun q15 => some (q15.1, q15.2))))) else (if (zI (h10) 1205 (l0)) = ((-1 : Int32)) then (bh (pI (h10) 1200 (l0) ((0 : Int32))) (fun h17 => ck (isO (h17) (zR (h17) 1207 (l0)) 22) (ck (inR (zI (h17) 1206 (l0)) (zL (h17) (zR (h17) 1207 (l0)))) (bh (pE (h17) (zR (h17) 1207 (l0)) (zI (h17) 1206 (l0)).toNatClampNeg (l1)) (fun h20 => ck (isO (h20) (zR (h20) 1212 (l0)) 22) (ck (inR (l1) (zL (h20) (zR (h20) 1212 (l0)))) (ck (isO (h20) (zR (h20) 1208 (l0)) 22) (ck (inR (zI (h20) 1206 (l0)) (zL (h20) (zR (h20) 1208 (l0)))) (bh (pE (h20) (zR (h20) 1208 (l0)) (zI (h20) 1206 (l0)).toNatClampNeg (zE (h20) (zR (h20) 1212 (l0)) (l1).toNatClampNeg)) (fun h25 => ck (isO (h25) (zR (h25) 1209 (l0)) 22) (ck (inR (zI (h25) 1206 (l0)) (zL (h25) (zR (h25) 1209 (l0)))) (bh (pE (h25) (zR (h25) 1209 (l0)) (zI (h25) 1206 (l0)).toNatClampNeg (l2)) (fun h28 => ck (isO (h28) (zR (h28) 1210 (l0)) 22) (ck (inR (zI (h28) 1206 (l0)) (zL (h28) (zR (h28) 1210 (l0)))) (bh (pE (h28) (zR (h28) 1210 (l0)) (zI (h28) 1206 (l0)).toNatClampNeg ((zI (h28) 1213 (l0)) - (l2))) (fun h31 => ck (isO (h31) (zR (h31) 1211 (l0)) 22) (ck (inR (l1) (zL (h31) (zR (h31) 1211 (l0)))) (bh (pE (h31) (zR (h31) 1211 (l0)) (l1).toNatClampNeg (zI (h31) 1206 (l0))) (fun h34 => ck (isO (h34) (zR (h34) 1212 (l0)) 22) (ck (inR (l1) (zL (h34) (zR (h34) 1212 (l0)))) (bh (pE (h34) (zR (h34) 1212 (l0)) (l1).toNatClampNeg ((zE (h34) (zR (h34) 1212 (l0)) (l1).toNatClampNeg) + ((1 : Int32)))) (fun h37 => bh (pI (h37) 1206 (l0) ((zI (h37) 1206 (l0)) + ((1 : Int32)))) (fun h38 => some ((zI (h38) 1213 (l0)) - (l2), h38)))))))))))))))))))))))) else (bh (pI (h10) 1213 (l0) (l2)) (fun h39 => if (l3) = (0) then ((f_X11_raise (l0) ((2 : Int32)) (h39)).bind (fun q41 => some (q41.1, q41.2))) else ((f_X11_raise (l0) ((1 : Int32)) (h39)).bind (fun q42 => some (q42.1, q42.2))))))))))
theorem f_X11_program_26_ok {G : Gd} {d : Nat} (hj : 8 ≤ d) : ∀ (s0 : Nat) (s1 : Int32) (l0 : Nat) (l1 : Int32) (l2 : Int32) (l3 : Int32) (L : List (Nat × Value)) (h : Hp) (o : (Int32 × Hp)), zlk L 0 = some (zrf (l0)) → zlk L 1 = some (.int (l1)) → zlk L 2 = some (.int (l2)) → zlk L 3 = some (.int (l3)) → f_X11_program_26 s0 s1 l0 l1 l2 l3 h = some o → Ev G M_X11_program d 26 L [.int (s1), zrf (s0)] h (Ret Y_X11_program (some (.int o.1)) o.2) := by
  intro s0 s1 l0 l1 l2 l3 L h o g0 g1 g2 g3 e
  unfold f_X11_program_26 at e
  replace e := ckd e
  obtain ⟨k7, e⟩ := e
  refine g_putI d_X11_program_26 (f := 1205) k7 fk_10_13 rfl (Or.inl rfl) ⟨rfl, rfl⟩ ?_
  replace e := bhd e
  obtain ⟨_, rfl, e⟩ := e
  refine g_ald_n d_X11_program_29 rfl g0 ?_
  refine r_iconst d_X11_program_30 (v := (0 : Int32)) (by decide +kernel) ?_
  replace e := ckd e
  obtain ⟨k9, e⟩ := e
  refine g_putI d_X11_program_31 (f := 1204) k9 fk_10_186 rfl (Or.inl rfl) ⟨rfl, rfl⟩ ?_
  replace e := bhd e
  obtain ⟨_, rfl, e⟩ := e
  refine r_iload_n d_X11_program_34 rfl g3 ?_
  refine r_if_eq d_X11_program_35 (tgt := 46) (by decide) (fun c11 => ?_) (fun c11 => ?_)
  · replace e := (if_pos c11).symm.trans e
    refine g_ald_n d_X11_program_46 rfl g0 ?_
    refine r_iload_n d_X11_program_47 rfl g2 ?_
    refine g_putI d_X11_program_48 (f := 1213) (tO_pI k9) fk_10_209 rfl (Or.inl rfl) ⟨rfl, rfl⟩ ?_
    replace e := bhd e
    obtain ⟨_, rfl, e⟩ := e
    refine g_ald_n d_X11_program_51 rfl g0 ?_
    refine r_iload_n d_X11_program_52 rfl g3 ?_
    refine r_if_eq d_X11_program_53 (tgt := 60) (by decide) (fun c13 => ?_) (fun c13 => ?_)
    · replace e := (if_pos c13).symm.trans e
      refine r_iconst d_X11_program_60 (v := (2 : Int32)) (by decide +kernel) ?_
      replace e := bd e
      obtain ⟨q14, eq14, e⟩ := e
      refine g_callV d_X11_program_61 vk_10_238 (as := [_]) rfl (tO_pI (tO_pI k9)) rfl (by simp [zrf_cat, cat_int, cat_long]) (j := 1) (by omega) (c_X11_raise (by omega) eq14) ?_
      obtain rfl := Option.some.inj e
      exact g_iret d_X11_program_64 rfl rfl
    · replace e := (if_neg c13).symm.trans e
      refine r_iconst d_X11_program_56 (v := (1 : Int32)) (by decide +kernel) ?_
      refine r_goto d_X11_program_57 (tgt := 61) (by decide) ?_
      replace e := bd e
      obtain ⟨q15, eq15, e⟩ := e
      refine g_callV d_X11_program_61 vk_10_238 (as := [_]) rfl (tO_pI (tO_pI k9)) rfl (by simp [zrf_cat, cat_int, cat_long]) (j := 1) (by omega) (c_X11_raise (by omega) eq15) ?_
      obtain rfl := Option.some.inj e
      exact g_iret d_X11_program_64 rfl rfl
  · replace e := (if_neg c11).symm.trans e
    refine g_ald_n d_X11_program_38 rfl g0 ?_
    refine g_getI d_X11_program_39 (f := 1205) (tO_pI k9) fk_10_13 rfl rfl ?_
    refine r_iconst d_X11_program_42 (v := (-1 : Int32)) (by decide +kernel) ?_
    refine r_icmp_eq d_X11_program_43 (tgt := 65) (by decide) (fun c16 => ?_) (fun c16 => ?_)
    · replace e := (if_pos c16).symm.trans e
      refine g_ald_n d_X11_program_65 rfl g0 ?_
      refine r_iconst d_X11_program_66 (v := (0 : Int32)) (by decide +kernel) ?_
      refine g_putI d_X11_program_67 (f := 1200) (tO_pI k9) fk_10_183 rfl (Or.inl rfl) ⟨rfl, rfl⟩ ?_
      replace e := bhd e
      obtain ⟨_, rfl, e⟩ := e
      refine g_ald_n d_X11_program_70 rfl g0 ?_
      refine g_getR d_X11_program_71 (f := 1207) (tO_pI (tO_pI k9)) fk_10_17 rfl rfl ?_
      refine g_ald_n d_X11_program_74 rfl g0 ?_
      refine g_getI d_X11_program_75 (f := 1206) (tO_pI (tO_pI k9)) fk_10_241 rfl rfl ?_
      refine r_iload_n d_X11_program_78 rfl g1 ?_
      replace e := ckd e
      obtain ⟨k18, e⟩ := e
      replace e := ckd e
      obtain ⟨k19, e⟩ := e
      refine g_iast d_X11_program_79 k18 k19 ?_
      replace e := bhd e
      obtain ⟨_, rfl, e⟩ := e
      refine g_ald_n d_X11_program_80 rfl g0 ?_
      refine g_getR d_X11_program_81 (f := 1208) (tO_pE (tO_pI (tO_pI k9))) fk_10_20 rfl rfl ?_
      refine g_ald_n d_X11_program_84 rfl g0 ?_
      refine g_getI d_X11_program_85 (f := 1206) (tO_pE (tO_pI (tO_pI k9))) fk_10_241 rfl rfl ?_
      refine g_ald_n d_X11_program_88 rfl g0 ?_
      refine g_getR d_X11_program_89 (f := 1212) (tO_pE (tO_pI (tO_pI k9))) fk_10_32 rfl rfl ?_
      refine r_iload_n d_X11_program_92 rfl g1 ?_
      replace e := ckd e
      obtain ⟨k21, e⟩ := e
      replace e := ckd e
      obtain ⟨k22, e⟩ := e
      refine g_iald d_X11_program_93 k21 k22 rfl ?_
      replace e := ckd e
      obtain ⟨k23, e⟩ := e
      replace e := ckd e
      obtain ⟨k24, e⟩ := e
      refine g_iast d_X11_program_94 k23 k24 ?_
      replace e := bhd e
      obtain ⟨_, rfl, e⟩ := e
      refine g_ald_n d_X11_program_95 rfl g0 ?_
      refine g_getR d_X11_program_96 (f := 1209) (tO_pE (tO_pE (tO_pI (tO_pI k9)))) fk_10_23 rfl rfl ?_
      refine g_ald_n d_X11_program_99 rfl g0 ?_
      refine g_getI d_X11_program_100 (f := 1206) (tO_pE (tO_pE (tO_pI (tO_pI k9)))) fk_10_241 rfl rfl ?_
      refine r_iload_n d_X11_program_103 rfl g2 ?_
      replace e := ckd e
      obtain ⟨k26, e⟩ := e
      replace e := ckd e
      obtain ⟨k27, e⟩ := e
      refine g_iast d_X11_program_104 k26 k27 ?_
      replace e := bhd e
      obtain ⟨_, rfl, e⟩ := e
      refine g_ald_n d_X11_program_105 rfl g0 ?_
      refine g_getR d_X11_program_106 (f := 1210) (tO_pE (tO_pE (tO_pE (tO_pI (tO_pI k9))))) fk_10_26 rfl rfl ?_
      refine g_ald_n d_X11_program_109 rfl g0 ?_
      refine g_getI d_X11_program_110 (f := 1206) (tO_pE (tO_pE (tO_pE (tO_pI (tO_pI k9))))) fk_10_241 rfl rfl ?_
      refine g_ald_n d_X11_program_113 rfl g0 ?_
      refine g_getI d_X11_program_114 (f := 1213) (tO_pE (tO_pE (tO_pE (tO_pI (tO_pI k9))))) fk_10_209 rfl rfl ?_
      refine r_iload_n d_X11_program_117 rfl g2 ?_
      refine r_isub d_X11_program_118 ?_
      replace e := ckd e
      obtain ⟨k29, e⟩ := e
      replace e := ckd e
      obtain ⟨k30, e⟩ := e
      refine g_iast d_X11_program_119 k29 k30 ?_
      replace e := bhd e
      obtain ⟨_, rfl, e⟩ := e
      refine g_ald_n d_X11_program_120 rfl g0 ?_
      refine g_getR d_X11_program_121 (f := 1211) (tO_pE (tO_pE (tO_pE (tO_pE (tO_pI (tO_pI k9)))))) fk_10_29 rfl rfl ?_
      refine r_iload_n d_X11_program_124 rfl g1 ?_
      refine g_ald_n d_X11_program_125 rfl g0 ?_
      refine g_getI d_X11_program_126 (f := 1206) (tO_pE (tO_pE (tO_pE (tO_pE (tO_pI (tO_pI k9)))))) fk_10_241 rfl rfl ?_
      replace e := ckd e
      obtain ⟨k32, e⟩ := e
      replace e := ckd e
      obtain ⟨k33, e⟩ := e
      refine g_iast d_X11_program_129 k32 k33 ?_
      replace e := bhd e
      obtain ⟨_, rfl, e⟩ := e
      refine g_ald_n d_X11_program_130 rfl g0 ?_
      refine g_getR d_X11_program_131 (f := 1212) (tO_pE (tO_pE (tO_pE (tO_pE (tO_pE (tO_pI (tO_pI k9))))))) fk_10_32 rfl rfl ?_
      refine r_iload_n d_X11_program_134 rfl g1 ?_
      refine r_dup2 d_X11_program_135 rfl (zrf_cat _) ?_
      replace e := ckd e
      obtain ⟨k35, e⟩ := e
      replace e := ckd e
      obtain ⟨k36, e⟩ := e
      refine g_iald d_X11_program_136 k35 k36 rfl ?_
      refine r_iconst d_X11_program_137 (v := (1 : Int32)) (by decide +kernel) ?_
      refine r_iadd d_X11_program_138 ?_
      refine g_iast d_X11_program_139 k35 k36 ?_
      replace e := bhd e
      obtain ⟨_, rfl, e⟩ := e
      refine g_ald_n d_X11_program_140 rfl g0 ?_
      refine r_dup d_X11_program_141 (zrf_cat _) ?_
      refine g_getI d_X11_program_142 (f := 1206) (tO_pE (tO_pE (tO_pE (tO_pE (tO_pE (tO_pE (tO_pI (tO_pI k9)))))))) fk_10_241 rfl rfl ?_
      refine r_iconst d_X11_program_145 (v := (1 : Int32)) (by decide +kernel) ?_
      refine r_iadd d_X11_program_146 ?_
      refine g_putI d_X11_program_147 (f := 1206) (tO_pE (tO_pE (tO_pE (tO_pE (tO_pE (tO_pE (tO_pI (tO_pI k9)))))))) fk_10_241 rfl (Or.inl rfl) ⟨rfl, rfl⟩ ?_
      replace e := bhd e
      obtain ⟨_, rfl, e⟩ := e
      refine g_ald_n d_X11_program_150 rfl g0 ?_
      refine g_getI d_X11_program_151 (f := 1213) (tO_pI (tO_pE (tO_pE (tO_pE (tO_pE (tO_pE (tO_pE (tO_pI (tO_pI k9))))))))) fk_10_209 rfl rfl ?_
      refine r_iload_n d_X11_program_154 rfl g2 ?_
      refine r_isub d_X11_program_155 ?_
      obtain rfl := Option.some.inj e
      exact g_iret d_X11_program_156 rfl rfl
    · replace e := (if_neg c16).symm.trans e
      refine g_ald_n d_X11_program_46 rfl g0 ?_
      refine r_iload_n d_X11_program_47 rfl g2 ?_
      refine g_putI d_X11_program_48 (f := 1213) (tO_pI k9) fk_10_209 rfl (Or.inl rfl) ⟨rfl, rfl⟩ ?_
      replace e := bhd e
      obtain ⟨_, rfl, e⟩ := e
      refine g_ald_n d_X11_program_51 rfl g0 ?_
      refine r_iload_n d_X11_program_52 rfl g3 ?_
      refine r_if_eq d_X11_program_53 (tgt := 60) (by decide) (fun c40 => ?_) (fun c40 => ?_)
      · replace e := (if_pos c40).symm.trans e
        refine r_iconst d_X11_program_60 (v := (2 : Int32)) (by decide +kernel) ?_
        replace e := bd e
        obtain ⟨q41, eq41, e⟩ := e
        refine g_callV d_X11_program_61 vk_10_238 (as := [_]) rfl (tO_pI (tO_pI k9)) rfl (by simp [zrf_cat, cat_int, cat_long]) (j := 1) (by omega) (c_X11_raise (by omega) eq41) ?_
        obtain rfl := Option.some.inj e
        exact g_iret d_X11_program_64 rfl rfl
      · replace e := (if_neg c40).symm.trans e
        refine r_iconst d_X11_program_56 (v := (1 : Int32)) (by decide +kernel) ?_
        refine r_goto d_X11_program_57 (tgt := 61) (by decide) ?_
        replace e := bd e
        obtain ⟨q42, eq42, e⟩ := e
        refine g_callV d_X11_program_61 vk_10_238 (as := [_]) rfl (tO_pI (tO_pI k9)) rfl (by simp [zrf_cat, cat_int, cat_long]) (j := 1) (by omega) (c_X11_raise (by omega) eq42) ?_
        obtain rfl := Option.some.inj e
        exact g_iret d_X11_program_64 rfl rfl

def f_X11_program (l0 : Nat) (l1 : Int32) (h : Hp) : Option (Int32 × Hp) := ck (isO (h) (l0) 12) (bh (zI (h) 1213 (l0)) (fun x2 => (f_X11_in (l1) ((8 : Int32)) (h)).bind (fun q3 => if (q3.1) = (0) then (f_X11_program_26 (l0) ((-1 : Int32)) (l0) (l1) (x2) (q3.1) (q3.2)) else (ck (isO (q3.2) (l0) 12) ((f_X11_read (l0) (x2) (q3.2)).bind (fun q5 => f_X11_program_26 (l0) (q5.1) (l0) (l1) (x2) (q3.1) (q5.2)))))))
theorem f_X11_program_ok {G : Gd} {d : Nat} (hj : 8 ≤ d) : ∀ (l0 : Nat) (l1 : Int32) (L : List (Nat × Value)) (h : Hp) (o : (Int32 × Hp)), zlk L 0 = some (zrf (l0)) → zlk L 1 = some (.int (l1)) → f_X11_program l0 l1 h = some o → Ev G M_X11_program d 0 L [] h (Ret Y_X11_program (some (.int o.1)) o.2) := by
  intro l0 l1 L h o g0 g1 e
  unfold f_X11_program at e
  refine g_ald_n d_X11_program_0 rfl g0 ?_
  replace e := ckd e
  obtain ⟨k1, e⟩ := e
  refine g_getI d_X11_program_1 (f := 1213) k1 fk_10_209 rfl rfl ?_
  replace e := bhd e
  obtain ⟨_, rfl, e⟩ := e
  refine s_istore_n d_X11_program_4 rfl (by decide) (fun L g2 gK => ?_)
  replace g0 := gK _ _ (by decide) (Or.inr (zrf_cat _)) g0
  replace g1 := gK _ _ (by decide) (Or.inr rfl) g1
  refine r_iload_n d_X11_program_5 rfl g1 ?_
  refine r_bipush d_X11_program_6 (v := (8 : Int32)) (by decide +kernel) ?_
  replace e := bd e
  obtain ⟨q3, eq3, e⟩ := e
  refine g_callS d_X11_program_8 sk_10_230 (as := [_, _]) rfl rfl (by simp [zrf_cat, cat_int, cat_long]) (j := 1) (by omega) (c_X11_in (by omega) eq3) ?_
  refine s_istore_n d_X11_program_11 rfl (by decide) (fun L g3 gK => ?_)
  replace g0 := gK _ _ (by decide) (Or.inr (zrf_cat _)) g0
  replace g1 := gK _ _ (by decide) (Or.inr rfl) g1
  replace g2 := gK _ _ (by decide) (Or.inr rfl) g2
  refine g_ald_n d_X11_program_12 rfl g0 ?_
  refine r_iload_n d_X11_program_13 rfl g3 ?_
  refine r_if_eq d_X11_program_14 (tgt := 25) (by decide) (fun c4 => ?_) (fun c4 => ?_)
  · replace e := (if_pos c4).symm.trans e
    refine r_iconst d_X11_program_25 (v := (-1 : Int32)) (by decide +kernel) ?_
    exact f_X11_program_26_ok hj _ _ _ _ _ _ _ _ _ g0 g1 g2 g3 e
  · replace e := (if_neg c4).symm.trans e
    refine g_ald_n d_X11_program_17 rfl g0 ?_
    refine r_iload_n d_X11_program_18 rfl g2 ?_
    replace e := ckd e
    obtain ⟨k6, e⟩ := e
    replace e := bd e
    obtain ⟨q5, eq5, e⟩ := e
    refine g_callV d_X11_program_19 vk_10_234 (as := [_]) rfl k6 rfl (by simp [zrf_cat, cat_int, cat_long]) (j := 7) (by omega) (c_X11_read (by omega) eq5) ?_
    refine r_goto d_X11_program_22 (tgt := 26) (by decide) ?_
    exact f_X11_program_26_ok hj _ _ _ _ _ _ _ _ _ g0 g1 g2 g3 e

theorem c_X11_program {G : Gd} {j : Nat} (hj : 8 ≤ j) {l0 : Nat} {l1 : Int32} {h : Hp} {o : (Int32 × Hp)} (e : f_X11_program l0 l1 h = some o) : Cal G j Y_X11_program [zrf (l0), .int (l1)] h (some (.int o.1)) o.2 := Cal.of (n := 0) (I := false) (by first | exact Or.inl (by decide +kernel) | exact Or.inr (by decide +kernel)) (by decide) (by simp [lg_sl, zrf_cat, cat_int, cat_long]) (f_X11_program_ok hj _ _ _ h o (by simp [lv_args, zlk, zrf_cat, cat_int, cat_long]) (by simp [lv_args, zlk, zrf_cat, cat_int, cat_long]) e)
def f_X11_fault (l0 : Nat) (h : Hp) : Option (Int32 × Hp) := ck (isO (h) (l0) 12) (bh (pI (h) 1200 (l0) ((0 : Int32))) (fun h2 => some (zI (h2) 1205 (l0), h2)))
theorem f_X11_fault_ok {G : Gd} {d : Nat} (hj : 1 ≤ d) : ∀ (l0 : Nat) (L : List (Nat × Value)) (h : Hp) (o : (Int32 × Hp)), zlk L 0 = some (zrf (l0)) → f_X11_fault l0 h = some o → Ev G M_X11_fault d 0 L [] h (Ret Y_X11_fault (some (.int o.1)) o.2) := by
  intro l0 L h o g0 e
  unfold f_X11_fault at e
  refine g_ald_n d_X11_fault_0 rfl g0 ?_
  refine r_iconst d_X11_fault_1 (v := (0 : Int32)) (by decide +kernel) ?_
  replace e := ckd e
  obtain ⟨k1, e⟩ := e
  refine g_putI d_X11_fault_2 (f := 1200) k1 fk_10_183 rfl (Or.inl rfl) ⟨rfl, rfl⟩ ?_
  replace e := bhd e
  obtain ⟨_, rfl, e⟩ := e
  refine g_ald_n d_X11_fault_5 rfl g0 ?_
  refine g_getI d_X11_fault_6 (f := 1205) (tO_pI k1) fk_10_13 rfl rfl ?_
  obtain rfl := Option.some.inj e
  exact g_iret d_X11_fault_9 rfl rfl

theorem c_X11_fault {G : Gd} {j : Nat} (hj : 1 ≤ j) {l0 : Nat} {h : Hp} {o : (Int32 × Hp)} (e : f_X11_fault l0 h = some o) : Cal G j Y_X11_fault [zrf (l0)] h (some (.int o.1)) o.2 := Cal.of (n := 0) (I := false) (by first | exact Or.inl (by decide +kernel) | exact Or.inr (by decide +kernel)) (by decide) (by simp [lg_sl, zrf_cat, cat_int, cat_long]) (f_X11_fault_ok hj _ _ h o (by simp [lv_args, zlk, zrf_cat, cat_int, cat_long]) e)
def f_X11_textFor_28 (K2 : Nat → Int32 → Int32 → Hp → Option (Int32 × Hp)) (l0 : Nat) (l1 : Int32) (l2 : Int32) (h : Hp) : Option (Int32 × Hp) := bh ((l2) + (1 : Int32)) (fun x8 => K2 (l0) (l1) (x8) (h))
theorem f_X11_textFor_28_ok {G : Gd} {d : Nat} (K2 : Nat → Int32 → Int32 → Hp → Option (Int32 × Hp)) (hj : 1 ≤ d) (hK2 : ∀ (l0 : Nat) (l1 : Int32) (l2 : Int32) (L : List (Nat × Value)) (h : Hp) (o : (Int32 × Hp)), zlk L 0 = some (zrf (l0)) → zlk L 1 = some (.int (l1)) → zlk L 2 = some (.int (l2)) → K2 l0 l1 l2 h = some o → Ev G M_X11_textFor d 2 L [] h (Ret Y_X11_textFor (some (.int o.1)) o.2)) : ∀ (l0 : Nat) (l1 : Int32) (l2 : Int32) (L : List (Nat × Value)) (h : Hp) (o : (Int32 × Hp)), zlk L 0 = some (zrf (l0)) → zlk L 1 = some (.int (l1)) → zlk L 2 = some (.int (l2)) → f_X11_textFor_28 K2 l0 l1 l2 h = some o → Ev G M_X11_textFor d 28 L [] h (Ret Y_X11_textFor (some (.int o.1)) o.2) := by
  intro l0 l1 l2 L h o g0 g1 g2 e
  unfold f_X11_textFor_28 at e
  replace e := bhd e
  obtain ⟨_, rfl, e⟩ := e
  refine s_iinc d_X11_textFor_28 g2 (w := (1 : Int32)) (by decide +kernel) (by decide) (fun L g2 gK => ?_)
  replace g0 := gK _ _ (by decide) (Or.inr (zrf_cat _)) g0
  replace g1 := gK _ _ (by decide) (Or.inr rfl) g1
  refine r_goto d_X11_textFor_31 (tgt := 2) (by decide) ?_
  exact hK2 _ _ _ _ _ _ g0 g1 g2 e

def f_X11_textFor_2 : Nat → Nat → Int32 → Int32 → Hp → Option (Int32 × Hp)
  | 0, _, _, _, _ => none
  | n + 1, l0, l1, l2, h => ck (isO (h) (l0) 12) (ck (isO (h) (zR (h) 1207 (l0)) 22) (ck (inR (l2) (zL (h) (zR (h) 1207 (l0)))) (if (zE (h) (zR (h) 1207 (l0)) (l2).toNatClampNeg) = ((l1) - (l1) / ((8 : Int32)) * ((8 : Int32))) then (ck (isO (h) (zR (h) 1208 (l0)) 22) (ck (inR (l2) (zL (h) (zR (h) 1208 (l0)))) (if (zE (h) (zR (h) 1208 (l0)) (l2).toNatClampNeg) = ((l1) / ((8 : Int32))) then (some (l2, h)) else (f_X11_textFor_28 (f_X11_textFor_2 n) (l0) (l1) (l2) (h))))) else (f_X11_textFor_28 (f_X11_textFor_2 n) (l0) (l1) (l2) (h)))))
theorem f_X11_textFor_2_ok {G : Gd} {d : Nat} (hj : 1 ≤ d) : ∀ (n : Nat) (l0 : Nat) (l1 : Int32) (l2 : Int32) (L : List (Nat × Value)) (h : Hp) (o : (Int32 × Hp)), zlk L 0 = some (zrf (l0)) → zlk L 1 = some (.int (l1)) → zlk L 2 = some (.int (l2)) → f_X11_textFor_2 n l0 l1 l2 h = some o → Ev G M_X11_textFor d 2 L [] h (Ret Y_X11_textFor (some (.int o.1)) o.2) := by
  intro n
  induction n with
  | zero =>
    intro l0 l1 l2 L h o g0 g1 g2 e
    cases e
  | succ n ih =>
    intro l0 l1 l2 L h o g0 g1 g2 e
    unfold f_X11_textFor_2 at e
    refine g_ald_n d_X11_textFor_2 rfl g0 ?_
    replace e := ckd e
    obtain ⟨k1, e⟩ := e
    refine g_getR d_X11_textFor_3 (f := 1207) k1 fk_10_17 rfl rfl ?_
    refine r_iload_n d_X11_textFor_6 rfl g2 ?_
    replace e := ckd e
    obtain ⟨k2, e⟩ := e
    replace e := ckd e
    obtain ⟨k3, e⟩ := e
    refine g_iald d_X11_textFor_7 k2 k3 rfl ?_
    refine r_iload_n d_X11_textFor_8 rfl g1 ?_
    refine r_bipush d_X11_textFor_9 (v := (8 : Int32)) (by decide +kernel) ?_
    refine r_irem d_X11_textFor_11 (by decide +kernel) ?_
    refine r_icmp_ne d_X11_textFor_12 (tgt := 28) (by decide) (fun c4 => ?_) (fun c4 => ?_)
    · replace e := (if_neg c4).symm.trans e
      exact f_X11_textFor_28_ok _ hj ih _ _ _ _ _ _ g0 g1 g2 e
    · replace e := (if_pos c4).symm.trans e
      refine g_ald_n d_X11_textFor_15 rfl g0 ?_
      refine g_getR d_X11_textFor_16 (f := 1208) k1 fk_10_20 rfl rfl ?_
      refine r_iload_n d_X11_textFor_19 rfl g2 ?_
      replace e := ckd e
      obtain ⟨k5, e⟩ := e
      replace e := ckd e
      obtain ⟨k6, e⟩ := e
      refine g_iald d_X11_textFor_20 k5 k6 rfl ?_
      refine r_iload_n d_X11_textFor_21 rfl g1 ?_
      refine r_bipush d_X11_textFor_22 (v := (8 : Int32)) (by decide +kernel) ?_
      refine r_idiv d_X11_textFor_24 (by decide +kernel) ?_
      refine r_icmp_eq d_X11_textFor_25 (tgt := 34) (by decide) (fun c7 => ?_) (fun c7 => ?_)
      · replace e := (if_pos c7).symm.trans e
        refine r_iload_n d_X11_textFor_34 rfl g2 ?_
        obtain rfl := Option.some.inj e
        exact g_iret d_X11_textFor_35 rfl rfl
      · replace e := (if_neg c7).symm.trans e
        exact f_X11_textFor_28_ok _ hj ih _ _ _ _ _ _ g0 g1 g2 e

def f_X11_textFor (l0 : Nat) (l1 : Int32) (h : Hp) : Option (Int32 × Hp) := f_X11_textFor_2 fz (l0) (l1) ((0 : Int32)) (h)
theorem f_X11_textFor_ok {G : Gd} {d : Nat} (hj : 1 ≤ d) : ∀ (l0 : Nat) (l1 : Int32) (L : List (Nat × Value)) (h : Hp) (o : (Int32 × Hp)), zlk L 0 = some (zrf (l0)) → zlk L 1 = some (.int (l1)) → f_X11_textFor l0 l1 h = some o → Ev G M_X11_textFor d 0 L [] h (Ret Y_X11_textFor (some (.int o.1)) o.2) := by
  intro l0 l1 L h o g0 g1 e
  unfold f_X11_textFor at e
  refine r_iconst d_X11_textFor_0 (v := (0 : Int32)) (by decide +kernel) ?_
  refine s_istore_n d_X11_textFor_1 rfl (by decide) (fun L g2 gK => ?_)
  replace g0 := gK _ _ (by decide) (Or.inr (zrf_cat _)) g0
  replace g1 := gK _ _ (by decide) (Or.inr rfl) g1
  exact f_X11_textFor_2_ok hj _ _ _ _ _ _ _ g0 g1 g2 e

theorem c_X11_textFor {G : Gd} {j : Nat} (hj : 1 ≤ j) {l0 : Nat} {l1 : Int32} {h : Hp} {o : (Int32 × Hp)} (e : f_X11_textFor l0 l1 h = some o) : Cal G j Y_X11_textFor [zrf (l0), .int (l1)] h (some (.int o.1)) o.2 := Cal.of (n := 0) (I := false) (by first | exact Or.inl (by decide +kernel) | exact Or.inr (by decide +kernel)) (by decide) (by simp [lg_sl, zrf_cat, cat_int, cat_long]) (f_X11_textFor_ok hj _ _ _ h o (by simp [lv_args, zlk, zrf_cat, cat_int, cat_long]) (by simp [lv_args, zlk, zrf_cat, cat_int, cat_long]) e)
theorem fk_10_244 : Fk "TaskWeaveModel" 244 1224 := ⟨by decide, by decide, by decide +kernel⟩
def f_X11_newRecord (l0 : Nat) (l1 : Int32) (l2 : Int32) (l3 : Int32) (l4 : Int32) (l5 : Int32) (l6 : Int32) (h : Hp) : Option (Int32 × Hp) := ck (isO (h) (l0) 12) (ck (isO (h) (zR (h) 1225 (l0)) 22) (ck (inR (zI (h) 1224 (l0)) (zL (h) (zR (h) 1225 (l0)))) (bh (pE (h) (zR (h) 1225 (l0)) (zI (h) 1224 (l0)).toNatClampNeg ((((16 : Int32)) * (l1)) + (l2))) (fun h4 => ck (isO (h4) (zR (h4) 1226 (l0)) 22) (ck (inR (zI (h4) 1224 (l0)) (zL (h4) (zR (h4) 1226 (l0)))) (bh (pE (h4) (zR (h4) 1226 (l0)) (zI (h4) 1224 (l0)).toNatClampNeg (l3)) (fun h7 => ck (isO (h7) (zR (h7) 1227 (l0)) 22) (ck (inR (zI (h7) 1224 (l0)) (zL (h7) (zR (h7) 1227 (l0)))) (bh (pE (h7) (zR (h7) 1227 (l0)) (zI (h7) 1224 (l0)).toNatClampNeg (l4)) (fun h10 => ck (isO (h10) (zR (h10) 1228 (l0)) 22) (ck (inR (zI (h10) 1224 (l0)) (zL (h10) (zR (h10) 1228 (l0)))) (bh (pE (h10) (zR (h10) 1228 (l0)) (zI (h10) 1224 (l0)).toNatClampNeg (l5)) (fun h13 => ck (isO (h13) (zR (h13) 1229 (l0)) 22) (ck (inR (zI (h13) 1224 (l0)) (zL (h13) (zR (h13) 1229 (l0)))) (bh (pE (h13) (zR (h13) 1229 (l0)) (zI (h13) 1224 (l0)).toNatClampNeg (l6)) (fun h16 => bh (pI (h16) 1224 (l0) ((zI (h16) 1224 (l0)) + ((1 : Int32)))) (fun h17 => some ((zI (h17) 1224 (l0)) - ((1 : Int32)), h17))))))))))))))))))
theorem f_X11_newRecord_ok {G : Gd} {d : Nat} (hj : 1 ≤ d) : ∀ (l0 : Nat) (l1 : Int32) (l2 : Int32) (l3 : Int32) (l4 : Int32) (l5 : Int32) (l6 : Int32) (L : List (Nat × Value)) (h : Hp) (o : (Int32 × Hp)), zlk L 0 = some (zrf (l0)) → zlk L 1 = some (.int (l1)) → zlk L 2 = some (.int (l2)) → zlk L 3 = some (.int (l3)) → zlk L 4 = some (.int (l4)) → zlk L 5 = some (.int (l5)) → zlk L 6 = some (.int (l6)) → f_X11_newRecord l0 l1 l2 l3 l4 l5 l6 h = some o → Ev G M_X11_newRecord d 0 L [] h (Ret Y_X11_newRecord (some (.int o.1)) o.2) := by
  intro l0 l1 l2 l3 l4 l5 l6 L h o g0 g1 g2 g3 g4 g5 g6 e
  unfold f_X11_newRecord at e
  refine g_ald_n d_X11_newRecord_0 rfl g0 ?_
  replace e := ckd e
  obtain ⟨k1, e⟩ := e
  refine g_getR d_X11_newRecord_1 (f := 1225) k1 fk_10_64 rfl rfl ?_
  refine g_ald_n d_X11_newRecord_4 rfl g0 ?_
  refine g_getI d_X11_newRecord_5 (f := 1224) k1 fk_10_244 rfl rfl ?_
  refine r_bipush d_X11_newRecord_8 (v := (16 : Int32)) (by decide +kernel) ?_
  refine r_iload_n d_X11_newRecord_10 rfl g1 ?_
  refine r_imul d_X11_newRecord_11 ?_
  refine r_iload_n d_X11_newRecord_12 rfl g2 ?_
  refine r_iadd d_X11_newRecord_13 ?_
  replace e := ckd e
  obtain ⟨k2, e⟩ := e
  replace e := ckd e
  obtain ⟨k3, e⟩ := e
  refine g_iast d_X11_newRecord_14 k2 k3 ?_
  replace e := bhd e
  obtain ⟨_, rfl, e⟩ := e
  refine g_ald_n d_X11_newRecord_15 rfl g0 ?_
  refine g_getR d_X11_newRecord_16 (f := 1226) (tO_pE k1) fk_10_67 rfl rfl ?_
  refine g_ald_n d_X11_newRecord_19 rfl g0 ?_
  refine g_getI d_X11_newRecord_20 (f := 1224) (tO_pE k1) fk_10_244 rfl rfl ?_
  refine r_iload_n d_X11_newRecord_23 rfl g3 ?_
  replace e := ckd e
  obtain ⟨k5, e⟩ := e
  replace e := ckd e
  obtain ⟨k6, e⟩ := e
  refine g_iast d_X11_newRecord_24 k5 k6 ?_
  replace e := bhd e
  obtain ⟨_, rfl, e⟩ := e
  refine g_ald_n d_X11_newRecord_25 rfl g0 ?_
  refine g_getR d_X11_newRecord_26 (f := 1227) (tO_pE (tO_pE k1)) fk_10_70 rfl rfl ?_
  refine g_ald_n d_X11_newRecord_29 rfl g0 ?_
  refine g_getI d_X11_newRecord_30 (f := 1224) (tO_pE (tO_pE k1)) fk_10_244 rfl rfl ?_
  refine r_iload d_X11_newRecord_33 g4 ?_
  replace e := ckd e
  obtain ⟨k8, e⟩ := e
  replace e := ckd e
  obtain ⟨k9, e⟩ := e
  refine g_iast d_X11_newRecord_35 k8 k9 ?_
  replace e := bhd e
  obtain ⟨_, rfl, e⟩ := e
  refine g_ald_n d_X11_newRecord_36 rfl g0 ?_
  refine g_getR d_X11_newRecord_37 (f := 1228) (tO_pE (tO_pE (tO_pE k1))) fk_10_73 rfl rfl ?_
  refine g_ald_n d_X11_newRecord_40 rfl g0 ?_
  refine g_getI d_X11_newRecord_41 (f := 1224) (tO_pE (tO_pE (tO_pE k1))) fk_10_244 rfl rfl ?_
  refine r_iload d_X11_newRecord_44 g5 ?_
  replace e := ckd e
  obtain ⟨k11, e⟩ := e
  replace e := ckd e
  obtain ⟨k12, e⟩ := e
  refine g_iast d_X11_newRecord_46 k11 k12 ?_
  replace e := bhd e
  obtain ⟨_, rfl, e⟩ := e
  refine g_ald_n d_X11_newRecord_47 rfl g0 ?_
  refine g_getR d_X11_newRecord_48 (f := 1229) (tO_pE (tO_pE (tO_pE (tO_pE k1)))) fk_10_76 rfl rfl ?_
  refine g_ald_n d_X11_newRecord_51 rfl g0 ?_
  refine g_getI d_X11_newRecord_52 (f := 1224) (tO_pE (tO_pE (tO_pE (tO_pE k1)))) fk_10_244 rfl rfl ?_
  refine r_iload d_X11_newRecord_55 g6 ?_
  replace e := ckd e
  obtain ⟨k14, e⟩ := e
  replace e := ckd e
  obtain ⟨k15, e⟩ := e
  refine g_iast d_X11_newRecord_57 k14 k15 ?_
  replace e := bhd e
  obtain ⟨_, rfl, e⟩ := e
  refine g_ald_n d_X11_newRecord_58 rfl g0 ?_
  refine r_dup d_X11_newRecord_59 (zrf_cat _) ?_
  refine g_getI d_X11_newRecord_60 (f := 1224) (tO_pE (tO_pE (tO_pE (tO_pE (tO_pE k1))))) fk_10_244 rfl rfl ?_
  refine r_iconst d_X11_newRecord_63 (v := (1 : Int32)) (by decide +kernel) ?_
  refine r_iadd d_X11_newRecord_64 ?_
  refine g_putI d_X11_newRecord_65 (f := 1224) (tO_pE (tO_pE (tO_pE (tO_pE (tO_pE k1))))) fk_10_244 rfl (Or.inl rfl) ⟨rfl, rfl⟩ ?_
  replace e := bhd e
  obtain ⟨_, rfl, e⟩ := e
  refine g_ald_n d_X11_newRecord_68 rfl g0 ?_
  refine g_getI d_X11_newRecord_69 (f := 1224) (tO_pI (tO_pE (tO_pE (tO_pE (tO_pE (tO_pE k1)))))) fk_10_244 rfl rfl ?_
  refine r_iconst d_X11_newRecord_72 (v := (1 : Int32)) (by decide +kernel) ?_
  refine r_isub d_X11_newRecord_73 ?_
  obtain rfl := Option.some.inj e
  exact g_iret d_X11_newRecord_74 rfl rfl

theorem c_X11_newRecord {G : Gd} {j : Nat} (hj : 1 ≤ j) {l0 : Nat} {l1 : Int32} {l2 : Int32} {l3 : Int32} {l4 : Int32} {l5 : Int32} {l6 : Int32} {h : Hp} {o : (Int32 × Hp)} (e : f_X11_newRecord l0 l1 l2 l3 l4 l5 l6 h = some o) : Cal G j Y_X11_newRecord [zrf (l0), .int (l1), .int (l2), .int (l3), .int (l4), .int (l5), .int (l6)] h (some (.int o.1)) o.2 := Cal.of (n := 0) (I := false) (by first | exact Or.inl (by decide +kernel) | exact Or.inr (by decide +kernel)) (by decide) (by simp [lg_sl, zrf_cat, cat_int, cat_long]) (f_X11_newRecord_ok hj _ _ _ _ _ _ _ _ h o (by simp [lv_args, zlk, zrf_cat, cat_int, cat_long]) (by simp [lv_args, zlk, zrf_cat, cat_int, cat_long]) (by simp [lv_args, zlk, zrf_cat, cat_int, cat_long]) (by simp [lv_args, zlk, zrf_cat, cat_int, cat_long]) (by simp [lv_args, zlk, zrf_cat, cat_int, cat_long]) (by simp [lv_args, zlk, zrf_cat, cat_int, cat_long]) (by simp [lv_args, zlk, zrf_cat, cat_int, cat_long]) e)
def f_X11_kindOf (l0 : Nat) (l1 : Int32) (h : Hp) : Option (Int32 × Hp) := ck (isO (h) (l0) 12) (ck (isO (h) (zR (h) 1225 (l0)) 22) (ck (inR (l1) (zL (h) (zR (h) 1225 (l0)))) (some ((zE (h) (zR (h) 1225 (l0)) (l1).toNatClampNeg) - (zE (h) (zR (h) 1225 (l0)) (l1).toNatClampNeg) / ((16 : Int32)) * ((16 : Int32)), h))))
theorem f_X11_kindOf_ok {G : Gd} {d : Nat} (hj : 1 ≤ d) : ∀ (l0 : Nat) (l1 : Int32) (L : List (Nat × Value)) (h : Hp) (o : (Int32 × Hp)), zlk L 0 = some (zrf (l0)) → zlk L 1 = some (.int (l1)) → f_X11_kindOf l0 l1 h = some o → Ev G M_X11_kindOf d 0 L [] h (Ret Y_X11_kindOf (some (.int o.1)) o.2) := by
  intro l0 l1 L h o g0 g1 e
  unfold f_X11_kindOf at e
  refine g_ald_n d_X11_kindOf_0 rfl g0 ?_
  replace e := ckd e
  obtain ⟨k1, e⟩ := e
  refine g_getR d_X11_kindOf_1 (f := 1225) k1 fk_10_64 rfl rfl ?_
  refine r_iload_n d_X11_kindOf_4 rfl g1 ?_
  replace e := ckd e
  obtain ⟨k2, e⟩ := e
  replace e := ckd e
  obtain ⟨k3, e⟩ := e
  refine g_iald d_X11_kindOf_5 k2 k3 rfl ?_
  refine r_bipush d_X11_kindOf_6 (v := (16 : Int32)) (by decide +kernel) ?_
  refine r_irem d_X11_kindOf_8 (by decide +kernel) ?_
  obtain rfl := Option.some.inj e
  exact g_iret d_X11_kindOf_9 rfl rfl

theorem c_X11_kindOf {G : Gd} {j : Nat} (hj : 1 ≤ j) {l0 : Nat} {l1 : Int32} {h : Hp} {o : (Int32 × Hp)} (e : f_X11_kindOf l0 l1 h = some o) : Cal G j Y_X11_kindOf [zrf (l0), .int (l1)] h (some (.int o.1)) o.2 := Cal.of (n := 0) (I := false) (by first | exact Or.inl (by decide +kernel) | exact Or.inr (by decide +kernel)) (by decide) (by simp [lg_sl, zrf_cat, cat_int, cat_long]) (f_X11_kindOf_ok hj _ _ _ h o (by simp [lv_args, zlk, zrf_cat, cat_int, cat_long]) (by simp [lv_args, zlk, zrf_cat, cat_int, cat_long]) e)
def f_X11_down (l0 : Nat) (l1 : Int32) (h : Hp) : Option Hp := ck (isO (h) (l0) 12) (ck (isO (h) (zR (h) 1234 (l0)) 23) (ck (inR (l1) (zL (h) (zR (h) 1234 (l0)))) (bh (pE (h) (zR (h) 1234 (l0)) (l1).toNatClampNeg ((((0 : Int32)) &&& 1))) (fun h4 => ck (isO (h4) (zR (h4) 1235 (l0)) 22) (ck (inR (l1) (zL (h4) (zR (h4) 1235 (l0)))) (bh (pE (h4) (zR (h4) 1235 (l0)) (l1).toNatClampNeg ((-1 : Int32))) (fun h7 => some (h7))))))))
theorem f_X11_down_ok {G : Gd} {d : Nat} (hj : 1 ≤ d) : ∀ (l0 : Nat) (l1 : Int32) (L : List (Nat × Value)) (h : Hp) (o : Hp), zlk L 0 = some (zrf (l0)) → zlk L 1 = some (.int (l1)) → f_X11_down l0 l1 h = some o → Ev G M_X11_down d 0 L [] h (Ret Y_X11_down none o) := by
  intro l0 l1 L h o g0 g1 e
  unfold f_X11_down at e
  refine g_ald_n d_X11_down_0 rfl g0 ?_
  replace e := ckd e
  obtain ⟨k1, e⟩ := e
  refine g_getR d_X11_down_1 (f := 1234) k1 fk_10_92 rfl rfl ?_
  refine r_iload_n d_X11_down_4 rfl g1 ?_
  refine r_iconst d_X11_down_5 (v := (0 : Int32)) (by decide +kernel) ?_
  replace e := ckd e
  obtain ⟨k2, e⟩ := e
  replace e := ckd e
  obtain ⟨k3, e⟩ := e
  refine g_zast d_X11_down_6 k2 k3 ?_
  replace e := bhd e
  obtain ⟨_, rfl, e⟩ := e
  refine g_ald_n d_X11_down_7 rfl g0 ?_
  refine g_getR d_X11_down_8 (f := 1235) (tO_pE k1) fk_10_95 rfl rfl ?_
  refine r_iload_n d_X11_down_11 rfl g1 ?_
  refine r_iconst d_X11_down_12 (v := (-1 : Int32)) (by decide +kernel) ?_
  replace e := ckd e
  obtain ⟨k5, e⟩ := e
  replace e := ckd e
  obtain ⟨k6, e⟩ := e
  refine g_iast d_X11_down_13 k5 k6 ?_
  replace e := bhd e
  obtain ⟨_, rfl, e⟩ := e
  obtain rfl := Option.some.inj e
  exact g_vret d_X11_down_14 rfl

theorem c_X11_down {G : Gd} {j : Nat} (hj : 1 ≤ j) {l0 : Nat} {l1 : Int32} {h : Hp} {o : Hp} (e : f_X11_down l0 l1 h = some o) : Cal G j Y_X11_down [zrf (l0), .int (l1)] h none o := Cal.of (n := 0) (I := false) (by first | exact Or.inl (by decide +kernel) | exact Or.inr (by decide +kernel)) (by decide) (by simp [lg_sl, zrf_cat, cat_int, cat_long]) (f_X11_down_ok hj _ _ _ h o (by simp [lv_args, zlk, zrf_cat, cat_int, cat_long]) (by simp [lv_args, zlk, zrf_cat, cat_int, cat_long]) e)
