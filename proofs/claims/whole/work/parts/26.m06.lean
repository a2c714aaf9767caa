abbrev Y_X11_origin : Yx := (⟨"TaskWeaveModel", "origin", "(I)I"⟩, prog_13_method_37_code, 2, (some .int))
abbrev M_X11_origin : Mx := ("TaskWeaveModel", prog_13_method_37_code, 2, false)
theorem yk_X11_origin : Yk Y_X11_origin 1 := ⟨by decide +kernel, by decide +kernel, ⟨by decide, by decide⟩, by decide +kernel, by decide, by decide +kernel⟩
theorem d_X11_origin_0 : decode prog_13_method_37_code 0 = .ok (.aload_n 0, 1) := by decide +kernel
theorem d_X11_origin_1 : decode prog_13_method_37_code 1 = .ok (.getfield 76, 3) := by decide +kernel
theorem d_X11_origin_4 : decode prog_13_method_37_code 4 = .ok (.aload_n 0, 1) := by decide +kernel
theorem d_X11_origin_5 : decode prog_13_method_37_code 5 = .ok (.iload_n 1, 1) := by decide +kernel
theorem d_X11_origin_6 : decode prog_13_method_37_code 6 = .ok (.iconst 0, 1) := by decide +kernel
theorem d_X11_origin_7 : decode prog_13_method_37_code 7 = .ok (.invokevirtual 305, 3) := by decide +kernel
theorem d_X11_origin_10 : decode prog_13_method_37_code 10 = .ok (.iaload, 1) := by decide +kernel
theorem d_X11_origin_11 : decode prog_13_method_37_code 11 = .ok (.ireturn, 1) := by decide +kernel
abbrev Y_X11_parent : Yx := (⟨"TaskWeaveModel", "parent", "(I)I"⟩, prog_13_method_38_code, 2, (some .int))
abbrev M_X11_parent : Mx := ("TaskWeaveModel", prog_13_method_38_code, 2, false)
theorem yk_X11_parent : Yk Y_X11_parent 1 := ⟨by decide +kernel, by decide +kernel, ⟨by decide, by decide⟩, by decide +kernel, by decide, by decide +kernel⟩
theorem d_X11_parent_0 : decode prog_13_method_38_code 0 = .ok (.aload_n 0, 1) := by decide +kernel
theorem d_X11_parent_1 : decode prog_13_method_38_code 1 = .ok (.iload_n 1, 1) := by decide +kernel
theorem d_X11_parent_2 : decode prog_13_method_38_code 2 = .ok (.invokevirtual 309, 3) := by decide +kernel
theorem d_X11_parent_5 : decode prog_13_method_38_code 5 = .ok (.ifCond .ge 16, 3) := by decide +kernel
theorem d_X11_parent_8 : decode prog_13_method_38_code 8 = .ok (.iconst (-1), 1) := by decide +kernel
theorem d_X11_parent_9 : decode prog_13_method_38_code 9 = .ok (.aload_n 0, 1) := by decide +kernel
theorem d_X11_parent_10 : decode prog_13_method_38_code 10 = .ok (.iload_n 1, 1) := by decide +kernel
theorem d_X11_parent_11 : decode prog_13_method_38_code 11 = .ok (.invokevirtual 309, 3) := by decide +kernel
theorem d_X11_parent_14 : decode prog_13_method_38_code 14 = .ok (.isub, 1) := by decide +kernel
theorem d_X11_parent_15 : decode prog_13_method_38_code 15 = .ok (.bipush 64, 2) := by decide +kernel
theorem d_X11_parent_17 : decode prog_13_method_38_code 17 = .ok (.idiv, 1) := by decide +kernel
theorem d_X11_parent_18 : decode prog_13_method_38_code 18 = .ok (.goto 4, 3) := by decide +kernel
theorem d_X11_parent_21 : decode prog_13_method_38_code 21 = .ok (.iconst (-1), 1) := by decide +kernel
theorem d_X11_parent_22 : decode prog_13_method_38_code 22 = .ok (.ireturn, 1) := by decide +kernel
abbrev Y_X11_keep : Yx := (⟨"TaskWeaveModel", "keep", "(III)V"⟩, prog_13_method_35_code, 8, none)
abbrev M_X11_keep : Mx := ("TaskWeaveModel", prog_13_method_35_code, 8, false)
theorem yk_X11_keep : Yk Y_X11_keep 3 := ⟨by decide +kernel, by decide +kernel, ⟨by decide, by decide⟩, by decide +kernel, by decide, by decide +kernel⟩
theorem d_X11_keep_0 : decode prog_13_method_35_code 0 = .ok (.aload_n 0, 1) := by decide +kernel
theorem d_X11_keep_1 : decode prog_13_method_35_code 1 = .ok (.iload_n 2, 1) := by decide +kernel
theorem d_X11_keep_2 : decode prog_13_method_35_code 2 = .ok (.invokevirtual 286, 3) := by decide +kernel
theorem d_X11_keep_5 : decode prog_13_method_35_code 5 = .ok (.istore 4, 2) := by decide +kernel
theorem d_X11_keep_7 : decode prog_13_method_35_code 7 = .ok (.aload_n 0, 1) := by decide +kernel
theorem d_X11_keep_8 : decode prog_13_method_35_code 8 = .ok (.getfield 110, 3) := by decide +kernel
theorem d_X11_keep_11 : decode prog_13_method_35_code 11 = .ok (.bipush 60, 2) := by decide +kernel
theorem d_X11_keep_13 : decode prog_13_method_35_code 13 = .ok (.iload_n 1, 1) := by decide +kernel
theorem d_X11_keep_14 : decode prog_13_method_35_code 14 = .ok (.imul, 1) := by decide +kernel
theorem d_X11_keep_15 : decode prog_13_method_35_code 15 = .ok (.aload_n 0, 1) := by decide +kernel
theorem d_X11_keep_16 : decode prog_13_method_35_code 16 = .ok (.getfield 113, 3) := by decide +kernel
theorem d_X11_keep_19 : decode prog_13_method_35_code 19 = .ok (.iload_n 1, 1) := by decide +kernel
theorem d_X11_keep_20 : decode prog_13_method_35_code 20 = .ok (.iaload, 1) := by decide +kernel
theorem d_X11_keep_21 : decode prog_13_method_35_code 21 = .ok (.iadd, 1) := by decide +kernel
theorem d_X11_keep_22 : decode prog_13_method_35_code 22 = .ok (.iload_n 2, 1) := by decide +kernel
theorem d_X11_keep_23 : decode prog_13_method_35_code 23 = .ok (.iastore, 1) := by decide +kernel
theorem d_X11_keep_24 : decode prog_13_method_35_code 24 = .ok (.aload_n 0, 1) := by decide +kernel
theorem d_X11_keep_25 : decode prog_13_method_35_code 25 = .ok (.getfield 113, 3) := by decide +kernel
theorem d_X11_keep_28 : decode prog_13_method_35_code 28 = .ok (.iload_n 1, 1) := by decide +kernel
theorem d_X11_keep_29 : decode prog_13_method_35_code 29 = .ok (.dup2, 1) := by decide +kernel
theorem d_X11_keep_30 : decode prog_13_method_35_code 30 = .ok (.iaload, 1) := by decide +kernel
theorem d_X11_keep_31 : decode prog_13_method_35_code 31 = .ok (.iconst 1, 1) := by decide +kernel
theorem d_X11_keep_32 : decode prog_13_method_35_code 32 = .ok (.iadd, 1) := by decide +kernel
theorem d_X11_keep_33 : decode prog_13_method_35_code 33 = .ok (.iastore, 1) := by decide +kernel
theorem d_X11_keep_34 : decode prog_13_method_35_code 34 = .ok (.iload 4, 2) := by decide +kernel
theorem d_X11_keep_36 : decode prog_13_method_35_code 36 = .ok (.bipush 6, 2) := by decide +kernel
theorem d_X11_keep_38 : decode prog_13_method_35_code 38 = .ok (.if_icmp .eq 26, 3) := by decide +kernel
theorem d_X11_keep_41 : decode prog_13_method_35_code 41 = .ok (.iload 4, 2) := by decide +kernel
theorem d_X11_keep_43 : decode prog_13_method_35_code 43 = .ok (.bipush 9, 2) := by decide +kernel
theorem d_X11_keep_45 : decode prog_13_method_35_code 45 = .ok (.if_icmp .eq 19, 3) := by decide +kernel
theorem d_X11_keep_48 : decode prog_13_method_35_code 48 = .ok (.iload 4, 2) := by decide +kernel
theorem d_X11_keep_50 : decode prog_13_method_35_code 50 = .ok (.bipush 10, 2) := by decide +kernel
theorem d_X11_keep_52 : decode prog_13_method_35_code 52 = .ok (.if_icmp .lt 16, 3) := by decide +kernel
theorem d_X11_keep_55 : decode prog_13_method_35_code 55 = .ok (.aload_n 0, 1) := by decide +kernel
theorem d_X11_keep_56 : decode prog_13_method_35_code 56 = .ok (.iload_n 1, 1) := by decide +kernel
theorem d_X11_keep_57 : decode prog_13_method_35_code 57 = .ok (.invokevirtual 302, 3) := by decide +kernel
theorem d_X11_keep_60 : decode prog_13_method_35_code 60 = .ok (.iconst (-1), 1) := by decide +kernel
theorem d_X11_keep_61 : decode prog_13_method_35_code 61 = .ok (.if_icmp .eq 7, 3) := by decide +kernel
theorem d_X11_keep_64 : decode prog_13_method_35_code 64 = .ok (.iconst 1, 1) := by decide +kernel
theorem d_X11_keep_65 : decode prog_13_method_35_code 65 = .ok (.goto 4, 3) := by decide +kernel
theorem d_X11_keep_68 : decode prog_13_method_35_code 68 = .ok (.iconst 0, 1) := by decide +kernel
theorem d_X11_keep_69 : decode prog_13_method_35_code 69 = .ok (.istore 5, 2) := by decide +kernel
theorem d_X11_keep_71 : decode prog_13_method_35_code 71 = .ok (.iload 5, 2) := by decide +kernel
theorem d_X11_keep_73 : decode prog_13_method_35_code 73 = .ok (.ifCond .eq 8, 3) := by decide +kernel
theorem d_X11_keep_76 : decode prog_13_method_35_code 76 = .ok (.iload_n 3, 1) := by decide +kernel
theorem d_X11_keep_77 : decode prog_13_method_35_code 77 = .ok (.iconst (-1), 1) := by decide +kernel
theorem d_X11_keep_78 : decode prog_13_method_35_code 78 = .ok (.if_icmp .ne 4, 3) := by decide +kernel
theorem d_X11_keep_81 : decode prog_13_method_35_code 81 = .ok (.return_, 1) := by decide +kernel
theorem d_X11_keep_82 : decode prog_13_method_35_code 82 = .ok (.iload_n 1, 1) := by decide +kernel
theorem d_X11_keep_83 : decode prog_13_method_35_code 83 = .ok (.bipush 16, 2) := by decide +kernel
theorem d_X11_keep_85 : decode prog_13_method_35_code 85 = .ok (.idiv, 1) := by decide +kernel
theorem d_X11_keep_86 : decode prog_13_method_35_code 86 = .ok (.istore 6, 2) := by decide +kernel
theorem d_X11_keep_88 : decode prog_13_method_35_code 88 = .ok (.sipush 1024, 3) := by decide +kernel
theorem d_X11_keep_91 : decode prog_13_method_35_code 91 = .ok (.iload 6, 2) := by decide +kernel
theorem d_X11_keep_93 : decode prog_13_method_35_code 93 = .ok (.imul, 1) := by decide +kernel
theorem d_X11_keep_94 : decode prog_13_method_35_code 94 = .ok (.aload_n 0, 1) := by decide +kernel
theorem d_X11_keep_95 : decode prog_13_method_35_code 95 = .ok (.getfield 161, 3) := by decide +kernel
theorem d_X11_keep_98 : decode prog_13_method_35_code 98 = .ok (.iload 6, 2) := by decide +kernel
theorem d_X11_keep_100 : decode prog_13_method_35_code 100 = .ok (.iaload, 1) := by decide +kernel
theorem d_X11_keep_101 : decode prog_13_method_35_code 101 = .ok (.iadd, 1) := by decide +kernel
theorem d_X11_keep_102 : decode prog_13_method_35_code 102 = .ok (.istore 7, 2) := by decide +kernel
theorem d_X11_keep_104 : decode prog_13_method_35_code 104 = .ok (.aload_n 0, 1) := by decide +kernel
theorem d_X11_keep_105 : decode prog_13_method_35_code 105 = .ok (.getfield 164, 3) := by decide +kernel
theorem d_X11_keep_108 : decode prog_13_method_35_code 108 = .ok (.iload 7, 2) := by decide +kernel
theorem d_X11_keep_110 : decode prog_13_method_35_code 110 = .ok (.iload_n 3, 1) := by decide +kernel
theorem d_X11_keep_111 : decode prog_13_method_35_code 111 = .ok (.iastore, 1) := by decide +kernel
theorem d_X11_keep_112 : decode prog_13_method_35_code 112 = .ok (.aload_n 0, 1) := by decide +kernel
theorem d_X11_keep_113 : decode prog_13_method_35_code 113 = .ok (.getfield 167, 3) := by decide +kernel
theorem d_X11_keep_116 : decode prog_13_method_35_code 116 = .ok (.iload 7, 2) := by decide +kernel
theorem d_X11_keep_118 : decode prog_13_method_35_code 118 = .ok (.iload_n 1, 1) := by decide +kernel
theorem d_X11_keep_119 : decode prog_13_method_35_code 119 = .ok (.iastore, 1) := by decide +kernel
theorem d_X11_keep_120 : decode prog_13_method_35_code 120 = .ok (.aload_n 0, 1) := by decide +kernel
theorem d_X11_keep_121 : decode prog_13_method_35_code 121 = .ok (.getfield 170, 3) := by decide +kernel
theorem d_X11_keep_124 : decode prog_13_method_35_code 124 = .ok (.iload 7, 2) := by decide +kernel
theorem d_X11_keep_126 : decode prog_13_method_35_code 126 = .ok (.aload_n 0, 1) := by decide +kernel
theorem d_X11_keep_127 : decode prog_13_method_35_code 127 = .ok (.getfield 113, 3) := by decide +kernel
theorem d_X11_keep_130 : decode prog_13_method_35_code 130 = .ok (.iload_n 1, 1) := by decide +kernel
theorem d_X11_keep_131 : decode prog_13_method_35_code 131 = .ok (.iaload, 1) := by decide +kernel
theorem d_X11_keep_132 : decode prog_13_method_35_code 132 = .ok (.iconst 1, 1) := by decide +kernel
theorem d_X11_keep_133 : decode prog_13_method_35_code 133 = .ok (.isub, 1) := by decide +kernel
theorem d_X11_keep_134 : decode prog_13_method_35_code 134 = .ok (.iastore, 1) := by decide +kernel
theorem d_X11_keep_135 : decode prog_13_method_35_code 135 = .ok (.aload_n 0, 1) := by decide +kernel
theorem d_X11_keep_136 : decode prog_13_method_35_code 136 = .ok (.getfield 161, 3) := by decide +kernel
theorem d_X11_keep_139 : decode prog_13_method_35_code 139 = .ok (.iload 6, 2) := by decide +kernel
theorem d_X11_keep_141 : decode prog_13_method_35_code 141 = .ok (.dup2, 1) := by decide +kernel
theorem d_X11_keep_142 : decode prog_13_method_35_code 142 = .ok (.iaload, 1) := by decide +kernel
theorem d_X11_keep_143 : decode prog_13_method_35_code 143 = .ok (.iconst 1, 1) := by decide +kernel
theorem d_X11_keep_144 : decode prog_13_method_35_code 144 = .ok (.iadd, 1) := by decide +kernel
theorem d_X11_keep_145 : decode prog_13_method_35_code 145 = .ok (.iastore, 1) := by decide +kernel
theorem d_X11_keep_146 : decode prog_13_method_35_code 146 = .ok (.return_, 1) := by decide +kernel
abbrev Y_X11_reads : Yx := (⟨"TaskWeaveModel", "reads", "(III)V"⟩, prog_13_method_34_code, 6, none)
abbrev M_X11_reads : Mx := ("TaskWeaveModel", prog_13_method_34_code, 6, false)
theorem yk_X11_reads : Yk Y_X11_reads 3 := ⟨by decide +kernel, by decide +kernel, ⟨by decide, by decide⟩, by decide +kernel, by decide, by decide +kernel⟩
theorem d_X11_reads_0 : decode prog_13_method_34_code 0 = .ok (.bipush 16, 2) := by decide +kernel
theorem d_X11_reads_2 : decode prog_13_method_34_code 2 = .ok (.iload_n 1, 1) := by decide +kernel
theorem d_X11_reads_3 : decode prog_13_method_34_code 3 = .ok (.imul, 1) := by decide +kernel
theorem d_X11_reads_4 : decode prog_13_method_34_code 4 = .ok (.aload_n 0, 1) := by decide +kernel
theorem d_X11_reads_5 : decode prog_13_method_34_code 5 = .ok (.getfield 64, 3) := by decide +kernel
theorem d_X11_reads_8 : decode prog_13_method_34_code 8 = .ok (.iload_n 2, 1) := by decide +kernel
theorem d_X11_reads_9 : decode prog_13_method_34_code 9 = .ok (.iaload, 1) := by decide +kernel
theorem d_X11_reads_10 : decode prog_13_method_34_code 10 = .ok (.bipush 16, 2) := by decide +kernel
theorem d_X11_reads_12 : decode prog_13_method_34_code 12 = .ok (.idiv, 1) := by decide +kernel
theorem d_X11_reads_13 : decode prog_13_method_34_code 13 = .ok (.iadd, 1) := by decide +kernel
theorem d_X11_reads_14 : decode prog_13_method_34_code 14 = .ok (.istore 4, 2) := by decide +kernel
theorem d_X11_reads_16 : decode prog_13_method_34_code 16 = .ok (.aload_n 0, 1) := by decide +kernel
theorem d_X11_reads_17 : decode prog_13_method_34_code 17 = .ok (.iload_n 2, 1) := by decide +kernel
theorem d_X11_reads_18 : decode prog_13_method_34_code 18 = .ok (.invokevirtual 286, 3) := by decide +kernel
theorem d_X11_reads_21 : decode prog_13_method_34_code 21 = .ok (.istore 5, 2) := by decide +kernel
theorem d_X11_reads_23 : decode prog_13_method_34_code 23 = .ok (.iload 5, 2) := by decide +kernel
theorem d_X11_reads_25 : decode prog_13_method_34_code 25 = .ok (.ifCond .ne 13, 3) := by decide +kernel
theorem d_X11_reads_28 : decode prog_13_method_34_code 28 = .ok (.aload_n 0, 1) := by decide +kernel
theorem d_X11_reads_29 : decode prog_13_method_34_code 29 = .ok (.getfield 107, 3) := by decide +kernel
theorem d_X11_reads_32 : decode prog_13_method_34_code 32 = .ok (.iload_n 1, 1) := by decide +kernel
theorem d_X11_reads_33 : decode prog_13_method_34_code 33 = .ok (.dup2, 1) := by decide +kernel
theorem d_X11_reads_34 : decode prog_13_method_34_code 34 = .ok (.iaload, 1) := by decide +kernel
theorem d_X11_reads_35 : decode prog_13_method_34_code 35 = .ok (.iconst 1, 1) := by decide +kernel
theorem d_X11_reads_36 : decode prog_13_method_34_code 36 = .ok (.iadd, 1) := by decide +kernel
theorem d_X11_reads_37 : decode prog_13_method_34_code 37 = .ok (.iastore, 1) := by decide +kernel
theorem d_X11_reads_38 : decode prog_13_method_34_code 38 = .ok (.iload 5, 2) := by decide +kernel
theorem d_X11_reads_40 : decode prog_13_method_34_code 40 = .ok (.bipush 12, 2) := by decide +kernel
theorem d_X11_reads_42 : decode prog_13_method_34_code 42 = .ok (.if_icmp .gt 24, 3) := by decide +kernel
theorem d_X11_reads_45 : decode prog_13_method_34_code 45 = .ok (.aload_n 0, 1) := by decide +kernel
theorem d_X11_reads_46 : decode prog_13_method_34_code 46 = .ok (.iload 4, 2) := by decide +kernel
theorem d_X11_reads_48 : decode prog_13_method_34_code 48 = .ok (.iload_n 2, 1) := by decide +kernel
theorem d_X11_reads_49 : decode prog_13_method_34_code 49 = .ok (.aload_n 0, 1) := by decide +kernel
theorem d_X11_reads_50 : decode prog_13_method_34_code 50 = .ok (.getfield 176, 3) := by decide +kernel
theorem d_X11_reads_53 : decode prog_13_method_34_code 53 = .ok (.iload_n 3, 1) := by decide +kernel
theorem d_X11_reads_54 : decode prog_13_method_34_code 54 = .ok (.baload, 1) := by decide +kernel
theorem d_X11_reads_55 : decode prog_13_method_34_code 55 = .ok (.ifCond .eq 7, 3) := by decide +kernel
theorem d_X11_reads_58 : decode prog_13_method_34_code 58 = .ok (.iconst (-1), 1) := by decide +kernel
theorem d_X11_reads_59 : decode prog_13_method_34_code 59 = .ok (.goto 4, 3) := by decide +kernel
theorem d_X11_reads_62 : decode prog_13_method_34_code 62 = .ok (.iload_n 3, 1) := by decide +kernel
theorem d_X11_reads_63 : decode prog_13_method_34_code 63 = .ok (.invokevirtual 299, 3) := by decide +kernel
theorem d_X11_reads_66 : decode prog_13_method_34_code 66 = .ok (.iload 5, 2) := by decide +kernel
theorem d_X11_reads_68 : decode prog_13_method_34_code 68 = .ok (.iconst 1, 1) := by decide +kernel
theorem d_X11_reads_69 : decode prog_13_method_34_code 69 = .ok (.if_icmp .ne 22, 3) := by decide +kernel
theorem d_X11_reads_72 : decode prog_13_method_34_code 72 = .ok (.aload_n 0, 1) := by decide +kernel
theorem d_X11_reads_73 : decode prog_13_method_34_code 73 = .ok (.getfield 158, 3) := by decide +kernel
theorem d_X11_reads_76 : decode prog_13_method_34_code 76 = .ok (.iload 4, 2) := by decide +kernel
theorem d_X11_reads_78 : decode prog_13_method_34_code 78 = .ok (.iconst 1, 1) := by decide +kernel
theorem d_X11_reads_79 : decode prog_13_method_34_code 79 = .ok (.iastore, 1) := by decide +kernel
theorem d_X11_reads_80 : decode prog_13_method_34_code 80 = .ok (.aload_n 0, 1) := by decide +kernel
theorem d_X11_reads_81 : decode prog_13_method_34_code 81 = .ok (.getfield 149, 3) := by decide +kernel
theorem d_X11_reads_84 : decode prog_13_method_34_code 84 = .ok (.iload 4, 2) := by decide +kernel
theorem d_X11_reads_86 : decode prog_13_method_34_code 86 = .ok (.aload_n 0, 1) := by decide +kernel
theorem d_X11_reads_87 : decode prog_13_method_34_code 87 = .ok (.getfield 283, 3) := by decide +kernel
theorem d_X11_reads_90 : decode prog_13_method_34_code 90 = .ok (.iastore, 1) := by decide +kernel
theorem d_X11_reads_91 : decode prog_13_method_34_code 91 = .ok (.iload 5, 2) := by decide +kernel
theorem d_X11_reads_93 : decode prog_13_method_34_code 93 = .ok (.bipush 15, 2) := by decide +kernel
theorem d_X11_reads_95 : decode prog_13_method_34_code 95 = .ok (.if_icmp .ne 49, 3) := by decide +kernel
theorem d_X11_reads_98 : decode prog_13_method_34_code 98 = .ok (.aload_n 0, 1) := by decide +kernel
theorem d_X11_reads_99 : decode prog_13_method_34_code 99 = .ok (.getfield 158, 3) := by decide +kernel
theorem d_X11_reads_102 : decode prog_13_method_34_code 102 = .ok (.iload 4, 2) := by decide +kernel
theorem d_X11_reads_104 : decode prog_13_method_34_code 104 = .ok (.aload_n 0, 1) := by decide +kernel
theorem d_X11_reads_105 : decode prog_13_method_34_code 105 = .ok (.getfield 70, 3) := by decide +kernel
theorem d_X11_reads_108 : decode prog_13_method_34_code 108 = .ok (.iload_n 2, 1) := by decide +kernel
theorem d_X11_reads_109 : decode prog_13_method_34_code 109 = .ok (.iaload, 1) := by decide +kernel
theorem d_X11_reads_110 : decode prog_13_method_34_code 110 = .ok (.iastore, 1) := by decide +kernel
theorem d_X11_reads_111 : decode prog_13_method_34_code 111 = .ok (.aload_n 0, 1) := by decide +kernel
theorem d_X11_reads_112 : decode prog_13_method_34_code 112 = .ok (.getfield 149, 3) := by decide +kernel
theorem d_X11_reads_115 : decode prog_13_method_34_code 115 = .ok (.iload 4, 2) := by decide +kernel
theorem d_X11_reads_117 : decode prog_13_method_34_code 117 = .ok (.aload_n 0, 1) := by decide +kernel
theorem d_X11_reads_118 : decode prog_13_method_34_code 118 = .ok (.getfield 73, 3) := by decide +kernel
theorem d_X11_reads_121 : decode prog_13_method_34_code 121 = .ok (.iload_n 2, 1) := by decide +kernel
theorem d_X11_reads_122 : decode prog_13_method_34_code 122 = .ok (.iaload, 1) := by decide +kernel
theorem d_X11_reads_123 : decode prog_13_method_34_code 123 = .ok (.aload_n 0, 1) := by decide +kernel
theorem d_X11_reads_124 : decode prog_13_method_34_code 124 = .ok (.getfield 283, 3) := by decide +kernel
theorem d_X11_reads_127 : decode prog_13_method_34_code 127 = .ok (.if_icmp .le 12, 3) := by decide +kernel
theorem d_X11_reads_130 : decode prog_13_method_34_code 130 = .ok (.aload_n 0, 1) := by decide +kernel
theorem d_X11_reads_131 : decode prog_13_method_34_code 131 = .ok (.getfield 73, 3) := by decide +kernel
theorem d_X11_reads_134 : decode prog_13_method_34_code 134 = .ok (.iload_n 2, 1) := by decide +kernel
theorem d_X11_reads_135 : decode prog_13_method_34_code 135 = .ok (.iaload, 1) := by decide +kernel
theorem d_X11_reads_136 : decode prog_13_method_34_code 136 = .ok (.goto 7, 3) := by decide +kernel
theorem d_X11_reads_139 : decode prog_13_method_34_code 139 = .ok (.aload_n 0, 1) := by decide +kernel
theorem d_X11_reads_140 : decode prog_13_method_34_code 140 = .ok (.getfield 283, 3) := by decide +kernel
theorem d_X11_reads_143 : decode prog_13_method_34_code 143 = .ok (.iastore, 1) := by decide +kernel
theorem d_X11_reads_144 : decode prog_13_method_34_code 144 = .ok (.return_, 1) := by decide +kernel
abbrev Y_X11_numberOf : Yx := (⟨"TaskWeaveModel", "numberOf", "(I)I"⟩, prog_13_method_39_code, 1, (some .int))
abbrev M_X11_numberOf : Mx := ("TaskWeaveModel", prog_13_method_39_code, 1, false)
theorem yk_X11_numberOf : Yk Y_X11_numberOf 1 := ⟨by decide +kernel, by decide +kernel, ⟨by decide, by decide⟩, by decide +kernel, by decide, by decide +kernel⟩
theorem d_X11_numberOf_0 : decode prog_13_method_39_code 0 = .ok (.iload_n 0, 1) := by decide +kernel
theorem d_X11_numberOf_1 : decode prog_13_method_39_code 1 = .ok (.bipush 16, 2) := by decide +kernel
theorem d_X11_numberOf_3 : decode prog_13_method_39_code 3 = .ok (.idiv, 1) := by decide +kernel
theorem d_X11_numberOf_4 : decode prog_13_method_39_code 4 = .ok (.iconst 4, 1) := by decide +kernel
theorem d_X11_numberOf_5 : decode prog_13_method_39_code 5 = .ok (.iload_n 0, 1) := by decide +kernel
theorem d_X11_numberOf_6 : decode prog_13_method_39_code 6 = .ok (.bipush 16, 2) := by decide +kernel
theorem d_X11_numberOf_8 : decode prog_13_method_39_code 8 = .ok (.irem, 1) := by decide +kernel
theorem d_X11_numberOf_9 : decode prog_13_method_39_code 9 = .ok (.imul, 1) := by decide +kernel
theorem d_X11_numberOf_10 : decode prog_13_method_39_code 10 = .ok (.iadd, 1) := by decide +kernel
theorem d_X11_numberOf_11 : decode prog_13_method_39_code 11 = .ok (.ireturn, 1) := by decide +kernel
abbrev Y_X11_placeOf : Yx := (⟨"TaskWeaveModel", "placeOf", "(I)I"⟩, prog_13_method_40_code, 1, (some .int))
abbrev M_X11_placeOf : Mx := ("TaskWeaveModel", prog_13_method_40_code, 1, false)
theorem yk_X11_placeOf : Yk Y_X11_placeOf 1 := ⟨by decide +kernel, by decide +kernel, ⟨by decide, by decide⟩, by decide +kernel, by decide, by decide +kernel⟩
theorem d_X11_placeOf_0 : decode prog_13_method_40_code 0 = .ok (.bipush 16, 2) := by decide +kernel
theorem d_X11_placeOf_2 : decode prog_13_method_40_code 2 = .ok (.iload_n 0, 1) := by decide +kernel
theorem d_X11_placeOf_3 : decode prog_13_method_40_code 3 = .ok (.iconst 4, 1) := by decide +kernel
theorem d_X11_placeOf_4 : decode prog_13_method_40_code 4 = .ok (.irem, 1) := by decide +kernel
theorem d_X11_placeOf_5 : decode prog_13_method_40_code 5 = .ok (.imul, 1) := by decide +kernel
theorem d_X11_placeOf_6 : decode prog_13_method_40_code 6 = .ok (.iload_n 0, 1) := by decide +kernel
theorem d_X11_placeOf_7 : decode prog_13_method_40_code 7 = .ok (.iconst 4, 1) := by decide +kernel
theorem d_X11_placeOf_8 : decode prog_13_method_40_code 8 = .ok (.idiv, 1) := by decide +kernel
theorem d_X11_placeOf_9 : decode prog_13_method_40_code 9 = .ok (.iadd, 1) := by decide +kernel
theorem d_X11_placeOf_10 : decode prog_13_method_40_code 10 = .ok (.ireturn, 1) := by decide +kernel
abbrev Y_X11_isFlow : Yx := (⟨"TaskWeaveModel", "isFlow", "(I)Z"⟩, prog_13_method_41_code, 2, (some .boolean))
abbrev M_X11_isFlow : Mx := ("TaskWeaveModel", prog_13_method_41_code, 2, false)
theorem yk_X11_isFlow : Yk Y_X11_isFlow 1 := ⟨by decide +kernel, by decide +kernel, ⟨by decide, by decide⟩, by decide +kernel, by decide, by decide +kernel⟩
theorem d_X11_isFlow_0 : decode prog_13_method_41_code 0 = .ok (.iload_n 1, 1) := by decide +kernel
theorem d_X11_isFlow_1 : decode prog_13_method_41_code 1 = .ok (.ifCond .lt 27, 3) := by decide +kernel
theorem d_X11_isFlow_4 : decode prog_13_method_41_code 4 = .ok (.iload_n 1, 1) := by decide +kernel
theorem d_X11_isFlow_5 : decode prog_13_method_41_code 5 = .ok (.bipush 64, 2) := by decide +kernel
theorem d_X11_isFlow_7 : decode prog_13_method_41_code 7 = .ok (.if_icmp .ge 21, 3) := by decide +kernel
theorem d_X11_isFlow_10 : decode prog_13_method_41_code 10 = .ok (.iload_n 1, 1) := by decide +kernel
theorem d_X11_isFlow_11 : decode prog_13_method_41_code 11 = .ok (.iconst 4, 1) := by decide +kernel
theorem d_X11_isFlow_12 : decode prog_13_method_41_code 12 = .ok (.idiv, 1) := by decide +kernel
theorem d_X11_isFlow_13 : decode prog_13_method_41_code 13 = .ok (.aload_n 0, 1) := by decide +kernel
theorem d_X11_isFlow_14 : decode prog_13_method_41_code 14 = .ok (.getfield 107, 3) := by decide +kernel
theorem d_X11_isFlow_17 : decode prog_13_method_41_code 17 = .ok (.iload_n 1, 1) := by decide +kernel
theorem d_X11_isFlow_18 : decode prog_13_method_41_code 18 = .ok (.iconst 4, 1) := by decide +kernel
theorem d_X11_isFlow_19 : decode prog_13_method_41_code 19 = .ok (.irem, 1) := by decide +kernel
theorem d_X11_isFlow_20 : decode prog_13_method_41_code 20 = .ok (.iaload, 1) := by decide +kernel
theorem d_X11_isFlow_21 : decode prog_13_method_41_code 21 = .ok (.if_icmp .ge 7, 3) := by decide +kernel
theorem d_X11_isFlow_24 : decode prog_13_method_41_code 24 = .ok (.iconst 1, 1) := by decide +kernel
theorem d_X11_isFlow_25 : decode prog_13_method_41_code 25 = .ok (.goto 4, 3) := by decide +kernel
theorem d_X11_isFlow_28 : decode prog_13_method_41_code 28 = .ok (.iconst 0, 1) := by decide +kernel
theorem d_X11_isFlow_29 : decode prog_13_method_41_code 29 = .ok (.ireturn, 1) := by decide +kernel
abbrev Y_X11_endOf : Yx := (⟨"TaskWeaveModel", "endOf", "(III)I"⟩, prog_13_method_51_code, 5, (some .int))
abbrev M_X11_endOf : Mx := ("TaskWeaveModel", prog_13_method_51_code, 5, false)
theorem yk_X11_endOf : Yk Y_X11_endOf 3 := ⟨by decide +kernel, by decide +kernel, ⟨by decide, by decide⟩, by decide +kernel, by decide, by decide +kernel⟩
theorem d_X11_endOf_0 : decode prog_13_method_51_code 0 = .ok (.iconst 0, 1) := by decide +kernel
theorem d_X11_endOf_1 : decode prog_13_method_51_code 1 = .ok (.istore 4, 2) := by decide +kernel
theorem d_X11_endOf_3 : decode prog_13_method_51_code 3 = .ok (.iload 4, 2) := by decide +kernel
theorem d_X11_endOf_5 : decode prog_13_method_51_code 5 = .ok (.iload_n 3, 1) := by decide +kernel
theorem d_X11_endOf_6 : decode prog_13_method_51_code 6 = .ok (.if_icmp .ge 49, 3) := by decide +kernel
theorem d_X11_endOf_9 : decode prog_13_method_51_code 9 = .ok (.aload_n 0, 1) := by decide +kernel
theorem d_X11_endOf_10 : decode prog_13_method_51_code 10 = .ok (.aload_n 0, 1) := by decide +kernel
theorem d_X11_endOf_11 : decode prog_13_method_51_code 11 = .ok (.iload_n 1, 1) := by decide +kernel
theorem d_X11_endOf_12 : decode prog_13_method_51_code 12 = .ok (.iload 4, 2) := by decide +kernel
theorem d_X11_endOf_14 : decode prog_13_method_51_code 14 = .ok (.invokevirtual 305, 3) := by decide +kernel
theorem d_X11_endOf_17 : decode prog_13_method_51_code 17 = .ok (.invokevirtual 286, 3) := by decide +kernel
theorem d_X11_endOf_20 : decode prog_13_method_51_code 20 = .ok (.bipush 7, 2) := by decide +kernel
theorem d_X11_endOf_22 : decode prog_13_method_51_code 22 = .ok (.if_icmp .ne 27, 3) := by decide +kernel
theorem d_X11_endOf_25 : decode prog_13_method_51_code 25 = .ok (.aload_n 0, 1) := by decide +kernel
theorem d_X11_endOf_26 : decode prog_13_method_51_code 26 = .ok (.getfield 70, 3) := by decide +kernel
theorem d_X11_endOf_29 : decode prog_13_method_51_code 29 = .ok (.aload_n 0, 1) := by decide +kernel
theorem d_X11_endOf_30 : decode prog_13_method_51_code 30 = .ok (.iload_n 1, 1) := by decide +kernel
theorem d_X11_endOf_31 : decode prog_13_method_51_code 31 = .ok (.iload 4, 2) := by decide +kernel
theorem d_X11_endOf_33 : decode prog_13_method_51_code 33 = .ok (.invokevirtual 305, 3) := by decide +kernel
theorem d_X11_endOf_36 : decode prog_13_method_51_code 36 = .ok (.iaload, 1) := by decide +kernel
theorem d_X11_endOf_37 : decode prog_13_method_51_code 37 = .ok (.iload_n 2, 1) := by decide +kernel
theorem d_X11_endOf_38 : decode prog_13_method_51_code 38 = .ok (.if_icmp .ne 11, 3) := by decide +kernel
theorem d_X11_endOf_41 : decode prog_13_method_51_code 41 = .ok (.aload_n 0, 1) := by decide +kernel
theorem d_X11_endOf_42 : decode prog_13_method_51_code 42 = .ok (.iload_n 1, 1) := by decide +kernel
theorem d_X11_endOf_43 : decode prog_13_method_51_code 43 = .ok (.iload 4, 2) := by decide +kernel
theorem d_X11_endOf_45 : decode prog_13_method_51_code 45 = .ok (.invokevirtual 305, 3) := by decide +kernel
theorem d_X11_endOf_48 : decode prog_13_method_51_code 48 = .ok (.ireturn, 1) := by decide +kernel
theorem d_X11_endOf_49 : decode prog_13_method_51_code 49 = .ok (.iinc 4 1, 3) := by decide +kernel
theorem d_X11_endOf_52 : decode prog_13_method_51_code 52 = .ok (.goto (-49), 3) := by decide +kernel
theorem d_X11_endOf_55 : decode prog_13_method_51_code 55 = .ok (.iconst (-1), 1) := by decide +kernel
theorem d_X11_endOf_56 : decode prog_13_method_51_code 56 = .ok (.ireturn, 1) := by decide +kernel
abbrev Y_X11_hasEnded : Yx := (⟨"TaskWeaveModel", "hasEnded", "(II)V"⟩, prog_13_method_44_code, 3, none)
abbrev M_X11_hasEnded : Mx := ("TaskWeaveModel", prog_13_method_44_code, 3, false)
theorem yk_X11_hasEnded : Yk Y_X11_hasEnded 2 := ⟨by decide +kernel, by decide +kernel, ⟨by decide, by decide⟩, by decide +kernel, by decide, by decide +kernel⟩
theorem d_X11_hasEnded_0 : decode prog_13_method_44_code 0 = .ok (.aload_n 0, 1) := by decide +kernel
theorem d_X11_hasEnded_1 : decode prog_13_method_44_code 1 = .ok (.getfield 119, 3) := by decide +kernel
theorem d_X11_hasEnded_4 : decode prog_13_method_44_code 4 = .ok (.iload_n 1, 1) := by decide +kernel
theorem d_X11_hasEnded_5 : decode prog_13_method_44_code 5 = .ok (.iconst 4, 1) := by decide +kernel
theorem d_X11_hasEnded_6 : decode prog_13_method_44_code 6 = .ok (.iastore, 1) := by decide +kernel
theorem d_X11_hasEnded_7 : decode prog_13_method_44_code 7 = .ok (.aload_n 0, 1) := by decide +kernel
theorem d_X11_hasEnded_8 : decode prog_13_method_44_code 8 = .ok (.getfield 122, 3) := by decide +kernel
theorem d_X11_hasEnded_11 : decode prog_13_method_44_code 11 = .ok (.iload_n 1, 1) := by decide +kernel
theorem d_X11_hasEnded_12 : decode prog_13_method_44_code 12 = .ok (.aload_n 0, 1) := by decide +kernel
theorem d_X11_hasEnded_13 : decode prog_13_method_44_code 13 = .ok (.getfield 70, 3) := by decide +kernel
theorem d_X11_hasEnded_16 : decode prog_13_method_44_code 16 = .ok (.iload_n 2, 1) := by decide +kernel
theorem d_X11_hasEnded_17 : decode prog_13_method_44_code 17 = .ok (.iaload, 1) := by decide +kernel
theorem d_X11_hasEnded_18 : decode prog_13_method_44_code 18 = .ok (.iastore, 1) := by decide +kernel
theorem d_X11_hasEnded_19 : decode prog_13_method_44_code 19 = .ok (.return_, 1) := by decide +kernel
abbrev Y_X11_waits : Yx := (⟨"TaskWeaveModel", "waits", "(IIII)V"⟩, prog_13_method_46_code, 8, none)
abbrev M_X11_waits : Mx := ("TaskWeaveModel", prog_13_method_46_code, 8, false)
theorem yk_X11_waits : Yk Y_X11_waits 4 := ⟨by decide +kernel, by decide +kernel, ⟨by decide, by decide⟩, by decide +kernel, by decide, by decide +kernel⟩
theorem d_X11_waits_0 : decode prog_13_method_46_code 0 = .ok (.aload_n 0, 1) := by decide +kernel
theorem d_X11_waits_1 : decode prog_13_method_46_code 1 = .ok (.iconst 0, 1) := by decide +kernel
theorem d_X11_waits_2 : decode prog_13_method_46_code 2 = .ok (.putfield 327, 3) := by decide +kernel
theorem d_X11_waits_5 : decode prog_13_method_46_code 5 = .ok (.aload_n 0, 1) := by decide +kernel
theorem d_X11_waits_6 : decode prog_13_method_46_code 6 = .ok (.getfield 318, 3) := by decide +kernel
theorem d_X11_waits_9 : decode prog_13_method_46_code 9 = .ok (.aload_n 0, 1) := by decide +kernel
theorem d_X11_waits_10 : decode prog_13_method_46_code 10 = .ok (.getfield 113, 3) := by decide +kernel
theorem d_X11_waits_13 : decode prog_13_method_46_code 13 = .ok (.iload_n 1, 1) := by decide +kernel
theorem d_X11_waits_14 : decode prog_13_method_46_code 14 = .ok (.iaload, 1) := by decide +kernel
theorem d_X11_waits_15 : decode prog_13_method_46_code 15 = .ok (.if_icmp .ge 191, 3) := by decide +kernel
theorem d_X11_waits_18 : decode prog_13_method_46_code 18 = .ok (.aload_n 0, 1) := by decide +kernel
theorem d_X11_waits_19 : decode prog_13_method_46_code 19 = .ok (.iload_n 1, 1) := by decide +kernel
theorem d_X11_waits_20 : decode prog_13_method_46_code 20 = .ok (.aload_n 0, 1) := by decide +kernel
theorem d_X11_waits_21 : decode prog_13_method_46_code 21 = .ok (.getfield 318, 3) := by decide +kernel
theorem d_X11_waits_24 : decode prog_13_method_46_code 24 = .ok (.invokevirtual 305, 3) := by decide +kernel
theorem d_X11_waits_27 : decode prog_13_method_46_code 27 = .ok (.istore 5, 2) := by decide +kernel
theorem d_X11_waits_29 : decode prog_13_method_46_code 29 = .ok (.aload_n 0, 1) := by decide +kernel
theorem d_X11_waits_30 : decode prog_13_method_46_code 30 = .ok (.iload 5, 2) := by decide +kernel
theorem d_X11_waits_32 : decode prog_13_method_46_code 32 = .ok (.invokevirtual 286, 3) := by decide +kernel
theorem d_X11_waits_35 : decode prog_13_method_46_code 35 = .ok (.istore 6, 2) := by decide +kernel
theorem d_X11_waits_37 : decode prog_13_method_46_code 37 = .ok (.aload_n 0, 1) := by decide +kernel
theorem d_X11_waits_38 : decode prog_13_method_46_code 38 = .ok (.dup, 1) := by decide +kernel
theorem d_X11_waits_39 : decode prog_13_method_46_code 39 = .ok (.getfield 318, 3) := by decide +kernel
theorem d_X11_waits_42 : decode prog_13_method_46_code 42 = .ok (.iconst 1, 1) := by decide +kernel
theorem d_X11_waits_43 : decode prog_13_method_46_code 43 = .ok (.iadd, 1) := by decide +kernel
theorem d_X11_waits_44 : decode prog_13_method_46_code 44 = .ok (.putfield 318, 3) := by decide +kernel
theorem d_X11_waits_47 : decode prog_13_method_46_code 47 = .ok (.iload 6, 2) := by decide +kernel
theorem d_X11_waits_49 : decode prog_13_method_46_code 49 = .ok (.bipush 10, 2) := by decide +kernel
theorem d_X11_waits_51 : decode prog_13_method_46_code 51 = .ok (.if_icmp .lt 11, 3) := by decide +kernel
theorem d_X11_waits_54 : decode prog_13_method_46_code 54 = .ok (.aload_n 0, 1) := by decide +kernel
theorem d_X11_waits_55 : decode prog_13_method_46_code 55 = .ok (.iload_n 1, 1) := by decide +kernel
theorem d_X11_waits_56 : decode prog_13_method_46_code 56 = .ok (.iload 5, 2) := by decide +kernel
theorem d_X11_waits_58 : decode prog_13_method_46_code 58 = .ok (.invokevirtual 336, 3) := by decide +kernel
theorem d_X11_waits_61 : decode prog_13_method_46_code 61 = .ok (.return_, 1) := by decide +kernel
theorem d_X11_waits_62 : decode prog_13_method_46_code 62 = .ok (.iload_n 2, 1) := by decide +kernel
theorem d_X11_waits_63 : decode prog_13_method_46_code 63 = .ok (.iconst 1, 1) := by decide +kernel
theorem d_X11_waits_64 : decode prog_13_method_46_code 64 = .ok (.if_icmp .ne 10, 3) := by decide +kernel
theorem d_X11_waits_67 : decode prog_13_method_46_code 67 = .ok (.iload 6, 2) := by decide +kernel
theorem d_X11_waits_69 : decode prog_13_method_46_code 69 = .ok (.iconst 5, 1) := by decide +kernel
theorem d_X11_waits_70 : decode prog_13_method_46_code 70 = .ok (.if_icmp .ne 4, 3) := by decide +kernel
theorem d_X11_waits_73 : decode prog_13_method_46_code 73 = .ok (.return_, 1) := by decide +kernel
theorem d_X11_waits_74 : decode prog_13_method_46_code 74 = .ok (.iload_n 2, 1) := by decide +kernel
theorem d_X11_waits_75 : decode prog_13_method_46_code 75 = .ok (.ifCond .ne 23, 3) := by decide +kernel
theorem d_X11_waits_78 : decode prog_13_method_46_code 78 = .ok (.iload 6, 2) := by decide +kernel
theorem d_X11_waits_80 : decode prog_13_method_46_code 80 = .ok (.iconst 2, 1) := by decide +kernel
theorem d_X11_waits_81 : decode prog_13_method_46_code 81 = .ok (.if_icmp .eq 9, 3) := by decide +kernel
theorem d_X11_waits_84 : decode prog_13_method_46_code 84 = .ok (.iload 6, 2) := by decide +kernel
theorem d_X11_waits_86 : decode prog_13_method_46_code 86 = .ok (.iconst 3, 1) := by decide +kernel
theorem d_X11_waits_87 : decode prog_13_method_46_code 87 = .ok (.if_icmp .ne 7, 3) := by decide +kernel
theorem d_X11_waits_90 : decode prog_13_method_46_code 90 = .ok (.iconst 1, 1) := by decide +kernel
theorem d_X11_waits_91 : decode prog_13_method_46_code 91 = .ok (.goto 55, 3) := by decide +kernel
theorem d_X11_waits_94 : decode prog_13_method_46_code 94 = .ok (.iconst 0, 1) := by decide +kernel
theorem d_X11_waits_95 : decode prog_13_method_46_code 95 = .ok (.goto 51, 3) := by decide +kernel
theorem d_X11_waits_98 : decode prog_13_method_46_code 98 = .ok (.iload_n 2, 1) := by decide +kernel
theorem d_X11_waits_99 : decode prog_13_method_46_code 99 = .ok (.iconst 2, 1) := by decide +kernel
theorem d_X11_waits_100 : decode prog_13_method_46_code 100 = .ok (.if_icmp .ne 18, 3) := by decide +kernel
theorem d_X11_waits_103 : decode prog_13_method_46_code 103 = .ok (.iload 6, 2) := by decide +kernel
theorem d_X11_waits_105 : decode prog_13_method_46_code 105 = .ok (.bipush 8, 2) := by decide +kernel
theorem d_X11_waits_107 : decode prog_13_method_46_code 107 = .ok (.if_icmp .ne 7, 3) := by decide +kernel
theorem d_X11_waits_110 : decode prog_13_method_46_code 110 = .ok (.iconst 1, 1) := by decide +kernel
theorem d_X11_waits_111 : decode prog_13_method_46_code 111 = .ok (.goto 35, 3) := by decide +kernel
theorem d_X11_waits_114 : decode prog_13_method_46_code 114 = .ok (.iconst 0, 1) := by decide +kernel
theorem d_X11_waits_115 : decode prog_13_method_46_code 115 = .ok (.goto 31, 3) := by decide +kernel
theorem d_X11_waits_118 : decode prog_13_method_46_code 118 = .ok (.iload_n 2, 1) := by decide +kernel
theorem d_X11_waits_119 : decode prog_13_method_46_code 119 = .ok (.iconst 3, 1) := by decide +kernel
theorem d_X11_waits_120 : decode prog_13_method_46_code 120 = .ok (.if_icmp .ne 25, 3) := by decide +kernel
theorem d_X11_waits_123 : decode prog_13_method_46_code 123 = .ok (.iload 6, 2) := by decide +kernel
theorem d_X11_waits_125 : decode prog_13_method_46_code 125 = .ok (.bipush 7, 2) := by decide +kernel
theorem d_X11_waits_127 : decode prog_13_method_46_code 127 = .ok (.if_icmp .ne 18, 3) := by decide +kernel
theorem d_X11_waits_130 : decode prog_13_method_46_code 130 = .ok (.aload_n 0, 1) := by decide +kernel
theorem d_X11_waits_131 : decode prog_13_method_46_code 131 = .ok (.getfield 70, 3) := by decide +kernel
theorem d_X11_waits_134 : decode prog_13_method_46_code 134 = .ok (.iload 5, 2) := by decide +kernel
theorem d_X11_waits_136 : decode prog_13_method_46_code 136 = .ok (.iaload, 1) := by decide +kernel
theorem d_X11_waits_137 : decode prog_13_method_46_code 137 = .ok (.iload_n 3, 1) := by decide +kernel
theorem d_X11_waits_138 : decode prog_13_method_46_code 138 = .ok (.if_icmp .ne 7, 3) := by decide +kernel
theorem d_X11_waits_141 : decode prog_13_method_46_code 141 = .ok (.iconst 1, 1) := by decide +kernel
theorem d_X11_waits_142 : decode prog_13_method_46_code 142 = .ok (.goto 4, 3) := by decide +kernel
theorem d_X11_waits_145 : decode prog_13_method_46_code 145 = .ok (.iconst 0, 1) := by decide +kernel
theorem d_X11_waits_146 : decode prog_13_method_46_code 146 = .ok (.istore 7, 2) := by decide +kernel
theorem d_X11_waits_148 : decode prog_13_method_46_code 148 = .ok (.iload 7, 2) := by decide +kernel
theorem d_X11_waits_150 : decode prog_13_method_46_code 150 = .ok (.ifCond .ne 6, 3) := by decide +kernel
theorem d_X11_waits_153 : decode prog_13_method_46_code 153 = .ok (.goto (-148), 3) := by decide +kernel
theorem d_X11_waits_156 : decode prog_13_method_46_code 156 = .ok (.aload_n 0, 1) := by decide +kernel
theorem d_X11_waits_157 : decode prog_13_method_46_code 157 = .ok (.getfield 125, 3) := by decide +kernel
theorem d_X11_waits_160 : decode prog_13_method_46_code 160 = .ok (.bipush 8, 2) := by decide +kernel
theorem d_X11_waits_162 : decode prog_13_method_46_code 162 = .ok (.iload_n 1, 1) := by decide +kernel
theorem d_X11_waits_163 : decode prog_13_method_46_code 163 = .ok (.imul, 1) := by decide +kernel
theorem d_X11_waits_164 : decode prog_13_method_46_code 164 = .ok (.iload 4, 2) := by decide +kernel
theorem d_X11_waits_166 : decode prog_13_method_46_code 166 = .ok (.iadd, 1) := by decide +kernel
theorem d_X11_waits_167 : decode prog_13_method_46_code 167 = .ok (.iload_n 2, 1) := by decide +kernel
theorem d_X11_waits_168 : decode prog_13_method_46_code 168 = .ok (.iconst 3, 1) := by decide +kernel
theorem d_X11_waits_169 : decode prog_13_method_46_code 169 = .ok (.if_icmp .ne 13, 3) := by decide +kernel
theorem d_X11_waits_172 : decode prog_13_method_46_code 172 = .ok (.aload_n 0, 1) := by decide +kernel
theorem d_X11_waits_173 : decode prog_13_method_46_code 173 = .ok (.getfield 73, 3) := by decide +kernel
theorem d_X11_waits_176 : decode prog_13_method_46_code 176 = .ok (.iload 5, 2) := by decide +kernel
theorem d_X11_waits_178 : decode prog_13_method_46_code 178 = .ok (.iaload, 1) := by decide +kernel
theorem d_X11_waits_179 : decode prog_13_method_46_code 179 = .ok (.goto 10, 3) := by decide +kernel
theorem d_X11_waits_182 : decode prog_13_method_46_code 182 = .ok (.aload_n 0, 1) := by decide +kernel
theorem d_X11_waits_183 : decode prog_13_method_46_code 183 = .ok (.getfield 70, 3) := by decide +kernel
theorem d_X11_waits_186 : decode prog_13_method_46_code 186 = .ok (.iload 5, 2) := by decide +kernel
theorem d_X11_waits_188 : decode prog_13_method_46_code 188 = .ok (.iaload, 1) := by decide +kernel
theorem d_X11_waits_189 : decode prog_13_method_46_code 189 = .ok (.iastore, 1) := by decide +kernel
theorem d_X11_waits_190 : decode prog_13_method_46_code 190 = .ok (.iload_n 2, 1) := by decide +kernel
theorem d_X11_waits_191 : decode prog_13_method_46_code 191 = .ok (.iconst 2, 1) := by decide +kernel
theorem d_X11_waits_192 : decode prog_13_method_46_code 192 = .ok (.if_icmp .ne 13, 3) := by decide +kernel
theorem d_X11_waits_195 : decode prog_13_method_46_code 195 = .ok (.aload_n 0, 1) := by decide +kernel
theorem d_X11_waits_196 : decode prog_13_method_46_code 196 = .ok (.dup, 1) := by decide +kernel
theorem d_X11_waits_197 : decode prog_13_method_46_code 197 = .ok (.getfield 321, 3) := by decide +kernel
theorem d_X11_waits_200 : decode prog_13_method_46_code 200 = .ok (.iconst 1, 1) := by decide +kernel
theorem d_X11_waits_201 : decode prog_13_method_46_code 201 = .ok (.iadd, 1) := by decide +kernel
theorem d_X11_waits_202 : decode prog_13_method_46_code 202 = .ok (.putfield 321, 3) := by decide +kernel
theorem d_X11_waits_205 : decode prog_13_method_46_code 205 = .ok (.return_, 1) := by decide +kernel
theorem d_X11_waits_206 : decode prog_13_method_46_code 206 = .ok (.aload_n 0, 1) := by decide +kernel
theorem d_X11_waits_207 : decode prog_13_method_46_code 207 = .ok (.getfield 119, 3) := by decide +kernel
theorem d_X11_waits_210 : decode prog_13_method_46_code 210 = .ok (.iload_n 1, 1) := by decide +kernel
theorem d_X11_waits_211 : decode prog_13_method_46_code 211 = .ok (.iload_n 2, 1) := by decide +kernel
theorem d_X11_waits_212 : decode prog_13_method_46_code 212 = .ok (.iastore, 1) := by decide +kernel
theorem d_X11_waits_213 : decode prog_13_method_46_code 213 = .ok (.return_, 1) := by decide +kernel
abbrev Y_X11_joins : Yx := (⟨"TaskWeaveModel", "joins", "(III)V"⟩, prog_13_method_52_code, 5, none)
abbrev M_X11_joins : Mx := ("TaskWeaveModel", prog_13_method_52_code, 5, false)
theorem yk_X11_joins : Yk Y_X11_joins 3 := ⟨by decide +kernel, by decide +kernel, ⟨by decide, by decide⟩, by decide +kernel, by decide, by decide +kernel⟩
theorem d_X11_joins_0 : decode prog_13_method_52_code 0 = .ok (.aload_n 0, 1) := by decide +kernel
theorem d_X11_joins_1 : decode prog_13_method_52_code 1 = .ok (.iload_n 1, 1) := by decide +kernel
theorem d_X11_joins_2 : decode prog_13_method_52_code 2 = .ok (.iload_n 2, 1) := by decide +kernel
theorem d_X11_joins_3 : decode prog_13_method_52_code 3 = .ok (.aload_n 0, 1) := by decide +kernel
theorem d_X11_joins_4 : decode prog_13_method_52_code 4 = .ok (.getfield 318, 3) := by decide +kernel
theorem d_X11_joins_7 : decode prog_13_method_52_code 7 = .ok (.invokevirtual 360, 3) := by decide +kernel
theorem d_X11_joins_10 : decode prog_13_method_52_code 10 = .ok (.istore 4, 2) := by decide +kernel
theorem d_X11_joins_12 : decode prog_13_method_52_code 12 = .ok (.iload_n 2, 1) := by decide +kernel
theorem d_X11_joins_13 : decode prog_13_method_52_code 13 = .ok (.aload_n 0, 1) := by decide +kernel
theorem d_X11_joins_14 : decode prog_13_method_52_code 14 = .ok (.getfield 324, 3) := by decide +kernel
theorem d_X11_joins_17 : decode prog_13_method_52_code 17 = .ok (.invokestatic 230, 3) := by decide +kernel
theorem d_X11_joins_20 : decode prog_13_method_52_code 20 = .ok (.ifCond .ne 18, 3) := by decide +kernel
theorem d_X11_joins_23 : decode prog_13_method_52_code 23 = .ok (.aload_n 0, 1) := by decide +kernel
theorem d_X11_joins_24 : decode prog_13_method_52_code 24 = .ok (.getfield 125, 3) := by decide +kernel
theorem d_X11_joins_27 : decode prog_13_method_52_code 27 = .ok (.bipush 8, 2) := by decide +kernel
theorem d_X11_joins_29 : decode prog_13_method_52_code 29 = .ok (.iload_n 1, 1) := by decide +kernel
theorem d_X11_joins_30 : decode prog_13_method_52_code 30 = .ok (.imul, 1) := by decide +kernel
theorem d_X11_joins_31 : decode prog_13_method_52_code 31 = .ok (.iload_n 3, 1) := by decide +kernel
theorem d_X11_joins_32 : decode prog_13_method_52_code 32 = .ok (.iadd, 1) := by decide +kernel
theorem d_X11_joins_33 : decode prog_13_method_52_code 33 = .ok (.iconst (-1), 1) := by decide +kernel
theorem d_X11_joins_34 : decode prog_13_method_52_code 34 = .ok (.iastore, 1) := by decide +kernel
theorem d_X11_joins_35 : decode prog_13_method_52_code 35 = .ok (.goto 38, 3) := by decide +kernel
theorem d_X11_joins_38 : decode prog_13_method_52_code 38 = .ok (.iload 4, 2) := by decide +kernel
theorem d_X11_joins_40 : decode prog_13_method_52_code 40 = .ok (.iconst (-1), 1) := by decide +kernel
theorem d_X11_joins_41 : decode prog_13_method_52_code 41 = .ok (.if_icmp .eq 24, 3) := by decide +kernel
theorem d_X11_joins_44 : decode prog_13_method_52_code 44 = .ok (.aload_n 0, 1) := by decide +kernel
theorem d_X11_joins_45 : decode prog_13_method_52_code 45 = .ok (.getfield 125, 3) := by decide +kernel
theorem d_X11_joins_48 : decode prog_13_method_52_code 48 = .ok (.bipush 8, 2) := by decide +kernel
theorem d_X11_joins_50 : decode prog_13_method_52_code 50 = .ok (.iload_n 1, 1) := by decide +kernel
theorem d_X11_joins_51 : decode prog_13_method_52_code 51 = .ok (.imul, 1) := by decide +kernel
theorem d_X11_joins_52 : decode prog_13_method_52_code 52 = .ok (.iload_n 3, 1) := by decide +kernel
theorem d_X11_joins_53 : decode prog_13_method_52_code 53 = .ok (.iadd, 1) := by decide +kernel
theorem d_X11_joins_54 : decode prog_13_method_52_code 54 = .ok (.aload_n 0, 1) := by decide +kernel
theorem d_X11_joins_55 : decode prog_13_method_52_code 55 = .ok (.getfield 73, 3) := by decide +kernel
theorem d_X11_joins_58 : decode prog_13_method_52_code 58 = .ok (.iload 4, 2) := by decide +kernel
theorem d_X11_joins_60 : decode prog_13_method_52_code 60 = .ok (.iaload, 1) := by decide +kernel
theorem d_X11_joins_61 : decode prog_13_method_52_code 61 = .ok (.iastore, 1) := by decide +kernel
theorem d_X11_joins_62 : decode prog_13_method_52_code 62 = .ok (.goto 11, 3) := by decide +kernel
theorem d_X11_joins_65 : decode prog_13_method_52_code 65 = .ok (.aload_n 0, 1) := by decide +kernel
theorem d_X11_joins_66 : decode prog_13_method_52_code 66 = .ok (.iload_n 1, 1) := by decide +kernel
theorem d_X11_joins_67 : decode prog_13_method_52_code 67 = .ok (.iconst 3, 1) := by decide +kernel
theorem d_X11_joins_68 : decode prog_13_method_52_code 68 = .ok (.iload_n 2, 1) := by decide +kernel
theorem d_X11_joins_69 : decode prog_13_method_52_code 69 = .ok (.iload_n 3, 1) := by decide +kernel
theorem d_X11_joins_70 : decode prog_13_method_52_code 70 = .ok (.invokevirtual 351, 3) := by decide +kernel
theorem d_X11_joins_73 : decode prog_13_method_52_code 73 = .ok (.return_, 1) := by decide +kernel
abbrev Y_X11_own : Yx := (⟨"TaskWeaveModel", "own", "(IIII)Z"⟩, prog_13_method_45_code, 6, (some .boolean))
abbrev M_X11_own : Mx := ("TaskWeaveModel", prog_13_method_45_code, 6, false)
theorem yk_X11_own : Yk Y_X11_own 4 := ⟨by decide +kernel, by decide +kernel, ⟨by decide, by decide⟩, by decide +kernel, by decide, by decide +kernel⟩
theorem d_X11_own_0 : decode prog_13_method_45_code 0 = .ok (.aload_n 0, 1) := by decide +kernel
theorem d_X11_own_1 : decode prog_13_method_45_code 1 = .ok (.getfield 318, 3) := by decide +kernel
theorem d_X11_own_4 : decode prog_13_method_45_code 4 = .ok (.aload_n 0, 1) := by decide +kernel
theorem d_X11_own_5 : decode prog_13_method_45_code 5 = .ok (.getfield 113, 3) := by decide +kernel
theorem d_X11_own_8 : decode prog_13_method_45_code 8 = .ok (.iload_n 1, 1) := by decide +kernel
theorem d_X11_own_9 : decode prog_13_method_45_code 9 = .ok (.iaload, 1) := by decide +kernel
theorem d_X11_own_10 : decode prog_13_method_45_code 10 = .ok (.if_icmp .ge 59, 3) := by decide +kernel
theorem d_X11_own_13 : decode prog_13_method_45_code 13 = .ok (.aload_n 0, 1) := by decide +kernel
theorem d_X11_own_14 : decode prog_13_method_45_code 14 = .ok (.iload_n 1, 1) := by decide +kernel
theorem d_X11_own_15 : decode prog_13_method_45_code 15 = .ok (.aload_n 0, 1) := by decide +kernel
theorem d_X11_own_16 : decode prog_13_method_45_code 16 = .ok (.getfield 318, 3) := by decide +kernel
theorem d_X11_own_19 : decode prog_13_method_45_code 19 = .ok (.invokevirtual 305, 3) := by decide +kernel
theorem d_X11_own_22 : decode prog_13_method_45_code 22 = .ok (.istore 5, 2) := by decide +kernel
theorem d_X11_own_24 : decode prog_13_method_45_code 24 = .ok (.aload_n 0, 1) := by decide +kernel
theorem d_X11_own_25 : decode prog_13_method_45_code 25 = .ok (.dup, 1) := by decide +kernel
theorem d_X11_own_26 : decode prog_13_method_45_code 26 = .ok (.getfield 318, 3) := by decide +kernel
theorem d_X11_own_29 : decode prog_13_method_45_code 29 = .ok (.iconst 1, 1) := by decide +kernel
theorem d_X11_own_30 : decode prog_13_method_45_code 30 = .ok (.iadd, 1) := by decide +kernel
theorem d_X11_own_31 : decode prog_13_method_45_code 31 = .ok (.putfield 318, 3) := by decide +kernel
theorem d_X11_own_34 : decode prog_13_method_45_code 34 = .ok (.aload_n 0, 1) := by decide +kernel
theorem d_X11_own_35 : decode prog_13_method_45_code 35 = .ok (.iload 5, 2) := by decide +kernel
theorem d_X11_own_37 : decode prog_13_method_45_code 37 = .ok (.invokevirtual 286, 3) := by decide +kernel
theorem d_X11_own_40 : decode prog_13_method_45_code 40 = .ok (.bipush 10, 2) := by decide +kernel
theorem d_X11_own_42 : decode prog_13_method_45_code 42 = .ok (.if_icmp .lt 10, 3) := by decide +kernel
theorem d_X11_own_45 : decode prog_13_method_45_code 45 = .ok (.aload_n 0, 1) := by decide +kernel
theorem d_X11_own_46 : decode prog_13_method_45_code 46 = .ok (.iload_n 1, 1) := by decide +kernel
theorem d_X11_own_47 : decode prog_13_method_45_code 47 = .ok (.iload 5, 2) := by decide +kernel
theorem d_X11_own_49 : decode prog_13_method_45_code 49 = .ok (.invokevirtual 336, 3) := by decide +kernel
theorem d_X11_own_52 : decode prog_13_method_45_code 52 = .ok (.aload_n 0, 1) := by decide +kernel
theorem d_X11_own_53 : decode prog_13_method_45_code 53 = .ok (.getfield 119, 3) := by decide +kernel
theorem d_X11_own_56 : decode prog_13_method_45_code 56 = .ok (.iload_n 1, 1) := by decide +kernel
theorem d_X11_own_57 : decode prog_13_method_45_code 57 = .ok (.iaload, 1) := by decide +kernel
theorem d_X11_own_58 : decode prog_13_method_45_code 58 = .ok (.bipush 6, 2) := by decide +kernel
theorem d_X11_own_60 : decode prog_13_method_45_code 60 = .ok (.if_icmp .ne 7, 3) := by decide +kernel
theorem d_X11_own_63 : decode prog_13_method_45_code 63 = .ok (.iconst 1, 1) := by decide +kernel
theorem d_X11_own_64 : decode prog_13_method_45_code 64 = .ok (.goto 4, 3) := by decide +kernel
theorem d_X11_own_67 : decode prog_13_method_45_code 67 = .ok (.iconst 0, 1) := by decide +kernel
theorem d_X11_own_68 : decode prog_13_method_45_code 68 = .ok (.ireturn, 1) := by decide +kernel
theorem d_X11_own_69 : decode prog_13_method_45_code 69 = .ok (.aload_n 0, 1) := by decide +kernel
theorem d_X11_own_70 : decode prog_13_method_45_code 70 = .ok (.getfield 119, 3) := by decide +kernel
theorem d_X11_own_73 : decode prog_13_method_45_code 73 = .ok (.iload_n 1, 1) := by decide +kernel
theorem d_X11_own_74 : decode prog_13_method_45_code 74 = .ok (.iconst 5, 1) := by decide +kernel
theorem d_X11_own_75 : decode prog_13_method_45_code 75 = .ok (.iastore, 1) := by decide +kernel
theorem d_X11_own_76 : decode prog_13_method_45_code 76 = .ok (.aload_n 0, 1) := by decide +kernel
theorem d_X11_own_77 : decode prog_13_method_45_code 77 = .ok (.getfield 134, 3) := by decide +kernel
theorem d_X11_own_80 : decode prog_13_method_45_code 80 = .ok (.iload_n 1, 1) := by decide +kernel
theorem d_X11_own_81 : decode prog_13_method_45_code 81 = .ok (.iload_n 2, 1) := by decide +kernel
theorem d_X11_own_82 : decode prog_13_method_45_code 82 = .ok (.iastore, 1) := by decide +kernel
theorem d_X11_own_83 : decode prog_13_method_45_code 83 = .ok (.aload_n 0, 1) := by decide +kernel
theorem d_X11_own_84 : decode prog_13_method_45_code 84 = .ok (.getfield 137, 3) := by decide +kernel
theorem d_X11_own_87 : decode prog_13_method_45_code 87 = .ok (.iload_n 1, 1) := by decide +kernel
theorem d_X11_own_88 : decode prog_13_method_45_code 88 = .ok (.iload_n 3, 1) := by decide +kernel
theorem d_X11_own_89 : decode prog_13_method_45_code 89 = .ok (.iastore, 1) := by decide +kernel
theorem d_X11_own_90 : decode prog_13_method_45_code 90 = .ok (.aload_n 0, 1) := by decide +kernel
theorem d_X11_own_91 : decode prog_13_method_45_code 91 = .ok (.getfield 140, 3) := by decide +kernel
theorem d_X11_own_94 : decode prog_13_method_45_code 94 = .ok (.iload_n 1, 1) := by decide +kernel
theorem d_X11_own_95 : decode prog_13_method_45_code 95 = .ok (.iload 4, 2) := by decide +kernel
theorem d_X11_own_97 : decode prog_13_method_45_code 97 = .ok (.iastore, 1) := by decide +kernel
theorem d_X11_own_98 : decode prog_13_method_45_code 98 = .ok (.iconst 0, 1) := by decide +kernel
theorem d_X11_own_99 : decode prog_13_method_45_code 99 = .ok (.ireturn, 1) := by decide +kernel
abbrev Y_X11_takesSignal : Yx := (⟨"TaskWeaveModel", "takesSignal", "(II)V"⟩, prog_13_method_50_code, 5, none)
abbrev M_X11_takesSignal : Mx := ("TaskWeaveModel", prog_13_method_50_code, 5, false)
theorem yk_X11_takesSignal : Yk Y_X11_takesSignal 2 := ⟨by decide +kernel, by decide +kernel, ⟨by decide, by decide⟩, by decide +kernel, by decide, by decide +kernel⟩
theorem d_X11_takesSignal_0 : decode prog_13_method_50_code 0 = .ok (.iconst 0, 1) := by decide +kernel
theorem d_X11_takesSignal_1 : decode prog_13_method_50_code 1 = .ok (.istore_n 3, 1) := by decide +kernel
theorem d_X11_takesSignal_2 : decode prog_13_method_50_code 2 = .ok (.iconst 0, 1) := by decide +kernel
theorem d_X11_takesSignal_3 : decode prog_13_method_50_code 3 = .ok (.istore 4, 2) := by decide +kernel
theorem d_X11_takesSignal_5 : decode prog_13_method_50_code 5 = .ok (.iload 4, 2) := by decide +kernel
theorem d_X11_takesSignal_7 : decode prog_13_method_50_code 7 = .ok (.aload_n 0, 1) := by decide +kernel
theorem d_X11_takesSignal_8 : decode prog_13_method_50_code 8 = .ok (.getfield 318, 3) := by decide +kernel
theorem d_X11_takesSignal_11 : decode prog_13_method_50_code 11 = .ok (.if_icmp .ge 73, 3) := by decide +kernel
theorem d_X11_takesSignal_14 : decode prog_13_method_50_code 14 = .ok (.aload_n 0, 1) := by decide +kernel
theorem d_X11_takesSignal_15 : decode prog_13_method_50_code 15 = .ok (.aload_n 0, 1) := by decide +kernel
theorem d_X11_takesSignal_16 : decode prog_13_method_50_code 16 = .ok (.iload_n 1, 1) := by decide +kernel
theorem d_X11_takesSignal_17 : decode prog_13_method_50_code 17 = .ok (.iload 4, 2) := by decide +kernel
theorem d_X11_takesSignal_19 : decode prog_13_method_50_code 19 = .ok (.invokevirtual 305, 3) := by decide +kernel
theorem d_X11_takesSignal_22 : decode prog_13_method_50_code 22 = .ok (.invokevirtual 286, 3) := by decide +kernel
theorem d_X11_takesSignal_25 : decode prog_13_method_50_code 25 = .ok (.bipush 8, 2) := by decide +kernel
theorem d_X11_takesSignal_27 : decode prog_13_method_50_code 27 = .ok (.if_icmp .eq 6, 3) := by decide +kernel
theorem d_X11_takesSignal_30 : decode prog_13_method_50_code 30 = .ok (.goto 48, 3) := by decide +kernel
theorem d_X11_takesSignal_33 : decode prog_13_method_50_code 33 = .ok (.iload_n 3, 1) := by decide +kernel
theorem d_X11_takesSignal_34 : decode prog_13_method_50_code 34 = .ok (.aload_n 0, 1) := by decide +kernel
theorem d_X11_takesSignal_35 : decode prog_13_method_50_code 35 = .ok (.getfield 321, 3) := by decide +kernel
theorem d_X11_takesSignal_38 : decode prog_13_method_50_code 38 = .ok (.if_icmp .ne 37, 3) := by decide +kernel
theorem d_X11_takesSignal_41 : decode prog_13_method_50_code 41 = .ok (.aload_n 0, 1) := by decide +kernel
theorem d_X11_takesSignal_42 : decode prog_13_method_50_code 42 = .ok (.getfield 125, 3) := by decide +kernel
theorem d_X11_takesSignal_45 : decode prog_13_method_50_code 45 = .ok (.bipush 8, 2) := by decide +kernel
theorem d_X11_takesSignal_47 : decode prog_13_method_50_code 47 = .ok (.iload_n 1, 1) := by decide +kernel
theorem d_X11_takesSignal_48 : decode prog_13_method_50_code 48 = .ok (.imul, 1) := by decide +kernel
theorem d_X11_takesSignal_49 : decode prog_13_method_50_code 49 = .ok (.iload_n 2, 1) := by decide +kernel
theorem d_X11_takesSignal_50 : decode prog_13_method_50_code 50 = .ok (.iadd, 1) := by decide +kernel
theorem d_X11_takesSignal_51 : decode prog_13_method_50_code 51 = .ok (.aload_n 0, 1) := by decide +kernel
theorem d_X11_takesSignal_52 : decode prog_13_method_50_code 52 = .ok (.getfield 70, 3) := by decide +kernel
theorem d_X11_takesSignal_55 : decode prog_13_method_50_code 55 = .ok (.aload_n 0, 1) := by decide +kernel
theorem d_X11_takesSignal_56 : decode prog_13_method_50_code 56 = .ok (.iload_n 1, 1) := by decide +kernel
theorem d_X11_takesSignal_57 : decode prog_13_method_50_code 57 = .ok (.iload 4, 2) := by decide +kernel
theorem d_X11_takesSignal_59 : decode prog_13_method_50_code 59 = .ok (.invokevirtual 305, 3) := by decide +kernel
theorem d_X11_takesSignal_62 : decode prog_13_method_50_code 62 = .ok (.iaload, 1) := by decide +kernel
theorem d_X11_takesSignal_63 : decode prog_13_method_50_code 63 = .ok (.iastore, 1) := by decide +kernel
theorem d_X11_takesSignal_64 : decode prog_13_method_50_code 64 = .ok (.aload_n 0, 1) := by decide +kernel
theorem d_X11_takesSignal_65 : decode prog_13_method_50_code 65 = .ok (.dup, 1) := by decide +kernel
theorem d_X11_takesSignal_66 : decode prog_13_method_50_code 66 = .ok (.getfield 321, 3) := by decide +kernel
theorem d_X11_takesSignal_69 : decode prog_13_method_50_code 69 = .ok (.iconst 1, 1) := by decide +kernel
theorem d_X11_takesSignal_70 : decode prog_13_method_50_code 70 = .ok (.iadd, 1) := by decide +kernel
theorem d_X11_takesSignal_71 : decode prog_13_method_50_code 71 = .ok (.putfield 321, 3) := by decide +kernel
theorem d_X11_takesSignal_74 : decode prog_13_method_50_code 74 = .ok (.return_, 1) := by decide +kernel
theorem d_X11_takesSignal_75 : decode prog_13_method_50_code 75 = .ok (.iinc 3 1, 3) := by decide +kernel
theorem d_X11_takesSignal_78 : decode prog_13_method_50_code 78 = .ok (.iinc 4 1, 3) := by decide +kernel
theorem d_X11_takesSignal_81 : decode prog_13_method_50_code 81 = .ok (.goto (-76), 3) := by decide +kernel
theorem d_X11_takesSignal_84 : decode prog_13_method_50_code 84 = .ok (.aload_n 0, 1) := by decide +kernel
theorem d_X11_takesSignal_85 : decode prog_13_method_50_code 85 = .ok (.iload_n 1, 1) := by decide +kernel
theorem d_X11_takesSignal_86 : decode prog_13_method_50_code 86 = .ok (.iconst 2, 1) := by decide +kernel
theorem d_X11_takesSignal_87 : decode prog_13_method_50_code 87 = .ok (.iconst 0, 1) := by decide +kernel
theorem d_X11_takesSignal_88 : decode prog_13_method_50_code 88 = .ok (.iload_n 2, 1) := by decide +kernel
theorem d_X11_takesSignal_89 : decode prog_13_method_50_code 89 = .ok (.invokevirtual 351, 3) := by decide +kernel
theorem d_X11_takesSignal_92 : decode prog_13_method_50_code 92 = .ok (.return_, 1) := by decide +kernel
abbrev Y_X11_asks : Yx := (⟨"TaskWeaveModel", "asks", "(IIII)V"⟩, prog_13_method_49_code, 7, none)
abbrev M_X11_asks : Mx := ("TaskWeaveModel", prog_13_method_49_code, 7, false)
theorem yk_X11_asks : Yk Y_X11_asks 4 := ⟨by decide +kernel, by decide +kernel, ⟨by decide, by decide⟩, by decide +kernel, by decide, by decide +kernel⟩
theorem d_X11_asks_0 : decode prog_13_method_49_code 0 = .ok (.aload_n 0, 1) := by decide +kernel
theorem d_X11_asks_1 : decode prog_13_method_49_code 1 = .ok (.getfield 35, 3) := by decide +kernel
theorem d_X11_asks_4 : decode prog_13_method_49_code 4 = .ok (.iload_n 2, 1) := by decide +kernel
theorem d_X11_asks_5 : decode prog_13_method_49_code 5 = .ok (.iaload, 1) := by decide +kernel
theorem d_X11_asks_6 : decode prog_13_method_49_code 6 = .ok (.tableswitch 257 6 11 #[38, 127, 141, 191, 70, 206], 38) := by decide +kernel
theorem d_X11_asks_44 : decode prog_13_method_49_code 44 = .ok (.aload_n 0, 1) := by decide +kernel
theorem d_X11_asks_45 : decode prog_13_method_49_code 45 = .ok (.iload_n 1, 1) := by decide +kernel
theorem d_X11_asks_46 : decode prog_13_method_49_code 46 = .ok (.iconst 1, 1) := by decide +kernel
theorem d_X11_asks_47 : decode prog_13_method_49_code 47 = .ok (.aload_n 0, 1) := by decide +kernel
theorem d_X11_asks_48 : decode prog_13_method_49_code 48 = .ok (.getfield 54, 3) := by decide +kernel
theorem d_X11_asks_51 : decode prog_13_method_49_code 51 = .ok (.iload_n 2, 1) := by decide +kernel
theorem d_X11_asks_52 : decode prog_13_method_49_code 52 = .ok (.iaload, 1) := by decide +kernel
theorem d_X11_asks_53 : decode prog_13_method_49_code 53 = .ok (.iload_n 3, 1) := by decide +kernel
theorem d_X11_asks_54 : decode prog_13_method_49_code 54 = .ok (.invokevirtual 339, 3) := by decide +kernel
theorem d_X11_asks_57 : decode prog_13_method_49_code 57 = .ok (.ifCond .eq 217, 3) := by decide +kernel
theorem d_X11_asks_60 : decode prog_13_method_49_code 60 = .ok (.aload_n 0, 1) := by decide +kernel
theorem d_X11_asks_61 : decode prog_13_method_49_code 61 = .ok (.iload_n 1, 1) := by decide +kernel
theorem d_X11_asks_62 : decode prog_13_method_49_code 62 = .ok (.iconst 0, 1) := by decide +kernel
theorem d_X11_asks_63 : decode prog_13_method_49_code 63 = .ok (.iconst 0, 1) := by decide +kernel
theorem d_X11_asks_64 : decode prog_13_method_49_code 64 = .ok (.aload_n 0, 1) := by decide +kernel
theorem d_X11_asks_65 : decode prog_13_method_49_code 65 = .ok (.getfield 38, 3) := by decide +kernel
theorem d_X11_asks_68 : decode prog_13_method_49_code 68 = .ok (.iload_n 2, 1) := by decide +kernel
theorem d_X11_asks_69 : decode prog_13_method_49_code 69 = .ok (.iaload, 1) := by decide +kernel
theorem d_X11_asks_70 : decode prog_13_method_49_code 70 = .ok (.invokevirtual 351, 3) := by decide +kernel
theorem d_X11_asks_73 : decode prog_13_method_49_code 73 = .ok (.goto 201, 3) := by decide +kernel
theorem d_X11_asks_76 : decode prog_13_method_49_code 76 = .ok (.aload_n 0, 1) := by decide +kernel
theorem d_X11_asks_77 : decode prog_13_method_49_code 77 = .ok (.iload_n 1, 1) := by decide +kernel
theorem d_X11_asks_78 : decode prog_13_method_49_code 78 = .ok (.iconst 4, 1) := by decide +kernel
theorem d_X11_asks_79 : decode prog_13_method_49_code 79 = .ok (.aload_n 0, 1) := by decide +kernel
theorem d_X11_asks_80 : decode prog_13_method_49_code 80 = .ok (.getfield 283, 3) := by decide +kernel
theorem d_X11_asks_83 : decode prog_13_method_49_code 83 = .ok (.iload_n 3, 1) := by decide +kernel
theorem d_X11_asks_84 : decode prog_13_method_49_code 84 = .ok (.ifCond .ge 7, 3) := by decide +kernel
theorem d_X11_asks_87 : decode prog_13_method_49_code 87 = .ok (.iconst 0, 1) := by decide +kernel
theorem d_X11_asks_88 : decode prog_13_method_49_code 88 = .ok (.goto 4, 3) := by decide +kernel
theorem d_X11_asks_91 : decode prog_13_method_49_code 91 = .ok (.iload_n 3, 1) := by decide +kernel
theorem d_X11_asks_92 : decode prog_13_method_49_code 92 = .ok (.iadd, 1) := by decide +kernel
theorem d_X11_asks_93 : decode prog_13_method_49_code 93 = .ok (.iconst 0, 1) := by decide +kernel
theorem d_X11_asks_94 : decode prog_13_method_49_code 94 = .ok (.invokevirtual 339, 3) := by decide +kernel
theorem d_X11_asks_97 : decode prog_13_method_49_code 97 = .ok (.ifCond .eq 177, 3) := by decide +kernel
theorem d_X11_asks_100 : decode prog_13_method_49_code 100 = .ok (.aload_n 0, 1) := by decide +kernel
theorem d_X11_asks_101 : decode prog_13_method_49_code 101 = .ok (.getfield 143, 3) := by decide +kernel
theorem d_X11_asks_104 : decode prog_13_method_49_code 104 = .ok (.iload_n 1, 1) := by decide +kernel
theorem d_X11_asks_105 : decode prog_13_method_49_code 105 = .ok (.aload_n 0, 1) := by decide +kernel
theorem d_X11_asks_106 : decode prog_13_method_49_code 106 = .ok (.getfield 70, 3) := by decide +kernel
theorem d_X11_asks_109 : decode prog_13_method_49_code 109 = .ok (.aload_n 0, 1) := by decide +kernel
theorem d_X11_asks_110 : decode prog_13_method_49_code 110 = .ok (.iload_n 1, 1) := by decide +kernel
theorem d_X11_asks_111 : decode prog_13_method_49_code 111 = .ok (.aload_n 0, 1) := by decide +kernel
theorem d_X11_asks_112 : decode prog_13_method_49_code 112 = .ok (.getfield 318, 3) := by decide +kernel
theorem d_X11_asks_115 : decode prog_13_method_49_code 115 = .ok (.iconst 1, 1) := by decide +kernel
theorem d_X11_asks_116 : decode prog_13_method_49_code 116 = .ok (.isub, 1) := by decide +kernel
theorem d_X11_asks_117 : decode prog_13_method_49_code 117 = .ok (.invokevirtual 305, 3) := by decide +kernel
theorem d_X11_asks_120 : decode prog_13_method_49_code 120 = .ok (.iaload, 1) := by decide +kernel
theorem d_X11_asks_121 : decode prog_13_method_49_code 121 = .ok (.iastore, 1) := by decide +kernel
theorem d_X11_asks_122 : decode prog_13_method_49_code 122 = .ok (.aload_n 0, 1) := by decide +kernel
theorem d_X11_asks_123 : decode prog_13_method_49_code 123 = .ok (.iload_n 1, 1) := by decide +kernel
theorem d_X11_asks_124 : decode prog_13_method_49_code 124 = .ok (.iconst 1, 1) := by decide +kernel
theorem d_X11_asks_125 : decode prog_13_method_49_code 125 = .ok (.iconst 0, 1) := by decide +kernel
theorem d_X11_asks_126 : decode prog_13_method_49_code 126 = .ok (.iconst 0, 1) := by decide +kernel
theorem d_X11_asks_127 : decode prog_13_method_49_code 127 = .ok (.invokevirtual 351, 3) := by decide +kernel
theorem d_X11_asks_130 : decode prog_13_method_49_code 130 = .ok (.goto 144, 3) := by decide +kernel
theorem d_X11_asks_133 : decode prog_13_method_49_code 133 = .ok (.aload_n 0, 1) := by decide +kernel
theorem d_X11_asks_134 : decode prog_13_method_49_code 134 = .ok (.iload_n 1, 1) := by decide +kernel
theorem d_X11_asks_135 : decode prog_13_method_49_code 135 = .ok (.aload_n 0, 1) := by decide +kernel
theorem d_X11_asks_136 : decode prog_13_method_49_code 136 = .ok (.getfield 38, 3) := by decide +kernel
theorem d_X11_asks_139 : decode prog_13_method_49_code 139 = .ok (.iload_n 2, 1) := by decide +kernel
theorem d_X11_asks_140 : decode prog_13_method_49_code 140 = .ok (.iaload, 1) := by decide +kernel
theorem d_X11_asks_141 : decode prog_13_method_49_code 141 = .ok (.invokevirtual 354, 3) := by decide +kernel
theorem d_X11_asks_144 : decode prog_13_method_49_code 144 = .ok (.goto 130, 3) := by decide +kernel
theorem d_X11_asks_147 : decode prog_13_method_49_code 147 = .ok (.aload_n 0, 1) := by decide +kernel
theorem d_X11_asks_148 : decode prog_13_method_49_code 148 = .ok (.iload_n 1, 1) := by decide +kernel
theorem d_X11_asks_149 : decode prog_13_method_49_code 149 = .ok (.bipush 6, 2) := by decide +kernel
theorem d_X11_asks_151 : decode prog_13_method_49_code 151 = .ok (.aload_n 0, 1) := by decide +kernel
theorem d_X11_asks_152 : decode prog_13_method_49_code 152 = .ok (.getfield 54, 3) := by decide +kernel
theorem d_X11_asks_155 : decode prog_13_method_49_code 155 = .ok (.iload_n 2, 1) := by decide +kernel
theorem d_X11_asks_156 : decode prog_13_method_49_code 156 = .ok (.iaload, 1) := by decide +kernel
theorem d_X11_asks_157 : decode prog_13_method_49_code 157 = .ok (.iload_n 3, 1) := by decide +kernel
theorem d_X11_asks_158 : decode prog_13_method_49_code 158 = .ok (.invokevirtual 339, 3) := by decide +kernel
theorem d_X11_asks_161 : decode prog_13_method_49_code 161 = .ok (.ifCond .eq 113, 3) := by decide +kernel
theorem d_X11_asks_164 : decode prog_13_method_49_code 164 = .ok (.aload_n 0, 1) := by decide +kernel
theorem d_X11_asks_165 : decode prog_13_method_49_code 165 = .ok (.getfield 125, 3) := by decide +kernel
theorem d_X11_asks_168 : decode prog_13_method_49_code 168 = .ok (.bipush 8, 2) := by decide +kernel
theorem d_X11_asks_170 : decode prog_13_method_49_code 170 = .ok (.iload_n 1, 1) := by decide +kernel
theorem d_X11_asks_171 : decode prog_13_method_49_code 171 = .ok (.imul, 1) := by decide +kernel
theorem d_X11_asks_172 : decode prog_13_method_49_code 172 = .ok (.aload_n 0, 1) := by decide +kernel
theorem d_X11_asks_173 : decode prog_13_method_49_code 173 = .ok (.getfield 38, 3) := by decide +kernel
theorem d_X11_asks_176 : decode prog_13_method_49_code 176 = .ok (.iload_n 2, 1) := by decide +kernel
theorem d_X11_asks_177 : decode prog_13_method_49_code 177 = .ok (.iaload, 1) := by decide +kernel
theorem d_X11_asks_178 : decode prog_13_method_49_code 178 = .ok (.iadd, 1) := by decide +kernel
theorem d_X11_asks_179 : decode prog_13_method_49_code 179 = .ok (.aload_n 0, 1) := by decide +kernel
theorem d_X11_asks_180 : decode prog_13_method_49_code 180 = .ok (.getfield 324, 3) := by decide +kernel
theorem d_X11_asks_183 : decode prog_13_method_49_code 183 = .ok (.iastore, 1) := by decide +kernel
theorem d_X11_asks_184 : decode prog_13_method_49_code 184 = .ok (.aload_n 0, 1) := by decide +kernel
theorem d_X11_asks_185 : decode prog_13_method_49_code 185 = .ok (.dup, 1) := by decide +kernel
theorem d_X11_asks_186 : decode prog_13_method_49_code 186 = .ok (.getfield 324, 3) := by decide +kernel
theorem d_X11_asks_189 : decode prog_13_method_49_code 189 = .ok (.iconst 1, 1) := by decide +kernel
theorem d_X11_asks_190 : decode prog_13_method_49_code 190 = .ok (.iadd, 1) := by decide +kernel
theorem d_X11_asks_191 : decode prog_13_method_49_code 191 = .ok (.putfield 324, 3) := by decide +kernel
theorem d_X11_asks_194 : decode prog_13_method_49_code 194 = .ok (.goto 80, 3) := by decide +kernel
theorem d_X11_asks_197 : decode prog_13_method_49_code 197 = .ok (.aload_n 0, 1) := by decide +kernel
theorem d_X11_asks_198 : decode prog_13_method_49_code 198 = .ok (.iload_n 1, 1) := by decide +kernel
theorem d_X11_asks_199 : decode prog_13_method_49_code 199 = .ok (.iload_n 3, 1) := by decide +kernel
theorem d_X11_asks_200 : decode prog_13_method_49_code 200 = .ok (.aload_n 0, 1) := by decide +kernel
theorem d_X11_asks_201 : decode prog_13_method_49_code 201 = .ok (.getfield 38, 3) := by decide +kernel
theorem d_X11_asks_204 : decode prog_13_method_49_code 204 = .ok (.iload_n 2, 1) := by decide +kernel
theorem d_X11_asks_205 : decode prog_13_method_49_code 205 = .ok (.iaload, 1) := by decide +kernel
theorem d_X11_asks_206 : decode prog_13_method_49_code 206 = .ok (.invokevirtual 357, 3) := by decide +kernel
theorem d_X11_asks_209 : decode prog_13_method_49_code 209 = .ok (.goto 65, 3) := by decide +kernel
theorem d_X11_asks_212 : decode prog_13_method_49_code 212 = .ok (.iload_n 3, 1) := by decide +kernel
theorem d_X11_asks_213 : decode prog_13_method_49_code 213 = .ok (.iconst (-1), 1) := by decide +kernel
theorem d_X11_asks_214 : decode prog_13_method_49_code 214 = .ok (.if_icmp .ne 15, 3) := by decide +kernel
theorem d_X11_asks_217 : decode prog_13_method_49_code 217 = .ok (.aload_n 0, 1) := by decide +kernel
theorem d_X11_asks_218 : decode prog_13_method_49_code 218 = .ok (.iload_n 1, 1) := by decide +kernel
theorem d_X11_asks_219 : decode prog_13_method_49_code 219 = .ok (.invokevirtual 302, 3) := by decide +kernel
theorem d_X11_asks_222 : decode prog_13_method_49_code 222 = .ok (.iconst (-1), 1) := by decide +kernel
theorem d_X11_asks_223 : decode prog_13_method_49_code 223 = .ok (.if_icmp .eq 34, 3) := by decide +kernel
theorem d_X11_asks_226 : decode prog_13_method_49_code 226 = .ok (.goto 14, 3) := by decide +kernel
theorem d_X11_asks_229 : decode prog_13_method_49_code 229 = .ok (.iload_n 3, 1) := by decide +kernel
theorem d_X11_asks_230 : decode prog_13_method_49_code 230 = .ok (.aload_n 0, 1) := by decide +kernel
theorem d_X11_asks_231 : decode prog_13_method_49_code 231 = .ok (.getfield 324, 3) := by decide +kernel
theorem d_X11_asks_234 : decode prog_13_method_49_code 234 = .ok (.invokestatic 230, 3) := by decide +kernel
theorem d_X11_asks_237 : decode prog_13_method_49_code 237 = .ok (.ifCond .eq 20, 3) := by decide +kernel
theorem d_X11_asks_240 : decode prog_13_method_49_code 240 = .ok (.aload_n 0, 1) := by decide +kernel
theorem d_X11_asks_241 : decode prog_13_method_49_code 241 = .ok (.iload_n 1, 1) := by decide +kernel
theorem d_X11_asks_242 : decode prog_13_method_49_code 242 = .ok (.bipush 9, 2) := by decide +kernel
theorem d_X11_asks_244 : decode prog_13_method_49_code 244 = .ok (.iload_n 3, 1) := by decide +kernel
theorem d_X11_asks_245 : decode prog_13_method_49_code 245 = .ok (.iload 4, 2) := by decide +kernel
theorem d_X11_asks_247 : decode prog_13_method_49_code 247 = .ok (.invokevirtual 339, 3) := by decide +kernel
theorem d_X11_asks_250 : decode prog_13_method_49_code 250 = .ok (.ifCond .eq 7, 3) := by decide +kernel
theorem d_X11_asks_253 : decode prog_13_method_49_code 253 = .ok (.iconst 1, 1) := by decide +kernel
theorem d_X11_asks_254 : decode prog_13_method_49_code 254 = .ok (.goto 4, 3) := by decide +kernel
theorem d_X11_asks_257 : decode prog_13_method_49_code 257 = .ok (.iconst 0, 1) := by decide +kernel
theorem d_X11_asks_258 : decode prog_13_method_49_code 258 = .ok (.istore 5, 2) := by decide +kernel
theorem d_X11_asks_260 : decode prog_13_method_49_code 260 = .ok (.goto 14, 3) := by decide +kernel
theorem d_X11_asks_263 : decode prog_13_method_49_code 263 = .ok (.aload_n 0, 1) := by decide +kernel
theorem d_X11_asks_264 : decode prog_13_method_49_code 264 = .ok (.iload_n 1, 1) := by decide +kernel
theorem d_X11_asks_265 : decode prog_13_method_49_code 265 = .ok (.bipush 10, 2) := by decide +kernel
theorem d_X11_asks_267 : decode prog_13_method_49_code 267 = .ok (.iload_n 3, 1) := by decide +kernel
theorem d_X11_asks_268 : decode prog_13_method_49_code 268 = .ok (.iconst 0, 1) := by decide +kernel
theorem d_X11_asks_269 : decode prog_13_method_49_code 269 = .ok (.invokevirtual 339, 3) := by decide +kernel
theorem d_X11_asks_272 : decode prog_13_method_49_code 272 = .ok (.istore 6, 2) := by decide +kernel
theorem d_X11_asks_274 : decode prog_13_method_49_code 274 = .ok (.return_, 1) := by decide +kernel
theorem vk_12_305 : Vk "TaskWeaveModel" 305 2 12 Y_X11_event := ⟨yk_X11_event, by decide +kernel, by decide +kernel, by decide +kernel, by decide⟩
def f_X11_origin (l0 : Nat) (l1 : Int32) (h : Hp) : Option (Int32 × Hp) := ck (isO (h) (l0) 12) ((f_X11_event (l0) (l1) ((0 : Int32)) (h)).bind (fun q2 => ck (isO (q2.2) (zR (h) 1229 (l0)) 22) (ck (inR (q2.1) (zL (q2.2) (zR (h) 1229 (l0)))) (some (zE (q2.2) (zR (h) 1229 (l0)) (q2.1).toNatClampNeg, q2.2)))))
theorem f_X11_origin_ok {G : Gd} {d : Nat} (hj : 2 ≤ d) : ∀ (l0 : Nat) (l1 : Int32) (L : List (Nat × Value)) (h : Hp) (o : (Int32 × Hp)), zlk L 0 = some (zrf (l0)) → zlk L 1 = some (.int (l1)) → f_X11_origin l0 l1 h = some o → Ev G M_X11_origin d 0 L [] h (Ret Y_X11_origin (some (.int o.1)) o.2) := by
  intro l0 l1 L h o g0 g1 e
  unfold f_X11_origin at e
  refine g_ald_n d_X11_origin_0 rfl g0 ?_
  replace e := ckd e
  obtain ⟨k1, e⟩ := e
  refine g_getR d_X11_origin_1 (f := 1229) k1 fk_12_76 rfl rfl ?_
  refine g_ald_n d_X11_origin_4 rfl g0 ?_
  refine r_iload_n d_X11_origin_5 rfl g1 ?_
  refine r_iconst d_X11_origin_6 (v := (0 : Int32)) (by decide +kernel) ?_
  replace e := bd e
  obtain ⟨q2, eq2, e⟩ := e
  refine g_callV d_X11_origin_7 vk_12_305 (as := [_, _]) rfl k1 rfl (by simp [zrf_cat, cat_int, cat_long]) (j := 1) (by omega) (c_X11_event (by omega) eq2) ?_
  replace e := ckd e
  obtain ⟨k3, e⟩ := e
  replace e := ckd e
  obtain ⟨k4, e⟩ := e
  refine g_iald d_X11_origin_10 k3 k4 rfl ?_
  cases e
  exact g_iret d_X11_origin_11 rfl rfl

theorem c_X11_origin {G : Gd} {j : Nat} (hj : 2 ≤ j) {l0 : Nat} {l1 : Int32} {h : Hp} {o : (Int32 × Hp)} (e : f_X11_origin l0 l1 h = some o) : Cal G j Y_X11_origin [zrf (l0), .int (l1)] h (some (.int o.1)) o.2 := Cal.of (n := 0) (I := false) (by decide +kernel) (by decide) (by simp [lg_sl, zrf_cat, cat_int, cat_long]) (f_X11_origin_ok hj _ _ _ h o (by simp [lv_args, zlk, zrf_cat, cat_int, cat_long]) (by simp [lv_args, zlk, zrf_cat, cat_int, cat_long]) e)
theorem vk_12_309 : Vk "TaskWeaveModel" 309 1 12 Y_X11_origin := ⟨yk_X11_origin, by decide +kernel, by decide +kernel, by decide +kernel, by decide⟩
def f_X11_parent (l0 : Nat) (l1 : Int32) (h : Hp) : Option (Int32 × Hp) := ck (isO (h) (l0) 12) ((f_X11_origin (l0) (l1) (h)).bind (fun q1 => if (0) ≤ (q1.1) then (some ((-1 : Int32), q1.2)) else (ck (isO (q1.2) (l0) 12) ((f_X11_origin (l0) (l1) (q1.2)).bind (fun q4 => some ((((-1 : Int32)) - (q4.1)) / ((64 : Int32)), q4.2))))))
theorem f_X11_parent_ok {G : Gd} {d : Nat} (hj : 3 ≤ d) : ∀ (l0 : Nat) (l1 : Int32) (L : List (Nat × Value)) (h : Hp) (o : (Int32 × Hp)), zlk L 0 = some (zrf (l0)) → zlk L 1 = some (.int (l1)) → f_X11_parent l0 l1 h = some o → Ev G M_X11_parent d 0 L [] h (Ret Y_X11_parent (some (.int o.1)) o.2) := by
  intro l0 l1 L h o g0 g1 e
  unfold f_X11_parent at e
  refine g_ald_n d_X11_parent_0 rfl g0 ?_
  refine r_iload_n d_X11_parent_1 rfl g1 ?_
  replace e := ckd e
  obtain ⟨k2, e⟩ := e
  replace e := bd e
  obtain ⟨q1, eq1, e⟩ := e
  refine g_callV d_X11_parent_2 vk_12_309 (as := [_]) rfl k2 rfl (by simp [zrf_cat, cat_int, cat_long]) (j := 2) (by omega) (c_X11_origin (by omega) eq1) ?_
  refine r_if_ge d_X11_parent_5 (tgt := 21) (by decide) (fun c3 => ?_) (fun c3 => ?_)
  · replace e := (if_pos c3).symm.trans e
    refine r_iconst d_X11_parent_21 (v := (-1 : Int32)) (by decide +kernel) ?_
    cases e
    exact g_iret d_X11_parent_22 rfl rfl
  · replace e := (if_neg c3).symm.trans e
    refine r_iconst d_X11_parent_8 (v := (-1 : Int32)) (by decide +kernel) ?_
    refine g_ald_n d_X11_parent_9 rfl g0 ?_
    refine r_iload_n d_X11_parent_10 rfl g1 ?_
    replace e := ckd e
    obtain ⟨k5, e⟩ := e
    replace e := bd e
    obtain ⟨q4, eq4, e⟩ := e
    refine g_callV d_X11_parent_11 vk_12_309 (as := [_]) rfl k5 rfl (by simp [zrf_cat, cat_int, cat_long]) (j := 2) (by omega) (c_X11_origin (by omega) eq4) ?_
    refine r_isub d_X11_parent_14 ?_
    refine r_bipush d_X11_parent_15 (v := (64 : Int32)) (by decide +kernel) ?_
    refine r_idiv d_X11_parent_17 (by decide +kernel) ?_
    refine r_goto d_X11_parent_18 (tgt := 22) (by decide) ?_
    cases e
    exact g_iret d_X11_parent_22 rfl rfl

theorem c_X11_parent {G : Gd} {j : Nat} (hj : 3 ≤ j) {l0 : Nat} {l1 : Int32} {h : Hp} {o : (Int32 × Hp)} (e : f_X11_parent l0 l1 h = some o) : Cal G j Y_X11_parent [zrf (l0), .int (l1)] h (some (.int o.1)) o.2 := Cal.of (n := 0) (I := false) (by decide +kernel) (by decide) (by simp [lg_sl, zrf_cat, cat_int, cat_long]) (f_X11_parent_ok hj _ _ _ h o (by simp [lv_args, zlk, zrf_cat, cat_int, cat_long]) (by simp [lv_args, zlk, zrf_cat, cat_int, cat_long]) e)
theorem vk_12_286 : Vk "TaskWeaveModel" 286 1 12 Y_X11_kindOf := ⟨yk_X11_kindOf, by decide +kernel, by decide +kernel, by decide +kernel, by decide⟩
theorem vk_12_302 : Vk "TaskWeaveModel" 302 1 12 Y_X11_parent := ⟨yk_X11_parent, by decide +kernel, by decide +kernel, by decide +kernel, by decide⟩
def f_X11_keep_69 (s0 : Int32) (l0 : Nat) (l1 : Int32) (l3 : Int32) (h : Hp) : Option Hp := if (s0) = (0) then (some (h)) else (if (l3) = ((-1 : Int32)) then (some (h)) else (bh ((l1) / ((16 : Int32))) (fun x19 => ck (isO (h) (l0) 12) (ck (isO (h) (zR (h) 1257 (l0)) 22) (ck (inR (x19) (zL (h) (zR (h) 1257 (l0)))) (bh ((((1024 : Int32)) * (x19)) + (zE (h) (zR (h) 1257 (l0)) (x19).toNatClampNeg)) (fun x23 => ck (isO (h) (zR (h) 1258 (l0)) 22) (ck (inR (x23) (zL (h) (zR (h) 1258 (l0)))) (bh (pE (h) (zR (h) 1258 (l0)) (x23).toNatClampNeg (l3)) (fun h26 => ck (isO (h26) (zR (h26) 1259 (l0)) 22) (ck (inR (x23) (zL (h26) (zR (h26) 1259 (l0)))) (bh (pE (h26) (zR (h26) 1259 (l0)) (x23).toNatClampNeg (l1)) (fun h29 => ck (isO (h29) (zR (h29) 1241 (l0)) 22) (ck (inR (l1) (zL (h29) (zR (h29) 1241 (l0)))) (ck (isO (h29) (zR (h29) 1260 (l0)) 22) (ck (inR (x23) (zL (h29) (zR (h29) 1260 (l0)))) (bh (pE (h29) (zR (h29) 1260 (l0)) (x23).toNatClampNeg ((zE (h29) (zR (h29) 1241 (l0)) (l1).toNatClampNeg) - ((1 : Int32)))) (fun h34 => ck (isO (h34) (zR (h34) 1257 (l0)) 22) (ck (inR (x19) (zL (h34) (zR (h34) 1257 (l0)))) (bh (pE (h34) (zR (h34) 1257 (l0)) (x19).toNatClampNeg ((zE (h34) (zR (h34) 1257 (l0)) (x19).toNatClampNeg) + ((1 : Int32)))) (fun h37 => some (h37))))))))))))))))))))))
theorem f_X11_keep_69_ok {G : Gd} {d : Nat} (hj : 4 ≤ d) : ∀ (s0 : Int32) (l0 : Nat) (l1 : Int32) (l3 : Int32) (L : List (Nat × Value)) (h : Hp) (o : Hp), zlk L 0 = some (zrf (l0)) → zlk L 1 = some (.int (l1)) → zlk L 3 = some (.int (l3)) → f_X11_keep_69 s0 l0 l1 l3 h = some o → Ev G M_X11_keep d 69 L [.int (s0)] h (Ret Y_X11_keep none o) := by
  intro s0 l0 l1 l3 L h o g0 g1 g3 e
  unfold f_X11_keep_69 at e
  refine s_istore d_X11_keep_69 (by decide) (fun L g5 gK => ?_)
  replace g0 := gK _ _ (by decide) (Or.inr (zrf_cat _)) g0
  replace g1 := gK _ _ (by decide) (Or.inr rfl) g1
  replace g3 := gK _ _ (by decide) (Or.inr rfl) g3
  refine r_iload d_X11_keep_71 g5 ?_
  refine r_if_eq d_X11_keep_73 (tgt := 81) (by decide) (fun c17 => ?_) (fun c17 => ?_)
  · replace e := (if_pos c17).symm.trans e
    cases e
    exact g_vret d_X11_keep_81 rfl
  · replace e := (if_neg c17).symm.trans e
    refine r_iload_n d_X11_keep_76 rfl g3 ?_
    refine r_iconst d_X11_keep_77 (v := (-1 : Int32)) (by decide +kernel) ?_
    refine r_icmp_ne d_X11_keep_78 (tgt := 82) (by decide) (fun c18 => ?_) (fun c18 => ?_)
    · replace e := (if_neg c18).symm.trans e
      refine r_iload_n d_X11_keep_82 rfl g1 ?_
      refine r_bipush d_X11_keep_83 (v := (16 : Int32)) (by decide +kernel) ?_
      refine r_idiv d_X11_keep_85 (by decide +kernel) ?_
      replace e := bhd e
      obtain ⟨_, rfl, e⟩ := e
      refine s_istore d_X11_keep_86 (by decide) (fun L g6 gK => ?_)
      replace g0 := gK _ _ (by decide) (Or.inr (zrf_cat _)) g0
      replace g1 := gK _ _ (by decide) (Or.inr rfl) g1
      replace g3 := gK _ _ (by decide) (Or.inr rfl) g3
      refine r_sipush d_X11_keep_88 (v := (1024 : Int32)) (by decide +kernel) ?_
      refine r_iload d_X11_keep_91 g6 ?_
      refine r_imul d_X11_keep_93 ?_
      refine g_ald_n d_X11_keep_94 rfl g0 ?_
      replace e := ckd e
      obtain ⟨k20, e⟩ := e
      refine g_getR d_X11_keep_95 (f := 1257) k20 fk_12_161 rfl rfl ?_
      refine r_iload d_X11_keep_98 g6 ?_
      replace e := ckd e
      obtain ⟨k21, e⟩ := e
      replace e := ckd e
      obtain ⟨k22, e⟩ := e
      refine g_iald d_X11_keep_100 k21 k22 rfl ?_
      refine r_iadd d_X11_keep_101 ?_
      replace e := bhd e
      obtain ⟨_, rfl, e⟩ := e
      refine s_istore d_X11_keep_102 (by decide) (fun L g7 gK => ?_)
      replace g0 := gK _ _ (by decide) (Or.inr (zrf_cat _)) g0
      replace g1 := gK _ _ (by decide) (Or.inr rfl) g1
      replace g3 := gK _ _ (by decide) (Or.inr rfl) g3
      replace g6 := gK _ _ (by decide) (Or.inr rfl) g6
      refine g_ald_n d_X11_keep_104 rfl g0 ?_
      refine g_getR d_X11_keep_105 (f := 1258) k20 fk_12_164 rfl rfl ?_
      refine r_iload d_X11_keep_108 g7 ?_
      refine r_iload_n d_X11_keep_110 rfl g3 ?_
      replace e := ckd e
      obtain ⟨k24, e⟩ := e
      replace e := ckd e
      obtain ⟨k25, e⟩ := e
      refine g_iast d_X11_keep_111 k24 k25 ?_
      replace e := bhd e
      obtain ⟨_, rfl, e⟩ := e
      refine g_ald_n d_X11_keep_112 rfl g0 ?_
      refine g_getR d_X11_keep_113 (f := 1259) (tO_pE k20) fk_12_167 rfl rfl ?_
      refine r_iload d_X11_keep_116 g7 ?_
      refine r_iload_n d_X11_keep_118 rfl g1 ?_
      replace e := ckd e
      obtain ⟨k27, e⟩ := e
      replace e := ckd e
      obtain ⟨k28, e⟩ := e
      refine g_iast d_X11_keep_119 k27 k28 ?_
      replace e := bhd e
      obtain ⟨_, rfl, e⟩ := e
      refine g_ald_n d_X11_keep_120 rfl g0 ?_
      refine g_getR d_X11_keep_121 (f := 1260) (tO_pE (tO_pE k20)) fk_12_170 rfl rfl ?_
      refine r_iload d_X11_keep_124 g7 ?_
      refine g_ald_n d_X11_keep_126 rfl g0 ?_
      refine g_getR d_X11_keep_127 (f := 1241) (tO_pE (tO_pE k20)) fk_12_113 rfl rfl ?_
      refine r_iload_n d_X11_keep_130 rfl g1 ?_
      replace e := ckd e
      obtain ⟨k30, e⟩ := e
      replace e := ckd e
      obtain ⟨k31, e⟩ := e
      refine g_iald d_X11_keep_131 k30 k31 rfl ?_
      refine r_iconst d_X11_keep_132 (v := (1 : Int32)) (by decide +kernel) ?_
      refine r_isub d_X11_keep_133 ?_
      replace e := ckd e
      obtain ⟨k32, e⟩ := e
      replace e := ckd e
      obtain ⟨k33, e⟩ := e
      refine g_iast d_X11_keep_134 k32 k33 ?_
      replace e := bhd e
      obtain ⟨_, rfl, e⟩ := e
      refine g_ald_n d_X11_keep_135 rfl g0 ?_
      refine g_getR d_X11_keep_136 (f := 1257) (tO_pE (tO_pE (tO_pE k20))) fk_12_161 rfl rfl ?_
      refine r_iload d_X11_keep_139 g6 ?_
      refine r_dup2 d_X11_keep_141 rfl (zrf_cat _) ?_
      replace e := ckd e
      obtain ⟨k35, e⟩ := e
      replace e := ckd e
      obtain ⟨k36, e⟩ := e
      refine g_iald d_X11_keep_142 k35 k36 rfl ?_
      refine r_iconst d_X11_keep_143 (v := (1 : Int32)) (by decide +kernel) ?_
      refine r_iadd d_X11_keep_144 ?_
      refine g_iast d_X11_keep_145 k35 k36 ?_
      replace e := bhd e
      obtain ⟨_, rfl, e⟩ := e
      cases e
      exact g_vret d_X11_keep_146 rfl
    · replace e := (if_pos c18).symm.trans e
      cases e
      exact g_vret d_X11_keep_81 rfl

def f_X11_keep_64 (l0 : Nat) (l1 : Int32) (l3 : Int32) (h : Hp) : Option Hp := f_X11_keep_69 ((1 : Int32)) (l0) (l1) (l3) (h)
theorem f_X11_keep_64_ok {G : Gd} {d : Nat} (hj : 4 ≤ d) : ∀ (l0 : Nat) (l1 : Int32) (l3 : Int32) (L : List (Nat × Value)) (h : Hp) (o : Hp), zlk L 0 = some (zrf (l0)) → zlk L 1 = some (.int (l1)) → zlk L 3 = some (.int (l3)) → f_X11_keep_64 l0 l1 l3 h = some o → Ev G M_X11_keep d 64 L [] h (Ret Y_X11_keep none o) := by
  intro l0 l1 l3 L h o g0 g1 g3 e
  unfold f_X11_keep_64 at e
  refine r_iconst d_X11_keep_64 (v := (1 : Int32)) (by decide +kernel) ?_
  refine r_goto d_X11_keep_65 (tgt := 69) (by decide) ?_
  exact f_X11_keep_69_ok hj _ _ _ _ _ _ _ g0 g1 g3 e

def f_X11_keep_68 (l0 : Nat) (l1 : Int32) (l3 : Int32) (h : Hp) : Option Hp := f_X11_keep_69 ((0 : Int32)) (l0) (l1) (l3) (h)
theorem f_X11_keep_68_ok {G : Gd} {d : Nat} (hj : 4 ≤ d) : ∀ (l0 : Nat) (l1 : Int32) (l3 : Int32) (L : List (Nat × Value)) (h : Hp) (o : Hp), zlk L 0 = some (zrf (l0)) → zlk L 1 = some (.int (l1)) → zlk L 3 = some (.int (l3)) → f_X11_keep_68 l0 l1 l3 h = some o → Ev G M_X11_keep d 68 L [] h (Ret Y_X11_keep none o) := by
  intro l0 l1 l3 L h o g0 g1 g3 e
  unfold f_X11_keep_68 at e
  refine r_iconst d_X11_keep_68 (v := (0 : Int32)) (by decide +kernel) ?_
  exact f_X11_keep_69_ok hj _ _ _ _ _ _ _ g0 g1 g3 e

def f_X11_keep (l0 : Nat) (l1 : Int32) (l2 : Int32) (l3 : Int32) (h : Hp) : Option Hp := ck (isO (h) (l0) 12) ((f_X11_kindOf (l0) (l2) (h)).bind (fun q1 => ck (isO (q1.2) (l0) 12) (ck (isO (q1.2) (zR (q1.2) 1241 (l0)) 22) (ck (inR (l1) (zL (q1.2) (zR (q1.2) 1241 (l0)))) (ck (isO (q1.2) (zR (q1.2) 1240 (l0)) 22) (ck (inR ((((60 : Int32)) * (l1)) + (zE (q1.2) (zR (q1.2) 1241 (l0)) (l1).toNatClampNeg)) (zL (q1.2) (zR (q1.2) 1240 (l0)))) (bh (pE (q1.2) (zR (q1.2) 1240 (l0)) ((((60 : Int32)) * (l1)) + (zE (q1.2) (zR (q1.2) 1241 (l0)) (l1).toNatClampNeg)).toNatClampNeg (l2)) (fun h8 => ck (isO (h8) (zR (h8) 1241 (l0)) 22) (ck (inR (l1) (zL (h8) (zR (h8) 1241 (l0)))) (bh (pE (h8) (zR (h8) 1241 (l0)) (l1).toNatClampNeg ((zE (h8) (zR (h8) 1241 (l0)) (l1).toNatClampNeg) + ((1 : Int32)))) (fun h11 => if (q1.1) = ((6 : Int32)) then (f_X11_keep_64 (l0) (l1) (l3) (h11)) else (if (q1.1) = ((9 : Int32)) then (f_X11_keep_64 (l0) (l1) (l3) (h11)) else (if (q1.1) < ((10 : Int32)) then (f_X11_keep_68 (l0) (l1) (l3) (h11)) else ((f_X11_parent (l0) (l1) (h11)).bind (fun q15 => if (q15.1) = ((-1 : Int32)) then (f_X11_keep_68 (l0) (l1) (l3) (q15.2)) else (f_X11_keep_64 (l0) (l1) (l3) (q15.2)))))))))))))))))
theorem f_X11_keep_ok {G : Gd} {d : Nat} (hj : 4 ≤ d) : ∀ (l0 : Nat) (l1 : Int32) (l2 : Int32) (l3 : Int32) (L : List (Nat × Value)) (h : Hp) (o : Hp), zlk L 0 = some (zrf (l0)) → zlk L 1 = some (.int (l1)) → zlk L 2 = some (.int (l2)) → zlk L 3 = some (.int (l3)) → f_X11_keep l0 l1 l2 l3 h = some o → Ev G M_X11_keep d 0 L [] h (Ret Y_X11_keep none o) := by
  intro l0 l1 l2 l3 L h o g0 g1 g2 g3 e
  unfold f_X11_keep at e
  refine g_ald_n d_X11_keep_0 rfl g0 ?_
  refine r_iload_n d_X11_keep_1 rfl g2 ?_
  replace e := ckd e
  obtain ⟨k2, e⟩ := e
  replace e := bd e
  obtain ⟨q1, eq1, e⟩ := e
  refine g_callV d_X11_keep_2 vk_12_286 (as := [_]) rfl k2 rfl (by simp [zrf_cat, cat_int, cat_long]) (j := 1) (by omega) (c_X11_kindOf (by omega) eq1) ?_
  refine s_istore d_X11_keep_5 (by decide) (fun L g4 gK => ?_)
  replace g0 := gK _ _ (by decide) (Or.inr (zrf_cat _)) g0
  replace g1 := gK _ _ (by decide) (Or.inr rfl) g1
  replace g2 := gK _ _ (by decide) (Or.inr rfl) g2
  replace g3 := gK _ _ (by decide) (Or.inr rfl) g3
  refine g_ald_n d_X11_keep_7 rfl g0 ?_
  replace e := ckd e
  obtain ⟨k3, e⟩ := e
  refine g_getR d_X11_keep_8 (f := 1240) k3 fk_12_110 rfl rfl ?_
  refine r_bipush d_X11_keep_11 (v := (60 : Int32)) (by decide +kernel) ?_
  refine r_iload_n d_X11_keep_13 rfl g1 ?_
  refine r_imul d_X11_keep_14 ?_
  refine g_ald_n d_X11_keep_15 rfl g0 ?_
  refine g_getR d_X11_keep_16 (f := 1241) k3 fk_12_113 rfl rfl ?_
  refine r_iload_n d_X11_keep_19 rfl g1 ?_
  replace e := ckd e
  obtain ⟨k4, e⟩ := e
  replace e := ckd e
  obtain ⟨k5, e⟩ := e
  refine g_iald d_X11_keep_20 k4 k5 rfl ?_
  refine r_iadd d_X11_keep_21 ?_
  refine r_iload_n d_X11_keep_22 rfl g2 ?_
  replace e := ckd e
  obtain ⟨k6, e⟩ := e
  replace e := ckd e
  obtain ⟨k7, e⟩ := e
  refine g_iast d_X11_keep_23 k6 k7 ?_
  replace e := bhd e
  obtain ⟨_, rfl, e⟩ := e
  refine g_ald_n d_X11_keep_24 rfl g0 ?_
  refine g_getR d_X11_keep_25 (f := 1241) (tO_pE k3) fk_12_113 rfl rfl ?_
  refine r_iload_n d_X11_keep_28 rfl g1 ?_
  refine r_dup2 d_X11_keep_29 rfl (zrf_cat _) ?_
  replace e := ckd e
  obtain ⟨k9, e⟩ := e
  replace e := ckd e
  obtain ⟨k10, e⟩ := e
  refine g_iald d_X11_keep_30 k9 k10 rfl ?_
  refine r_iconst d_X11_keep_31 (v := (1 : Int32)) (by decide +kernel) ?_
  refine r_iadd d_X11_keep_32 ?_
  refine g_iast d_X11_keep_33 k9 k10 ?_
  replace e := bhd e
  obtain ⟨_, rfl, e⟩ := e
  refine r_iload d_X11_keep_34 g4 ?_
  refine r_bipush d_X11_keep_36 (v := (6 : Int32)) (by decide +kernel) ?_
  refine r_icmp_eq d_X11_keep_38 (tgt := 64) (by decide) (fun c12 => ?_) (fun c12 => ?_)
  · replace e := (if_pos c12).symm.trans e
    exact f_X11_keep_64_ok hj _ _ _ _ _ _ g0 g1 g3 e
  · replace e := (if_neg c12).symm.trans e
    refine r_iload d_X11_keep_41 g4 ?_
    refine r_bipush d_X11_keep_43 (v := (9 : Int32)) (by decide +kernel) ?_
    refine r_icmp_eq d_X11_keep_45 (tgt := 64) (by decide) (fun c13 => ?_) (fun c13 => ?_)
    · replace e := (if_pos c13).symm.trans e
      exact f_X11_keep_64_ok hj _ _ _ _ _ _ g0 g1 g3 e
    · replace e := (if_neg c13).symm.trans e
      refine r_iload d_X11_keep_48 g4 ?_
      refine r_bipush d_X11_keep_50 (v := (10 : Int32)) (by decide +kernel) ?_
      refine r_icmp_lt d_X11_keep_52 (tgt := 68) (by decide) (fun c14 => ?_) (fun c14 => ?_)
      · replace e := (if_pos c14).symm.trans e
        exact f_X11_keep_68_ok hj _ _ _ _ _ _ g0 g1 g3 e
      · replace e := (if_neg c14).symm.trans e
        refine g_ald_n d_X11_keep_55 rfl g0 ?_
        refine r_iload_n d_X11_keep_56 rfl g1 ?_
        replace e := bd e
        obtain ⟨q15, eq15, e⟩ := e
        refine g_callV d_X11_keep_57 vk_12_302 (as := [_]) rfl (tO_pE (tO_pE k3)) rfl (by simp [zrf_cat, cat_int, cat_long]) (j := 3) (by omega) (c_X11_parent (by omega) eq15) ?_
        refine r_iconst d_X11_keep_60 (v := (-1 : Int32)) (by decide +kernel) ?_
        refine r_icmp_eq d_X11_keep_61 (tgt := 68) (by decide) (fun c16 => ?_) (fun c16 => ?_)
        · replace e := (if_pos c16).symm.trans e
          exact f_X11_keep_68_ok hj _ _ _ _ _ _ g0 g1 g3 e
        · replace e := (if_neg c16).symm.trans e
          exact f_X11_keep_64_ok hj _ _ _ _ _ _ g0 g1 g3 e

theorem c_X11_keep {G : Gd} {j : Nat} (hj : 4 ≤ j) {l0 : Nat} {l1 : Int32} {l2 : Int32} {l3 : Int32} {h : Hp} {o : Hp} (e : f_X11_keep l0 l1 l2 l3 h = some o) : Cal G j Y_X11_keep [zrf (l0), .int (l1), .int (l2), .int (l3)] h none o := Cal.of (n := 0) (I := false) (by decide +kernel) (by decide) (by simp [lg_sl, zrf_cat, cat_int, cat_long]) (f_X11_keep_ok hj _ _ _ _ _ h o (by simp [lv_args, zlk, zrf_cat, cat_int, cat_long]) (by simp [lv_args, zlk, zrf_cat, cat_int, cat_long]) (by simp [lv_args, zlk, zrf_cat, cat_int, cat_long]) (by simp [lv_args, zlk, zrf_cat, cat_int, cat_long]) e)
theorem fk_12_283 : Fk "TaskWeaveModel" 283 1201 := ⟨by decide, by decide, by decide +kernel⟩
theorem vk_12_299 : Vk "TaskWeaveModel" 299 3 12 Y_X11_keep := ⟨yk_X11_keep, by decide +kernel, by decide +kernel, by decide +kernel, by decide⟩
def f_X11_reads_91 (l0 : Nat) (l2 : Int32) (l4 : Int32) (l5 : Int32) (h : Hp) : Option Hp := if (l5) = ((15 : Int32)) then (ck (isO (h) (l0) 12) (ck (isO (h) (zR (h) 1227 (l0)) 22) (ck (inR (l2) (zL (h) (zR (h) 1227 (l0)))) (ck (isO (h) (zR (h) 1256 (l0)) 22) (ck (inR (l4) (zL (h) (zR (h) 1256 (l0)))) (bh (pE (h) (zR (h) 1256 (l0)) (l4).toNatClampNeg (zE (h) (zR (h) 1227 (l0)) (l2).toNatClampNeg)) (fun h32 => ck (isO (h32) (zR (h32) 1228 (l0)) 22) (ck (inR (l2) (zL (h32) (zR (h32) 1228 (l0)))) (if (zE (h32) (zR (h32) 1228 (l0)) (l2).toNatClampNeg) ≤ (zI (h32) 1201 (l0)) then (ck (isO (h32) (zR (h32) 1253 (l0)) 22) (ck (inR (l4) (zL (h32) (zR (h32) 1253 (l0)))) (bh (pE (h32) (zR (h32) 1253 (l0)) (l4).toNatClampNeg (zI (h32) 1201 (l0))) (fun h38 => some (h38))))) else (ck (isO (h32) (zR (h32) 1253 (l0)) 22) (ck (inR (l4) (zL (h32) (zR (h32) 1253 (l0)))) (bh (pE (h32) (zR (h32) 1253 (l0)) (l4).toNatClampNeg (zE (h32) (zR (h32) 1228 (l0)) (l2).toNatClampNeg)) (fun h41 => some (h41)))))))))))))) else (some (h))
theorem f_X11_reads_91_ok {G : Gd} {d : Nat} (hj : 5 ≤ d) : ∀ (l0 : Nat) (l2 : Int32) (l4 : Int32) (l5 : Int32) (L : List (Nat × Value)) (h : Hp) (o : Hp), zlk L 0 = some (zrf (l0)) → zlk L 2 = some (.int (l2)) → zlk L 4 = some (.int (l4)) → zlk L 5 = some (.int (l5)) → f_X11_reads_91 l0 l2 l4 l5 h = some o → Ev G M_X11_reads d 91 L [] h (Ret Y_X11_reads none o) := by
  intro l0 l2 l4 l5 L h o g0 g2 g4 g5 e
  unfold f_X11_reads_91 at e
  refine r_iload d_X11_reads_91 g5 ?_
  refine r_bipush d_X11_reads_93 (v := (15 : Int32)) (by decide +kernel) ?_
  refine r_icmp_ne d_X11_reads_95 (tgt := 144) (by decide) (fun c26 => ?_) (fun c26 => ?_)
  · replace e := (if_neg c26).symm.trans e
    cases e
    exact g_vret d_X11_reads_144 rfl
  · replace e := (if_pos c26).symm.trans e
    refine g_ald_n d_X11_reads_98 rfl g0 ?_
    replace e := ckd e
    obtain ⟨k27, e⟩ := e
    refine g_getR d_X11_reads_99 (f := 1256) k27 fk_12_158 rfl rfl ?_
    refine r_iload d_X11_reads_102 g4 ?_
    refine g_ald_n d_X11_reads_104 rfl g0 ?_
    refine g_getR d_X11_reads_105 (f := 1227) k27 fk_12_70 rfl rfl ?_
    refine r_iload_n d_X11_reads_108 rfl g2 ?_
    replace e := ckd e
    obtain ⟨k28, e⟩ := e
    replace e := ckd e
    obtain ⟨k29, e⟩ := e
    refine g_iald d_X11_reads_109 k28 k29 rfl ?_
    replace e := ckd e
    obtain ⟨k30, e⟩ := e
    replace e := ckd e
    obtain ⟨k31, e⟩ := e
    refine g_iast d_X11_reads_110 k30 k31 ?_
    replace e := bhd e
    obtain ⟨_, rfl, e⟩ := e
    refine g_ald_n d_X11_reads_111 rfl g0 ?_
    refine g_getR d_X11_reads_112 (f := 1253) (tO_pE k27) fk_12_149 rfl rfl ?_
    refine r_iload d_X11_reads_115 g4 ?_
    refine g_ald_n d_X11_reads_117 rfl g0 ?_
    refine g_getR d_X11_reads_118 (f := 1228) (tO_pE k27) fk_12_73 rfl rfl ?_
    refine r_iload_n d_X11_reads_121 rfl g2 ?_
    replace e := ckd e
    obtain ⟨k33, e⟩ := e
    replace e := ckd e
    obtain ⟨k34, e⟩ := e
    refine g_iald d_X11_reads_122 k33 k34 rfl ?_
    refine g_ald_n d_X11_reads_123 rfl g0 ?_
    refine g_getI d_X11_reads_124 (f := 1201) (tO_pE k27) fk_12_283 rfl rfl ?_
    refine r_icmp_le d_X11_reads_127 (tgt := 139) (by decide) (fun c35 => ?_) (fun c35 => ?_)
    · replace e := (if_pos c35).symm.trans e
      refine g_ald_n d_X11_reads_139 rfl g0 ?_
      refine g_getI d_X11_reads_140 (f := 1201) (tO_pE k27) fk_12_283 rfl rfl ?_
      replace e := ckd e
      obtain ⟨k36, e⟩ := e
      replace e := ckd e
      obtain ⟨k37, e⟩ := e
      refine g_iast d_X11_reads_143 k36 k37 ?_
      replace e := bhd e
      obtain ⟨_, rfl, e⟩ := e
      cases e
      exact g_vret d_X11_reads_144 rfl
    · replace e := (if_neg c35).symm.trans e
      refine g_ald_n d_X11_reads_130 rfl g0 ?_
      refine g_getR d_X11_reads_131 (f := 1228) (tO_pE k27) fk_12_73 rfl rfl ?_
      refine r_iload_n d_X11_reads_134 rfl g2 ?_
      refine g_iald d_X11_reads_135 k33 k34 rfl ?_
      refine r_goto d_X11_reads_136 (tgt := 143) (by decide) ?_
      replace e := ckd e
      obtain ⟨k39, e⟩ := e
      replace e := ckd e
      obtain ⟨k40, e⟩ := e
      refine g_iast d_X11_reads_143 k39 k40 ?_
      replace e := bhd e
      obtain ⟨_, rfl, e⟩ := e
      cases e
      exact g_vret d_X11_reads_144 rfl

def f_X11_reads_66 (l0 : Nat) (l2 : Int32) (l4 : Int32) (l5 : Int32) (h : Hp) : Option Hp := if (l5) = ((1 : Int32)) then (ck (isO (h) (l0) 12) (ck (isO (h) (zR (h) 1256 (l0)) 22) (ck (inR (l4) (zL (h) (zR (h) 1256 (l0)))) (bh (pE (h) (zR (h) 1256 (l0)) (l4).toNatClampNeg ((1 : Int32))) (fun h20 => ck (isO (h20) (zR (h20) 1253 (l0)) 22) (ck (inR (l4) (zL (h20) (zR (h20) 1253 (l0)))) (bh (pE (h20) (zR (h20) 1253 (l0)) (l4).toNatClampNeg (zI (h20) 1201 (l0))) (fun h23 => f_X11_reads_91 (l0) (l2) (l4) (l5) (h23))))))))) else (f_X11_reads_91 (l0) (l2) (l4) (l5) (h))
theorem f_X11_reads_66_ok {G : Gd} {d : Nat} (hj : 5 ≤ d) : ∀ (l0 : Nat) (l2 : Int32) (l4 : Int32) (l5 : Int32) (L : List (Nat × Value)) (h : Hp) (o : Hp), zlk L 0 = some (zrf (l0)) → zlk L 2 = some (.int (l2)) → zlk L 4 = some (.int (l4)) → zlk L 5 = some (.int (l5)) → f_X11_reads_66 l0 l2 l4 l5 h = some o → Ev G M_X11_reads d 66 L [] h (Ret Y_X11_reads none o) := by
  intro l0 l2 l4 l5 L h o g0 g2 g4 g5 e
  unfold f_X11_reads_66 at e
  refine r_iload d_X11_reads_66 g5 ?_
  refine r_iconst d_X11_reads_68 (v := (1 : Int32)) (by decide +kernel) ?_
  refine r_icmp_ne d_X11_reads_69 (tgt := 91) (by decide) (fun c16 => ?_) (fun c16 => ?_)
  · replace e := (if_neg c16).symm.trans e
    exact f_X11_reads_91_ok hj _ _ _ _ _ _ _ g0 g2 g4 g5 e
  · replace e := (if_pos c16).symm.trans e
    refine g_ald_n d_X11_reads_72 rfl g0 ?_
    replace e := ckd e
    obtain ⟨k17, e⟩ := e
    refine g_getR d_X11_reads_73 (f := 1256) k17 fk_12_158 rfl rfl ?_
    refine r_iload d_X11_reads_76 g4 ?_
    refine r_iconst d_X11_reads_78 (v := (1 : Int32)) (by decide +kernel) ?_
    replace e := ckd e
    obtain ⟨k18, e⟩ := e
    replace e := ckd e
    obtain ⟨k19, e⟩ := e
    refine g_iast d_X11_reads_79 k18 k19 ?_
    replace e := bhd e
    obtain ⟨_, rfl, e⟩ := e
    refine g_ald_n d_X11_reads_80 rfl g0 ?_
    refine g_getR d_X11_reads_81 (f := 1253) (tO_pE k17) fk_12_149 rfl rfl ?_
    refine r_iload d_X11_reads_84 g4 ?_
    refine g_ald_n d_X11_reads_86 rfl g0 ?_
    refine g_getI d_X11_reads_87 (f := 1201) (tO_pE k17) fk_12_283 rfl rfl ?_
    replace e := ckd e
    obtain ⟨k21, e⟩ := e
    replace e := ckd e
    obtain ⟨k22, e⟩ := e
    refine g_iast d_X11_reads_90 k21 k22 ?_
    replace e := bhd e
    obtain ⟨_, rfl, e⟩ := e
    exact f_X11_reads_91_ok hj _ _ _ _ _ _ _ g0 g2 g4 g5 e

def f_X11_reads_63 (s0 : Nat) (s1 : Int32) (s2 : Int32) (s3 : Int32) (l0 : Nat) (l2 : Int32) (l4 : Int32) (l5 : Int32) (h : Hp) : Option Hp := ck (isO (h) (s0) 12) ((f_X11_keep (s0) (s1) (s2) (s3) (h)).bind (fun q24 => f_X11_reads_66 (l0) (l2) (l4) (l5) (q24)))
theorem f_X11_reads_63_ok {G : Gd} {d : Nat} (hj : 5 ≤ d) : ∀ (s0 : Nat) (s1 : Int32) (s2 : Int32) (s3 : Int32) (l0 : Nat) (l2 : Int32) (l4 : Int32) (l5 : Int32) (L : List (Nat × Value)) (h : Hp) (o : Hp), zlk L 0 = some (zrf (l0)) → zlk L 2 = some (.int (l2)) → zlk L 4 = some (.int (l4)) → zlk L 5 = some (.int (l5)) → f_X11_reads_63 s0 s1 s2 s3 l0 l2 l4 l5 h = some o → Ev G M_X11_reads d 63 L [.int (s3), .int (s2), .int (s1), zrf (s0)] h (Ret Y_X11_reads none o) := by
  intro s0 s1 s2 s3 l0 l2 l4 l5 L h o g0 g2 g4 g5 e
  unfold f_X11_reads_63 at e
  replace e := ckd e
  obtain ⟨k25, e⟩ := e
  replace e := bd e
  obtain ⟨q24, eq24, e⟩ := e
  refine g_callV d_X11_reads_63 vk_12_299 (as := [_, _, _]) rfl k25 rfl (by simp [zrf_cat, cat_int, cat_long]) (j := 4) (by omega) (c_X11_keep (by omega) eq24) ?_
  exact f_X11_reads_66_ok hj _ _ _ _ _ _ _ g0 g2 g4 g5 e

def f_X11_reads_38 (l0 : Nat) (l2 : Int32) (l3 : Int32) (l4 : Int32) (l5 : Int32) (h : Hp) : Option Hp := if ((12 : Int32)) < (l5) then (f_X11_reads_66 (l0) (l2) (l4) (l5) (h)) else (ck (isO (h) (l0) 12) (ck (isO (h) (zR (h) 1262 (l0)) 23) (ck (inR (l3) (zL (h) (zR (h) 1262 (l0)))) (if (zE (h) (zR (h) 1262 (l0)) (l3).toNatClampNeg) = (0) then (f_X11_reads_63 (l0) (l4) (l2) (l3) (l0) (l2) (l4) (l5) (h)) else (f_X11_reads_63 (l0) (l4) (l2) ((-1 : Int32)) (l0) (l2) (l4) (l5) (h))))))
theorem f_X11_reads_38_ok {G : Gd} {d : Nat} (hj : 5 ≤ d) : ∀ (l0 : Nat) (l2 : Int32) (l3 : Int32) (l4 : Int32) (l5 : Int32) (L : List (Nat × Value)) (h : Hp) (o : Hp), zlk L 0 = some (zrf (l0)) → zlk L 2 = some (.int (l2)) → zlk L 3 = some (.int (l3)) → zlk L 4 = some (.int (l4)) → zlk L 5 = some (.int (l5)) → f_X11_reads_38 l0 l2 l3 l4 l5 h = some o → Ev G M_X11_reads d 38 L [] h (Ret Y_X11_reads none o) := by
  intro l0 l2 l3 l4 l5 L h o g0 g2 g3 g4 g5 e
  unfold f_X11_reads_38 at e
  refine r_iload d_X11_reads_38 g5 ?_
  refine r_bipush d_X11_reads_40 (v := (12 : Int32)) (by decide +kernel) ?_
  refine r_icmp_gt d_X11_reads_42 (tgt := 66) (by decide) (fun c11 => ?_) (fun c11 => ?_)
  · replace e := (if_pos c11).symm.trans e
    exact f_X11_reads_66_ok hj _ _ _ _ _ _ _ g0 g2 g4 g5 e
  · replace e := (if_neg c11).symm.trans e
    refine g_ald_n d_X11_reads_45 rfl g0 ?_
    refine r_iload d_X11_reads_46 g4 ?_
    refine r_iload_n d_X11_reads_48 rfl g2 ?_
    refine g_ald_n d_X11_reads_49 rfl g0 ?_
    replace e := ckd e
    obtain ⟨k12, e⟩ := e
    refine g_getR d_X11_reads_50 (f := 1262) k12 fk_12_176 rfl rfl ?_
    refine r_iload_n d_X11_reads_53 rfl g3 ?_
    replace e := ckd e
    obtain ⟨k13, e⟩ := e
    replace e := ckd e
    obtain ⟨k14, e⟩ := e
    refine g_zald d_X11_reads_54 k13 k14 rfl ?_
    refine r_if_eq d_X11_reads_55 (tgt := 62) (by decide) (fun c15 => ?_) (fun c15 => ?_)
    · replace e := (if_pos c15).symm.trans e
      refine r_iload_n d_X11_reads_62 rfl g3 ?_
      exact f_X11_reads_63_ok hj _ _ _ _ _ _ _ _ _ _ _ g0 g2 g4 g5 e
    · replace e := (if_neg c15).symm.trans e
      refine r_iconst d_X11_reads_58 (v := (-1 : Int32)) (by decide +kernel) ?_
      refine r_goto d_X11_reads_59 (tgt := 63) (by decide) ?_
      exact f_X11_reads_63_ok hj _ _ _ _ _ _ _ _ _ _ _ g0 g2 g4 g5 e

def f_X11_reads (l0 : Nat) (l1 : Int32) (l2 : Int32) (l3 : Int32) (h : Hp) : Option Hp := ck (isO (h) (l0) 12) (ck (isO (h) (zR (h) 1225 (l0)) 22) (ck (inR (l2) (zL (h) (zR (h) 1225 (l0)))) (bh ((((16 : Int32)) * (l1)) + ((zE (h) (zR (h) 1225 (l0)) (l2).toNatClampNeg) / ((16 : Int32)))) (fun x4 => (f_X11_kindOf (l0) (l2) (h)).bind (fun q5 => if (q5.1) = (0) then (ck (isO (q5.2) (l0) 12) (ck (isO (q5.2) (zR (q5.2) 1239 (l0)) 22) (ck (inR (l1) (zL (q5.2) (zR (q5.2) 1239 (l0)))) (bh (pE (q5.2) (zR (q5.2) 1239 (l0)) (l1).toNatClampNeg ((zE (q5.2) (zR (q5.2) 1239 (l0)) (l1).toNatClampNeg) + ((1 : Int32)))) (fun h10 => f_X11_reads_38 (l0) (l2) (l3) (x4) (q5.1) (h10)))))) else (f_X11_reads_38 (l0) (l2) (l3) (x4) (q5.1) (q5.2)))))))
theorem f_X11_reads_ok {G : Gd} {d : Nat} (hj : 5 ≤ d) : ∀ (l0 : Nat) (l1 : Int32) (l2 : Int32) (l3 : Int32) (L : List (Nat × Value)) (h : Hp) (o : Hp), zlk L 0 = some (zrf (l0)) → zlk L 1 = some (.int (l1)) → zlk L 2 = some (.int (l2)) → zlk L 3 = some (.int (l3)) → f_X11_reads l0 l1 l2 l3 h = some o → Ev G M_X11_reads d 0 L [] h (Ret Y_X11_reads none o) := by
  intro l0 l1 l2 l3 L h o g0 g1 g2 g3 e
  unfold f_X11_reads at e
  refine r_bipush d_X11_reads_0 (v := (16 : Int32)) (by decide +kernel) ?_
  refine r_iload_n d_X11_reads_2 rfl g1 ?_
  refine r_imul d_X11_reads_3 ?_
  refine g_ald_n d_X11_reads_4 rfl g0 ?_
  replace e := ckd e
  obtain ⟨k1, e⟩ := e
  refine g_getR d_X11_reads_5 (f := 1225) k1 fk_12_64 rfl rfl ?_
  refine r_iload_n d_X11_reads_8 rfl g2 ?_
  replace e := ckd e
  obtain ⟨k2, e⟩ := e
  replace e := ckd e
  obtain ⟨k3, e⟩ := e
  refine g_iald d_X11_reads_9 k2 k3 rfl ?_
  refine r_bipush d_X11_reads_10 (v := (16 : Int32)) (by decide +kernel) ?_
  refine r_idiv d_X11_reads_12 (by decide +kernel) ?_
  refine r_iadd d_X11_reads_13 ?_
  replace e := bhd e
  obtain ⟨_, rfl, e⟩ := e
  refine s_istore d_X11_reads_14 (by decide) (fun L g4 gK => ?_)
  replace g0 := gK _ _ (by decide) (Or.inr (zrf_cat _)) g0
  replace g1 := gK _ _ (by decide) (Or.inr rfl) g1
  replace g2 := gK _ _ (by decide) (Or.inr rfl) g2
  replace g3 := gK _ _ (by decide) (Or.inr rfl) g3
  refine g_ald_n d_X11_reads_16 rfl g0 ?_
  refine r_iload_n d_X11_reads_17 rfl g2 ?_
  replace e := bd e
  obtain ⟨q5, eq5, e⟩ := e
  refine g_callV d_X11_reads_18 vk_12_286 (as := [_]) rfl k1 rfl (by simp [zrf_cat, cat_int, cat_long]) (j := 1) (by omega) (c_X11_kindOf (by omega) eq5) ?_
  refine s_istore d_X11_reads_21 (by decide) (fun L g5 gK => ?_)
  replace g0 := gK _ _ (by decide) (Or.inr (zrf_cat _)) g0
  replace g1 := gK _ _ (by decide) (Or.inr rfl) g1
  replace g2 := gK _ _ (by decide) (Or.inr rfl) g2
  replace g3 := gK _ _ (by decide) (Or.inr rfl) g3
  replace g4 := gK _ _ (by decide) (Or.inr rfl) g4
  refine r_iload d_X11_reads_23 g5 ?_
  refine r_if_ne d_X11_reads_25 (tgt := 38) (by decide) (fun c6 => ?_) (fun c6 => ?_)
  · replace e := (if_neg c6).symm.trans e
    exact f_X11_reads_38_ok hj _ _ _ _ _ _ _ _ g0 g2 g3 g4 g5 e
  · replace e := (if_pos c6).symm.trans e
    refine g_ald_n d_X11_reads_28 rfl g0 ?_
    replace e := ckd e
    obtain ⟨k7, e⟩ := e
    refine g_getR d_X11_reads_29 (f := 1239) k7 fk_12_107 rfl rfl ?_
    refine r_iload_n d_X11_reads_32 rfl g1 ?_
    refine r_dup2 d_X11_reads_33 rfl (zrf_cat _) ?_
    replace e := ckd e
    obtain ⟨k8, e⟩ := e
    replace e := ckd e
    obtain ⟨k9, e⟩ := e
    refine g_iald d_X11_reads_34 k8 k9 rfl ?_
    refine r_iconst d_X11_reads_35 (v := (1 : Int32)) (by decide +kernel) ?_
    refine r_iadd d_X11_reads_36 ?_
    refine g_iast d_X11_reads_37 k8 k9 ?_
    replace e := bhd e
    obtain ⟨_, rfl, e⟩ := e
    exact f_X11_reads_38_ok hj _ _ _ _ _ _ _ _ g0 g2 g3 g4 g5 e

theorem c_X11_reads {G : Gd} {j : Nat} (hj : 5 ≤ j) {l0 : Nat} {l1 : Int32} {l2 : Int32} {l3 : Int32} {h : Hp} {o : Hp} (e : f_X11_reads l0 l1 l2 l3 h = some o) : Cal G j Y_X11_reads [zrf (l0), .int (l1), .int (l2), .int (l3)] h none o := Cal.of (n := 0) (I := false) (by decide +kernel) (by decide) (by simp [lg_sl, zrf_cat, cat_int, cat_long]) (f_X11_reads_ok hj _ _ _ _ _ h o (by simp [lv_args, zlk, zrf_cat, cat_int, cat_long]) (by simp [lv_args, zlk, zrf_cat, cat_int, cat_long]) (by simp [lv_args, zlk, zrf_cat, cat_int, cat_long]) (by simp [lv_args, zlk, zrf_cat, cat_int, cat_long]) e)
def f_X11_numberOf (l0 : Int32) (h : Hp) : Option (Int32 × Hp) := some (((l0) / ((16 : Int32))) + (((4 : Int32)) * ((l0) - (l0) / ((16 : Int32)) * ((16 : Int32)))), h)
theorem f_X11_numberOf_ok {G : Gd} {d : Nat} (hj : 1 ≤ d) : ∀ (l0 : Int32) (L : List (Nat × Value)) (h : Hp) (o : (Int32 × Hp)), zlk L 0 = some (.int (l0)) → f_X11_numberOf l0 h = some o → Ev G M_X11_numberOf d 0 L [] h (Ret Y_X11_numberOf (some (.int o.1)) o.2) := by
  intro l0 L h o g0 e
  unfold f_X11_numberOf at e
  refine r_iload_n d_X11_numberOf_0 rfl g0 ?_
  refine r_bipush d_X11_numberOf_1 (v := (16 : Int32)) (by decide +kernel) ?_
  refine r_idiv d_X11_numberOf_3 (by decide +kernel) ?_
  refine r_iconst d_X11_numberOf_4 (v := (4 : Int32)) (by decide +kernel) ?_
  refine r_iload_n d_X11_numberOf_5 rfl g0 ?_
  refine r_bipush d_X11_numberOf_6 (v := (16 : Int32)) (by decide +kernel) ?_
  refine r_irem d_X11_numberOf_8 (by decide +kernel) ?_
  refine r_imul d_X11_numberOf_9 ?_
  refine r_iadd d_X11_numberOf_10 ?_
  cases e
  exact g_iret d_X11_numberOf_11 rfl rfl

theorem c_X11_numberOf {G : Gd} {j : Nat} (hj : 1 ≤ j) {l0 : Int32} {h : Hp} {o : (Int32 × Hp)} (e : f_X11_numberOf l0 h = some o) : Cal G j Y_X11_numberOf [.int (l0)] h (some (.int o.1)) o.2 := Cal.of (n := 0) (I := false) (by decide +kernel) (by decide) (by simp [lg_sl, zrf_cat, cat_int, cat_long]) (f_X11_numberOf_ok hj _ _ h o (by simp [lv_args, zlk, zrf_cat, cat_int, cat_long]) e)
def f_X11_placeOf (l0 : Int32) (h : Hp) : Option (Int32 × Hp) := some ((((16 : Int32)) * ((l0) - (l0) / ((4 : Int32)) * ((4 : Int32)))) + ((l0) / ((4 : Int32))), h)
theorem f_X11_placeOf_ok {G : Gd} {d : Nat} (hj : 1 ≤ d) : ∀ (l0 : Int32) (L : List (Nat × Value)) (h : Hp) (o : (Int32 × Hp)), zlk L 0 = some (.int (l0)) → f_X11_placeOf l0 h = some o → Ev G M_X11_placeOf d 0 L [] h (Ret Y_X11_placeOf (some (.int o.1)) o.2) := by
  intro l0 L h o g0 e
  unfold f_X11_placeOf at e
  refine r_bipush d_X11_placeOf_0 (v := (16 : Int32)) (by decide +kernel) ?_
  refine r_iload_n d_X11_placeOf_2 rfl g0 ?_
  refine r_iconst d_X11_placeOf_3 (v := (4 : Int32)) (by decide +kernel) ?_
  refine r_irem d_X11_placeOf_4 (by decide +kernel) ?_
  refine r_imul d_X11_placeOf_5 ?_
  refine r_iload_n d_X11_placeOf_6 rfl g0 ?_
  refine r_iconst d_X11_placeOf_7 (v := (4 : Int32)) (by decide +kernel) ?_
  refine r_idiv d_X11_placeOf_8 (by decide +kernel) ?_
  refine r_iadd d_X11_placeOf_9 ?_
  cases e
  exact g_iret d_X11_placeOf_10 rfl rfl

theorem c_X11_placeOf {G : Gd} {j : Nat} (hj : 1 ≤ j) {l0 : Int32} {h : Hp} {o : (Int32 × Hp)} (e : f_X11_placeOf l0 h = some o) : Cal G j Y_X11_placeOf [.int (l0)] h (some (.int o.1)) o.2 := Cal.of (n := 0) (I := false) (by decide +kernel) (by decide) (by simp [lg_sl, zrf_cat, cat_int, cat_long]) (f_X11_placeOf_ok hj _ _ h o (by simp [lv_args, zlk, zrf_cat, cat_int, cat_long]) e)
def f_X11_isFlow (l0 : Nat) (l1 : Int32) (h : Hp) : Option (Int32 × Hp) := if (l1) < (0) then (some ((0 : Int32), h)) else (if ((64 : Int32)) ≤ (l1) then (some ((0 : Int32), h)) else (ck (isO (h) (l0) 12) (ck (isO (h) (zR (h) 1239 (l0)) 22) (ck (inR ((l1) - (l1) / ((4 : Int32)) * ((4 : Int32))) (zL (h) (zR (h) 1239 (l0)))) (if (zE (h) (zR (h) 1239 (l0)) ((l1) - (l1) / ((4 : Int32)) * ((4 : Int32))).toNatClampNeg) ≤ ((l1) / ((4 : Int32))) then (some ((0 : Int32), h)) else (some ((1 : Int32), h)))))))
theorem f_X11_isFlow_ok {G : Gd} {d : Nat} (hj : 1 ≤ d) : ∀ (l0 : Nat) (l1 : Int32) (L : List (Nat × Value)) (h : Hp) (o : (Int32 × Hp)), zlk L 0 = some (zrf (l0)) → zlk L 1 = some (.int (l1)) → f_X11_isFlow l0 l1 h = some o → Ev G M_X11_isFlow d 0 L [] h (Ret Y_X11_isFlow (some (.int o.1)) o.2) := by
  intro l0 l1 L h o g0 g1 e
  unfold f_X11_isFlow at e
  refine r_iload_n d_X11_isFlow_0 rfl g1 ?_
  refine r_if_lt d_X11_isFlow_1 (tgt := 28) (by decide) (fun c1 => ?_) (fun c1 => ?_)
  · replace e := (if_pos c1).symm.trans e
    refine r_iconst d_X11_isFlow_28 (v := (0 : Int32)) (by decide +kernel) ?_
    cases e
    exact g_iret d_X11_isFlow_29 rfl rfl
  · replace e := (if_neg c1).symm.trans e
    refine r_iload_n d_X11_isFlow_4 rfl g1 ?_
    refine r_bipush d_X11_isFlow_5 (v := (64 : Int32)) (by decide +kernel) ?_
    refine r_icmp_ge d_X11_isFlow_7 (tgt := 28) (by decide) (fun c2 => ?_) (fun c2 => ?_)
    · replace e := (if_pos c2).symm.trans e
      refine r_iconst d_X11_isFlow_28 (v := (0 : Int32)) (by decide +kernel) ?_
      cases e
      exact g_iret d_X11_isFlow_29 rfl rfl
    · replace e := (if_neg c2).symm.trans e
      refine r_iload_n d_X11_isFlow_10 rfl g1 ?_
      refine r_iconst d_X11_isFlow_11 (v := (4 : Int32)) (by decide +kernel) ?_
      refine r_idiv d_X11_isFlow_12 (by decide +kernel) ?_
      refine g_ald_n d_X11_isFlow_13 rfl g0 ?_
      replace e := ckd e
      obtain ⟨k3, e⟩ := e
      refine g_getR d_X11_isFlow_14 (f := 1239) k3 fk_12_107 rfl rfl ?_
      refine r_iload_n d_X11_isFlow_17 rfl g1 ?_
      refine r_iconst d_X11_isFlow_18 (v := (4 : Int32)) (by decide +kernel) ?_
      refine r_irem d_X11_isFlow_19 (by decide +kernel) ?_
      replace e := ckd e
      obtain ⟨k4, e⟩ := e
      replace e := ckd e
      obtain ⟨k5, e⟩ := e
      refine g_iald d_X11_isFlow_20 k4 k5 rfl ?_
      refine r_icmp_ge d_X11_isFlow_21 (tgt := 28) (by decide) (fun c6 => ?_) (fun c6 => ?_)
      · replace e := (if_pos c6).symm.trans e
        refine r_iconst d_X11_isFlow_28 (v := (0 : Int32)) (by decide +kernel) ?_
        cases e
        exact g_iret d_X11_isFlow_29 rfl rfl
      · replace e := (if_neg c6).symm.trans e
        refine r_iconst d_X11_isFlow_24 (v := (1 : Int32)) (by decide +kernel) ?_
        refine r_goto d_X11_isFlow_25 (tgt := 29) (by decide) ?_
        cases e
        exact g_iret d_X11_isFlow_29 rfl rfl

theorem c_X11_isFlow {G : Gd} {j : Nat} (hj : 1 ≤ j) {l0 : Nat} {l1 : Int32} {h : Hp} {o : (Int32 × Hp)} (e : f_X11_isFlow l0 l1 h = some o) : Cal G j Y_X11_isFlow [zrf (l0), .int (l1)] h (some (.int o.1)) o.2 := Cal.of (n := 0) (I := false) (by decide +kernel) (by decide) (by simp [lg_sl, zrf_cat, cat_int, cat_long]) (f_X11_isFlow_ok hj _ _ _ h o (by simp [lv_args, zlk, zrf_cat, cat_int, cat_long]) (by simp [lv_args, zlk, zrf_cat, cat_int, cat_long]) e)
def f_X11_endOf_49 (K3 : Nat → Int32 → Int32 → Int32 → Int32 → Hp → Option (Int32 × Hp)) (l0 : Nat) (l1 : Int32) (l2 : Int32) (l3 : Int32) (l4 : Int32) (h : Hp) : Option (Int32 × Hp) := bh ((l4) + (1 : Int32)) (fun x14 => K3 (l0) (l1) (l2) (l3) (x14) (h))
theorem f_X11_endOf_49_ok {G : Gd} {d : Nat} (K3 : Nat → Int32 → Int32 → Int32 → Int32 → Hp → Option (Int32 × Hp)) (hj : 2 ≤ d) (hK3 : ∀ (l0 : Nat) (l1 : Int32) (l2 : Int32) (l3 : Int32) (l4 : Int32) (L : List (Nat × Value)) (h : Hp) (o : (Int32 × Hp)), zlk L 0 = some (zrf (l0)) → zlk L 1 = some (.int (l1)) → zlk L 2 = some (.int (l2)) → zlk L 3 = some (.int (l3)) → zlk L 4 = some (.int (l4)) → K3 l0 l1 l2 l3 l4 h = some o → Ev G M_X11_endOf d 3 L [] h (Ret Y_X11_endOf (some (.int o.1)) o.2)) : ∀ (l0 : Nat) (l1 : Int32) (l2 : Int32) (l3 : Int32) (l4 : Int32) (L : List (Nat × Value)) (h : Hp) (o : (Int32 × Hp)), zlk L 0 = some (zrf (l0)) → zlk L 1 = some (.int (l1)) → zlk L 2 = some (.int (l2)) → zlk L 3 = some (.int (l3)) → zlk L 4 = some (.int (l4)) → f_X11_endOf_49 K3 l0 l1 l2 l3 l4 h = some o → Ev G M_X11_endOf d 49 L [] h (Ret Y_X11_endOf (some (.int o.1)) o.2) := by
  intro l0 l1 l2 l3 l4 L h o g0 g1 g2 g3 g4 e
  unfold f_X11_endOf_49 at e
  replace e := bhd e
  obtain ⟨_, rfl, e⟩ := e
  refine s_iinc d_X11_endOf_49 g4 (w := (1 : Int32)) (by decide +kernel) (by decide) (fun L g4 gK => ?_)
  replace g0 := gK _ _ (by decide) (Or.inr (zrf_cat _)) g0
  replace g1 := gK _ _ (by decide) (Or.inr rfl) g1
  replace g2 := gK _ _ (by decide) (Or.inr rfl) g2
  replace g3 := gK _ _ (by decide) (Or.inr rfl) g3
  refine r_goto d_X11_endOf_52 (tgt := 3) (by decide) ?_
  exact hK3 _ _ _ _ _ _ _ _ g0 g1 g2 g3 g4 e

def f_X11_endOf_3 : Nat → Nat → Int32 → Int32 → Int32 → Int32 → Hp → Option (Int32 × Hp)
  | 0, _, _, _, _, _, _ => none
  | n + 1, l0, l1, l2, l3, l4, h => if (l3) ≤ (l4) then (some ((-1 : Int32), h)) else (ck (isO (h) (l0) 12) ((f_X11_event (l0) (l1) (l4) (h)).bind (fun q2 => ck (isO (q2.2) (l0) 12) ((f_X11_kindOf (l0) (q2.1) (q2.2)).bind (fun q4 => if (q4.1) = ((7 : Int32)) then (ck (isO (q4.2) (l0) 12) ((f_X11_event (l0) (l1) (l4) (q4.2)).bind (fun q8 => ck (isO (q8.2) (zR (q4.2) 1227 (l0)) 22) (ck (inR (q8.1) (zL (q8.2) (zR (q4.2) 1227 (l0)))) (if (zE (q8.2) (zR (q4.2) 1227 (l0)) (q8.1).toNatClampNeg) = (l2) then (ck (isO (q8.2) (l0) 12) ((f_X11_event (l0) (l1) (l4) (q8.2)).bind (fun q12 => some (q12.1, q12.2)))) else (f_X11_endOf_49 (f_X11_endOf_3 n ) (l0) (l1) (l2) (l3) (l4) (q8.2))))))) else (f_X11_endOf_49 (f_X11_endOf_3 n ) (l0) (l1) (l2) (l3) (l4) (q4.2)))))))
theorem f_X11_endOf_3_ok {G : Gd} {d : Nat} (hj : 2 ≤ d) : ∀ (n : Nat) (l0 : Nat) (l1 : Int32) (l2 : Int32) (l3 : Int32) (l4 : Int32) (L : List (Nat × Value)) (h : Hp) (o : (Int32 × Hp)), zlk L 0 = some (zrf (l0)) → zlk L 1 = some (.int (l1)) → zlk L 2 = some (.int (l2)) → zlk L 3 = some (.int (l3)) → zlk L 4 = some (.int (l4)) → f_X11_endOf_3 n l0 l1 l2 l3 l4 h = some o → Ev G M_X11_endOf d 3 L [] h (Ret Y_X11_endOf (some (.int o.1)) o.2) := by
  intro n
  induction n with
  | zero =>
    intro l0 l1 l2 l3 l4 L h o g0 g1 g2 g3 g4 e
    cases e
  | succ n ih =>
    intro l0 l1 l2 l3 l4 L h o g0 g1 g2 g3 g4 e
    unfold f_X11_endOf_3 at e
    refine r_iload d_X11_endOf_3 g4 ?_
    refine r_iload_n d_X11_endOf_5 rfl g3 ?_
    refine r_icmp_ge d_X11_endOf_6 (tgt := 55) (by decide) (fun c1 => ?_) (fun c1 => ?_)
    · replace e := (if_pos c1).symm.trans e
      refine r_iconst d_X11_endOf_55 (v := (-1 : Int32)) (by decide +kernel) ?_
      cases e
      exact g_iret d_X11_endOf_56 rfl rfl
    · replace e := (if_neg c1).symm.trans e
      refine g_ald_n d_X11_endOf_9 rfl g0 ?_
      refine g_ald_n d_X11_endOf_10 rfl g0 ?_
      refine r_iload_n d_X11_endOf_11 rfl g1 ?_
      refine r_iload d_X11_endOf_12 g4 ?_
      replace e := ckd e
      obtain ⟨k3, e⟩ := e
      replace e := bd e
      obtain ⟨q2, eq2, e⟩ := e
      refine g_callV d_X11_endOf_14 vk_12_305 (as := [_, _]) rfl k3 rfl (by simp [zrf_cat, cat_int, cat_long]) (j := 1) (by omega) (c_X11_event (by omega) eq2) ?_
      replace e := ckd e
      obtain ⟨k5, e⟩ := e
      replace e := bd e
      obtain ⟨q4, eq4, e⟩ := e
      refine g_callV d_X11_endOf_17 vk_12_286 (as := [_]) rfl k5 rfl (by simp [zrf_cat, cat_int, cat_long]) (j := 1) (by omega) (c_X11_kindOf (by omega) eq4) ?_
      refine r_bipush d_X11_endOf_20 (v := (7 : Int32)) (by decide +kernel) ?_
      refine r_icmp_ne d_X11_endOf_22 (tgt := 49) (by decide) (fun c6 => ?_) (fun c6 => ?_)
      · replace e := (if_neg c6).symm.trans e
        exact f_X11_endOf_49_ok _ hj ih _ _ _ _ _ _ _ _ g0 g1 g2 g3 g4 e
      · replace e := (if_pos c6).symm.trans e
        refine g_ald_n d_X11_endOf_25 rfl g0 ?_
        replace e := ckd e
        obtain ⟨k7, e⟩ := e
        refine g_getR d_X11_endOf_26 (f := 1227) k7 fk_12_70 rfl rfl ?_
        refine g_ald_n d_X11_endOf_29 rfl g0 ?_
        refine r_iload_n d_X11_endOf_30 rfl g1 ?_
        refine r_iload d_X11_endOf_31 g4 ?_
        replace e := bd e
        obtain ⟨q8, eq8, e⟩ := e
        refine g_callV d_X11_endOf_33 vk_12_305 (as := [_, _]) rfl k7 rfl (by simp [zrf_cat, cat_int, cat_long]) (j := 1) (by omega) (c_X11_event (by omega) eq8) ?_
        replace e := ckd e
        obtain ⟨k9, e⟩ := e
        replace e := ckd e
        obtain ⟨k10, e⟩ := e
        refine g_iald d_X11_endOf_36 k9 k10 rfl ?_
        refine r_iload_n d_X11_endOf_37 rfl g2 ?_
        refine r_icmp_ne d_X11_endOf_38 (tgt := 49) (by decide) (fun c11 => ?_) (fun c11 => ?_)
        · replace e := (if_neg c11).symm.trans e
          exact f_X11_endOf_49_ok _ hj ih _ _ _ _ _ _ _ _ g0 g1 g2 g3 g4 e
        · replace e := (if_pos c11).symm.trans e
          refine g_ald_n d_X11_endOf_41 rfl g0 ?_
          refine r_iload_n d_X11_endOf_42 rfl g1 ?_
          refine r_iload d_X11_endOf_43 g4 ?_
          replace e := ckd e
          obtain ⟨k13, e⟩ := e
          replace e := bd e
          obtain ⟨q12, eq12, e⟩ := e
          refine g_callV d_X11_endOf_45 vk_12_305 (as := [_, _]) rfl k13 rfl (by simp [zrf_cat, cat_int, cat_long]) (j := 1) (by omega) (c_X11_event (by omega) eq12) ?_
          cases e
          exact g_iret d_X11_endOf_48 rfl rfl

def f_X11_endOf (l0 : Nat) (l1 : Int32) (l2 : Int32) (l3 : Int32) (h : Hp) : Option (Int32 × Hp) := f_X11_endOf_3 fz (l0) (l1) (l2) (l3) ((0 : Int32)) (h)
theorem f_X11_endOf_ok {G : Gd} {d : Nat} (hj : 2 ≤ d) : ∀ (l0 : Nat) (l1 : Int32) (l2 : Int32) (l3 : Int32) (L : List (Nat × Value)) (h : Hp) (o : (Int32 × Hp)), zlk L 0 = some (zrf (l0)) → zlk L 1 = some (.int (l1)) → zlk L 2 = some (.int (l2)) → zlk L 3 = some (.int (l3)) → f_X11_endOf l0 l1 l2 l3 h = some o → Ev G M_X11_endOf d 0 L [] h (Ret Y_X11_endOf (some (.int o.1)) o.2) := by
  intro l0 l1 l2 l3 L h o g0 g1 g2 g3 e
  unfold f_X11_endOf at e
  refine r_iconst d_X11_endOf_0 (v := (0 : Int32)) (by decide +kernel) ?_
  refine s_istore d_X11_endOf_1 (by decide) (fun L g4 gK => ?_)
  replace g0 := gK _ _ (by decide) (Or.inr (zrf_cat _)) g0
  replace g1 := gK _ _ (by decide) (Or.inr rfl) g1
  replace g2 := gK _ _ (by decide) (Or.inr rfl) g2
  replace g3 := gK _ _ (by decide) (Or.inr rfl) g3
  exact f_X11_endOf_3_ok hj _ _ _ _ _ _ _ _ _ g0 g1 g2 g3 g4 e

theorem c_X11_endOf {G : Gd} {j : Nat} (hj : 2 ≤ j) {l0 : Nat} {l1 : Int32} {l2 : Int32} {l3 : Int32} {h : Hp} {o : (Int32 × Hp)} (e : f_X11_endOf l0 l1 l2 l3 h = some o) : Cal G j Y_X11_endOf [zrf (l0), .int (l1), .int (l2), .int (l3)] h (some (.int o.1)) o.2 := Cal.of (n := 0) (I := false) (by decide +kernel) (by decide) (by simp [lg_sl, zrf_cat, cat_int, cat_long]) (f_X11_endOf_ok hj _ _ _ _ _ h o (by simp [lv_args, zlk, zrf_cat, cat_int, cat_long]) (by simp [lv_args, zlk, zrf_cat, cat_int, cat_long]) (by simp [lv_args, zlk, zrf_cat, cat_int, cat_long]) (by simp [lv_args, zlk, zrf_cat, cat_int, cat_long]) e)
def f_X11_hasEnded (l0 : Nat) (l1 : Int32) (l2 : Int32) (h : Hp) : Option Hp := ck (isO (h) (l0) 12) (ck (isO (h) (zR (h) 1243 (l0)) 22) (ck (inR (l1) (zL (h) (zR (h) 1243 (l0)))) (bh (pE (h) (zR (h) 1243 (l0)) (l1).toNatClampNeg ((4 : Int32))) (fun h4 => ck (isO (h4) (zR (h4) 1227 (l0)) 22) (ck (inR (l2) (zL (h4) (zR (h4) 1227 (l0)))) (ck (isO (h4) (zR (h4) 1244 (l0)) 22) (ck (inR (l1) (zL (h4) (zR (h4) 1244 (l0)))) (bh (pE (h4) (zR (h4) 1244 (l0)) (l1).toNatClampNeg (zE (h4) (zR (h4) 1227 (l0)) (l2).toNatClampNeg)) (fun h9 => some (h9))))))))))
theorem f_X11_hasEnded_ok {G : Gd} {d : Nat} (hj : 1 ≤ d) : ∀ (l0 : Nat) (l1 : Int32) (l2 : Int32) (L : List (Nat × Value)) (h : Hp) (o : Hp), zlk L 0 = some (zrf (l0)) → zlk L 1 = some (.int (l1)) → zlk L 2 = some (.int (l2)) → f_X11_hasEnded l0 l1 l2 h = some o → Ev G M_X11_hasEnded d 0 L [] h (Ret Y_X11_hasEnded none o) := by
  intro l0 l1 l2 L h o g0 g1 g2 e
  unfold f_X11_hasEnded at e
  refine g_ald_n d_X11_hasEnded_0 rfl g0 ?_
  replace e := ckd e
  obtain ⟨k1, e⟩ := e
  refine g_getR d_X11_hasEnded_1 (f := 1243) k1 fk_12_119 rfl rfl ?_
  refine r_iload_n d_X11_hasEnded_4 rfl g1 ?_
  refine r_iconst d_X11_hasEnded_5 (v := (4 : Int32)) (by decide +kernel) ?_
  replace e := ckd e
  obtain ⟨k2, e⟩ := e
  replace e := ckd e
  obtain ⟨k3, e⟩ := e
  refine g_iast d_X11_hasEnded_6 k2 k3 ?_
  replace e := bhd e
  obtain ⟨_, rfl, e⟩ := e
  refine g_ald_n d_X11_hasEnded_7 rfl g0 ?_
  refine g_getR d_X11_hasEnded_8 (f := 1244) (tO_pE k1) fk_12_122 rfl rfl ?_
  refine r_iload_n d_X11_hasEnded_11 rfl g1 ?_
  refine g_ald_n d_X11_hasEnded_12 rfl g0 ?_
  refine g_getR d_X11_hasEnded_13 (f := 1227) (tO_pE k1) fk_12_70 rfl rfl ?_
  refine r_iload_n d_X11_hasEnded_16 rfl g2 ?_
  replace e := ckd e
  obtain ⟨k5, e⟩ := e
  replace e := ckd e
  obtain ⟨k6, e⟩ := e
  refine g_iald d_X11_hasEnded_17 k5 k6 rfl ?_
  replace e := ckd e
  obtain ⟨k7, e⟩ := e
  replace e := ckd e
  obtain ⟨k8, e⟩ := e
  refine g_iast d_X11_hasEnded_18 k7 k8 ?_
  replace e := bhd e
  obtain ⟨_, rfl, e⟩ := e
  cases e
  exact g_vret d_X11_hasEnded_19 rfl

theorem c_X11_hasEnded {G : Gd} {j : Nat} (hj : 1 ≤ j) {l0 : Nat} {l1 : Int32} {l2 : Int32} {h : Hp} {o : Hp} (e : f_X11_hasEnded l0 l1 l2 h = some o) : Cal G j Y_X11_hasEnded [zrf (l0), .int (l1), .int (l2)] h none o := Cal.of (n := 0) (I := false) (by decide +kernel) (by decide) (by simp [lg_sl, zrf_cat, cat_int, cat_long]) (f_X11_hasEnded_ok hj _ _ _ _ h o (by simp [lv_args, zlk, zrf_cat, cat_int, cat_long]) (by simp [lv_args, zlk, zrf_cat, cat_int, cat_long]) (by simp [lv_args, zlk, zrf_cat, cat_int, cat_long]) e)
theorem fk_12_327 : Fk "TaskWeaveModel" 327 1267 := ⟨by decide, by decide, by decide +kernel⟩
theorem fk_12_318 : Fk "TaskWeaveModel" 318 1264 := ⟨by decide, by decide, by decide +kernel⟩
theorem vk_12_336 : Vk "TaskWeaveModel" 336 2 12 Y_X11_hasEnded := ⟨yk_X11_hasEnded, by decide +kernel, by decide +kernel, by decide +kernel, by decide⟩
theorem fk_12_321 : Fk "TaskWeaveModel" 321 1265 := ⟨by decide, by decide, by decide +kernel⟩
def f_X11_waits_146 (K5 : Nat → Int32 → Int32 → Int32 → Int32 → Hp → Option Hp) (s0 : Int32) (l0 : Nat) (l1 : Int32) (l2 : Int32) (l3 : Int32) (l4 : Int32) (l5 : Int32) (h : Hp) : Option Hp := if (s0) = (0) then (K5 (l0) (l1) (l2) (l3) (l4) (h)) else (ck (isO (h) (l0) 12) (if (l2) = ((3 : Int32)) then (ck (isO (h) (zR (h) 1228 (l0)) 22) (ck (inR (l5) (zL (h) (zR (h) 1228 (l0)))) (ck (isO (h) (zR (h) 1245 (l0)) 22) (ck (inR ((((8 : Int32)) * (l1)) + (l4)) (zL (h) (zR (h) 1245 (l0)))) (bh (pE (h) (zR (h) 1245 (l0)) ((((8 : Int32)) * (l1)) + (l4)).toNatClampNeg (zE (h) (zR (h) 1228 (l0)) (l5).toNatClampNeg)) (fun h44 => if (l2) = ((2 : Int32)) then (bh (pI (h44) 1265 (l0) ((zI (h44) 1265 (l0)) + ((1 : Int32)))) (fun h46 => some (h46))) else (some (h44)))))))) else (ck (isO (h) (zR (h) 1227 (l0)) 22) (ck (inR (l5) (zL (h) (zR (h) 1227 (l0)))) (ck (isO (h) (zR (h) 1245 (l0)) 22) (ck (inR ((((8 : Int32)) * (l1)) + (l4)) (zL (h) (zR (h) 1245 (l0)))) (bh (pE (h) (zR (h) 1245 (l0)) ((((8 : Int32)) * (l1)) + (l4)).toNatClampNeg (zE (h) (zR (h) 1227 (l0)) (l5).toNatClampNeg)) (fun h37 => if (l2) = ((2 : Int32)) then (bh (pI (h37) 1265 (l0) ((zI (h37) 1265 (l0)) + ((1 : Int32)))) (fun h39 => some (h39))) else (some (h37))))))))))
theorem f_X11_waits_146_ok {G : Gd} {d : Nat} (K5 : Nat → Int32 → Int32 → Int32 → Int32 → Hp → Option Hp) (hj : 2 ≤ d) (hK5 : ∀ (l0 : Nat) (l1 : Int32) (l2 : Int32) (l3 : Int32) (l4 : Int32) (L : List (Nat × Value)) (h : Hp) (o : Hp), zlk L 0 = some (zrf (l0)) → zlk L 1 = some (.int (l1)) → zlk L 2 = some (.int (l2)) → zlk L 3 = some (.int (l3)) → zlk L 4 = some (.int (l4)) → K5 l0 l1 l2 l3 l4 h = some o → Ev G M_X11_waits d 5 L [] h (Ret Y_X11_waits none o)) : ∀ (s0 : Int32) (l0 : Nat) (l1 : Int32) (l2 : Int32) (l3 : Int32) (l4 : Int32) (l5 : Int32) (L : List (Nat × Value)) (h : Hp) (o : Hp), zlk L 0 = some (zrf (l0)) → zlk L 1 = some (.int (l1)) → zlk L 2 = some (.int (l2)) → zlk L 3 = some (.int (l3)) → zlk L 4 = some (.int (l4)) → zlk L 5 = some (.int (l5)) → f_X11_waits_146 K5 s0 l0 l1 l2 l3 l4 l5 h = some o → Ev G M_X11_waits d 146 L [.int (s0)] h (Ret Y_X11_waits none o) := by
  intro s0 l0 l1 l2 l3 l4 l5 L h o g0 g1 g2 g3 g4 g5 e
  unfold f_X11_waits_146 at e
  refine s_istore d_X11_waits_146 (by decide) (fun L g7 gK => ?_)
  replace g0 := gK _ _ (by decide) (Or.inr (zrf_cat _)) g0
  replace g1 := gK _ _ (by decide) (Or.inr rfl) g1
  replace g2 := gK _ _ (by decide) (Or.inr rfl) g2
  replace g3 := gK _ _ (by decide) (Or.inr rfl) g3
  replace g4 := gK _ _ (by decide) (Or.inr rfl) g4
  replace g5 := gK _ _ (by decide) (Or.inr rfl) g5
  refine r_iload d_X11_waits_148 g7 ?_
  refine r_if_ne d_X11_waits_150 (tgt := 156) (by decide) (fun c30 => ?_) (fun c30 => ?_)
  · replace e := (if_neg c30).symm.trans e
    refine g_ald_n d_X11_waits_156 rfl g0 ?_
    replace e := ckd e
    obtain ⟨k31, e⟩ := e
    refine g_getR d_X11_waits_157 (f := 1245) k31 fk_12_125 rfl rfl ?_
    refine r_bipush d_X11_waits_160 (v := (8 : Int32)) (by decide +kernel) ?_
    refine r_iload_n d_X11_waits_162 rfl g1 ?_
    refine r_imul d_X11_waits_163 ?_
    refine r_iload d_X11_waits_164 g4 ?_
    refine r_iadd d_X11_waits_166 ?_
    refine r_iload_n d_X11_waits_167 rfl g2 ?_
    refine r_iconst d_X11_waits_168 (v := (3 : Int32)) (by decide +kernel) ?_
    refine r_icmp_ne d_X11_waits_169 (tgt := 182) (by decide) (fun c32 => ?_) (fun c32 => ?_)
    · replace e := (if_neg c32).symm.trans e
      refine g_ald_n d_X11_waits_182 rfl g0 ?_
      refine g_getR d_X11_waits_183 (f := 1227) k31 fk_12_70 rfl rfl ?_
      refine r_iload d_X11_waits_186 g5 ?_
      replace e := ckd e
      obtain ⟨k33, e⟩ := e
      replace e := ckd e
      obtain ⟨k34, e⟩ := e
      refine g_iald d_X11_waits_188 k33 k34 rfl ?_
      replace e := ckd e
      obtain ⟨k35, e⟩ := e
      replace e := ckd e
      obtain ⟨k36, e⟩ := e
      refine g_iast d_X11_waits_189 k35 k36 ?_
      replace e := bhd e
      obtain ⟨_, rfl, e⟩ := e
      refine r_iload_n d_X11_waits_190 rfl g2 ?_
      refine r_iconst d_X11_waits_191 (v := (2 : Int32)) (by decide +kernel) ?_
      refine r_icmp_ne d_X11_waits_192 (tgt := 205) (by decide) (fun c38 => ?_) (fun c38 => ?_)
      · replace e := (if_neg c38).symm.trans e
        cases e
        exact g_vret d_X11_waits_205 rfl
      · replace e := (if_pos c38).symm.trans e
        refine g_ald_n d_X11_waits_195 rfl g0 ?_
        refine r_dup d_X11_waits_196 (zrf_cat _) ?_
        refine g_getI d_X11_waits_197 (f := 1265) (tO_pE k31) fk_12_321 rfl rfl ?_
        refine r_iconst d_X11_waits_200 (v := (1 : Int32)) (by decide +kernel) ?_
        refine r_iadd d_X11_waits_201 ?_
        refine g_putI d_X11_waits_202 (f := 1265) (tO_pE k31) fk_12_321 rfl (Or.inl rfl) ⟨rfl, rfl⟩ ?_
        replace e := bhd e
        obtain ⟨_, rfl, e⟩ := e
        cases e
        exact g_vret d_X11_waits_205 rfl
    · replace e := (if_pos c32).symm.trans e
      refine g_ald_n d_X11_waits_172 rfl g0 ?_
      refine g_getR d_X11_waits_173 (f := 1228) k31 fk_12_73 rfl rfl ?_
      refine r_iload d_X11_waits_176 g5 ?_
      replace e := ckd e
      obtain ⟨k40, e⟩ := e
      replace e := ckd e
      obtain ⟨k41, e⟩ := e
      refine g_iald d_X11_waits_178 k40 k41 rfl ?_
      refine r_goto d_X11_waits_179 (tgt := 189) (by decide) ?_
      replace e := ckd e
      obtain ⟨k42, e⟩ := e
      replace e := ckd e
      obtain ⟨k43, e⟩ := e
      refine g_iast d_X11_waits_189 k42 k43 ?_
      replace e := bhd e
      obtain ⟨_, rfl, e⟩ := e
      refine r_iload_n d_X11_waits_190 rfl g2 ?_
      refine r_iconst d_X11_waits_191 (v := (2 : Int32)) (by decide +kernel) ?_
      refine r_icmp_ne d_X11_waits_192 (tgt := 205) (by decide) (fun c45 => ?_) (fun c45 => ?_)
      · replace e := (if_neg c45).symm.trans e
        cases e
        exact g_vret d_X11_waits_205 rfl
      · replace e := (if_pos c45).symm.trans e
        refine g_ald_n d_X11_waits_195 rfl g0 ?_
        refine r_dup d_X11_waits_196 (zrf_cat _) ?_
        refine g_getI d_X11_waits_197 (f := 1265) (tO_pE k31) fk_12_321 rfl rfl ?_
        refine r_iconst d_X11_waits_200 (v := (1 : Int32)) (by decide +kernel) ?_
        refine r_iadd d_X11_waits_201 ?_
        refine g_putI d_X11_waits_202 (f := 1265) (tO_pE k31) fk_12_321 rfl (Or.inl rfl) ⟨rfl, rfl⟩ ?_
        replace e := bhd e
        obtain ⟨_, rfl, e⟩ := e
        cases e
        exact g_vret d_X11_waits_205 rfl
  · replace e := (if_pos c30).symm.trans e
    refine r_goto d_X11_waits_153 (tgt := 5) (by decide) ?_
    exact hK5 _ _ _ _ _ _ _ _ g0 g1 g2 g3 g4 e

def f_X11_waits_90 (K5 : Nat → Int32 → Int32 → Int32 → Int32 → Hp → Option Hp) (l0 : Nat) (l1 : Int32) (l2 : Int32) (l3 : Int32) (l4 : Int32) (l5 : Int32) (h : Hp) : Option Hp := f_X11_waits_146 K5 ((1 : Int32)) (l0) (l1) (l2) (l3) (l4) (l5) (h)
theorem f_X11_waits_90_ok {G : Gd} {d : Nat} (K5 : Nat → Int32 → Int32 → Int32 → Int32 → Hp → Option Hp) (hj : 2 ≤ d) (hK5 : ∀ (l0 : Nat) (l1 : Int32) (l2 : Int32) (l3 : Int32) (l4 : Int32) (L : List (Nat × Value)) (h : Hp) (o : Hp), zlk L 0 = some (zrf (l0)) → zlk L 1 = some (.int (l1)) → zlk L 2 = some (.int (l2)) → zlk L 3 = some (.int (l3)) → zlk L 4 = some (.int (l4)) → K5 l0 l1 l2 l3 l4 h = some o → Ev G M_X11_waits d 5 L [] h (Ret Y_X11_waits none o)) : ∀ (l0 : Nat) (l1 : Int32) (l2 : Int32) (l3 : Int32) (l4 : Int32) (l5 : Int32) (L : List (Nat × Value)) (h : Hp) (o : Hp), zlk L 0 = some (zrf (l0)) → zlk L 1 = some (.int (l1)) → zlk L 2 = some (.int (l2)) → zlk L 3 = some (.int (l3)) → zlk L 4 = some (.int (l4)) → zlk L 5 = some (.int (l5)) → f_X11_waits_90 K5 l0 l1 l2 l3 l4 l5 h = some o → Ev G M_X11_waits d 90 L [] h (Ret Y_X11_waits none o) := by
  intro l0 l1 l2 l3 l4 l5 L h o g0 g1 g2 g3 g4 g5 e
  unfold f_X11_waits_90 at e
  refine r_iconst d_X11_waits_90 (v := (1 : Int32)) (by decide +kernel) ?_
  refine r_goto d_X11_waits_91 (tgt := 146) (by decide) ?_
  exact f_X11_waits_146_ok _ hj hK5 _ _ _ _ _ _ _ _ _ _ g0 g1 g2 g3 g4 g5 e

def f_X11_waits_145 (K5 : Nat → Int32 → Int32 → Int32 → Int32 → Hp → Option Hp) (l0 : Nat) (l1 : Int32) (l2 : Int32) (l3 : Int32) (l4 : Int32) (l5 : Int32) (h : Hp) : Option Hp := f_X11_waits_146 K5 ((0 : Int32)) (l0) (l1) (l2) (l3) (l4) (l5) (h)
theorem f_X11_waits_145_ok {G : Gd} {d : Nat} (K5 : Nat → Int32 → Int32 → Int32 → Int32 → Hp → Option Hp) (hj : 2 ≤ d) (hK5 : ∀ (l0 : Nat) (l1 : Int32) (l2 : Int32) (l3 : Int32) (l4 : Int32) (L : List (Nat × Value)) (h : Hp) (o : Hp), zlk L 0 = some (zrf (l0)) → zlk L 1 = some (.int (l1)) → zlk L 2 = some (.int (l2)) → zlk L 3 = some (.int (l3)) → zlk L 4 = some (.int (l4)) → K5 l0 l1 l2 l3 l4 h = some o → Ev G M_X11_waits d 5 L [] h (Ret Y_X11_waits none o)) : ∀ (l0 : Nat) (l1 : Int32) (l2 : Int32) (l3 : Int32) (l4 : Int32) (l5 : Int32) (L : List (Nat × Value)) (h : Hp) (o : Hp), zlk L 0 = some (zrf (l0)) → zlk L 1 = some (.int (l1)) → zlk L 2 = some (.int (l2)) → zlk L 3 = some (.int (l3)) → zlk L 4 = some (.int (l4)) → zlk L 5 = some (.int (l5)) → f_X11_waits_145 K5 l0 l1 l2 l3 l4 l5 h = some o → Ev G M_X11_waits d 145 L [] h (Ret Y_X11_waits none o) := by
  intro l0 l1 l2 l3 l4 l5 L h o g0 g1 g2 g3 g4 g5 e
  unfold f_X11_waits_145 at e
  refine r_iconst d_X11_waits_145 (v := (0 : Int32)) (by decide +kernel) ?_
  exact f_X11_waits_146_ok _ hj hK5 _ _ _ _ _ _ _ _ _ _ g0 g1 g2 g3 g4 g5 e

def f_X11_waits_74 (K5 : Nat → Int32 → Int32 → Int32 → Int32 → Hp → Option Hp) (l0 : Nat) (l1 : Int32) (l2 : Int32) (l3 : Int32) (l4 : Int32) (l5 : Int32) (l6 : Int32) (h : Hp) : Option Hp := if (l2) = (0) then (if (l6) = ((2 : Int32)) then (f_X11_waits_90 K5 (l0) (l1) (l2) (l3) (l4) (l5) (h)) else (if (l6) = ((3 : Int32)) then (f_X11_waits_90 K5 (l0) (l1) (l2) (l3) (l4) (l5) (h)) else (f_X11_waits_146 K5 ((0 : Int32)) (l0) (l1) (l2) (l3) (l4) (l5) (h)))) else (if (l2) = ((2 : Int32)) then (if (l6) = ((8 : Int32)) then (f_X11_waits_146 K5 ((1 : Int32)) (l0) (l1) (l2) (l3) (l4) (l5) (h)) else (f_X11_waits_146 K5 ((0 : Int32)) (l0) (l1) (l2) (l3) (l4) (l5) (h))) else (if (l2) = ((3 : Int32)) then (if (l6) = ((7 : Int32)) then (ck (isO (h) (l0) 12) (ck (isO (h) (zR (h) 1227 (l0)) 22) (ck (inR (l5) (zL (h) (zR (h) 1227 (l0)))) (if (zE (h) (zR (h) 1227 (l0)) (l5).toNatClampNeg) = (l3) then (f_X11_waits_146 K5 ((1 : Int32)) (l0) (l1) (l2) (l3) (l4) (l5) (h)) else (f_X11_waits_145 K5 (l0) (l1) (l2) (l3) (l4) (l5) (h)))))) else (f_X11_waits_145 K5 (l0) (l1) (l2) (l3) (l4) (l5) (h))) else (f_X11_waits_145 K5 (l0) (l1) (l2) (l3) (l4) (l5) (h))))
theorem f_X11_waits_74_ok {G : Gd} {d : Nat} (K5 : Nat → Int32 → Int32 → Int32 → Int32 → Hp → Option Hp) (hj : 2 ≤ d) (hK5 : ∀ (l0 : Nat) (l1 : Int32) (l2 : Int32) (l3 : Int32) (l4 : Int32) (L : List (Nat × Value)) (h : Hp) (o : Hp), zlk L 0 = some (zrf (l0)) → zlk L 1 = some (.int (l1)) → zlk L 2 = some (.int (l2)) → zlk L 3 = some (.int (l3)) → zlk L 4 = some (.int (l4)) → K5 l0 l1 l2 l3 l4 h = some o → Ev G M_X11_waits d 5 L [] h (Ret Y_X11_waits none o)) : ∀ (l0 : Nat) (l1 : Int32) (l2 : Int32) (l3 : Int32) (l4 : Int32) (l5 : Int32) (l6 : Int32) (L : List (Nat × Value)) (h : Hp) (o : Hp), zlk L 0 = some (zrf (l0)) → zlk L 1 = some (.int (l1)) → zlk L 2 = some (.int (l2)) → zlk L 3 = some (.int (l3)) → zlk L 4 = some (.int (l4)) → zlk L 5 = some (.int (l5)) → zlk L 6 = some (.int (l6)) → f_X11_waits_74 K5 l0 l1 l2 l3 l4 l5 l6 h = some o → Ev G M_X11_waits d 74 L [] h (Ret Y_X11_waits none o) := by
  intro l0 l1 l2 l3 l4 l5 l6 L h o g0 g1 g2 g3 g4 g5 g6 e
  unfold f_X11_waits_74 at e
  refine r_iload_n d_X11_waits_74 rfl g2 ?_
  refine r_if_ne d_X11_waits_75 (tgt := 98) (by decide) (fun c19 => ?_) (fun c19 => ?_)
  · replace e := (if_neg c19).symm.trans e
    refine r_iload_n d_X11_waits_98 rfl g2 ?_
    refine r_iconst d_X11_waits_99 (v := (2 : Int32)) (by decide +kernel) ?_
    refine r_icmp_ne d_X11_waits_100 (tgt := 118) (by decide) (fun c20 => ?_) (fun c20 => ?_)
    · replace e := (if_neg c20).symm.trans e
      refine r_iload_n d_X11_waits_118 rfl g2 ?_
      refine r_iconst d_X11_waits_119 (v := (3 : Int32)) (by decide +kernel) ?_
      refine r_icmp_ne d_X11_waits_120 (tgt := 145) (by decide) (fun c21 => ?_) (fun c21 => ?_)
      · replace e := (if_neg c21).symm.trans e
        exact f_X11_waits_145_ok _ hj hK5 _ _ _ _ _ _ _ _ _ g0 g1 g2 g3 g4 g5 e
      · replace e := (if_pos c21).symm.trans e
        refine r_iload d_X11_waits_123 g6 ?_
        refine r_bipush d_X11_waits_125 (v := (7 : Int32)) (by decide +kernel) ?_
        refine r_icmp_ne d_X11_waits_127 (tgt := 145) (by decide) (fun c22 => ?_) (fun c22 => ?_)
        · replace e := (if_neg c22).symm.trans e
          exact f_X11_waits_145_ok _ hj hK5 _ _ _ _ _ _ _ _ _ g0 g1 g2 g3 g4 g5 e
        · replace e := (if_pos c22).symm.trans e
          refine g_ald_n d_X11_waits_130 rfl g0 ?_
          replace e := ckd e
          obtain ⟨k23, e⟩ := e
          refine g_getR d_X11_waits_131 (f := 1227) k23 fk_12_70 rfl rfl ?_
          refine r_iload d_X11_waits_134 g5 ?_
          replace e := ckd e
          obtain ⟨k24, e⟩ := e
          replace e := ckd e
          obtain ⟨k25, e⟩ := e
          refine g_iald d_X11_waits_136 k24 k25 rfl ?_
          refine r_iload_n d_X11_waits_137 rfl g3 ?_
          refine r_icmp_ne d_X11_waits_138 (tgt := 145) (by decide) (fun c26 => ?_) (fun c26 => ?_)
          · replace e := (if_neg c26).symm.trans e
            exact f_X11_waits_145_ok _ hj hK5 _ _ _ _ _ _ _ _ _ g0 g1 g2 g3 g4 g5 e
          · replace e := (if_pos c26).symm.trans e
            refine r_iconst d_X11_waits_141 (v := (1 : Int32)) (by decide +kernel) ?_
            refine r_goto d_X11_waits_142 (tgt := 146) (by decide) ?_
            exact f_X11_waits_146_ok _ hj hK5 _ _ _ _ _ _ _ _ _ _ g0 g1 g2 g3 g4 g5 e
    · replace e := (if_pos c20).symm.trans e
      refine r_iload d_X11_waits_103 g6 ?_
      refine r_bipush d_X11_waits_105 (v := (8 : Int32)) (by decide +kernel) ?_
      refine r_icmp_ne d_X11_waits_107 (tgt := 114) (by decide) (fun c27 => ?_) (fun c27 => ?_)
      · replace e := (if_neg c27).symm.trans e
        refine r_iconst d_X11_waits_114 (v := (0 : Int32)) (by decide +kernel) ?_
        refine r_goto d_X11_waits_115 (tgt := 146) (by decide) ?_
        exact f_X11_waits_146_ok _ hj hK5 _ _ _ _ _ _ _ _ _ _ g0 g1 g2 g3 g4 g5 e
      · replace e := (if_pos c27).symm.trans e
        refine r_iconst d_X11_waits_110 (v := (1 : Int32)) (by decide +kernel) ?_
        refine r_goto d_X11_waits_111 (tgt := 146) (by decide) ?_
        exact f_X11_waits_146_ok _ hj hK5 _ _ _ _ _ _ _ _ _ _ g0 g1 g2 g3 g4 g5 e
  · replace e := (if_pos c19).symm.trans e
    refine r_iload d_X11_waits_78 g6 ?_
    refine r_iconst d_X11_waits_80 (v := (2 : Int32)) (by decide +kernel) ?_
    refine r_icmp_eq d_X11_waits_81 (tgt := 90) (by decide) (fun c28 => ?_) (fun c28 => ?_)
    · replace e := (if_pos c28).symm.trans e
      exact f_X11_waits_90_ok _ hj hK5 _ _ _ _ _ _ _ _ _ g0 g1 g2 g3 g4 g5 e
    · replace e := (if_neg c28).symm.trans e
      refine r_iload d_X11_waits_84 g6 ?_
      refine r_iconst d_X11_waits_86 (v := (3 : Int32)) (by decide +kernel) ?_
      refine r_icmp_ne d_X11_waits_87 (tgt := 94) (by decide) (fun c29 => ?_) (fun c29 => ?_)
      · replace e := (if_neg c29).symm.trans e
        refine r_iconst d_X11_waits_94 (v := (0 : Int32)) (by decide +kernel) ?_
        refine r_goto d_X11_waits_95 (tgt := 146) (by decide) ?_
        exact f_X11_waits_146_ok _ hj hK5 _ _ _ _ _ _ _ _ _ _ g0 g1 g2 g3 g4 g5 e
      · replace e := (if_pos c29).symm.trans e
        exact f_X11_waits_90_ok _ hj hK5 _ _ _ _ _ _ _ _ _ g0 g1 g2 g3 g4 g5 e

def f_X11_waits_5 : Nat → Nat → Int32 → Int32 → Int32 → Int32 → Hp → Option Hp
  | 0, _, _, _, _, _, _ => none
  | n + 1, l0, l1, l2, l3, l4, h => ck (isO (h) (l0) 12) (ck (isO (h) (zR (h) 1241 (l0)) 22) (ck (inR (l1) (zL (h) (zR (h) 1241 (l0)))) (if (zE (h) (zR (h) 1241 (l0)) (l1).toNatClampNeg) ≤ (zI (h) 1264 (l0)) then (ck (isO (h) (zR (h) 1243 (l0)) 22) (ck (inR (l1) (zL (h) (zR (h) 1243 (l0)))) (bh (pE (h) (zR (h) 1243 (l0)) (l1).toNatClampNeg (l2)) (fun h9 => some (h9))))) else ((f_X11_event (l0) (l1) (zI (h) 1264 (l0)) (h)).bind (fun q10 => ck (isO (q10.2) (l0) 12) ((f_X11_kindOf (l0) (q10.1) (q10.2)).bind (fun q11 => ck (isO (q11.2) (l0) 12) (bh (pI (q11.2) 1264 (l0) ((zI (q11.2) 1264 (l0)) + ((1 : Int32)))) (fun h14 => if (q11.1) < ((10 : Int32)) then (if (l2) = ((1 : Int32)) then (if (q11.1) = ((5 : Int32)) then (some (h14)) else (f_X11_waits_74 (f_X11_waits_5 n ) (l0) (l1) (l2) (l3) (l4) (q10.1) (q11.1) (h14))) else (f_X11_waits_74 (f_X11_waits_5 n ) (l0) (l1) (l2) (l3) (l4) (q10.1) (q11.1) (h14))) else ((f_X11_hasEnded (l0) (l1) (q10.1) (h14)).bind (fun q18 => some (q18))))))))))))
theorem f_X11_waits_5_ok {G : Gd} {d : Nat} (hj : 2 ≤ d) : ∀ (n : Nat) (l0 : Nat) (l1 : Int32) (l2 : Int32) (l3 : Int32) (l4 : Int32) (L : List (Nat × Value)) (h : Hp) (o : Hp), zlk L 0 = some (zrf (l0)) → zlk L 1 = some (.int (l1)) → zlk L 2 = some (.int (l2)) → zlk L 3 = some (.int (l3)) → zlk L 4 = some (.int (l4)) → f_X11_waits_5 n l0 l1 l2 l3 l4 h = some o → Ev G M_X11_waits d 5 L [] h (Ret Y_X11_waits none o) := by
  intro n
  induction n with
  | zero =>
    intro l0 l1 l2 l3 l4 L h o g0 g1 g2 g3 g4 e
    cases e
  | succ n ih =>
    intro l0 l1 l2 l3 l4 L h o g0 g1 g2 g3 g4 e
    unfold f_X11_waits_5 at e
    refine g_ald_n d_X11_waits_5 rfl g0 ?_
    replace e := ckd e
    obtain ⟨k3, e⟩ := e
    refine g_getI d_X11_waits_6 (f := 1264) k3 fk_12_318 rfl rfl ?_
    refine g_ald_n d_X11_waits_9 rfl g0 ?_
    refine g_getR d_X11_waits_10 (f := 1241) k3 fk_12_113 rfl rfl ?_
    refine r_iload_n d_X11_waits_13 rfl g1 ?_
    replace e := ckd e
    obtain ⟨k4, e⟩ := e
    replace e := ckd e
    obtain ⟨k5, e⟩ := e
    refine g_iald d_X11_waits_14 k4 k5 rfl ?_
    refine r_icmp_ge d_X11_waits_15 (tgt := 206) (by decide) (fun c6 => ?_) (fun c6 => ?_)
    · replace e := (if_pos c6).symm.trans e
      refine g_ald_n d_X11_waits_206 rfl g0 ?_
      refine g_getR d_X11_waits_207 (f := 1243) k3 fk_12_119 rfl rfl ?_
      refine r_iload_n d_X11_waits_210 rfl g1 ?_
      refine r_iload_n d_X11_waits_211 rfl g2 ?_
      replace e := ckd e
      obtain ⟨k7, e⟩ := e
      replace e := ckd e
      obtain ⟨k8, e⟩ := e
      refine g_iast d_X11_waits_212 k7 k8 ?_
      replace e := bhd e
      obtain ⟨_, rfl, e⟩ := e
      cases e
      exact g_vret d_X11_waits_213 rfl
    · replace e := (if_neg c6).symm.trans e
      refine g_ald_n d_X11_waits_18 rfl g0 ?_
      refine r_iload_n d_X11_waits_19 rfl g1 ?_
      refine g_ald_n d_X11_waits_20 rfl g0 ?_
      refine g_getI d_X11_waits_21 (f := 1264) k3 fk_12_318 rfl rfl ?_
      replace e := bd e
      obtain ⟨q10, eq10, e⟩ := e
      refine g_callV d_X11_waits_24 vk_12_305 (as := [_, _]) rfl k3 rfl (by simp [zrf_cat, cat_int, cat_long]) (j := 1) (by omega) (c_X11_event (by omega) eq10) ?_
      refine s_istore d_X11_waits_27 (by decide) (fun L g5 gK => ?_)
      replace g0 := gK _ _ (by decide) (Or.inr (zrf_cat _)) g0
      replace g1 := gK _ _ (by decide) (Or.inr rfl) g1
      replace g2 := gK _ _ (by decide) (Or.inr rfl) g2
      replace g3 := gK _ _ (by decide) (Or.inr rfl) g3
      replace g4 := gK _ _ (by decide) (Or.inr rfl) g4
      refine g_ald_n d_X11_waits_29 rfl g0 ?_
      refine r_iload d_X11_waits_30 g5 ?_
      replace e := ckd e
      obtain ⟨k12, e⟩ := e
      replace e := bd e
      obtain ⟨q11, eq11, e⟩ := e
      refine g_callV d_X11_waits_32 vk_12_286 (as := [_]) rfl k12 rfl (by simp [zrf_cat, cat_int, cat_long]) (j := 1) (by omega) (c_X11_kindOf (by omega) eq11) ?_
      refine s_istore d_X11_waits_35 (by decide) (fun L g6 gK => ?_)
      replace g0 := gK _ _ (by decide) (Or.inr (zrf_cat _)) g0
      replace g1 := gK _ _ (by decide) (Or.inr rfl) g1
      replace g2 := gK _ _ (by decide) (Or.inr rfl) g2
      replace g3 := gK _ _ (by decide) (Or.inr rfl) g3
      replace g4 := gK _ _ (by decide) (Or.inr rfl) g4
      replace g5 := gK _ _ (by decide) (Or.inr rfl) g5
      refine g_ald_n d_X11_waits_37 rfl g0 ?_
      refine r_dup d_X11_waits_38 (zrf_cat _) ?_
      replace e := ckd e
      obtain ⟨k13, e⟩ := e
      refine g_getI d_X11_waits_39 (f := 1264) k13 fk_12_318 rfl rfl ?_
      refine r_iconst d_X11_waits_42 (v := (1 : Int32)) (by decide +kernel) ?_
      refine r_iadd d_X11_waits_43 ?_
      refine g_putI d_X11_waits_44 (f := 1264) k13 fk_12_318 rfl (Or.inl rfl) ⟨rfl, rfl⟩ ?_
      replace e := bhd e
      obtain ⟨_, rfl, e⟩ := e
      refine r_iload d_X11_waits_47 g6 ?_
      refine r_bipush d_X11_waits_49 (v := (10 : Int32)) (by decide +kernel) ?_
      refine r_icmp_lt d_X11_waits_51 (tgt := 62) (by decide) (fun c15 => ?_) (fun c15 => ?_)
      · replace e := (if_pos c15).symm.trans e
        refine r_iload_n d_X11_waits_62 rfl g2 ?_
        refine r_iconst d_X11_waits_63 (v := (1 : Int32)) (by decide +kernel) ?_
        refine r_icmp_ne d_X11_waits_64 (tgt := 74) (by decide) (fun c16 => ?_) (fun c16 => ?_)
        · replace e := (if_neg c16).symm.trans e
          exact f_X11_waits_74_ok _ hj ih _ _ _ _ _ _ _ _ _ _ g0 g1 g2 g3 g4 g5 g6 e
        · replace e := (if_pos c16).symm.trans e
          refine r_iload d_X11_waits_67 g6 ?_
          refine r_iconst d_X11_waits_69 (v := (5 : Int32)) (by decide +kernel) ?_
          refine r_icmp_ne d_X11_waits_70 (tgt := 74) (by decide) (fun c17 => ?_) (fun c17 => ?_)
          · replace e := (if_neg c17).symm.trans e
            exact f_X11_waits_74_ok _ hj ih _ _ _ _ _ _ _ _ _ _ g0 g1 g2 g3 g4 g5 g6 e
          · replace e := (if_pos c17).symm.trans e
            cases e
            exact g_vret d_X11_waits_73 rfl
      · replace e := (if_neg c15).symm.trans e
        refine g_ald_n d_X11_waits_54 rfl g0 ?_
        refine r_iload_n d_X11_waits_55 rfl g1 ?_
        refine r_iload d_X11_waits_56 g5 ?_
        replace e := bd e
        obtain ⟨q18, eq18, e⟩ := e
        refine g_callV d_X11_waits_58 vk_12_336 (as := [_, _]) rfl (tO_pI k13) rfl (by simp [zrf_cat, cat_int, cat_long]) (j := 1) (by omega) (c_X11_hasEnded (by omega) eq18) ?_
        cases e
        exact g_vret d_X11_waits_61 rfl

def f_X11_waits (l0 : Nat) (l1 : Int32) (l2 : Int32) (l3 : Int32) (l4 : Int32) (h : Hp) : Option Hp := ck (isO (h) (l0) 12) (bh (pI (h) 1267 (l0) ((0 : Int32))) (fun h2 => f_X11_waits_5 fz (l0) (l1) (l2) (l3) (l4) (h2)))
theorem f_X11_waits_ok {G : Gd} {d : Nat} (hj : 2 ≤ d) : ∀ (l0 : Nat) (l1 : Int32) (l2 : Int32) (l3 : Int32) (l4 : Int32) (L : List (Nat × Value)) (h : Hp) (o : Hp), zlk L 0 = some (zrf (l0)) → zlk L 1 = some (.int (l1)) → zlk L 2 = some (.int (l2)) → zlk L 3 = some (.int (l3)) → zlk L 4 = some (.int (l4)) → f_X11_waits l0 l1 l2 l3 l4 h = some o → Ev G M_X11_waits d 0 L [] h (Ret Y_X11_waits none o) := by
  intro l0 l1 l2 l3 l4 L h o g0 g1 g2 g3 g4 e
  unfold f_X11_waits at e
  refine g_ald_n d_X11_waits_0 rfl g0 ?_
  refine r_iconst d_X11_waits_1 (v := (0 : Int32)) (by decide +kernel) ?_
  replace e := ckd e
  obtain ⟨k1, e⟩ := e
  refine g_putI d_X11_waits_2 (f := 1267) k1 fk_12_327 rfl (Or.inl rfl) ⟨rfl, rfl⟩ ?_
  replace e := bhd e
  obtain ⟨_, rfl, e⟩ := e
  exact f_X11_waits_5_ok hj _ _ _ _ _ _ _ _ _ g0 g1 g2 g3 g4 e

theorem c_X11_waits {G : Gd} {j : Nat} (hj : 2 ≤ j) {l0 : Nat} {l1 : Int32} {l2 : Int32} {l3 : Int32} {l4 : Int32} {h : Hp} {o : Hp} (e : f_X11_waits l0 l1 l2 l3 l4 h = some o) : Cal G j Y_X11_waits [zrf (l0), .int (l1), .int (l2), .int (l3), .int (l4)] h none o := Cal.of (n := 0) (I := false) (by decide +kernel) (by decide) (by simp [lg_sl, zrf_cat, cat_int, cat_long]) (f_X11_waits_ok hj _ _ _ _ _ _ h o (by simp [lv_args, zlk, zrf_cat, cat_int, cat_long]) (by simp [lv_args, zlk, zrf_cat, cat_int, cat_long]) (by simp [lv_args, zlk, zrf_cat, cat_int, cat_long]) (by simp [lv_args, zlk, zrf_cat, cat_int, cat_long]) (by simp [lv_args, zlk, zrf_cat, cat_int, cat_long]) e)
theorem vk_12_360 : Vk "TaskWeaveModel" 360 3 12 Y_X11_endOf := ⟨yk_X11_endOf, by decide +kernel, by decide +kernel, by decide +kernel, by decide⟩
theorem fk_12_324 : Fk "TaskWeaveModel" 324 1266 := ⟨by decide, by decide, by decide +kernel⟩
theorem vk_12_351 : Vk "TaskWeaveModel" 351 4 12 Y_X11_waits := ⟨yk_X11_waits, by decide +kernel, by decide +kernel, by decide +kernel, by decide⟩
def f_X11_joins (l0 : Nat) (l1 : Int32) (l2 : Int32) (l3 : Int32) (h : Hp) : Option Hp := ck (isO (h) (l0) 12) ((f_X11_endOf (l0) (l1) (l2) (zI (h) 1264 (l0)) (h)).bind (fun q2 => ck (isO (q2.2) (l0) 12) ((f_X11_in (l2) (zI (q2.2) 1266 (l0)) (q2.2)).bind (fun q4 => if (q4.1) = (0) then (ck (isO (q4.2) (l0) 12) (ck (isO (q4.2) (zR (q4.2) 1245 (l0)) 22) (ck (inR ((((8 : Int32)) * (l1)) + (l3)) (zL (q4.2) (zR (q4.2) 1245 (l0)))) (bh (pE (q4.2) (zR (q4.2) 1245 (l0)) ((((8 : Int32)) * (l1)) + (l3)).toNatClampNeg ((-1 : Int32))) (fun h18 => some (h18)))))) else (if (q2.1) = ((-1 : Int32)) then (ck (isO (q4.2) (l0) 12) ((f_X11_waits (l0) (l1) ((3 : Int32)) (l2) (l3) (q4.2)).bind (fun q7 => some (q7)))) else (ck (isO (q4.2) (l0) 12) (ck (isO (q4.2) (zR (q4.2) 1228 (l0)) 22) (ck (inR (q2.1) (zL (q4.2) (zR (q4.2) 1228 (l0)))) (ck (isO (q4.2) (zR (q4.2) 1245 (l0)) 22) (ck (inR ((((8 : Int32)) * (l1)) + (l3)) (zL (q4.2) (zR (q4.2) 1245 (l0)))) (bh (pE (q4.2) (zR (q4.2) 1245 (l0)) ((((8 : Int32)) * (l1)) + (l3)).toNatClampNeg (zE (q4.2) (zR (q4.2) 1228 (l0)) (q2.1).toNatClampNeg)) (fun h14 => some (h14)))))))))))))
theorem f_X11_joins_ok {G : Gd} {d : Nat} (hj : 3 ≤ d) : ∀ (l0 : Nat) (l1 : Int32) (l2 : Int32) (l3 : Int32) (L : List (Nat × Value)) (h : Hp) (o : Hp), zlk L 0 = some (zrf (l0)) → zlk L 1 = some (.int (l1)) → zlk L 2 = some (.int (l2)) → zlk L 3 = some (.int (l3)) → f_X11_joins l0 l1 l2 l3 h = some o → Ev G M_X11_joins d 0 L [] h (Ret Y_X11_joins none o) := by
  intro l0 l1 l2 l3 L h o g0 g1 g2 g3 e
  unfold f_X11_joins at e
  refine g_ald_n d_X11_joins_0 rfl g0 ?_
  refine r_iload_n d_X11_joins_1 rfl g1 ?_
  refine r_iload_n d_X11_joins_2 rfl g2 ?_
  refine g_ald_n d_X11_joins_3 rfl g0 ?_
  replace e := ckd e
  obtain ⟨k1, e⟩ := e
  refine g_getI d_X11_joins_4 (f := 1264) k1 fk_12_318 rfl rfl ?_
  replace e := bd e
  obtain ⟨q2, eq2, e⟩ := e
  refine g_callV d_X11_joins_7 vk_12_360 (as := [_, _, _]) rfl k1 rfl (by simp [zrf_cat, cat_int, cat_long]) (j := 2) (by omega) (c_X11_endOf (by omega) eq2) ?_
  refine s_istore d_X11_joins_10 (by decide) (fun L g4 gK => ?_)
  replace g0 := gK _ _ (by decide) (Or.inr (zrf_cat _)) g0
  replace g1 := gK _ _ (by decide) (Or.inr rfl) g1
  replace g2 := gK _ _ (by decide) (Or.inr rfl) g2
  replace g3 := gK _ _ (by decide) (Or.inr rfl) g3
  refine r_iload_n d_X11_joins_12 rfl g2 ?_
  refine g_ald_n d_X11_joins_13 rfl g0 ?_
  replace e := ckd e
  obtain ⟨k3, e⟩ := e
  refine g_getI d_X11_joins_14 (f := 1266) k3 fk_12_324 rfl rfl ?_
  replace e := bd e
  obtain ⟨q4, eq4, e⟩ := e
  refine g_callS d_X11_joins_17 sk_12_230 (as := [_, _]) rfl rfl (by simp [zrf_cat, cat_int, cat_long]) (j := 1) (by omega) (c_X11_in (by omega) eq4) ?_
  refine r_if_ne d_X11_joins_20 (tgt := 38) (by decide) (fun c5 => ?_) (fun c5 => ?_)
  · replace e := (if_neg c5).symm.trans e
    refine r_iload d_X11_joins_38 g4 ?_
    refine r_iconst d_X11_joins_40 (v := (-1 : Int32)) (by decide +kernel) ?_
    refine r_icmp_eq d_X11_joins_41 (tgt := 65) (by decide) (fun c6 => ?_) (fun c6 => ?_)
    · replace e := (if_pos c6).symm.trans e
      refine g_ald_n d_X11_joins_65 rfl g0 ?_
      refine r_iload_n d_X11_joins_66 rfl g1 ?_
      refine r_iconst d_X11_joins_67 (v := (3 : Int32)) (by decide +kernel) ?_
      refine r_iload_n d_X11_joins_68 rfl g2 ?_
      refine r_iload_n d_X11_joins_69 rfl g3 ?_
      replace e := ckd e
      obtain ⟨k8, e⟩ := e
      replace e := bd e
      obtain ⟨q7, eq7, e⟩ := e
      refine g_callV d_X11_joins_70 vk_12_351 (as := [_, _, _, _]) rfl k8 rfl (by simp [zrf_cat, cat_int, cat_long]) (j := 2) (by omega) (c_X11_waits (by omega) eq7) ?_
      cases e
      exact g_vret d_X11_joins_73 rfl
    · replace e := (if_neg c6).symm.trans e
      refine g_ald_n d_X11_joins_44 rfl g0 ?_
      replace e := ckd e
      obtain ⟨k9, e⟩ := e
      refine g_getR d_X11_joins_45 (f := 1245) k9 fk_12_125 rfl rfl ?_
      refine r_bipush d_X11_joins_48 (v := (8 : Int32)) (by decide +kernel) ?_
      refine r_iload_n d_X11_joins_50 rfl g1 ?_
      refine r_imul d_X11_joins_51 ?_
      refine r_iload_n d_X11_joins_52 rfl g3 ?_
      refine r_iadd d_X11_joins_53 ?_
      refine g_ald_n d_X11_joins_54 rfl g0 ?_
      refine g_getR d_X11_joins_55 (f := 1228) k9 fk_12_73 rfl rfl ?_
      refine r_iload d_X11_joins_58 g4 ?_
      replace e := ckd e
      obtain ⟨k10, e⟩ := e
      replace e := ckd e
      obtain ⟨k11, e⟩ := e
      refine g_iald d_X11_joins_60 k10 k11 rfl ?_
      replace e := ckd e
      obtain ⟨k12, e⟩ := e
      replace e := ckd e
      obtain ⟨k13, e⟩ := e
      refine g_iast d_X11_joins_61 k12 k13 ?_
      replace e := bhd e
      obtain ⟨_, rfl, e⟩ := e
      refine r_goto d_X11_joins_62 (tgt := 73) (by decide) ?_
      cases e
      exact g_vret d_X11_joins_73 rfl
  · replace e := (if_pos c5).symm.trans e
    refine g_ald_n d_X11_joins_23 rfl g0 ?_
    replace e := ckd e
    obtain ⟨k15, e⟩ := e
    refine g_getR d_X11_joins_24 (f := 1245) k15 fk_12_125 rfl rfl ?_
    refine r_bipush d_X11_joins_27 (v := (8 : Int32)) (by decide +kernel) ?_
    refine r_iload_n d_X11_joins_29 rfl g1 ?_
    refine r_imul d_X11_joins_30 ?_
    refine r_iload_n d_X11_joins_31 rfl g3 ?_
    refine r_iadd d_X11_joins_32 ?_
    refine r_iconst d_X11_joins_33 (v := (-1 : Int32)) (by decide +kernel) ?_
    replace e := ckd e
    obtain ⟨k16, e⟩ := e
    replace e := ckd e
    obtain ⟨k17, e⟩ := e
    refine g_iast d_X11_joins_34 k16 k17 ?_
    replace e := bhd e
    obtain ⟨_, rfl, e⟩ := e
    refine r_goto d_X11_joins_35 (tgt := 73) (by decide) ?_
    cases e
    exact g_vret d_X11_joins_73 rfl

theorem c_X11_joins {G : Gd} {j : Nat} (hj : 3 ≤ j) {l0 : Nat} {l1 : Int32} {l2 : Int32} {l3 : Int32} {h : Hp} {o : Hp} (e : f_X11_joins l0 l1 l2 l3 h = some o) : Cal G j Y_X11_joins [zrf (l0), .int (l1), .int (l2), .int (l3)] h none o := Cal.of (n := 0) (I := false) (by decide +kernel) (by decide) (by simp [lg_sl, zrf_cat, cat_int, cat_long]) (f_X11_joins_ok hj _ _ _ _ _ h o (by simp [lv_args, zlk, zrf_cat, cat_int, cat_long]) (by simp [lv_args, zlk, zrf_cat, cat_int, cat_long]) (by simp [lv_args, zlk, zrf_cat, cat_int, cat_long]) (by simp [lv_args, zlk, zrf_cat, cat_int, cat_long]) e)
def f_X11_own (l0 : Nat) (l1 : Int32) (l2 : Int32) (l3 : Int32) (l4 : Int32) (h : Hp) : Option (Int32 × Hp) := ck (isO (h) (l0) 12) (ck (isO (h) (zR (h) 1241 (l0)) 22) (ck (inR (l1) (zL (h) (zR (h) 1241 (l0)))) (if (zE (h) (zR (h) 1241 (l0)) (l1).toNatClampNeg) ≤ (zI (h) 1264 (l0)) then (ck (isO (h) (zR (h) 1243 (l0)) 22) (ck (inR (l1) (zL (h) (zR (h) 1243 (l0)))) (bh (pE (h) (zR (h) 1243 (l0)) (l1).toNatClampNeg ((5 : Int32))) (fun h7 => ck (isO (h7) (zR (h7) 1248 (l0)) 22) (ck (inR (l1) (zL (h7) (zR (h7) 1248 (l0)))) (bh (pE (h7) (zR (h7) 1248 (l0)) (l1).toNatClampNeg (l2)) (fun h10 => ck (isO (h10) (zR (h10) 1249 (l0)) 22) (ck (inR (l1) (zL (h10) (zR (h10) 1249 (l0)))) (bh (pE (h10) (zR (h10) 1249 (l0)) (l1).toNatClampNeg (l3)) (fun h13 => ck (isO (h13) (zR (h13) 1250 (l0)) 22) (ck (inR (l1) (zL (h13) (zR (h13) 1250 (l0)))) (bh (pE (h13) (zR (h13) 1250 (l0)) (l1).toNatClampNeg (l4)) (fun h16 => some ((0 : Int32), h16)))))))))))))) else ((f_X11_event (l0) (l1) (zI (h) 1264 (l0)) (h)).bind (fun q17 => ck (isO (q17.2) (l0) 12) (bh (pI (q17.2) 1264 (l0) ((zI (q17.2) 1264 (l0)) + ((1 : Int32)))) (fun h19 => (f_X11_kindOf (l0) (q17.1) (h19)).bind (fun q20 => if (q20.1) < ((10 : Int32)) then (ck (isO (q20.2) (l0) 12) (ck (isO (q20.2) (zR (q20.2) 1243 (l0)) 22) (ck (inR (l1) (zL (q20.2) (zR (q20.2) 1243 (l0)))) (if (zE (q20.2) (zR (q20.2) 1243 (l0)) (l1).toNatClampNeg) = ((6 : Int32)) then (some ((1 : Int32), q20.2)) else (some ((0 : Int32), q20.2)))))) else (ck (isO (q20.2) (l0) 12) ((f_X11_hasEnded (l0) (l1) (q17.1) (q20.2)).bind (fun q26 => ck (isO (q26) (l0) 12) (ck (isO (q26) (zR (q26) 1243 (l0)) 22) (ck (inR (l1) (zL (q26) (zR (q26) 1243 (l0)))) (if (zE (q26) (zR (q26) 1243 (l0)) (l1).toNatClampNeg) = ((6 : Int32)) then (some ((1 : Int32), q26)) else (some ((0 : Int32), q26))))))))))))))))
theorem f_X11_own_ok {G : Gd} {d : Nat} (hj : 2 ≤ d) : ∀ (l0 : Nat) (l1 : Int32) (l2 : Int32) (l3 : Int32) (l4 : Int32) (L : List (Nat × Value)) (h : Hp) (o : (Int32 × Hp)), zlk L 0 = some (zrf (l0)) → zlk L 1 = some (.int (l1)) → zlk L 2 = some (.int (l2)) → zlk L 3 = some (.int (l3)) → zlk L 4 = some (.int (l4)) → f_X11_own l0 l1 l2 l3 l4 h = some o → Ev G M_X11_own d 0 L [] h (Ret Y_X11_own (some (.int o.1)) o.2) := by
  intro l0 l1 l2 l3 l4 L h o g0 g1 g2 g3 g4 e
  unfold f_X11_own at e
  refine g_ald_n d_X11_own_0 rfl g0 ?_
  replace e := ckd e
  obtain ⟨k1, e⟩ := e
  refine g_getI d_X11_own_1 (f := 1264) k1 fk_12_318 rfl rfl ?_
  refine g_ald_n d_X11_own_4 rfl g0 ?_
  refine g_getR d_X11_own_5 (f := 1241) k1 fk_12_113 rfl rfl ?_
  refine r_iload_n d_X11_own_8 rfl g1 ?_
  replace e := ckd e
  obtain ⟨k2, e⟩ := e
  replace e := ckd e
  obtain ⟨k3, e⟩ := e
  refine g_iald d_X11_own_9 k2 k3 rfl ?_
  refine r_icmp_ge d_X11_own_10 (tgt := 69) (by decide) (fun c4 => ?_) (fun c4 => ?_)
  · replace e := (if_pos c4).symm.trans e
    refine g_ald_n d_X11_own_69 rfl g0 ?_
    refine g_getR d_X11_own_70 (f := 1243) k1 fk_12_119 rfl rfl ?_
    refine r_iload_n d_X11_own_73 rfl g1 ?_
    refine r_iconst d_X11_own_74 (v := (5 : Int32)) (by decide +kernel) ?_
    replace e := ckd e
    obtain ⟨k5, e⟩ := e
    replace e := ckd e
    obtain ⟨k6, e⟩ := e
    refine g_iast d_X11_own_75 k5 k6 ?_
    replace e := bhd e
    obtain ⟨_, rfl, e⟩ := e
    refine g_ald_n d_X11_own_76 rfl g0 ?_
    refine g_getR d_X11_own_77 (f := 1248) (tO_pE k1) fk_12_134 rfl rfl ?_
    refine r_iload_n d_X11_own_80 rfl g1 ?_
    refine r_iload_n d_X11_own_81 rfl g2 ?_
    replace e := ckd e
    obtain ⟨k8, e⟩ := e
    replace e := ckd e
    obtain ⟨k9, e⟩ := e
    refine g_iast d_X11_own_82 k8 k9 ?_
    replace e := bhd e
    obtain ⟨_, rfl, e⟩ := e
    refine g_ald_n d_X11_own_83 rfl g0 ?_
    refine g_getR d_X11_own_84 (f := 1249) (tO_pE (tO_pE k1)) fk_12_137 rfl rfl ?_
    refine r_iload_n d_X11_own_87 rfl g1 ?_
    refine r_iload_n d_X11_own_88 rfl g3 ?_
    replace e := ckd e
    obtain ⟨k11, e⟩ := e
    replace e := ckd e
    obtain ⟨k12, e⟩ := e
    refine g_iast d_X11_own_89 k11 k12 ?_
    replace e := bhd e
    obtain ⟨_, rfl, e⟩ := e
    refine g_ald_n d_X11_own_90 rfl g0 ?_
    refine g_getR d_X11_own_91 (f := 1250) (tO_pE (tO_pE (tO_pE k1))) fk_12_140 rfl rfl ?_
    refine r_iload_n d_X11_own_94 rfl g1 ?_
    refine r_iload d_X11_own_95 g4 ?_
    replace e := ckd e
    obtain ⟨k14, e⟩ := e
    replace e := ckd e
    obtain ⟨k15, e⟩ := e
    refine g_iast d_X11_own_97 k14 k15 ?_
    replace e := bhd e
    obtain ⟨_, rfl, e⟩ := e
    refine r_iconst d_X11_own_98 (v := (0 : Int32)) (by decide +kernel) ?_
    cases e
    exact g_iret d_X11_own_99 rfl rfl
  · replace e := (if_neg c4).symm.trans e
    refine g_ald_n d_X11_own_13 rfl g0 ?_
    refine r_iload_n d_X11_own_14 rfl g1 ?_
    refine g_ald_n d_X11_own_15 rfl g0 ?_
    refine g_getI d_X11_own_16 (f := 1264) k1 fk_12_318 rfl rfl ?_
    replace e := bd e
    obtain ⟨q17, eq17, e⟩ := e
    refine g_callV d_X11_own_19 vk_12_305 (as := [_, _]) rfl k1 rfl (by simp [zrf_cat, cat_int, cat_long]) (j := 1) (by omega) (c_X11_event (by omega) eq17) ?_
    refine s_istore d_X11_own_22 (by decide) (fun L g5 gK => ?_)
    replace g0 := gK _ _ (by decide) (Or.inr (zrf_cat _)) g0
    replace g1 := gK _ _ (by decide) (Or.inr rfl) g1
    refine g_ald_n d_X11_own_24 rfl g0 ?_
    refine r_dup d_X11_own_25 (zrf_cat _) ?_
    replace e := ckd e
    obtain ⟨k18, e⟩ := e
    refine g_getI d_X11_own_26 (f := 1264) k18 fk_12_318 rfl rfl ?_
    refine r_iconst d_X11_own_29 (v := (1 : Int32)) (by decide +kernel) ?_
    refine r_iadd d_X11_own_30 ?_
    refine g_putI d_X11_own_31 (f := 1264) k18 fk_12_318 rfl (Or.inl rfl) ⟨rfl, rfl⟩ ?_
    replace e := bhd e
    obtain ⟨_, rfl, e⟩ := e
    refine g_ald_n d_X11_own_34 rfl g0 ?_
    refine r_iload d_X11_own_35 g5 ?_
    replace e := bd e
    obtain ⟨q20, eq20, e⟩ := e
    refine g_callV d_X11_own_37 vk_12_286 (as := [_]) rfl (tO_pI k18) rfl (by simp [zrf_cat, cat_int, cat_long]) (j := 1) (by omega) (c_X11_kindOf (by omega) eq20) ?_
    refine r_bipush d_X11_own_40 (v := (10 : Int32)) (by decide +kernel) ?_
    refine r_icmp_lt d_X11_own_42 (tgt := 52) (by decide) (fun c21 => ?_) (fun c21 => ?_)
    · replace e := (if_pos c21).symm.trans e
      refine g_ald_n d_X11_own_52 rfl g0 ?_
      replace e := ckd e
      obtain ⟨k22, e⟩ := e
      refine g_getR d_X11_own_53 (f := 1243) k22 fk_12_119 rfl rfl ?_
      refine r_iload_n d_X11_own_56 rfl g1 ?_
      replace e := ckd e
      obtain ⟨k23, e⟩ := e
      replace e := ckd e
      obtain ⟨k24, e⟩ := e
      refine g_iald d_X11_own_57 k23 k24 rfl ?_
      refine r_bipush d_X11_own_58 (v := (6 : Int32)) (by decide +kernel) ?_
      refine r_icmp_ne d_X11_own_60 (tgt := 67) (by decide) (fun c25 => ?_) (fun c25 => ?_)
      · replace e := (if_neg c25).symm.trans e
        refine r_iconst d_X11_own_67 (v := (0 : Int32)) (by decide +kernel) ?_
        cases e
        exact g_iret d_X11_own_68 rfl rfl
      · replace e := (if_pos c25).symm.trans e
        refine r_iconst d_X11_own_63 (v := (1 : Int32)) (by decide +kernel) ?_
        refine r_goto d_X11_own_64 (tgt := 68) (by decide) ?_
        cases e
        exact g_iret d_X11_own_68 rfl rfl
    · replace e := (if_neg c21).symm.trans e
      refine g_ald_n d_X11_own_45 rfl g0 ?_
      refine r_iload_n d_X11_own_46 rfl g1 ?_
      refine r_iload d_X11_own_47 g5 ?_
      replace e := ckd e
      obtain ⟨k27, e⟩ := e
      replace e := bd e
      obtain ⟨q26, eq26, e⟩ := e
      refine g_callV d_X11_own_49 vk_12_336 (as := [_, _]) rfl k27 rfl (by simp [zrf_cat, cat_int, cat_long]) (j := 1) (by omega) (c_X11_hasEnded (by omega) eq26) ?_
      refine g_ald_n d_X11_own_52 rfl g0 ?_
      replace e := ckd e
      obtain ⟨k28, e⟩ := e
      refine g_getR d_X11_own_53 (f := 1243) k28 fk_12_119 rfl rfl ?_
      refine r_iload_n d_X11_own_56 rfl g1 ?_
      replace e := ckd e
      obtain ⟨k29, e⟩ := e
      replace e := ckd e
      obtain ⟨k30, e⟩ := e
      refine g_iald d_X11_own_57 k29 k30 rfl ?_
      refine r_bipush d_X11_own_58 (v := (6 : Int32)) (by decide +kernel) ?_
      refine r_icmp_ne d_X11_own_60 (tgt := 67) (by decide) (fun c31 => ?_) (fun c31 => ?_)
      · replace e := (if_neg c31).symm.trans e
        refine r_iconst d_X11_own_67 (v := (0 : Int32)) (by decide +kernel) ?_
        cases e
        exact g_iret d_X11_own_68 rfl rfl
      · replace e := (if_pos c31).symm.trans e
        refine r_iconst d_X11_own_63 (v := (1 : Int32)) (by decide +kernel) ?_
        refine r_goto d_X11_own_64 (tgt := 68) (by decide) ?_
        cases e
        exact g_iret d_X11_own_68 rfl rfl

theorem c_X11_own {G : Gd} {j : Nat} (hj : 2 ≤ j) {l0 : Nat} {l1 : Int32} {l2 : Int32} {l3 : Int32} {l4 : Int32} {h : Hp} {o : (Int32 × Hp)} (e : f_X11_own l0 l1 l2 l3 l4 h = some o) : Cal G j Y_X11_own [zrf (l0), .int (l1), .int (l2), .int (l3), .int (l4)] h (some (.int o.1)) o.2 := Cal.of (n := 0) (I := false) (by decide +kernel) (by decide) (by simp [lg_sl, zrf_cat, cat_int, cat_long]) (f_X11_own_ok hj _ _ _ _ _ _ h o (by simp [lv_args, zlk, zrf_cat, cat_int, cat_long]) (by simp [lv_args, zlk, zrf_cat, cat_int, cat_long]) (by simp [lv_args, zlk, zrf_cat, cat_int, cat_long]) (by simp [lv_args, zlk, zrf_cat, cat_int, cat_long]) (by simp [lv_args, zlk, zrf_cat, cat_int, cat_long]) e)
def f_X11_takesSignal_78 (K5 : Nat → Int32 → Int32 → Int32 → Int32 → Hp → Option Hp) (l0 : Nat) (l1 : Int32) (l2 : Int32) (l3 : Int32) (l4 : Int32) (h : Hp) : Option Hp := bh ((l4) + (1 : Int32)) (fun x19 => K5 (l0) (l1) (l2) (l3) (x19) (h))
theorem f_X11_takesSignal_78_ok {G : Gd} {d : Nat} (K5 : Nat → Int32 → Int32 → Int32 → Int32 → Hp → Option Hp) (hj : 3 ≤ d) (hK5 : ∀ (l0 : Nat) (l1 : Int32) (l2 : Int32) (l3 : Int32) (l4 : Int32) (L : List (Nat × Value)) (h : Hp) (o : Hp), zlk L 0 = some (zrf (l0)) → zlk L 1 = some (.int (l1)) → zlk L 2 = some (.int (l2)) → zlk L 3 = some (.int (l3)) → zlk L 4 = some (.int (l4)) → K5 l0 l1 l2 l3 l4 h = some o → Ev G M_X11_takesSignal d 5 L [] h (Ret Y_X11_takesSignal none o)) : ∀ (l0 : Nat) (l1 : Int32) (l2 : Int32) (l3 : Int32) (l4 : Int32) (L : List (Nat × Value)) (h : Hp) (o : Hp), zlk L 0 = some (zrf (l0)) → zlk L 1 = some (.int (l1)) → zlk L 2 = some (.int (l2)) → zlk L 3 = some (.int (l3)) → zlk L 4 = some (.int (l4)) → f_X11_takesSignal_78 K5 l0 l1 l2 l3 l4 h = some o → Ev G M_X11_takesSignal d 78 L [] h (Ret Y_X11_takesSignal none o) := by
  intro l0 l1 l2 l3 l4 L h o g0 g1 g2 g3 g4 e
  unfold f_X11_takesSignal_78 at e
  replace e := bhd e
  obtain ⟨_, rfl, e⟩ := e
  refine s_iinc d_X11_takesSignal_78 g4 (w := (1 : Int32)) (by decide +kernel) (by decide) (fun L g4 gK => ?_)
  replace g0 := gK _ _ (by decide) (Or.inr (zrf_cat _)) g0
  replace g1 := gK _ _ (by decide) (Or.inr rfl) g1
  replace g2 := gK _ _ (by decide) (Or.inr rfl) g2
  replace g3 := gK _ _ (by decide) (Or.inr rfl) g3
  refine r_goto d_X11_takesSignal_81 (tgt := 5) (by decide) ?_
  exact hK5 _ _ _ _ _ _ _ _ g0 g1 g2 g3 g4 e

def f_X11_takesSignal_5 : Nat → Nat → Int32 → Int32 → Int32 → Int32 → Hp → Option Hp
  | 0, _, _, _, _, _, _ => none
  | n + 1, l0, l1, l2, l3, l4, h => ck (isO (h) (l0) 12) (if (zI (h) 1264 (l0)) ≤ (l4) then ((f_X11_waits (l0) (l1) ((2 : Int32)) ((0 : Int32)) (l2) (h)).bind (fun q3 => some (q3))) else ((f_X11_event (l0) (l1) (l4) (h)).bind (fun q4 => ck (isO (q4.2) (l0) 12) ((f_X11_kindOf (l0) (q4.1) (q4.2)).bind (fun q5 => if (q5.1) = ((8 : Int32)) then (ck (isO (q5.2) (l0) 12) (if (l3) = (zI (q5.2) 1265 (l0)) then ((f_X11_event (l0) (l1) (l4) (q5.2)).bind (fun q11 => ck (isO (q11.2) (zR (q5.2) 1227 (l0)) 22) (ck (inR (q11.1) (zL (q11.2) (zR (q5.2) 1227 (l0)))) (ck (isO (q11.2) (zR (q5.2) 1245 (l0)) 22) (ck (inR ((((8 : Int32)) * (l1)) + (l2)) (zL (q11.2) (zR (q5.2) 1245 (l0)))) (bh (pE (q11.2) (zR (q5.2) 1245 (l0)) ((((8 : Int32)) * (l1)) + (l2)).toNatClampNeg (zE (q11.2) (zR (q5.2) 1227 (l0)) (q11.1).toNatClampNeg)) (fun h16 => ck (isO (h16) (l0) 12) (bh (pI (h16) 1265 (l0) ((zI (h16) 1265 (l0)) + ((1 : Int32)))) (fun h18 => some (h18)))))))))) else (bh ((l3) + (1 : Int32)) (fun x10 => f_X11_takesSignal_78 (f_X11_takesSignal_5 n ) (l0) (l1) (l2) (x10) (l4) (q5.2))))) else (f_X11_takesSignal_78 (f_X11_takesSignal_5 n ) (l0) (l1) (l2) (l3) (l4) (q5.2)))))))
theorem f_X11_takesSignal_5_ok {G : Gd} {d : Nat} (hj : 3 ≤ d) : ∀ (n : Nat) (l0 : Nat) (l1 : Int32) (l2 : Int32) (l3 : Int32) (l4 : Int32) (L : List (Nat × Value)) (h : Hp) (o : Hp), zlk L 0 = some (zrf (l0)) → zlk L 1 = some (.int (l1)) → zlk L 2 = some (.int (l2)) → zlk L 3 = some (.int (l3)) → zlk L 4 = some (.int (l4)) → f_X11_takesSignal_5 n l0 l1 l2 l3 l4 h = some o → Ev G M_X11_takesSignal d 5 L [] h (Ret Y_X11_takesSignal none o) := by
  intro n
  induction n with
  | zero =>
    intro l0 l1 l2 l3 l4 L h o g0 g1 g2 g3 g4 e
    cases e
  | succ n ih =>
    intro l0 l1 l2 l3 l4 L h o g0 g1 g2 g3 g4 e
    unfold f_X11_takesSignal_5 at e
    refine r_iload d_X11_takesSignal_5 g4 ?_
    refine g_ald_n d_X11_takesSignal_7 rfl g0 ?_
    replace e := ckd e
    obtain ⟨k1, e⟩ := e
    refine g_getI d_X11_takesSignal_8 (f := 1264) k1 fk_12_318 rfl rfl ?_
    refine r_icmp_ge d_X11_takesSignal_11 (tgt := 84) (by decide) (fun c2 => ?_) (fun c2 => ?_)
    · replace e := (if_pos c2).symm.trans e
      refine g_ald_n d_X11_takesSignal_84 rfl g0 ?_
      refine r_iload_n d_X11_takesSignal_85 rfl g1 ?_
      refine r_iconst d_X11_takesSignal_86 (v := (2 : Int32)) (by decide +kernel) ?_
      refine r_iconst d_X11_takesSignal_87 (v := (0 : Int32)) (by decide +kernel) ?_
      refine r_iload_n d_X11_takesSignal_88 rfl g2 ?_
      replace e := bd e
      obtain ⟨q3, eq3, e⟩ := e
      refine g_callV d_X11_takesSignal_89 vk_12_351 (as := [_, _, _, _]) rfl k1 rfl (by simp [zrf_cat, cat_int, cat_long]) (j := 2) (by omega) (c_X11_waits (by omega) eq3) ?_
      cases e
      exact g_vret d_X11_takesSignal_92 rfl
    · replace e := (if_neg c2).symm.trans e
      refine g_ald_n d_X11_takesSignal_14 rfl g0 ?_
      refine g_ald_n d_X11_takesSignal_15 rfl g0 ?_
      refine r_iload_n d_X11_takesSignal_16 rfl g1 ?_
      refine r_iload d_X11_takesSignal_17 g4 ?_
      replace e := bd e
      obtain ⟨q4, eq4, e⟩ := e
      refine g_callV d_X11_takesSignal_19 vk_12_305 (as := [_, _]) rfl k1 rfl (by simp [zrf_cat, cat_int, cat_long]) (j := 1) (by omega) (c_X11_event (by omega) eq4) ?_
      replace e := ckd e
      obtain ⟨k6, e⟩ := e
      replace e := bd e
      obtain ⟨q5, eq5, e⟩ := e
      refine g_callV d_X11_takesSignal_22 vk_12_286 (as := [_]) rfl k6 rfl (by simp [zrf_cat, cat_int, cat_long]) (j := 1) (by omega) (c_X11_kindOf (by omega) eq5) ?_
      refine r_bipush d_X11_takesSignal_25 (v := (8 : Int32)) (by decide +kernel) ?_
      refine r_icmp_eq d_X11_takesSignal_27 (tgt := 33) (by decide) (fun c7 => ?_) (fun c7 => ?_)
      · replace e := (if_pos c7).symm.trans e
        refine r_iload_n d_X11_takesSignal_33 rfl g3 ?_
        refine g_ald_n d_X11_takesSignal_34 rfl g0 ?_
        replace e := ckd e
        obtain ⟨k8, e⟩ := e
        refine g_getI d_X11_takesSignal_35 (f := 1265) k8 fk_12_321 rfl rfl ?_
        refine r_icmp_ne d_X11_takesSignal_38 (tgt := 75) (by decide) (fun c9 => ?_) (fun c9 => ?_)
        · replace e := (if_neg c9).symm.trans e
          replace e := bhd e
          obtain ⟨_, rfl, e⟩ := e
          refine s_iinc d_X11_takesSignal_75 g3 (w := (1 : Int32)) (by decide +kernel) (by decide) (fun L g3 gK => ?_)
          replace g0 := gK _ _ (by decide) (Or.inr (zrf_cat _)) g0
          replace g1 := gK _ _ (by decide) (Or.inr rfl) g1
          replace g2 := gK _ _ (by decide) (Or.inr rfl) g2
          replace g4 := gK _ _ (by decide) (Or.inr rfl) g4
          exact f_X11_takesSignal_78_ok _ hj ih _ _ _ _ _ _ _ _ g0 g1 g2 g3 g4 e
        · replace e := (if_pos c9).symm.trans e
          refine g_ald_n d_X11_takesSignal_41 rfl g0 ?_
          refine g_getR d_X11_takesSignal_42 (f := 1245) k8 fk_12_125 rfl rfl ?_
          refine r_bipush d_X11_takesSignal_45 (v := (8 : Int32)) (by decide +kernel) ?_
          refine r_iload_n d_X11_takesSignal_47 rfl g1 ?_
          refine r_imul d_X11_takesSignal_48 ?_
          refine r_iload_n d_X11_takesSignal_49 rfl g2 ?_
          refine r_iadd d_X11_takesSignal_50 ?_
          refine g_ald_n d_X11_takesSignal_51 rfl g0 ?_
          refine g_getR d_X11_takesSignal_52 (f := 1227) k8 fk_12_70 rfl rfl ?_
          refine g_ald_n d_X11_takesSignal_55 rfl g0 ?_
          refine r_iload_n d_X11_takesSignal_56 rfl g1 ?_
          refine r_iload d_X11_takesSignal_57 g4 ?_
          replace e := bd e
          obtain ⟨q11, eq11, e⟩ := e
          refine g_callV d_X11_takesSignal_59 vk_12_305 (as := [_, _]) rfl k8 rfl (by simp [zrf_cat, cat_int, cat_long]) (j := 1) (by omega) (c_X11_event (by omega) eq11) ?_
          replace e := ckd e
          obtain ⟨k12, e⟩ := e
          replace e := ckd e
          obtain ⟨k13, e⟩ := e
          refine g_iald d_X11_takesSignal_62 k12 k13 rfl ?_
          replace e := ckd e
          obtain ⟨k14, e⟩ := e
          replace e := ckd e
          obtain ⟨k15, e⟩ := e
          refine g_iast d_X11_takesSignal_63 k14 k15 ?_
          replace e := bhd e
          obtain ⟨_, rfl, e⟩ := e
          refine g_ald_n d_X11_takesSignal_64 rfl g0 ?_
          refine r_dup d_X11_takesSignal_65 (zrf_cat _) ?_
          replace e := ckd e
          obtain ⟨k17, e⟩ := e
          refine g_getI d_X11_takesSignal_66 (f := 1265) k17 fk_12_321 rfl rfl ?_
          refine r_iconst d_X11_takesSignal_69 (v := (1 : Int32)) (by decide +kernel) ?_
          refine r_iadd d_X11_takesSignal_70 ?_
          refine g_putI d_X11_takesSignal_71 (f := 1265) k17 fk_12_321 rfl (Or.inl rfl) ⟨rfl, rfl⟩ ?_
          replace e := bhd e
          obtain ⟨_, rfl, e⟩ := e
          cases e
          exact g_vret d_X11_takesSignal_74 rfl
      · replace e := (if_neg c7).symm.trans e
        refine r_goto d_X11_takesSignal_30 (tgt := 78) (by decide) ?_
        exact f_X11_takesSignal_78_ok _ hj ih _ _ _ _ _ _ _ _ g0 g1 g2 g3 g4 e

def f_X11_takesSignal (l0 : Nat) (l1 : Int32) (l2 : Int32) (h : Hp) : Option Hp := f_X11_takesSignal_5 fz (l0) (l1) (l2) ((0 : Int32)) ((0 : Int32)) (h)
theorem f_X11_takesSignal_ok {G : Gd} {d : Nat} (hj : 3 ≤ d) : ∀ (l0 : Nat) (l1 : Int32) (l2 : Int32) (L : List (Nat × Value)) (h : Hp) (o : Hp), zlk L 0 = some (zrf (l0)) → zlk L 1 = some (.int (l1)) → zlk L 2 = some (.int (l2)) → f_X11_takesSignal l0 l1 l2 h = some o → Ev G M_X11_takesSignal d 0 L [] h (Ret Y_X11_takesSignal none o) := by
  intro l0 l1 l2 L h o g0 g1 g2 e
  unfold f_X11_takesSignal at e
  refine r_iconst d_X11_takesSignal_0 (v := (0 : Int32)) (by decide +kernel) ?_
  refine s_istore_n d_X11_takesSignal_1 rfl (by decide) (fun L g3 gK => ?_)
  replace g0 := gK _ _ (by decide) (Or.inr (zrf_cat _)) g0
  replace g1 := gK _ _ (by decide) (Or.inr rfl) g1
  replace g2 := gK _ _ (by decide) (Or.inr rfl) g2
  refine r_iconst d_X11_takesSignal_2 (v := (0 : Int32)) (by decide +kernel) ?_
  refine s_istore d_X11_takesSignal_3 (by decide) (fun L g4 gK => ?_)
  replace g0 := gK _ _ (by decide) (Or.inr (zrf_cat _)) g0
  replace g1 := gK _ _ (by decide) (Or.inr rfl) g1
  replace g2 := gK _ _ (by decide) (Or.inr rfl) g2
  replace g3 := gK _ _ (by decide) (Or.inr rfl) g3
  exact f_X11_takesSignal_5_ok hj _ _ _ _ _ _ _ _ _ g0 g1 g2 g3 g4 e

theorem c_X11_takesSignal {G : Gd} {j : Nat} (hj : 3 ≤ j) {l0 : Nat} {l1 : Int32} {l2 : Int32} {h : Hp} {o : Hp} (e : f_X11_takesSignal l0 l1 l2 h = some o) : Cal G j Y_X11_takesSignal [zrf (l0), .int (l1), .int (l2)] h none o := Cal.of (n := 0) (I := false) (by decide +kernel) (by decide) (by simp [lg_sl, zrf_cat, cat_int, cat_long]) (f_X11_takesSignal_ok hj _ _ _ _ h o (by simp [lv_args, zlk, zrf_cat, cat_int, cat_long]) (by simp [lv_args, zlk, zrf_cat, cat_int, cat_long]) (by simp [lv_args, zlk, zrf_cat, cat_int, cat_long]) e)
theorem vk_12_339 : Vk "TaskWeaveModel" 339 4 12 Y_X11_own := ⟨yk_X11_own, by decide +kernel, by decide +kernel, by decide +kernel, by decide⟩
theorem vk_12_354 : Vk "TaskWeaveModel" 354 2 12 Y_X11_takesSignal := ⟨yk_X11_takesSignal, by decide +kernel, by decide +kernel, by decide +kernel, by decide⟩
theorem vk_12_357 : Vk "TaskWeaveModel" 357 3 12 Y_X11_joins := ⟨yk_X11_joins, by decide +kernel, by decide +kernel, by decide +kernel, by decide⟩
def f_X11_asks_92 (s0 : Nat) (s1 : Int32) (s2 : Int32) (s3 : Int32) (s4 : Int32) (l0 : Nat) (l1 : Int32) (h : Hp) : Option Hp := ck (isO (h) (s0) 12) ((f_X11_own (s0) (s1) (s2) ((s3) + (s4)) ((0 : Int32)) (h)).bind (fun q42 => if (q42.1) = (0) then (some (q42.2)) else (ck (isO (q42.2) (l0) 12) ((f_X11_event (l0) (l1) ((zI (q42.2) 1264 (l0)) - ((1 : Int32))) (q42.2)).bind (fun q46 => ck (isO (q46.2) (zR (q42.2) 1227 (l0)) 22) (ck (inR (q46.1) (zL (q46.2) (zR (q42.2) 1227 (l0)))) (ck (isO (q46.2) (zR (q42.2) 1251 (l0)) 22) (ck (inR (l1) (zL (q46.2) (zR (q42.2) 1251 (l0)))) (bh (pE (q46.2) (zR (q42.2) 1251 (l0)) (l1).toNatClampNeg (zE (q46.2) (zR (q42.2) 1227 (l0)) (q46.1).toNatClampNeg)) (fun h51 => ck (isO (h51) (l0) 12) ((f_X11_waits (l0) (l1) ((1 : Int32)) ((0 : Int32)) ((0 : Int32)) (h51)).bind (fun q52 => some (q52)))))))))))))
theorem f_X11_asks_92_ok {G : Gd} {d : Nat} (hj : 4 ≤ d) : ∀ (s0 : Nat) (s1 : Int32) (s2 : Int32) (s3 : Int32) (s4 : Int32) (l0 : Nat) (l1 : Int32) (L : List (Nat × Value)) (h : Hp) (o : Hp), zlk L 0 = some (zrf (l0)) → zlk L 1 = some (.int (l1)) → f_X11_asks_92 s0 s1 s2 s3 s4 l0 l1 h = some o → Ev G M_X11_asks d 92 L [.int (s4), .int (s3), .int (s2), .int (s1), zrf (s0)] h (Ret Y_X11_asks none o) := by
  intro s0 s1 s2 s3 s4 l0 l1 L h o g0 g1 e
  unfold f_X11_asks_92 at e
  refine r_iadd d_X11_asks_92 ?_
  refine r_iconst d_X11_asks_93 (v := (0 : Int32)) (by decide +kernel) ?_
  replace e := ckd e
  obtain ⟨k43, e⟩ := e
  replace e := bd e
  obtain ⟨q42, eq42, e⟩ := e
  refine g_callV d_X11_asks_94 vk_12_339 (as := [_, _, _, _]) rfl k43 rfl (by simp [zrf_cat, cat_int, cat_long]) (j := 2) (by omega) (c_X11_own (by omega) eq42) ?_
  refine r_if_eq d_X11_asks_97 (tgt := 274) (by decide) (fun c44 => ?_) (fun c44 => ?_)
  · replace e := (if_pos c44).symm.trans e
    cases e
    exact g_vret d_X11_asks_274 rfl
  · replace e := (if_neg c44).symm.trans e
    refine g_ald_n d_X11_asks_100 rfl g0 ?_
    replace e := ckd e
    obtain ⟨k45, e⟩ := e
    refine g_getR d_X11_asks_101 (f := 1251) k45 fk_12_143 rfl rfl ?_
    refine r_iload_n d_X11_asks_104 rfl g1 ?_
    refine g_ald_n d_X11_asks_105 rfl g0 ?_
    refine g_getR d_X11_asks_106 (f := 1227) k45 fk_12_70 rfl rfl ?_
    refine g_ald_n d_X11_asks_109 rfl g0 ?_
    refine r_iload_n d_X11_asks_110 rfl g1 ?_
    refine g_ald_n d_X11_asks_111 rfl g0 ?_
    refine g_getI d_X11_asks_112 (f := 1264) k45 fk_12_318 rfl rfl ?_
    refine r_iconst d_X11_asks_115 (v := (1 : Int32)) (by decide +kernel) ?_
    refine r_isub d_X11_asks_116 ?_
    replace e := bd e
    obtain ⟨q46, eq46, e⟩ := e
    refine g_callV d_X11_asks_117 vk_12_305 (as := [_, _]) rfl k45 rfl (by simp [zrf_cat, cat_int, cat_long]) (j := 1) (by omega) (c_X11_event (by omega) eq46) ?_
    replace e := ckd e
    obtain ⟨k47, e⟩ := e
    replace e := ckd e
    obtain ⟨k48, e⟩ := e
    refine g_iald d_X11_asks_120 k47 k48 rfl ?_
    replace e := ckd e
    obtain ⟨k49, e⟩ := e
    replace e := ckd e
    obtain ⟨k50, e⟩ := e
    refine g_iast d_X11_asks_121 k49 k50 ?_
    replace e := bhd e
    obtain ⟨_, rfl, e⟩ := e
    refine g_ald_n d_X11_asks_122 rfl g0 ?_
    refine r_iload_n d_X11_asks_123 rfl g1 ?_
    refine r_iconst d_X11_asks_124 (v := (1 : Int32)) (by decide +kernel) ?_
    refine r_iconst d_X11_asks_125 (v := (0 : Int32)) (by decide +kernel) ?_
    refine r_iconst d_X11_asks_126 (v := (0 : Int32)) (by decide +kernel) ?_
    replace e := ckd e
    obtain ⟨k53, e⟩ := e
    replace e := bd e
    obtain ⟨q52, eq52, e⟩ := e
    refine g_callV d_X11_asks_127 vk_12_351 (as := [_, _, _, _]) rfl k53 rfl (by simp [zrf_cat, cat_int, cat_long]) (j := 2) (by omega) (c_X11_waits (by omega) eq52) ?_
    refine r_goto d_X11_asks_130 (tgt := 274) (by decide) ?_
    cases e
    exact g_vret d_X11_asks_274 rfl

def f_X11_asks_240 (l0 : Nat) (l1 : Int32) (l3 : Int32) (l4 : Int32) (h : Hp) : Option Hp := ck (isO (h) (l0) 12) ((f_X11_own (l0) (l1) ((9 : Int32)) (l3) (l4) (h)).bind (fun q54 => if (q54.1) = (0) then (some (q54.2)) else (some (q54.2))))
theorem f_X11_asks_240_ok {G : Gd} {d : Nat} (hj : 4 ≤ d) : ∀ (l0 : Nat) (l1 : Int32) (l3 : Int32) (l4 : Int32) (L : List (Nat × Value)) (h : Hp) (o : Hp), zlk L 0 = some (zrf (l0)) → zlk L 1 = some (.int (l1)) → zlk L 3 = some (.int (l3)) → zlk L 4 = some (.int (l4)) → f_X11_asks_240 l0 l1 l3 l4 h = some o → Ev G M_X11_asks d 240 L [] h (Ret Y_X11_asks none o) := by
  intro l0 l1 l3 l4 L h o g0 g1 g3 g4 e
  unfold f_X11_asks_240 at e
  refine g_ald_n d_X11_asks_240 rfl g0 ?_
  refine r_iload_n d_X11_asks_241 rfl g1 ?_
  refine r_bipush d_X11_asks_242 (v := (9 : Int32)) (by decide +kernel) ?_
  refine r_iload_n d_X11_asks_244 rfl g3 ?_
  refine r_iload d_X11_asks_245 g4 ?_
  replace e := ckd e
  obtain ⟨k55, e⟩ := e
  replace e := bd e
  obtain ⟨q54, eq54, e⟩ := e
  refine g_callV d_X11_asks_247 vk_12_339 (as := [_, _, _, _]) rfl k55 rfl (by simp [zrf_cat, cat_int, cat_long]) (j := 2) (by omega) (c_X11_own (by omega) eq54) ?_
  refine r_if_eq d_X11_asks_250 (tgt := 257) (by decide) (fun c56 => ?_) (fun c56 => ?_)
  · replace e := (if_pos c56).symm.trans e
    refine r_iconst d_X11_asks_257 (v := (0 : Int32)) (by decide +kernel) ?_
    refine s_istore d_X11_asks_258 (by decide) (fun L g5 gK => ?_)
    refine r_goto d_X11_asks_260 (tgt := 274) (by decide) ?_
    cases e
    exact g_vret d_X11_asks_274 rfl
  · replace e := (if_neg c56).symm.trans e
    refine r_iconst d_X11_asks_253 (v := (1 : Int32)) (by decide +kernel) ?_
    refine r_goto d_X11_asks_254 (tgt := 258) (by decide) ?_
    refine s_istore d_X11_asks_258 (by decide) (fun L g5 gK => ?_)
    refine r_goto d_X11_asks_260 (tgt := 274) (by decide) ?_
    cases e
    exact g_vret d_X11_asks_274 rfl

def f_X11_asks (l0 : Nat) (l1 : Int32) (l2 : Int32) (l3 : Int32) (l4 : Int32) (h : Hp) : Option Hp := ck (isO (h) (l0) 12) (ck (isO (h) (zR (h) 1214 (l0)) 22) (ck (inR (l2) (zL (h) (zR (h) 1214 (l0)))) (if (zE (h) (zR (h) 1214 (l0)) (l2).toNatClampNeg) = (6 : Int32) then (ck (isO (h) (zR (h) 1220 (l0)) 22) (ck (inR (l2) (zL (h) (zR (h) 1220 (l0)))) ((f_X11_own (l0) (l1) ((1 : Int32)) (zE (h) (zR (h) 1220 (l0)) (l2).toNatClampNeg) (l3) (h)).bind (fun q7 => if (q7.1) = (0) then (some (q7.2)) else (ck (isO (q7.2) (l0) 12) (ck (isO (q7.2) (zR (q7.2) 1215 (l0)) 22) (ck (inR (l2) (zL (q7.2) (zR (q7.2) 1215 (l0)))) ((f_X11_waits (l0) (l1) ((0 : Int32)) ((0 : Int32)) (zE (q7.2) (zR (q7.2) 1215 (l0)) (l2).toNatClampNeg) (q7.2)).bind (fun q12 => some (q12)))))))))) else (if (zE (h) (zR (h) 1214 (l0)) (l2).toNatClampNeg) = (7 : Int32) then (ck (isO (h) (zR (h) 1215 (l0)) 22) (ck (inR (l2) (zL (h) (zR (h) 1215 (l0)))) ((f_X11_takesSignal (l0) (l1) (zE (h) (zR (h) 1215 (l0)) (l2).toNatClampNeg) (h)).bind (fun q16 => some (q16))))) else (if (zE (h) (zR (h) 1214 (l0)) (l2).toNatClampNeg) = (8 : Int32) then (ck (isO (h) (zR (h) 1220 (l0)) 22) (ck (inR (l2) (zL (h) (zR (h) 1220 (l0)))) ((f_X11_own (l0) (l1) ((6 : Int32)) (zE (h) (zR (h) 1220 (l0)) (l2).toNatClampNeg) (l3) (h)).bind (fun q20 => if (q20.1) = (0) then (some (q20.2)) else (ck (isO (q20.2) (l0) 12) (ck (isO (q20.2) (zR (q20.2) 1215 (l0)) 22) (ck (inR (l2) (zL (q20.2) (zR (q20.2) 1215 (l0)))) (ck (isO (q20.2) (zR (q20.2) 1245 (l0)) 22) (ck (inR ((((8 : Int32)) * (l1)) + (zE (q20.2) (zR (q20.2) 1215 (l0)) (l2).toNatClampNeg)) (zL (q20.2) (zR (q20.2) 1245 (l0)))) (bh (pE (q20.2) (zR (q20.2) 1245 (l0)) ((((8 : Int32)) * (l1)) + (zE (q20.2) (zR (q20.2) 1215 (l0)) (l2).toNatClampNeg)).toNatClampNeg (zI (q20.2) 1266 (l0))) (fun h27 => bh (pI (h27) 1266 (l0) ((zI (h27) 1266 (l0)) + ((1 : Int32)))) (fun h28 => some (h28))))))))))))) else (if (zE (h) (zR (h) 1214 (l0)) (l2).toNatClampNeg) = (9 : Int32) then (ck (isO (h) (zR (h) 1215 (l0)) 22) (ck (inR (l2) (zL (h) (zR (h) 1215 (l0)))) ((f_X11_joins (l0) (l1) (l3) (zE (h) (zR (h) 1215 (l0)) (l2).toNatClampNeg) (h)).bind (fun q32 => some (q32))))) else (if (zE (h) (zR (h) 1214 (l0)) (l2).toNatClampNeg) = (10 : Int32) then (if (0) ≤ (l3) then (f_X11_asks_92 (l0) (l1) ((4 : Int32)) (zI (h) 1201 (l0)) (l3) (l0) (l1) (h)) else (f_X11_asks_92 (l0) (l1) ((4 : Int32)) (zI (h) 1201 (l0)) ((0 : Int32)) (l0) (l1) (h))) else (if (zE (h) (zR (h) 1214 (l0)) (l2).toNatClampNeg) = (11 : Int32) then (if (l3) = ((-1 : Int32)) then ((f_X11_parent (l0) (l1) (h)).bind (fun q39 => if (q39.1) = ((-1 : Int32)) then (some (q39.2)) else (f_X11_asks_240 (l0) (l1) (l3) (l4) (q39.2)))) else ((f_X11_in (l3) (zI (h) 1266 (l0)) (h)).bind (fun q37 => if (q37.1) = (0) then (some (q37.2)) else (f_X11_asks_240 (l0) (l1) (l3) (l4) (q37.2))))) else ((f_X11_own (l0) (l1) ((10 : Int32)) (l3) ((0 : Int32)) (h)).bind (fun q41 => some (q41.2)))))))))))
theorem f_X11_asks_ok {G : Gd} {d : Nat} (hj : 4 ≤ d) : ∀ (l0 : Nat) (l1 : Int32) (l2 : Int32) (l3 : Int32) (l4 : Int32) (L : List (Nat × Value)) (h : Hp) (o : Hp), zlk L 0 = some (zrf (l0)) → zlk L 1 = some (.int (l1)) → zlk L 2 = some (.int (l2)) → zlk L 3 = some (.int (l3)) → zlk L 4 = some (.int (l4)) → f_X11_asks l0 l1 l2 l3 l4 h = some o → Ev G M_X11_asks d 0 L [] h (Ret Y_X11_asks none o) := by
  intro l0 l1 l2 l3 l4 L h o g0 g1 g2 g3 g4 e
  unfold f_X11_asks at e
  refine g_ald_n d_X11_asks_0 rfl g0 ?_
  replace e := ckd e
  obtain ⟨k1, e⟩ := e
  refine g_getR d_X11_asks_1 (f := 1214) k1 fk_12_35 rfl rfl ?_
  refine r_iload_n d_X11_asks_4 rfl g2 ?_
  replace e := ckd e
  obtain ⟨k2, e⟩ := e
  replace e := ckd e
  obtain ⟨k3, e⟩ := e
  refine g_iald d_X11_asks_5 k2 k3 rfl ?_
  rcases ite_or e with ⟨c4, e⟩ | ⟨c4, e⟩
  · refine r_tableIn d_X11_asks_6 (off := 38) (tgt := 44) (by rw [c4]; decide +kernel) (by rw [c4]; decide +kernel) (by rw [c4] <;> rfl) (by decide) ?_
    refine g_ald_n d_X11_asks_44 rfl g0 ?_
    refine r_iload_n d_X11_asks_45 rfl g1 ?_
    refine r_iconst d_X11_asks_46 (v := (1 : Int32)) (by decide +kernel) ?_
    refine g_ald_n d_X11_asks_47 rfl g0 ?_
    refine g_getR d_X11_asks_48 (f := 1220) k1 fk_12_54 rfl rfl ?_
    refine r_iload_n d_X11_asks_51 rfl g2 ?_
    replace e := ckd e
    obtain ⟨k5, e⟩ := e
    replace e := ckd e
    obtain ⟨k6, e⟩ := e
    refine g_iald d_X11_asks_52 k5 k6 rfl ?_
    refine r_iload_n d_X11_asks_53 rfl g3 ?_
    replace e := bd e
    obtain ⟨q7, eq7, e⟩ := e
    refine g_callV d_X11_asks_54 vk_12_339 (as := [_, _, _, _]) rfl k1 rfl (by simp [zrf_cat, cat_int, cat_long]) (j := 2) (by omega) (c_X11_own (by omega) eq7) ?_
    refine r_if_eq d_X11_asks_57 (tgt := 274) (by decide) (fun c8 => ?_) (fun c8 => ?_)
    · replace e := (if_pos c8).symm.trans e
      cases e
      exact g_vret d_X11_asks_274 rfl
    · replace e := (if_neg c8).symm.trans e
      refine g_ald_n d_X11_asks_60 rfl g0 ?_
      refine r_iload_n d_X11_asks_61 rfl g1 ?_
      refine r_iconst d_X11_asks_62 (v := (0 : Int32)) (by decide +kernel) ?_
      refine r_iconst d_X11_asks_63 (v := (0 : Int32)) (by decide +kernel) ?_
      refine g_ald_n d_X11_asks_64 rfl g0 ?_
      replace e := ckd e
      obtain ⟨k9, e⟩ := e
      refine g_getR d_X11_asks_65 (f := 1215) k9 fk_12_38 rfl rfl ?_
      refine r_iload_n d_X11_asks_68 rfl g2 ?_
      replace e := ckd e
      obtain ⟨k10, e⟩ := e
      replace e := ckd e
      obtain ⟨k11, e⟩ := e
      refine g_iald d_X11_asks_69 k10 k11 rfl ?_
      replace e := bd e
      obtain ⟨q12, eq12, e⟩ := e
      refine g_callV d_X11_asks_70 vk_12_351 (as := [_, _, _, _]) rfl k9 rfl (by simp [zrf_cat, cat_int, cat_long]) (j := 2) (by omega) (c_X11_waits (by omega) eq12) ?_
      refine r_goto d_X11_asks_73 (tgt := 274) (by decide) ?_
      cases e
      exact g_vret d_X11_asks_274 rfl
  · rcases ite_or e with ⟨c13, e⟩ | ⟨c13, e⟩
    · refine r_tableIn d_X11_asks_6 (off := 127) (tgt := 133) (by rw [c13]; decide +kernel) (by rw [c13]; decide +kernel) (by rw [c13] <;> rfl) (by decide) ?_
      refine g_ald_n d_X11_asks_133 rfl g0 ?_
      refine r_iload_n d_X11_asks_134 rfl g1 ?_
      refine g_ald_n d_X11_asks_135 rfl g0 ?_
      refine g_getR d_X11_asks_136 (f := 1215) k1 fk_12_38 rfl rfl ?_
      refine r_iload_n d_X11_asks_139 rfl g2 ?_
      replace e := ckd e
      obtain ⟨k14, e⟩ := e
      replace e := ckd e
      obtain ⟨k15, e⟩ := e
      refine g_iald d_X11_asks_140 k14 k15 rfl ?_
      replace e := bd e
      obtain ⟨q16, eq16, e⟩ := e
      refine g_callV d_X11_asks_141 vk_12_354 (as := [_, _]) rfl k1 rfl (by simp [zrf_cat, cat_int, cat_long]) (j := 3) (by omega) (c_X11_takesSignal (by omega) eq16) ?_
      refine r_goto d_X11_asks_144 (tgt := 274) (by decide) ?_
      cases e
      exact g_vret d_X11_asks_274 rfl
    · rcases ite_or e with ⟨c17, e⟩ | ⟨c17, e⟩
      · refine r_tableIn d_X11_asks_6 (off := 141) (tgt := 147) (by rw [c17]; decide +kernel) (by rw [c17]; decide +kernel) (by rw [c17] <;> rfl) (by decide) ?_
        refine g_ald_n d_X11_asks_147 rfl g0 ?_
        refine r_iload_n d_X11_asks_148 rfl g1 ?_
        refine r_bipush d_X11_asks_149 (v := (6 : Int32)) (by decide +kernel) ?_
        refine g_ald_n d_X11_asks_151 rfl g0 ?_
        refine g_getR d_X11_asks_152 (f := 1220) k1 fk_12_54 rfl rfl ?_
        refine r_iload_n d_X11_asks_155 rfl g2 ?_
        replace e := ckd e
        obtain ⟨k18, e⟩ := e
        replace e := ckd e
        obtain ⟨k19, e⟩ := e
        refine g_iald d_X11_asks_156 k18 k19 rfl ?_
        refine r_iload_n d_X11_asks_157 rfl g3 ?_
        replace e := bd e
        obtain ⟨q20, eq20, e⟩ := e
        refine g_callV d_X11_asks_158 vk_12_339 (as := [_, _, _, _]) rfl k1 rfl (by simp [zrf_cat, cat_int, cat_long]) (j := 2) (by omega) (c_X11_own (by omega) eq20) ?_
        refine r_if_eq d_X11_asks_161 (tgt := 274) (by decide) (fun c21 => ?_) (fun c21 => ?_)
        · replace e := (if_pos c21).symm.trans e
          cases e
          exact g_vret d_X11_asks_274 rfl
        · replace e := (if_neg c21).symm.trans e
          refine g_ald_n d_X11_asks_164 rfl g0 ?_
          replace e := ckd e
          obtain ⟨k22, e⟩ := e
          refine g_getR d_X11_asks_165 (f := 1245) k22 fk_12_125 rfl rfl ?_
          refine r_bipush d_X11_asks_168 (v := (8 : Int32)) (by decide +kernel) ?_
          refine r_iload_n d_X11_asks_170 rfl g1 ?_
          refine r_imul d_X11_asks_171 ?_
          refine g_ald_n d_X11_asks_172 rfl g0 ?_
          refine g_getR d_X11_asks_173 (f := 1215) k22 fk_12_38 rfl rfl ?_
          refine r_iload_n d_X11_asks_176 rfl g2 ?_
          replace e := ckd e
          obtain ⟨k23, e⟩ := e
          replace e := ckd e
          obtain ⟨k24, e⟩ := e
          refine g_iald d_X11_asks_177 k23 k24 rfl ?_
          refine r_iadd d_X11_asks_178 ?_
          refine g_ald_n d_X11_asks_179 rfl g0 ?_
          refine g_getI d_X11_asks_180 (f := 1266) k22 fk_12_324 rfl rfl ?_
          replace e := ckd e
          obtain ⟨k25, e⟩ := e
          replace e := ckd e
          obtain ⟨k26, e⟩ := e
          refine g_iast d_X11_asks_183 k25 k26 ?_
          replace e := bhd e
          obtain ⟨_, rfl, e⟩ := e
          refine g_ald_n d_X11_asks_184 rfl g0 ?_
          refine r_dup d_X11_asks_185 (zrf_cat _) ?_
          refine g_getI d_X11_asks_186 (f := 1266) (tO_pE k22) fk_12_324 rfl rfl ?_
          refine r_iconst d_X11_asks_189 (v := (1 : Int32)) (by decide +kernel) ?_
          refine r_iadd d_X11_asks_190 ?_
          refine g_putI d_X11_asks_191 (f := 1266) (tO_pE k22) fk_12_324 rfl (Or.inl rfl) ⟨rfl, rfl⟩ ?_
          replace e := bhd e
          obtain ⟨_, rfl, e⟩ := e
          refine r_goto d_X11_asks_194 (tgt := 274) (by decide) ?_
          cases e
          exact g_vret d_X11_asks_274 rfl
      · rcases ite_or e with ⟨c29, e⟩ | ⟨c29, e⟩
        · refine r_tableIn d_X11_asks_6 (off := 191) (tgt := 197) (by rw [c29]; decide +kernel) (by rw [c29]; decide +kernel) (by rw [c29] <;> rfl) (by decide) ?_
          refine g_ald_n d_X11_asks_197 rfl g0 ?_
          refine r_iload_n d_X11_asks_198 rfl g1 ?_
          refine r_iload_n d_X11_asks_199 rfl g3 ?_
          refine g_ald_n d_X11_asks_200 rfl g0 ?_
          refine g_getR d_X11_asks_201 (f := 1215) k1 fk_12_38 rfl rfl ?_
          refine r_iload_n d_X11_asks_204 rfl g2 ?_
          replace e := ckd e
          obtain ⟨k30, e⟩ := e
          replace e := ckd e
          obtain ⟨k31, e⟩ := e
          refine g_iald d_X11_asks_205 k30 k31 rfl ?_
          replace e := bd e
          obtain ⟨q32, eq32, e⟩ := e
          refine g_callV d_X11_asks_206 vk_12_357 (as := [_, _, _]) rfl k1 rfl (by simp [zrf_cat, cat_int, cat_long]) (j := 3) (by omega) (c_X11_joins (by omega) eq32) ?_
          refine r_goto d_X11_asks_209 (tgt := 274) (by decide) ?_
          cases e
          exact g_vret d_X11_asks_274 rfl
        · rcases ite_or e with ⟨c33, e⟩ | ⟨c33, e⟩
          · refine r_tableIn d_X11_asks_6 (off := 70) (tgt := 76) (by rw [c33]; decide +kernel) (by rw [c33]; decide +kernel) (by rw [c33] <;> rfl) (by decide) ?_
            refine g_ald_n d_X11_asks_76 rfl g0 ?_
            refine r_iload_n d_X11_asks_77 rfl g1 ?_
            refine r_iconst d_X11_asks_78 (v := (4 : Int32)) (by decide +kernel) ?_
            refine g_ald_n d_X11_asks_79 rfl g0 ?_
            refine g_getI d_X11_asks_80 (f := 1201) k1 fk_12_283 rfl rfl ?_
            refine r_iload_n d_X11_asks_83 rfl g3 ?_
            refine r_if_ge d_X11_asks_84 (tgt := 91) (by decide) (fun c34 => ?_) (fun c34 => ?_)
            · replace e := (if_pos c34).symm.trans e
              refine r_iload_n d_X11_asks_91 rfl g3 ?_
              exact f_X11_asks_92_ok hj _ _ _ _ _ _ _ _ _ _ g0 g1 e
            · replace e := (if_neg c34).symm.trans e
              refine r_iconst d_X11_asks_87 (v := (0 : Int32)) (by decide +kernel) ?_
              refine r_goto d_X11_asks_88 (tgt := 92) (by decide) ?_
              exact f_X11_asks_92_ok hj _ _ _ _ _ _ _ _ _ _ g0 g1 e
          · rcases ite_or e with ⟨c35, e⟩ | ⟨c35, e⟩
            · refine r_tableIn d_X11_asks_6 (off := 206) (tgt := 212) (by rw [c35]; decide +kernel) (by rw [c35]; decide +kernel) (by rw [c35] <;> rfl) (by decide) ?_
              refine r_iload_n d_X11_asks_212 rfl g3 ?_
              refine r_iconst d_X11_asks_213 (v := (-1 : Int32)) (by decide +kernel) ?_
              refine r_icmp_ne d_X11_asks_214 (tgt := 229) (by decide) (fun c36 => ?_) (fun c36 => ?_)
              · replace e := (if_neg c36).symm.trans e
                refine r_iload_n d_X11_asks_229 rfl g3 ?_
                refine g_ald_n d_X11_asks_230 rfl g0 ?_
                refine g_getI d_X11_asks_231 (f := 1266) k1 fk_12_324 rfl rfl ?_
                replace e := bd e
                obtain ⟨q37, eq37, e⟩ := e
                refine g_callS d_X11_asks_234 sk_12_230 (as := [_, _]) rfl rfl (by simp [zrf_cat, cat_int, cat_long]) (j := 1) (by omega) (c_X11_in (by omega) eq37) ?_
                refine r_if_eq d_X11_asks_237 (tgt := 257) (by decide) (fun c38 => ?_) (fun c38 => ?_)
                · replace e := (if_pos c38).symm.trans e
                  refine r_iconst d_X11_asks_257 (v := (0 : Int32)) (by decide +kernel) ?_
                  refine s_istore d_X11_asks_258 (by decide) (fun L g5 gK => ?_)
                  refine r_goto d_X11_asks_260 (tgt := 274) (by decide) ?_
                  cases e
                  exact g_vret d_X11_asks_274 rfl
                · replace e := (if_neg c38).symm.trans e
                  exact f_X11_asks_240_ok hj _ _ _ _ _ _ _ g0 g1 g3 g4 e
              · replace e := (if_pos c36).symm.trans e
                refine g_ald_n d_X11_asks_217 rfl g0 ?_
                refine r_iload_n d_X11_asks_218 rfl g1 ?_
                replace e := bd e
                obtain ⟨q39, eq39, e⟩ := e
                refine g_callV d_X11_asks_219 vk_12_302 (as := [_]) rfl k1 rfl (by simp [zrf_cat, cat_int, cat_long]) (j := 3) (by omega) (c_X11_parent (by omega) eq39) ?_
                refine r_iconst d_X11_asks_222 (v := (-1 : Int32)) (by decide +kernel) ?_
                refine r_icmp_eq d_X11_asks_223 (tgt := 257) (by decide) (fun c40 => ?_) (fun c40 => ?_)
                · replace e := (if_pos c40).symm.trans e
                  refine r_iconst d_X11_asks_257 (v := (0 : Int32)) (by decide +kernel) ?_
                  refine s_istore d_X11_asks_258 (by decide) (fun L g5 gK => ?_)
                  refine r_goto d_X11_asks_260 (tgt := 274) (by decide) ?_
                  cases e
                  exact g_vret d_X11_asks_274 rfl
                · replace e := (if_neg c40).symm.trans e
                  refine r_goto d_X11_asks_226 (tgt := 240) (by decide) ?_
                  exact f_X11_asks_240_ok hj _ _ _ _ _ _ _ g0 g1 g3 g4 e
            · refine r_tableOut d_X11_asks_6 (tgt := 263) (by have := lv_neT (a := 6) c4 (by decide +kernel); have := lv_neT (a := 7) c13 (by decide +kernel); have := lv_neT (a := 8) c17 (by decide +kernel); have := lv_neT (a := 9) c29 (by decide +kernel); have := lv_neT (a := 10) c33 (by decide +kernel); have := lv_neT (a := 11) c35 (by decide +kernel); omega) (by decide) ?_
              refine g_ald_n d_X11_asks_263 rfl g0 ?_
              refine r_iload_n d_X11_asks_264 rfl g1 ?_
              refine r_bipush d_X11_asks_265 (v := (10 : Int32)) (by decide +kernel) ?_
              refine r_iload_n d_X11_asks_267 rfl g3 ?_
              refine r_iconst d_X11_asks_268 (v := (0 : Int32)) (by decide +kernel) ?_
              replace e := bd e
              obtain ⟨q41, eq41, e⟩ := e
              refine g_callV d_X11_asks_269 vk_12_339 (as := [_, _, _, _]) rfl k1 rfl (by simp [zrf_cat, cat_int, cat_long]) (j := 2) (by omega) (c_X11_own (by omega) eq41) ?_
              refine s_istore d_X11_asks_272 (by decide) (fun L g6 gK => ?_)
              cases e
              exact g_vret d_X11_asks_274 rfl

theorem c_X11_asks {G : Gd} {j : Nat} (hj : 4 ≤ j) {l0 : Nat} {l1 : Int32} {l2 : Int32} {l3 : Int32} {l4 : Int32} {h : Hp} {o : Hp} (e : f_X11_asks l0 l1 l2 l3 l4 h = some o) : Cal G j Y_X11_asks [zrf (l0), .int (l1), .int (l2), .int (l3), .int (l4)] h none o := Cal.of (n := 0) (I := false) (by decide +kernel) (by decide) (by simp [lg_sl, zrf_cat, cat_int, cat_long]) (f_X11_asks_ok hj _ _ _ _ _ _ h o (by simp [lv_args, zlk, zrf_cat, cat_int, cat_long]) (by simp [lv_args, zlk, zrf_cat, cat_int, cat_long]) (by simp [lv_args, zlk, zrf_cat, cat_int, cat_long]) (by simp [lv_args, zlk, zrf_cat, cat_int, cat_long]) (by simp [lv_args, zlk, zrf_cat, cat_int, cat_long]) e)
