abbrev Y_X11_numberOf : Yx := (⟨"TaskWeaveModel", "numberOf", "(I)I"⟩, prog_13_method_39_code, 1, (some .int))
abbrev M_X11_numberOf : Mx := ("TaskWeaveModel", prog_13_method_39_code, 1, false)
theorem yk_X11_numberOf : Yk Y_X11_numberOf 1 := ⟨by decide +kernel, by decide +kernel, ⟨by decide, by decide⟩, by decide +kernel, by decide, trivial⟩
theorem d_X11_numberOf_0 : decode prog_13_method_39_code 0 = .ok (.iload_n 0, 1) := by decide +kernel
theorem d_X11_numberOf_1 : decode prog_13_method_39_code 1 = .ok (.bipush 16, 2) := by decide +kernel
theorem d_X11_numberOf_3 : decode prog_13_method_39_code 3 = .ok (.idiv, 1) := by decide +kernel
theorem d_X11_numberOf_4 : decode prog_13_method_39_code 4 = .ok (.iconst 4, 1) := by decide +kernel
theorem d_X11_numberOf_5 : decode prog_13_method_39_code 5 = .ok (.iload_n 0, 1) := by decide +kernel
theorem d_X11_numberOf_6 : decode prog_13_method_39_code 6 = .ok (.bipush 16, 2) := by decide +kernel
theorem d_X11_numberOf_8 : decode prog_13_method_39_code 8 = .ok (.irem, 1) := by decide +kernel
theorem d_X11_numberOf_9 : decode prog_13_method_39_code 9 = .ok (.imul, 1) := by decide +kernel
theorem d_X11_numberOf_10 : decode prog_13_method_39_code 10 = .ok (.iadd, 1) := by decide +kernel
theorem d_X11_numberOf_11 : decode prog_13_method_39_code 11 = .ok (.ireturn, 1) := by decide +kernel
abbrev Y_X11_placeOf : Yx := (⟨"TaskWeaveModel", "placeOf", "(I)I"⟩, prog_13_method_40_code, 1, (some .int))
abbrev M_X11_placeOf : Mx := ("TaskWeaveModel", prog_13_method_40_code, 1, false)
theorem yk_X11_placeOf : Yk Y_X11_placeOf 1 := ⟨by decide +kernel, by decide +kernel, ⟨by decide, by decide⟩, by decide +kernel, by decide, trivial⟩
theorem d_X11_placeOf_0 : decode prog_13_method_40_code 0 = .ok (.bipush 16, 2) := by decide +kernel
theorem d_X11_placeOf_2 : decode prog_13_method_40_code 2 = .ok (.iload_n 0, 1) := by decide +kernel
theorem d_X11_placeOf_3 : decode prog_13_method_40_code 3 = .ok (.iconst 4, 1) := by decide +kernel
theorem d_X11_placeOf_4 : decode prog_13_method_40_code 4 = .ok (.irem, 1) := by decide +kernel
theorem d_X11_placeOf_5 : decode prog_13_method_40_code 5 = .ok (.imul, 1) := by decide +kernel
theorem d_X11_placeOf_6 : decode prog_13_method_40_code 6 = .ok (.iload_n 0, 1) := by decide +kernel
theorem d_X11_placeOf_7 : decode prog_13_method_40_code 7 = .ok (.iconst 4, 1) := by decide +kernel
theorem d_X11_placeOf_8 : decode prog_13_method_40_code 8 = .ok (.idiv, 1) := by decide +kernel
theorem d_X11_placeOf_9 : decode prog_13_method_40_code 9 = .ok (.iadd, 1) := by decide +kernel
theorem d_X11_placeOf_10 : decode prog_13_method_40_code 10 = .ok (.ireturn, 1) := by decide +kernel
abbrev Y_X11_isFlow : Yx := (⟨"TaskWeaveModel", "isFlow", "(I)Z"⟩, prog_13_method_41_code, 2, (some .boolean))
abbrev M_X11_isFlow : Mx := ("TaskWeaveModel", prog_13_method_41_code, 2, false)
theorem yk_X11_isFlow : Yk Y_X11_isFlow 1 := ⟨by decide +kernel, by decide +kernel, ⟨by decide, by decide⟩, by decide +kernel, by decide, trivial⟩
theorem d_X11_isFlow_0 : decode prog_13_method_41_code 0 = .ok (.iload_n 1, 1) := by decide +kernel
theorem d_X11_isFlow_1 : decode prog_13_method_41_code 1 = .ok (.ifCond .lt 27, 3) := by decide +kernel
theorem d_X11_isFlow_4 : decode prog_13_method_41_code 4 = .ok (.iload_n 1, 1) := by decide +kernel
theorem d_X11_isFlow_5 : decode prog_13_method_41_code 5 = .ok (.bipush 64, 2) := by decide +kernel
theorem d_X11_isFlow_7 : decode prog_13_method_41_code 7 = .ok (.if_icmp .ge 21, 3) := by decide +kernel
theorem d_X11_isFlow_10 : decode prog_13_method_41_code 10 = .ok (.iload_n 1, 1) := by decide +kernel
theorem d_X11_isFlow_11 : decode prog_13_method_41_code 11 = .ok (.iconst 4, 1) := by decide +kernel
theorem d_X11_isFlow_12 : decode prog_13_method_41_code 12 = .ok (.idiv, 1) := by decide +kernel
theorem d_X11_isFlow_13 : decode prog_13_method_41_code 13 = .ok (.aload_n 0, 1) := by decide +kernel
theorem d_X11_isFlow_14 : decode prog_13_method_41_code 14 = .ok (.getfield 107, 3) := by decide +kernel
theorem d_X11_isFlow_17 : decode prog_13_method_41_code 17 = .ok (.iload_n 1, 1) := by decide +kernel
theorem d_X11_isFlow_18 : decode prog_13_method_41_code 18 = .ok (.iconst 4, 1) := by decide +kernel
theorem d_X11_isFlow_19 : decode prog_13_method_41_code 19 = .ok (.irem, 1) := by decide +kernel
theorem d_X11_isFlow_20 : decode prog_13_method_41_code 20 = .ok (.iaload, 1) := by decide +kernel
theorem d_X11_isFlow_21 : decode prog_13_method_41_code 21 = .ok (.if_icmp .ge 7, 3) := by decide +kernel
theorem d_X11_isFlow_24 : decode prog_13_method_41_code 24 = .ok (.iconst 1, 1) := by decide +kernel
theorem d_X11_isFlow_25 : decode prog_13_method_41_code 25 = .ok (.goto 4, 3) := by decide +kernel
theorem d_X11_isFlow_28 : decode prog_13_method_41_code 28 = .ok (.iconst 0, 1) := by decide +kernel
theorem d_X11_isFlow_29 : decode prog_13_method_41_code 29 = .ok (.ireturn, 1) := by decide +kernel
abbrev Y_X11_comes : Yx := (⟨"TaskWeaveModel", "comes", "(IIIII)Z"⟩, prog_13_method_55_code, 7, (some .boolean))
abbrev M_X11_comes : Mx := ("TaskWeaveModel", prog_13_method_55_code, 7, false)
theorem yk_X11_comes : Yk Y_X11_comes 5 := ⟨by decide +kernel, by decide +kernel, ⟨by decide, by decide⟩, by decide +kernel, by decide, trivial⟩
theorem d_X11_comes_0 : decode prog_13_method_55_code 0 = .ok (.aload_n 0, 1) := by decide +kernel
theorem d_X11_comes_1 : decode prog_13_method_55_code 1 = .ok (.iload_n 1, 1) := by decide +kernel
theorem d_X11_comes_2 : decode prog_13_method_55_code 2 = .ok (.iload_n 2, 1) := by decide +kernel
theorem d_X11_comes_3 : decode prog_13_method_55_code 3 = .ok (.iload_n 3, 1) := by decide +kernel
theorem d_X11_comes_4 : decode prog_13_method_55_code 4 = .ok (.iload 4, 2) := by decide +kernel
theorem d_X11_comes_6 : decode prog_13_method_55_code 6 = .ok (.iload 5, 2) := by decide +kernel
theorem d_X11_comes_8 : decode prog_13_method_55_code 8 = .ok (.invokevirtual 368, 3) := by decide +kernel
theorem d_X11_comes_11 : decode prog_13_method_55_code 11 = .ok (.ifCond .ne 5, 3) := by decide +kernel
theorem d_X11_comes_14 : decode prog_13_method_55_code 14 = .ok (.iconst 0, 1) := by decide +kernel
theorem d_X11_comes_15 : decode prog_13_method_55_code 15 = .ok (.ireturn, 1) := by decide +kernel
theorem d_X11_comes_16 : decode prog_13_method_55_code 16 = .ok (.aload_n 0, 1) := by decide +kernel
theorem d_X11_comes_17 : decode prog_13_method_55_code 17 = .ok (.iload_n 1, 1) := by decide +kernel
theorem d_X11_comes_18 : decode prog_13_method_55_code 18 = .ok (.invokevirtual 296, 3) := by decide +kernel
theorem d_X11_comes_21 : decode prog_13_method_55_code 21 = .ok (.istore 6, 2) := by decide +kernel
theorem d_X11_comes_23 : decode prog_13_method_55_code 23 = .ok (.iconst 1, 1) := by decide +kernel
theorem d_X11_comes_24 : decode prog_13_method_55_code 24 = .ok (.ireturn, 1) := by decide +kernel
abbrev Y_X11_begins : Yx := (⟨"TaskWeaveModel", "begins", "(IIII)I"⟩, prog_13_method_56_code, 8, (some .int))
abbrev M_X11_begins : Mx := ("TaskWeaveModel", prog_13_method_56_code, 8, false)
theorem yk_X11_begins : Yk Y_X11_begins 4 := ⟨by decide +kernel, by decide +kernel, ⟨by decide, by decide⟩, by decide +kernel, by decide, trivial⟩
theorem d_X11_begins_0 : decode prog_13_method_56_code 0 = .ok (.bipush 16, 2) := by decide +kernel
theorem d_X11_begins_2 : decode prog_13_method_56_code 2 = .ok (.iload_n 1, 1) := by decide +kernel
theorem d_X11_begins_3 : decode prog_13_method_56_code 3 = .ok (.imul, 1) := by decide +kernel
theorem d_X11_begins_4 : decode prog_13_method_56_code 4 = .ok (.aload_n 0, 1) := by decide +kernel
theorem d_X11_begins_5 : decode prog_13_method_56_code 5 = .ok (.getfield 107, 3) := by decide +kernel
theorem d_X11_begins_8 : decode prog_13_method_56_code 8 = .ok (.iload_n 1, 1) := by decide +kernel
theorem d_X11_begins_9 : decode prog_13_method_56_code 9 = .ok (.iaload, 1) := by decide +kernel
theorem d_X11_begins_10 : decode prog_13_method_56_code 10 = .ok (.iadd, 1) := by decide +kernel
theorem d_X11_begins_11 : decode prog_13_method_56_code 11 = .ok (.istore 5, 2) := by decide +kernel
theorem d_X11_begins_13 : decode prog_13_method_56_code 13 = .ok (.aload_n 0, 1) := by decide +kernel
theorem d_X11_begins_14 : decode prog_13_method_56_code 14 = .ok (.iload_n 1, 1) := by decide +kernel
theorem d_X11_begins_15 : decode prog_13_method_56_code 15 = .ok (.aload_n 0, 1) := by decide +kernel
theorem d_X11_begins_16 : decode prog_13_method_56_code 16 = .ok (.getfield 107, 3) := by decide +kernel
theorem d_X11_begins_19 : decode prog_13_method_56_code 19 = .ok (.iload_n 1, 1) := by decide +kernel
theorem d_X11_begins_20 : decode prog_13_method_56_code 20 = .ok (.iaload, 1) := by decide +kernel
theorem d_X11_begins_21 : decode prog_13_method_56_code 21 = .ok (.iconst 0, 1) := by decide +kernel
theorem d_X11_begins_22 : decode prog_13_method_56_code 22 = .ok (.aload_n 0, 1) := by decide +kernel
theorem d_X11_begins_23 : decode prog_13_method_56_code 23 = .ok (.getfield 17, 3) := by decide +kernel
theorem d_X11_begins_26 : decode prog_13_method_56_code 26 = .ok (.iload_n 2, 1) := by decide +kernel
theorem d_X11_begins_27 : decode prog_13_method_56_code 27 = .ok (.iaload, 1) := by decide +kernel
theorem d_X11_begins_28 : decode prog_13_method_56_code 28 = .ok (.bipush 8, 2) := by decide +kernel
theorem d_X11_begins_30 : decode prog_13_method_56_code 30 = .ok (.aload_n 0, 1) := by decide +kernel
theorem d_X11_begins_31 : decode prog_13_method_56_code 31 = .ok (.getfield 20, 3) := by decide +kernel
theorem d_X11_begins_34 : decode prog_13_method_56_code 34 = .ok (.iload_n 2, 1) := by decide +kernel
theorem d_X11_begins_35 : decode prog_13_method_56_code 35 = .ok (.iaload, 1) := by decide +kernel
theorem d_X11_begins_36 : decode prog_13_method_56_code 36 = .ok (.imul, 1) := by decide +kernel
theorem d_X11_begins_37 : decode prog_13_method_56_code 37 = .ok (.iadd, 1) := by decide +kernel
theorem d_X11_begins_38 : decode prog_13_method_56_code 38 = .ok (.iload_n 3, 1) := by decide +kernel
theorem d_X11_begins_39 : decode prog_13_method_56_code 39 = .ok (.iload 4, 2) := by decide +kernel
theorem d_X11_begins_41 : decode prog_13_method_56_code 41 = .ok (.invokevirtual 364, 3) := by decide +kernel
theorem d_X11_begins_44 : decode prog_13_method_56_code 44 = .ok (.ifCond .ne 5, 3) := by decide +kernel
theorem d_X11_begins_47 : decode prog_13_method_56_code 47 = .ok (.iconst (-1), 1) := by decide +kernel
theorem d_X11_begins_48 : decode prog_13_method_56_code 48 = .ok (.ireturn, 1) := by decide +kernel
theorem d_X11_begins_49 : decode prog_13_method_56_code 49 = .ok (.aload_n 0, 1) := by decide +kernel
theorem d_X11_begins_50 : decode prog_13_method_56_code 50 = .ok (.getfield 107, 3) := by decide +kernel
theorem d_X11_begins_53 : decode prog_13_method_56_code 53 = .ok (.iload_n 1, 1) := by decide +kernel
theorem d_X11_begins_54 : decode prog_13_method_56_code 54 = .ok (.dup2, 1) := by decide +kernel
theorem d_X11_begins_55 : decode prog_13_method_56_code 55 = .ok (.iaload, 1) := by decide +kernel
theorem d_X11_begins_56 : decode prog_13_method_56_code 56 = .ok (.iconst 1, 1) := by decide +kernel
theorem d_X11_begins_57 : decode prog_13_method_56_code 57 = .ok (.iadd, 1) := by decide +kernel
theorem d_X11_begins_58 : decode prog_13_method_56_code 58 = .ok (.iastore, 1) := by decide +kernel
theorem d_X11_begins_59 : decode prog_13_method_56_code 59 = .ok (.aload_n 0, 1) := by decide +kernel
theorem d_X11_begins_60 : decode prog_13_method_56_code 60 = .ok (.getfield 113, 3) := by decide +kernel
theorem d_X11_begins_63 : decode prog_13_method_56_code 63 = .ok (.iload 5, 2) := by decide +kernel
theorem d_X11_begins_65 : decode prog_13_method_56_code 65 = .ok (.iconst 0, 1) := by decide +kernel
theorem d_X11_begins_66 : decode prog_13_method_56_code 66 = .ok (.iastore, 1) := by decide +kernel
theorem d_X11_begins_67 : decode prog_13_method_56_code 67 = .ok (.aload_n 0, 1) := by decide +kernel
theorem d_X11_begins_68 : decode prog_13_method_56_code 68 = .ok (.getfield 146, 3) := by decide +kernel
theorem d_X11_begins_71 : decode prog_13_method_56_code 71 = .ok (.iload 5, 2) := by decide +kernel
theorem d_X11_begins_73 : decode prog_13_method_56_code 73 = .ok (.iconst 0, 1) := by decide +kernel
theorem d_X11_begins_74 : decode prog_13_method_56_code 74 = .ok (.iastore, 1) := by decide +kernel
theorem d_X11_begins_75 : decode prog_13_method_56_code 75 = .ok (.iconst 5, 1) := by decide +kernel
theorem d_X11_begins_76 : decode prog_13_method_56_code 76 = .ok (.iload_n 1, 1) := by decide +kernel
theorem d_X11_begins_77 : decode prog_13_method_56_code 77 = .ok (.imul, 1) := by decide +kernel
theorem d_X11_begins_78 : decode prog_13_method_56_code 78 = .ok (.aload_n 0, 1) := by decide +kernel
theorem d_X11_begins_79 : decode prog_13_method_56_code 79 = .ok (.getfield 101, 3) := by decide +kernel
theorem d_X11_begins_82 : decode prog_13_method_56_code 82 = .ok (.iload_n 1, 1) := by decide +kernel
theorem d_X11_begins_83 : decode prog_13_method_56_code 83 = .ok (.iaload, 1) := by decide +kernel
theorem d_X11_begins_84 : decode prog_13_method_56_code 84 = .ok (.iadd, 1) := by decide +kernel
theorem d_X11_begins_85 : decode prog_13_method_56_code 85 = .ok (.istore 6, 2) := by decide +kernel
theorem d_X11_begins_87 : decode prog_13_method_56_code 87 = .ok (.aload_n 0, 1) := by decide +kernel
theorem d_X11_begins_88 : decode prog_13_method_56_code 88 = .ok (.iload 5, 2) := by decide +kernel
theorem d_X11_begins_90 : decode prog_13_method_56_code 90 = .ok (.aload_n 0, 1) := by decide +kernel
theorem d_X11_begins_91 : decode prog_13_method_56_code 91 = .ok (.getfield 80, 3) := by decide +kernel
theorem d_X11_begins_94 : decode prog_13_method_56_code 94 = .ok (.sipush 8192, 3) := by decide +kernel
theorem d_X11_begins_97 : decode prog_13_method_56_code 97 = .ok (.iload 6, 2) := by decide +kernel
theorem d_X11_begins_99 : decode prog_13_method_56_code 99 = .ok (.imul, 1) := by decide +kernel
theorem d_X11_begins_100 : decode prog_13_method_56_code 100 = .ok (.aload_n 0, 1) := by decide +kernel
theorem d_X11_begins_101 : decode prog_13_method_56_code 101 = .ok (.getfield 83, 3) := by decide +kernel
theorem d_X11_begins_104 : decode prog_13_method_56_code 104 = .ok (.iload 6, 2) := by decide +kernel
theorem d_X11_begins_106 : decode prog_13_method_56_code 106 = .ok (.iaload, 1) := by decide +kernel
theorem d_X11_begins_107 : decode prog_13_method_56_code 107 = .ok (.iadd, 1) := by decide +kernel
theorem d_X11_begins_108 : decode prog_13_method_56_code 108 = .ok (.iconst 1, 1) := by decide +kernel
theorem d_X11_begins_109 : decode prog_13_method_56_code 109 = .ok (.isub, 1) := by decide +kernel
theorem d_X11_begins_110 : decode prog_13_method_56_code 110 = .ok (.iaload, 1) := by decide +kernel
theorem d_X11_begins_111 : decode prog_13_method_56_code 111 = .ok (.iconst (-1), 1) := by decide +kernel
theorem d_X11_begins_112 : decode prog_13_method_56_code 112 = .ok (.invokevirtual 299, 3) := by decide +kernel
theorem d_X11_begins_115 : decode prog_13_method_56_code 115 = .ok (.aload_n 0, 1) := by decide +kernel
theorem d_X11_begins_116 : decode prog_13_method_56_code 116 = .ok (.iload 5, 2) := by decide +kernel
theorem d_X11_begins_118 : decode prog_13_method_56_code 118 = .ok (.invokevirtual 293, 3) := by decide +kernel
theorem d_X11_begins_121 : decode prog_13_method_56_code 121 = .ok (.aload_n 0, 1) := by decide +kernel
theorem d_X11_begins_122 : decode prog_13_method_56_code 122 = .ok (.iload 5, 2) := by decide +kernel
theorem d_X11_begins_124 : decode prog_13_method_56_code 124 = .ok (.invokevirtual 296, 3) := by decide +kernel
theorem d_X11_begins_127 : decode prog_13_method_56_code 127 = .ok (.istore 7, 2) := by decide +kernel
theorem d_X11_begins_129 : decode prog_13_method_56_code 129 = .ok (.iload 5, 2) := by decide +kernel
theorem d_X11_begins_131 : decode prog_13_method_56_code 131 = .ok (.invokestatic 372, 3) := by decide +kernel
theorem d_X11_begins_134 : decode prog_13_method_56_code 134 = .ok (.ireturn, 1) := by decide +kernel
abbrev Y_X11_withOrigin : Yx := (⟨"TaskWeaveModel", "withOrigin", "(II)I"⟩, prog_13_method_57_code, 4, (some .int))
abbrev M_X11_withOrigin : Mx := ("TaskWeaveModel", prog_13_method_57_code, 4, false)
theorem yk_X11_withOrigin : Yk Y_X11_withOrigin 2 := ⟨by decide +kernel, by decide +kernel, ⟨by decide, by decide⟩, by decide +kernel, by decide, trivial⟩
theorem d_X11_withOrigin_0 : decode prog_13_method_57_code 0 = .ok (.iconst 0, 1) := by decide +kernel
theorem d_X11_withOrigin_1 : decode prog_13_method_57_code 1 = .ok (.istore_n 3, 1) := by decide +kernel
theorem d_X11_withOrigin_2 : decode prog_13_method_57_code 2 = .ok (.iload_n 3, 1) := by decide +kernel
theorem d_X11_withOrigin_3 : decode prog_13_method_57_code 3 = .ok (.aload_n 0, 1) := by decide +kernel
theorem d_X11_withOrigin_4 : decode prog_13_method_57_code 4 = .ok (.getfield 107, 3) := by decide +kernel
theorem d_X11_withOrigin_7 : decode prog_13_method_57_code 7 = .ok (.iload_n 1, 1) := by decide +kernel
theorem d_X11_withOrigin_8 : decode prog_13_method_57_code 8 = .ok (.iaload, 1) := by decide +kernel
theorem d_X11_withOrigin_9 : decode prog_13_method_57_code 9 = .ok (.if_icmp .ge 30, 3) := by decide +kernel
theorem d_X11_withOrigin_12 : decode prog_13_method_57_code 12 = .ok (.aload_n 0, 1) := by decide +kernel
theorem d_X11_withOrigin_13 : decode prog_13_method_57_code 13 = .ok (.bipush 16, 2) := by decide +kernel
theorem d_X11_withOrigin_15 : decode prog_13_method_57_code 15 = .ok (.iload_n 1, 1) := by decide +kernel
theorem d_X11_withOrigin_16 : decode prog_13_method_57_code 16 = .ok (.imul, 1) := by decide +kernel
theorem d_X11_withOrigin_17 : decode prog_13_method_57_code 17 = .ok (.iload_n 3, 1) := by decide +kernel
theorem d_X11_withOrigin_18 : decode prog_13_method_57_code 18 = .ok (.iadd, 1) := by decide +kernel
theorem d_X11_withOrigin_19 : decode prog_13_method_57_code 19 = .ok (.invokevirtual 309, 3) := by decide +kernel
theorem d_X11_withOrigin_22 : decode prog_13_method_57_code 22 = .ok (.iload_n 2, 1) := by decide +kernel
theorem d_X11_withOrigin_23 : decode prog_13_method_57_code 23 = .ok (.if_icmp .ne 10, 3) := by decide +kernel
theorem d_X11_withOrigin_26 : decode prog_13_method_57_code 26 = .ok (.bipush 16, 2) := by decide +kernel
theorem d_X11_withOrigin_28 : decode prog_13_method_57_code 28 = .ok (.iload_n 1, 1) := by decide +kernel
theorem d_X11_withOrigin_29 : decode prog_13_method_57_code 29 = .ok (.imul, 1) := by decide +kernel
theorem d_X11_withOrigin_30 : decode prog_13_method_57_code 30 = .ok (.iload_n 3, 1) := by decide +kernel
theorem d_X11_withOrigin_31 : decode prog_13_method_57_code 31 = .ok (.iadd, 1) := by decide +kernel
theorem d_X11_withOrigin_32 : decode prog_13_method_57_code 32 = .ok (.ireturn, 1) := by decide +kernel
theorem d_X11_withOrigin_33 : decode prog_13_method_57_code 33 = .ok (.iinc 3 1, 3) := by decide +kernel
theorem d_X11_withOrigin_36 : decode prog_13_method_57_code 36 = .ok (.goto (-34), 3) := by decide +kernel
theorem d_X11_withOrigin_39 : decode prog_13_method_57_code 39 = .ok (.iconst (-1), 1) := by decide +kernel
theorem d_X11_withOrigin_40 : decode prog_13_method_57_code 40 = .ok (.ireturn, 1) := by decide +kernel
abbrev Y_X11_hasSignal : Yx := (⟨"TaskWeaveModel", "hasSignal", "(II)Z"⟩, prog_13_method_58_code, 4, (some .boolean))
abbrev M_X11_hasSignal : Mx := ("TaskWeaveModel", prog_13_method_58_code, 4, false)
theorem yk_X11_hasSignal : Yk Y_X11_hasSignal 2 := ⟨by decide +kernel, by decide +kernel, ⟨by decide, by decide⟩, by decide +kernel, by decide, trivial⟩
theorem d_X11_hasSignal_0 : decode prog_13_method_58_code 0 = .ok (.iconst 0, 1) := by decide +kernel
theorem d_X11_hasSignal_1 : decode prog_13_method_58_code 1 = .ok (.istore_n 3, 1) := by decide +kernel
theorem d_X11_hasSignal_2 : decode prog_13_method_58_code 2 = .ok (.iload_n 3, 1) := by decide +kernel
theorem d_X11_hasSignal_3 : decode prog_13_method_58_code 3 = .ok (.aload_n 0, 1) := by decide +kernel
theorem d_X11_hasSignal_4 : decode prog_13_method_58_code 4 = .ok (.getfield 113, 3) := by decide +kernel
theorem d_X11_hasSignal_7 : decode prog_13_method_58_code 7 = .ok (.iload_n 1, 1) := by decide +kernel
theorem d_X11_hasSignal_8 : decode prog_13_method_58_code 8 = .ok (.iaload, 1) := by decide +kernel
theorem d_X11_hasSignal_9 : decode prog_13_method_58_code 9 = .ok (.if_icmp .ge 41, 3) := by decide +kernel
theorem d_X11_hasSignal_12 : decode prog_13_method_58_code 12 = .ok (.aload_n 0, 1) := by decide +kernel
theorem d_X11_hasSignal_13 : decode prog_13_method_58_code 13 = .ok (.aload_n 0, 1) := by decide +kernel
theorem d_X11_hasSignal_14 : decode prog_13_method_58_code 14 = .ok (.iload_n 1, 1) := by decide +kernel
theorem d_X11_hasSignal_15 : decode prog_13_method_58_code 15 = .ok (.iload_n 3, 1) := by decide +kernel
theorem d_X11_hasSignal_16 : decode prog_13_method_58_code 16 = .ok (.invokevirtual 305, 3) := by decide +kernel
theorem d_X11_hasSignal_19 : decode prog_13_method_58_code 19 = .ok (.invokevirtual 286, 3) := by decide +kernel
theorem d_X11_hasSignal_22 : decode prog_13_method_58_code 22 = .ok (.bipush 8, 2) := by decide +kernel
theorem d_X11_hasSignal_24 : decode prog_13_method_58_code 24 = .ok (.if_icmp .ne 20, 3) := by decide +kernel
theorem d_X11_hasSignal_27 : decode prog_13_method_58_code 27 = .ok (.aload_n 0, 1) := by decide +kernel
theorem d_X11_hasSignal_28 : decode prog_13_method_58_code 28 = .ok (.getfield 76, 3) := by decide +kernel
theorem d_X11_hasSignal_31 : decode prog_13_method_58_code 31 = .ok (.aload_n 0, 1) := by decide +kernel
theorem d_X11_hasSignal_32 : decode prog_13_method_58_code 32 = .ok (.iload_n 1, 1) := by decide +kernel
theorem d_X11_hasSignal_33 : decode prog_13_method_58_code 33 = .ok (.iload_n 3, 1) := by decide +kernel
theorem d_X11_hasSignal_34 : decode prog_13_method_58_code 34 = .ok (.invokevirtual 305, 3) := by decide +kernel
theorem d_X11_hasSignal_37 : decode prog_13_method_58_code 37 = .ok (.iaload, 1) := by decide +kernel
theorem d_X11_hasSignal_38 : decode prog_13_method_58_code 38 = .ok (.iload_n 2, 1) := by decide +kernel
theorem d_X11_hasSignal_39 : decode prog_13_method_58_code 39 = .ok (.if_icmp .ne 5, 3) := by decide +kernel
theorem d_X11_hasSignal_42 : decode prog_13_method_58_code 42 = .ok (.iconst 1, 1) := by decide +kernel
theorem d_X11_hasSignal_43 : decode prog_13_method_58_code 43 = .ok (.ireturn, 1) := by decide +kernel
theorem d_X11_hasSignal_44 : decode prog_13_method_58_code 44 = .ok (.iinc 3 1, 3) := by decide +kernel
theorem d_X11_hasSignal_47 : decode prog_13_method_58_code 47 = .ok (.goto (-45), 3) := by decide +kernel
theorem d_X11_hasSignal_50 : decode prog_13_method_58_code 50 = .ok (.iconst 0, 1) := by decide +kernel
theorem d_X11_hasSignal_51 : decode prog_13_method_58_code 51 = .ok (.ireturn, 1) := by decide +kernel
abbrev Y_X11_start : Yx := (⟨"TaskWeaveModel", "start", "(III)I"⟩, prog_13_method_59_code, 6, (some .int))
abbrev M_X11_start : Mx := ("TaskWeaveModel", prog_13_method_59_code, 6, false)
theorem yk_X11_start : Yk Y_X11_start 3 := ⟨by decide +kernel, by decide +kernel, ⟨by decide, by decide⟩, by decide +kernel, by decide, trivial⟩
theorem d_X11_start_0 : decode prog_13_method_59_code 0 = .ok (.aload_n 0, 1) := by decide +kernel
theorem d_X11_start_1 : decode prog_13_method_59_code 1 = .ok (.iconst 0, 1) := by decide +kernel
theorem d_X11_start_2 : decode prog_13_method_59_code 2 = .ok (.putfield 183, 3) := by decide +kernel
theorem d_X11_start_5 : decode prog_13_method_59_code 5 = .ok (.iload_n 1, 1) := by decide +kernel
theorem d_X11_start_6 : decode prog_13_method_59_code 6 = .ok (.iconst 3, 1) := by decide +kernel
theorem d_X11_start_7 : decode prog_13_method_59_code 7 = .ok (.iand, 1) := by decide +kernel
theorem d_X11_start_8 : decode prog_13_method_59_code 8 = .ok (.istore 4, 2) := by decide +kernel
theorem d_X11_start_10 : decode prog_13_method_59_code 10 = .ok (.iload_n 1, 1) := by decide +kernel
theorem d_X11_start_11 : decode prog_13_method_59_code 11 = .ok (.ifCond .lt 14, 3) := by decide +kernel
theorem d_X11_start_14 : decode prog_13_method_59_code 14 = .ok (.aload_n 0, 1) := by decide +kernel
theorem d_X11_start_15 : decode prog_13_method_59_code 15 = .ok (.getfield 101, 3) := by decide +kernel
theorem d_X11_start_18 : decode prog_13_method_59_code 18 = .ok (.iload 4, 2) := by decide +kernel
theorem d_X11_start_20 : decode prog_13_method_59_code 20 = .ok (.iaload, 1) := by decide +kernel
theorem d_X11_start_21 : decode prog_13_method_59_code 21 = .ok (.iconst (-1), 1) := by decide +kernel
theorem d_X11_start_22 : decode prog_13_method_59_code 22 = .ok (.if_icmp .ne 5, 3) := by decide +kernel
theorem d_X11_start_25 : decode prog_13_method_59_code 25 = .ok (.iconst (-1), 1) := by decide +kernel
theorem d_X11_start_26 : decode prog_13_method_59_code 26 = .ok (.ireturn, 1) := by decide +kernel
theorem d_X11_start_27 : decode prog_13_method_59_code 27 = .ok (.aload_n 0, 1) := by decide +kernel
theorem d_X11_start_28 : decode prog_13_method_59_code 28 = .ok (.iload 4, 2) := by decide +kernel
theorem d_X11_start_30 : decode prog_13_method_59_code 30 = .ok (.iload_n 1, 1) := by decide +kernel
theorem d_X11_start_31 : decode prog_13_method_59_code 31 = .ok (.invokevirtual 375, 3) := by decide +kernel
theorem d_X11_start_34 : decode prog_13_method_59_code 34 = .ok (.istore 5, 2) := by decide +kernel
theorem d_X11_start_36 : decode prog_13_method_59_code 36 = .ok (.iload 5, 2) := by decide +kernel
theorem d_X11_start_38 : decode prog_13_method_59_code 38 = .ok (.iconst (-1), 1) := by decide +kernel
theorem d_X11_start_39 : decode prog_13_method_59_code 39 = .ok (.if_icmp .eq 9, 3) := by decide +kernel
theorem d_X11_start_42 : decode prog_13_method_59_code 42 = .ok (.iload 5, 2) := by decide +kernel
theorem d_X11_start_44 : decode prog_13_method_59_code 44 = .ok (.invokestatic 372, 3) := by decide +kernel
theorem d_X11_start_47 : decode prog_13_method_59_code 47 = .ok (.ireturn, 1) := by decide +kernel
theorem d_X11_start_48 : decode prog_13_method_59_code 48 = .ok (.iload_n 2, 1) := by decide +kernel
theorem d_X11_start_49 : decode prog_13_method_59_code 49 = .ok (.bipush 8, 2) := by decide +kernel
theorem d_X11_start_51 : decode prog_13_method_59_code 51 = .ok (.invokestatic 230, 3) := by decide +kernel
theorem d_X11_start_54 : decode prog_13_method_59_code 54 = .ok (.ifCond .eq 25, 3) := by decide +kernel
theorem d_X11_start_57 : decode prog_13_method_59_code 57 = .ok (.aload_n 0, 1) := by decide +kernel
theorem d_X11_start_58 : decode prog_13_method_59_code 58 = .ok (.getfield 29, 3) := by decide +kernel
theorem d_X11_start_61 : decode prog_13_method_59_code 61 = .ok (.iload_n 2, 1) := by decide +kernel
theorem d_X11_start_62 : decode prog_13_method_59_code 62 = .ok (.iaload, 1) := by decide +kernel
theorem d_X11_start_63 : decode prog_13_method_59_code 63 = .ok (.iconst (-1), 1) := by decide +kernel
theorem d_X11_start_64 : decode prog_13_method_59_code 64 = .ok (.if_icmp .eq 15, 3) := by decide +kernel
theorem d_X11_start_67 : decode prog_13_method_59_code 67 = .ok (.aload_n 0, 1) := by decide +kernel
theorem d_X11_start_68 : decode prog_13_method_59_code 68 = .ok (.getfield 107, 3) := by decide +kernel
theorem d_X11_start_71 : decode prog_13_method_59_code 71 = .ok (.iload 4, 2) := by decide +kernel
theorem d_X11_start_73 : decode prog_13_method_59_code 73 = .ok (.iaload, 1) := by decide +kernel
theorem d_X11_start_74 : decode prog_13_method_59_code 74 = .ok (.bipush 16, 2) := by decide +kernel
theorem d_X11_start_76 : decode prog_13_method_59_code 76 = .ok (.if_icmp .ne 5, 3) := by decide +kernel
theorem d_X11_start_79 : decode prog_13_method_59_code 79 = .ok (.iconst (-1), 1) := by decide +kernel
theorem d_X11_start_80 : decode prog_13_method_59_code 80 = .ok (.ireturn, 1) := by decide +kernel
theorem d_X11_start_81 : decode prog_13_method_59_code 81 = .ok (.aload_n 0, 1) := by decide +kernel
theorem d_X11_start_82 : decode prog_13_method_59_code 82 = .ok (.iload 4, 2) := by decide +kernel
theorem d_X11_start_84 : decode prog_13_method_59_code 84 = .ok (.aload_n 0, 1) := by decide +kernel
theorem d_X11_start_85 : decode prog_13_method_59_code 85 = .ok (.getfield 29, 3) := by decide +kernel
theorem d_X11_start_88 : decode prog_13_method_59_code 88 = .ok (.iload_n 2, 1) := by decide +kernel
theorem d_X11_start_89 : decode prog_13_method_59_code 89 = .ok (.iaload, 1) := by decide +kernel
theorem d_X11_start_90 : decode prog_13_method_59_code 90 = .ok (.iload_n 3, 1) := by decide +kernel
theorem d_X11_start_91 : decode prog_13_method_59_code 91 = .ok (.iload_n 1, 1) := by decide +kernel
theorem d_X11_start_92 : decode prog_13_method_59_code 92 = .ok (.invokevirtual 378, 3) := by decide +kernel
theorem d_X11_start_95 : decode prog_13_method_59_code 95 = .ok (.ireturn, 1) := by decide +kernel
abbrev Y_X11_works : Yx := (⟨"TaskWeaveModel", "works", "(I)Z"⟩, prog_13_method_60_code, 2, (some .boolean))
abbrev M_X11_works : Mx := ("TaskWeaveModel", prog_13_method_60_code, 2, false)
theorem yk_X11_works : Yk Y_X11_works 1 := ⟨by decide +kernel, by decide +kernel, ⟨by decide, by decide⟩, by decide +kernel, by decide, trivial⟩
theorem d_X11_works_0 : decode prog_13_method_60_code 0 = .ok (.aload_n 0, 1) := by decide +kernel
theorem d_X11_works_1 : decode prog_13_method_60_code 1 = .ok (.getfield 101, 3) := by decide +kernel
theorem d_X11_works_4 : decode prog_13_method_60_code 4 = .ok (.iload_n 1, 1) := by decide +kernel
theorem d_X11_works_5 : decode prog_13_method_60_code 5 = .ok (.bipush 16, 2) := by decide +kernel
theorem d_X11_works_7 : decode prog_13_method_60_code 7 = .ok (.idiv, 1) := by decide +kernel
theorem d_X11_works_8 : decode prog_13_method_60_code 8 = .ok (.iaload, 1) := by decide +kernel
theorem d_X11_works_9 : decode prog_13_method_60_code 9 = .ok (.iconst (-1), 1) := by decide +kernel
theorem d_X11_works_10 : decode prog_13_method_60_code 10 = .ok (.if_icmp .eq 7, 3) := by decide +kernel
theorem d_X11_works_13 : decode prog_13_method_60_code 13 = .ok (.iconst 1, 1) := by decide +kernel
theorem d_X11_works_14 : decode prog_13_method_60_code 14 = .ok (.goto 4, 3) := by decide +kernel
theorem d_X11_works_17 : decode prog_13_method_60_code 17 = .ok (.iconst 0, 1) := by decide +kernel
theorem d_X11_works_18 : decode prog_13_method_60_code 18 = .ok (.ireturn, 1) := by decide +kernel
abbrev Y_X11_signal : Yx := (⟨"TaskWeaveModel", "signal", "(III)Z"⟩, prog_13_method_61_code, 5, (some .boolean))
abbrev M_X11_signal : Mx := ("TaskWeaveModel", prog_13_method_61_code, 5, false)
theorem yk_X11_signal : Yk Y_X11_signal 3 := ⟨by decide +kernel, by decide +kernel, ⟨by decide, by decide⟩, by decide +kernel, by decide, trivial⟩
theorem d_X11_signal_0 : decode prog_13_method_61_code 0 = .ok (.aload_n 0, 1) := by decide +kernel
theorem d_X11_signal_1 : decode prog_13_method_61_code 1 = .ok (.iconst 0, 1) := by decide +kernel
theorem d_X11_signal_2 : decode prog_13_method_61_code 2 = .ok (.putfield 183, 3) := by decide +kernel
theorem d_X11_signal_5 : decode prog_13_method_61_code 5 = .ok (.iload_n 1, 1) := by decide +kernel
theorem d_X11_signal_6 : decode prog_13_method_61_code 6 = .ok (.ifCond .lt 22, 3) := by decide +kernel
theorem d_X11_signal_9 : decode prog_13_method_61_code 9 = .ok (.aload_n 0, 1) := by decide +kernel
theorem d_X11_signal_10 : decode prog_13_method_61_code 10 = .ok (.iload_n 2, 1) := by decide +kernel
theorem d_X11_signal_11 : decode prog_13_method_61_code 11 = .ok (.invokevirtual 382, 3) := by decide +kernel
theorem d_X11_signal_14 : decode prog_13_method_61_code 14 = .ok (.ifCond .eq 14, 3) := by decide +kernel
theorem d_X11_signal_17 : decode prog_13_method_61_code 17 = .ok (.aload_n 0, 1) := by decide +kernel
theorem d_X11_signal_18 : decode prog_13_method_61_code 18 = .ok (.iload_n 2, 1) := by decide +kernel
theorem d_X11_signal_19 : decode prog_13_method_61_code 19 = .ok (.invokestatic 385, 3) := by decide +kernel
theorem d_X11_signal_22 : decode prog_13_method_61_code 22 = .ok (.invokevirtual 388, 3) := by decide +kernel
theorem d_X11_signal_25 : decode prog_13_method_61_code 25 = .ok (.ifCond .ne 5, 3) := by decide +kernel
theorem d_X11_signal_28 : decode prog_13_method_61_code 28 = .ok (.iconst 0, 1) := by decide +kernel
theorem d_X11_signal_29 : decode prog_13_method_61_code 29 = .ok (.ireturn, 1) := by decide +kernel
theorem d_X11_signal_30 : decode prog_13_method_61_code 30 = .ok (.iload_n 2, 1) := by decide +kernel
theorem d_X11_signal_31 : decode prog_13_method_61_code 31 = .ok (.invokestatic 385, 3) := by decide +kernel
theorem d_X11_signal_34 : decode prog_13_method_61_code 34 = .ok (.istore 4, 2) := by decide +kernel
theorem d_X11_signal_36 : decode prog_13_method_61_code 36 = .ok (.aload_n 0, 1) := by decide +kernel
theorem d_X11_signal_37 : decode prog_13_method_61_code 37 = .ok (.iload 4, 2) := by decide +kernel
theorem d_X11_signal_39 : decode prog_13_method_61_code 39 = .ok (.iload_n 1, 1) := by decide +kernel
theorem d_X11_signal_40 : decode prog_13_method_61_code 40 = .ok (.invokevirtual 391, 3) := by decide +kernel
theorem d_X11_signal_43 : decode prog_13_method_61_code 43 = .ok (.ifCond .eq 5, 3) := by decide +kernel
theorem d_X11_signal_46 : decode prog_13_method_61_code 46 = .ok (.iconst 1, 1) := by decide +kernel
theorem d_X11_signal_47 : decode prog_13_method_61_code 47 = .ok (.ireturn, 1) := by decide +kernel
theorem d_X11_signal_48 : decode prog_13_method_61_code 48 = .ok (.aload_n 0, 1) := by decide +kernel
theorem d_X11_signal_49 : decode prog_13_method_61_code 49 = .ok (.getfield 119, 3) := by decide +kernel
theorem d_X11_signal_52 : decode prog_13_method_61_code 52 = .ok (.iload 4, 2) := by decide +kernel
theorem d_X11_signal_54 : decode prog_13_method_61_code 54 = .ok (.iaload, 1) := by decide +kernel
theorem d_X11_signal_55 : decode prog_13_method_61_code 55 = .ok (.iconst 4, 1) := by decide +kernel
theorem d_X11_signal_56 : decode prog_13_method_61_code 56 = .ok (.if_icmp .eq 21, 3) := by decide +kernel
theorem d_X11_signal_59 : decode prog_13_method_61_code 59 = .ok (.aload_n 0, 1) := by decide +kernel
theorem d_X11_signal_60 : decode prog_13_method_61_code 60 = .ok (.iload 4, 2) := by decide +kernel
theorem d_X11_signal_62 : decode prog_13_method_61_code 62 = .ok (.bipush 8, 2) := by decide +kernel
theorem d_X11_signal_64 : decode prog_13_method_61_code 64 = .ok (.iload_n 3, 1) := by decide +kernel
theorem d_X11_signal_65 : decode prog_13_method_61_code 65 = .ok (.iconst 0, 1) := by decide +kernel
theorem d_X11_signal_66 : decode prog_13_method_61_code 66 = .ok (.iload_n 1, 1) := by decide +kernel
theorem d_X11_signal_67 : decode prog_13_method_61_code 67 = .ok (.invokevirtual 394, 3) := by decide +kernel
theorem d_X11_signal_70 : decode prog_13_method_61_code 70 = .ok (.ifCond .eq 7, 3) := by decide +kernel
theorem d_X11_signal_73 : decode prog_13_method_61_code 73 = .ok (.iconst 1, 1) := by decide +kernel
theorem d_X11_signal_74 : decode prog_13_method_61_code 74 = .ok (.goto 4, 3) := by decide +kernel
theorem d_X11_signal_77 : decode prog_13_method_61_code 77 = .ok (.iconst 0, 1) := by decide +kernel
theorem d_X11_signal_78 : decode prog_13_method_61_code 78 = .ok (.ireturn, 1) := by decide +kernel
abbrev Y_X11_cancel : Yx := (⟨"TaskWeaveModel", "cancel", "(I)Z"⟩, prog_13_method_62_code, 2, (some .boolean))
abbrev M_X11_cancel : Mx := ("TaskWeaveModel", prog_13_method_62_code, 2, false)
theorem yk_X11_cancel : Yk Y_X11_cancel 1 := ⟨by decide +kernel, by decide +kernel, ⟨by decide, by decide⟩, by decide +kernel, by decide, trivial⟩
theorem d_X11_cancel_0 : decode prog_13_method_62_code 0 = .ok (.aload_n 0, 1) := by decide +kernel
theorem d_X11_cancel_1 : decode prog_13_method_62_code 1 = .ok (.iconst 0, 1) := by decide +kernel
theorem d_X11_cancel_2 : decode prog_13_method_62_code 2 = .ok (.putfield 183, 3) := by decide +kernel
theorem d_X11_cancel_5 : decode prog_13_method_62_code 5 = .ok (.aload_n 0, 1) := by decide +kernel
theorem d_X11_cancel_6 : decode prog_13_method_62_code 6 = .ok (.iload_n 1, 1) := by decide +kernel
theorem d_X11_cancel_7 : decode prog_13_method_62_code 7 = .ok (.invokevirtual 382, 3) := by decide +kernel
theorem d_X11_cancel_10 : decode prog_13_method_62_code 10 = .ok (.ifCond .eq 27, 3) := by decide +kernel
theorem d_X11_cancel_13 : decode prog_13_method_62_code 13 = .ok (.aload_n 0, 1) := by decide +kernel
theorem d_X11_cancel_14 : decode prog_13_method_62_code 14 = .ok (.iload_n 1, 1) := by decide +kernel
theorem d_X11_cancel_15 : decode prog_13_method_62_code 15 = .ok (.invokestatic 385, 3) := by decide +kernel
theorem d_X11_cancel_18 : decode prog_13_method_62_code 18 = .ok (.invokevirtual 388, 3) := by decide +kernel
theorem d_X11_cancel_21 : decode prog_13_method_62_code 21 = .ok (.ifCond .eq 16, 3) := by decide +kernel
theorem d_X11_cancel_24 : decode prog_13_method_62_code 24 = .ok (.aload_n 0, 1) := by decide +kernel
theorem d_X11_cancel_25 : decode prog_13_method_62_code 25 = .ok (.getfield 119, 3) := by decide +kernel
theorem d_X11_cancel_28 : decode prog_13_method_62_code 28 = .ok (.iload_n 1, 1) := by decide +kernel
theorem d_X11_cancel_29 : decode prog_13_method_62_code 29 = .ok (.invokestatic 385, 3) := by decide +kernel
theorem d_X11_cancel_32 : decode prog_13_method_62_code 32 = .ok (.iaload, 1) := by decide +kernel
theorem d_X11_cancel_33 : decode prog_13_method_62_code 33 = .ok (.iconst 4, 1) := by decide +kernel
theorem d_X11_cancel_34 : decode prog_13_method_62_code 34 = .ok (.if_icmp .ne 5, 3) := by decide +kernel
theorem d_X11_cancel_37 : decode prog_13_method_62_code 37 = .ok (.iconst 0, 1) := by decide +kernel
theorem d_X11_cancel_38 : decode prog_13_method_62_code 38 = .ok (.ireturn, 1) := by decide +kernel
theorem d_X11_cancel_39 : decode prog_13_method_62_code 39 = .ok (.aload_n 0, 1) := by decide +kernel
theorem d_X11_cancel_40 : decode prog_13_method_62_code 40 = .ok (.iload_n 1, 1) := by decide +kernel
theorem d_X11_cancel_41 : decode prog_13_method_62_code 41 = .ok (.invokestatic 385, 3) := by decide +kernel
theorem d_X11_cancel_44 : decode prog_13_method_62_code 44 = .ok (.bipush 11, 2) := by decide +kernel
theorem d_X11_cancel_46 : decode prog_13_method_62_code 46 = .ok (.bipush (-2), 2) := by decide +kernel
theorem d_X11_cancel_48 : decode prog_13_method_62_code 48 = .ok (.iconst 0, 1) := by decide +kernel
theorem d_X11_cancel_49 : decode prog_13_method_62_code 49 = .ok (.iconst 0, 1) := by decide +kernel
theorem d_X11_cancel_50 : decode prog_13_method_62_code 50 = .ok (.invokevirtual 394, 3) := by decide +kernel
theorem d_X11_cancel_53 : decode prog_13_method_62_code 53 = .ok (.ireturn, 1) := by decide +kernel
abbrev Y_X11_query : Yx := (⟨"TaskWeaveModel", "query", "(II)I"⟩, prog_13_method_63_code, 3, (some .int))
abbrev M_X11_query : Mx := ("TaskWeaveModel", prog_13_method_63_code, 3, false)
theorem yk_X11_query : Yk Y_X11_query 2 := ⟨by decide +kernel, by decide +kernel, ⟨by decide, by decide⟩, by decide +kernel, by decide, trivial⟩
theorem d_X11_query_0 : decode prog_13_method_63_code 0 = .ok (.aload_n 0, 1) := by decide +kernel
theorem d_X11_query_1 : decode prog_13_method_63_code 1 = .ok (.aload_n 0, 1) := by decide +kernel
theorem d_X11_query_2 : decode prog_13_method_63_code 2 = .ok (.iload_n 1, 1) := by decide +kernel
theorem d_X11_query_3 : decode prog_13_method_63_code 3 = .ok (.invokevirtual 382, 3) := by decide +kernel
theorem d_X11_query_6 : decode prog_13_method_63_code 6 = .ok (.ifCond .eq 12, 3) := by decide +kernel
theorem d_X11_query_9 : decode prog_13_method_63_code 9 = .ok (.iload_n 2, 1) := by decide +kernel
theorem d_X11_query_10 : decode prog_13_method_63_code 10 = .ok (.bipush 8, 2) := by decide +kernel
theorem d_X11_query_12 : decode prog_13_method_63_code 12 = .ok (.invokestatic 230, 3) := by decide +kernel
theorem d_X11_query_15 : decode prog_13_method_63_code 15 = .ok (.ifCond .ne 7, 3) := by decide +kernel
theorem d_X11_query_18 : decode prog_13_method_63_code 18 = .ok (.iconst 1, 1) := by decide +kernel
theorem d_X11_query_19 : decode prog_13_method_63_code 19 = .ok (.goto 19, 3) := by decide +kernel
theorem d_X11_query_22 : decode prog_13_method_63_code 22 = .ok (.aload_n 0, 1) := by decide +kernel
theorem d_X11_query_23 : decode prog_13_method_63_code 23 = .ok (.iload_n 1, 1) := by decide +kernel
theorem d_X11_query_24 : decode prog_13_method_63_code 24 = .ok (.invokestatic 385, 3) := by decide +kernel
theorem d_X11_query_27 : decode prog_13_method_63_code 27 = .ok (.invokevirtual 388, 3) := by decide +kernel
theorem d_X11_query_30 : decode prog_13_method_63_code 30 = .ok (.ifCond .ne 7, 3) := by decide +kernel
theorem d_X11_query_33 : decode prog_13_method_63_code 33 = .ok (.iconst 2, 1) := by decide +kernel
theorem d_X11_query_34 : decode prog_13_method_63_code 34 = .ok (.goto 4, 3) := by decide +kernel
theorem d_X11_query_37 : decode prog_13_method_63_code 37 = .ok (.iconst 0, 1) := by decide +kernel
theorem d_X11_query_38 : decode prog_13_method_63_code 38 = .ok (.putfield 183, 3) := by decide +kernel
theorem d_X11_query_41 : decode prog_13_method_63_code 41 = .ok (.aload_n 0, 1) := by decide +kernel
theorem d_X11_query_42 : decode prog_13_method_63_code 42 = .ok (.getfield 183, 3) := by decide +kernel
theorem d_X11_query_45 : decode prog_13_method_63_code 45 = .ok (.ifCond .le 7, 3) := by decide +kernel
theorem d_X11_query_48 : decode prog_13_method_63_code 48 = .ok (.iconst 0, 1) := by decide +kernel
theorem d_X11_query_49 : decode prog_13_method_63_code 49 = .ok (.goto 17, 3) := by decide +kernel
theorem d_X11_query_52 : decode prog_13_method_63_code 52 = .ok (.aload_n 0, 1) := by decide +kernel
theorem d_X11_query_53 : decode prog_13_method_63_code 53 = .ok (.getfield 125, 3) := by decide +kernel
theorem d_X11_query_56 : decode prog_13_method_63_code 56 = .ok (.bipush 8, 2) := by decide +kernel
theorem d_X11_query_58 : decode prog_13_method_63_code 58 = .ok (.iload_n 1, 1) := by decide +kernel
theorem d_X11_query_59 : decode prog_13_method_63_code 59 = .ok (.invokestatic 385, 3) := by decide +kernel
theorem d_X11_query_62 : decode prog_13_method_63_code 62 = .ok (.imul, 1) := by decide +kernel
theorem d_X11_query_63 : decode prog_13_method_63_code 63 = .ok (.iload_n 2, 1) := by decide +kernel
theorem d_X11_query_64 : decode prog_13_method_63_code 64 = .ok (.iadd, 1) := by decide +kernel
theorem d_X11_query_65 : decode prog_13_method_63_code 65 = .ok (.iaload, 1) := by decide +kernel
theorem d_X11_query_66 : decode prog_13_method_63_code 66 = .ok (.ireturn, 1) := by decide +kernel
abbrev Y_X11_workOf : Yx := (⟨"TaskWeaveModel", "workOf", "(I)I"⟩, prog_13_method_64_code, 3, (some .int))
abbrev M_X11_workOf : Mx := ("TaskWeaveModel", prog_13_method_64_code, 3, false)
theorem yk_X11_workOf : Yk Y_X11_workOf 1 := ⟨by decide +kernel, by decide +kernel, ⟨by decide, by decide⟩, by decide +kernel, by decide, trivial⟩
theorem d_X11_workOf_0 : decode prog_13_method_64_code 0 = .ok (.aload_n 0, 1) := by decide +kernel
theorem d_X11_workOf_1 : decode prog_13_method_64_code 1 = .ok (.getfield 113, 3) := by decide +kernel
theorem d_X11_workOf_4 : decode prog_13_method_64_code 4 = .ok (.iload_n 1, 1) := by decide +kernel
theorem d_X11_workOf_5 : decode prog_13_method_64_code 5 = .ok (.iaload, 1) := by decide +kernel
theorem d_X11_workOf_6 : decode prog_13_method_64_code 6 = .ok (.iconst 1, 1) := by decide +kernel
theorem d_X11_workOf_7 : decode prog_13_method_64_code 7 = .ok (.isub, 1) := by decide +kernel
theorem d_X11_workOf_8 : decode prog_13_method_64_code 8 = .ok (.istore_n 2, 1) := by decide +kernel
theorem d_X11_workOf_9 : decode prog_13_method_64_code 9 = .ok (.aload_n 0, 1) := by decide +kernel
theorem d_X11_workOf_10 : decode prog_13_method_64_code 10 = .ok (.aload_n 0, 1) := by decide +kernel
theorem d_X11_workOf_11 : decode prog_13_method_64_code 11 = .ok (.iload_n 1, 1) := by decide +kernel
theorem d_X11_workOf_12 : decode prog_13_method_64_code 12 = .ok (.iload_n 2, 1) := by decide +kernel
theorem d_X11_workOf_13 : decode prog_13_method_64_code 13 = .ok (.invokevirtual 305, 3) := by decide +kernel
theorem d_X11_workOf_16 : decode prog_13_method_64_code 16 = .ok (.invokevirtual 286, 3) := by decide +kernel
theorem d_X11_workOf_19 : decode prog_13_method_64_code 19 = .ok (.iconst 1, 1) := by decide +kernel
theorem d_X11_workOf_20 : decode prog_13_method_64_code 20 = .ok (.if_icmp .eq 9, 3) := by decide +kernel
theorem d_X11_workOf_23 : decode prog_13_method_64_code 23 = .ok (.iinc 2 (-1), 3) := by decide +kernel
theorem d_X11_workOf_26 : decode prog_13_method_64_code 26 = .ok (.goto (-17), 3) := by decide +kernel
theorem d_X11_workOf_29 : decode prog_13_method_64_code 29 = .ok (.aload_n 0, 1) := by decide +kernel
theorem d_X11_workOf_30 : decode prog_13_method_64_code 30 = .ok (.iload_n 1, 1) := by decide +kernel
theorem d_X11_workOf_31 : decode prog_13_method_64_code 31 = .ok (.iload_n 2, 1) := by decide +kernel
theorem d_X11_workOf_32 : decode prog_13_method_64_code 32 = .ok (.invokevirtual 305, 3) := by decide +kernel
theorem d_X11_workOf_35 : decode prog_13_method_64_code 35 = .ok (.ireturn, 1) := by decide +kernel
abbrev Y_X11_poll : Yx := (⟨"TaskWeaveModel", "poll", "(I)I"⟩, prog_13_method_65_code, 6, (some .int))
abbrev M_X11_poll : Mx := ("TaskWeaveModel", prog_13_method_65_code, 6, false)
theorem yk_X11_poll : Yk Y_X11_poll 1 := ⟨by decide +kernel, by decide +kernel, ⟨by decide, by decide⟩, by decide +kernel, by decide, trivial⟩
theorem d_X11_poll_0 : decode prog_13_method_65_code 0 = .ok (.aload_n 0, 1) := by decide +kernel
theorem d_X11_poll_1 : decode prog_13_method_65_code 1 = .ok (.iconst 0, 1) := by decide +kernel
theorem d_X11_poll_2 : decode prog_13_method_65_code 2 = .ok (.putfield 183, 3) := by decide +kernel
theorem d_X11_poll_5 : decode prog_13_method_65_code 5 = .ok (.iconst (-1), 1) := by decide +kernel
theorem d_X11_poll_6 : decode prog_13_method_65_code 6 = .ok (.istore_n 2, 1) := by decide +kernel
theorem d_X11_poll_7 : decode prog_13_method_65_code 7 = .ok (.iconst 0, 1) := by decide +kernel
theorem d_X11_poll_8 : decode prog_13_method_65_code 8 = .ok (.istore_n 3, 1) := by decide +kernel
theorem d_X11_poll_9 : decode prog_13_method_65_code 9 = .ok (.iload_n 3, 1) := by decide +kernel
theorem d_X11_poll_10 : decode prog_13_method_65_code 10 = .ok (.bipush 64, 2) := by decide +kernel
theorem d_X11_poll_12 : decode prog_13_method_65_code 12 = .ok (.if_icmp .ge 111, 3) := by decide +kernel
theorem d_X11_poll_15 : decode prog_13_method_65_code 15 = .ok (.aload_n 0, 1) := by decide +kernel
theorem d_X11_poll_16 : decode prog_13_method_65_code 16 = .ok (.iload_n 3, 1) := by decide +kernel
theorem d_X11_poll_17 : decode prog_13_method_65_code 17 = .ok (.invokevirtual 382, 3) := by decide +kernel
theorem d_X11_poll_20 : decode prog_13_method_65_code 20 = .ok (.ifCond .ne 6, 3) := by decide +kernel
theorem d_X11_poll_23 : decode prog_13_method_65_code 23 = .ok (.goto 94, 3) := by decide +kernel
theorem d_X11_poll_26 : decode prog_13_method_65_code 26 = .ok (.iload_n 3, 1) := by decide +kernel
theorem d_X11_poll_27 : decode prog_13_method_65_code 27 = .ok (.invokestatic 385, 3) := by decide +kernel
theorem d_X11_poll_30 : decode prog_13_method_65_code 30 = .ok (.istore 4, 2) := by decide +kernel
theorem d_X11_poll_32 : decode prog_13_method_65_code 32 = .ok (.aload_n 0, 1) := by decide +kernel
theorem d_X11_poll_33 : decode prog_13_method_65_code 33 = .ok (.iload 4, 2) := by decide +kernel
theorem d_X11_poll_35 : decode prog_13_method_65_code 35 = .ok (.invokevirtual 388, 3) := by decide +kernel
theorem d_X11_poll_38 : decode prog_13_method_65_code 38 = .ok (.ifCond .eq 47, 3) := by decide +kernel
theorem d_X11_poll_41 : decode prog_13_method_65_code 41 = .ok (.aload_n 0, 1) := by decide +kernel
theorem d_X11_poll_42 : decode prog_13_method_65_code 42 = .ok (.getfield 146, 3) := by decide +kernel
theorem d_X11_poll_45 : decode prog_13_method_65_code 45 = .ok (.iload 4, 2) := by decide +kernel
theorem d_X11_poll_47 : decode prog_13_method_65_code 47 = .ok (.iaload, 1) := by decide +kernel
theorem d_X11_poll_48 : decode prog_13_method_65_code 48 = .ok (.iconst 1, 1) := by decide +kernel
theorem d_X11_poll_49 : decode prog_13_method_65_code 49 = .ok (.if_icmp .ne 36, 3) := by decide +kernel
theorem d_X11_poll_52 : decode prog_13_method_65_code 52 = .ok (.aload_n 0, 1) := by decide +kernel
theorem d_X11_poll_53 : decode prog_13_method_65_code 53 = .ok (.getfield 149, 3) := by decide +kernel
theorem d_X11_poll_56 : decode prog_13_method_65_code 56 = .ok (.iload 4, 2) := by decide +kernel
theorem d_X11_poll_58 : decode prog_13_method_65_code 58 = .ok (.iaload, 1) := by decide +kernel
theorem d_X11_poll_59 : decode prog_13_method_65_code 59 = .ok (.aload_n 0, 1) := by decide +kernel
theorem d_X11_poll_60 : decode prog_13_method_65_code 60 = .ok (.getfield 283, 3) := by decide +kernel
theorem d_X11_poll_63 : decode prog_13_method_65_code 63 = .ok (.if_icmp .gt 22, 3) := by decide +kernel
theorem d_X11_poll_66 : decode prog_13_method_65_code 66 = .ok (.aload_n 0, 1) := by decide +kernel
theorem d_X11_poll_67 : decode prog_13_method_65_code 67 = .ok (.getfield 70, 3) := by decide +kernel
theorem d_X11_poll_70 : decode prog_13_method_65_code 70 = .ok (.aload_n 0, 1) := by decide +kernel
theorem d_X11_poll_71 : decode prog_13_method_65_code 71 = .ok (.iload 4, 2) := by decide +kernel
theorem d_X11_poll_73 : decode prog_13_method_65_code 73 = .ok (.invokevirtual 397, 3) := by decide +kernel
theorem d_X11_poll_76 : decode prog_13_method_65_code 76 = .ok (.iaload, 1) := by decide +kernel
theorem d_X11_poll_77 : decode prog_13_method_65_code 77 = .ok (.iload_n 1, 1) := by decide +kernel
theorem d_X11_poll_78 : decode prog_13_method_65_code 78 = .ok (.if_icmp .ne 7, 3) := by decide +kernel
theorem d_X11_poll_81 : decode prog_13_method_65_code 81 = .ok (.iconst 1, 1) := by decide +kernel
theorem d_X11_poll_82 : decode prog_13_method_65_code 82 = .ok (.goto 4, 3) := by decide +kernel
theorem d_X11_poll_85 : decode prog_13_method_65_code 85 = .ok (.iconst 0, 1) := by decide +kernel
theorem d_X11_poll_86 : decode prog_13_method_65_code 86 = .ok (.istore 5, 2) := by decide +kernel
theorem d_X11_poll_88 : decode prog_13_method_65_code 88 = .ok (.iload 5, 2) := by decide +kernel
theorem d_X11_poll_90 : decode prog_13_method_65_code 90 = .ok (.ifCond .eq 27, 3) := by decide +kernel
theorem d_X11_poll_93 : decode prog_13_method_65_code 93 = .ok (.iload_n 2, 1) := by decide +kernel
theorem d_X11_poll_94 : decode prog_13_method_65_code 94 = .ok (.iconst (-1), 1) := by decide +kernel
theorem d_X11_poll_95 : decode prog_13_method_65_code 95 = .ok (.if_icmp .eq 19, 3) := by decide +kernel
theorem d_X11_poll_98 : decode prog_13_method_65_code 98 = .ok (.aload_n 0, 1) := by decide +kernel
theorem d_X11_poll_99 : decode prog_13_method_65_code 99 = .ok (.getfield 149, 3) := by decide +kernel
theorem d_X11_poll_102 : decode prog_13_method_65_code 102 = .ok (.iload 4, 2) := by decide +kernel
theorem d_X11_poll_104 : decode prog_13_method_65_code 104 = .ok (.iaload, 1) := by decide +kernel
theorem d_X11_poll_105 : decode prog_13_method_65_code 105 = .ok (.aload_n 0, 1) := by decide +kernel
theorem d_X11_poll_106 : decode prog_13_method_65_code 106 = .ok (.getfield 149, 3) := by decide +kernel
theorem d_X11_poll_109 : decode prog_13_method_65_code 109 = .ok (.iload_n 2, 1) := by decide +kernel
theorem d_X11_poll_110 : decode prog_13_method_65_code 110 = .ok (.iaload, 1) := by decide +kernel
theorem d_X11_poll_111 : decode prog_13_method_65_code 111 = .ok (.if_icmp .ge 6, 3) := by decide +kernel
theorem d_X11_poll_114 : decode prog_13_method_65_code 114 = .ok (.iload 4, 2) := by decide +kernel
theorem d_X11_poll_116 : decode prog_13_method_65_code 116 = .ok (.istore_n 2, 1) := by decide +kernel
theorem d_X11_poll_117 : decode prog_13_method_65_code 117 = .ok (.iinc 3 1, 3) := by decide +kernel
theorem d_X11_poll_120 : decode prog_13_method_65_code 120 = .ok (.goto (-111), 3) := by decide +kernel
theorem d_X11_poll_123 : decode prog_13_method_65_code 123 = .ok (.iload_n 2, 1) := by decide +kernel
theorem d_X11_poll_124 : decode prog_13_method_65_code 124 = .ok (.iconst (-1), 1) := by decide +kernel
theorem d_X11_poll_125 : decode prog_13_method_65_code 125 = .ok (.if_icmp .ne 5, 3) := by decide +kernel
theorem d_X11_poll_128 : decode prog_13_method_65_code 128 = .ok (.iconst (-1), 1) := by decide +kernel
theorem d_X11_poll_129 : decode prog_13_method_65_code 129 = .ok (.ireturn, 1) := by decide +kernel
theorem d_X11_poll_130 : decode prog_13_method_65_code 130 = .ok (.aload_n 0, 1) := by decide +kernel
theorem d_X11_poll_131 : decode prog_13_method_65_code 131 = .ok (.dup, 1) := by decide +kernel
theorem d_X11_poll_132 : decode prog_13_method_65_code 132 = .ok (.getfield 400, 3) := by decide +kernel
theorem d_X11_poll_135 : decode prog_13_method_65_code 135 = .ok (.iconst 1, 1) := by decide +kernel
theorem d_X11_poll_136 : decode prog_13_method_65_code 136 = .ok (.iadd, 1) := by decide +kernel
theorem d_X11_poll_137 : decode prog_13_method_65_code 137 = .ok (.putfield 400, 3) := by decide +kernel
theorem d_X11_poll_140 : decode prog_13_method_65_code 140 = .ok (.aload_n 0, 1) := by decide +kernel
theorem d_X11_poll_141 : decode prog_13_method_65_code 141 = .ok (.getfield 146, 3) := by decide +kernel
theorem d_X11_poll_144 : decode prog_13_method_65_code 144 = .ok (.iload_n 2, 1) := by decide +kernel
theorem d_X11_poll_145 : decode prog_13_method_65_code 145 = .ok (.iconst 2, 1) := by decide +kernel
theorem d_X11_poll_146 : decode prog_13_method_65_code 146 = .ok (.iastore, 1) := by decide +kernel
theorem d_X11_poll_147 : decode prog_13_method_65_code 147 = .ok (.aload_n 0, 1) := by decide +kernel
theorem d_X11_poll_148 : decode prog_13_method_65_code 148 = .ok (.getfield 155, 3) := by decide +kernel
theorem d_X11_poll_151 : decode prog_13_method_65_code 151 = .ok (.iload_n 2, 1) := by decide +kernel
theorem d_X11_poll_152 : decode prog_13_method_65_code 152 = .ok (.aload_n 0, 1) := by decide +kernel
theorem d_X11_poll_153 : decode prog_13_method_65_code 153 = .ok (.getfield 400, 3) := by decide +kernel
theorem d_X11_poll_156 : decode prog_13_method_65_code 156 = .ok (.iastore, 1) := by decide +kernel
theorem d_X11_poll_157 : decode prog_13_method_65_code 157 = .ok (.aload_n 0, 1) := by decide +kernel
theorem d_X11_poll_158 : decode prog_13_method_65_code 158 = .ok (.getfield 152, 3) := by decide +kernel
theorem d_X11_poll_161 : decode prog_13_method_65_code 161 = .ok (.iload_n 2, 1) := by decide +kernel
theorem d_X11_poll_162 : decode prog_13_method_65_code 162 = .ok (.aload_n 0, 1) := by decide +kernel
theorem d_X11_poll_163 : decode prog_13_method_65_code 163 = .ok (.getfield 283, 3) := by decide +kernel
theorem d_X11_poll_166 : decode prog_13_method_65_code 166 = .ok (.bipush 10, 2) := by decide +kernel
theorem d_X11_poll_168 : decode prog_13_method_65_code 168 = .ok (.iadd, 1) := by decide +kernel
theorem d_X11_poll_169 : decode prog_13_method_65_code 169 = .ok (.iastore, 1) := by decide +kernel
theorem d_X11_poll_170 : decode prog_13_method_65_code 170 = .ok (.aload_n 0, 1) := by decide +kernel
theorem d_X11_poll_171 : decode prog_13_method_65_code 171 = .ok (.getfield 400, 3) := by decide +kernel
theorem d_X11_poll_174 : decode prog_13_method_65_code 174 = .ok (.ireturn, 1) := by decide +kernel
abbrev Y_X11_leased : Yx := (⟨"TaskWeaveModel", "leased", "(I)I"⟩, prog_13_method_66_code, 3, (some .int))
abbrev M_X11_leased : Mx := ("TaskWeaveModel", prog_13_method_66_code, 3, false)
theorem yk_X11_leased : Yk Y_X11_leased 1 := ⟨by decide +kernel, by decide +kernel, ⟨by decide, by decide⟩, by decide +kernel, by decide, trivial⟩
theorem d_X11_leased_0 : decode prog_13_method_66_code 0 = .ok (.iconst 0, 1) := by decide +kernel
theorem d_X11_leased_1 : decode prog_13_method_66_code 1 = .ok (.istore_n 2, 1) := by decide +kernel
theorem d_X11_leased_2 : decode prog_13_method_66_code 2 = .ok (.iload_n 2, 1) := by decide +kernel
theorem d_X11_leased_3 : decode prog_13_method_66_code 3 = .ok (.bipush 64, 2) := by decide +kernel
theorem d_X11_leased_5 : decode prog_13_method_66_code 5 = .ok (.if_icmp .ge 31, 3) := by decide +kernel
theorem d_X11_leased_8 : decode prog_13_method_66_code 8 = .ok (.aload_n 0, 1) := by decide +kernel
theorem d_X11_leased_9 : decode prog_13_method_66_code 9 = .ok (.getfield 146, 3) := by decide +kernel
theorem d_X11_leased_12 : decode prog_13_method_66_code 12 = .ok (.iload_n 2, 1) := by decide +kernel
theorem d_X11_leased_13 : decode prog_13_method_66_code 13 = .ok (.iaload, 1) := by decide +kernel
theorem d_X11_leased_14 : decode prog_13_method_66_code 14 = .ok (.iconst 2, 1) := by decide +kernel
theorem d_X11_leased_15 : decode prog_13_method_66_code 15 = .ok (.if_icmp .ne 15, 3) := by decide +kernel
theorem d_X11_leased_18 : decode prog_13_method_66_code 18 = .ok (.aload_n 0, 1) := by decide +kernel
theorem d_X11_leased_19 : decode prog_13_method_66_code 19 = .ok (.getfield 155, 3) := by decide +kernel
theorem d_X11_leased_22 : decode prog_13_method_66_code 22 = .ok (.iload_n 2, 1) := by decide +kernel
theorem d_X11_leased_23 : decode prog_13_method_66_code 23 = .ok (.iaload, 1) := by decide +kernel
theorem d_X11_leased_24 : decode prog_13_method_66_code 24 = .ok (.iload_n 1, 1) := by decide +kernel
theorem d_X11_leased_25 : decode prog_13_method_66_code 25 = .ok (.if_icmp .ne 5, 3) := by decide +kernel
theorem d_X11_leased_28 : decode prog_13_method_66_code 28 = .ok (.iload_n 2, 1) := by decide +kernel
theorem d_X11_leased_29 : decode prog_13_method_66_code 29 = .ok (.ireturn, 1) := by decide +kernel
theorem d_X11_leased_30 : decode prog_13_method_66_code 30 = .ok (.iinc 2 1, 3) := by decide +kernel
theorem d_X11_leased_33 : decode prog_13_method_66_code 33 = .ok (.goto (-31), 3) := by decide +kernel
theorem d_X11_leased_36 : decode prog_13_method_66_code 36 = .ok (.iconst (-1), 1) := by decide +kernel
theorem d_X11_leased_37 : decode prog_13_method_66_code 37 = .ok (.ireturn, 1) := by decide +kernel
abbrev Y_X11_beat : Yx := (⟨"TaskWeaveModel", "beat", "(I)Z"⟩, prog_13_method_67_code, 3, (some .boolean))
abbrev M_X11_beat : Mx := ("TaskWeaveModel", prog_13_method_67_code, 3, false)
theorem yk_X11_beat : Yk Y_X11_beat 1 := ⟨by decide +kernel, by decide +kernel, ⟨by decide, by decide⟩, by decide +kernel, by decide, trivial⟩
theorem d_X11_beat_0 : decode prog_13_method_67_code 0 = .ok (.aload_n 0, 1) := by decide +kernel
theorem d_X11_beat_1 : decode prog_13_method_67_code 1 = .ok (.iconst 0, 1) := by decide +kernel
theorem d_X11_beat_2 : decode prog_13_method_67_code 2 = .ok (.putfield 183, 3) := by decide +kernel
theorem d_X11_beat_5 : decode prog_13_method_67_code 5 = .ok (.aload_n 0, 1) := by decide +kernel
theorem d_X11_beat_6 : decode prog_13_method_67_code 6 = .ok (.iload_n 1, 1) := by decide +kernel
theorem d_X11_beat_7 : decode prog_13_method_67_code 7 = .ok (.invokevirtual 403, 3) := by decide +kernel
theorem d_X11_beat_10 : decode prog_13_method_67_code 10 = .ok (.istore_n 2, 1) := by decide +kernel
theorem d_X11_beat_11 : decode prog_13_method_67_code 11 = .ok (.iload_n 2, 1) := by decide +kernel
theorem d_X11_beat_12 : decode prog_13_method_67_code 12 = .ok (.iconst (-1), 1) := by decide +kernel
theorem d_X11_beat_13 : decode prog_13_method_67_code 13 = .ok (.if_icmp .ne 5, 3) := by decide +kernel
theorem d_X11_beat_16 : decode prog_13_method_67_code 16 = .ok (.iconst 0, 1) := by decide +kernel
theorem d_X11_beat_17 : decode prog_13_method_67_code 17 = .ok (.ireturn, 1) := by decide +kernel
theorem d_X11_beat_18 : decode prog_13_method_67_code 18 = .ok (.aload_n 0, 1) := by decide +kernel
theorem d_X11_beat_19 : decode prog_13_method_67_code 19 = .ok (.getfield 152, 3) := by decide +kernel
theorem d_X11_beat_22 : decode prog_13_method_67_code 22 = .ok (.iload_n 2, 1) := by decide +kernel
theorem d_X11_beat_23 : decode prog_13_method_67_code 23 = .ok (.aload_n 0, 1) := by decide +kernel
theorem d_X11_beat_24 : decode prog_13_method_67_code 24 = .ok (.getfield 283, 3) := by decide +kernel
theorem d_X11_beat_27 : decode prog_13_method_67_code 27 = .ok (.bipush 10, 2) := by decide +kernel
theorem d_X11_beat_29 : decode prog_13_method_67_code 29 = .ok (.iadd, 1) := by decide +kernel
theorem d_X11_beat_30 : decode prog_13_method_67_code 30 = .ok (.iastore, 1) := by decide +kernel
theorem d_X11_beat_31 : decode prog_13_method_67_code 31 = .ok (.iconst 1, 1) := by decide +kernel
theorem d_X11_beat_32 : decode prog_13_method_67_code 32 = .ok (.ireturn, 1) := by decide +kernel
abbrev Y_X11_finish : Yx := (⟨"TaskWeaveModel", "finish", "(II)Z"⟩, prog_13_method_68_code, 4, (some .boolean))
abbrev M_X11_finish : Mx := ("TaskWeaveModel", prog_13_method_68_code, 4, false)
theorem yk_X11_finish : Yk Y_X11_finish 2 := ⟨by decide +kernel, by decide +kernel, ⟨by decide, by decide⟩, by decide +kernel, by decide, trivial⟩
theorem d_X11_finish_0 : decode prog_13_method_68_code 0 = .ok (.aload_n 0, 1) := by decide +kernel
theorem d_X11_finish_1 : decode prog_13_method_68_code 1 = .ok (.iconst 0, 1) := by decide +kernel
theorem d_X11_finish_2 : decode prog_13_method_68_code 2 = .ok (.putfield 183, 3) := by decide +kernel
theorem d_X11_finish_5 : decode prog_13_method_68_code 5 = .ok (.aload_n 0, 1) := by decide +kernel
theorem d_X11_finish_6 : decode prog_13_method_68_code 6 = .ok (.iload_n 1, 1) := by decide +kernel
theorem d_X11_finish_7 : decode prog_13_method_68_code 7 = .ok (.invokevirtual 403, 3) := by decide +kernel
theorem d_X11_finish_10 : decode prog_13_method_68_code 10 = .ok (.istore_n 3, 1) := by decide +kernel
theorem d_X11_finish_11 : decode prog_13_method_68_code 11 = .ok (.iload_n 3, 1) := by decide +kernel
theorem d_X11_finish_12 : decode prog_13_method_68_code 12 = .ok (.iconst (-1), 1) := by decide +kernel
theorem d_X11_finish_13 : decode prog_13_method_68_code 13 = .ok (.if_icmp .eq 19, 3) := by decide +kernel
theorem d_X11_finish_16 : decode prog_13_method_68_code 16 = .ok (.aload_n 0, 1) := by decide +kernel
theorem d_X11_finish_17 : decode prog_13_method_68_code 17 = .ok (.iload_n 3, 1) := by decide +kernel
theorem d_X11_finish_18 : decode prog_13_method_68_code 18 = .ok (.iconst 2, 1) := by decide +kernel
theorem d_X11_finish_19 : decode prog_13_method_68_code 19 = .ok (.iload_n 2, 1) := by decide +kernel
theorem d_X11_finish_20 : decode prog_13_method_68_code 20 = .ok (.iconst 0, 1) := by decide +kernel
theorem d_X11_finish_21 : decode prog_13_method_68_code 21 = .ok (.iconst 0, 1) := by decide +kernel
theorem d_X11_finish_22 : decode prog_13_method_68_code 22 = .ok (.invokevirtual 394, 3) := by decide +kernel
theorem d_X11_finish_25 : decode prog_13_method_68_code 25 = .ok (.ifCond .eq 7, 3) := by decide +kernel
theorem d_X11_finish_28 : decode prog_13_method_68_code 28 = .ok (.iconst 1, 1) := by decide +kernel
theorem d_X11_finish_29 : decode prog_13_method_68_code 29 = .ok (.goto 4, 3) := by decide +kernel
theorem d_X11_finish_32 : decode prog_13_method_68_code 32 = .ok (.iconst 0, 1) := by decide +kernel
theorem d_X11_finish_33 : decode prog_13_method_68_code 33 = .ok (.ireturn, 1) := by decide +kernel
abbrev Y_X11_fails : Yx := (⟨"TaskWeaveModel", "fails", "(I)Z"⟩, prog_13_method_69_code, 4, (some .boolean))
abbrev M_X11_fails : Mx := ("TaskWeaveModel", prog_13_method_69_code, 4, false)
theorem yk_X11_fails : Yk Y_X11_fails 1 := ⟨by decide +kernel, by decide +kernel, ⟨by decide, by decide⟩, by decide +kernel, by decide, trivial⟩
theorem d_X11_fails_0 : decode prog_13_method_69_code 0 = .ok (.aload_n 0, 1) := by decide +kernel
theorem d_X11_fails_1 : decode prog_13_method_69_code 1 = .ok (.getfield 158, 3) := by decide +kernel
theorem d_X11_fails_4 : decode prog_13_method_69_code 4 = .ok (.iload_n 1, 1) := by decide +kernel
theorem d_X11_fails_5 : decode prog_13_method_69_code 5 = .ok (.iaload, 1) := by decide +kernel
theorem d_X11_fails_6 : decode prog_13_method_69_code 6 = .ok (.iconst 1, 1) := by decide +kernel
theorem d_X11_fails_7 : decode prog_13_method_69_code 7 = .ok (.iadd, 1) := by decide +kernel
theorem d_X11_fails_8 : decode prog_13_method_69_code 8 = .ok (.istore_n 2, 1) := by decide +kernel
theorem d_X11_fails_9 : decode prog_13_method_69_code 9 = .ok (.iload_n 2, 1) := by decide +kernel
theorem d_X11_fails_10 : decode prog_13_method_69_code 10 = .ok (.iconst 5, 1) := by decide +kernel
theorem d_X11_fails_11 : decode prog_13_method_69_code 11 = .ok (.if_icmp .ne 13, 3) := by decide +kernel
theorem d_X11_fails_14 : decode prog_13_method_69_code 14 = .ok (.aload_n 0, 1) := by decide +kernel
theorem d_X11_fails_15 : decode prog_13_method_69_code 15 = .ok (.iload_n 1, 1) := by decide +kernel
theorem d_X11_fails_16 : decode prog_13_method_69_code 16 = .ok (.iconst 3, 1) := by decide +kernel
theorem d_X11_fails_17 : decode prog_13_method_69_code 17 = .ok (.iconst (-1), 1) := by decide +kernel
theorem d_X11_fails_18 : decode prog_13_method_69_code 18 = .ok (.iconst 0, 1) := by decide +kernel
theorem d_X11_fails_19 : decode prog_13_method_69_code 19 = .ok (.iconst 0, 1) := by decide +kernel
theorem d_X11_fails_20 : decode prog_13_method_69_code 20 = .ok (.invokevirtual 394, 3) := by decide +kernel
theorem d_X11_fails_23 : decode prog_13_method_69_code 23 = .ok (.ireturn, 1) := by decide +kernel
theorem d_X11_fails_24 : decode prog_13_method_69_code 24 = .ok (.aload_n 0, 1) := by decide +kernel
theorem d_X11_fails_25 : decode prog_13_method_69_code 25 = .ok (.getfield 283, 3) := by decide +kernel
theorem d_X11_fails_28 : decode prog_13_method_69_code 28 = .ok (.iconst 1, 1) := by decide +kernel
theorem d_X11_fails_29 : decode prog_13_method_69_code 29 = .ok (.iload_n 2, 1) := by decide +kernel
theorem d_X11_fails_30 : decode prog_13_method_69_code 30 = .ok (.iconst 1, 1) := by decide +kernel
theorem d_X11_fails_31 : decode prog_13_method_69_code 31 = .ok (.isub, 1) := by decide +kernel
theorem d_X11_fails_32 : decode prog_13_method_69_code 32 = .ok (.ishl, 1) := by decide +kernel
theorem d_X11_fails_33 : decode prog_13_method_69_code 33 = .ok (.iadd, 1) := by decide +kernel
theorem d_X11_fails_34 : decode prog_13_method_69_code 34 = .ok (.istore_n 3, 1) := by decide +kernel
theorem d_X11_fails_35 : decode prog_13_method_69_code 35 = .ok (.aload_n 0, 1) := by decide +kernel
theorem d_X11_fails_36 : decode prog_13_method_69_code 36 = .ok (.iload_n 1, 1) := by decide +kernel
theorem d_X11_fails_37 : decode prog_13_method_69_code 37 = .ok (.bipush 16, 2) := by decide +kernel
theorem d_X11_fails_39 : decode prog_13_method_69_code 39 = .ok (.idiv, 1) := by decide +kernel
theorem d_X11_fails_40 : decode prog_13_method_69_code 40 = .ok (.iload_n 1, 1) := by decide +kernel
theorem d_X11_fails_41 : decode prog_13_method_69_code 41 = .ok (.bipush 16, 2) := by decide +kernel
theorem d_X11_fails_43 : decode prog_13_method_69_code 43 = .ok (.irem, 1) := by decide +kernel
theorem d_X11_fails_44 : decode prog_13_method_69_code 44 = .ok (.bipush 15, 2) := by decide +kernel
theorem d_X11_fails_46 : decode prog_13_method_69_code 46 = .ok (.iload_n 2, 1) := by decide +kernel
theorem d_X11_fails_47 : decode prog_13_method_69_code 47 = .ok (.iload_n 3, 1) := by decide +kernel
theorem d_X11_fails_48 : decode prog_13_method_69_code 48 = .ok (.iconst 0, 1) := by decide +kernel
theorem d_X11_fails_49 : decode prog_13_method_69_code 49 = .ok (.invokevirtual 364, 3) := by decide +kernel
theorem d_X11_fails_52 : decode prog_13_method_69_code 52 = .ok (.ifCond .ne 5, 3) := by decide +kernel
theorem d_X11_fails_55 : decode prog_13_method_69_code 55 = .ok (.iconst 0, 1) := by decide +kernel
theorem d_X11_fails_56 : decode prog_13_method_69_code 56 = .ok (.ireturn, 1) := by decide +kernel
theorem d_X11_fails_57 : decode prog_13_method_69_code 57 = .ok (.aload_n 0, 1) := by decide +kernel
theorem d_X11_fails_58 : decode prog_13_method_69_code 58 = .ok (.getfield 158, 3) := by decide +kernel
theorem d_X11_fails_61 : decode prog_13_method_69_code 61 = .ok (.iload_n 1, 1) := by decide +kernel
theorem d_X11_fails_62 : decode prog_13_method_69_code 62 = .ok (.iload_n 2, 1) := by decide +kernel
theorem d_X11_fails_63 : decode prog_13_method_69_code 63 = .ok (.iastore, 1) := by decide +kernel
theorem d_X11_fails_64 : decode prog_13_method_69_code 64 = .ok (.aload_n 0, 1) := by decide +kernel
theorem d_X11_fails_65 : decode prog_13_method_69_code 65 = .ok (.getfield 149, 3) := by decide +kernel
theorem d_X11_fails_68 : decode prog_13_method_69_code 68 = .ok (.iload_n 1, 1) := by decide +kernel
theorem d_X11_fails_69 : decode prog_13_method_69_code 69 = .ok (.iload_n 3, 1) := by decide +kernel
theorem d_X11_fails_70 : decode prog_13_method_69_code 70 = .ok (.iastore, 1) := by decide +kernel
theorem d_X11_fails_71 : decode prog_13_method_69_code 71 = .ok (.aload_n 0, 1) := by decide +kernel
theorem d_X11_fails_72 : decode prog_13_method_69_code 72 = .ok (.getfield 146, 3) := by decide +kernel
theorem d_X11_fails_75 : decode prog_13_method_69_code 75 = .ok (.iload_n 1, 1) := by decide +kernel
theorem d_X11_fails_76 : decode prog_13_method_69_code 76 = .ok (.iconst 1, 1) := by decide +kernel
theorem d_X11_fails_77 : decode prog_13_method_69_code 77 = .ok (.iastore, 1) := by decide +kernel
theorem d_X11_fails_78 : decode prog_13_method_69_code 78 = .ok (.iconst 1, 1) := by decide +kernel
theorem d_X11_fails_79 : decode prog_13_method_69_code 79 = .ok (.ireturn, 1) := by decide +kernel
abbrev Y_X11_fail : Yx := (⟨"TaskWeaveModel", "fail", "(I)Z"⟩, prog_13_method_70_code, 3, (some .boolean))
abbrev M_X11_fail : Mx := ("TaskWeaveModel", prog_13_method_70_code, 3, false)
theorem yk_X11_fail : Yk Y_X11_fail 1 := ⟨by decide +kernel, by decide +kernel, ⟨by decide, by decide⟩, by decide +kernel, by decide, trivial⟩
theorem d_X11_fail_0 : decode prog_13_method_70_code 0 = .ok (.aload_n 0, 1) := by decide +kernel
theorem d_X11_fail_1 : decode prog_13_method_70_code 1 = .ok (.iconst 0, 1) := by decide +kernel
theorem d_X11_fail_2 : decode prog_13_method_70_code 2 = .ok (.putfield 183, 3) := by decide +kernel
theorem d_X11_fail_5 : decode prog_13_method_70_code 5 = .ok (.aload_n 0, 1) := by decide +kernel
theorem d_X11_fail_6 : decode prog_13_method_70_code 6 = .ok (.iload_n 1, 1) := by decide +kernel
theorem d_X11_fail_7 : decode prog_13_method_70_code 7 = .ok (.invokevirtual 403, 3) := by decide +kernel
theorem d_X11_fail_10 : decode prog_13_method_70_code 10 = .ok (.istore_n 2, 1) := by decide +kernel
theorem d_X11_fail_11 : decode prog_13_method_70_code 11 = .ok (.iload_n 2, 1) := by decide +kernel
theorem d_X11_fail_12 : decode prog_13_method_70_code 12 = .ok (.iconst (-1), 1) := by decide +kernel
theorem d_X11_fail_13 : decode prog_13_method_70_code 13 = .ok (.if_icmp .eq 15, 3) := by decide +kernel
theorem d_X11_fail_16 : decode prog_13_method_70_code 16 = .ok (.aload_n 0, 1) := by decide +kernel
theorem d_X11_fail_17 : decode prog_13_method_70_code 17 = .ok (.iload_n 2, 1) := by decide +kernel
theorem d_X11_fail_18 : decode prog_13_method_70_code 18 = .ok (.invokevirtual 406, 3) := by decide +kernel
theorem d_X11_fail_21 : decode prog_13_method_70_code 21 = .ok (.ifCond .eq 7, 3) := by decide +kernel
theorem d_X11_fail_24 : decode prog_13_method_70_code 24 = .ok (.iconst 1, 1) := by decide +kernel
theorem d_X11_fail_25 : decode prog_13_method_70_code 25 = .ok (.goto 4, 3) := by decide +kernel
theorem d_X11_fail_28 : decode prog_13_method_70_code 28 = .ok (.iconst 0, 1) := by decide +kernel
theorem d_X11_fail_29 : decode prog_13_method_70_code 29 = .ok (.ireturn, 1) := by decide +kernel
abbrev Y_X11_task : Yx := (⟨"TaskWeaveModel", "task", "(II)I"⟩, prog_13_method_71_code, 4, (some .int))
abbrev M_X11_task : Mx := ("TaskWeaveModel", prog_13_method_71_code, 4, false)
theorem yk_X11_task : Yk Y_X11_task 2 := ⟨by decide +kernel, by decide +kernel, ⟨by decide, by decide⟩, by decide +kernel, by decide, trivial⟩
theorem d_X11_task_0 : decode prog_13_method_71_code 0 = .ok (.aload_n 0, 1) := by decide +kernel
theorem d_X11_task_1 : decode prog_13_method_71_code 1 = .ok (.iconst 0, 1) := by decide +kernel
theorem d_X11_task_2 : decode prog_13_method_71_code 2 = .ok (.putfield 183, 3) := by decide +kernel
theorem d_X11_task_5 : decode prog_13_method_71_code 5 = .ok (.aload_n 0, 1) := by decide +kernel
theorem d_X11_task_6 : decode prog_13_method_71_code 6 = .ok (.iload_n 1, 1) := by decide +kernel
theorem d_X11_task_7 : decode prog_13_method_71_code 7 = .ok (.invokevirtual 403, 3) := by decide +kernel
theorem d_X11_task_10 : decode prog_13_method_71_code 10 = .ok (.istore_n 3, 1) := by decide +kernel
theorem d_X11_task_11 : decode prog_13_method_71_code 11 = .ok (.iload_n 3, 1) := by decide +kernel
theorem d_X11_task_12 : decode prog_13_method_71_code 12 = .ok (.iconst (-1), 1) := by decide +kernel
theorem d_X11_task_13 : decode prog_13_method_71_code 13 = .ok (.if_icmp .ne 5, 3) := by decide +kernel
theorem d_X11_task_16 : decode prog_13_method_71_code 16 = .ok (.iconst (-1), 1) := by decide +kernel
theorem d_X11_task_17 : decode prog_13_method_71_code 17 = .ok (.ireturn, 1) := by decide +kernel
theorem d_X11_task_18 : decode prog_13_method_71_code 18 = .ok (.iload_n 2, 1) := by decide +kernel
theorem d_X11_task_19 : decode prog_13_method_71_code 19 = .ok (.tableswitch 59 0 3 #[29, 34, 45, 52], 29) := by decide +kernel
theorem d_X11_task_48 : decode prog_13_method_71_code 48 = .ok (.iload_n 3, 1) := by decide +kernel
theorem d_X11_task_49 : decode prog_13_method_71_code 49 = .ok (.invokestatic 372, 3) := by decide +kernel
theorem d_X11_task_52 : decode prog_13_method_71_code 52 = .ok (.ireturn, 1) := by decide +kernel
theorem d_X11_task_53 : decode prog_13_method_71_code 53 = .ok (.aload_n 0, 1) := by decide +kernel
theorem d_X11_task_54 : decode prog_13_method_71_code 54 = .ok (.getfield 73, 3) := by decide +kernel
theorem d_X11_task_57 : decode prog_13_method_71_code 57 = .ok (.aload_n 0, 1) := by decide +kernel
theorem d_X11_task_58 : decode prog_13_method_71_code 58 = .ok (.iload_n 3, 1) := by decide +kernel
theorem d_X11_task_59 : decode prog_13_method_71_code 59 = .ok (.invokevirtual 397, 3) := by decide +kernel
theorem d_X11_task_62 : decode prog_13_method_71_code 62 = .ok (.iaload, 1) := by decide +kernel
theorem d_X11_task_63 : decode prog_13_method_71_code 63 = .ok (.ireturn, 1) := by decide +kernel
theorem d_X11_task_64 : decode prog_13_method_71_code 64 = .ok (.aload_n 0, 1) := by decide +kernel
theorem d_X11_task_65 : decode prog_13_method_71_code 65 = .ok (.getfield 158, 3) := by decide +kernel
theorem d_X11_task_68 : decode prog_13_method_71_code 68 = .ok (.iload_n 3, 1) := by decide +kernel
theorem d_X11_task_69 : decode prog_13_method_71_code 69 = .ok (.iaload, 1) := by decide +kernel
theorem d_X11_task_70 : decode prog_13_method_71_code 70 = .ok (.ireturn, 1) := by decide +kernel
theorem d_X11_task_71 : decode prog_13_method_71_code 71 = .ok (.aload_n 0, 1) := by decide +kernel
theorem d_X11_task_72 : decode prog_13_method_71_code 72 = .ok (.getfield 152, 3) := by decide +kernel
theorem d_X11_task_75 : decode prog_13_method_71_code 75 = .ok (.iload_n 3, 1) := by decide +kernel
theorem d_X11_task_76 : decode prog_13_method_71_code 76 = .ok (.iaload, 1) := by decide +kernel
theorem d_X11_task_77 : decode prog_13_method_71_code 77 = .ok (.ireturn, 1) := by decide +kernel
theorem d_X11_task_78 : decode prog_13_method_71_code 78 = .ok (.iconst (-1), 1) := by decide +kernel
theorem d_X11_task_79 : decode prog_13_method_71_code 79 = .ok (.ireturn, 1) := by decide +kernel
abbrev Y_X11_from : Yx := (⟨"TaskWeaveModel", "from", "(II)I"⟩, prog_13_method_79_code, 2, (some .int))
abbrev M_X11_from : Mx := ("TaskWeaveModel", prog_13_method_79_code, 2, false)
theorem yk_X11_from : Yk Y_X11_from 2 := ⟨by decide +kernel, by decide +kernel, ⟨by decide, by decide⟩, by decide +kernel, by decide, trivial⟩
theorem d_X11_from_0 : decode prog_13_method_79_code 0 = .ok (.iconst (-1), 1) := by decide +kernel
theorem d_X11_from_1 : decode prog_13_method_79_code 1 = .ok (.bipush 64, 2) := by decide +kernel
theorem d_X11_from_3 : decode prog_13_method_79_code 3 = .ok (.iload_n 0, 1) := by decide +kernel
theorem d_X11_from_4 : decode prog_13_method_79_code 4 = .ok (.invokestatic 372, 3) := by decide +kernel
theorem d_X11_from_7 : decode prog_13_method_79_code 7 = .ok (.imul, 1) := by decide +kernel
theorem d_X11_from_8 : decode prog_13_method_79_code 8 = .ok (.iload_n 1, 1) := by decide +kernel
theorem d_X11_from_9 : decode prog_13_method_79_code 9 = .ok (.iadd, 1) := by decide +kernel
theorem d_X11_from_10 : decode prog_13_method_79_code 10 = .ok (.isub, 1) := by decide +kernel
theorem d_X11_from_11 : decode prog_13_method_79_code 11 = .ok (.ireturn, 1) := by decide +kernel
def f_X11_numberOf (l0 : Int32) (h : Hp) : Option (Int32 × Hp) := some (((l0) / ((16 : Int32))) + (((4 : Int32)) * ((l0) - (l0) / ((16 : Int32)) * ((16 : Int32)))), h)
theorem f_X11_numberOf_ok {G : Gd} {d : Nat} (hj : 1 ≤ d) : ∀ (l0 : Int32) (L : List (Nat × Value)) (h : Hp) (o : (Int32 × Hp)), zlk L 0 = some (.int (l0)) → f_X11_numberOf l0 h = some o → Ev G M_X11_numberOf d 0 L [] h (Ret Y_X11_numberOf (some (.int o.1)) o.2) := by
  intro l0 L h o g0 e
  unfold f_X11_numberOf at e
  refine r_iload_n d_X11_numberOf_0 rfl g0 ?_
  refine r_bipush d_X11_numberOf_1 (v := (16 : Int32)) (by decide +kernel) ?_
  refine r_idiv d_X11_numberOf_3 (by decide +kernel) ?_
  refine r_iconst d_X11_numberOf_4 (v := (4 : Int32)) (by decide +kernel) ?_
  refine r_iload_n d_X11_numberOf_5 rfl g0 ?_
  refine r_bipush d_X11_numberOf_6 (v := (16 : Int32)) (by decide +kernel) ?_
  refine r_irem d_X11_numberOf_8 (by decide +kernel) ?_
  refine r_imul d_X11_numberOf_9 ?_
  refine r_iadd d_X11_numberOf_10 ?_
  obtain rfl := Option.some.inj e
  exact g_iret d_X11_numberOf_11 rfl rfl

theorem c_X11_numberOf {G : Gd} {j : Nat} (hj : 1 ≤ j) {l0 : Int32} {h : Hp} {o : (Int32 × Hp)} (e : f_X11_numberOf l0 h = some o) : Cal G j Y_X11_numberOf [.int (l0)] h (some (.int o.1)) o.2 := Cal.of (n := 0) (I := false) (by first | exact Or.inl (by decide +kernel) | exact Or.inr (by decide +kernel)) (by decide) (by simp [lg_sl, zrf_cat, cat_int, cat_long]) (f_X11_numberOf_ok hj _ _ h o (by simp [lv_args, zlk, zrf_cat, cat_int, cat_long]) e)
def f_X11_placeOf (l0 : Int32) (h : Hp) : Option (Int32 × Hp) := some ((((16 : Int32)) * ((l0) - (l0) / ((4 : Int32)) * ((4 : Int32)))) + ((l0) / ((4 : Int32))), h)
theorem f_X11_placeOf_ok {G : Gd} {d : Nat} (hj : 1 ≤ d) : ∀ (l0 : Int32) (L : List (Nat × Value)) (h : Hp) (o : (Int32 × Hp)), zlk L 0 = some (.int (l0)) → f_X11_placeOf l0 h = some o → Ev G M_X11_placeOf d 0 L [] h (Ret Y_X11_placeOf (some (.int o.1)) o.2) := by
  intro l0 L h o g0 e
  unfold f_X11_placeOf at e
  refine r_bipush d_X11_placeOf_0 (v := (16 : Int32)) (by decide +kernel) ?_
  refine r_iload_n d_X11_placeOf_2 rfl g0 ?_
  refine r_iconst d_X11_placeOf_3 (v := (4 : Int32)) (by decide +kernel) ?_
  refine r_irem d_X11_placeOf_4 (by decide +kernel) ?_
  refine r_imul d_X11_placeOf_5 ?_
  refine r_iload_n d_X11_placeOf_6 rfl g0 ?_
  refine r_iconst d_X11_placeOf_7 (v := (4 : Int32)) (by decide +kernel) ?_
  refine r_idiv d_X11_placeOf_8 (by decide +kernel) ?_
  refine r_iadd d_X11_placeOf_9 ?_
  obtain rfl := Option.some.inj e
  exact g_iret d_X11_placeOf_10 rfl rfl

theorem c_X11_placeOf {G : Gd} {j : Nat} (hj : 1 ≤ j) {l0 : Int32} {h : Hp} {o : (Int32 × Hp)} (e : f_X11_placeOf l0 h = some o) : Cal G j Y_X11_placeOf [.int (l0)] h (some (.int o.1)) o.2 := Cal.of (n := 0) (I := false) (by first | exact Or.inl (by decide +kernel) | exact Or.inr (by decide +kernel)) (by decide) (by simp [lg_sl, zrf_cat, cat_int, cat_long]) (f_X11_placeOf_ok hj _ _ h o (by simp [lv_args, zlk, zrf_cat, cat_int, cat_long]) e)
def f_X11_isFlow (l0 : Nat) (l1 : Int32) (h : Hp) : Option (Int32 × Hp) := if (l1) < (0) then (some ((0 : Int32), h)) else (if ((64 : Int32)) ≤ (l1) then (some ((0 : Int32), h)) else (ck (isO (h) (l0) 12) (ck (isO (h) (zR (h) 1239 (l0)) 22) (ck (inR ((l1) - (l1) / ((4 : Int32)) * ((4 : Int32))) (zL (h) (zR (h) 1239 (l0)))) (if (zE (h) (zR (h) 1239 (l0)) ((l1) - (l1) / ((4 : Int32)) * ((4 : Int32))).toNatClampNeg) ≤ ((l1) / ((4 : Int32))) then (some ((0 : Int32), h)) else (some ((1 : Int32), h)))))))
theorem f_X11_isFlow_ok {G : Gd} {d : Nat} (hj : 1 ≤ d) : ∀ (l0 : Nat) (l1 : Int32) (L : List (Nat × Value)) (h : Hp) (o : (Int32 × Hp)), zlk L 0 = some (zrf (l0)) → zlk L 1 = some (.int (l1)) → f_X11_isFlow l0 l1 h = some o → Ev G M_X11_isFlow d 0 L [] h (Ret Y_X11_isFlow (some (.int o.1)) o.2) := by
  intro l0 l1 L h o g0 g1 e
  unfold f_X11_isFlow at e
  refine r_iload_n d_X11_isFlow_0 rfl g1 ?_
  refine r_if_lt d_X11_isFlow_1 (tgt := 28) (by decide) (fun c1 => ?_) (fun c1 => ?_)
  · replace e := (if_pos c1).symm.trans e
    refine r_iconst d_X11_isFlow_28 (v := (0 : Int32)) (by decide +kernel) ?_
    obtain rfl := Option.some.inj e
    exact g_iret d_X11_isFlow_29 rfl rfl
  · replace e := (if_neg c1).symm.trans e
    refine r_iload_n d_X11_isFlow_4 rfl g1 ?_
    refine r_bipush d_X11_isFlow_5 (v := (64 : Int32)) (by decide +kernel) ?_
    refine r_icmp_ge d_X11_isFlow_7 (tgt := 28) (by decide) (fun c2 => ?_) (fun c2 => ?_)
    · replace e := (if_pos c2).symm.trans e
      refine r_iconst d_X11_isFlow_28 (v := (0 : Int32)) (by decide +kernel) ?_
      obtain rfl := Option.some.inj e
      exact g_iret d_X11_isFlow_29 rfl rfl
    · replace e := (if_neg c2).symm.trans e
      refine r_iload_n d_X11_isFlow_10 rfl g1 ?_
      refine r_iconst d_X11_isFlow_11 (v := (4 : Int32)) (by decide +kernel) ?_
      refine r_idiv d_X11_isFlow_12 (by decide +kernel) ?_
      refine g_ald_n d_X11_isFlow_13 rfl g0 ?_
      replace e := ckd e
      obtain ⟨k3, e⟩ := e
      refine g_getR d_X11_isFlow_14 (f := 1239) k3 fk_10_107 rfl rfl ?_
      refine r_iload_n d_X11_isFlow_17 rfl g1 ?_
      refine r_iconst d_X11_isFlow_18 (v := (4 : Int32)) (by decide +kernel) ?_
      refine r_irem d_X11_isFlow_19 (by decide +kernel) ?_
      replace e := ckd e
      obtain ⟨k4, e⟩ := e
      replace e := ckd e
      obtain ⟨k5, e⟩ := e
      refine g_iald d_X11_isFlow_20 k4 k5 rfl ?_
      refine r_icmp_ge d_X11_isFlow_21 (tgt := 28) (by decide) (fun c6 => ?_) (fun c6 => ?_)
      · replace e := (if_pos c6).symm.trans e
        refine r_iconst d_X11_isFlow_28 (v := (0 : Int32)) (by decide +kernel) ?_
        obtain rfl := Option.some.inj e
        exact g_iret d_X11_isFlow_29 rfl rfl
      · replace e := (if_neg c6).symm.trans e
        refine r_iconst d_X11_isFlow_24 (v := (1 : Int32)) (by decide +kernel) ?_
        refine r_goto d_X11_isFlow_25 (tgt := 29) (by decide) ?_
        obtain rfl := Option.some.inj e
        exact g_iret d_X11_isFlow_29 rfl rfl

theorem c_X11_isFlow {G : Gd} {j : Nat} (hj : 1 ≤ j) {l0 : Nat} {l1 : Int32} {h : Hp} {o : (Int32 × Hp)} (e : f_X11_isFlow l0 l1 h = some o) : Cal G j Y_X11_isFlow [zrf (l0), .int (l1)] h (some (.int o.1)) o.2 := Cal.of (n := 0) (I := false) (by first | exact Or.inl (by decide +kernel) | exact Or.inr (by decide +kernel)) (by decide) (by simp [lg_sl, zrf_cat, cat_int, cat_long]) (f_X11_isFlow_ok hj _ _ _ h o (by simp [lv_args, zlk, zrf_cat, cat_int, cat_long]) (by simp [lv_args, zlk, zrf_cat, cat_int, cat_long]) e)
def f_X11_comes (l0 : Nat) (l1 : Int32) (l2 : Int32) (l3 : Int32) (l4 : Int32) (l5 : Int32) (h : Hp) : Option (Int32 × Hp) := ck (isO (h) (l0) 12) ((f_X11_makes (f_losesD 30) (l0) (l1) (l2) (l3) (l4) (l5) (h)).bind (fun q1 => if (q1.1) = (0) then (some ((0 : Int32), q1.2)) else (ck (isO (q1.2) (l0) 12) ((f_X11_goesOn (f_losesD 30) (l0) (l1) (q1.2)).bind (fun q4 => some ((1 : Int32), q4.2))))))
theorem f_X11_comes_ok {G : Gd} {d : Nat} (hj : 645 ≤ d) : ∀ (l0 : Nat) (l1 : Int32) (l2 : Int32) (l3 : Int32) (l4 : Int32) (l5 : Int32) (L : List (Nat × Value)) (h : Hp) (o : (Int32 × Hp)), zlk L 0 = some (zrf (l0)) → zlk L 1 = some (.int (l1)) → zlk L 2 = some (.int (l2)) → zlk L 3 = some (.int (l3)) → zlk L 4 = some (.int (l4)) → zlk L 5 = some (.int (l5)) → f_X11_comes l0 l1 l2 l3 l4 l5 h = some o → Ev G M_X11_comes d 0 L [] h (Ret Y_X11_comes (some (.int o.1)) o.2) := by
  intro l0 l1 l2 l3 l4 l5 L h o g0 g1 g2 g3 g4 g5 e
  unfold f_X11_comes at e
  refine g_ald_n d_X11_comes_0 rfl g0 ?_
  refine r_iload_n d_X11_comes_1 rfl g1 ?_
  refine r_iload_n d_X11_comes_2 rfl g2 ?_
  refine r_iload_n d_X11_comes_3 rfl g3 ?_
  refine r_iload d_X11_comes_4 g4 ?_
  refine r_iload d_X11_comes_6 g5 ?_
  replace e := ckd e
  obtain ⟨k2, e⟩ := e
  replace e := bd e
  obtain ⟨q1, eq1, e⟩ := e
  refine g_callV d_X11_comes_8 vk_10_368 (as := [_, _, _, _, _]) rfl k2 rfl (by simp [zrf_cat, cat_int, cat_long]) (j := 643) (by omega) (c_X11_makes (jl := 640) (fun q => c_losesD 30 (by omega) q) (by omega) (by omega) eq1) ?_
  refine r_if_ne d_X11_comes_11 (tgt := 16) (by decide) (fun c3 => ?_) (fun c3 => ?_)
  · replace e := (if_neg c3).symm.trans e
    refine g_ald_n d_X11_comes_16 rfl g0 ?_
    refine r_iload_n d_X11_comes_17 rfl g1 ?_
    replace e := ckd e
    obtain ⟨k5, e⟩ := e
    replace e := bd e
    obtain ⟨q4, eq4, e⟩ := e
    refine g_callV d_X11_comes_18 vk_10_296 (as := [_]) rfl k5 rfl (by simp [zrf_cat, cat_int, cat_long]) (j := 644) (by omega) (c_X11_goesOn (jl := 640) (fun q => c_losesD 30 (by omega) q) (by omega) (by omega) eq4) ?_
    refine s_istore d_X11_comes_21 (by decide) (fun L g6 gK => ?_)
    refine r_iconst d_X11_comes_23 (v := (1 : Int32)) (by decide +kernel) ?_
    obtain rfl := Option.some.inj e
    exact g_iret d_X11_comes_24 rfl rfl
  · replace e := (if_pos c3).symm.trans e
    refine r_iconst d_X11_comes_14 (v := (0 : Int32)) (by decide +kernel) ?_
    obtain rfl := Option.some.inj e
    exact g_iret d_X11_comes_15 rfl rfl

theorem c_X11_comes {G : Gd} {j : Nat} (hj : 645 ≤ j) {l0 : Nat} {l1 : Int32} {l2 : Int32} {l3 : Int32} {l4 : Int32} {l5 : Int32} {h : Hp} {o : (Int32 × Hp)} (e : f_X11_comes l0 l1 l2 l3 l4 l5 h = some o) : Cal G j Y_X11_comes [zrf (l0), .int (l1), .int (l2), .int (l3), .int (l4), .int (l5)] h (some (.int o.1)) o.2 := Cal.of (n := 0) (I := false) (by first | exact Or.inl (by decide +kernel) | exact Or.inr (by decide +kernel)) (by decide) (by simp [lg_sl, zrf_cat, cat_int, cat_long]) (f_X11_comes_ok hj _ _ _ _ _ _ _ h o (by simp [lv_args, zlk, zrf_cat, cat_int, cat_long]) (by simp [lv_args, zlk, zrf_cat, cat_int, cat_long]) (by simp [lv_args, zlk, zrf_cat, cat_int, cat_long]) (by simp [lv_args, zlk, zrf_cat, cat_int, cat_long]) (by simp [lv_args, zlk, zrf_cat, cat_int, cat_long]) (by simp [lv_args, zlk, zrf_cat, cat_int, cat_long]) e)
theorem sk_10_372 : Sk "TaskWeaveModel" 372 1 Y_X11_numberOf := ⟨yk_X11_numberOf, by decide +kernel, by decide +kernel⟩
def f_X11_begins (l0 : Nat) (l1 : Int32) (l2 : Int32) (l3 : Int32) (l4 : Int32) (h : Hp) : Option (Int32 × Hp) := ck (isO (h) (l0) 12) (ck (isO (h) (zR (h) 1239 (l0)) 22) (ck (inR (l1) (zL (h) (zR (h) 1239 (l0)))) (bh ((((16 : Int32)) * (l1)) + (zE (h) (zR (h) 1239 (l0)) (l1).toNatClampNeg)) (fun x4 => ck (isO (h) (zR (h) 1207 (l0)) 22) (ck (inR (l2) (zL (h) (zR (h) 1207 (l0)))) (ck (isO (h) (zR (h) 1208 (l0)) 22) (ck (inR (l2) (zL (h) (zR (h) 1208 (l0)))) ((f_X11_does (f_losesD 30) (l0) (l1) (zE (h) (zR (h) 1239 (l0)) (l1).toNatClampNeg) ((0 : Int32)) ((zE (h) (zR (h) 1207 (l0)) (l2).toNatClampNeg) + (((8 : Int32)) * (zE (h) (zR (h) 1208 (l0)) (l2).toNatClampNeg))) (l3) (l4) (h)).bind (fun q9 => if (q9.1) = (0) then (some ((-1 : Int32), q9.2)) else (ck (isO (q9.2) (l0) 12) (ck (isO (q9.2) (zR (q9.2) 1239 (l0)) 22) (ck (inR (l1) (zL (q9.2) (zR (q9.2) 1239 (l0)))) (bh (pE (q9.2) (zR (q9.2) 1239 (l0)) (l1).toNatClampNeg ((zE (q9.2) (zR (q9.2) 1239 (l0)) (l1).toNatClampNeg) + ((1 : Int32)))) (fun h14 => ck (isO (h14) (zR (h14) 1241 (l0)) 22) (ck (inR (x4) (zL (h14) (zR (h14) 1241 (l0)))) (bh (pE (h14) (zR (h14) 1241 (l0)) (x4).toNatClampNeg ((0 : Int32))) (fun h17 => ck (isO (h17) (zR (h17) 1252 (l0)) 22) (ck (inR (x4) (zL (h17) (zR (h17) 1252 (l0)))) (bh (pE (h17) (zR (h17) 1252 (l0)) (x4).toNatClampNeg ((0 : Int32))) (fun h20 => ck (isO (h20) (zR (h20) 1237 (l0)) 22) (ck (inR (l1) (zL (h20) (zR (h20) 1237 (l0)))) (bh ((((5 : Int32)) * (l1)) + (zE (h20) (zR (h20) 1237 (l0)) (l1).toNatClampNeg)) (fun x23 => ck (isO (h20) (zR (h20) 1231 (l0)) 22) (ck (inR (x23) (zL (h20) (zR (h20) 1231 (l0)))) (ck (isO (h20) (zR (h20) 1230 (l0)) 22) (ck (inR (((((8192 : Int32)) * (x23)) + (zE (h20) (zR (h20) 1231 (l0)) (x23).toNatClampNeg)) - ((1 : Int32))) (zL (h20) (zR (h20) 1230 (l0)))) ((f_X11_keep (l0) (x4) (zE (h20) (zR (h20) 1230 (l0)) (((((8192 : Int32)) * (x23)) + (zE (h20) (zR (h20) 1231 (l0)) (x23).toNatClampNeg)) - ((1 : Int32))).toNatClampNeg) ((-1 : Int32)) (h20)).bind (fun q28 => ck (isO (q28) (l0) 12) ((f_X11_goThrough (l0) (x4) (q28)).bind (fun q29 => ck (isO (q29) (l0) 12) ((f_X11_goesOn (f_losesD 30) (l0) (x4) (q29)).bind (fun q31 => (f_X11_numberOf (x4) (q31.2)).bind (fun q33 => some (q33.1, q33.2))))))))))))))))))))))))))))))))))
theorem f_X11_begins_ok {G : Gd} {d : Nat} (hj : 645 ≤ d) : ∀ (l0 : Nat) (l1 : Int32) (l2 : Int32) (l3 : Int32) (l4 : Int32) (L : List (Nat × Value)) (h : Hp) (o : (Int32 × Hp)), zlk L 0 = some (zrf (l0)) → zlk L 1 = some (.int (l1)) → zlk L 2 = some (.int (l2)) → zlk L 3 = some (.int (l3)) → zlk L 4 = some (.int (l4)) → f_X11_begins l0 l1 l2 l3 l4 h = some o → Ev G M_X11_begins d 0 L [] h (Ret Y_X11_begins (some (.int o.1)) o.2) := by
  intro l0 l1 l2 l3 l4 L h o g0 g1 g2 g3 g4 e
  unfold f_X11_begins at e
  refine r_bipush d_X11_begins_0 (v := (16 : Int32)) (by decide +kernel) ?_
  refine r_iload_n d_X11_begins_2 rfl g1 ?_
  refine r_imul d_X11_begins_3 ?_
  refine g_ald_n d_X11_begins_4 rfl g0 ?_
  replace e := ckd e
  obtain ⟨k1, e⟩ := e
  refine g_getR d_X11_begins_5 (f := 1239) k1 fk_10_107 rfl rfl ?_
  refine r_iload_n d_X11_begins_8 rfl g1 ?_
  replace e := ckd e
  obtain ⟨k2, e⟩ := e
  replace e := ckd e
  obtain ⟨k3, e⟩ := e
  refine g_iald d_X11_begins_9 k2 k3 rfl ?_
  refine r_iadd d_X11_begins_10 ?_
  replace e := bhd e
  obtain ⟨_, rfl, e⟩ := e
  refine s_istore d_X11_begins_11 (by decide) (fun L g5 gK => ?_)
  replace g0 := gK _ _ (by decide) (Or.inr (zrf_cat _)) g0
  replace g1 := gK _ _ (by decide) (Or.inr rfl) g1
  replace g2 := gK _ _ (by decide) (Or.inr rfl) g2
  replace g3 := gK _ _ (by decide) (Or.inr rfl) g3
  replace g4 := gK _ _ (by decide) (Or.inr rfl) g4
  refine g_ald_n d_X11_begins_13 rfl g0 ?_
  refine r_iload_n d_X11_begins_14 rfl g1 ?_
  refine g_ald_n d_X11_begins_15 rfl g0 ?_
  refine g_getR d_X11_begins_16 (f := 1239) k1 fk_10_107 rfl rfl ?_
  refine r_iload_n d_X11_begins_19 rfl g1 ?_
  refine g_iald d_X11_begins_20 k2 k3 rfl ?_
  refine r_iconst d_X11_begins_21 (v := (0 : Int32)) (by decide +kernel) ?_
  refine g_ald_n d_X11_begins_22 rfl g0 ?_
  refine g_getR d_X11_begins_23 (f := 1207) k1 fk_10_17 rfl rfl ?_
  refine r_iload_n d_X11_begins_26 rfl g2 ?_
  replace e := ckd e
  obtain ⟨k5, e⟩ := e
  replace e := ckd e
  obtain ⟨k6, e⟩ := e
  refine g_iald d_X11_begins_27 k5 k6 rfl ?_
  refine r_bipush d_X11_begins_28 (v := (8 : Int32)) (by decide +kernel) ?_
  refine g_ald_n d_X11_begins_30 rfl g0 ?_
  refine g_getR d_X11_begins_31 (f := 1208) k1 fk_10_20 rfl rfl ?_
  refine r_iload_n d_X11_begins_34 rfl g2 ?_
  replace e := ckd e
  obtain ⟨k7, e⟩ := e
  replace e := ckd e
  obtain ⟨k8, e⟩ := e
  refine g_iald d_X11_begins_35 k7 k8 rfl ?_
  refine r_imul d_X11_begins_36 ?_
  refine r_iadd d_X11_begins_37 ?_
  refine r_iload_n d_X11_begins_38 rfl g3 ?_
  refine r_iload d_X11_begins_39 g4 ?_
  replace e := bd e
  obtain ⟨q9, eq9, e⟩ := e
  refine g_callV d_X11_begins_41 vk_10_364 (as := [_, _, _, _, _, _]) rfl k1 rfl (by simp [zrf_cat, cat_int, cat_long]) (j := 642) (by omega) (c_X11_does (jl := 640) (fun q => c_losesD 30 (by omega) q) (by omega) (by omega) eq9) ?_
  refine r_if_ne d_X11_begins_44 (tgt := 49) (by decide) (fun c10 => ?_) (fun c10 => ?_)
  · replace e := (if_neg c10).symm.trans e
    refine g_ald_n d_X11_begins_49 rfl g0 ?_
    replace e := ckd e
    obtain ⟨k11, e⟩ := e
    refine g_getR d_X11_begins_50 (f := 1239) k11 fk_10_107 rfl rfl ?_
    refine r_iload_n d_X11_begins_53 rfl g1 ?_
    refine r_dup2 d_X11_begins_54 rfl (zrf_cat _) ?_
    replace e := ckd e
    obtain ⟨k12, e⟩ := e
    replace e := ckd e
    obtain ⟨k13, e⟩ := e
    refine g_iald d_X11_begins_55 k12 k13 rfl ?_
    refine r_iconst d_X11_begins_56 (v := (1 : Int32)) (by decide +kernel) ?_
    refine r_iadd d_X11_begins_57 ?_
    refine g_iast d_X11_begins_58 k12 k13 ?_
    replace e := bhd e
    obtain ⟨_, rfl, e⟩ := e
    refine g_ald_n d_X11_begins_59 rfl g0 ?_
    refine g_getR d_X11_begins_60 (f := 1241) (tO_pE k11) fk_10_113 rfl rfl ?_
    refine r_iload d_X11_begins_63 g5 ?_
    refine r_iconst d_X11_begins_65 (v := (0 : Int32)) (by decide +kernel) ?_
    replace e := ckd e
    obtain ⟨k15, e⟩ := e
    replace e := ckd e
    obtain ⟨k16, e⟩ := e
    refine g_iast d_X11_begins_66 k15 k16 ?_
    replace e := bhd e
    obtain ⟨_, rfl, e⟩ := e
    refine g_ald_n d_X11_begins_67 rfl g0 ?_
    refine g_getR d_X11_begins_68 (f := 1252) (tO_pE (tO_pE k11)) fk_10_146 rfl rfl ?_
    refine r_iload d_X11_begins_71 g5 ?_
    refine r_iconst d_X11_begins_73 (v := (0 : Int32)) (by decide +kernel) ?_
    replace e := ckd e
    obtain ⟨k18, e⟩ := e
    replace e := ckd e
    obtain ⟨k19, e⟩ := e
    refine g_iast d_X11_begins_74 k18 k19 ?_
    replace e := bhd e
    obtain ⟨_, rfl, e⟩ := e
    refine r_iconst d_X11_begins_75 (v := (5 : Int32)) (by decide +kernel) ?_
    refine r_iload_n d_X11_begins_76 rfl g1 ?_
    refine r_imul d_X11_begins_77 ?_
    refine g_ald_n d_X11_begins_78 rfl g0 ?_
    refine g_getR d_X11_begins_79 (f := 1237) (tO_pE (tO_pE (tO_pE k11))) fk_10_101 rfl rfl ?_
    refine r_iload_n d_X11_begins_82 rfl g1 ?_
    replace e := ckd e
    obtain ⟨k21, e⟩ := e
    replace e := ckd e
    obtain ⟨k22, e⟩ := e
    refine g_iald d_X11_begins_83 k21 k22 rfl ?_
    refine r_iadd d_X11_begins_84 ?_
    replace e := bhd e
    obtain ⟨_, rfl, e⟩ := e
    refine s_istore d_X11_begins_85 (by decide) (fun L g6 gK => ?_)
    replace g0 := gK _ _ (by decide) (Or.inr (zrf_cat _)) g0
    replace g5 := gK _ _ (by decide) (Or.inr rfl) g5
    refine g_ald_n d_X11_begins_87 rfl g0 ?_
    refine r_iload d_X11_begins_88 g5 ?_
    refine g_ald_n d_X11_begins_90 rfl g0 ?_
    refine g_getR d_X11_begins_91 (f := 1230) (tO_pE (tO_pE (tO_pE k11))) fk_10_80 rfl rfl ?_
    refine r_sipush d_X11_begins_94 (v := (8192 : Int32)) (by decide +kernel) ?_
    refine r_iload d_X11_begins_97 g6 ?_
    refine r_imul d_X11_begins_99 ?_
    refine g_ald_n d_X11_begins_100 rfl g0 ?_
    refine g_getR d_X11_begins_101 (f := 1231) (tO_pE (tO_pE (tO_pE k11))) fk_10_83 rfl rfl ?_
    refine r_iload d_X11_begins_104 g6 ?_
    replace e := ckd e
    obtain ⟨k24, e⟩ := e
    replace e := ckd e
    obtain ⟨k25, e⟩ := e
    refine g_iald d_X11_begins_106 k24 k25 rfl ?_
    refine r_iadd d_X11_begins_107 ?_
    refine r_iconst d_X11_begins_108 (v := (1 : Int32)) (by decide +kernel) ?_
    refine r_isub d_X11_begins_109 ?_
    replace e := ckd e
    obtain ⟨k26, e⟩ := e
    replace e := ckd e
    obtain ⟨k27, e⟩ := e
    refine g_iald d_X11_begins_110 k26 k27 rfl ?_
    refine r_iconst d_X11_begins_111 (v := (-1 : Int32)) (by decide +kernel) ?_
    replace e := bd e
    obtain ⟨q28, eq28, e⟩ := e
    refine g_callV d_X11_begins_112 vk_10_299 (as := [_, _, _]) rfl (tO_pE (tO_pE (tO_pE k11))) rfl (by simp [zrf_cat, cat_int, cat_long]) (j := 4) (by omega) (c_X11_keep (by omega) eq28) ?_
    refine g_ald_n d_X11_begins_115 rfl g0 ?_
    refine r_iload d_X11_begins_116 g5 ?_
    replace e := ckd e
    obtain ⟨k30, e⟩ := e
    replace e := bd e
    obtain ⟨q29, eq29, e⟩ := e
    refine g_callV d_X11_begins_118 vk_10_293 (as := [_]) rfl k30 rfl (by simp [zrf_cat, cat_int, cat_long]) (j := 6) (by omega) (c_X11_goThrough (by omega) eq29) ?_
    refine g_ald_n d_X11_begins_121 rfl g0 ?_
    refine r_iload d_X11_begins_122 g5 ?_
    replace e := ckd e
    obtain ⟨k32, e⟩ := e
    replace e := bd e
    obtain ⟨q31, eq31, e⟩ := e
    refine g_callV d_X11_begins_124 vk_10_296 (as := [_]) rfl k32 rfl (by simp [zrf_cat, cat_int, cat_long]) (j := 644) (by omega) (c_X11_goesOn (jl := 640) (fun q => c_losesD 30 (by omega) q) (by omega) (by omega) eq31) ?_
    refine s_istore d_X11_begins_127 (by decide) (fun L g7 gK => ?_)
    replace g5 := gK _ _ (by decide) (Or.inr rfl) g5
    refine r_iload d_X11_begins_129 g5 ?_
    replace e := bd e
    obtain ⟨q33, eq33, e⟩ := e
    refine g_callS d_X11_begins_131 sk_10_372 (as := [_]) rfl rfl (by simp [zrf_cat, cat_int, cat_long]) (j := 1) (by omega) (c_X11_numberOf (by omega) eq33) ?_
    obtain rfl := Option.some.inj e
    exact g_iret d_X11_begins_134 rfl rfl
  · replace e := (if_pos c10).symm.trans e
    refine r_iconst d_X11_begins_47 (v := (-1 : Int32)) (by decide +kernel) ?_
    obtain rfl := Option.some.inj e
    exact g_iret d_X11_begins_48 rfl rfl

theorem c_X11_begins {G : Gd} {j : Nat} (hj : 645 ≤ j) {l0 : Nat} {l1 : Int32} {l2 : Int32} {l3 : Int32} {l4 : Int32} {h : Hp} {o : (Int32 × Hp)} (e : f_X11_begins l0 l1 l2 l3 l4 h = some o) : Cal G j Y_X11_begins [zrf (l0), .int (l1), .int (l2), .int (l3), .int (l4)] h (some (.int o.1)) o.2 := Cal.of (n := 0) (I := false) (by first | exact Or.inl (by decide +kernel) | exact Or.inr (by decide +kernel)) (by decide) (by simp [lg_sl, zrf_cat, cat_int, cat_long]) (f_X11_begins_ok hj _ _ _ _ _ _ h o (by simp [lv_args, zlk, zrf_cat, cat_int, cat_long]) (by simp [lv_args, zlk, zrf_cat, cat_int, cat_long]) (by simp [lv_args, zlk, zrf_cat, cat_int, cat_long]) (by simp [lv_args, zlk, zrf_cat, cat_int, cat_long]) (by simp [lv_args, zlk, zrf_cat, cat_int, cat_long]) e)
def f_X11_withOrigin_2 : Nat → Nat → Int32 → Int32 → Int32 → Hp → Option (Int32 × Hp)
  | 0, _, _, _, _, _ => none
  | n + 1, l0, l1, l2, l3, h => ck (isO (h) (l0) 12) (ck (isO (h) (zR (h) 1239 (l0)) 22) (ck (inR (l1) (zL (h) (zR (h) 1239 (l0)))) (if (zE (h) (zR (h) 1239 (l0)) (l1).toNatClampNeg) ≤ (l3) then (some ((-1 : Int32), h)) else ((f_X11_origin (l0) ((((16 : Int32)) * (l1)) + (l3)) (h)).bind (fun q5 => if (q5.1) = (l2) then (some ((((16 : Int32)) * (l1)) + (l3), q5.2)) else (bh ((l3) + (1 : Int32)) (fun x7 => f_X11_withOrigin_2 n (l0) (l1) (l2) (x7) (q5.2))))))))
theorem f_X11_withOrigin_2_ok {G : Gd} {d : Nat} (hj : 3 ≤ d) : ∀ (n : Nat) (l0 : Nat) (l1 : Int32) (l2 : Int32) (l3 : Int32) (L : List (Nat × Value)) (h : Hp) (o : (Int32 × Hp)), zlk L 0 = some (zrf (l0)) → zlk L 1 = some (.int (l1)) → zlk L 2 = some (.int (l2)) → zlk L 3 = some (.int (l3)) → f_X11_withOrigin_2 n l0 l1 l2 l3 h = some o → Ev G M_X11_withOrigin d 2 L [] h (Ret Y_X11_withOrigin (some (.int o.1)) o.2) := by
  intro n
  induction n with
  | zero =>
    intro l0 l1 l2 l3 L h o g0 g1 g2 g3 e
    cases e
  | succ n ih =>
    intro l0 l1 l2 l3 L h o g0 g1 g2 g3 e
    unfold f_X11_withOrigin_2 at e
    refine r_iload_n d_X11_withOrigin_2 rfl g3 ?_
    refine g_ald_n d_X11_withOrigin_3 rfl g0 ?_
    replace e := ckd e
    obtain ⟨k1, e⟩ := e
    refine g_getR d_X11_withOrigin_4 (f := 1239) k1 fk_10_107 rfl rfl ?_
    refine r_iload_n d_X11_withOrigin_7 rfl g1 ?_
    replace e := ckd e
    obtain ⟨k2, e⟩ := e
    replace e := ckd e
    obtain ⟨k3, e⟩ := e
    refine g_iald d_X11_withOrigin_8 k2 k3 rfl ?_
    refine r_icmp_ge d_X11_withOrigin_9 (tgt := 39) (by decide) (fun c4 => ?_) (fun c4 => ?_)
    · replace e := (if_pos c4).symm.trans e
      refine r_iconst d_X11_withOrigin_39 (v := (-1 : Int32)) (by decide +kernel) ?_
      obtain rfl := Option.some.inj e
      exact g_iret d_X11_withOrigin_40 rfl rfl
    · replace e := (if_neg c4).symm.trans e
      refine g_ald_n d_X11_withOrigin_12 rfl g0 ?_
      refine r_bipush d_X11_withOrigin_13 (v := (16 : Int32)) (by decide +kernel) ?_
      refine r_iload_n d_X11_withOrigin_15 rfl g1 ?_
      refine r_imul d_X11_withOrigin_16 ?_
      refine r_iload_n d_X11_withOrigin_17 rfl g3 ?_
      refine r_iadd d_X11_withOrigin_18 ?_
      replace e := bd e
      obtain ⟨q5, eq5, e⟩ := e
      refine g_callV d_X11_withOrigin_19 vk_10_309 (as := [_]) rfl k1 rfl (by simp [zrf_cat, cat_int, cat_long]) (j := 2) (by omega) (c_X11_origin (by omega) eq5) ?_
      refine r_iload_n d_X11_withOrigin_22 rfl g2 ?_
      refine r_icmp_ne d_X11_withOrigin_23 (tgt := 33) (by decide) (fun c6 => ?_) (fun c6 => ?_)
      · replace e := (if_neg c6).symm.trans e
        replace e := bhd e
        obtain ⟨_, rfl, e⟩ := e
        refine s_iinc d_X11_withOrigin_33 g3 (w := (1 : Int32)) (by decide +kernel) (by decide) (fun L g3 gK => ?_)
        replace g0 := gK _ _ (by decide) (Or.inr (zrf_cat _)) g0
        replace g1 := gK _ _ (by decide) (Or.inr rfl) g1
        replace g2 := gK _ _ (by decide) (Or.inr rfl) g2
        refine r_goto d_X11_withOrigin_36 (tgt := 2) (by decide) ?_
        exact ih _ _ _ _ _ _ _ g0 g1 g2 g3 e
      · replace e := (if_pos c6).symm.trans e
        refine r_bipush d_X11_withOrigin_26 (v := (16 : Int32)) (by decide +kernel) ?_
        refine r_iload_n d_X11_withOrigin_28 rfl g1 ?_
        refine r_imul d_X11_withOrigin_29 ?_
        refine r_iload_n d_X11_withOrigin_30 rfl g3 ?_
        refine r_iadd d_X11_withOrigin_31 ?_
        obtain rfl := Option.some.inj e
        exact g_iret d_X11_withOrigin_32 rfl rfl

def f_X11_withOrigin (l0 : Nat) (l1 : Int32) (l2 : Int32) (h : Hp) : Option (Int32 × Hp) := f_X11_withOrigin_2 fz (l0) (l1) (l2) ((0 : Int32)) (h)
theorem f_X11_withOrigin_ok {G : Gd} {d : Nat} (hj : 3 ≤ d) : ∀ (l0 : Nat) (l1 : Int32) (l2 : Int32) (L : List (Nat × Value)) (h : Hp) (o : (Int32 × Hp)), zlk L 0 = some (zrf (l0)) → zlk L 1 = some (.int (l1)) → zlk L 2 = some (.int (l2)) → f_X11_withOrigin l0 l1 l2 h = some o → Ev G M_X11_withOrigin d 0 L [] h (Ret Y_X11_withOrigin (some (.int o.1)) o.2) := by
  intro l0 l1 l2 L h o g0 g1 g2 e
  unfold f_X11_withOrigin at e
  refine r_iconst d_X11_withOrigin_0 (v := (0 : Int32)) (by decide +kernel) ?_
  refine s_istore_n d_X11_withOrigin_1 rfl (by decide) (fun L g3 gK => ?_)
  replace g0 := gK _ _ (by decide) (Or.inr (zrf_cat _)) g0
  replace g1 := gK _ _ (by decide) (Or.inr rfl) g1
  replace g2 := gK _ _ (by decide) (Or.inr rfl) g2
  exact f_X11_withOrigin_2_ok hj _ _ _ _ _ _ _ _ g0 g1 g2 g3 e

theorem c_X11_withOrigin {G : Gd} {j : Nat} (hj : 3 ≤ j) {l0 : Nat} {l1 : Int32} {l2 : Int32} {h : Hp} {o : (Int32 × Hp)} (e : f_X11_withOrigin l0 l1 l2 h = some o) : Cal G j Y_X11_withOrigin [zrf (l0), .int (l1), .int (l2)] h (some (.int o.1)) o.2 := Cal.of (n := 0) (I := false) (by first | exact Or.inl (by decide +kernel) | exact Or.inr (by decide +kernel)) (by decide) (by simp [lg_sl, zrf_cat, cat_int, cat_long]) (f_X11_withOrigin_ok hj _ _ _ _ h o (by simp [lv_args, zlk, zrf_cat, cat_int, cat_long]) (by simp [lv_args, zlk, zrf_cat, cat_int, cat_long]) (by simp [lv_args, zlk, zrf_cat, cat_int, cat_long]) e)
def f_X11_hasSignal_44 (K2 : Nat → Int32 → Int32 → Int32 → Hp → Option (Int32 × Hp)) (l0 : Nat) (l1 : Int32) (l2 : Int32) (l3 : Int32) (h : Hp) : Option (Int32 × Hp) := bh ((l3) + (1 : Int32)) (fun x14 => K2 (l0) (l1) (l2) (x14) (h))
theorem f_X11_hasSignal_44_ok {G : Gd} {d : Nat} (K2 : Nat → Int32 → Int32 → Int32 → Hp → Option (Int32 × Hp)) (hj : 2 ≤ d) (hK2 : ∀ (l0 : Nat) (l1 : Int32) (l2 : Int32) (l3 : Int32) (L : List (Nat × Value)) (h : Hp) (o : (Int32 × Hp)), zlk L 0 = some (zrf (l0)) → zlk L 1 = some (.int (l1)) → zlk L 2 = some (.int (l2)) → zlk L 3 = some (.int (l3)) → K2 l0 l1 l2 l3 h = some o → Ev G M_X11_hasSignal d 2 L [] h (Ret Y_X11_hasSignal (some (.int o.1)) o.2)) : ∀ (l0 : Nat) (l1 : Int32) (l2 : Int32) (l3 : Int32) (L : List (Nat × Value)) (h : Hp) (o : (Int32 × Hp)), zlk L 0 = some (zrf (l0)) → zlk L 1 = some (.int (l1)) → zlk L 2 = some (.int (l2)) → zlk L 3 = some (.int (l3)) → f_X11_hasSignal_44 K2 l0 l1 l2 l3 h = some o → Ev G M_X11_hasSignal d 44 L [] h (Ret Y_X11_hasSignal (some (.int o.1)) o.2) := by
  intro l0 l1 l2 l3 L h o g0 g1 g2 g3 e
  unfold f_X11_hasSignal_44 at e
  replace e := bhd e
  obtain ⟨_, rfl, e⟩ := e
  refine s_iinc d_X11_hasSignal_44 g3 (w := (1 : Int32)) (by decide +kernel) (by decide) (fun L g3 gK => ?_)
  replace g0 := gK _ _ (by decide) (Or.inr (zrf_cat _)) g0
  replace g1 := gK _ _ (by decide) (Or.inr rfl) g1
  replace g2 := gK _ _ (by decide) (Or.inr rfl) g2
  refine r_goto d_X11_hasSignal_47 (tgt := 2) (by decide) ?_
  exact hK2 _ _ _ _ _ _ _ g0 g1 g2 g3 e

def f_X11_hasSignal_2 : Nat → Nat → Int32 → Int32 → Int32 → Hp → Option (Int32 × Hp)
  | 0, _, _, _, _, _ => none
  | n + 1, l0, l1, l2, l3, h => ck (isO (h) (l0) 12) (ck (isO (h) (zR (h) 1241 (l0)) 22) (ck (inR (l1) (zL (h) (zR (h) 1241 (l0)))) (if (zE (h) (zR (h) 1241 (l0)) (l1).toNatClampNeg) ≤ (l3) then (some ((0 : Int32), h)) else ((f_X11_event (l0) (l1) (l3) (h)).bind (fun q5 => ck (isO (q5.2) (l0) 12) ((f_X11_kindOf (l0) (q5.1) (q5.2)).bind (fun q6 => if (q6.1) = ((8 : Int32)) then (ck (isO (q6.2) (l0) 12) ((f_X11_event (l0) (l1) (l3) (q6.2)).bind (fun q10 => ck (isO (q10.2) (zR (q6.2) 1229 (l0)) 22) (ck (inR (q10.1) (zL (q10.2) (zR (q6.2) 1229 (l0)))) (if (zE (q10.2) (zR (q6.2) 1229 (l0)) (q10.1).toNatClampNeg) = (l2) then (some ((1 : Int32), q10.2)) else (f_X11_hasSignal_44 (f_X11_hasSignal_2 n) (l0) (l1) (l2) (l3) (q10.2))))))) else (f_X11_hasSignal_44 (f_X11_hasSignal_2 n) (l0) (l1) (l2) (l3) (q6.2)))))))))
theorem f_X11_hasSignal_2_ok {G : Gd} {d : Nat} (hj : 2 ≤ d) : ∀ (n : Nat) (l0 : Nat) (l1 : Int32) (l2 : Int32) (l3 : Int32) (L : List (Nat × Value)) (h : Hp) (o : (Int32 × Hp)), zlk L 0 = some (zrf (l0)) → zlk L 1 = some (.int (l1)) → zlk L 2 = some (.int (l2)) → zlk L 3 = some (.int (l3)) → f_X11_hasSignal_2 n l0 l1 l2 l3 h = some o → Ev G M_X11_hasSignal d 2 L [] h (Ret Y_X11_hasSignal (some (.int o.1)) o.2) := by
  intro n
  induction n with
  | zero =>
    intro l0 l1 l2 l3 L h o g0 g1 g2 g3 e
    cases e
  | succ n ih =>
    intro l0 l1 l2 l3 L h o g0 g1 g2 g3 e
    unfold f_X11_hasSignal_2 at e
    refine r_iload_n d_X11_hasSignal_2 rfl g3 ?_
    refine g_ald_n d_X11_hasSignal_3 rfl g0 ?_
    replace e := ckd e
    obtain ⟨k1, e⟩ := e
    refine g_getR d_X11_hasSignal_4 (f := 1241) k1 fk_10_113 rfl rfl ?_
    refine r_iload_n d_X11_hasSignal_7 rfl g1 ?_
    replace e := ckd e
    obtain ⟨k2, e⟩ := e
    replace e := ckd e
    obtain ⟨k3, e⟩ := e
    refine g_iald d_X11_hasSignal_8 k2 k3 rfl ?_
    refine r_icmp_ge d_X11_hasSignal_9 (tgt := 50) (by decide) (fun c4 => ?_) (fun c4 => ?_)
    · replace e := (if_pos c4).symm.trans e
      refine r_iconst d_X11_hasSignal_50 (v := (0 : Int32)) (by decide +kernel) ?_
      obtain rfl := Option.some.inj e
      exact g_iret d_X11_hasSignal_51 rfl rfl
    · replace e := (if_neg c4).symm.trans e
      refine g_ald_n d_X11_hasSignal_12 rfl g0 ?_
      refine g_ald_n d_X11_hasSignal_13 rfl g0 ?_
      refine r_iload_n d_X11_hasSignal_14 rfl g1 ?_
      refine r_iload_n d_X11_hasSignal_15 rfl g3 ?_
      replace e := bd e
      obtain ⟨q5, eq5, e⟩ := e
      refine g_callV d_X11_hasSignal_16 vk_10_305 (as := [_, _]) rfl k1 rfl (by simp [zrf_cat, cat_int, cat_long]) (j := 1) (by omega) (c_X11_event (by omega) eq5) ?_
      replace e := ckd e
      obtain ⟨k7, e⟩ := e
      replace e := bd e
      obtain ⟨q6, eq6, e⟩ := e
      refine g_callV d_X11_hasSignal_19 vk_10_286 (as := [_]) rfl k7 rfl (by simp [zrf_cat, cat_int, cat_long]) (j := 1) (by omega) (c_X11_kindOf (by omega) eq6) ?_
      refine r_bipush d_X11_hasSignal_22 (v := (8 : Int32)) (by decide +kernel) ?_
      refine r_icmp_ne d_X11_hasSignal_24 (tgt := 44) (by decide) (fun c8 => ?_) (fun c8 => ?_)
      · replace e := (if_neg c8).symm.trans e
        exact f_X11_hasSignal_44_ok _ hj ih _ _ _ _ _ _ _ g0 g1 g2 g3 e
      · replace e := (if_pos c8).symm.trans e
        refine g_ald_n d_X11_hasSignal_27 rfl g0 ?_
        replace e := ckd e
        obtain ⟨k9, e⟩ := e
        refine g_getR d_X11_hasSignal_28 (f := 1229) k9 fk_10_76 rfl rfl ?_
        refine g_ald_n d_X11_hasSignal_31 rfl g0 ?_
        refine r_iload_n d_X11_hasSignal_32 rfl g1 ?_
        refine r_iload_n d_X11_hasSignal_33 rfl g3 ?_
        replace e := bd e
        obtain ⟨q10, eq10, e⟩ := e
        refine g_callV d_X11_hasSignal_34 vk_10_305 (as := [_, _]) rfl k9 rfl (by simp [zrf_cat, cat_int, cat_long]) (j := 1) (by omega) (c_X11_event (by omega) eq10) ?_
        replace e := ckd e
        obtain ⟨k11, e⟩ := e
        replace e := ckd e
        obtain ⟨k12, e⟩ := e
        refine g_iald d_X11_hasSignal_37 k11 k12 rfl ?_
        refine r_iload_n d_X11_hasSignal_38 rfl g2 ?_
        refine r_icmp_ne d_X11_hasSignal_39 (tgt := 44) (by decide) (fun c13 => ?_) (fun c13 => ?_)
        · replace e := (if_neg c13).symm.trans e
          exact f_X11_hasSignal_44_ok _ hj ih _ _ _ _ _ _ _ g0 g1 g2 g3 e
        · replace e := (if_pos c13).symm.trans e
          refine r_iconst d_X11_hasSignal_42 (v := (1 : Int32)) (by decide +kernel) ?_
          obtain rfl := Option.some.inj e
          exact g_iret d_X11_hasSignal_43 rfl rfl

def f_X11_hasSignal (l0 : Nat) (l1 : Int32) (l2 : Int32) (h : Hp) : Option (Int32 × Hp) := f_X11_hasSignal_2 fz (l0) (l1) (l2) ((0 : Int32)) (h)
theorem f_X11_hasSignal_ok {G : Gd} {d : Nat} (hj : 2 ≤ d) : ∀ (l0 : Nat) (l1 : Int32) (l2 : Int32) (L : List (Nat × Value)) (h : Hp) (o : (Int32 × Hp)), zlk L 0 = some (zrf (l0)) → zlk L 1 = some (.int (l1)) → zlk L 2 = some (.int (l2)) → f_X11_hasSignal l0 l1 l2 h = some o → Ev G M_X11_hasSignal d 0 L [] h (Ret Y_X11_hasSignal (some (.int o.1)) o.2) := by
  intro l0 l1 l2 L h o g0 g1 g2 e
  unfold f_X11_hasSignal at e
  refine r_iconst d_X11_hasSignal_0 (v := (0 : Int32)) (by decide +kernel) ?_
  refine s_istore_n d_X11_hasSignal_1 rfl (by decide) (fun L g3 gK => ?_)
  replace g0 := gK _ _ (by decide) (Or.inr (zrf_cat _)) g0
  replace g1 := gK _ _ (by decide) (Or.inr rfl) g1
  replace g2 := gK _ _ (by decide) (Or.inr rfl) g2
  exact f_X11_hasSignal_2_ok hj _ _ _ _ _ _ _ _ g0 g1 g2 g3 e

theorem c_X11_hasSignal {G : Gd} {j : Nat} (hj : 2 ≤ j) {l0 : Nat} {l1 : Int32} {l2 : Int32} {h : Hp} {o : (Int32 × Hp)} (e : f_X11_hasSignal l0 l1 l2 h = some o) : Cal G j Y_X11_hasSignal [zrf (l0), .int (l1), .int (l2)] h (some (.int o.1)) o.2 := Cal.of (n := 0) (I := false) (by first | exact Or.inl (by decide +kernel) | exact Or.inr (by decide +kernel)) (by decide) (by simp [lg_sl, zrf_cat, cat_int, cat_long]) (f_X11_hasSignal_ok hj _ _ _ _ h o (by simp [lv_args, zlk, zrf_cat, cat_int, cat_long]) (by simp [lv_args, zlk, zrf_cat, cat_int, cat_long]) (by simp [lv_args, zlk, zrf_cat, cat_int, cat_long]) e)
theorem vk_10_375 : Vk "TaskWeaveModel" 375 2 12 Y_X11_withOrigin := ⟨yk_X11_withOrigin, by decide +kernel, by decide +kernel, by decide +kernel, by decide⟩
theorem vk_10_378 : Vk "TaskWeaveModel" 378 4 12 Y_X11_begins := ⟨yk_X11_begins, by decide +kernel, by decide +kernel, by decide +kernel, by decide⟩
def f_X11_start (l0 : Nat) (l1 : Int32) (l2 : Int32) (l3 : Int32) (h : Hp) : Option (Int32 × Hp) := ck (isO (h) (l0) 12) (bh (pI (h) 1200 (l0) ((0 : Int32))) (fun h2 => bh ((l1) &&& ((3 : Int32))) (fun x3 => if (l1) < (0) then (some ((-1 : Int32), h2)) else (ck (isO (h2) (zR (h2) 1237 (l0)) 22) (ck (inR (x3) (zL (h2) (zR (h2) 1237 (l0)))) (if (zE (h2) (zR (h2) 1237 (l0)) (x3).toNatClampNeg) = ((-1 : Int32)) then (some ((-1 : Int32), h2)) else ((f_X11_withOrigin (l0) (x3) (l1) (h2)).bind (fun q8 => if (q8.1) = ((-1 : Int32)) then ((f_X11_in (l2) ((8 : Int32)) (q8.2)).bind (fun q10 => if (q10.1) = (0) then (some ((-1 : Int32), q10.2)) else (ck (isO (q10.2) (l0) 12) (ck (isO (q10.2) (zR (q10.2) 1211 (l0)) 22) (ck (inR (l2) (zL (q10.2) (zR (q10.2) 1211 (l0)))) (if (zE (q10.2) (zR (q10.2) 1211 (l0)) (l2).toNatClampNeg) = ((-1 : Int32)) then (some ((-1 : Int32), q10.2)) else (ck (isO (q10.2) (zR (q10.2) 1239 (l0)) 22) (ck (inR (x3) (zL (q10.2) (zR (q10.2) 1239 (l0)))) (if (zE (q10.2) (zR (q10.2) 1239 (l0)) (x3).toNatClampNeg) = ((16 : Int32)) then (some ((-1 : Int32), q10.2)) else ((f_X11_begins (l0) (x3) (zE (q10.2) (zR (q10.2) 1211 (l0)) (l2).toNatClampNeg) (l3) (l1) (q10.2)).bind (fun q19 => some (q19.1, q19.2)))))))))))) else ((f_X11_numberOf (q8.1) (q8.2)).bind (fun q20 => some (q20.1, q20.2)))))))))))
theorem f_X11_start_ok {G : Gd} {d : Nat} (hj : 646 ≤ d) : ∀ (l0 : Nat) (l1 : Int32) (l2 : Int32) (l3 : Int32) (L : List (Nat × Value)) (h : Hp) (o : (Int32 × Hp)), zlk L 0 = some (zrf (l0)) → zlk L 1 = some (.int (l1)) → zlk L 2 = some (.int (l2)) → zlk L 3 = some (.int (l3)) → f_X11_start l0 l1 l2 l3 h = some o → Ev G M_X11_start d 0 L [] h (Ret Y_X11_start (some (.int o.1)) o.2) := by
  intro l0 l1 l2 l3 L h o g0 g1 g2 g3 e
  unfold f_X11_start at e
  refine g_ald_n d_X11_start_0 rfl g0 ?_
  refine r_iconst d_X11_start_1 (v := (0 : Int32)) (by decide +kernel) ?_
  replace e := ckd e
  obtain ⟨k1, e⟩ := e
  refine g_putI d_X11_start_2 (f := 1200) k1 fk_10_183 rfl (Or.inl rfl) ⟨rfl, rfl⟩ ?_
  replace e := bhd e
  obtain ⟨_, rfl, e⟩ := e
  refine r_iload_n d_X11_start_5 rfl g1 ?_
  refine r_iconst d_X11_start_6 (v := (3 : Int32)) (by decide +kernel) ?_
  refine r_iand d_X11_start_7 ?_
  replace e := bhd e
  obtain ⟨_, rfl, e⟩ := e
  refine s_istore d_X11_start_8 (by decide) (fun L g4 gK => ?_)
  replace g0 := gK _ _ (by decide) (Or.inr (zrf_cat _)) g0
  replace g1 := gK _ _ (by decide) (Or.inr rfl) g1
  replace g2 := gK _ _ (by decide) (Or.inr rfl) g2
  replace g3 := gK _ _ (by decide) (Or.inr rfl) g3
  refine r_iload_n d_X11_start_10 rfl g1 ?_
  refine r_if_lt d_X11_start_11 (tgt := 25) (by decide) (fun c4 => ?_) (fun c4 => ?_)
  · replace e := (if_pos c4).symm.trans e
    refine r_iconst d_X11_start_25 (v := (-1 : Int32)) (by decide +kernel) ?_
    obtain rfl := Option.some.inj e
    exact g_iret d_X11_start_26 rfl rfl
  · replace e := (if_neg c4).symm.trans e
    refine g_ald_n d_X11_start_14 rfl g0 ?_
    refine g_getR d_X11_start_15 (f := 1237) (tO_pI k1) fk_10_101 rfl rfl ?_
    refine r_iload d_X11_start_18 g4 ?_
    replace e := ckd e
    obtain ⟨k5, e⟩ := e
    replace e := ckd e
    obtain ⟨k6, e⟩ := e
    refine g_iald d_X11_start_20 k5 k6 rfl ?_
    refine r_iconst d_X11_start_21 (v := (-1 : Int32)) (by decide +kernel) ?_
    refine r_icmp_ne d_X11_start_22 (tgt := 27) (by decide) (fun c7 => ?_) (fun c7 => ?_)
    · replace e := (if_neg c7).symm.trans e
      refine g_ald_n d_X11_start_27 rfl g0 ?_
      refine r_iload d_X11_start_28 g4 ?_
      refine r_iload_n d_X11_start_30 rfl g1 ?_
      replace e := bd e
      obtain ⟨q8, eq8, e⟩ := e
      refine g_callV d_X11_start_31 vk_10_375 (as := [_, _]) rfl (tO_pI k1) rfl (by simp [zrf_cat, cat_int, cat_long]) (j := 3) (by omega) (c_X11_withOrigin (by omega) eq8) ?_
      refine s_istore d_X11_start_34 (by decide) (fun L g5 gK => ?_)
      replace g0 := gK _ _ (by decide) (Or.inr (zrf_cat _)) g0
      replace g1 := gK _ _ (by decide) (Or.inr rfl) g1
      replace g2 := gK _ _ (by decide) (Or.inr rfl) g2
      replace g3 := gK _ _ (by decide) (Or.inr rfl) g3
      replace g4 := gK _ _ (by decide) (Or.inr rfl) g4
      refine r_iload d_X11_start_36 g5 ?_
      refine r_iconst d_X11_start_38 (v := (-1 : Int32)) (by decide +kernel) ?_
      refine r_icmp_eq d_X11_start_39 (tgt := 48) (by decide) (fun c9 => ?_) (fun c9 => ?_)
      · replace e := (if_pos c9).symm.trans e
        refine r_iload_n d_X11_start_48 rfl g2 ?_
        refine r_bipush d_X11_start_49 (v := (8 : Int32)) (by decide +kernel) ?_
        replace e := bd e
        obtain ⟨q10, eq10, e⟩ := e
        refine g_callS d_X11_start_51 sk_10_230 (as := [_, _]) rfl rfl (by simp [zrf_cat, cat_int, cat_long]) (j := 1) (by omega) (c_X11_in (by omega) eq10) ?_
        refine r_if_eq d_X11_start_54 (tgt := 79) (by decide) (fun c11 => ?_) (fun c11 => ?_)
        · replace e := (if_pos c11).symm.trans e
          refine r_iconst d_X11_start_79 (v := (-1 : Int32)) (by decide +kernel) ?_
          obtain rfl := Option.some.inj e
          exact g_iret d_X11_start_80 rfl rfl
        · replace e := (if_neg c11).symm.trans e
          refine g_ald_n d_X11_start_57 rfl g0 ?_
          replace e := ckd e
          obtain ⟨k12, e⟩ := e
          refine g_getR d_X11_start_58 (f := 1211) k12 fk_10_29 rfl rfl ?_
          refine r_iload_n d_X11_start_61 rfl g2 ?_
          replace e := ckd e
          obtain ⟨k13, e⟩ := e
          replace e := ckd e
          obtain ⟨k14, e⟩ := e
          refine g_iald d_X11_start_62 k13 k14 rfl ?_
          refine r_iconst d_X11_start_63 (v := (-1 : Int32)) (by decide +kernel) ?_
          refine r_icmp_eq d_X11_start_64 (tgt := 79) (by decide) (fun c15 => ?_) (fun c15 => ?_)
          · replace e := (if_pos c15).symm.trans e
            refine r_iconst d_X11_start_79 (v := (-1 : Int32)) (by decide +kernel) ?_
            obtain rfl := Option.some.inj e
            exact g_iret d_X11_start_80 rfl rfl
          · replace e := (if_neg c15).symm.trans e
            refine g_ald_n d_X11_start_67 rfl g0 ?_
            refine g_getR d_X11_start_68 (f := 1239) k12 fk_10_107 rfl rfl ?_
            refine r_iload d_X11_start_71 g4 ?_
            replace e := ckd e
            obtain ⟨k16, e⟩ := e
            replace e := ckd e
            obtain ⟨k17, e⟩ := e
            refine g_iald d_X11_start_73 k16 k17 rfl ?_
            refine r_bipush d_X11_start_74 (v := (16 : Int32)) (by decide +kernel) ?_
            refine r_icmp_ne d_X11_start_76 (tgt := 81) (by decide) (fun c18 => ?_) (fun c18 => ?_)
            · replace e := (if_neg c18).symm.trans e
              refine g_ald_n d_X11_start_81 rfl g0 ?_
              refine r_iload d_X11_start_82 g4 ?_
              refine g_ald_n d_X11_start_84 rfl g0 ?_
              refine g_getR d_X11_start_85 (f := 1211) k12 fk_10_29 rfl rfl ?_
              refine r_iload_n d_X11_start_88 rfl g2 ?_
              refine g_iald d_X11_start_89 k13 k14 rfl ?_
              refine r_iload_n d_X11_start_90 rfl g3 ?_
              refine r_iload_n d_X11_start_91 rfl g1 ?_
              replace e := bd e
              obtain ⟨q19, eq19, e⟩ := e
              refine g_callV d_X11_start_92 vk_10_378 (as := [_, _, _, _]) rfl k12 rfl (by simp [zrf_cat, cat_int, cat_long]) (j := 645) (by omega) (c_X11_begins (by omega) eq19) ?_
              obtain rfl := Option.some.inj e
              exact g_iret d_X11_start_95 rfl rfl
            · replace e := (if_pos c18).symm.trans e
              refine r_iconst d_X11_start_79 (v := (-1 : Int32)) (by decide +kernel) ?_
              obtain rfl := Option.some.inj e
              exact g_iret d_X11_start_80 rfl rfl
      · replace e := (if_neg c9).symm.trans e
        refine r_iload d_X11_start_42 g5 ?_
        replace e := bd e
        obtain ⟨q20, eq20, e⟩ := e
        refine g_callS d_X11_start_44 sk_10_372 (as := [_]) rfl rfl (by simp [zrf_cat, cat_int, cat_long]) (j := 1) (by omega) (c_X11_numberOf (by omega) eq20) ?_
        obtain rfl := Option.some.inj e
        exact g_iret d_X11_start_47 rfl rfl
    · replace e := (if_pos c7).symm.trans e
      refine r_iconst d_X11_start_25 (v := (-1 : Int32)) (by decide +kernel) ?_
      obtain rfl := Option.some.inj e
      exact g_iret d_X11_start_26 rfl rfl

theorem c_X11_start {G : Gd} {j : Nat} (hj : 646 ≤ j) {l0 : Nat} {l1 : Int32} {l2 : Int32} {l3 : Int32} {h : Hp} {o : (Int32 × Hp)} (e : f_X11_start l0 l1 l2 l3 h = some o) : Cal G j Y_X11_start [zrf (l0), .int (l1), .int (l2), .int (l3)] h (some (.int o.1)) o.2 := Cal.of (n := 0) (I := false) (by first | exact Or.inl (by decide +kernel) | exact Or.inr (by decide +kernel)) (by decide) (by simp [lg_sl, zrf_cat, cat_int, cat_long]) (f_X11_start_ok hj _ _ _ _ _ h o (by simp [lv_args, zlk, zrf_cat, cat_int, cat_long]) (by simp [lv_args, zlk, zrf_cat, cat_int, cat_long]) (by simp [lv_args, zlk, zrf_cat, cat_int, cat_long]) (by simp [lv_args, zlk, zrf_cat, cat_int, cat_long]) e)
def f_X11_works (l0 : Nat) (l1 : Int32) (h : Hp) : Option (Int32 × Hp) := ck (isO (h) (l0) 12) (ck (isO (h) (zR (h) 1237 (l0)) 22) (ck (inR ((l1) / ((16 : Int32))) (zL (h) (zR (h) 1237 (l0)))) (if (zE (h) (zR (h) 1237 (l0)) ((l1) / ((16 : Int32))).toNatClampNeg) = ((-1 : Int32)) then (some ((0 : Int32), h)) else (some ((1 : Int32), h)))))
theorem f_X11_works_ok {G : Gd} {d : Nat} (hj : 1 ≤ d) : ∀ (l0 : Nat) (l1 : Int32) (L : List (Nat × Value)) (h : Hp) (o : (Int32 × Hp)), zlk L 0 = some (zrf (l0)) → zlk L 1 = some (.int (l1)) → f_X11_works l0 l1 h = some o → Ev G M_X11_works d 0 L [] h (Ret Y_X11_works (some (.int o.1)) o.2) := by
  intro l0 l1 L h o g0 g1 e
  unfold f_X11_works at e
  refine g_ald_n d_X11_works_0 rfl g0 ?_
  replace e := ckd e
  obtain ⟨k1, e⟩ := e
  refine g_getR d_X11_works_1 (f := 1237) k1 fk_10_101 rfl rfl ?_
  refine r_iload_n d_X11_works_4 rfl g1 ?_
  refine r_bipush d_X11_works_5 (v := (16 : Int32)) (by decide +kernel) ?_
  refine r_idiv d_X11_works_7 (by decide +kernel) ?_
  replace e := ckd e
  obtain ⟨k2, e⟩ := e
  replace e := ckd e
  obtain ⟨k3, e⟩ := e
  refine g_iald d_X11_works_8 k2 k3 rfl ?_
  refine r_iconst d_X11_works_9 (v := (-1 : Int32)) (by decide +kernel) ?_
  refine r_icmp_eq d_X11_works_10 (tgt := 17) (by decide) (fun c4 => ?_) (fun c4 => ?_)
  · replace e := (if_pos c4).symm.trans e
    refine r_iconst d_X11_works_17 (v := (0 : Int32)) (by decide +kernel) ?_
    obtain rfl := Option.some.inj e
    exact g_iret d_X11_works_18 rfl rfl
  · replace e := (if_neg c4).symm.trans e
    refine r_iconst d_X11_works_13 (v := (1 : Int32)) (by decide +kernel) ?_
    refine r_goto d_X11_works_14 (tgt := 18) (by decide) ?_
    obtain rfl := Option.some.inj e
    exact g_iret d_X11_works_18 rfl rfl

theorem c_X11_works {G : Gd} {j : Nat} (hj : 1 ≤ j) {l0 : Nat} {l1 : Int32} {h : Hp} {o : (Int32 × Hp)} (e : f_X11_works l0 l1 h = some o) : Cal G j Y_X11_works [zrf (l0), .int (l1)] h (some (.int o.1)) o.2 := Cal.of (n := 0) (I := false) (by first | exact Or.inl (by decide +kernel) | exact Or.inr (by decide +kernel)) (by decide) (by simp [lg_sl, zrf_cat, cat_int, cat_long]) (f_X11_works_ok hj _ _ _ h o (by simp [lv_args, zlk, zrf_cat, cat_int, cat_long]) (by simp [lv_args, zlk, zrf_cat, cat_int, cat_long]) e)
theorem vk_10_382 : Vk "TaskWeaveModel" 382 1 12 Y_X11_isFlow := ⟨yk_X11_isFlow, by decide +kernel, by decide +kernel, by decide +kernel, by decide⟩
theorem sk_10_385 : Sk "TaskWeaveModel" 385 1 Y_X11_placeOf := ⟨yk_X11_placeOf, by decide +kernel, by decide +kernel⟩
theorem vk_10_388 : Vk "TaskWeaveModel" 388 1 12 Y_X11_works := ⟨yk_X11_works, by decide +kernel, by decide +kernel, by decide +kernel, by decide⟩
theorem vk_10_391 : Vk "TaskWeaveModel" 391 2 12 Y_X11_hasSignal := ⟨yk_X11_hasSignal, by decide +kernel, by decide +kernel, by decide +kernel, by decide⟩
theorem vk_10_394 : Vk "TaskWeaveModel" 394 5 12 Y_X11_comes := ⟨yk_X11_comes, by decide +kernel, by decide +kernel, by decide +kernel, by decide⟩
def f_X11_signal (l0 : Nat) (l1 : Int32) (l2 : Int32) (l3 : Int32) (h : Hp) : Option (Int32 × Hp) := ck (isO (h) (l0) 12) (bh (pI (h) 1200 (l0) ((0 : Int32))) (fun h2 => if (l1) < (0) then (some ((0 : Int32), h2)) else ((f_X11_isFlow (l0) (l2) (h2)).bind (fun q4 => if (q4.1) = (0) then (some ((0 : Int32), q4.2)) else ((f_X11_placeOf (l2) (q4.2)).bind (fun q6 => ck (isO (q6.2) (l0) 12) ((f_X11_works (l0) (q6.1) (q6.2)).bind (fun q7 => if (q7.1) = (0) then (some ((0 : Int32), q7.2)) else ((f_X11_placeOf (l2) (q7.2)).bind (fun q10 => ck (isO (q10.2) (l0) 12) ((f_X11_hasSignal (l0) (q10.1) (l1) (q10.2)).bind (fun q11 => if (q11.1) = (0) then (ck (isO (q11.2) (l0) 12) (ck (isO (q11.2) (zR (q11.2) 1243 (l0)) 22) (ck (inR (q10.1) (zL (q11.2) (zR (q11.2) 1243 (l0)))) (if (zE (q11.2) (zR (q11.2) 1243 (l0)) (q10.1).toNatClampNeg) = ((4 : Int32)) then (some ((0 : Int32), q11.2)) else ((f_X11_comes (l0) (q10.1) ((8 : Int32)) (l3) ((0 : Int32)) (l1) (q11.2)).bind (fun q18 => if (q18.1) = (0) then (some ((0 : Int32), q18.2)) else (some ((1 : Int32), q18.2)))))))) else (some ((1 : Int32), q11.2))))))))))))))
theorem f_X11_signal_ok {G : Gd} {d : Nat} (hj : 646 ≤ d) : ∀ (l0 : Nat) (l1 : Int32) (l2 : Int32) (l3 : Int32) (L : List (Nat × Value)) (h : Hp) (o : (Int32 × Hp)), zlk L 0 = some (zrf (l0)) → zlk L 1 = some (.int (l1)) → zlk L 2 = some (.int (l2)) → zlk L 3 = some (.int (l3)) → f_X11_signal l0 l1 l2 l3 h = some o → Ev G M_X11_signal d 0 L [] h (Ret Y_X11_signal (some (.int o.1)) o.2) := by
  intro l0 l1 l2 l3 L h o g0 g1 g2 g3 e
  unfold f_X11_signal at e
  refine g_ald_n d_X11_signal_0 rfl g0 ?_
  refine r_iconst d_X11_signal_1 (v := (0 : Int32)) (by decide +kernel) ?_
  replace e := ckd e
  obtain ⟨k1, e⟩ := e
  refine g_putI d_X11_signal_2 (f := 1200) k1 fk_10_183 rfl (Or.inl rfl) ⟨rfl, rfl⟩ ?_
  replace e := bhd e
  obtain ⟨_, rfl, e⟩ := e
  refine r_iload_n d_X11_signal_5 rfl g1 ?_
  refine r_if_lt d_X11_signal_6 (tgt := 28) (by decide) (fun c3 => ?_) (fun c3 => ?_)
  · replace e := (if_pos c3).symm.trans e
    refine r_iconst d_X11_signal_28 (v := (0 : Int32)) (by decide +kernel) ?_
    obtain rfl := Option.some.inj e
    exact g_iret d_X11_signal_29 rfl rfl
  · replace e := (if_neg c3).symm.trans e
    refine g_ald_n d_X11_signal_9 rfl g0 ?_
    refine r_iload_n d_X11_signal_10 rfl g2 ?_
    replace e := bd e
    obtain ⟨q4, eq4, e⟩ := e
    refine g_callV d_X11_signal_11 vk_10_382 (as := [_]) rfl (tO_pI k1) rfl (by simp [zrf_cat, cat_int, cat_long]) (j := 1) (by omega) (c_X11_isFlow (by omega) eq4) ?_
    refine r_if_eq d_X11_signal_14 (tgt := 28) (by decide) (fun c5 => ?_) (fun c5 => ?_)
    · replace e := (if_pos c5).symm.trans e
      refine r_iconst d_X11_signal_28 (v := (0 : Int32)) (by decide +kernel) ?_
      obtain rfl := Option.some.inj e
      exact g_iret d_X11_signal_29 rfl rfl
    · replace e := (if_neg c5).symm.trans e
      refine g_ald_n d_X11_signal_17 rfl g0 ?_
      refine r_iload_n d_X11_signal_18 rfl g2 ?_
      replace e := bd e
      obtain ⟨q6, eq6, e⟩ := e
      refine g_callS d_X11_signal_19 sk_10_385 (as := [_]) rfl rfl (by simp [zrf_cat, cat_int, cat_long]) (j := 1) (by omega) (c_X11_placeOf (by omega) eq6) ?_
      replace e := ckd e
      obtain ⟨k8, e⟩ := e
      replace e := bd e
      obtain ⟨q7, eq7, e⟩ := e
      refine g_callV d_X11_signal_22 vk_10_388 (as := [_]) rfl k8 rfl (by simp [zrf_cat, cat_int, cat_long]) (j := 1) (by omega) (c_X11_works (by omega) eq7) ?_
      refine r_if_ne d_X11_signal_25 (tgt := 30) (by decide) (fun c9 => ?_) (fun c9 => ?_)
      · replace e := (if_neg c9).symm.trans e
        refine r_iload_n d_X11_signal_30 rfl g2 ?_
        replace e := bd e
        obtain ⟨q10, eq10, e⟩ := e
        refine g_callS d_X11_signal_31 sk_10_385 (as := [_]) rfl rfl (by simp [zrf_cat, cat_int, cat_long]) (j := 1) (by omega) (c_X11_placeOf (by omega) eq10) ?_
        refine s_istore d_X11_signal_34 (by decide) (fun L g4 gK => ?_)
        replace g0 := gK _ _ (by decide) (Or.inr (zrf_cat _)) g0
        replace g1 := gK _ _ (by decide) (Or.inr rfl) g1
        replace g3 := gK _ _ (by decide) (Or.inr rfl) g3
        refine g_ald_n d_X11_signal_36 rfl g0 ?_
        refine r_iload d_X11_signal_37 g4 ?_
        refine r_iload_n d_X11_signal_39 rfl g1 ?_
        replace e := ckd e
        obtain ⟨k12, e⟩ := e
        replace e := bd e
        obtain ⟨q11, eq11, e⟩ := e
        refine g_callV d_X11_signal_40 vk_10_391 (as := [_, _]) rfl k12 rfl (by simp [zrf_cat, cat_int, cat_long]) (j := 2) (by omega) (c_X11_hasSignal (by omega) eq11) ?_
        refine r_if_eq d_X11_signal_43 (tgt := 48) (by decide) (fun c13 => ?_) (fun c13 => ?_)
        · replace e := (if_pos c13).symm.trans e
          refine g_ald_n d_X11_signal_48 rfl g0 ?_
          replace e := ckd e
          obtain ⟨k14, e⟩ := e
          refine g_getR d_X11_signal_49 (f := 1243) k14 fk_10_119 rfl rfl ?_
          refine r_iload d_X11_signal_52 g4 ?_
          replace e := ckd e
          obtain ⟨k15, e⟩ := e
          replace e := ckd e
          obtain ⟨k16, e⟩ := e
          refine g_iald d_X11_signal_54 k15 k16 rfl ?_
          refine r_iconst d_X11_signal_55 (v := (4 : Int32)) (by decide +kernel) ?_
          refine r_icmp_eq d_X11_signal_56 (tgt := 77) (by decide) (fun c17 => ?_) (fun c17 => ?_)
          · replace e := (if_pos c17).symm.trans e
            refine r_iconst d_X11_signal_77 (v := (0 : Int32)) (by decide +kernel) ?_
            obtain rfl := Option.some.inj e
            exact g_iret d_X11_signal_78 rfl rfl
          · replace e := (if_neg c17).symm.trans e
            refine g_ald_n d_X11_signal_59 rfl g0 ?_
            refine r_iload d_X11_signal_60 g4 ?_
            refine r_bipush d_X11_signal_62 (v := (8 : Int32)) (by decide +kernel) ?_
            refine r_iload_n d_X11_signal_64 rfl g3 ?_
            refine r_iconst d_X11_signal_65 (v := (0 : Int32)) (by decide +kernel) ?_
            refine r_iload_n d_X11_signal_66 rfl g1 ?_
            replace e := bd e
            obtain ⟨q18, eq18, e⟩ := e
            refine g_callV d_X11_signal_67 vk_10_394 (as := [_, _, _, _, _]) rfl k14 rfl (by simp [zrf_cat, cat_int, cat_long]) (j := 645) (by omega) (c_X11_comes (by omega) eq18) ?_
            refine r_if_eq d_X11_signal_70 (tgt := 77) (by decide) (fun c19 => ?_) (fun c19 => ?_)
            · replace e := (if_pos c19).symm.trans e
              refine r_iconst d_X11_signal_77 (v := (0 : Int32)) (by decide +kernel) ?_
              obtain rfl := Option.some.inj e
              exact g_iret d_X11_signal_78 rfl rfl
            · replace e := (if_neg c19).symm.trans e
              refine r_iconst d_X11_signal_73 (v := (1 : Int32)) (by decide +kernel) ?_
              refine r_goto d_X11_signal_74 (tgt := 78) (by decide) ?_
              obtain rfl := Option.some.inj e
              exact g_iret d_X11_signal_78 rfl rfl
        · replace e := (if_neg c13).symm.trans e
          refine r_iconst d_X11_signal_46 (v := (1 : Int32)) (by decide +kernel) ?_
          obtain rfl := Option.some.inj e
          exact g_iret d_X11_signal_47 rfl rfl
      · replace e := (if_pos c9).symm.trans e
        refine r_iconst d_X11_signal_28 (v := (0 : Int32)) (by decide +kernel) ?_
        obtain rfl := Option.some.inj e
        exact g_iret d_X11_signal_29 rfl rfl

theorem c_X11_signal {G : Gd} {j : Nat} (hj : 646 ≤ j) {l0 : Nat} {l1 : Int32} {l2 : Int32} {l3 : Int32} {h : Hp} {o : (Int32 × Hp)} (e : f_X11_signal l0 l1 l2 l3 h = some o) : Cal G j Y_X11_signal [zrf (l0), .int (l1), .int (l2), .int (l3)] h (some (.int o.1)) o.2 := Cal.of (n := 0) (I := false) (by first | exact Or.inl (by decide +kernel) | exact Or.inr (by decide +kernel)) (by decide) (by simp [lg_sl, zrf_cat, cat_int, cat_long]) (f_X11_signal_ok hj _ _ _ _ _ h o (by simp [lv_args, zlk, zrf_cat, cat_int, cat_long]) (by simp [lv_args, zlk, zrf_cat, cat_int, cat_long]) (by simp [lv_args, zlk, zrf_cat, cat_int, cat_long]) (by simp [lv_args, zlk, zrf_cat, cat_int, cat_long]) e)
def f_X11_cancel (l0 : Nat) (l1 : Int32) (h : Hp) : Option (Int32 × Hp) := ck (isO (h) (l0) 12) (bh (pI (h) 1200 (l0) ((0 : Int32))) (fun h2 => (f_X11_isFlow (l0) (l1) (h2)).bind (fun q3 => if (q3.1) = (0) then (some ((0 : Int32), q3.2)) else ((f_X11_placeOf (l1) (q3.2)).bind (fun q5 => ck (isO (q5.2) (l0) 12) ((f_X11_works (l0) (q5.1) (q5.2)).bind (fun q6 => if (q6.1) = (0) then (some ((0 : Int32), q6.2)) else (ck (isO (q6.2) (l0) 12) ((f_X11_placeOf (l1) (q6.2)).bind (fun q10 => ck (isO (q10.2) (zR (q6.2) 1243 (l0)) 22) (ck (inR (q10.1) (zL (q10.2) (zR (q6.2) 1243 (l0)))) (if (zE (q10.2) (zR (q6.2) 1243 (l0)) (q10.1).toNatClampNeg) = ((4 : Int32)) then (some ((0 : Int32), q10.2)) else ((f_X11_placeOf (l1) (q10.2)).bind (fun q14 => ck (isO (q14.2) (l0) 12) ((f_X11_comes (l0) (q14.1) ((11 : Int32)) ((-2 : Int32)) ((0 : Int32)) ((0 : Int32)) (q14.2)).bind (fun q15 => ck (isB (q15.1)) (some (q15.1, q15.2))))))))))))))))))
theorem f_X11_cancel_ok {G : Gd} {d : Nat} (hj : 646 ≤ d) : ∀ (l0 : Nat) (l1 : Int32) (L : List (Nat × Value)) (h : Hp) (o : (Int32 × Hp)), zlk L 0 = some (zrf (l0)) → zlk L 1 = some (.int (l1)) → f_X11_cancel l0 l1 h = some o → Ev G M_X11_cancel d 0 L [] h (Ret Y_X11_cancel (some (.int o.1)) o.2) := by
  intro l0 l1 L h o g0 g1 e
  unfold f_X11_cancel at e
  refine g_ald_n d_X11_cancel_0 rfl g0 ?_
  refine r_iconst d_X11_cancel_1 (v := (0 : Int32)) (by decide +kernel) ?_
  replace e := ckd e
  obtain ⟨k1, e⟩ := e
  refine g_putI d_X11_cancel_2 (f := 1200) k1 fk_10_183 rfl (Or.inl rfl) ⟨rfl, rfl⟩ ?_
  replace e := bhd e
  obtain ⟨_, rfl, e⟩ := e
  refine g_ald_n d_X11_cancel_5 rfl g0 ?_
  refine r_iload_n d_X11_cancel_6 rfl g1 ?_
  replace e := bd e
  obtain ⟨q3, eq3, e⟩ := e
  refine g_callV d_X11_cancel_7 vk_10_382 (as := [_]) rfl (tO_pI k1) rfl (by simp [zrf_cat, cat_int, cat_long]) (j := 1) (by omega) (c_X11_isFlow (by omega) eq3) ?_
  refine r_if_eq d_X11_cancel_10 (tgt := 37) (by decide) (fun c4 => ?_) (fun c4 => ?_)
  · replace e := (if_pos c4).symm.trans e
    refine r_iconst d_X11_cancel_37 (v := (0 : Int32)) (by decide +kernel) ?_
    obtain rfl := Option.some.inj e
    exact g_iret d_X11_cancel_38 rfl rfl
  · replace e := (if_neg c4).symm.trans e
    refine g_ald_n d_X11_cancel_13 rfl g0 ?_
    refine r_iload_n d_X11_cancel_14 rfl g1 ?_
    replace e := bd e
    obtain ⟨q5, eq5, e⟩ := e
    refine g_callS d_X11_cancel_15 sk_10_385 (as := [_]) rfl rfl (by simp [zrf_cat, cat_int, cat_long]) (j := 1) (by omega) (c_X11_placeOf (by omega) eq5) ?_
    replace e := ckd e
    obtain ⟨k7, e⟩ := e
    replace e := bd e
    obtain ⟨q6, eq6, e⟩ := e
    refine g_callV d_X11_cancel_18 vk_10_388 (as := [_]) rfl k7 rfl (by simp [zrf_cat, cat_int, cat_long]) (j := 1) (by omega) (c_X11_works (by omega) eq6) ?_
    refine r_if_eq d_X11_cancel_21 (tgt := 37) (by decide) (fun c8 => ?_) (fun c8 => ?_)
    · replace e := (if_pos c8).symm.trans e
      refine r_iconst d_X11_cancel_37 (v := (0 : Int32)) (by decide +kernel) ?_
      obtain rfl := Option.some.inj e
      exact g_iret d_X11_cancel_38 rfl rfl
    · replace e := (if_neg c8).symm.trans e
      refine g_ald_n d_X11_cancel_24 rfl g0 ?_
      replace e := ckd e
      obtain ⟨k9, e⟩ := e
      refine g_getR d_X11_cancel_25 (f := 1243) k9 fk_10_119 rfl rfl ?_
      refine r_iload_n d_X11_cancel_28 rfl g1 ?_
      replace e := bd e
      obtain ⟨q10, eq10, e⟩ := e
      refine g_callS d_X11_cancel_29 sk_10_385 (as := [_]) rfl rfl (by simp [zrf_cat, cat_int, cat_long]) (j := 1) (by omega) (c_X11_placeOf (by omega) eq10) ?_
      replace e := ckd e
      obtain ⟨k11, e⟩ := e
      replace e := ckd e
      obtain ⟨k12, e⟩ := e
      refine g_iald d_X11_cancel_32 k11 k12 rfl ?_
      refine r_iconst d_X11_cancel_33 (v := (4 : Int32)) (by decide +kernel) ?_
      refine r_icmp_ne d_X11_cancel_34 (tgt := 39) (by decide) (fun c13 => ?_) (fun c13 => ?_)
      · replace e := (if_neg c13).symm.trans e
        refine g_ald_n d_X11_cancel_39 rfl g0 ?_
        refine r_iload_n d_X11_cancel_40 rfl g1 ?_
        replace e := bd e
        obtain ⟨q14, eq14, e⟩ := e
        refine g_callS d_X11_cancel_41 sk_10_385 (as := [_]) rfl rfl (by simp [zrf_cat, cat_int, cat_long]) (j := 1) (by omega) (c_X11_placeOf (by omega) eq14) ?_
        refine r_bipush d_X11_cancel_44 (v := (11 : Int32)) (by decide +kernel) ?_
        refine r_bipush d_X11_cancel_46 (v := (-2 : Int32)) (by decide +kernel) ?_
        refine r_iconst d_X11_cancel_48 (v := (0 : Int32)) (by decide +kernel) ?_
        refine r_iconst d_X11_cancel_49 (v := (0 : Int32)) (by decide +kernel) ?_
        replace e := ckd e
        obtain ⟨k16, e⟩ := e
        replace e := bd e
        obtain ⟨q15, eq15, e⟩ := e
        refine g_callV d_X11_cancel_50 vk_10_394 (as := [_, _, _, _, _]) rfl k16 rfl (by simp [zrf_cat, cat_int, cat_long]) (j := 645) (by omega) (c_X11_comes (by omega) eq15) ?_
        replace e := ckd e
        obtain ⟨k17, e⟩ := e
        obtain rfl := Option.some.inj e
        exact g_iret d_X11_cancel_53 rfl k17
      · replace e := (if_pos c13).symm.trans e
        refine r_iconst d_X11_cancel_37 (v := (0 : Int32)) (by decide +kernel) ?_
        obtain rfl := Option.some.inj e
        exact g_iret d_X11_cancel_38 rfl rfl

theorem c_X11_cancel {G : Gd} {j : Nat} (hj : 646 ≤ j) {l0 : Nat} {l1 : Int32} {h : Hp} {o : (Int32 × Hp)} (e : f_X11_cancel l0 l1 h = some o) : Cal G j Y_X11_cancel [zrf (l0), .int (l1)] h (some (.int o.1)) o.2 := Cal.of (n := 0) (I := false) (by first | exact Or.inl (by decide +kernel) | exact Or.inr (by decide +kernel)) (by decide) (by simp [lg_sl, zrf_cat, cat_int, cat_long]) (f_X11_cancel_ok hj _ _ _ h o (by simp [lv_args, zlk, zrf_cat, cat_int, cat_long]) (by simp [lv_args, zlk, zrf_cat, cat_int, cat_long]) e)
def f_X11_query_38 (s0 : Nat) (s1 : Int32) (l0 : Nat) (l1 : Int32) (l2 : Int32) (h : Hp) : Option (Int32 × Hp) := ck (isO (h) (s0) 12) (bh (pI (h) 1200 (s0) (s1)) (fun h11 => ck (isO (h11) (l0) 12) (if (zI (h11) 1200 (l0)) ≤ (0) then ((f_X11_placeOf (l1) (h11)).bind (fun q14 => ck (isO (q14.2) (zR (h11) 1245 (l0)) 22) (ck (inR ((((8 : Int32)) * (q14.1)) + (l2)) (zL (q14.2) (zR (h11) 1245 (l0)))) (some (zE (q14.2) (zR (h11) 1245 (l0)) ((((8 : Int32)) * (q14.1)) + (l2)).toNatClampNeg, q14.2))))) else (some ((0 : Int32), h11)))))
theorem f_X11_query_38_ok {G : Gd} {d : Nat} (hj : 2 ≤ d) : ∀ (s0 : Nat) (s1 : Int32) (l0 : Nat) (l1 : Int32) (l2 : Int32) (L : List (Nat × Value)) (h : Hp) (o : (Int32 × Hp)), zlk L 0 = some (zrf (l0)) → zlk L 1 = some (.int (l1)) → zlk L 2 = some (.int (l2)) → f_X11_query_38 s0 s1 l0 l1 l2 h = some o → Ev G M_X11_query d 38 L [.int (s1), zrf (s0)] h (Ret Y_X11_query (some (.int o.1)) o.2) := by
  intro s0 s1 l0 l1 l2 L h o g0 g1 g2 e
  unfold f_X11_query_38 at e
  replace e := ckd e
  obtain ⟨k10, e⟩ := e
  refine g_putI d_X11_query_38 (f := 1200) k10 fk_10_183 rfl (Or.inl rfl) ⟨rfl, rfl⟩ ?_
  replace e := bhd e
  obtain ⟨_, rfl, e⟩ := e
  refine g_ald_n d_X11_query_41 rfl g0 ?_
  replace e := ckd e
  obtain ⟨k12, e⟩ := e
  refine g_getI d_X11_query_42 (f := 1200) k12 fk_10_183 rfl rfl ?_
  refine r_if_le d_X11_query_45 (tgt := 52) (by decide) (fun c13 => ?_) (fun c13 => ?_)
  · replace e := (if_pos c13).symm.trans e
    refine g_ald_n d_X11_query_52 rfl g0 ?_
    refine g_getR d_X11_query_53 (f := 1245) k12 fk_10_125 rfl rfl ?_
    refine r_bipush d_X11_query_56 (v := (8 : Int32)) (by decide +kernel) ?_
    refine r_iload_n d_X11_query_58 rfl g1 ?_
    replace e := bd e
    obtain ⟨q14, eq14, e⟩ := e
    refine g_callS d_X11_query_59 sk_10_385 (as := [_]) rfl rfl (by simp [zrf_cat, cat_int, cat_long]) (j := 1) (by omega) (c_X11_placeOf (by omega) eq14) ?_
    refine r_imul d_X11_query_62 ?_
    refine r_iload_n d_X11_query_63 rfl g2 ?_
    refine r_iadd d_X11_query_64 ?_
    replace e := ckd e
    obtain ⟨k15, e⟩ := e
    replace e := ckd e
    obtain ⟨k16, e⟩ := e
    refine g_iald d_X11_query_65 k15 k16 rfl ?_
    obtain rfl := Option.some.inj e
    exact g_iret d_X11_query_66 rfl rfl
  · replace e := (if_neg c13).symm.trans e
    refine r_iconst d_X11_query_48 (v := (0 : Int32)) (by decide +kernel) ?_
    refine r_goto d_X11_query_49 (tgt := 66) (by decide) ?_
    obtain rfl := Option.some.inj e
    exact g_iret d_X11_query_66 rfl rfl

def f_X11_query_18 (s0 : Nat) (l0 : Nat) (l1 : Int32) (l2 : Int32) (h : Hp) : Option (Int32 × Hp) := f_X11_query_38 (s0) ((1 : Int32)) (l0) (l1) (l2) (h)
theorem f_X11_query_18_ok {G : Gd} {d : Nat} (hj : 2 ≤ d) : ∀ (s0 : Nat) (l0 : Nat) (l1 : Int32) (l2 : Int32) (L : List (Nat × Value)) (h : Hp) (o : (Int32 × Hp)), zlk L 0 = some (zrf (l0)) → zlk L 1 = some (.int (l1)) → zlk L 2 = some (.int (l2)) → f_X11_query_18 s0 l0 l1 l2 h = some o → Ev G M_X11_query d 18 L [zrf (s0)] h (Ret Y_X11_query (some (.int o.1)) o.2) := by
  intro s0 l0 l1 l2 L h o g0 g1 g2 e
  unfold f_X11_query_18 at e
  refine r_iconst d_X11_query_18 (v := (1 : Int32)) (by decide +kernel) ?_
  refine r_goto d_X11_query_19 (tgt := 38) (by decide) ?_
  exact f_X11_query_38_ok hj _ _ _ _ _ _ _ _ g0 g1 g2 e

def f_X11_query (l0 : Nat) (l1 : Int32) (l2 : Int32) (h : Hp) : Option (Int32 × Hp) := ck (isO (h) (l0) 12) ((f_X11_isFlow (l0) (l1) (h)).bind (fun q1 => if (q1.1) = (0) then (f_X11_query_18 (l0) (l0) (l1) (l2) (q1.2)) else ((f_X11_in (l2) ((8 : Int32)) (q1.2)).bind (fun q4 => if (q4.1) = (0) then (f_X11_query_18 (l0) (l0) (l1) (l2) (q4.2)) else ((f_X11_placeOf (l1) (q4.2)).bind (fun q6 => ck (isO (q6.2) (l0) 12) ((f_X11_works (l0) (q6.1) (q6.2)).bind (fun q7 => if (q7.1) = (0) then (f_X11_query_38 (l0) ((2 : Int32)) (l0) (l1) (l2) (q7.2)) else (f_X11_query_38 (l0) ((0 : Int32)) (l0) (l1) (l2) (q7.2))))))))))
theorem f_X11_query_ok {G : Gd} {d : Nat} (hj : 2 ≤ d) : ∀ (l0 : Nat) (l1 : Int32) (l2 : Int32) (L : List (Nat × Value)) (h : Hp) (o : (Int32 × Hp)), zlk L 0 = some (zrf (l0)) → zlk L 1 = some (.int (l1)) → zlk L 2 = some (.int (l2)) → f_X11_query l0 l1 l2 h = some o → Ev G M_X11_query d 0 L [] h (Ret Y_X11_query (some (.int o.1)) o.2) := by
  intro l0 l1 l2 L h o g0 g1 g2 e
  unfold f_X11_query at e
  refine g_ald_n d_X11_query_0 rfl g0 ?_
  refine g_ald_n d_X11_query_1 rfl g0 ?_
  refine r_iload_n d_X11_query_2 rfl g1 ?_
  replace e := ckd e
  obtain ⟨k2, e⟩ := e
  replace e := bd e
  obtain ⟨q1, eq1, e⟩ := e
  refine g_callV d_X11_query_3 vk_10_382 (as := [_]) rfl k2 rfl (by simp [zrf_cat, cat_int, cat_long]) (j := 1) (by omega) (c_X11_isFlow (by omega) eq1) ?_
  refine r_if_eq d_X11_query_6 (tgt := 18) (by decide) (fun c3 => ?_) (fun c3 => ?_)
  · replace e := (if_pos c3).symm.trans e
    exact f_X11_query_18_ok hj _ _ _ _ _ _ _ g0 g1 g2 e
  · replace e := (if_neg c3).symm.trans e
    refine r_iload_n d_X11_query_9 rfl g2 ?_
    refine r_bipush d_X11_query_10 (v := (8 : Int32)) (by decide +kernel) ?_
    replace e := bd e
    obtain ⟨q4, eq4, e⟩ := e
    refine g_callS d_X11_query_12 sk_10_230 (as := [_, _]) rfl rfl (by simp [zrf_cat, cat_int, cat_long]) (j := 1) (by omega) (c_X11_in (by omega) eq4) ?_
    refine r_if_ne d_X11_query_15 (tgt := 22) (by decide) (fun c5 => ?_) (fun c5 => ?_)
    · replace e := (if_neg c5).symm.trans e
      refine g_ald_n d_X11_query_22 rfl g0 ?_
      refine r_iload_n d_X11_query_23 rfl g1 ?_
      replace e := bd e
      obtain ⟨q6, eq6, e⟩ := e
      refine g_callS d_X11_query_24 sk_10_385 (as := [_]) rfl rfl (by simp [zrf_cat, cat_int, cat_long]) (j := 1) (by omega) (c_X11_placeOf (by omega) eq6) ?_
      replace e := ckd e
      obtain ⟨k8, e⟩ := e
      replace e := bd e
      obtain ⟨q7, eq7, e⟩ := e
      refine g_callV d_X11_query_27 vk_10_388 (as := [_]) rfl k8 rfl (by simp [zrf_cat, cat_int, cat_long]) (j := 1) (by omega) (c_X11_works (by omega) eq7) ?_
      refine r_if_ne d_X11_query_30 (tgt := 37) (by decide) (fun c9 => ?_) (fun c9 => ?_)
      · replace e := (if_neg c9).symm.trans e
        refine r_iconst d_X11_query_37 (v := (0 : Int32)) (by decide +kernel) ?_
        exact f_X11_query_38_ok hj _ _ _ _ _ _ _ _ g0 g1 g2 e
      · replace e := (if_pos c9).symm.trans e
        refine r_iconst d_X11_query_33 (v := (2 : Int32)) (by decide +kernel) ?_
        refine r_goto d_X11_query_34 (tgt := 38) (by decide) ?_
        exact f_X11_query_38_ok hj _ _ _ _ _ _ _ _ g0 g1 g2 e
    · replace e := (if_pos c5).symm.trans e
      exact f_X11_query_18_ok hj _ _ _ _ _ _ _ g0 g1 g2 e

theorem c_X11_query {G : Gd} {j : Nat} (hj : 2 ≤ j) {l0 : Nat} {l1 : Int32} {l2 : Int32} {h : Hp} {o : (Int32 × Hp)} (e : f_X11_query l0 l1 l2 h = some o) : Cal G j Y_X11_query [zrf (l0), .int (l1), .int (l2)] h (some (.int o.1)) o.2 := Cal.of (n := 0) (I := false) (by first | exact Or.inl (by decide +kernel) | exact Or.inr (by decide +kernel)) (by decide) (by simp [lg_sl, zrf_cat, cat_int, cat_long]) (f_X11_query_ok hj _ _ _ _ h o (by simp [lv_args, zlk, zrf_cat, cat_int, cat_long]) (by simp [lv_args, zlk, zrf_cat, cat_int, cat_long]) (by simp [lv_args, zlk, zrf_cat, cat_int, cat_long]) e)
def f_X11_workOf_9 : Nat → Nat → Int32 → Int32 → Hp → Option (Int32 × Hp)
  | 0, _, _, _, _ => none
  | n + 1, l0, l1, l2, h => ck (isO (h) (l0) 12) ((f_X11_event (l0) (l1) (l2) (h)).bind (fun q5 => ck (isO (q5.2) (l0) 12) ((f_X11_kindOf (l0) (q5.1) (q5.2)).bind (fun q7 => if (q7.1) = ((1 : Int32)) then (ck (isO (q7.2) (l0) 12) ((f_X11_event (l0) (l1) (l2) (q7.2)).bind (fun q10 => some (q10.1, q10.2)))) else (bh ((l2) + (-1 : Int32)) (fun x12 => f_X11_workOf_9 n (l0) (l1) (x12) (q7.2)))))))
theorem f_X11_workOf_9_ok {G : Gd} {d : Nat} (hj : 2 ≤ d) : ∀ (n : Nat) (l0 : Nat) (l1 : Int32) (l2 : Int32) (L : List (Nat × Value)) (h : Hp) (o : (Int32 × Hp)), zlk L 0 = some (zrf (l0)) → zlk L 1 = some (.int (l1)) → zlk L 2 = some (.int (l2)) → f_X11_workOf_9 n l0 l1 l2 h = some o → Ev G M_X11_workOf d 9 L [] h (Ret Y_X11_workOf (some (.int o.1)) o.2) := by
  intro n
  induction n with
  | zero =>
    intro l0 l1 l2 L h o g0 g1 g2 e
    cases e
  | succ n ih =>
    intro l0 l1 l2 L h o g0 g1 g2 e
    unfold f_X11_workOf_9 at e
    refine g_ald_n d_X11_workOf_9 rfl g0 ?_
    refine g_ald_n d_X11_workOf_10 rfl g0 ?_
    refine r_iload_n d_X11_workOf_11 rfl g1 ?_
    refine r_iload_n d_X11_workOf_12 rfl g2 ?_
    replace e := ckd e
    obtain ⟨k6, e⟩ := e
    replace e := bd e
    obtain ⟨q5, eq5, e⟩ := e
    refine g_callV d_X11_workOf_13 vk_10_305 (as := [_, _]) rfl k6 rfl (by simp [zrf_cat, cat_int, cat_long]) (j := 1) (by omega) (c_X11_event (by omega) eq5) ?_
    replace e := ckd e
    obtain ⟨k8, e⟩ := e
    replace e := bd e
    obtain ⟨q7, eq7, e⟩ := e
    refine g_callV d_X11_workOf_16 vk_10_286 (as := [_]) rfl k8 rfl (by simp [zrf_cat, cat_int, cat_long]) (j := 1) (by omega) (c_X11_kindOf (by omega) eq7) ?_
    refine r_iconst d_X11_workOf_19 (v := (1 : Int32)) (by decide +kernel) ?_
    refine r_icmp_eq d_X11_workOf_20 (tgt := 29) (by decide) (fun c9 => ?_) (fun c9 => ?_)
    · replace e := (if_pos c9).symm.trans e
      refine g_ald_n d_X11_workOf_29 rfl g0 ?_
      refine r_iload_n d_X11_workOf_30 rfl g1 ?_
      refine r_iload_n d_X11_workOf_31 rfl g2 ?_
      replace e := ckd e
      obtain ⟨k11, e⟩ := e
      replace e := bd e
      obtain ⟨q10, eq10, e⟩ := e
      refine g_callV d_X11_workOf_32 vk_10_305 (as := [_, _]) rfl k11 rfl (by simp [zrf_cat, cat_int, cat_long]) (j := 1) (by omega) (c_X11_event (by omega) eq10) ?_
      obtain rfl := Option.some.inj e
      exact g_iret d_X11_workOf_35 rfl rfl
    · replace e := (if_neg c9).symm.trans e
      replace e := bhd e
      obtain ⟨_, rfl, e⟩ := e
      refine s_iinc d_X11_workOf_23 g2 (w := (-1 : Int32)) (by decide +kernel) (by decide) (fun L g2 gK => ?_)
      replace g0 := gK _ _ (by decide) (Or.inr (zrf_cat _)) g0
      replace g1 := gK _ _ (by decide) (Or.inr rfl) g1
      refine r_goto d_X11_workOf_26 (tgt := 9) (by decide) ?_
      exact ih _ _ _ _ _ _ g0 g1 g2 e

def f_X11_workOf (l0 : Nat) (l1 : Int32) (h : Hp) : Option (Int32 × Hp) := ck (isO (h) (l0) 12) (ck (isO (h) (zR (h) 1241 (l0)) 22) (ck (inR (l1) (zL (h) (zR (h) 1241 (l0)))) (bh ((zE (h) (zR (h) 1241 (l0)) (l1).toNatClampNeg) - ((1 : Int32))) (fun x4 => f_X11_workOf_9 fz (l0) (l1) (x4) (h)))))
theorem f_X11_workOf_ok {G : Gd} {d : Nat} (hj : 2 ≤ d) : ∀ (l0 : Nat) (l1 : Int32) (L : List (Nat × Value)) (h : Hp) (o : (Int32 × Hp)), zlk L 0 = some (zrf (l0)) → zlk L 1 = some (.int (l1)) → f_X11_workOf l0 l1 h = some o → Ev G M_X11_workOf d 0 L [] h (Ret Y_X11_workOf (some (.int o.1)) o.2) := by
  intro l0 l1 L h o g0 g1 e
  unfold f_X11_workOf at e
  refine g_ald_n d_X11_workOf_0 rfl g0 ?_
  replace e := ckd e
  obtain ⟨k1, e⟩ := e
  refine g_getR d_X11_workOf_1 (f := 1241) k1 fk_10_113 rfl rfl ?_
  refine r_iload_n d_X11_workOf_4 rfl g1 ?_
  replace e := ckd e
  obtain ⟨k2, e⟩ := e
  replace e := ckd e
  obtain ⟨k3, e⟩ := e
  refine g_iald d_X11_workOf_5 k2 k3 rfl ?_
  refine r_iconst d_X11_workOf_6 (v := (1 : Int32)) (by decide +kernel) ?_
  refine r_isub d_X11_workOf_7 ?_
  replace e := bhd e
  obtain ⟨_, rfl, e⟩ := e
  refine s_istore_n d_X11_workOf_8 rfl (by decide) (fun L g2 gK => ?_)
  replace g0 := gK _ _ (by decide) (Or.inr (zrf_cat _)) g0
  replace g1 := gK _ _ (by decide) (Or.inr rfl) g1
  exact f_X11_workOf_9_ok hj _ _ _ _ _ _ _ g0 g1 g2 e

theorem c_X11_workOf {G : Gd} {j : Nat} (hj : 2 ≤ j) {l0 : Nat} {l1 : Int32} {h : Hp} {o : (Int32 × Hp)} (e : f_X11_workOf l0 l1 h = some o) : Cal G j Y_X11_workOf [zrf (l0), .int (l1)] h (some (.int o.1)) o.2 := Cal.of (n := 0) (I := false) (by first | exact Or.inl (by decide +kernel) | exact Or.inr (by decide +kernel)) (by decide) (by simp [lg_sl, zrf_cat, cat_int, cat_long]) (f_X11_workOf_ok hj _ _ _ h o (by simp [lv_args, zlk, zrf_cat, cat_int, cat_long]) (by simp [lv_args, zlk, zrf_cat, cat_int, cat_long]) e)
theorem fk_10_400 : Fk "TaskWeaveModel" 400 1202 := ⟨by decide, by decide, by decide +kernel⟩
theorem vk_10_397 : Vk "TaskWeaveModel" 397 1 12 Y_X11_workOf := ⟨yk_X11_workOf, by decide +kernel, by decide +kernel, by decide +kernel, by decide⟩
def f_X11_poll_117 (K9 : Nat → Int32 → Int32 → Int32 → Hp → Option (Int32 × Hp)) (l0 : Nat) (l1 : Int32) (l2 : Int32) (l3 : Int32) (h : Hp) : Option (Int32 × Hp) := bh ((l3) + (1 : Int32)) (fun x41 => K9 (l0) (l1) (l2) (x41) (h))
theorem f_X11_poll_117_ok {G : Gd} {d : Nat} (K9 : Nat → Int32 → Int32 → Int32 → Hp → Option (Int32 × Hp)) (hj : 3 ≤ d) (hK9 : ∀ (l0 : Nat) (l1 : Int32) (l2 : Int32) (l3 : Int32) (L : List (Nat × Value)) (h : Hp) (o : (Int32 × Hp)), zlk L 0 = some (zrf (l0)) → zlk L 1 = some (.int (l1)) → zlk L 2 = some (.int (l2)) → zlk L 3 = some (.int (l3)) → K9 l0 l1 l2 l3 h = some o → Ev G M_X11_poll d 9 L [] h (Ret Y_X11_poll (some (.int o.1)) o.2)) : ∀ (l0 : Nat) (l1 : Int32) (l2 : Int32) (l3 : Int32) (L : List (Nat × Value)) (h : Hp) (o : (Int32 × Hp)), zlk L 0 = some (zrf (l0)) → zlk L 1 = some (.int (l1)) → zlk L 2 = some (.int (l2)) → zlk L 3 = some (.int (l3)) → f_X11_poll_117 K9 l0 l1 l2 l3 h = some o → Ev G M_X11_poll d 117 L [] h (Ret Y_X11_poll (some (.int o.1)) o.2) := by
  intro l0 l1 l2 l3 L h o g0 g1 g2 g3 e
  unfold f_X11_poll_117 at e
  replace e := bhd e
  obtain ⟨_, rfl, e⟩ := e
  refine s_iinc d_X11_poll_117 g3 (w := (1 : Int32)) (by decide +kernel) (by decide) (fun L g3 gK => ?_)
  replace g0 := gK _ _ (by decide) (Or.inr (zrf_cat _)) g0
  replace g1 := gK _ _ (by decide) (Or.inr rfl) g1
  replace g2 := gK _ _ (by decide) (Or.inr rfl) g2
  refine r_goto d_X11_poll_120 (tgt := 9) (by decide) ?_
  exact hK9 _ _ _ _ _ _ _ g0 g1 g2 g3 e

def f_X11_poll_114 (K9 : Nat → Int32 → Int32 → Int32 → Hp → Option (Int32 × Hp)) (l0 : Nat) (l1 : Int32) (l3 : Int32) (l4 : Int32) (h : Hp) : Option (Int32 × Hp) := f_X11_poll_117 K9 (l0) (l1) (l4) (l3) (h)
theorem f_X11_poll_114_ok {G : Gd} {d : Nat} (K9 : Nat → Int32 → Int32 → Int32 → Hp → Option (Int32 × Hp)) (hj : 3 ≤ d) (hK9 : ∀ (l0 : Nat) (l1 : Int32) (l2 : Int32) (l3 : Int32) (L : List (Nat × Value)) (h : Hp) (o : (Int32 × Hp)), zlk L 0 = some (zrf (l0)) → zlk L 1 = some (.int (l1)) → zlk L 2 = some (.int (l2)) → zlk L 3 = some (.int (l3)) → K9 l0 l1 l2 l3 h = some o → Ev G M_X11_poll d 9 L [] h (Ret Y_X11_poll (some (.int o.1)) o.2)) : ∀ (l0 : Nat) (l1 : Int32) (l3 : Int32) (l4 : Int32) (L : List (Nat × Value)) (h : Hp) (o : (Int32 × Hp)), zlk L 0 = some (zrf (l0)) → zlk L 1 = some (.int (l1)) → zlk L 3 = some (.int (l3)) → zlk L 4 = some (.int (l4)) → f_X11_poll_114 K9 l0 l1 l3 l4 h = some o → Ev G M_X11_poll d 114 L [] h (Ret Y_X11_poll (some (.int o.1)) o.2) := by
  intro l0 l1 l3 l4 L h o g0 g1 g3 g4 e
  unfold f_X11_poll_114 at e
  refine r_iload d_X11_poll_114 g4 ?_
  refine s_istore_n d_X11_poll_116 rfl (by decide) (fun L g2 gK => ?_)
  replace g0 := gK _ _ (by decide) (Or.inr (zrf_cat _)) g0
  replace g1 := gK _ _ (by decide) (Or.inr rfl) g1
  replace g3 := gK _ _ (by decide) (Or.inr rfl) g3
  exact f_X11_poll_117_ok _ hj hK9 _ _ _ _ _ _ _ g0 g1 g2 g3 e

def f_X11_poll_86 (K9 : Nat → Int32 → Int32 → Int32 → Hp → Option (Int32 × Hp)) (s0 : Int32) (l0 : Nat) (l1 : Int32) (l2 : Int32) (l3 : Int32) (l4 : Int32) (h : Hp) : Option (Int32 × Hp) := if (s0) = (0) then (f_X11_poll_117 K9 (l0) (l1) (l2) (l3) (h)) else (if (l2) = ((-1 : Int32)) then (f_X11_poll_114 K9 (l0) (l1) (l3) (l4) (h)) else (ck (isO (h) (l0) 12) (ck (isO (h) (zR (h) 1253 (l0)) 22) (ck (inR (l4) (zL (h) (zR (h) 1253 (l0)))) (ck (inR (l2) (zL (h) (zR (h) 1253 (l0)))) (if (zE (h) (zR (h) 1253 (l0)) (l2).toNatClampNeg) ≤ (zE (h) (zR (h) 1253 (l0)) (l4).toNatClampNeg) then (f_X11_poll_117 K9 (l0) (l1) (l2) (l3) (h)) else (f_X11_poll_114 K9 (l0) (l1) (l3) (l4) (h))))))))
theorem f_X11_poll_86_ok {G : Gd} {d : Nat} (K9 : Nat → Int32 → Int32 → Int32 → Hp → Option (Int32 × Hp)) (hj : 3 ≤ d) (hK9 : ∀ (l0 : Nat) (l1 : Int32) (l2 : Int32) (l3 : Int32) (L : List (Nat × Value)) (h : Hp) (o : (Int32 × Hp)), zlk L 0 = some (zrf (l0)) → zlk L 1 = some (.int (l1)) → zlk L 2 = some (.int (l2)) → zlk L 3 = some (.int (l3)) → K9 l0 l1 l2 l3 h = some o → Ev G M_X11_poll d 9 L [] h (Ret Y_X11_poll (some (.int o.1)) o.2)) : ∀ (s0 : Int32) (l0 : Nat) (l1 : Int32) (l2 : Int32) (l3 : Int32) (l4 : Int32) (L : List (Nat × Value)) (h : Hp) (o : (Int32 × Hp)), zlk L 0 = some (zrf (l0)) → zlk L 1 = some (.int (l1)) → zlk L 2 = some (.int (l2)) → zlk L 3 = some (.int (l3)) → zlk L 4 = some (.int (l4)) → f_X11_poll_86 K9 s0 l0 l1 l2 l3 l4 h = some o → Ev G M_X11_poll d 86 L [.int (s0)] h (Ret Y_X11_poll (some (.int o.1)) o.2) := by
  intro s0 l0 l1 l2 l3 l4 L h o g0 g1 g2 g3 g4 e
  unfold f_X11_poll_86 at e
  refine s_istore d_X11_poll_86 (by decide) (fun L g5 gK => ?_)
  replace g0 := gK _ _ (by decide) (Or.inr (zrf_cat _)) g0
  replace g1 := gK _ _ (by decide) (Or.inr rfl) g1
  replace g2 := gK _ _ (by decide) (Or.inr rfl) g2
  replace g3 := gK _ _ (by decide) (Or.inr rfl) g3
  replace g4 := gK _ _ (by decide) (Or.inr rfl) g4
  refine r_iload d_X11_poll_88 g5 ?_
  refine r_if_eq d_X11_poll_90 (tgt := 117) (by decide) (fun c34 => ?_) (fun c34 => ?_)
  · replace e := (if_pos c34).symm.trans e
    exact f_X11_poll_117_ok _ hj hK9 _ _ _ _ _ _ _ g0 g1 g2 g3 e
  · replace e := (if_neg c34).symm.trans e
    refine r_iload_n d_X11_poll_93 rfl g2 ?_
    refine r_iconst d_X11_poll_94 (v := (-1 : Int32)) (by decide +kernel) ?_
    refine r_icmp_eq d_X11_poll_95 (tgt := 114) (by decide) (fun c35 => ?_) (fun c35 => ?_)
    · replace e := (if_pos c35).symm.trans e
      exact f_X11_poll_114_ok _ hj hK9 _ _ _ _ _ _ _ g0 g1 g3 g4 e
    · replace e := (if_neg c35).symm.trans e
      refine g_ald_n d_X11_poll_98 rfl g0 ?_
      replace e := ckd e
      obtain ⟨k36, e⟩ := e
      refine g_getR d_X11_poll_99 (f := 1253) k36 fk_10_149 rfl rfl ?_
      refine r_iload d_X11_poll_102 g4 ?_
      replace e := ckd e
      obtain ⟨k37, e⟩ := e
      replace e := ckd e
      obtain ⟨k38, e⟩ := e
      refine g_iald d_X11_poll_104 k37 k38 rfl ?_
      refine g_ald_n d_X11_poll_105 rfl g0 ?_
      refine g_getR d_X11_poll_106 (f := 1253) k36 fk_10_149 rfl rfl ?_
      refine r_iload_n d_X11_poll_109 rfl g2 ?_
      replace e := ckd e
      obtain ⟨k39, e⟩ := e
      refine g_iald d_X11_poll_110 k37 k39 rfl ?_
      refine r_icmp_ge d_X11_poll_111 (tgt := 117) (by decide) (fun c40 => ?_) (fun c40 => ?_)
      · replace e := (if_pos c40).symm.trans e
        exact f_X11_poll_117_ok _ hj hK9 _ _ _ _ _ _ _ g0 g1 g2 g3 e
      · replace e := (if_neg c40).symm.trans e
        exact f_X11_poll_114_ok _ hj hK9 _ _ _ _ _ _ _ g0 g1 g3 g4 e

def f_X11_poll_85 (K9 : Nat → Int32 → Int32 → Int32 → Hp → Option (Int32 × Hp)) (l0 : Nat) (l1 : Int32) (l2 : Int32) (l3 : Int32) (l4 : Int32) (h : Hp) : Option (Int32 × Hp) := f_X11_poll_86 K9 ((0 : Int32)) (l0) (l1) (l2) (l3) (l4) (h)
theorem f_X11_poll_85_ok {G : Gd} {d : Nat} (K9 : Nat → Int32 → Int32 → Int32 → Hp → Option (Int32 × Hp)) (hj : 3 ≤ d) (hK9 : ∀ (l0 : Nat) (l1 : Int32) (l2 : Int32) (l3 : Int32) (L : List (Nat × Value)) (h : Hp) (o : (Int32 × Hp)), zlk L 0 = some (zrf (l0)) → zlk L 1 = some (.int (l1)) → zlk L 2 = some (.int (l2)) → zlk L 3 = some (.int (l3)) → K9 l0 l1 l2 l3 h = some o → Ev G M_X11_poll d 9 L [] h (Ret Y_X11_poll (some (.int o.1)) o.2)) : ∀ (l0 : Nat) (l1 : Int32) (l2 : Int32) (l3 : Int32) (l4 : Int32) (L : List (Nat × Value)) (h : Hp) (o : (Int32 × Hp)), zlk L 0 = some (zrf (l0)) → zlk L 1 = some (.int (l1)) → zlk L 2 = some (.int (l2)) → zlk L 3 = some (.int (l3)) → zlk L 4 = some (.int (l4)) → f_X11_poll_85 K9 l0 l1 l2 l3 l4 h = some o → Ev G M_X11_poll d 85 L [] h (Ret Y_X11_poll (some (.int o.1)) o.2) := by
  intro l0 l1 l2 l3 l4 L h o g0 g1 g2 g3 g4 e
  unfold f_X11_poll_85 at e
  refine r_iconst d_X11_poll_85 (v := (0 : Int32)) (by decide +kernel) ?_
  exact f_X11_poll_86_ok _ hj hK9 _ _ _ _ _ _ _ _ _ g0 g1 g2 g3 g4 e

def f_X11_poll_9 : Nat → Nat → Int32 → Int32 → Int32 → Hp → Option (Int32 × Hp)
  | 0, _, _, _, _, _ => none
  | n + 1, l0, l1, l2, l3, h => if ((64 : Int32)) ≤ (l3) then (if (l2) = ((-1 : Int32)) then (some ((-1 : Int32), h)) else (ck (isO (h) (l0) 12) (bh (pI (h) 1202 (l0) ((zI (h) 1202 (l0)) + ((1 : Int32)))) (fun h6 => ck (isO (h6) (zR (h6) 1252 (l0)) 22) (ck (inR (l2) (zL (h6) (zR (h6) 1252 (l0)))) (bh (pE (h6) (zR (h6) 1252 (l0)) (l2).toNatClampNeg ((2 : Int32))) (fun h9 => ck (isO (h9) (zR (h9) 1255 (l0)) 22) (ck (inR (l2) (zL (h9) (zR (h9) 1255 (l0)))) (bh (pE (h9) (zR (h9) 1255 (l0)) (l2).toNatClampNeg (zI (h9) 1202 (l0))) (fun h12 => ck (isO (h12) (zR (h12) 1254 (l0)) 22) (ck (inR (l2) (zL (h12) (zR (h12) 1254 (l0)))) (bh (pE (h12) (zR (h12) 1254 (l0)) (l2).toNatClampNeg ((zI (h12) 1201 (l0)) + ((10 : Int32)))) (fun h15 => some (zI (h15) 1202 (l0), h15)))))))))))))) else (ck (isO (h) (l0) 12) ((f_X11_isFlow (l0) (l3) (h)).bind (fun q16 => if (q16.1) = (0) then (f_X11_poll_117 (f_X11_poll_9 n) (l0) (l1) (l2) (l3) (q16.2)) else ((f_X11_placeOf (l3) (q16.2)).bind (fun q19 => ck (isO (q19.2) (l0) 12) ((f_X11_works (l0) (q19.1) (q19.2)).bind (fun q20 => if (q20.1) = (0) then (f_X11_poll_85 (f_X11_poll_9 n) (l0) (l1) (l2) (l3) (q19.1) (q20.2)) else (ck (isO (q20.2) (l0) 12) (ck (isO (q20.2) (zR (q20.2) 1252 (l0)) 22) (ck (inR (q19.1) (zL (q20.2) (zR (q20.2) 1252 (l0)))) (if (zE (q20.2) (zR (q20.2) 1252 (l0)) (q19.1).toNatClampNeg) = ((1 : Int32)) then (ck (isO (q20.2) (zR (q20.2) 1253 (l0)) 22) (ck (inR (q19.1) (zL (q20.2) (zR (q20.2) 1253 (l0)))) (if (zI (q20.2) 1201 (l0)) < (zE (q20.2) (zR (q20.2) 1253 (l0)) (q19.1).toNatClampNeg) then (f_X11_poll_85 (f_X11_poll_9 n) (l0) (l1) (l2) (l3) (q19.1) (q20.2)) else ((f_X11_workOf (l0) (q19.1) (q20.2)).bind (fun q30 => ck (isO (q30.2) (zR (q20.2) 1227 (l0)) 22) (ck (inR (q30.1) (zL (q30.2) (zR (q20.2) 1227 (l0)))) (if (zE (q30.2) (zR (q20.2) 1227 (l0)) (q30.1).toNatClampNeg) = (l1) then (f_X11_poll_86 (f_X11_poll_9 n) ((1 : Int32)) (l0) (l1) (l2) (l3) (q19.1) (q30.2)) else (f_X11_poll_85 (f_X11_poll_9 n) (l0) (l1) (l2) (l3) (q19.1) (q30.2))))))))) else (f_X11_poll_85 (f_X11_poll_9 n) (l0) (l1) (l2) (l3) (q19.1) (q20.2)))))))))))))
theorem f_X11_poll_9_ok {G : Gd} {d : Nat} (hj : 3 ≤ d) : ∀ (n : Nat) (l0 : Nat) (l1 : Int32) (l2 : Int32) (l3 : Int32) (L : List (Nat × Value)) (h : Hp) (o : (Int32 × Hp)), zlk L 0 = some (zrf (l0)) → zlk L 1 = some (.int (l1)) → zlk L 2 = some (.int (l2)) → zlk L 3 = some (.int (l3)) → f_X11_poll_9 n l0 l1 l2 l3 h = some o → Ev G M_X11_poll d 9 L [] h (Ret Y_X11_poll (some (.int o.1)) o.2) := by
  intro n
  induction n with
  | zero =>
    intro l0 l1 l2 l3 L h o g0 g1 g2 g3 e
    cases e
  | succ n ih =>
    intro l0 l1 l2 l3 L h o g0 g1 g2 g3 e
    unfold f_X11_poll_9 at e
    refine r_iload_n d_X11_poll_9 rfl g3 ?_
    refine r_bipush d_X11_poll_10 (v := (64 : Int32)) (by decide +kernel) ?_
    refine r_icmp_ge d_X11_poll_12 (tgt := 123) (by decide) (fun c3 => ?_) (fun c3 => ?_)
    · replace e := (if_pos c3).symm.trans e
      refine r_iload_n d_X11_poll_123 rfl g2 ?_
      refine r_iconst d_X11_poll_124 (v := (-1 : Int32)) (by decide +kernel) ?_
      refine r_icmp_ne d_X11_poll_125 (tgt := 130) (by decide) (fun c4 => ?_) (fun c4 => ?_)
      · replace e := (if_neg c4).symm.trans e
        refine g_ald_n d_X11_poll_130 rfl g0 ?_
        refine r_dup d_X11_poll_131 (zrf_cat _) ?_
        replace e := ckd e
        obtain ⟨k5, e⟩ := e
        refine g_getI d_X11_poll_132 (f := 1202) k5 fk_10_400 rfl rfl ?_
        refine r_iconst d_X11_poll_135 (v := (1 : Int32)) (by decide +kernel) ?_
        refine r_iadd d_X11_poll_136 ?_
        refine g_putI d_X11_poll_137 (f := 1202) k5 fk_10_400 rfl (Or.inl rfl) ⟨rfl, rfl⟩ ?_
        replace e := bhd e
        obtain ⟨_, rfl, e⟩ := e
        refine g_ald_n d_X11_poll_140 rfl g0 ?_
        refine g_getR d_X11_poll_141 (f := 1252) (tO_pI k5) fk_10_146 rfl rfl ?_
        refine r_iload_n d_X11_poll_144 rfl g2 ?_
        refine r_iconst d_X11_poll_145 (v := (2 : Int32)) (by decide +kernel) ?_
        replace e := ckd e
        obtain ⟨k7, e⟩ := e
        replace e := ckd e
        obtain ⟨k8, e⟩ := e
        refine g_iast d_X11_poll_146 k7 k8 ?_
        replace e := bhd e
        obtain ⟨_, rfl, e⟩ := e
        refine g_ald_n d_X11_poll_147 rfl g0 ?_
        refine g_getR d_X11_poll_148 (f := 1255) (tO_pE (tO_pI k5)) fk_10_155 rfl rfl ?_
        refine r_iload_n d_X11_poll_151 rfl g2 ?_
        refine g_ald_n d_X11_poll_152 rfl g0 ?_
        refine g_getI d_X11_poll_153 (f := 1202) (tO_pE (tO_pI k5)) fk_10_400 rfl rfl ?_
        replace e := ckd e
        obtain ⟨k10, e⟩ := e
        replace e := ckd e
        obtain ⟨k11, e⟩ := e
        refine g_iast d_X11_poll_156 k10 k11 ?_
        replace e := bhd e
        obtain ⟨_, rfl, e⟩ := e
        refine g_ald_n d_X11_poll_157 rfl g0 ?_
        refine g_getR d_X11_poll_158 (f := 1254) (tO_pE (tO_pE (tO_pI k5))) fk_10_152 rfl rfl ?_
        refine r_iload_n d_X11_poll_161 rfl g2 ?_
        refine g_ald_n d_X11_poll_162 rfl g0 ?_
        refine g_getI d_X11_poll_163 (f := 1201) (tO_pE (tO_pE (tO_pI k5))) fk_10_283 rfl rfl ?_
        refine r_bipush d_X11_poll_166 (v := (10 : Int32)) (by decide +kernel) ?_
        refine r_iadd d_X11_poll_168 ?_
        replace e := ckd e
        obtain ⟨k13, e⟩ := e
        replace e := ckd e
        obtain ⟨k14, e⟩ := e
        refine g_iast d_X11_poll_169 k13 k14 ?_
        replace e := bhd e
        obtain ⟨_, rfl, e⟩ := e
        refine g_ald_n d_X11_poll_170 rfl g0 ?_
        refine g_getI d_X11_poll_171 (f := 1202) (tO_pE (tO_pE (tO_pE (tO_pI k5)))) fk_10_400 rfl rfl ?_
        obtain rfl := Option.some.inj e
        exact g_iret d_X11_poll_174 rfl rfl
      · replace e := (if_pos c4).symm.trans e
        refine r_iconst d_X11_poll_128 (v := (-1 : Int32)) (by decide +kernel) ?_
        obtain rfl := Option.some.inj e
        exact g_iret d_X11_poll_129 rfl rfl
    · replace e := (if_neg c3).symm.trans e
      refine g_ald_n d_X11_poll_15 rfl g0 ?_
      refine r_iload_n d_X11_poll_16 rfl g3 ?_
      replace e := ckd e
      obtain ⟨k17, e⟩ := e
      replace e := bd e
      obtain ⟨q16, eq16, e⟩ := e
      refine g_callV d_X11_poll_17 vk_10_382 (as := [_]) rfl k17 rfl (by simp [zrf_cat, cat_int, cat_long]) (j := 1) (by omega) (c_X11_isFlow (by omega) eq16) ?_
      refine r_if_ne d_X11_poll_20 (tgt := 26) (by decide) (fun c18 => ?_) (fun c18 => ?_)
      · replace e := (if_neg c18).symm.trans e
        refine r_iload_n d_X11_poll_26 rfl g3 ?_
        replace e := bd e
        obtain ⟨q19, eq19, e⟩ := e
        refine g_callS d_X11_poll_27 sk_10_385 (as := [_]) rfl rfl (by simp [zrf_cat, cat_int, cat_long]) (j := 1) (by omega) (c_X11_placeOf (by omega) eq19) ?_
        refine s_istore d_X11_poll_30 (by decide) (fun L g4 gK => ?_)
        replace g0 := gK _ _ (by decide) (Or.inr (zrf_cat _)) g0
        replace g1 := gK _ _ (by decide) (Or.inr rfl) g1
        replace g2 := gK _ _ (by decide) (Or.inr rfl) g2
        replace g3 := gK _ _ (by decide) (Or.inr rfl) g3
        refine g_ald_n d_X11_poll_32 rfl g0 ?_
        refine r_iload d_X11_poll_33 g4 ?_
        replace e := ckd e
        obtain ⟨k21, e⟩ := e
        replace e := bd e
        obtain ⟨q20, eq20, e⟩ := e
        refine g_callV d_X11_poll_35 vk_10_388 (as := [_]) rfl k21 rfl (by simp [zrf_cat, cat_int, cat_long]) (j := 1) (by omega) (c_X11_works (by omega) eq20) ?_
        refine r_if_eq d_X11_poll_38 (tgt := 85) (by decide) (fun c22 => ?_) (fun c22 => ?_)
        · replace e := (if_pos c22).symm.trans e
          exact f_X11_poll_85_ok _ hj ih _ _ _ _ _ _ _ _ g0 g1 g2 g3 g4 e
        · replace e := (if_neg c22).symm.trans e
          refine g_ald_n d_X11_poll_41 rfl g0 ?_
          replace e := ckd e
          obtain ⟨k23, e⟩ := e
          refine g_getR d_X11_poll_42 (f := 1252) k23 fk_10_146 rfl rfl ?_
          refine r_iload d_X11_poll_45 g4 ?_
          replace e := ckd e
          obtain ⟨k24, e⟩ := e
          replace e := ckd e
          obtain ⟨k25, e⟩ := e
          refine g_iald d_X11_poll_47 k24 k25 rfl ?_
          refine r_iconst d_X11_poll_48 (v := (1 : Int32)) (by decide +kernel) ?_
          refine r_icmp_ne d_X11_poll_49 (tgt := 85) (by decide) (fun c26 => ?_) (fun c26 => ?_)
          · replace e := (if_neg c26).symm.trans e
            exact f_X11_poll_85_ok _ hj ih _ _ _ _ _ _ _ _ g0 g1 g2 g3 g4 e
          · replace e := (if_pos c26).symm.trans e
            refine g_ald_n d_X11_poll_52 rfl g0 ?_
            refine g_getR d_X11_poll_53 (f := 1253) k23 fk_10_149 rfl rfl ?_
            refine r_iload d_X11_poll_56 g4 ?_
            replace e := ckd e
            obtain ⟨k27, e⟩ := e
            replace e := ckd e
            obtain ⟨k28, e⟩ := e
            refine g_iald d_X11_poll_58 k27 k28 rfl ?_
            refine g_ald_n d_X11_poll_59 rfl g0 ?_
            refine g_getI d_X11_poll_60 (f := 1201) k23 fk_10_283 rfl rfl ?_
            refine r_icmp_gt d_X11_poll_63 (tgt := 85) (by decide) (fun c29 => ?_) (fun c29 => ?_)
            · replace e := (if_pos c29).symm.trans e
              exact f_X11_poll_85_ok _ hj ih _ _ _ _ _ _ _ _ g0 g1 g2 g3 g4 e
            · replace e := (if_neg c29).symm.trans e
              refine g_ald_n d_X11_poll_66 rfl g0 ?_
              refine g_getR d_X11_poll_67 (f := 1227) k23 fk_10_70 rfl rfl ?_
              refine g_ald_n d_X11_poll_70 rfl g0 ?_
              refine r_iload d_X11_poll_71 g4 ?_
              replace e := bd e
              obtain ⟨q30, eq30, e⟩ := e
              refine g_callV d_X11_poll_73 vk_10_397 (as := [_]) rfl k23 rfl (by simp [zrf_cat, cat_int, cat_long]) (j := 2) (by omega) (c_X11_workOf (by omega) eq30) ?_
              replace e := ckd e
              obtain ⟨k31, e⟩ := e
              replace e := ckd e
              obtain ⟨k32, e⟩ := e
              refine g_iald d_X11_poll_76 k31 k32 rfl ?_
              refine r_iload_n d_X11_poll_77 rfl g1 ?_
              refine r_icmp_ne d_X11_poll_78 (tgt := 85) (by decide) (fun c33 => ?_) (fun c33 => ?_)
              · replace e := (if_neg c33).symm.trans e
                exact f_X11_poll_85_ok _ hj ih _ _ _ _ _ _ _ _ g0 g1 g2 g3 g4 e
              · replace e := (if_pos c33).symm.trans e
                refine r_iconst d_X11_poll_81 (v := (1 : Int32)) (by decide +kernel) ?_
                refine r_goto d_X11_poll_82 (tgt := 86) (by decide) ?_
                exact f_X11_poll_86_ok _ hj ih _ _ _ _ _ _ _ _ _ g0 g1 g2 g3 g4 e
      · replace e := (if_pos c18).symm.trans e
        refine r_goto d_X11_poll_23 (tgt := 117) (by decide) ?_
        exact f_X11_poll_117_ok _ hj ih _ _ _ _ _ _ _ g0 g1 g2 g3 e

def f_X11_poll (l0 : Nat) (l1 : Int32) (h : Hp) : Option (Int32 × Hp) := ck (isO (h) (l0) 12) (bh (pI (h) 1200 (l0) ((0 : Int32))) (fun h2 => f_X11_poll_9 fz (l0) (l1) ((-1 : Int32)) ((0 : Int32)) (h2)))
theorem f_X11_poll_ok {G : Gd} {d : Nat} (hj : 3 ≤ d) : ∀ (l0 : Nat) (l1 : Int32) (L : List (Nat × Value)) (h : Hp) (o : (Int32 × Hp)), zlk L 0 = some (zrf (l0)) → zlk L 1 = some (.int (l1)) → f_X11_poll l0 l1 h = some o → Ev G M_X11_poll d 0 L [] h (Ret Y_X11_poll (some (.int o.1)) o.2) := by
  intro l0 l1 L h o g0 g1 e
  unfold f_X11_poll at e
  refine g_ald_n d_X11_poll_0 rfl g0 ?_
  refine r_iconst d_X11_poll_1 (v := (0 : Int32)) (by decide +kernel) ?_
  replace e := ckd e
  obtain ⟨k1, e⟩ := e
  refine g_putI d_X11_poll_2 (f := 1200) k1 fk_10_183 rfl (Or.inl rfl) ⟨rfl, rfl⟩ ?_
  replace e := bhd e
  obtain ⟨_, rfl, e⟩ := e
  refine r_iconst d_X11_poll_5 (v := (-1 : Int32)) (by decide +kernel) ?_
  refine s_istore_n d_X11_poll_6 rfl (by decide) (fun L g2 gK => ?_)
  replace g0 := gK _ _ (by decide) (Or.inr (zrf_cat _)) g0
  replace g1 := gK _ _ (by decide) (Or.inr rfl) g1
  refine r_iconst d_X11_poll_7 (v := (0 : Int32)) (by decide +kernel) ?_
  refine s_istore_n d_X11_poll_8 rfl (by decide) (fun L g3 gK => ?_)
  replace g0 := gK _ _ (by decide) (Or.inr (zrf_cat _)) g0
  replace g1 := gK _ _ (by decide) (Or.inr rfl) g1
  replace g2 := gK _ _ (by decide) (Or.inr rfl) g2
  exact f_X11_poll_9_ok hj _ _ _ _ _ _ _ _ g0 g1 g2 g3 e

theorem c_X11_poll {G : Gd} {j : Nat} (hj : 3 ≤ j) {l0 : Nat} {l1 : Int32} {h : Hp} {o : (Int32 × Hp)} (e : f_X11_poll l0 l1 h = some o) : Cal G j Y_X11_poll [zrf (l0), .int (l1)] h (some (.int o.1)) o.2 := Cal.of (n := 0) (I := false) (by first | exact Or.inl (by decide +kernel) | exact Or.inr (by decide +kernel)) (by decide) (by simp [lg_sl, zrf_cat, cat_int, cat_long]) (f_X11_poll_ok hj _ _ _ h o (by simp [lv_args, zlk, zrf_cat, cat_int, cat_long]) (by simp [lv_args, zlk, zrf_cat, cat_int, cat_long]) e)
def f_X11_leased_30 (K2 : Nat → Int32 → Int32 → Hp → Option (Int32 × Hp)) (l0 : Nat) (l1 : Int32) (l2 : Int32) (h : Hp) : Option (Int32 × Hp) := bh ((l2) + (1 : Int32)) (fun x9 => K2 (l0) (l1) (x9) (h))
theorem f_X11_leased_30_ok {G : Gd} {d : Nat} (K2 : Nat → Int32 → Int32 → Hp → Option (Int32 × Hp)) (hj : 1 ≤ d) (hK2 : ∀ (l0 : Nat) (l1 : Int32) (l2 : Int32) (L : List (Nat × Value)) (h : Hp) (o : (Int32 × Hp)), zlk L 0 = some (zrf (l0)) → zlk L 1 = some (.int (l1)) → zlk L 2 = some (.int (l2)) → K2 l0 l1 l2 h = some o → Ev G M_X11_leased d 2 L [] h (Ret Y_X11_leased (some (.int o.1)) o.2)) : ∀ (l0 : Nat) (l1 : Int32) (l2 : Int32) (L : List (Nat × Value)) (h : Hp) (o : (Int32 × Hp)), zlk L 0 = some (zrf (l0)) → zlk L 1 = some (.int (l1)) → zlk L 2 = some (.int (l2)) → f_X11_leased_30 K2 l0 l1 l2 h = some o → Ev G M_X11_leased d 30 L [] h (Ret Y_X11_leased (some (.int o.1)) o.2) := by
  intro l0 l1 l2 L h o g0 g1 g2 e
  unfold f_X11_leased_30 at e
  replace e := bhd e
  obtain ⟨_, rfl, e⟩ := e
  refine s_iinc d_X11_leased_30 g2 (w := (1 : Int32)) (by decide +kernel) (by decide) (fun L g2 gK => ?_)
  replace g0 := gK _ _ (by decide) (Or.inr (zrf_cat _)) g0
  replace g1 := gK _ _ (by decide) (Or.inr rfl) g1
  refine r_goto d_X11_leased_33 (tgt := 2) (by decide) ?_
  exact hK2 _ _ _ _ _ _ g0 g1 g2 e

def f_X11_leased_2 : Nat → Nat → Int32 → Int32 → Hp → Option (Int32 × Hp)
  | 0, _, _, _, _ => none
  | n + 1, l0, l1, l2, h => if ((64 : Int32)) ≤ (l2) then (some ((-1 : Int32), h)) else (ck (isO (h) (l0) 12) (ck (isO (h) (zR (h) 1252 (l0)) 22) (ck (inR (l2) (zL (h) (zR (h) 1252 (l0)))) (if (zE (h) (zR (h) 1252 (l0)) (l2).toNatClampNeg) = ((2 : Int32)) then (ck (isO (h) (zR (h) 1255 (l0)) 22) (ck (inR (l2) (zL (h) (zR (h) 1255 (l0)))) (if (zE (h) (zR (h) 1255 (l0)) (l2).toNatClampNeg) = (l1) then (some (l2, h)) else (f_X11_leased_30 (f_X11_leased_2 n) (l0) (l1) (l2) (h))))) else (f_X11_leased_30 (f_X11_leased_2 n) (l0) (l1) (l2) (h))))))
theorem f_X11_leased_2_ok {G : Gd} {d : Nat} (hj : 1 ≤ d) : ∀ (n : Nat) (l0 : Nat) (l1 : Int32) (l2 : Int32) (L : List (Nat × Value)) (h : Hp) (o : (Int32 × Hp)), zlk L 0 = some (zrf (l0)) → zlk L 1 = some (.int (l1)) → zlk L 2 = some (.int (l2)) → f_X11_leased_2 n l0 l1 l2 h = some o → Ev G M_X11_leased d 2 L [] h (Ret Y_X11_leased (some (.int o.1)) o.2) := by
  intro n
  induction n with
  | zero =>
    intro l0 l1 l2 L h o g0 g1 g2 e
    cases e
  | succ n ih =>
    intro l0 l1 l2 L h o g0 g1 g2 e
    unfold f_X11_leased_2 at e
    refine r_iload_n d_X11_leased_2 rfl g2 ?_
    refine r_bipush d_X11_leased_3 (v := (64 : Int32)) (by decide +kernel) ?_
    refine r_icmp_ge d_X11_leased_5 (tgt := 36) (by decide) (fun c1 => ?_) (fun c1 => ?_)
    · replace e := (if_pos c1).symm.trans e
      refine r_iconst d_X11_leased_36 (v := (-1 : Int32)) (by decide +kernel) ?_
      obtain rfl := Option.some.inj e
      exact g_iret d_X11_leased_37 rfl rfl
    · replace e := (if_neg c1).symm.trans e
      refine g_ald_n d_X11_leased_8 rfl g0 ?_
      replace e := ckd e
      obtain ⟨k2, e⟩ := e
      refine g_getR d_X11_leased_9 (f := 1252) k2 fk_10_146 rfl rfl ?_
      refine r_iload_n d_X11_leased_12 rfl g2 ?_
      replace e := ckd e
      obtain ⟨k3, e⟩ := e
      replace e := ckd e
      obtain ⟨k4, e⟩ := e
      refine g_iald d_X11_leased_13 k3 k4 rfl ?_
      refine r_iconst d_X11_leased_14 (v := (2 : Int32)) (by decide +kernel) ?_
      refine r_icmp_ne d_X11_leased_15 (tgt := 30) (by decide) (fun c5 => ?_) (fun c5 => ?_)
      · replace e := (if_neg c5).symm.trans e
        exact f_X11_leased_30_ok _ hj ih _ _ _ _ _ _ g0 g1 g2 e
      · replace e := (if_pos c5).symm.trans e
        refine g_ald_n d_X11_leased_18 rfl g0 ?_
        refine g_getR d_X11_leased_19 (f := 1255) k2 fk_10_155 rfl rfl ?_
        refine r_iload_n d_X11_leased_22 rfl g2 ?_
        replace e := ckd e
        obtain ⟨k6, e⟩ := e
        replace e := ckd e
        obtain ⟨k7, e⟩ := e
        refine g_iald d_X11_leased_23 k6 k7 rfl ?_
        refine r_iload_n d_X11_leased_24 rfl g1 ?_
        refine r_icmp_ne d_X11_leased_25 (tgt := 30) (by decide) (fun c8 => ?_) (fun c8 => ?_)
        · replace e := (if_neg c8).symm.trans e
          exact f_X11_leased_30_ok _ hj ih _ _ _ _ _ _ g0 g1 g2 e
        · replace e := (if_pos c8).symm.trans e
          refine r_iload_n d_X11_leased_28 rfl g2 ?_
          obtain rfl := Option.some.inj e
          exact g_iret d_X11_leased_29 rfl rfl

def f_X11_leased (l0 : Nat) (l1 : Int32) (h : Hp) : Option (Int32 × Hp) := f_X11_leased_2 fz (l0) (l1) ((0 : Int32)) (h)
theorem f_X11_leased_ok {G : Gd} {d : Nat} (hj : 1 ≤ d) : ∀ (l0 : Nat) (l1 : Int32) (L : List (Nat × Value)) (h : Hp) (o : (Int32 × Hp)), zlk L 0 = some (zrf (l0)) → zlk L 1 = some (.int (l1)) → f_X11_leased l0 l1 h = some o → Ev G M_X11_leased d 0 L [] h (Ret Y_X11_leased (some (.int o.1)) o.2) := by
  intro l0 l1 L h o g0 g1 e
  unfold f_X11_leased at e
  refine r_iconst d_X11_leased_0 (v := (0 : Int32)) (by decide +kernel) ?_
  refine s_istore_n d_X11_leased_1 rfl (by decide) (fun L g2 gK => ?_)
  replace g0 := gK _ _ (by decide) (Or.inr (zrf_cat _)) g0
  replace g1 := gK _ _ (by decide) (Or.inr rfl) g1
  exact f_X11_leased_2_ok hj _ _ _ _ _ _ _ g0 g1 g2 e

theorem c_X11_leased {G : Gd} {j : Nat} (hj : 1 ≤ j) {l0 : Nat} {l1 : Int32} {h : Hp} {o : (Int32 × Hp)} (e : f_X11_leased l0 l1 h = some o) : Cal G j Y_X11_leased [zrf (l0), .int (l1)] h (some (.int o.1)) o.2 := Cal.of (n := 0) (I := false) (by first | exact Or.inl (by decide +kernel) | exact Or.inr (by decide +kernel)) (by decide) (by simp [lg_sl, zrf_cat, cat_int, cat_long]) (f_X11_leased_ok hj _ _ _ h o (by simp [lv_args, zlk, zrf_cat, cat_int, cat_long]) (by simp [lv_args, zlk, zrf_cat, cat_int, cat_long]) e)
theorem vk_10_403 : Vk "TaskWeaveModel" 403 1 12 Y_X11_leased := ⟨yk_X11_leased, by decide +kernel, by decide +kernel, by decide +kernel, by decide⟩
def f_X11_beat (l0 : Nat) (l1 : Int32) (h : Hp) : Option (Int32 × Hp) := ck (isO (h) (l0) 12) (bh (pI (h) 1200 (l0) ((0 : Int32))) (fun h2 => (f_X11_leased (l0) (l1) (h2)).bind (fun q3 => if (q3.1) = ((-1 : Int32)) then (some ((0 : Int32), q3.2)) else (ck (isO (q3.2) (l0) 12) (ck (isO (q3.2) (zR (q3.2) 1254 (l0)) 22) (ck (inR (q3.1) (zL (q3.2) (zR (q3.2) 1254 (l0)))) (bh (pE (q3.2) (zR (q3.2) 1254 (l0)) (q3.1).toNatClampNeg ((zI (q3.2) 1201 (l0)) + ((10 : Int32)))) (fun h8 => some ((1 : Int32), h8)))))))))
theorem f_X11_beat_ok {G : Gd} {d : Nat} (hj : 2 ≤ d) : ∀ (l0 : Nat) (l1 : Int32) (L : List (Nat × Value)) (h : Hp) (o : (Int32 × Hp)), zlk L 0 = some (zrf (l0)) → zlk L 1 = some (.int (l1)) → f_X11_beat l0 l1 h = some o → Ev G M_X11_beat d 0 L [] h (Ret Y_X11_beat (some (.int o.1)) o.2) := by
  intro l0 l1 L h o g0 g1 e
  unfold f_X11_beat at e
  refine g_ald_n d_X11_beat_0 rfl g0 ?_
  refine r_iconst d_X11_beat_1 (v := (0 : Int32)) (by decide +kernel) ?_
  replace e := ckd e
  obtain ⟨k1, e⟩ := e
  refine g_putI d_X11_beat_2 (f := 1200) k1 fk_10_183 rfl (Or.inl rfl) ⟨rfl, rfl⟩ ?_
  replace e := bhd e
  obtain ⟨_, rfl, e⟩ := e
  refine g_ald_n d_X11_beat_5 rfl g0 ?_
  refine r_iload_n d_X11_beat_6 rfl g1 ?_
  replace e := bd e
  obtain ⟨q3, eq3, e⟩ := e
  refine g_callV d_X11_beat_7 vk_10_403 (as := [_]) rfl (tO_pI k1) rfl (by simp [zrf_cat, cat_int, cat_long]) (j := 1) (by omega) (c_X11_leased (by omega) eq3) ?_
  refine s_istore_n d_X11_beat_10 rfl (by decide) (fun L g2 gK => ?_)
  replace g0 := gK _ _ (by decide) (Or.inr (zrf_cat _)) g0
  refine r_iload_n d_X11_beat_11 rfl g2 ?_
  refine r_iconst d_X11_beat_12 (v := (-1 : Int32)) (by decide +kernel) ?_
  refine r_icmp_ne d_X11_beat_13 (tgt := 18) (by decide) (fun c4 => ?_) (fun c4 => ?_)
  · replace e := (if_neg c4).symm.trans e
    refine g_ald_n d_X11_beat_18 rfl g0 ?_
    replace e := ckd e
    obtain ⟨k5, e⟩ := e
    refine g_getR d_X11_beat_19 (f := 1254) k5 fk_10_152 rfl rfl ?_
    refine r_iload_n d_X11_beat_22 rfl g2 ?_
    refine g_ald_n d_X11_beat_23 rfl g0 ?_
    refine g_getI d_X11_beat_24 (f := 1201) k5 fk_10_283 rfl rfl ?_
    refine r_bipush d_X11_beat_27 (v := (10 : Int32)) (by decide +kernel) ?_
    refine r_iadd d_X11_beat_29 ?_
    replace e := ckd e
    obtain ⟨k6, e⟩ := e
    replace e := ckd e
    obtain ⟨k7, e⟩ := e
    refine g_iast d_X11_beat_30 k6 k7 ?_
    replace e := bhd e
    obtain ⟨_, rfl, e⟩ := e
    refine r_iconst d_X11_beat_31 (v := (1 : Int32)) (by decide +kernel) ?_
    obtain rfl := Option.some.inj e
    exact g_iret d_X11_beat_32 rfl rfl
  · replace e := (if_pos c4).symm.trans e
    refine r_iconst d_X11_beat_16 (v := (0 : Int32)) (by decide +kernel) ?_
    obtain rfl := Option.some.inj e
    exact g_iret d_X11_beat_17 rfl rfl

theorem c_X11_beat {G : Gd} {j : Nat} (hj : 2 ≤ j) {l0 : Nat} {l1 : Int32} {h : Hp} {o : (Int32 × Hp)} (e : f_X11_beat l0 l1 h = some o) : Cal G j Y_X11_beat [zrf (l0), .int (l1)] h (some (.int o.1)) o.2 := Cal.of (n := 0) (I := false) (by first | exact Or.inl (by decide +kernel) | exact Or.inr (by decide +kernel)) (by decide) (by simp [lg_sl, zrf_cat, cat_int, cat_long]) (f_X11_beat_ok hj _ _ _ h o (by simp [lv_args, zlk, zrf_cat, cat_int, cat_long]) (by simp [lv_args, zlk, zrf_cat, cat_int, cat_long]) e)
def f_X11_finish (l0 : Nat) (l1 : Int32) (l2 : Int32) (h : Hp) : Option (Int32 × Hp) := ck (isO (h) (l0) 12) (bh (pI (h) 1200 (l0) ((0 : Int32))) (fun h2 => (f_X11_leased (l0) (l1) (h2)).bind (fun q3 => if (q3.1) = ((-1 : Int32)) then (some ((0 : Int32), q3.2)) else (ck (isO (q3.2) (l0) 12) ((f_X11_comes (l0) (q3.1) ((2 : Int32)) (l2) ((0 : Int32)) ((0 : Int32)) (q3.2)).bind (fun q5 => if (q5.1) = (0) then (some ((0 : Int32), q5.2)) else (some ((1 : Int32), q5.2))))))))
theorem f_X11_finish_ok {G : Gd} {d : Nat} (hj : 646 ≤ d) : ∀ (l0 : Nat) (l1 : Int32) (l2 : Int32) (L : List (Nat × Value)) (h : Hp) (o : (Int32 × Hp)), zlk L 0 = some (zrf (l0)) → zlk L 1 = some (.int (l1)) → zlk L 2 = some (.int (l2)) → f_X11_finish l0 l1 l2 h = some o → Ev G M_X11_finish d 0 L [] h (Ret Y_X11_finish (some (.int o.1)) o.2) := by
  intro l0 l1 l2 L h o g0 g1 g2 e
  unfold f_X11_finish at e
  refine g_ald_n d_X11_finish_0 rfl g0 ?_
  refine r_iconst d_X11_finish_1 (v := (0 : Int32)) (by decide +kernel) ?_
  replace e := ckd e
  obtain ⟨k1, e⟩ := e
  refine g_putI d_X11_finish_2 (f := 1200) k1 fk_10_183 rfl (Or.inl rfl) ⟨rfl, rfl⟩ ?_
  replace e := bhd e
  obtain ⟨_, rfl, e⟩ := e
  refine g_ald_n d_X11_finish_5 rfl g0 ?_
  refine r_iload_n d_X11_finish_6 rfl g1 ?_
  replace e := bd e
  obtain ⟨q3, eq3, e⟩ := e
  refine g_callV d_X11_finish_7 vk_10_403 (as := [_]) rfl (tO_pI k1) rfl (by simp [zrf_cat, cat_int, cat_long]) (j := 1) (by omega) (c_X11_leased (by omega) eq3) ?_
  refine s_istore_n d_X11_finish_10 rfl (by decide) (fun L g3 gK => ?_)
  replace g0 := gK _ _ (by decide) (Or.inr (zrf_cat _)) g0
  replace g2 := gK _ _ (by decide) (Or.inr rfl) g2
  refine r_iload_n d_X11_finish_11 rfl g3 ?_
  refine r_iconst d_X11_finish_12 (v := (-1 : Int32)) (by decide +kernel) ?_
  refine r_icmp_eq d_X11_finish_13 (tgt := 32) (by decide) (fun c4 => ?_) (fun c4 => ?_)
  · replace e := (if_pos c4).symm.trans e
    refine r_iconst d_X11_finish_32 (v := (0 : Int32)) (by decide +kernel) ?_
    obtain rfl := Option.some.inj e
    exact g_iret d_X11_finish_33 rfl rfl
  · replace e := (if_neg c4).symm.trans e
    refine g_ald_n d_X11_finish_16 rfl g0 ?_
    refine r_iload_n d_X11_finish_17 rfl g3 ?_
    refine r_iconst d_X11_finish_18 (v := (2 : Int32)) (by decide +kernel) ?_
    refine r_iload_n d_X11_finish_19 rfl g2 ?_
    refine r_iconst d_X11_finish_20 (v := (0 : Int32)) (by decide +kernel) ?_
    refine r_iconst d_X11_finish_21 (v := (0 : Int32)) (by decide +kernel) ?_
    replace e := ckd e
    obtain ⟨k6, e⟩ := e
    replace e := bd e
    obtain ⟨q5, eq5, e⟩ := e
    refine g_callV d_X11_finish_22 vk_10_394 (as := [_, _, _, _, _]) rfl k6 rfl (by simp [zrf_cat, cat_int, cat_long]) (j := 645) (by omega) (c_X11_comes (by omega) eq5) ?_
    refine r_if_eq d_X11_finish_25 (tgt := 32) (by decide) (fun c7 => ?_) (fun c7 => ?_)
    · replace e := (if_pos c7).symm.trans e
      refine r_iconst d_X11_finish_32 (v := (0 : Int32)) (by decide +kernel) ?_
      obtain rfl := Option.some.inj e
      exact g_iret d_X11_finish_33 rfl rfl
    · replace e := (if_neg c7).symm.trans e
      refine r_iconst d_X11_finish_28 (v := (1 : Int32)) (by decide +kernel) ?_
      refine r_goto d_X11_finish_29 (tgt := 33) (by decide) ?_
      obtain rfl := Option.some.inj e
      exact g_iret d_X11_finish_33 rfl rfl

theorem c_X11_finish {G : Gd} {j : Nat} (hj : 646 ≤ j) {l0 : Nat} {l1 : Int32} {l2 : Int32} {h : Hp} {o : (Int32 × Hp)} (e : f_X11_finish l0 l1 l2 h = some o) : Cal G j Y_X11_finish [zrf (l0), .int (l1), .int (l2)] h (some (.int o.1)) o.2 := Cal.of (n := 0) (I := false) (by first | exact Or.inl (by decide +kernel) | exact Or.inr (by decide +kernel)) (by decide) (by simp [lg_sl, zrf_cat, cat_int, cat_long]) (f_X11_finish_ok hj _ _ _ _ h o (by simp [lv_args, zlk, zrf_cat, cat_int, cat_long]) (by simp [lv_args, zlk, zrf_cat, cat_int, cat_long]) (by simp [lv_args, zlk, zrf_cat, cat_int, cat_long]) e)
def f_X11_fails (l0 : Nat) (l1 : Int32) (h : Hp) : Option (Int32 × Hp) := ck (isO (h) (l0) 12) (ck (isO (h) (zR (h) 1256 (l0)) 22) (ck (inR (l1) (zL (h) (zR (h) 1256 (l0)))) (bh ((zE (h) (zR (h) 1256 (l0)) (l1).toNatClampNeg) + ((1 : Int32))) (fun x4 => if (x4) = ((5 : Int32)) then ((f_X11_comes (l0) (l1) ((3 : Int32)) ((-1 : Int32)) ((0 : Int32)) ((0 : Int32)) (h)).bind (fun q19 => ck (isB (q19.1)) (some (q19.1, q19.2)))) else (bh ((zI (h) 1201 (l0)) + (((1 : Int32)) <<< (((x4) - ((1 : Int32))) &&& 31))) (fun x6 => (f_X11_does (f_losesD 30) (l0) ((l1) / ((16 : Int32))) ((l1) - (l1) / ((16 : Int32)) * ((16 : Int32))) ((15 : Int32)) (x4) (x6) ((0 : Int32)) (h)).bind (fun q7 => if (q7.1) = (0) then (some ((0 : Int32), q7.2)) else (ck (isO (q7.2) (l0) 12) (ck (isO (q7.2) (zR (q7.2) 1256 (l0)) 22) (ck (inR (l1) (zL (q7.2) (zR (q7.2) 1256 (l0)))) (bh (pE (q7.2) (zR (q7.2) 1256 (l0)) (l1).toNatClampNeg (x4)) (fun h12 => ck (isO (h12) (zR (h12) 1253 (l0)) 22) (ck (inR (l1) (zL (h12) (zR (h12) 1253 (l0)))) (bh (pE (h12) (zR (h12) 1253 (l0)) (l1).toNatClampNeg (x6)) (fun h15 => ck (isO (h15) (zR (h15) 1252 (l0)) 22) (ck (inR (l1) (zL (h15) (zR (h15) 1252 (l0)))) (bh (pE (h15) (zR (h15) 1252 (l0)) (l1).toNatClampNeg ((1 : Int32))) (fun h18 => some ((1 : Int32), h18)))))))))))))))))))
theorem f_X11_fails_ok {G : Gd} {d : Nat} (hj : 646 ≤ d) : ∀ (l0 : Nat) (l1 : Int32) (L : List (Nat × Value)) (h : Hp) (o : (Int32 × Hp)), zlk L 0 = some (zrf (l0)) → zlk L 1 = some (.int (l1)) → f_X11_fails l0 l1 h = some o → Ev G M_X11_fails d 0 L [] h (Ret Y_X11_fails (some (.int o.1)) o.2) := by
  intro l0 l1 L h o g0 g1 e
  unfold f_X11_fails at e
  refine g_ald_n d_X11_fails_0 rfl g0 ?_
  replace e := ckd e
  obtain ⟨k1, e⟩ := e
  refine g_getR d_X11_fails_1 (f := 1256) k1 fk_10_158 rfl rfl ?_
  refine r_iload_n d_X11_fails_4 rfl g1 ?_
  replace e := ckd e
  obtain ⟨k2, e⟩ := e
  replace e := ckd e
  obtain ⟨k3, e⟩ := e
  refine g_iald d_X11_fails_5 k2 k3 rfl ?_
  refine r_iconst d_X11_fails_6 (v := (1 : Int32)) (by decide +kernel) ?_
  refine r_iadd d_X11_fails_7 ?_
  replace e := bhd e
  obtain ⟨_, rfl, e⟩ := e
  refine s_istore_n d_X11_fails_8 rfl (by decide) (fun L g2 gK => ?_)
  replace g0 := gK _ _ (by decide) (Or.inr (zrf_cat _)) g0
  replace g1 := gK _ _ (by decide) (Or.inr rfl) g1
  refine r_iload_n d_X11_fails_9 rfl g2 ?_
  refine r_iconst d_X11_fails_10 (v := (5 : Int32)) (by decide +kernel) ?_
  refine r_icmp_ne d_X11_fails_11 (tgt := 24) (by decide) (fun c5 => ?_) (fun c5 => ?_)
  · replace e := (if_neg c5).symm.trans e
    refine g_ald_n d_X11_fails_24 rfl g0 ?_
    refine g_getI d_X11_fails_25 (f := 1201) k1 fk_10_283 rfl rfl ?_
    refine r_iconst d_X11_fails_28 (v := (1 : Int32)) (by decide +kernel) ?_
    refine r_iload_n d_X11_fails_29 rfl g2 ?_
    refine r_iconst d_X11_fails_30 (v := (1 : Int32)) (by decide +kernel) ?_
    refine r_isub d_X11_fails_31 ?_
    refine r_ishl d_X11_fails_32 ?_
    refine r_iadd d_X11_fails_33 ?_
    replace e := bhd e
    obtain ⟨_, rfl, e⟩ := e
    refine s_istore_n d_X11_fails_34 rfl (by decide) (fun L g3 gK => ?_)
    replace g0 := gK _ _ (by decide) (Or.inr (zrf_cat _)) g0
    replace g1 := gK _ _ (by decide) (Or.inr rfl) g1
    replace g2 := gK _ _ (by decide) (Or.inr rfl) g2
    refine g_ald_n d_X11_fails_35 rfl g0 ?_
    refine r_iload_n d_X11_fails_36 rfl g1 ?_
    refine r_bipush d_X11_fails_37 (v := (16 : Int32)) (by decide +kernel) ?_
    refine r_idiv d_X11_fails_39 (by decide +kernel) ?_
    refine r_iload_n d_X11_fails_40 rfl g1 ?_
    refine r_bipush d_X11_fails_41 (v := (16 : Int32)) (by decide +kernel) ?_
    refine r_irem d_X11_fails_43 (by decide +kernel) ?_
    refine r_bipush d_X11_fails_44 (v := (15 : Int32)) (by decide +kernel) ?_
    refine r_iload_n d_X11_fails_46 rfl g2 ?_
    refine r_iload_n d_X11_fails_47 rfl g3 ?_
    refine r_iconst d_X11_fails_48 (v := (0 : Int32)) (by decide +kernel) ?_
    replace e := bd e
    obtain ⟨q7, eq7, e⟩ := e
    refine g_callV d_X11_fails_49 vk_10_364 (as := [_, _, _, _, _, _]) rfl k1 rfl (by simp [zrf_cat, cat_int, cat_long]) (j := 642) (by omega) (c_X11_does (jl := 640) (fun q => c_losesD 30 (by omega) q) (by omega) (by omega) eq7) ?_
    refine r_if_ne d_X11_fails_52 (tgt := 57) (by decide) (fun c8 => ?_) (fun c8 => ?_)
    · replace e := (if_neg c8).symm.trans e
      refine g_ald_n d_X11_fails_57 rfl g0 ?_
      replace e := ckd e
      obtain ⟨k9, e⟩ := e
      refine g_getR d_X11_fails_58 (f := 1256) k9 fk_10_158 rfl rfl ?_
      refine r_iload_n d_X11_fails_61 rfl g1 ?_
      refine r_iload_n d_X11_fails_62 rfl g2 ?_
      replace e := ckd e
      obtain ⟨k10, e⟩ := e
      replace e := ckd e
      obtain ⟨k11, e⟩ := e
      refine g_iast d_X11_fails_63 k10 k11 ?_
      replace e := bhd e
      obtain ⟨_, rfl, e⟩ := e
      refine g_ald_n d_X11_fails_64 rfl g0 ?_
      refine g_getR d_X11_fails_65 (f := 1253) (tO_pE k9) fk_10_149 rfl rfl ?_
      refine r_iload_n d_X11_fails_68 rfl g1 ?_
      refine r_iload_n d_X11_fails_69 rfl g3 ?_
      replace e := ckd e
      obtain ⟨k13, e⟩ := e
      replace e := ckd e
      obtain ⟨k14, e⟩ := e
      refine g_iast d_X11_fails_70 k13 k14 ?_
      replace e := bhd e
      obtain ⟨_, rfl, e⟩ := e
      refine g_ald_n d_X11_fails_71 rfl g0 ?_
      refine g_getR d_X11_fails_72 (f := 1252) (tO_pE (tO_pE k9)) fk_10_146 rfl rfl ?_
      refine r_iload_n d_X11_fails_75 rfl g1 ?_
      refine r_iconst d_X11_fails_76 (v := (1 : Int32)) (by decide +kernel) ?_
      replace e := ckd e
      obtain ⟨k16, e⟩ := e
      replace e := ckd e
      obtain ⟨k17, e⟩ := e
      refine g_iast d_X11_fails_77 k16 k17 ?_
      replace e := bhd e
      obtain ⟨_, rfl, e⟩ := e
      refine r_iconst d_X11_fails_78 (v := (1 : Int32)) (by decide +kernel) ?_
      obtain rfl := Option.some.inj e
      exact g_iret d_X11_fails_79 rfl rfl
    · replace e := (if_pos c8).symm.trans e
      refine r_iconst d_X11_fails_55 (v := (0 : Int32)) (by decide +kernel) ?_
      obtain rfl := Option.some.inj e
      exact g_iret d_X11_fails_56 rfl rfl
  · replace e := (if_pos c5).symm.trans e
    refine g_ald_n d_X11_fails_14 rfl g0 ?_
    refine r_iload_n d_X11_fails_15 rfl g1 ?_
    refine r_iconst d_X11_fails_16 (v := (3 : Int32)) (by decide +kernel) ?_
    refine r_iconst d_X11_fails_17 (v := (-1 : Int32)) (by decide +kernel) ?_
    refine r_iconst d_X11_fails_18 (v := (0 : Int32)) (by decide +kernel) ?_
    refine r_iconst d_X11_fails_19 (v := (0 : Int32)) (by decide +kernel) ?_
    replace e := bd e
    obtain ⟨q19, eq19, e⟩ := e
    refine g_callV d_X11_fails_20 vk_10_394 (as := [_, _, _, _, _]) rfl k1 rfl (by simp [zrf_cat, cat_int, cat_long]) (j := 645) (by omega) (c_X11_comes (by omega) eq19) ?_
    replace e := ckd e
    obtain ⟨k20, e⟩ := e
    obtain rfl := Option.some.inj e
    exact g_iret d_X11_fails_23 rfl k20

theorem c_X11_fails {G : Gd} {j : Nat} (hj : 646 ≤ j) {l0 : Nat} {l1 : Int32} {h : Hp} {o : (Int32 × Hp)} (e : f_X11_fails l0 l1 h = some o) : Cal G j Y_X11_fails [zrf (l0), .int (l1)] h (some (.int o.1)) o.2 := Cal.of (n := 0) (I := false) (by first | exact Or.inl (by decide +kernel) | exact Or.inr (by decide +kernel)) (by decide) (by simp [lg_sl, zrf_cat, cat_int, cat_long]) (f_X11_fails_ok hj _ _ _ h o (by simp [lv_args, zlk, zrf_cat, cat_int, cat_long]) (by simp [lv_args, zlk, zrf_cat, cat_int, cat_long]) e)
theorem vk_10_406 : Vk "TaskWeaveModel" 406 1 12 Y_X11_fails := ⟨yk_X11_fails, by decide +kernel, by decide +kernel, by decide +kernel, by decide⟩
def f_X11_fail (l0 : Nat) (l1 : Int32) (h : Hp) : Option (Int32 × Hp) := ck (isO (h) (l0) 12) (bh (pI (h) 1200 (l0) ((0 : Int32))) (fun h2 => (f_X11_leased (l0) (l1) (h2)).bind (fun q3 => if (q3.1) = ((-1 : Int32)) then (some ((0 : Int32), q3.2)) else (ck (isO (q3.2) (l0) 12) ((f_X11_fails (l0) (q3.1) (q3.2)).bind (fun q5 => if (q5.1) = (0) then (some ((0 : Int32), q5.2)) else (some ((1 : Int32), q5.2))))))))
theorem f_X11_fail_ok {G : Gd} {d : Nat} (hj : 647 ≤ d) : ∀ (l0 : Nat) (l1 : Int32) (L : List (Nat × Value)) (h : Hp) (o : (Int32 × Hp)), zlk L 0 = some (zrf (l0)) → zlk L 1 = some (.int (l1)) → f_X11_fail l0 l1 h = some o → Ev G M_X11_fail d 0 L [] h (Ret Y_X11_fail (some (.int o.1)) o.2) := by
  intro l0 l1 L h o g0 g1 e
  unfold f_X11_fail at e
  refine g_ald_n d_X11_fail_0 rfl g0 ?_
  refine r_iconst d_X11_fail_1 (v := (0 : Int32)) (by decide +kernel) ?_
  replace e := ckd e
  obtain ⟨k1, e⟩ := e
  refine g_putI d_X11_fail_2 (f := 1200) k1 fk_10_183 rfl (Or.inl rfl) ⟨rfl, rfl⟩ ?_
  replace e := bhd e
  obtain ⟨_, rfl, e⟩ := e
  refine g_ald_n d_X11_fail_5 rfl g0 ?_
  refine r_iload_n d_X11_fail_6 rfl g1 ?_
  replace e := bd e
  obtain ⟨q3, eq3, e⟩ := e
  refine g_callV d_X11_fail_7 vk_10_403 (as := [_]) rfl (tO_pI k1) rfl (by simp [zrf_cat, cat_int, cat_long]) (j := 1) (by omega) (c_X11_leased (by omega) eq3) ?_
  refine s_istore_n d_X11_fail_10 rfl (by decide) (fun L g2 gK => ?_)
  replace g0 := gK _ _ (by decide) (Or.inr (zrf_cat _)) g0
  refine r_iload_n d_X11_fail_11 rfl g2 ?_
  refine r_iconst d_X11_fail_12 (v := (-1 : Int32)) (by decide +kernel) ?_
  refine r_icmp_eq d_X11_fail_13 (tgt := 28) (by decide) (fun c4 => ?_) (fun c4 => ?_)
  · replace e := (if_pos c4).symm.trans e
    refine r_iconst d_X11_fail_28 (v := (0 : Int32)) (by decide +kernel) ?_
    obtain rfl := Option.some.inj e
    exact g_iret d_X11_fail_29 rfl rfl
  · replace e := (if_neg c4).symm.trans e
    refine g_ald_n d_X11_fail_16 rfl g0 ?_
    refine r_iload_n d_X11_fail_17 rfl g2 ?_
    replace e := ckd e
    obtain ⟨k6, e⟩ := e
    replace e := bd e
    obtain ⟨q5, eq5, e⟩ := e
    refine g_callV d_X11_fail_18 vk_10_406 (as := [_]) rfl k6 rfl (by simp [zrf_cat, cat_int, cat_long]) (j := 646) (by omega) (c_X11_fails (by omega) eq5) ?_
    refine r_if_eq d_X11_fail_21 (tgt := 28) (by decide) (fun c7 => ?_) (fun c7 => ?_)
    · replace e := (if_pos c7).symm.trans e
      refine r_iconst d_X11_fail_28 (v := (0 : Int32)) (by decide +kernel) ?_
      obtain rfl := Option.some.inj e
      exact g_iret d_X11_fail_29 rfl rfl
    · replace e := (if_neg c7).symm.trans e
      refine r_iconst d_X11_fail_24 (v := (1 : Int32)) (by decide +kernel) ?_
      refine r_goto d_X11_fail_25 (tgt := 29) (by decide) ?_
      obtain rfl := Option.some.inj e
      exact g_iret d_X11_fail_29 rfl rfl

theorem c_X11_fail {G : Gd} {j : Nat} (hj : 647 ≤ j) {l0 : Nat} {l1 : Int32} {h : Hp} {o : (Int32 × Hp)} (e : f_X11_fail l0 l1 h = some o) : Cal G j Y_X11_fail [zrf (l0), .int (l1)] h (some (.int o.1)) o.2 := Cal.of (n := 0) (I := false) (by first | exact Or.inl (by decide +kernel) | exact Or.inr (by decide +kernel)) (by decide) (by simp [lg_sl, zrf_cat, cat_int, cat_long]) (f_X11_fail_ok hj _ _ _ h o (by simp [lv_args, zlk, zrf_cat, cat_int, cat_long]) (by simp [lv_args, zlk, zrf_cat, cat_int, cat_long]) e)
def f_X11_task (l0 : Nat) (l1 : Int32) (l2 : Int32) (h : Hp) : Option (Int32 × Hp) := ck (isO (h) (l0) 12) (bh (pI (h) 1200 (l0) ((0 : Int32))) (fun h2 => (f_X11_leased (l0) (l1) (h2)).bind (fun q3 => if (q3.1) = ((-1 : Int32)) then (some ((-1 : Int32), q3.2)) else (if (l2) = (0 : Int32) then ((f_X11_numberOf (q3.1) (q3.2)).bind (fun q6 => some (q6.1, q6.2))) else (if (l2) = (1 : Int32) then (ck (isO (q3.2) (l0) 12) ((f_X11_workOf (l0) (q3.1) (q3.2)).bind (fun q9 => ck (isO (q9.2) (zR (q3.2) 1228 (l0)) 22) (ck (inR (q9.1) (zL (q9.2) (zR (q3.2) 1228 (l0)))) (some (zE (q9.2) (zR (q3.2) 1228 (l0)) (q9.1).toNatClampNeg, q9.2)))))) else (if (l2) = (2 : Int32) then (ck (isO (q3.2) (l0) 12) (ck (isO (q3.2) (zR (q3.2) 1256 (l0)) 22) (ck (inR (q3.1) (zL (q3.2) (zR (q3.2) 1256 (l0)))) (some (zE (q3.2) (zR (q3.2) 1256 (l0)) (q3.1).toNatClampNeg, q3.2))))) else (if (l2) = (3 : Int32) then (ck (isO (q3.2) (l0) 12) (ck (isO (q3.2) (zR (q3.2) 1254 (l0)) 22) (ck (inR (q3.1) (zL (q3.2) (zR (q3.2) 1254 (l0)))) (some (zE (q3.2) (zR (q3.2) 1254 (l0)) (q3.1).toNatClampNeg, q3.2))))) else (some ((-1 : Int32), q3.2)))))))))
theorem f_X11_task_ok {G : Gd} {d : Nat} (hj : 3 ≤ d) : ∀ (l0 : Nat) (l1 : Int32) (l2 : Int32) (L : List (Nat × Value)) (h : Hp) (o : (Int32 × Hp)), zlk L 0 = some (zrf (l0)) → zlk L 1 = some (.int (l1)) → zlk L 2 = some (.int (l2)) → f_X11_task l0 l1 l2 h = some o → Ev G M_X11_task d 0 L [] h (Ret Y_X11_task (some (.int o.1)) o.2) := by
  intro l0 l1 l2 L h o g0 g1 g2 e
  unfold f_X11_task at e
  refine g_ald_n d_X11_task_0 rfl g0 ?_
  refine r_iconst d_X11_task_1 (v := (0 : Int32)) (by decide +kernel) ?_
  replace e := ckd e
  obtain ⟨k1, e⟩ := e
  refine g_putI d_X11_task_2 (f := 1200) k1 fk_10_183 rfl (Or.inl rfl) ⟨rfl, rfl⟩ ?_
  replace e := bhd e
  obtain ⟨_, rfl, e⟩ := e
  refine g_ald_n d_X11_task_5 rfl g0 ?_
  refine r_iload_n d_X11_task_6 rfl g1 ?_
  replace e := bd e
  obtain ⟨q3, eq3, e⟩ := e
  refine g_callV d_X11_task_7 vk_10_403 (as := [_]) rfl (tO_pI k1) rfl (by simp [zrf_cat, cat_int, cat_long]) (j := 1) (by omega) (c_X11_leased (by omega) eq3) ?_
  refine s_istore_n d_X11_task_10 rfl (by decide) (fun L g3 gK => ?_)
  replace g0 := gK _ _ (by decide) (Or.inr (zrf_cat _)) g0
  replace g2 := gK _ _ (by decide) (Or.inr rfl) g2
  refine r_iload_n d_X11_task_11 rfl g3 ?_
  refine r_iconst d_X11_task_12 (v := (-1 : Int32)) (by decide +kernel) ?_
  refine r_icmp_ne d_X11_task_13 (tgt := 18) (by decide) (fun c4 => ?_) (fun c4 => ?_)
  · replace e := (if_neg c4).symm.trans e
    refine r_iload_n d_X11_task_18 rfl g2 ?_
    rcases ite_or e with ⟨c5, e⟩ | ⟨c5, e⟩
    · refine r_tableIn d_X11_task_19 (off := 29) (tgt := 48) (by rw [c5]; decide +kernel) (by rw [c5]; decide +kernel) (by rw [c5] <;> rfl) (by decide) ?_
      refine r_iload_n d_X11_task_48 rfl g3 ?_
      replace e := bd e
      obtain ⟨q6, eq6, e⟩ := e
      refine g_callS d_X11_task_49 sk_10_372 (as := [_]) rfl rfl (by simp [zrf_cat, cat_int, cat_long]) (j := 1) (by omega) (c_X11_numberOf (by omega) eq6) ?_
      obtain rfl := Option.some.inj e
      exact g_iret d_X11_task_52 rfl rfl
    · rcases ite_or e with ⟨c7, e⟩ | ⟨c7, e⟩
      · refine r_tableIn d_X11_task_19 (off := 34) (tgt := 53) (by rw [c7]; decide +kernel) (by rw [c7]; decide +kernel) (by rw [c7] <;> rfl) (by decide) ?_
        refine g_ald_n d_X11_task_53 rfl g0 ?_
        replace e := ckd e
        obtain ⟨k8, e⟩ := e
        refine g_getR d_X11_task_54 (f := 1228) k8 fk_10_73 rfl rfl ?_
        refine g_ald_n d_X11_task_57 rfl g0 ?_
        refine r_iload_n d_X11_task_58 rfl g3 ?_
        replace e := bd e
        obtain ⟨q9, eq9, e⟩ := e
        refine g_callV d_X11_task_59 vk_10_397 (as := [_]) rfl k8 rfl (by simp [zrf_cat, cat_int, cat_long]) (j := 2) (by omega) (c_X11_workOf (by omega) eq9) ?_
        replace e := ckd e
        obtain ⟨k10, e⟩ := e
        replace e := ckd e
        obtain ⟨k11, e⟩ := e
        refine g_iald d_X11_task_62 k10 k11 rfl ?_
        obtain rfl := Option.some.inj e
        exact g_iret d_X11_task_63 rfl rfl
      · rcases ite_or e with ⟨c12, e⟩ | ⟨c12, e⟩
        · refine r_tableIn d_X11_task_19 (off := 45) (tgt := 64) (by rw [c12]; decide +kernel) (by rw [c12]; decide +kernel) (by rw [c12] <;> rfl) (by decide) ?_
          refine g_ald_n d_X11_task_64 rfl g0 ?_
          replace e := ckd e
          obtain ⟨k13, e⟩ := e
          refine g_getR d_X11_task_65 (f := 1256) k13 fk_10_158 rfl rfl ?_
          refine r_iload_n d_X11_task_68 rfl g3 ?_
          replace e := ckd e
          obtain ⟨k14, e⟩ := e
          replace e := ckd e
          obtain ⟨k15, e⟩ := e
          refine g_iald d_X11_task_69 k14 k15 rfl ?_
          obtain rfl := Option.some.inj e
          exact g_iret d_X11_task_70 rfl rfl
        · rcases ite_or e with ⟨c16, e⟩ | ⟨c16, e⟩
          · refine r_tableIn d_X11_task_19 (off := 52) (tgt := 71) (by rw [c16]; decide +kernel) (by rw [c16]; decide +kernel) (by rw [c16] <;> rfl) (by decide) ?_
            refine g_ald_n d_X11_task_71 rfl g0 ?_
            replace e := ckd e
            obtain ⟨k17, e⟩ := e
            refine g_getR d_X11_task_72 (f := 1254) k17 fk_10_152 rfl rfl ?_
            refine r_iload_n d_X11_task_75 rfl g3 ?_
            replace e := ckd e
            obtain ⟨k18, e⟩ := e
            replace e := ckd e
            obtain ⟨k19, e⟩ := e
            refine g_iald d_X11_task_76 k18 k19 rfl ?_
            obtain rfl := Option.some.inj e
            exact g_iret d_X11_task_77 rfl rfl
          · refine r_tableOut d_X11_task_19 (tgt := 78) (by have := lv_neT (a := 0) c5 (by decide +kernel); have := lv_neT (a := 1) c7 (by decide +kernel); have := lv_neT (a := 2) c12 (by decide +kernel); have := lv_neT (a := 3) c16 (by decide +kernel); omega) (by decide) ?_
            refine r_iconst d_X11_task_78 (v := (-1 : Int32)) (by decide +kernel) ?_
            obtain rfl := Option.some.inj e
            exact g_iret d_X11_task_79 rfl rfl
  · replace e := (if_pos c4).symm.trans e
    refine r_iconst d_X11_task_16 (v := (-1 : Int32)) (by decide +kernel) ?_
    obtain rfl := Option.some.inj e
    exact g_iret d_X11_task_17 rfl rfl

theorem c_X11_task {G : Gd} {j : Nat} (hj : 3 ≤ j) {l0 : Nat} {l1 : Int32} {l2 : Int32} {h : Hp} {o : (Int32 × Hp)} (e : f_X11_task l0 l1 l2 h = some o) : Cal G j Y_X11_task [zrf (l0), .int (l1), .int (l2)] h (some (.int o.1)) o.2 := Cal.of (n := 0) (I := false) (by first | exact Or.inl (by decide +kernel) | exact Or.inr (by decide +kernel)) (by decide) (by simp [lg_sl, zrf_cat, cat_int, cat_long]) (f_X11_task_ok hj _ _ _ _ h o (by simp [lv_args, zlk, zrf_cat, cat_int, cat_long]) (by simp [lv_args, zlk, zrf_cat, cat_int, cat_long]) (by simp [lv_args, zlk, zrf_cat, cat_int, cat_long]) e)
def f_X11_from (l0 : Int32) (l1 : Int32) (h : Hp) : Option (Int32 × Hp) := (f_X11_numberOf (l0) (h)).bind (fun q1 => some (((-1 : Int32)) - ((((64 : Int32)) * (q1.1)) + (l1)), q1.2))
theorem f_X11_from_ok {G : Gd} {d : Nat} (hj : 2 ≤ d) : ∀ (l0 : Int32) (l1 : Int32) (L : List (Nat × Value)) (h : Hp) (o : (Int32 × Hp)), zlk L 0 = some (.int (l0)) → zlk L 1 = some (.int (l1)) → f_X11_from l0 l1 h = some o → Ev G M_X11_from d 0 L [] h (Ret Y_X11_from (some (.int o.1)) o.2) := by
  intro l0 l1 L h o g0 g1 e
  unfold f_X11_from at e
  refine r_iconst d_X11_from_0 (v := (-1 : Int32)) (by decide +kernel) ?_
  refine r_bipush d_X11_from_1 (v := (64 : Int32)) (by decide +kernel) ?_
  refine r_iload_n d_X11_from_3 rfl g0 ?_
  replace e := bd e
  obtain ⟨q1, eq1, e⟩ := e
  refine g_callS d_X11_from_4 sk_10_372 (as := [_]) rfl rfl (by simp [zrf_cat, cat_int, cat_long]) (j := 1) (by omega) (c_X11_numberOf (by omega) eq1) ?_
  refine r_imul d_X11_from_7 ?_
  refine r_iload_n d_X11_from_8 rfl g1 ?_
  refine r_iadd d_X11_from_9 ?_
  refine r_isub d_X11_from_10 ?_
  obtain rfl := Option.some.inj e
  exact g_iret d_X11_from_11 rfl rfl

theorem c_X11_from {G : Gd} {j : Nat} (hj : 2 ≤ j) {l0 : Int32} {l1 : Int32} {h : Hp} {o : (Int32 × Hp)} (e : f_X11_from l0 l1 h = some o) : Cal G j Y_X11_from [.int (l0), .int (l1)] h (some (.int o.1)) o.2 := Cal.of (n := 0) (I := false) (by first | exact Or.inl (by decide +kernel) | exact Or.inr (by decide +kernel)) (by decide) (by simp [lg_sl, zrf_cat, cat_int, cat_long]) (f_X11_from_ok hj _ _ _ h o (by simp [lv_args, zlk, zrf_cat, cat_int, cat_long]) (by simp [lv_args, zlk, zrf_cat, cat_int, cat_long]) e)
