abbrev Y_X11_tells : Yx := (⟨"TaskWeaveModel", "tells", "(III)Z"⟩, prog_13_method_83_code, 4, (some .boolean))
abbrev M_X11_tells : Mx := ("TaskWeaveModel", prog_13_method_83_code, 4, false)
theorem yk_X11_tells : Yk Y_X11_tells 3 := ⟨by decide +kernel, by decide +kernel, ⟨by decide, by decide⟩, by decide +kernel, by decide, trivial⟩
theorem d_X11_tells_0 : decode prog_13_method_83_code 0 = .ok (.aload_n 0, 1) := by decide +kernel
theorem d_X11_tells_1 : decode prog_13_method_83_code 1 = .ok (.getfield 119, 3) := by decide +kernel
theorem d_X11_tells_4 : decode prog_13_method_83_code 4 = .ok (.iload_n 1, 1) := by decide +kernel
theorem d_X11_tells_5 : decode prog_13_method_83_code 5 = .ok (.iaload, 1) := by decide +kernel
theorem d_X11_tells_6 : decode prog_13_method_83_code 6 = .ok (.iconst 4, 1) := by decide +kernel
theorem d_X11_tells_7 : decode prog_13_method_83_code 7 = .ok (.if_icmp .eq 32, 3) := by decide +kernel
theorem d_X11_tells_10 : decode prog_13_method_83_code 10 = .ok (.aload_n 0, 1) := by decide +kernel
theorem d_X11_tells_11 : decode prog_13_method_83_code 11 = .ok (.iload_n 1, 1) := by decide +kernel
theorem d_X11_tells_12 : decode prog_13_method_83_code 12 = .ok (.iload_n 2, 1) := by decide +kernel
theorem d_X11_tells_13 : decode prog_13_method_83_code 13 = .ok (.aload_n 0, 1) := by decide +kernel
theorem d_X11_tells_14 : decode prog_13_method_83_code 14 = .ok (.getfield 113, 3) := by decide +kernel
theorem d_X11_tells_17 : decode prog_13_method_83_code 17 = .ok (.iload_n 1, 1) := by decide +kernel
theorem d_X11_tells_18 : decode prog_13_method_83_code 18 = .ok (.iaload, 1) := by decide +kernel
theorem d_X11_tells_19 : decode prog_13_method_83_code 19 = .ok (.invokevirtual 360, 3) := by decide +kernel
theorem d_X11_tells_22 : decode prog_13_method_83_code 22 = .ok (.iconst (-1), 1) := by decide +kernel
theorem d_X11_tells_23 : decode prog_13_method_83_code 23 = .ok (.if_icmp .ne 16, 3) := by decide +kernel
theorem d_X11_tells_26 : decode prog_13_method_83_code 26 = .ok (.aload_n 0, 1) := by decide +kernel
theorem d_X11_tells_27 : decode prog_13_method_83_code 27 = .ok (.iload_n 1, 1) := by decide +kernel
theorem d_X11_tells_28 : decode prog_13_method_83_code 28 = .ok (.bipush 7, 2) := by decide +kernel
theorem d_X11_tells_30 : decode prog_13_method_83_code 30 = .ok (.iload_n 2, 1) := by decide +kernel
theorem d_X11_tells_31 : decode prog_13_method_83_code 31 = .ok (.iload_n 3, 1) := by decide +kernel
theorem d_X11_tells_32 : decode prog_13_method_83_code 32 = .ok (.iconst 0, 1) := by decide +kernel
theorem d_X11_tells_33 : decode prog_13_method_83_code 33 = .ok (.invokevirtual 394, 3) := by decide +kernel
theorem d_X11_tells_36 : decode prog_13_method_83_code 36 = .ok (.ifCond .eq 7, 3) := by decide +kernel
theorem d_X11_tells_39 : decode prog_13_method_83_code 39 = .ok (.iconst 1, 1) := by decide +kernel
theorem d_X11_tells_40 : decode prog_13_method_83_code 40 = .ok (.goto 4, 3) := by decide +kernel
theorem d_X11_tells_43 : decode prog_13_method_83_code 43 = .ok (.iconst 0, 1) := by decide +kernel
theorem d_X11_tells_44 : decode prog_13_method_83_code 44 = .ok (.ireturn, 1) := by decide +kernel
abbrev Y_X11_bears : Yx := (⟨"TaskWeaveModel", "bears", "(IIII)Z"⟩, prog_13_method_81_code, 6, (some .boolean))
abbrev M_X11_bears : Mx := ("TaskWeaveModel", prog_13_method_81_code, 6, false)
theorem yk_X11_bears : Yk Y_X11_bears 4 := ⟨by decide +kernel, by decide +kernel, ⟨by decide, by decide⟩, by decide +kernel, by decide, trivial⟩
theorem d_X11_bears_0 : decode prog_13_method_81_code 0 = .ok (.iload_n 1, 1) := by decide +kernel
theorem d_X11_bears_1 : decode prog_13_method_81_code 1 = .ok (.bipush 16, 2) := by decide +kernel
theorem d_X11_bears_3 : decode prog_13_method_81_code 3 = .ok (.idiv, 1) := by decide +kernel
theorem d_X11_bears_4 : decode prog_13_method_81_code 4 = .ok (.iload_n 3, 1) := by decide +kernel
theorem d_X11_bears_5 : decode prog_13_method_81_code 5 = .ok (.iadd, 1) := by decide +kernel
theorem d_X11_bears_6 : decode prog_13_method_81_code 6 = .ok (.iconst 4, 1) := by decide +kernel
theorem d_X11_bears_7 : decode prog_13_method_81_code 7 = .ok (.irem, 1) := by decide +kernel
theorem d_X11_bears_8 : decode prog_13_method_81_code 8 = .ok (.istore 5, 2) := by decide +kernel
theorem d_X11_bears_10 : decode prog_13_method_81_code 10 = .ok (.aload_n 0, 1) := by decide +kernel
theorem d_X11_bears_11 : decode prog_13_method_81_code 11 = .ok (.getfield 101, 3) := by decide +kernel
theorem d_X11_bears_14 : decode prog_13_method_81_code 14 = .ok (.iload 5, 2) := by decide +kernel
theorem d_X11_bears_16 : decode prog_13_method_81_code 16 = .ok (.iaload, 1) := by decide +kernel
theorem d_X11_bears_17 : decode prog_13_method_81_code 17 = .ok (.iconst (-1), 1) := by decide +kernel
theorem d_X11_bears_18 : decode prog_13_method_81_code 18 = .ok (.if_icmp .ne 5, 3) := by decide +kernel
theorem d_X11_bears_21 : decode prog_13_method_81_code 21 = .ok (.iconst 0, 1) := by decide +kernel
theorem d_X11_bears_22 : decode prog_13_method_81_code 22 = .ok (.ireturn, 1) := by decide +kernel
theorem d_X11_bears_23 : decode prog_13_method_81_code 23 = .ok (.aload_n 0, 1) := by decide +kernel
theorem d_X11_bears_24 : decode prog_13_method_81_code 24 = .ok (.iload 5, 2) := by decide +kernel
theorem d_X11_bears_26 : decode prog_13_method_81_code 26 = .ok (.iload_n 1, 1) := by decide +kernel
theorem d_X11_bears_27 : decode prog_13_method_81_code 27 = .ok (.iload_n 2, 1) := by decide +kernel
theorem d_X11_bears_28 : decode prog_13_method_81_code 28 = .ok (.invokestatic 433, 3) := by decide +kernel
theorem d_X11_bears_31 : decode prog_13_method_81_code 31 = .ok (.invokevirtual 375, 3) := by decide +kernel
theorem d_X11_bears_34 : decode prog_13_method_81_code 34 = .ok (.iconst (-1), 1) := by decide +kernel
theorem d_X11_bears_35 : decode prog_13_method_81_code 35 = .ok (.if_icmp .ne 19, 3) := by decide +kernel
theorem d_X11_bears_38 : decode prog_13_method_81_code 38 = .ok (.aload_n 0, 1) := by decide +kernel
theorem d_X11_bears_39 : decode prog_13_method_81_code 39 = .ok (.iload_n 1, 1) := by decide +kernel
theorem d_X11_bears_40 : decode prog_13_method_81_code 40 = .ok (.iload_n 2, 1) := by decide +kernel
theorem d_X11_bears_41 : decode prog_13_method_81_code 41 = .ok (.aload_n 0, 1) := by decide +kernel
theorem d_X11_bears_42 : decode prog_13_method_81_code 42 = .ok (.getfield 113, 3) := by decide +kernel
theorem d_X11_bears_45 : decode prog_13_method_81_code 45 = .ok (.iload_n 1, 1) := by decide +kernel
theorem d_X11_bears_46 : decode prog_13_method_81_code 46 = .ok (.iaload, 1) := by decide +kernel
theorem d_X11_bears_47 : decode prog_13_method_81_code 47 = .ok (.invokevirtual 360, 3) := by decide +kernel
theorem d_X11_bears_50 : decode prog_13_method_81_code 50 = .ok (.iconst (-1), 1) := by decide +kernel
theorem d_X11_bears_51 : decode prog_13_method_81_code 51 = .ok (.if_icmp .eq 5, 3) := by decide +kernel
theorem d_X11_bears_54 : decode prog_13_method_81_code 54 = .ok (.iconst 1, 1) := by decide +kernel
theorem d_X11_bears_55 : decode prog_13_method_81_code 55 = .ok (.ireturn, 1) := by decide +kernel
theorem d_X11_bears_56 : decode prog_13_method_81_code 56 = .ok (.aload_n 0, 1) := by decide +kernel
theorem d_X11_bears_57 : decode prog_13_method_81_code 57 = .ok (.getfield 107, 3) := by decide +kernel
theorem d_X11_bears_60 : decode prog_13_method_81_code 60 = .ok (.iload 5, 2) := by decide +kernel
theorem d_X11_bears_62 : decode prog_13_method_81_code 62 = .ok (.iaload, 1) := by decide +kernel
theorem d_X11_bears_63 : decode prog_13_method_81_code 63 = .ok (.bipush 16, 2) := by decide +kernel
theorem d_X11_bears_65 : decode prog_13_method_81_code 65 = .ok (.if_icmp .ge 42, 3) := by decide +kernel
theorem d_X11_bears_68 : decode prog_13_method_81_code 68 = .ok (.aload_n 0, 1) := by decide +kernel
theorem d_X11_bears_69 : decode prog_13_method_81_code 69 = .ok (.getfield 29, 3) := by decide +kernel
theorem d_X11_bears_72 : decode prog_13_method_81_code 72 = .ok (.iload_n 3, 1) := by decide +kernel
theorem d_X11_bears_73 : decode prog_13_method_81_code 73 = .ok (.iaload, 1) := by decide +kernel
theorem d_X11_bears_74 : decode prog_13_method_81_code 74 = .ok (.iconst (-1), 1) := by decide +kernel
theorem d_X11_bears_75 : decode prog_13_method_81_code 75 = .ok (.if_icmp .eq 32, 3) := by decide +kernel
theorem d_X11_bears_78 : decode prog_13_method_81_code 78 = .ok (.aload_n 0, 1) := by decide +kernel
theorem d_X11_bears_79 : decode prog_13_method_81_code 79 = .ok (.iload 5, 2) := by decide +kernel
theorem d_X11_bears_81 : decode prog_13_method_81_code 81 = .ok (.aload_n 0, 1) := by decide +kernel
theorem d_X11_bears_82 : decode prog_13_method_81_code 82 = .ok (.getfield 29, 3) := by decide +kernel
theorem d_X11_bears_85 : decode prog_13_method_81_code 85 = .ok (.iload_n 3, 1) := by decide +kernel
theorem d_X11_bears_86 : decode prog_13_method_81_code 86 = .ok (.iaload, 1) := by decide +kernel
theorem d_X11_bears_87 : decode prog_13_method_81_code 87 = .ok (.iload 4, 2) := by decide +kernel
theorem d_X11_bears_89 : decode prog_13_method_81_code 89 = .ok (.iload_n 1, 1) := by decide +kernel
theorem d_X11_bears_90 : decode prog_13_method_81_code 90 = .ok (.iload_n 2, 1) := by decide +kernel
theorem d_X11_bears_91 : decode prog_13_method_81_code 91 = .ok (.invokestatic 433, 3) := by decide +kernel
theorem d_X11_bears_94 : decode prog_13_method_81_code 94 = .ok (.invokevirtual 378, 3) := by decide +kernel
theorem d_X11_bears_97 : decode prog_13_method_81_code 97 = .ok (.iconst (-1), 1) := by decide +kernel
theorem d_X11_bears_98 : decode prog_13_method_81_code 98 = .ok (.if_icmp .eq 7, 3) := by decide +kernel
theorem d_X11_bears_101 : decode prog_13_method_81_code 101 = .ok (.iconst 1, 1) := by decide +kernel
theorem d_X11_bears_102 : decode prog_13_method_81_code 102 = .ok (.goto 4, 3) := by decide +kernel
theorem d_X11_bears_105 : decode prog_13_method_81_code 105 = .ok (.iconst 0, 1) := by decide +kernel
theorem d_X11_bears_106 : decode prog_13_method_81_code 106 = .ok (.ireturn, 1) := by decide +kernel
theorem d_X11_bears_107 : decode prog_13_method_81_code 107 = .ok (.aload_n 0, 1) := by decide +kernel
theorem d_X11_bears_108 : decode prog_13_method_81_code 108 = .ok (.iload_n 1, 1) := by decide +kernel
theorem d_X11_bears_109 : decode prog_13_method_81_code 109 = .ok (.iload_n 2, 1) := by decide +kernel
theorem d_X11_bears_110 : decode prog_13_method_81_code 110 = .ok (.bipush (-3), 2) := by decide +kernel
theorem d_X11_bears_112 : decode prog_13_method_81_code 112 = .ok (.invokevirtual 438, 3) := by decide +kernel
theorem d_X11_bears_115 : decode prog_13_method_81_code 115 = .ok (.ireturn, 1) := by decide +kernel
abbrev Y_X11_childOf : Yx := (⟨"TaskWeaveModel", "childOf", "(II)I"⟩, prog_13_method_77_code, 5, (some .int))
abbrev M_X11_childOf : Mx := ("TaskWeaveModel", prog_13_method_77_code, 5, false)
theorem yk_X11_childOf : Yk Y_X11_childOf 2 := ⟨by decide +kernel, by decide +kernel, ⟨by decide, by decide⟩, by decide +kernel, by decide, trivial⟩
theorem d_X11_childOf_0 : decode prog_13_method_77_code 0 = .ok (.iconst 0, 1) := by decide +kernel
theorem d_X11_childOf_1 : decode prog_13_method_77_code 1 = .ok (.istore_n 3, 1) := by decide +kernel
theorem d_X11_childOf_2 : decode prog_13_method_77_code 2 = .ok (.iconst 0, 1) := by decide +kernel
theorem d_X11_childOf_3 : decode prog_13_method_77_code 3 = .ok (.istore 4, 2) := by decide +kernel
theorem d_X11_childOf_5 : decode prog_13_method_77_code 5 = .ok (.iload 4, 2) := by decide +kernel
theorem d_X11_childOf_7 : decode prog_13_method_77_code 7 = .ok (.iload_n 2, 1) := by decide +kernel
theorem d_X11_childOf_8 : decode prog_13_method_77_code 8 = .ok (.if_icmp .ge 33, 3) := by decide +kernel
theorem d_X11_childOf_11 : decode prog_13_method_77_code 11 = .ok (.iload_n 3, 1) := by decide +kernel
theorem d_X11_childOf_12 : decode prog_13_method_77_code 12 = .ok (.aload_n 0, 1) := by decide +kernel
theorem d_X11_childOf_13 : decode prog_13_method_77_code 13 = .ok (.aload_n 0, 1) := by decide +kernel
theorem d_X11_childOf_14 : decode prog_13_method_77_code 14 = .ok (.iload_n 1, 1) := by decide +kernel
theorem d_X11_childOf_15 : decode prog_13_method_77_code 15 = .ok (.iload 4, 2) := by decide +kernel
theorem d_X11_childOf_17 : decode prog_13_method_77_code 17 = .ok (.invokevirtual 305, 3) := by decide +kernel
theorem d_X11_childOf_20 : decode prog_13_method_77_code 20 = .ok (.invokevirtual 286, 3) := by decide +kernel
theorem d_X11_childOf_23 : decode prog_13_method_77_code 23 = .ok (.bipush 6, 2) := by decide +kernel
theorem d_X11_childOf_25 : decode prog_13_method_77_code 25 = .ok (.if_icmp .ne 7, 3) := by decide +kernel
theorem d_X11_childOf_28 : decode prog_13_method_77_code 28 = .ok (.iconst 1, 1) := by decide +kernel
theorem d_X11_childOf_29 : decode prog_13_method_77_code 29 = .ok (.goto 4, 3) := by decide +kernel
theorem d_X11_childOf_32 : decode prog_13_method_77_code 32 = .ok (.iconst 0, 1) := by decide +kernel
theorem d_X11_childOf_33 : decode prog_13_method_77_code 33 = .ok (.iadd, 1) := by decide +kernel
theorem d_X11_childOf_34 : decode prog_13_method_77_code 34 = .ok (.istore_n 3, 1) := by decide +kernel
theorem d_X11_childOf_35 : decode prog_13_method_77_code 35 = .ok (.iinc 4 1, 3) := by decide +kernel
theorem d_X11_childOf_38 : decode prog_13_method_77_code 38 = .ok (.goto (-33), 3) := by decide +kernel
theorem d_X11_childOf_41 : decode prog_13_method_77_code 41 = .ok (.iload_n 3, 1) := by decide +kernel
theorem d_X11_childOf_42 : decode prog_13_method_77_code 42 = .ok (.ireturn, 1) := by decide +kernel
abbrev Y_X11_programOf : Yx := (⟨"TaskWeaveModel", "programOf", "(II)I"⟩, prog_13_method_78_code, 5, (some .int))
abbrev M_X11_programOf : Mx := ("TaskWeaveModel", prog_13_method_78_code, 5, false)
theorem yk_X11_programOf : Yk Y_X11_programOf 2 := ⟨by decide +kernel, by decide +kernel, ⟨by decide, by decide⟩, by decide +kernel, by decide, trivial⟩
theorem d_X11_programOf_0 : decode prog_13_method_78_code 0 = .ok (.iconst 0, 1) := by decide +kernel
theorem d_X11_programOf_1 : decode prog_13_method_78_code 1 = .ok (.istore_n 3, 1) := by decide +kernel
theorem d_X11_programOf_2 : decode prog_13_method_78_code 2 = .ok (.iload_n 2, 1) := by decide +kernel
theorem d_X11_programOf_3 : decode prog_13_method_78_code 3 = .ok (.istore 4, 2) := by decide +kernel
theorem d_X11_programOf_5 : decode prog_13_method_78_code 5 = .ok (.iload 4, 2) := by decide +kernel
theorem d_X11_programOf_7 : decode prog_13_method_78_code 7 = .ok (.ifCond .gt 18, 3) := by decide +kernel
theorem d_X11_programOf_10 : decode prog_13_method_78_code 10 = .ok (.aload_n 0, 1) := by decide +kernel
theorem d_X11_programOf_11 : decode prog_13_method_78_code 11 = .ok (.aload_n 0, 1) := by decide +kernel
theorem d_X11_programOf_12 : decode prog_13_method_78_code 12 = .ok (.iload_n 1, 1) := by decide +kernel
theorem d_X11_programOf_13 : decode prog_13_method_78_code 13 = .ok (.iload_n 3, 1) := by decide +kernel
theorem d_X11_programOf_14 : decode prog_13_method_78_code 14 = .ok (.invokevirtual 305, 3) := by decide +kernel
theorem d_X11_programOf_17 : decode prog_13_method_78_code 17 = .ok (.invokevirtual 286, 3) := by decide +kernel
theorem d_X11_programOf_20 : decode prog_13_method_78_code 20 = .ok (.bipush 6, 2) := by decide +kernel
theorem d_X11_programOf_22 : decode prog_13_method_78_code 22 = .ok (.if_icmp .eq 34, 3) := by decide +kernel
theorem d_X11_programOf_25 : decode prog_13_method_78_code 25 = .ok (.iload 4, 2) := by decide +kernel
theorem d_X11_programOf_27 : decode prog_13_method_78_code 27 = .ok (.aload_n 0, 1) := by decide +kernel
theorem d_X11_programOf_28 : decode prog_13_method_78_code 28 = .ok (.aload_n 0, 1) := by decide +kernel
theorem d_X11_programOf_29 : decode prog_13_method_78_code 29 = .ok (.iload_n 1, 1) := by decide +kernel
theorem d_X11_programOf_30 : decode prog_13_method_78_code 30 = .ok (.iload_n 3, 1) := by decide +kernel
theorem d_X11_programOf_31 : decode prog_13_method_78_code 31 = .ok (.invokevirtual 305, 3) := by decide +kernel
theorem d_X11_programOf_34 : decode prog_13_method_78_code 34 = .ok (.invokevirtual 286, 3) := by decide +kernel
theorem d_X11_programOf_37 : decode prog_13_method_78_code 37 = .ok (.bipush 6, 2) := by decide +kernel
theorem d_X11_programOf_39 : decode prog_13_method_78_code 39 = .ok (.if_icmp .ne 7, 3) := by decide +kernel
theorem d_X11_programOf_42 : decode prog_13_method_78_code 42 = .ok (.iconst 1, 1) := by decide +kernel
theorem d_X11_programOf_43 : decode prog_13_method_78_code 43 = .ok (.goto 4, 3) := by decide +kernel
theorem d_X11_programOf_46 : decode prog_13_method_78_code 46 = .ok (.iconst 0, 1) := by decide +kernel
theorem d_X11_programOf_47 : decode prog_13_method_78_code 47 = .ok (.isub, 1) := by decide +kernel
theorem d_X11_programOf_48 : decode prog_13_method_78_code 48 = .ok (.istore 4, 2) := by decide +kernel
theorem d_X11_programOf_50 : decode prog_13_method_78_code 50 = .ok (.iinc 3 1, 3) := by decide +kernel
theorem d_X11_programOf_53 : decode prog_13_method_78_code 53 = .ok (.goto (-48), 3) := by decide +kernel
theorem d_X11_programOf_56 : decode prog_13_method_78_code 56 = .ok (.aload_n 0, 1) := by decide +kernel
theorem d_X11_programOf_57 : decode prog_13_method_78_code 57 = .ok (.getfield 70, 3) := by decide +kernel
theorem d_X11_programOf_60 : decode prog_13_method_78_code 60 = .ok (.aload_n 0, 1) := by decide +kernel
theorem d_X11_programOf_61 : decode prog_13_method_78_code 61 = .ok (.iload_n 1, 1) := by decide +kernel
theorem d_X11_programOf_62 : decode prog_13_method_78_code 62 = .ok (.iload_n 3, 1) := by decide +kernel
theorem d_X11_programOf_63 : decode prog_13_method_78_code 63 = .ok (.invokevirtual 305, 3) := by decide +kernel
theorem d_X11_programOf_66 : decode prog_13_method_78_code 66 = .ok (.iaload, 1) := by decide +kernel
theorem d_X11_programOf_67 : decode prog_13_method_78_code 67 = .ok (.ireturn, 1) := by decide +kernel
abbrev Y_X11_signals_ : Yx := (⟨"TaskWeaveModel", "signals", "(III)Z"⟩, prog_13_method_82_code, 4, (some .boolean))
abbrev M_X11_signals_ : Mx := ("TaskWeaveModel", prog_13_method_82_code, 4, false)
theorem yk_X11_signals_ : Yk Y_X11_signals_ 3 := ⟨by decide +kernel, by decide +kernel, ⟨by decide, by decide⟩, by decide +kernel, by decide, trivial⟩
theorem d_X11_signals__0 : decode prog_13_method_82_code 0 = .ok (.iload_n 1, 1) := by decide +kernel
theorem d_X11_signals__1 : decode prog_13_method_82_code 1 = .ok (.iconst (-1), 1) := by decide +kernel
theorem d_X11_signals__2 : decode prog_13_method_82_code 2 = .ok (.if_icmp .eq 35, 3) := by decide +kernel
theorem d_X11_signals__5 : decode prog_13_method_82_code 5 = .ok (.aload_n 0, 1) := by decide +kernel
theorem d_X11_signals__6 : decode prog_13_method_82_code 6 = .ok (.getfield 119, 3) := by decide +kernel
theorem d_X11_signals__9 : decode prog_13_method_82_code 9 = .ok (.iload_n 1, 1) := by decide +kernel
theorem d_X11_signals__10 : decode prog_13_method_82_code 10 = .ok (.iaload, 1) := by decide +kernel
theorem d_X11_signals__11 : decode prog_13_method_82_code 11 = .ok (.iconst 4, 1) := by decide +kernel
theorem d_X11_signals__12 : decode prog_13_method_82_code 12 = .ok (.if_icmp .eq 25, 3) := by decide +kernel
theorem d_X11_signals__15 : decode prog_13_method_82_code 15 = .ok (.aload_n 0, 1) := by decide +kernel
theorem d_X11_signals__16 : decode prog_13_method_82_code 16 = .ok (.iload_n 1, 1) := by decide +kernel
theorem d_X11_signals__17 : decode prog_13_method_82_code 17 = .ok (.iload_n 3, 1) := by decide +kernel
theorem d_X11_signals__18 : decode prog_13_method_82_code 18 = .ok (.invokevirtual 391, 3) := by decide +kernel
theorem d_X11_signals__21 : decode prog_13_method_82_code 21 = .ok (.ifCond .ne 16, 3) := by decide +kernel
theorem d_X11_signals__24 : decode prog_13_method_82_code 24 = .ok (.aload_n 0, 1) := by decide +kernel
theorem d_X11_signals__25 : decode prog_13_method_82_code 25 = .ok (.iload_n 1, 1) := by decide +kernel
theorem d_X11_signals__26 : decode prog_13_method_82_code 26 = .ok (.bipush 8, 2) := by decide +kernel
theorem d_X11_signals__28 : decode prog_13_method_82_code 28 = .ok (.iload_n 2, 1) := by decide +kernel
theorem d_X11_signals__29 : decode prog_13_method_82_code 29 = .ok (.iconst 0, 1) := by decide +kernel
theorem d_X11_signals__30 : decode prog_13_method_82_code 30 = .ok (.iload_n 3, 1) := by decide +kernel
theorem d_X11_signals__31 : decode prog_13_method_82_code 31 = .ok (.invokevirtual 394, 3) := by decide +kernel
theorem d_X11_signals__34 : decode prog_13_method_82_code 34 = .ok (.ifCond .eq 7, 3) := by decide +kernel
theorem d_X11_signals__37 : decode prog_13_method_82_code 37 = .ok (.iconst 1, 1) := by decide +kernel
theorem d_X11_signals__38 : decode prog_13_method_82_code 38 = .ok (.goto 4, 3) := by decide +kernel
theorem d_X11_signals__41 : decode prog_13_method_82_code 41 = .ok (.iconst 0, 1) := by decide +kernel
theorem d_X11_signals__42 : decode prog_13_method_82_code 42 = .ok (.ireturn, 1) := by decide +kernel
abbrev Y_X11_delivers : Yx := (⟨"TaskWeaveModel", "delivers", "(II)Z"⟩, prog_13_method_80_code, 7, (some .boolean))
abbrev M_X11_delivers : Mx := ("TaskWeaveModel", prog_13_method_80_code, 7, false)
theorem yk_X11_delivers : Yk Y_X11_delivers 2 := ⟨by decide +kernel, by decide +kernel, ⟨by decide, by decide⟩, by decide +kernel, by decide, trivial⟩
theorem d_X11_delivers_0 : decode prog_13_method_80_code 0 = .ok (.aload_n 0, 1) := by decide +kernel
theorem d_X11_delivers_1 : decode prog_13_method_80_code 1 = .ok (.iload_n 1, 1) := by decide +kernel
theorem d_X11_delivers_2 : decode prog_13_method_80_code 2 = .ok (.iload_n 2, 1) := by decide +kernel
theorem d_X11_delivers_3 : decode prog_13_method_80_code 3 = .ok (.invokevirtual 305, 3) := by decide +kernel
theorem d_X11_delivers_6 : decode prog_13_method_80_code 6 = .ok (.istore_n 3, 1) := by decide +kernel
theorem d_X11_delivers_7 : decode prog_13_method_80_code 7 = .ok (.aload_n 0, 1) := by decide +kernel
theorem d_X11_delivers_8 : decode prog_13_method_80_code 8 = .ok (.iload_n 3, 1) := by decide +kernel
theorem d_X11_delivers_9 : decode prog_13_method_80_code 9 = .ok (.invokevirtual 286, 3) := by decide +kernel
theorem d_X11_delivers_12 : decode prog_13_method_80_code 12 = .ok (.istore 4, 2) := by decide +kernel
theorem d_X11_delivers_14 : decode prog_13_method_80_code 14 = .ok (.iload 4, 2) := by decide +kernel
theorem d_X11_delivers_16 : decode prog_13_method_80_code 16 = .ok (.bipush 6, 2) := by decide +kernel
theorem d_X11_delivers_18 : decode prog_13_method_80_code 18 = .ok (.if_icmp .ne 27, 3) := by decide +kernel
theorem d_X11_delivers_21 : decode prog_13_method_80_code 21 = .ok (.aload_n 0, 1) := by decide +kernel
theorem d_X11_delivers_22 : decode prog_13_method_80_code 22 = .ok (.iload_n 1, 1) := by decide +kernel
theorem d_X11_delivers_23 : decode prog_13_method_80_code 23 = .ok (.aload_n 0, 1) := by decide +kernel
theorem d_X11_delivers_24 : decode prog_13_method_80_code 24 = .ok (.iload_n 1, 1) := by decide +kernel
theorem d_X11_delivers_25 : decode prog_13_method_80_code 25 = .ok (.iload_n 2, 1) := by decide +kernel
theorem d_X11_delivers_26 : decode prog_13_method_80_code 26 = .ok (.invokevirtual 424, 3) := by decide +kernel
theorem d_X11_delivers_29 : decode prog_13_method_80_code 29 = .ok (.aload_n 0, 1) := by decide +kernel
theorem d_X11_delivers_30 : decode prog_13_method_80_code 30 = .ok (.getfield 70, 3) := by decide +kernel
theorem d_X11_delivers_33 : decode prog_13_method_80_code 33 = .ok (.iload_n 3, 1) := by decide +kernel
theorem d_X11_delivers_34 : decode prog_13_method_80_code 34 = .ok (.iaload, 1) := by decide +kernel
theorem d_X11_delivers_35 : decode prog_13_method_80_code 35 = .ok (.aload_n 0, 1) := by decide +kernel
theorem d_X11_delivers_36 : decode prog_13_method_80_code 36 = .ok (.getfield 73, 3) := by decide +kernel
theorem d_X11_delivers_39 : decode prog_13_method_80_code 39 = .ok (.iload_n 3, 1) := by decide +kernel
theorem d_X11_delivers_40 : decode prog_13_method_80_code 40 = .ok (.iaload, 1) := by decide +kernel
theorem d_X11_delivers_41 : decode prog_13_method_80_code 41 = .ok (.invokevirtual 427, 3) := by decide +kernel
theorem d_X11_delivers_44 : decode prog_13_method_80_code 44 = .ok (.ireturn, 1) := by decide +kernel
theorem d_X11_delivers_45 : decode prog_13_method_80_code 45 = .ok (.iload 4, 2) := by decide +kernel
theorem d_X11_delivers_47 : decode prog_13_method_80_code 47 = .ok (.bipush 9, 2) := by decide +kernel
theorem d_X11_delivers_49 : decode prog_13_method_80_code 49 = .ok (.if_icmp .ne 83, 3) := by decide +kernel
theorem d_X11_delivers_52 : decode prog_13_method_80_code 52 = .ok (.aload_n 0, 1) := by decide +kernel
theorem d_X11_delivers_53 : decode prog_13_method_80_code 53 = .ok (.getfield 70, 3) := by decide +kernel
theorem d_X11_delivers_56 : decode prog_13_method_80_code 56 = .ok (.iload_n 3, 1) := by decide +kernel
theorem d_X11_delivers_57 : decode prog_13_method_80_code 57 = .ok (.iaload, 1) := by decide +kernel
theorem d_X11_delivers_58 : decode prog_13_method_80_code 58 = .ok (.ifCond .lt 74, 3) := by decide +kernel
theorem d_X11_delivers_61 : decode prog_13_method_80_code 61 = .ok (.iload_n 1, 1) := by decide +kernel
theorem d_X11_delivers_62 : decode prog_13_method_80_code 62 = .ok (.bipush 16, 2) := by decide +kernel
theorem d_X11_delivers_64 : decode prog_13_method_80_code 64 = .ok (.idiv, 1) := by decide +kernel
theorem d_X11_delivers_65 : decode prog_13_method_80_code 65 = .ok (.aload_n 0, 1) := by decide +kernel
theorem d_X11_delivers_66 : decode prog_13_method_80_code 66 = .ok (.iload_n 1, 1) := by decide +kernel
theorem d_X11_delivers_67 : decode prog_13_method_80_code 67 = .ok (.aload_n 0, 1) := by decide +kernel
theorem d_X11_delivers_68 : decode prog_13_method_80_code 68 = .ok (.getfield 70, 3) := by decide +kernel
theorem d_X11_delivers_71 : decode prog_13_method_80_code 71 = .ok (.iload_n 3, 1) := by decide +kernel
theorem d_X11_delivers_72 : decode prog_13_method_80_code 72 = .ok (.iaload, 1) := by decide +kernel
theorem d_X11_delivers_73 : decode prog_13_method_80_code 73 = .ok (.invokevirtual 430, 3) := by decide +kernel
theorem d_X11_delivers_76 : decode prog_13_method_80_code 76 = .ok (.iadd, 1) := by decide +kernel
theorem d_X11_delivers_77 : decode prog_13_method_80_code 77 = .ok (.iconst 4, 1) := by decide +kernel
theorem d_X11_delivers_78 : decode prog_13_method_80_code 78 = .ok (.irem, 1) := by decide +kernel
theorem d_X11_delivers_79 : decode prog_13_method_80_code 79 = .ok (.istore 5, 2) := by decide +kernel
theorem d_X11_delivers_81 : decode prog_13_method_80_code 81 = .ok (.aload_n 0, 1) := by decide +kernel
theorem d_X11_delivers_82 : decode prog_13_method_80_code 82 = .ok (.getfield 101, 3) := by decide +kernel
theorem d_X11_delivers_85 : decode prog_13_method_80_code 85 = .ok (.iload 5, 2) := by decide +kernel
theorem d_X11_delivers_87 : decode prog_13_method_80_code 87 = .ok (.iaload, 1) := by decide +kernel
theorem d_X11_delivers_88 : decode prog_13_method_80_code 88 = .ok (.iconst (-1), 1) := by decide +kernel
theorem d_X11_delivers_89 : decode prog_13_method_80_code 89 = .ok (.if_icmp .eq 41, 3) := by decide +kernel
theorem d_X11_delivers_92 : decode prog_13_method_80_code 92 = .ok (.aload_n 0, 1) := by decide +kernel
theorem d_X11_delivers_93 : decode prog_13_method_80_code 93 = .ok (.aload_n 0, 1) := by decide +kernel
theorem d_X11_delivers_94 : decode prog_13_method_80_code 94 = .ok (.iload 5, 2) := by decide +kernel
theorem d_X11_delivers_96 : decode prog_13_method_80_code 96 = .ok (.iload_n 1, 1) := by decide +kernel
theorem d_X11_delivers_97 : decode prog_13_method_80_code 97 = .ok (.aload_n 0, 1) := by decide +kernel
theorem d_X11_delivers_98 : decode prog_13_method_80_code 98 = .ok (.getfield 70, 3) := by decide +kernel
theorem d_X11_delivers_101 : decode prog_13_method_80_code 101 = .ok (.iload_n 3, 1) := by decide +kernel
theorem d_X11_delivers_102 : decode prog_13_method_80_code 102 = .ok (.iaload, 1) := by decide +kernel
theorem d_X11_delivers_103 : decode prog_13_method_80_code 103 = .ok (.invokestatic 433, 3) := by decide +kernel
theorem d_X11_delivers_106 : decode prog_13_method_80_code 106 = .ok (.invokevirtual 375, 3) := by decide +kernel
theorem d_X11_delivers_109 : decode prog_13_method_80_code 109 = .ok (.aload_n 0, 1) := by decide +kernel
theorem d_X11_delivers_110 : decode prog_13_method_80_code 110 = .ok (.getfield 73, 3) := by decide +kernel
theorem d_X11_delivers_113 : decode prog_13_method_80_code 113 = .ok (.iload_n 3, 1) := by decide +kernel
theorem d_X11_delivers_114 : decode prog_13_method_80_code 114 = .ok (.iaload, 1) := by decide +kernel
theorem d_X11_delivers_115 : decode prog_13_method_80_code 115 = .ok (.iload_n 1, 1) := by decide +kernel
theorem d_X11_delivers_116 : decode prog_13_method_80_code 116 = .ok (.iload_n 2, 1) := by decide +kernel
theorem d_X11_delivers_117 : decode prog_13_method_80_code 117 = .ok (.invokestatic 433, 3) := by decide +kernel
theorem d_X11_delivers_120 : decode prog_13_method_80_code 120 = .ok (.invokevirtual 436, 3) := by decide +kernel
theorem d_X11_delivers_123 : decode prog_13_method_80_code 123 = .ok (.ifCond .eq 7, 3) := by decide +kernel
theorem d_X11_delivers_126 : decode prog_13_method_80_code 126 = .ok (.iconst 1, 1) := by decide +kernel
theorem d_X11_delivers_127 : decode prog_13_method_80_code 127 = .ok (.goto 4, 3) := by decide +kernel
theorem d_X11_delivers_130 : decode prog_13_method_80_code 130 = .ok (.iconst 0, 1) := by decide +kernel
theorem d_X11_delivers_131 : decode prog_13_method_80_code 131 = .ok (.ireturn, 1) := by decide +kernel
theorem d_X11_delivers_132 : decode prog_13_method_80_code 132 = .ok (.aload_n 0, 1) := by decide +kernel
theorem d_X11_delivers_133 : decode prog_13_method_80_code 133 = .ok (.iload_n 1, 1) := by decide +kernel
theorem d_X11_delivers_134 : decode prog_13_method_80_code 134 = .ok (.invokevirtual 302, 3) := by decide +kernel
theorem d_X11_delivers_137 : decode prog_13_method_80_code 137 = .ok (.istore 5, 2) := by decide +kernel
theorem d_X11_delivers_139 : decode prog_13_method_80_code 139 = .ok (.aload_n 0, 1) := by decide +kernel
theorem d_X11_delivers_140 : decode prog_13_method_80_code 140 = .ok (.getfield 101, 3) := by decide +kernel
theorem d_X11_delivers_143 : decode prog_13_method_80_code 143 = .ok (.iload 5, 2) := by decide +kernel
theorem d_X11_delivers_145 : decode prog_13_method_80_code 145 = .ok (.iconst 4, 1) := by decide +kernel
theorem d_X11_delivers_146 : decode prog_13_method_80_code 146 = .ok (.irem, 1) := by decide +kernel
theorem d_X11_delivers_147 : decode prog_13_method_80_code 147 = .ok (.iaload, 1) := by decide +kernel
theorem d_X11_delivers_148 : decode prog_13_method_80_code 148 = .ok (.iconst (-1), 1) := by decide +kernel
theorem d_X11_delivers_149 : decode prog_13_method_80_code 149 = .ok (.if_icmp .ne 5, 3) := by decide +kernel
theorem d_X11_delivers_152 : decode prog_13_method_80_code 152 = .ok (.iconst 0, 1) := by decide +kernel
theorem d_X11_delivers_153 : decode prog_13_method_80_code 153 = .ok (.ireturn, 1) := by decide +kernel
theorem d_X11_delivers_154 : decode prog_13_method_80_code 154 = .ok (.aload_n 0, 1) := by decide +kernel
theorem d_X11_delivers_155 : decode prog_13_method_80_code 155 = .ok (.iload 5, 2) := by decide +kernel
theorem d_X11_delivers_157 : decode prog_13_method_80_code 157 = .ok (.invokevirtual 382, 3) := by decide +kernel
theorem d_X11_delivers_160 : decode prog_13_method_80_code 160 = .ok (.ifCond .eq 11, 3) := by decide +kernel
theorem d_X11_delivers_163 : decode prog_13_method_80_code 163 = .ok (.iload 5, 2) := by decide +kernel
theorem d_X11_delivers_165 : decode prog_13_method_80_code 165 = .ok (.invokestatic 385, 3) := by decide +kernel
theorem d_X11_delivers_168 : decode prog_13_method_80_code 168 = .ok (.goto 4, 3) := by decide +kernel
theorem d_X11_delivers_171 : decode prog_13_method_80_code 171 = .ok (.iconst (-1), 1) := by decide +kernel
theorem d_X11_delivers_172 : decode prog_13_method_80_code 172 = .ok (.istore 6, 2) := by decide +kernel
theorem d_X11_delivers_174 : decode prog_13_method_80_code 174 = .ok (.iload 4, 2) := by decide +kernel
theorem d_X11_delivers_176 : decode prog_13_method_80_code 176 = .ok (.bipush 9, 2) := by decide +kernel
theorem d_X11_delivers_178 : decode prog_13_method_80_code 178 = .ok (.if_icmp .ne 23, 3) := by decide +kernel
theorem d_X11_delivers_181 : decode prog_13_method_80_code 181 = .ok (.aload_n 0, 1) := by decide +kernel
theorem d_X11_delivers_182 : decode prog_13_method_80_code 182 = .ok (.iload 6, 2) := by decide +kernel
theorem d_X11_delivers_184 : decode prog_13_method_80_code 184 = .ok (.aload_n 0, 1) := by decide +kernel
theorem d_X11_delivers_185 : decode prog_13_method_80_code 185 = .ok (.getfield 73, 3) := by decide +kernel
theorem d_X11_delivers_188 : decode prog_13_method_80_code 188 = .ok (.iload_n 3, 1) := by decide +kernel
theorem d_X11_delivers_189 : decode prog_13_method_80_code 189 = .ok (.iaload, 1) := by decide +kernel
theorem d_X11_delivers_190 : decode prog_13_method_80_code 190 = .ok (.iload_n 1, 1) := by decide +kernel
theorem d_X11_delivers_191 : decode prog_13_method_80_code 191 = .ok (.iload_n 2, 1) := by decide +kernel
theorem d_X11_delivers_192 : decode prog_13_method_80_code 192 = .ok (.invokestatic 433, 3) := by decide +kernel
theorem d_X11_delivers_195 : decode prog_13_method_80_code 195 = .ok (.invokevirtual 436, 3) := by decide +kernel
theorem d_X11_delivers_198 : decode prog_13_method_80_code 198 = .ok (.goto 39, 3) := by decide +kernel
theorem d_X11_delivers_201 : decode prog_13_method_80_code 201 = .ok (.iload 6, 2) := by decide +kernel
theorem d_X11_delivers_203 : decode prog_13_method_80_code 203 = .ok (.iconst (-1), 1) := by decide +kernel
theorem d_X11_delivers_204 : decode prog_13_method_80_code 204 = .ok (.if_icmp .eq 28, 3) := by decide +kernel
theorem d_X11_delivers_207 : decode prog_13_method_80_code 207 = .ok (.aload_n 0, 1) := by decide +kernel
theorem d_X11_delivers_208 : decode prog_13_method_80_code 208 = .ok (.iload 6, 2) := by decide +kernel
theorem d_X11_delivers_210 : decode prog_13_method_80_code 210 = .ok (.iconst (-1), 1) := by decide +kernel
theorem d_X11_delivers_211 : decode prog_13_method_80_code 211 = .ok (.aload_n 0, 1) := by decide +kernel
theorem d_X11_delivers_212 : decode prog_13_method_80_code 212 = .ok (.iload_n 1, 1) := by decide +kernel
theorem d_X11_delivers_213 : decode prog_13_method_80_code 213 = .ok (.invokevirtual 309, 3) := by decide +kernel
theorem d_X11_delivers_216 : decode prog_13_method_80_code 216 = .ok (.isub, 1) := by decide +kernel
theorem d_X11_delivers_217 : decode prog_13_method_80_code 217 = .ok (.bipush 64, 2) := by decide +kernel
theorem d_X11_delivers_219 : decode prog_13_method_80_code 219 = .ok (.irem, 1) := by decide +kernel
theorem d_X11_delivers_220 : decode prog_13_method_80_code 220 = .ok (.aload_n 0, 1) := by decide +kernel
theorem d_X11_delivers_221 : decode prog_13_method_80_code 221 = .ok (.getfield 70, 3) := by decide +kernel
theorem d_X11_delivers_224 : decode prog_13_method_80_code 224 = .ok (.iload_n 3, 1) := by decide +kernel
theorem d_X11_delivers_225 : decode prog_13_method_80_code 225 = .ok (.iaload, 1) := by decide +kernel
theorem d_X11_delivers_226 : decode prog_13_method_80_code 226 = .ok (.invokevirtual 438, 3) := by decide +kernel
theorem d_X11_delivers_229 : decode prog_13_method_80_code 229 = .ok (.ifCond .eq 7, 3) := by decide +kernel
theorem d_X11_delivers_232 : decode prog_13_method_80_code 232 = .ok (.iconst 1, 1) := by decide +kernel
theorem d_X11_delivers_233 : decode prog_13_method_80_code 233 = .ok (.goto 4, 3) := by decide +kernel
theorem d_X11_delivers_236 : decode prog_13_method_80_code 236 = .ok (.iconst 0, 1) := by decide +kernel
theorem d_X11_delivers_237 : decode prog_13_method_80_code 237 = .ok (.ireturn, 1) := by decide +kernel
abbrev Y_X11_leaves : Yx := (⟨"TaskWeaveModel", "leaves", "(II)V"⟩, prog_13_method_76_code, 4, none)
abbrev M_X11_leaves : Mx := ("TaskWeaveModel", prog_13_method_76_code, 4, false)
theorem yk_X11_leaves : Yk Y_X11_leaves 2 := ⟨by decide +kernel, by decide +kernel, ⟨by decide, by decide⟩, by decide +kernel, by decide, trivial⟩
theorem d_X11_leaves_0 : decode prog_13_method_76_code 0 = .ok (.aload_n 0, 1) := by decide +kernel
theorem d_X11_leaves_1 : decode prog_13_method_76_code 1 = .ok (.getfield 161, 3) := by decide +kernel
theorem d_X11_leaves_4 : decode prog_13_method_76_code 4 = .ok (.iload_n 1, 1) := by decide +kernel
theorem d_X11_leaves_5 : decode prog_13_method_76_code 5 = .ok (.dup2, 1) := by decide +kernel
theorem d_X11_leaves_6 : decode prog_13_method_76_code 6 = .ok (.iaload, 1) := by decide +kernel
theorem d_X11_leaves_7 : decode prog_13_method_76_code 7 = .ok (.iconst 1, 1) := by decide +kernel
theorem d_X11_leaves_8 : decode prog_13_method_76_code 8 = .ok (.isub, 1) := by decide +kernel
theorem d_X11_leaves_9 : decode prog_13_method_76_code 9 = .ok (.iastore, 1) := by decide +kernel
theorem d_X11_leaves_10 : decode prog_13_method_76_code 10 = .ok (.iload_n 2, 1) := by decide +kernel
theorem d_X11_leaves_11 : decode prog_13_method_76_code 11 = .ok (.istore_n 3, 1) := by decide +kernel
theorem d_X11_leaves_12 : decode prog_13_method_76_code 12 = .ok (.iload_n 3, 1) := by decide +kernel
theorem d_X11_leaves_13 : decode prog_13_method_76_code 13 = .ok (.sipush 1024, 3) := by decide +kernel
theorem d_X11_leaves_16 : decode prog_13_method_76_code 16 = .ok (.iload_n 1, 1) := by decide +kernel
theorem d_X11_leaves_17 : decode prog_13_method_76_code 17 = .ok (.imul, 1) := by decide +kernel
theorem d_X11_leaves_18 : decode prog_13_method_76_code 18 = .ok (.aload_n 0, 1) := by decide +kernel
theorem d_X11_leaves_19 : decode prog_13_method_76_code 19 = .ok (.getfield 161, 3) := by decide +kernel
theorem d_X11_leaves_22 : decode prog_13_method_76_code 22 = .ok (.iload_n 1, 1) := by decide +kernel
theorem d_X11_leaves_23 : decode prog_13_method_76_code 23 = .ok (.iaload, 1) := by decide +kernel
theorem d_X11_leaves_24 : decode prog_13_method_76_code 24 = .ok (.iadd, 1) := by decide +kernel
theorem d_X11_leaves_25 : decode prog_13_method_76_code 25 = .ok (.if_icmp .ge 51, 3) := by decide +kernel
theorem d_X11_leaves_28 : decode prog_13_method_76_code 28 = .ok (.aload_n 0, 1) := by decide +kernel
theorem d_X11_leaves_29 : decode prog_13_method_76_code 29 = .ok (.getfield 164, 3) := by decide +kernel
theorem d_X11_leaves_32 : decode prog_13_method_76_code 32 = .ok (.iload_n 3, 1) := by decide +kernel
theorem d_X11_leaves_33 : decode prog_13_method_76_code 33 = .ok (.aload_n 0, 1) := by decide +kernel
theorem d_X11_leaves_34 : decode prog_13_method_76_code 34 = .ok (.getfield 164, 3) := by decide +kernel
theorem d_X11_leaves_37 : decode prog_13_method_76_code 37 = .ok (.iload_n 3, 1) := by decide +kernel
theorem d_X11_leaves_38 : decode prog_13_method_76_code 38 = .ok (.iconst 1, 1) := by decide +kernel
theorem d_X11_leaves_39 : decode prog_13_method_76_code 39 = .ok (.iadd, 1) := by decide +kernel
theorem d_X11_leaves_40 : decode prog_13_method_76_code 40 = .ok (.iaload, 1) := by decide +kernel
theorem d_X11_leaves_41 : decode prog_13_method_76_code 41 = .ok (.iastore, 1) := by decide +kernel
theorem d_X11_leaves_42 : decode prog_13_method_76_code 42 = .ok (.aload_n 0, 1) := by decide +kernel
theorem d_X11_leaves_43 : decode prog_13_method_76_code 43 = .ok (.getfield 167, 3) := by decide +kernel
theorem d_X11_leaves_46 : decode prog_13_method_76_code 46 = .ok (.iload_n 3, 1) := by decide +kernel
theorem d_X11_leaves_47 : decode prog_13_method_76_code 47 = .ok (.aload_n 0, 1) := by decide +kernel
theorem d_X11_leaves_48 : decode prog_13_method_76_code 48 = .ok (.getfield 167, 3) := by decide +kernel
theorem d_X11_leaves_51 : decode prog_13_method_76_code 51 = .ok (.iload_n 3, 1) := by decide +kernel
theorem d_X11_leaves_52 : decode prog_13_method_76_code 52 = .ok (.iconst 1, 1) := by decide +kernel
theorem d_X11_leaves_53 : decode prog_13_method_76_code 53 = .ok (.iadd, 1) := by decide +kernel
theorem d_X11_leaves_54 : decode prog_13_method_76_code 54 = .ok (.iaload, 1) := by decide +kernel
theorem d_X11_leaves_55 : decode prog_13_method_76_code 55 = .ok (.iastore, 1) := by decide +kernel
theorem d_X11_leaves_56 : decode prog_13_method_76_code 56 = .ok (.aload_n 0, 1) := by decide +kernel
theorem d_X11_leaves_57 : decode prog_13_method_76_code 57 = .ok (.getfield 170, 3) := by decide +kernel
theorem d_X11_leaves_60 : decode prog_13_method_76_code 60 = .ok (.iload_n 3, 1) := by decide +kernel
theorem d_X11_leaves_61 : decode prog_13_method_76_code 61 = .ok (.aload_n 0, 1) := by decide +kernel
theorem d_X11_leaves_62 : decode prog_13_method_76_code 62 = .ok (.getfield 170, 3) := by decide +kernel
theorem d_X11_leaves_65 : decode prog_13_method_76_code 65 = .ok (.iload_n 3, 1) := by decide +kernel
theorem d_X11_leaves_66 : decode prog_13_method_76_code 66 = .ok (.iconst 1, 1) := by decide +kernel
theorem d_X11_leaves_67 : decode prog_13_method_76_code 67 = .ok (.iadd, 1) := by decide +kernel
theorem d_X11_leaves_68 : decode prog_13_method_76_code 68 = .ok (.iaload, 1) := by decide +kernel
theorem d_X11_leaves_69 : decode prog_13_method_76_code 69 = .ok (.iastore, 1) := by decide +kernel
theorem d_X11_leaves_70 : decode prog_13_method_76_code 70 = .ok (.iinc 3 1, 3) := by decide +kernel
theorem d_X11_leaves_73 : decode prog_13_method_76_code 73 = .ok (.goto (-61), 3) := by decide +kernel
theorem d_X11_leaves_76 : decode prog_13_method_76_code 76 = .ok (.return_, 1) := by decide +kernel
abbrev Y_X11_outOf : Yx := (⟨"TaskWeaveModel", "outOf", "(II)I"⟩, prog_13_method_74_code, 4, (some .int))
abbrev M_X11_outOf : Mx := ("TaskWeaveModel", prog_13_method_74_code, 4, false)
theorem yk_X11_outOf : Yk Y_X11_outOf 2 := ⟨by decide +kernel, by decide +kernel, ⟨by decide, by decide⟩, by decide +kernel, by decide, trivial⟩
theorem d_X11_outOf_0 : decode prog_13_method_74_code 0 = .ok (.sipush 1024, 3) := by decide +kernel
theorem d_X11_outOf_3 : decode prog_13_method_74_code 3 = .ok (.iload_n 1, 1) := by decide +kernel
theorem d_X11_outOf_4 : decode prog_13_method_74_code 4 = .ok (.imul, 1) := by decide +kernel
theorem d_X11_outOf_5 : decode prog_13_method_74_code 5 = .ok (.istore_n 3, 1) := by decide +kernel
theorem d_X11_outOf_6 : decode prog_13_method_74_code 6 = .ok (.iload_n 3, 1) := by decide +kernel
theorem d_X11_outOf_7 : decode prog_13_method_74_code 7 = .ok (.sipush 1024, 3) := by decide +kernel
theorem d_X11_outOf_10 : decode prog_13_method_74_code 10 = .ok (.iload_n 1, 1) := by decide +kernel
theorem d_X11_outOf_11 : decode prog_13_method_74_code 11 = .ok (.imul, 1) := by decide +kernel
theorem d_X11_outOf_12 : decode prog_13_method_74_code 12 = .ok (.aload_n 0, 1) := by decide +kernel
theorem d_X11_outOf_13 : decode prog_13_method_74_code 13 = .ok (.getfield 161, 3) := by decide +kernel
theorem d_X11_outOf_16 : decode prog_13_method_74_code 16 = .ok (.iload_n 1, 1) := by decide +kernel
theorem d_X11_outOf_17 : decode prog_13_method_74_code 17 = .ok (.iaload, 1) := by decide +kernel
theorem d_X11_outOf_18 : decode prog_13_method_74_code 18 = .ok (.iadd, 1) := by decide +kernel
theorem d_X11_outOf_19 : decode prog_13_method_74_code 19 = .ok (.if_icmp .ge 21, 3) := by decide +kernel
theorem d_X11_outOf_22 : decode prog_13_method_74_code 22 = .ok (.aload_n 0, 1) := by decide +kernel
theorem d_X11_outOf_23 : decode prog_13_method_74_code 23 = .ok (.getfield 164, 3) := by decide +kernel
theorem d_X11_outOf_26 : decode prog_13_method_74_code 26 = .ok (.iload_n 3, 1) := by decide +kernel
theorem d_X11_outOf_27 : decode prog_13_method_74_code 27 = .ok (.iaload, 1) := by decide +kernel
theorem d_X11_outOf_28 : decode prog_13_method_74_code 28 = .ok (.iload_n 2, 1) := by decide +kernel
theorem d_X11_outOf_29 : decode prog_13_method_74_code 29 = .ok (.if_icmp .ne 5, 3) := by decide +kernel
theorem d_X11_outOf_32 : decode prog_13_method_74_code 32 = .ok (.iload_n 3, 1) := by decide +kernel
theorem d_X11_outOf_33 : decode prog_13_method_74_code 33 = .ok (.ireturn, 1) := by decide +kernel
theorem d_X11_outOf_34 : decode prog_13_method_74_code 34 = .ok (.iinc 3 1, 3) := by decide +kernel
theorem d_X11_outOf_37 : decode prog_13_method_74_code 37 = .ok (.goto (-31), 3) := by decide +kernel
theorem d_X11_outOf_40 : decode prog_13_method_74_code 40 = .ok (.iconst (-1), 1) := by decide +kernel
theorem d_X11_outOf_41 : decode prog_13_method_74_code 41 = .ok (.ireturn, 1) := by decide +kernel
abbrev Y_X11_messages : Yx := (⟨"TaskWeaveModel", "messages", "(I)V"⟩, prog_13_method_75_code, 5, none)
abbrev M_X11_messages : Mx := ("TaskWeaveModel", prog_13_method_75_code, 5, false)
theorem yk_X11_messages : Yk Y_X11_messages 1 := ⟨by decide +kernel, by decide +kernel, ⟨by decide, by decide⟩, by decide +kernel, by decide, trivial⟩
theorem d_X11_messages_0 : decode prog_13_method_75_code 0 = .ok (.aload_n 0, 1) := by decide +kernel
theorem d_X11_messages_1 : decode prog_13_method_75_code 1 = .ok (.getfield 161, 3) := by decide +kernel
theorem d_X11_messages_4 : decode prog_13_method_75_code 4 = .ok (.iload_n 1, 1) := by decide +kernel
theorem d_X11_messages_5 : decode prog_13_method_75_code 5 = .ok (.iaload, 1) := by decide +kernel
theorem d_X11_messages_6 : decode prog_13_method_75_code 6 = .ok (.istore_n 2, 1) := by decide +kernel
theorem d_X11_messages_7 : decode prog_13_method_75_code 7 = .ok (.iconst 0, 1) := by decide +kernel
theorem d_X11_messages_8 : decode prog_13_method_75_code 8 = .ok (.istore_n 3, 1) := by decide +kernel
theorem d_X11_messages_9 : decode prog_13_method_75_code 9 = .ok (.iload_n 3, 1) := by decide +kernel
theorem d_X11_messages_10 : decode prog_13_method_75_code 10 = .ok (.iload_n 2, 1) := by decide +kernel
theorem d_X11_messages_11 : decode prog_13_method_75_code 11 = .ok (.if_icmp .ge 27, 3) := by decide +kernel
theorem d_X11_messages_14 : decode prog_13_method_75_code 14 = .ok (.aload_n 0, 1) := by decide +kernel
theorem d_X11_messages_15 : decode prog_13_method_75_code 15 = .ok (.getfield 173, 3) := by decide +kernel
theorem d_X11_messages_18 : decode prog_13_method_75_code 18 = .ok (.iload_n 3, 1) := by decide +kernel
theorem d_X11_messages_19 : decode prog_13_method_75_code 19 = .ok (.aload_n 0, 1) := by decide +kernel
theorem d_X11_messages_20 : decode prog_13_method_75_code 20 = .ok (.getfield 164, 3) := by decide +kernel
theorem d_X11_messages_23 : decode prog_13_method_75_code 23 = .ok (.sipush 1024, 3) := by decide +kernel
theorem d_X11_messages_26 : decode prog_13_method_75_code 26 = .ok (.iload_n 1, 1) := by decide +kernel
theorem d_X11_messages_27 : decode prog_13_method_75_code 27 = .ok (.imul, 1) := by decide +kernel
theorem d_X11_messages_28 : decode prog_13_method_75_code 28 = .ok (.iload_n 3, 1) := by decide +kernel
theorem d_X11_messages_29 : decode prog_13_method_75_code 29 = .ok (.iadd, 1) := by decide +kernel
theorem d_X11_messages_30 : decode prog_13_method_75_code 30 = .ok (.iaload, 1) := by decide +kernel
theorem d_X11_messages_31 : decode prog_13_method_75_code 31 = .ok (.iastore, 1) := by decide +kernel
theorem d_X11_messages_32 : decode prog_13_method_75_code 32 = .ok (.iinc 3 1, 3) := by decide +kernel
theorem d_X11_messages_35 : decode prog_13_method_75_code 35 = .ok (.goto (-26), 3) := by decide +kernel
theorem d_X11_messages_38 : decode prog_13_method_75_code 38 = .ok (.iconst 0, 1) := by decide +kernel
theorem d_X11_messages_39 : decode prog_13_method_75_code 39 = .ok (.istore_n 3, 1) := by decide +kernel
theorem d_X11_messages_40 : decode prog_13_method_75_code 40 = .ok (.iload_n 3, 1) := by decide +kernel
theorem d_X11_messages_41 : decode prog_13_method_75_code 41 = .ok (.iload_n 2, 1) := by decide +kernel
theorem d_X11_messages_42 : decode prog_13_method_75_code 42 = .ok (.if_icmp .ge 107, 3) := by decide +kernel
theorem d_X11_messages_45 : decode prog_13_method_75_code 45 = .ok (.aload_n 0, 1) := by decide +kernel
theorem d_X11_messages_46 : decode prog_13_method_75_code 46 = .ok (.getfield 101, 3) := by decide +kernel
theorem d_X11_messages_49 : decode prog_13_method_75_code 49 = .ok (.iload_n 1, 1) := by decide +kernel
theorem d_X11_messages_50 : decode prog_13_method_75_code 50 = .ok (.iaload, 1) := by decide +kernel
theorem d_X11_messages_51 : decode prog_13_method_75_code 51 = .ok (.iconst (-1), 1) := by decide +kernel
theorem d_X11_messages_52 : decode prog_13_method_75_code 52 = .ok (.if_icmp .eq 97, 3) := by decide +kernel
theorem d_X11_messages_55 : decode prog_13_method_75_code 55 = .ok (.aload_n 0, 1) := by decide +kernel
theorem d_X11_messages_56 : decode prog_13_method_75_code 56 = .ok (.iload_n 1, 1) := by decide +kernel
theorem d_X11_messages_57 : decode prog_13_method_75_code 57 = .ok (.aload_n 0, 1) := by decide +kernel
theorem d_X11_messages_58 : decode prog_13_method_75_code 58 = .ok (.getfield 173, 3) := by decide +kernel
theorem d_X11_messages_61 : decode prog_13_method_75_code 61 = .ok (.iload_n 3, 1) := by decide +kernel
theorem d_X11_messages_62 : decode prog_13_method_75_code 62 = .ok (.iaload, 1) := by decide +kernel
theorem d_X11_messages_63 : decode prog_13_method_75_code 63 = .ok (.invokevirtual 415, 3) := by decide +kernel
theorem d_X11_messages_66 : decode prog_13_method_75_code 66 = .ok (.istore 4, 2) := by decide +kernel
theorem d_X11_messages_68 : decode prog_13_method_75_code 68 = .ok (.iload 4, 2) := by decide +kernel
theorem d_X11_messages_70 : decode prog_13_method_75_code 70 = .ok (.iconst (-1), 1) := by decide +kernel
theorem d_X11_messages_71 : decode prog_13_method_75_code 71 = .ok (.if_icmp .eq 72, 3) := by decide +kernel
theorem d_X11_messages_74 : decode prog_13_method_75_code 74 = .ok (.aload_n 0, 1) := by decide +kernel
theorem d_X11_messages_75 : decode prog_13_method_75_code 75 = .ok (.aload_n 0, 1) := by decide +kernel
theorem d_X11_messages_76 : decode prog_13_method_75_code 76 = .ok (.getfield 167, 3) := by decide +kernel
theorem d_X11_messages_79 : decode prog_13_method_75_code 79 = .ok (.iload 4, 2) := by decide +kernel
theorem d_X11_messages_81 : decode prog_13_method_75_code 81 = .ok (.iaload, 1) := by decide +kernel
theorem d_X11_messages_82 : decode prog_13_method_75_code 82 = .ok (.aload_n 0, 1) := by decide +kernel
theorem d_X11_messages_83 : decode prog_13_method_75_code 83 = .ok (.getfield 170, 3) := by decide +kernel
theorem d_X11_messages_86 : decode prog_13_method_75_code 86 = .ok (.iload 4, 2) := by decide +kernel
theorem d_X11_messages_88 : decode prog_13_method_75_code 88 = .ok (.iaload, 1) := by decide +kernel
theorem d_X11_messages_89 : decode prog_13_method_75_code 89 = .ok (.invokevirtual 418, 3) := by decide +kernel
theorem d_X11_messages_92 : decode prog_13_method_75_code 92 = .ok (.ifCond .eq 51, 3) := by decide +kernel
theorem d_X11_messages_95 : decode prog_13_method_75_code 95 = .ok (.aload_n 0, 1) := by decide +kernel
theorem d_X11_messages_96 : decode prog_13_method_75_code 96 = .ok (.getfield 101, 3) := by decide +kernel
theorem d_X11_messages_99 : decode prog_13_method_75_code 99 = .ok (.iload_n 1, 1) := by decide +kernel
theorem d_X11_messages_100 : decode prog_13_method_75_code 100 = .ok (.iaload, 1) := by decide +kernel
theorem d_X11_messages_101 : decode prog_13_method_75_code 101 = .ok (.iconst (-1), 1) := by decide +kernel
theorem d_X11_messages_102 : decode prog_13_method_75_code 102 = .ok (.if_icmp .eq 41, 3) := by decide +kernel
theorem d_X11_messages_105 : decode prog_13_method_75_code 105 = .ok (.aload_n 0, 1) := by decide +kernel
theorem d_X11_messages_106 : decode prog_13_method_75_code 106 = .ok (.iload_n 1, 1) := by decide +kernel
theorem d_X11_messages_107 : decode prog_13_method_75_code 107 = .ok (.iconst 0, 1) := by decide +kernel
theorem d_X11_messages_108 : decode prog_13_method_75_code 108 = .ok (.bipush 14, 2) := by decide +kernel
theorem d_X11_messages_110 : decode prog_13_method_75_code 110 = .ok (.aload_n 0, 1) := by decide +kernel
theorem d_X11_messages_111 : decode prog_13_method_75_code 111 = .ok (.getfield 173, 3) := by decide +kernel
theorem d_X11_messages_114 : decode prog_13_method_75_code 114 = .ok (.iload_n 3, 1) := by decide +kernel
theorem d_X11_messages_115 : decode prog_13_method_75_code 115 = .ok (.iaload, 1) := by decide +kernel
theorem d_X11_messages_116 : decode prog_13_method_75_code 116 = .ok (.iconst 0, 1) := by decide +kernel
theorem d_X11_messages_117 : decode prog_13_method_75_code 117 = .ok (.iconst 0, 1) := by decide +kernel
theorem d_X11_messages_118 : decode prog_13_method_75_code 118 = .ok (.invokevirtual 364, 3) := by decide +kernel
theorem d_X11_messages_121 : decode prog_13_method_75_code 121 = .ok (.ifCond .ne 6, 3) := by decide +kernel
theorem d_X11_messages_124 : decode prog_13_method_75_code 124 = .ok (.goto 19, 3) := by decide +kernel
theorem d_X11_messages_127 : decode prog_13_method_75_code 127 = .ok (.aload_n 0, 1) := by decide +kernel
theorem d_X11_messages_128 : decode prog_13_method_75_code 128 = .ok (.iload_n 1, 1) := by decide +kernel
theorem d_X11_messages_129 : decode prog_13_method_75_code 129 = .ok (.aload_n 0, 1) := by decide +kernel
theorem d_X11_messages_130 : decode prog_13_method_75_code 130 = .ok (.iload_n 1, 1) := by decide +kernel
theorem d_X11_messages_131 : decode prog_13_method_75_code 131 = .ok (.aload_n 0, 1) := by decide +kernel
theorem d_X11_messages_132 : decode prog_13_method_75_code 132 = .ok (.getfield 173, 3) := by decide +kernel
theorem d_X11_messages_135 : decode prog_13_method_75_code 135 = .ok (.iload_n 3, 1) := by decide +kernel
theorem d_X11_messages_136 : decode prog_13_method_75_code 136 = .ok (.iaload, 1) := by decide +kernel
theorem d_X11_messages_137 : decode prog_13_method_75_code 137 = .ok (.invokevirtual 415, 3) := by decide +kernel
theorem d_X11_messages_140 : decode prog_13_method_75_code 140 = .ok (.invokevirtual 421, 3) := by decide +kernel
theorem d_X11_messages_143 : decode prog_13_method_75_code 143 = .ok (.iinc 3 1, 3) := by decide +kernel
theorem d_X11_messages_146 : decode prog_13_method_75_code 146 = .ok (.goto (-106), 3) := by decide +kernel
theorem d_X11_messages_149 : decode prog_13_method_75_code 149 = .ok (.return_, 1) := by decide +kernel
abbrev Y_X11_timers : Yx := (⟨"TaskWeaveModel", "timers", "(I)V"⟩, prog_13_method_73_code, 5, none)
abbrev M_X11_timers : Mx := ("TaskWeaveModel", prog_13_method_73_code, 5, false)
theorem yk_X11_timers : Yk Y_X11_timers 1 := ⟨by decide +kernel, by decide +kernel, ⟨by decide, by decide⟩, by decide +kernel, by decide, trivial⟩
theorem d_X11_timers_0 : decode prog_13_method_73_code 0 = .ok (.iconst 0, 1) := by decide +kernel
theorem d_X11_timers_1 : decode prog_13_method_73_code 1 = .ok (.istore_n 2, 1) := by decide +kernel
theorem d_X11_timers_2 : decode prog_13_method_73_code 2 = .ok (.iload_n 2, 1) := by decide +kernel
theorem d_X11_timers_3 : decode prog_13_method_73_code 3 = .ok (.aload_n 0, 1) := by decide +kernel
theorem d_X11_timers_4 : decode prog_13_method_73_code 4 = .ok (.getfield 107, 3) := by decide +kernel
theorem d_X11_timers_7 : decode prog_13_method_73_code 7 = .ok (.iload_n 1, 1) := by decide +kernel
theorem d_X11_timers_8 : decode prog_13_method_73_code 8 = .ok (.iaload, 1) := by decide +kernel
theorem d_X11_timers_9 : decode prog_13_method_73_code 9 = .ok (.if_icmp .ge 63, 3) := by decide +kernel
theorem d_X11_timers_12 : decode prog_13_method_73_code 12 = .ok (.aload_n 0, 1) := by decide +kernel
theorem d_X11_timers_13 : decode prog_13_method_73_code 13 = .ok (.getfield 101, 3) := by decide +kernel
theorem d_X11_timers_16 : decode prog_13_method_73_code 16 = .ok (.iload_n 1, 1) := by decide +kernel
theorem d_X11_timers_17 : decode prog_13_method_73_code 17 = .ok (.iaload, 1) := by decide +kernel
theorem d_X11_timers_18 : decode prog_13_method_73_code 18 = .ok (.iconst (-1), 1) := by decide +kernel
theorem d_X11_timers_19 : decode prog_13_method_73_code 19 = .ok (.if_icmp .eq 53, 3) := by decide +kernel
theorem d_X11_timers_22 : decode prog_13_method_73_code 22 = .ok (.bipush 16, 2) := by decide +kernel
theorem d_X11_timers_24 : decode prog_13_method_73_code 24 = .ok (.iload_n 1, 1) := by decide +kernel
theorem d_X11_timers_25 : decode prog_13_method_73_code 25 = .ok (.imul, 1) := by decide +kernel
theorem d_X11_timers_26 : decode prog_13_method_73_code 26 = .ok (.iload_n 2, 1) := by decide +kernel
theorem d_X11_timers_27 : decode prog_13_method_73_code 27 = .ok (.iadd, 1) := by decide +kernel
theorem d_X11_timers_28 : decode prog_13_method_73_code 28 = .ok (.istore_n 3, 1) := by decide +kernel
theorem d_X11_timers_29 : decode prog_13_method_73_code 29 = .ok (.aload_n 0, 1) := by decide +kernel
theorem d_X11_timers_30 : decode prog_13_method_73_code 30 = .ok (.getfield 119, 3) := by decide +kernel
theorem d_X11_timers_33 : decode prog_13_method_73_code 33 = .ok (.iload_n 3, 1) := by decide +kernel
theorem d_X11_timers_34 : decode prog_13_method_73_code 34 = .ok (.iaload, 1) := by decide +kernel
theorem d_X11_timers_35 : decode prog_13_method_73_code 35 = .ok (.iconst 1, 1) := by decide +kernel
theorem d_X11_timers_36 : decode prog_13_method_73_code 36 = .ok (.if_icmp .ne 30, 3) := by decide +kernel
theorem d_X11_timers_39 : decode prog_13_method_73_code 39 = .ok (.aload_n 0, 1) := by decide +kernel
theorem d_X11_timers_40 : decode prog_13_method_73_code 40 = .ok (.getfield 143, 3) := by decide +kernel
theorem d_X11_timers_43 : decode prog_13_method_73_code 43 = .ok (.iload_n 3, 1) := by decide +kernel
theorem d_X11_timers_44 : decode prog_13_method_73_code 44 = .ok (.iaload, 1) := by decide +kernel
theorem d_X11_timers_45 : decode prog_13_method_73_code 45 = .ok (.aload_n 0, 1) := by decide +kernel
theorem d_X11_timers_46 : decode prog_13_method_73_code 46 = .ok (.getfield 283, 3) := by decide +kernel
theorem d_X11_timers_49 : decode prog_13_method_73_code 49 = .ok (.if_icmp .gt 17, 3) := by decide +kernel
theorem d_X11_timers_52 : decode prog_13_method_73_code 52 = .ok (.aload_n 0, 1) := by decide +kernel
theorem d_X11_timers_53 : decode prog_13_method_73_code 53 = .ok (.iload_n 3, 1) := by decide +kernel
theorem d_X11_timers_54 : decode prog_13_method_73_code 54 = .ok (.iconst 5, 1) := by decide +kernel
theorem d_X11_timers_55 : decode prog_13_method_73_code 55 = .ok (.aload_n 0, 1) := by decide +kernel
theorem d_X11_timers_56 : decode prog_13_method_73_code 56 = .ok (.getfield 283, 3) := by decide +kernel
theorem d_X11_timers_59 : decode prog_13_method_73_code 59 = .ok (.iconst 0, 1) := by decide +kernel
theorem d_X11_timers_60 : decode prog_13_method_73_code 60 = .ok (.iconst 0, 1) := by decide +kernel
theorem d_X11_timers_61 : decode prog_13_method_73_code 61 = .ok (.invokevirtual 394, 3) := by decide +kernel
theorem d_X11_timers_64 : decode prog_13_method_73_code 64 = .ok (.istore 4, 2) := by decide +kernel
theorem d_X11_timers_66 : decode prog_13_method_73_code 66 = .ok (.iinc 2 1, 3) := by decide +kernel
theorem d_X11_timers_69 : decode prog_13_method_73_code 69 = .ok (.goto (-67), 3) := by decide +kernel
theorem d_X11_timers_72 : decode prog_13_method_73_code 72 = .ok (.iconst 0, 1) := by decide +kernel
theorem d_X11_timers_73 : decode prog_13_method_73_code 73 = .ok (.istore_n 2, 1) := by decide +kernel
theorem d_X11_timers_74 : decode prog_13_method_73_code 74 = .ok (.iload_n 2, 1) := by decide +kernel
theorem d_X11_timers_75 : decode prog_13_method_73_code 75 = .ok (.aload_n 0, 1) := by decide +kernel
theorem d_X11_timers_76 : decode prog_13_method_73_code 76 = .ok (.getfield 107, 3) := by decide +kernel
theorem d_X11_timers_79 : decode prog_13_method_73_code 79 = .ok (.iload_n 1, 1) := by decide +kernel
theorem d_X11_timers_80 : decode prog_13_method_73_code 80 = .ok (.iaload, 1) := by decide +kernel
theorem d_X11_timers_81 : decode prog_13_method_73_code 81 = .ok (.if_icmp .ge 56, 3) := by decide +kernel
theorem d_X11_timers_84 : decode prog_13_method_73_code 84 = .ok (.aload_n 0, 1) := by decide +kernel
theorem d_X11_timers_85 : decode prog_13_method_73_code 85 = .ok (.getfield 101, 3) := by decide +kernel
theorem d_X11_timers_88 : decode prog_13_method_73_code 88 = .ok (.iload_n 1, 1) := by decide +kernel
theorem d_X11_timers_89 : decode prog_13_method_73_code 89 = .ok (.iaload, 1) := by decide +kernel
theorem d_X11_timers_90 : decode prog_13_method_73_code 90 = .ok (.iconst (-1), 1) := by decide +kernel
theorem d_X11_timers_91 : decode prog_13_method_73_code 91 = .ok (.if_icmp .eq 46, 3) := by decide +kernel
theorem d_X11_timers_94 : decode prog_13_method_73_code 94 = .ok (.bipush 16, 2) := by decide +kernel
theorem d_X11_timers_96 : decode prog_13_method_73_code 96 = .ok (.iload_n 1, 1) := by decide +kernel
theorem d_X11_timers_97 : decode prog_13_method_73_code 97 = .ok (.imul, 1) := by decide +kernel
theorem d_X11_timers_98 : decode prog_13_method_73_code 98 = .ok (.iload_n 2, 1) := by decide +kernel
theorem d_X11_timers_99 : decode prog_13_method_73_code 99 = .ok (.iadd, 1) := by decide +kernel
theorem d_X11_timers_100 : decode prog_13_method_73_code 100 = .ok (.istore_n 3, 1) := by decide +kernel
theorem d_X11_timers_101 : decode prog_13_method_73_code 101 = .ok (.aload_n 0, 1) := by decide +kernel
theorem d_X11_timers_102 : decode prog_13_method_73_code 102 = .ok (.getfield 146, 3) := by decide +kernel
theorem d_X11_timers_105 : decode prog_13_method_73_code 105 = .ok (.iload_n 3, 1) := by decide +kernel
theorem d_X11_timers_106 : decode prog_13_method_73_code 106 = .ok (.iaload, 1) := by decide +kernel
theorem d_X11_timers_107 : decode prog_13_method_73_code 107 = .ok (.iconst 2, 1) := by decide +kernel
theorem d_X11_timers_108 : decode prog_13_method_73_code 108 = .ok (.if_icmp .ne 23, 3) := by decide +kernel
theorem d_X11_timers_111 : decode prog_13_method_73_code 111 = .ok (.aload_n 0, 1) := by decide +kernel
theorem d_X11_timers_112 : decode prog_13_method_73_code 112 = .ok (.getfield 152, 3) := by decide +kernel
theorem d_X11_timers_115 : decode prog_13_method_73_code 115 = .ok (.iload_n 3, 1) := by decide +kernel
theorem d_X11_timers_116 : decode prog_13_method_73_code 116 = .ok (.iaload, 1) := by decide +kernel
theorem d_X11_timers_117 : decode prog_13_method_73_code 117 = .ok (.aload_n 0, 1) := by decide +kernel
theorem d_X11_timers_118 : decode prog_13_method_73_code 118 = .ok (.getfield 283, 3) := by decide +kernel
theorem d_X11_timers_121 : decode prog_13_method_73_code 121 = .ok (.if_icmp .gt 10, 3) := by decide +kernel
theorem d_X11_timers_124 : decode prog_13_method_73_code 124 = .ok (.aload_n 0, 1) := by decide +kernel
theorem d_X11_timers_125 : decode prog_13_method_73_code 125 = .ok (.iload_n 3, 1) := by decide +kernel
theorem d_X11_timers_126 : decode prog_13_method_73_code 126 = .ok (.invokevirtual 406, 3) := by decide +kernel
theorem d_X11_timers_129 : decode prog_13_method_73_code 129 = .ok (.istore 4, 2) := by decide +kernel
theorem d_X11_timers_131 : decode prog_13_method_73_code 131 = .ok (.iinc 2 1, 3) := by decide +kernel
theorem d_X11_timers_134 : decode prog_13_method_73_code 134 = .ok (.goto (-60), 3) := by decide +kernel
theorem d_X11_timers_137 : decode prog_13_method_73_code 137 = .ok (.return_, 1) := by decide +kernel
abbrev Y_X11_tick : Yx := (⟨"TaskWeaveModel", "tick", "(I)I"⟩, prog_13_method_72_code, 4, (some .int))
abbrev M_X11_tick : Mx := ("TaskWeaveModel", prog_13_method_72_code, 4, false)
theorem yk_X11_tick : Yk Y_X11_tick 1 := ⟨by decide +kernel, by decide +kernel, ⟨by decide, by decide⟩, by decide +kernel, by decide, trivial⟩
theorem d_X11_tick_0 : decode prog_13_method_72_code 0 = .ok (.aload_n 0, 1) := by decide +kernel
theorem d_X11_tick_1 : decode prog_13_method_72_code 1 = .ok (.iload_n 1, 1) := by decide +kernel
theorem d_X11_tick_2 : decode prog_13_method_72_code 2 = .ok (.iconst 1, 1) := by decide +kernel
theorem d_X11_tick_3 : decode prog_13_method_72_code 3 = .ok (.if_icmp .lt 10, 3) := by decide +kernel
theorem d_X11_tick_6 : decode prog_13_method_72_code 6 = .ok (.iload_n 1, 1) := by decide +kernel
theorem d_X11_tick_7 : decode prog_13_method_72_code 7 = .ok (.sipush 500, 3) := by decide +kernel
theorem d_X11_tick_10 : decode prog_13_method_72_code 10 = .ok (.if_icmp .le 7, 3) := by decide +kernel
theorem d_X11_tick_13 : decode prog_13_method_72_code 13 = .ok (.iconst 1, 1) := by decide +kernel
theorem d_X11_tick_14 : decode prog_13_method_72_code 14 = .ok (.goto 4, 3) := by decide +kernel
theorem d_X11_tick_17 : decode prog_13_method_72_code 17 = .ok (.iconst 0, 1) := by decide +kernel
theorem d_X11_tick_18 : decode prog_13_method_72_code 18 = .ok (.putfield 183, 3) := by decide +kernel
theorem d_X11_tick_21 : decode prog_13_method_72_code 21 = .ok (.iconst 0, 1) := by decide +kernel
theorem d_X11_tick_22 : decode prog_13_method_72_code 22 = .ok (.istore_n 2, 1) := by decide +kernel
theorem d_X11_tick_23 : decode prog_13_method_72_code 23 = .ok (.iload_n 2, 1) := by decide +kernel
theorem d_X11_tick_24 : decode prog_13_method_72_code 24 = .ok (.iload_n 1, 1) := by decide +kernel
theorem d_X11_tick_25 : decode prog_13_method_72_code 25 = .ok (.if_icmp .ge 72, 3) := by decide +kernel
theorem d_X11_tick_28 : decode prog_13_method_72_code 28 = .ok (.aload_n 0, 1) := by decide +kernel
theorem d_X11_tick_29 : decode prog_13_method_72_code 29 = .ok (.getfield 183, 3) := by decide +kernel
theorem d_X11_tick_32 : decode prog_13_method_72_code 32 = .ok (.ifCond .ne 65, 3) := by decide +kernel
theorem d_X11_tick_35 : decode prog_13_method_72_code 35 = .ok (.aload_n 0, 1) := by decide +kernel
theorem d_X11_tick_36 : decode prog_13_method_72_code 36 = .ok (.dup, 1) := by decide +kernel
theorem d_X11_tick_37 : decode prog_13_method_72_code 37 = .ok (.getfield 283, 3) := by decide +kernel
theorem d_X11_tick_40 : decode prog_13_method_72_code 40 = .ok (.iconst 1, 1) := by decide +kernel
theorem d_X11_tick_41 : decode prog_13_method_72_code 41 = .ok (.iadd, 1) := by decide +kernel
theorem d_X11_tick_42 : decode prog_13_method_72_code 42 = .ok (.putfield 283, 3) := by decide +kernel
theorem d_X11_tick_45 : decode prog_13_method_72_code 45 = .ok (.iconst 0, 1) := by decide +kernel
theorem d_X11_tick_46 : decode prog_13_method_72_code 46 = .ok (.istore_n 3, 1) := by decide +kernel
theorem d_X11_tick_47 : decode prog_13_method_72_code 47 = .ok (.iload_n 3, 1) := by decide +kernel
theorem d_X11_tick_48 : decode prog_13_method_72_code 48 = .ok (.iconst 4, 1) := by decide +kernel
theorem d_X11_tick_49 : decode prog_13_method_72_code 49 = .ok (.if_icmp .ge 14, 3) := by decide +kernel
theorem d_X11_tick_52 : decode prog_13_method_72_code 52 = .ok (.aload_n 0, 1) := by decide +kernel
theorem d_X11_tick_53 : decode prog_13_method_72_code 53 = .ok (.iload_n 3, 1) := by decide +kernel
theorem d_X11_tick_54 : decode prog_13_method_72_code 54 = .ok (.invokevirtual 409, 3) := by decide +kernel
theorem d_X11_tick_57 : decode prog_13_method_72_code 57 = .ok (.iinc 3 1, 3) := by decide +kernel
theorem d_X11_tick_60 : decode prog_13_method_72_code 60 = .ok (.goto (-13), 3) := by decide +kernel
theorem d_X11_tick_63 : decode prog_13_method_72_code 63 = .ok (.iconst 0, 1) := by decide +kernel
theorem d_X11_tick_64 : decode prog_13_method_72_code 64 = .ok (.istore_n 3, 1) := by decide +kernel
theorem d_X11_tick_65 : decode prog_13_method_72_code 65 = .ok (.iload_n 3, 1) := by decide +kernel
theorem d_X11_tick_66 : decode prog_13_method_72_code 66 = .ok (.iconst 4, 1) := by decide +kernel
theorem d_X11_tick_67 : decode prog_13_method_72_code 67 = .ok (.if_icmp .ge 24, 3) := by decide +kernel
theorem d_X11_tick_70 : decode prog_13_method_72_code 70 = .ok (.aload_n 0, 1) := by decide +kernel
theorem d_X11_tick_71 : decode prog_13_method_72_code 71 = .ok (.getfield 101, 3) := by decide +kernel
theorem d_X11_tick_74 : decode prog_13_method_72_code 74 = .ok (.iload_n 3, 1) := by decide +kernel
theorem d_X11_tick_75 : decode prog_13_method_72_code 75 = .ok (.iaload, 1) := by decide +kernel
theorem d_X11_tick_76 : decode prog_13_method_72_code 76 = .ok (.iconst (-1), 1) := by decide +kernel
theorem d_X11_tick_77 : decode prog_13_method_72_code 77 = .ok (.if_icmp .eq 8, 3) := by decide +kernel
theorem d_X11_tick_80 : decode prog_13_method_72_code 80 = .ok (.aload_n 0, 1) := by decide +kernel
theorem d_X11_tick_81 : decode prog_13_method_72_code 81 = .ok (.iload_n 3, 1) := by decide +kernel
theorem d_X11_tick_82 : decode prog_13_method_72_code 82 = .ok (.invokevirtual 412, 3) := by decide +kernel
theorem d_X11_tick_85 : decode prog_13_method_72_code 85 = .ok (.iinc 3 1, 3) := by decide +kernel
theorem d_X11_tick_88 : decode prog_13_method_72_code 88 = .ok (.goto (-23), 3) := by decide +kernel
theorem d_X11_tick_91 : decode prog_13_method_72_code 91 = .ok (.iinc 2 1, 3) := by decide +kernel
theorem d_X11_tick_94 : decode prog_13_method_72_code 94 = .ok (.goto (-71), 3) := by decide +kernel
theorem d_X11_tick_97 : decode prog_13_method_72_code 97 = .ok (.aload_n 0, 1) := by decide +kernel
theorem d_X11_tick_98 : decode prog_13_method_72_code 98 = .ok (.getfield 183, 3) := by decide +kernel
theorem d_X11_tick_101 : decode prog_13_method_72_code 101 = .ok (.ifCond .le 7, 3) := by decide +kernel
theorem d_X11_tick_104 : decode prog_13_method_72_code 104 = .ok (.iconst 0, 1) := by decide +kernel
theorem d_X11_tick_105 : decode prog_13_method_72_code 105 = .ok (.goto 7, 3) := by decide +kernel
theorem d_X11_tick_108 : decode prog_13_method_72_code 108 = .ok (.aload_n 0, 1) := by decide +kernel
theorem d_X11_tick_109 : decode prog_13_method_72_code 109 = .ok (.getfield 283, 3) := by decide +kernel
theorem d_X11_tick_112 : decode prog_13_method_72_code 112 = .ok (.ireturn, 1) := by decide +kernel
abbrev Y_X11_replicas : Yx := (⟨"TaskWeaveModel", "replicas", "(II)Z"⟩, prog_13_method_84_code, 4, (some .boolean))
abbrev M_X11_replicas : Mx := ("TaskWeaveModel", prog_13_method_84_code, 4, false)
theorem yk_X11_replicas : Yk Y_X11_replicas 2 := ⟨by decide +kernel, by decide +kernel, ⟨by decide, by decide⟩, by decide +kernel, by decide, trivial⟩
theorem d_X11_replicas_0 : decode prog_13_method_84_code 0 = .ok (.aload_n 0, 1) := by decide +kernel
theorem d_X11_replicas_1 : decode prog_13_method_84_code 1 = .ok (.iconst 0, 1) := by decide +kernel
theorem d_X11_replicas_2 : decode prog_13_method_84_code 2 = .ok (.putfield 183, 3) := by decide +kernel
theorem d_X11_replicas_5 : decode prog_13_method_84_code 5 = .ok (.iload_n 1, 1) := by decide +kernel
theorem d_X11_replicas_6 : decode prog_13_method_84_code 6 = .ok (.iconst 4, 1) := by decide +kernel
theorem d_X11_replicas_7 : decode prog_13_method_84_code 7 = .ok (.invokestatic 230, 3) := by decide +kernel
theorem d_X11_replicas_10 : decode prog_13_method_84_code 10 = .ok (.ifCond .eq 22, 3) := by decide +kernel
theorem d_X11_replicas_13 : decode prog_13_method_84_code 13 = .ok (.iload_n 2, 1) := by decide +kernel
theorem d_X11_replicas_14 : decode prog_13_method_84_code 14 = .ok (.iconst 3, 1) := by decide +kernel
theorem d_X11_replicas_15 : decode prog_13_method_84_code 15 = .ok (.if_icmp .lt 17, 3) := by decide +kernel
theorem d_X11_replicas_18 : decode prog_13_method_84_code 18 = .ok (.iload_n 2, 1) := by decide +kernel
theorem d_X11_replicas_19 : decode prog_13_method_84_code 19 = .ok (.iconst 5, 1) := by decide +kernel
theorem d_X11_replicas_20 : decode prog_13_method_84_code 20 = .ok (.if_icmp .gt 12, 3) := by decide +kernel
theorem d_X11_replicas_23 : decode prog_13_method_84_code 23 = .ok (.aload_n 0, 1) := by decide +kernel
theorem d_X11_replicas_24 : decode prog_13_method_84_code 24 = .ok (.getfield 104, 3) := by decide +kernel
theorem d_X11_replicas_27 : decode prog_13_method_84_code 27 = .ok (.iload_n 1, 1) := by decide +kernel
theorem d_X11_replicas_28 : decode prog_13_method_84_code 28 = .ok (.iaload, 1) := by decide +kernel
theorem d_X11_replicas_29 : decode prog_13_method_84_code 29 = .ok (.ifCond .eq 5, 3) := by decide +kernel
theorem d_X11_replicas_32 : decode prog_13_method_84_code 32 = .ok (.iconst 0, 1) := by decide +kernel
theorem d_X11_replicas_33 : decode prog_13_method_84_code 33 = .ok (.ireturn, 1) := by decide +kernel
theorem d_X11_replicas_34 : decode prog_13_method_84_code 34 = .ok (.iconst 5, 1) := by decide +kernel
theorem d_X11_replicas_35 : decode prog_13_method_84_code 35 = .ok (.iload_n 1, 1) := by decide +kernel
theorem d_X11_replicas_36 : decode prog_13_method_84_code 36 = .ok (.imul, 1) := by decide +kernel
theorem d_X11_replicas_37 : decode prog_13_method_84_code 37 = .ok (.istore_n 3, 1) := by decide +kernel
theorem d_X11_replicas_38 : decode prog_13_method_84_code 38 = .ok (.iload_n 3, 1) := by decide +kernel
theorem d_X11_replicas_39 : decode prog_13_method_84_code 39 = .ok (.iconst 5, 1) := by decide +kernel
theorem d_X11_replicas_40 : decode prog_13_method_84_code 40 = .ok (.iload_n 1, 1) := by decide +kernel
theorem d_X11_replicas_41 : decode prog_13_method_84_code 41 = .ok (.imul, 1) := by decide +kernel
theorem d_X11_replicas_42 : decode prog_13_method_84_code 42 = .ok (.iconst 5, 1) := by decide +kernel
theorem d_X11_replicas_43 : decode prog_13_method_84_code 43 = .ok (.iadd, 1) := by decide +kernel
theorem d_X11_replicas_44 : decode prog_13_method_84_code 44 = .ok (.if_icmp .ge 20, 3) := by decide +kernel
theorem d_X11_replicas_47 : decode prog_13_method_84_code 47 = .ok (.aload_n 0, 1) := by decide +kernel
theorem d_X11_replicas_48 : decode prog_13_method_84_code 48 = .ok (.getfield 83, 3) := by decide +kernel
theorem d_X11_replicas_51 : decode prog_13_method_84_code 51 = .ok (.iload_n 3, 1) := by decide +kernel
theorem d_X11_replicas_52 : decode prog_13_method_84_code 52 = .ok (.iaload, 1) := by decide +kernel
theorem d_X11_replicas_53 : decode prog_13_method_84_code 53 = .ok (.ifCond .le 5, 3) := by decide +kernel
theorem d_X11_replicas_56 : decode prog_13_method_84_code 56 = .ok (.iconst 0, 1) := by decide +kernel
theorem d_X11_replicas_57 : decode prog_13_method_84_code 57 = .ok (.ireturn, 1) := by decide +kernel
theorem d_X11_replicas_58 : decode prog_13_method_84_code 58 = .ok (.iinc 3 1, 3) := by decide +kernel
theorem d_X11_replicas_61 : decode prog_13_method_84_code 61 = .ok (.goto (-23), 3) := by decide +kernel
theorem d_X11_replicas_64 : decode prog_13_method_84_code 64 = .ok (.aload_n 0, 1) := by decide +kernel
theorem d_X11_replicas_65 : decode prog_13_method_84_code 65 = .ok (.iload_n 1, 1) := by decide +kernel
theorem d_X11_replicas_66 : decode prog_13_method_84_code 66 = .ok (.iload_n 2, 1) := by decide +kernel
theorem d_X11_replicas_67 : decode prog_13_method_84_code 67 = .ok (.invokevirtual 179, 3) := by decide +kernel
theorem d_X11_replicas_70 : decode prog_13_method_84_code 70 = .ok (.iconst 1, 1) := by decide +kernel
theorem d_X11_replicas_71 : decode prog_13_method_84_code 71 = .ok (.ireturn, 1) := by decide +kernel
def f_X11_tells (l0 : Nat) (l1 : Int32) (l2 : Int32) (l3 : Int32) (h : Hp) : Option (Int32 × Hp) := ck (isO (h) (l0) 12) (ck (isO (h) (zR (h) 1243 (l0)) 22) (ck (inR (l1) (zL (h) (zR (h) 1243 (l0)))) (if (zE (h) (zR (h) 1243 (l0)) (l1).toNatClampNeg) = ((4 : Int32)) then (some ((1 : Int32), h)) else (ck (isO (h) (zR (h) 1241 (l0)) 22) (ck (inR (l1) (zL (h) (zR (h) 1241 (l0)))) ((f_X11_endOf (l0) (l1) (l2) (zE (h) (zR (h) 1241 (l0)) (l1).toNatClampNeg) (h)).bind (fun q7 => if (q7.1) = ((-1 : Int32)) then (ck (isO (q7.2) (l0) 12) ((f_X11_comes (l0) (l1) ((7 : Int32)) (l2) (l3) ((0 : Int32)) (q7.2)).bind (fun q9 => if (q9.1) = (0) then (some ((0 : Int32), q9.2)) else (some ((1 : Int32), q9.2))))) else (some ((1 : Int32), q7.2)))))))))
theorem f_X11_tells_ok {G : Gd} {d : Nat} (hj : 646 ≤ d) : ∀ (l0 : Nat) (l1 : Int32) (l2 : Int32) (l3 : Int32) (L : List (Nat × Value)) (h : Hp) (o : (Int32 × Hp)), zlk L 0 = some (zrf (l0)) → zlk L 1 = some (.int (l1)) → zlk L 2 = some (.int (l2)) → zlk L 3 = some (.int (l3)) → f_X11_tells l0 l1 l2 l3 h = some o → Ev G M_X11_tells d 0 L [] h (Ret Y_X11_tells (some (.int o.1)) o.2) := by
  intro l0 l1 l2 l3 L h o g0 g1 g2 g3 e
  unfold f_X11_tells at e
  refine g_ald_n d_X11_tells_0 rfl g0 ?_
  replace e := ckd e
  obtain ⟨k1, e⟩ := e
  refine g_getR d_X11_tells_1 (f := 1243) k1 fk_10_119 rfl rfl ?_
  refine r_iload_n d_X11_tells_4 rfl g1 ?_
  replace e := ckd e
  obtain ⟨k2, e⟩ := e
  replace e := ckd e
  obtain ⟨k3, e⟩ := e
  refine g_iald d_X11_tells_5 k2 k3 rfl ?_
  refine r_iconst d_X11_tells_6 (v := (4 : Int32)) (by decide +kernel) ?_
  refine r_icmp_eq d_X11_tells_7 (tgt := 39) (by decide) (fun c4 => ?_) (fun c4 => ?_)
  · replace e := (if_pos c4).symm.trans e
    refine r_iconst d_X11_tells_39 (v := (1 : Int32)) (by decide +kernel) ?_
    refine r_goto d_X11_tells_40 (tgt := 44) (by decide) ?_
    obtain rfl := Option.some.inj e
    exact g_iret d_X11_tells_44 rfl rfl
  · replace e := (if_neg c4).symm.trans e
    refine g_ald_n d_X11_tells_10 rfl g0 ?_
    refine r_iload_n d_X11_tells_11 rfl g1 ?_
    refine r_iload_n d_X11_tells_12 rfl g2 ?_
    refine g_ald_n d_X11_tells_13 rfl g0 ?_
    refine g_getR d_X11_tells_14 (f := 1241) k1 fk_10_113 rfl rfl ?_
    refine r_iload_n d_X11_tells_17 rfl g1 ?_
    replace e := ckd e
    obtain ⟨k5, e⟩ := e
    replace e := ckd e
    obtain ⟨k6, e⟩ := e
    refine g_iald d_X11_tells_18 k5 k6 rfl ?_
    replace e := bd e
    obtain ⟨q7, eq7, e⟩ := e
    refine g_callV d_X11_tells_19 vk_10_360 (as := [_, _, _]) rfl k1 rfl (by simp [zrf_cat, cat_int, cat_long]) (j := 2) (by omega) (c_X11_endOf (by omega) eq7) ?_
    refine r_iconst d_X11_tells_22 (v := (-1 : Int32)) (by decide +kernel) ?_
    refine r_icmp_ne d_X11_tells_23 (tgt := 39) (by decide) (fun c8 => ?_) (fun c8 => ?_)
    · replace e := (if_neg c8).symm.trans e
      refine r_iconst d_X11_tells_39 (v := (1 : Int32)) (by decide +kernel) ?_
      refine r_goto d_X11_tells_40 (tgt := 44) (by decide) ?_
      obtain rfl := Option.some.inj e
      exact g_iret d_X11_tells_44 rfl rfl
    · replace e := (if_pos c8).symm.trans e
      refine g_ald_n d_X11_tells_26 rfl g0 ?_
      refine r_iload_n d_X11_tells_27 rfl g1 ?_
      refine r_bipush d_X11_tells_28 (v := (7 : Int32)) (by decide +kernel) ?_
      refine r_iload_n d_X11_tells_30 rfl g2 ?_
      refine r_iload_n d_X11_tells_31 rfl g3 ?_
      refine r_iconst d_X11_tells_32 (v := (0 : Int32)) (by decide +kernel) ?_
      replace e := ckd e
      obtain ⟨k10, e⟩ := e
      replace e := bd e
      obtain ⟨q9, eq9, e⟩ := e
      refine g_callV d_X11_tells_33 vk_10_394 (as := [_, _, _, _, _]) rfl k10 rfl (by simp [zrf_cat, cat_int, cat_long]) (j := 645) (by omega) (c_X11_comes (by omega) eq9) ?_
      refine r_if_eq d_X11_tells_36 (tgt := 43) (by decide) (fun c11 => ?_) (fun c11 => ?_)
      · replace e := (if_pos c11).symm.trans e
        refine r_iconst d_X11_tells_43 (v := (0 : Int32)) (by decide +kernel) ?_
        obtain rfl := Option.some.inj e
        exact g_iret d_X11_tells_44 rfl rfl
      · replace e := (if_neg c11).symm.trans e
        refine r_iconst d_X11_tells_39 (v := (1 : Int32)) (by decide +kernel) ?_
        refine r_goto d_X11_tells_40 (tgt := 44) (by decide) ?_
        obtain rfl := Option.some.inj e
        exact g_iret d_X11_tells_44 rfl rfl

theorem c_X11_tells {G : Gd} {j : Nat} (hj : 646 ≤ j) {l0 : Nat} {l1 : Int32} {l2 : Int32} {l3 : Int32} {h : Hp} {o : (Int32 × Hp)} (e : f_X11_tells l0 l1 l2 l3 h = some o) : Cal G j Y_X11_tells [zrf (l0), .int (l1), .int (l2), .int (l3)] h (some (.int o.1)) o.2 := Cal.of (n := 0) (I := false) (by first | exact Or.inl (by decide +kernel) | exact Or.inr (by decide +kernel)) (by decide) (by simp [lg_sl, zrf_cat, cat_int, cat_long]) (f_X11_tells_ok hj _ _ _ _ _ h o (by simp [lv_args, zlk, zrf_cat, cat_int, cat_long]) (by simp [lv_args, zlk, zrf_cat, cat_int, cat_long]) (by simp [lv_args, zlk, zrf_cat, cat_int, cat_long]) (by simp [lv_args, zlk, zrf_cat, cat_int, cat_long]) e)
theorem sk_10_433 : Sk "TaskWeaveModel" 433 2 Y_X11_from := ⟨yk_X11_from, by decide +kernel, by decide +kernel⟩
theorem vk_10_438 : Vk "TaskWeaveModel" 438 3 12 Y_X11_tells := ⟨yk_X11_tells, by decide +kernel, by decide +kernel, by decide +kernel, by decide⟩
def f_X11_bears (l0 : Nat) (l1 : Int32) (l2 : Int32) (l3 : Int32) (l4 : Int32) (h : Hp) : Option (Int32 × Hp) := bh ((((l1) / ((16 : Int32))) + (l3)) - (((l1) / ((16 : Int32))) + (l3)) / ((4 : Int32)) * ((4 : Int32))) (fun x1 => ck (isO (h) (l0) 12) (ck (isO (h) (zR (h) 1237 (l0)) 22) (ck (inR (x1) (zL (h) (zR (h) 1237 (l0)))) (if (zE (h) (zR (h) 1237 (l0)) (x1).toNatClampNeg) = ((-1 : Int32)) then (some ((0 : Int32), h)) else ((f_X11_from (l1) (l2) (h)).bind (fun q6 => ck (isO (q6.2) (l0) 12) ((f_X11_withOrigin (l0) (x1) (q6.1) (q6.2)).bind (fun q7 => if (q7.1) = ((-1 : Int32)) then (ck (isO (q7.2) (l0) 12) (ck (isO (q7.2) (zR (q7.2) 1241 (l0)) 22) (ck (inR (l1) (zL (q7.2) (zR (q7.2) 1241 (l0)))) ((f_X11_endOf (l0) (l1) (l2) (zE (q7.2) (zR (q7.2) 1241 (l0)) (l1).toNatClampNeg) (q7.2)).bind (fun q13 => if (q13.1) = ((-1 : Int32)) then (ck (isO (q13.2) (l0) 12) (ck (isO (q13.2) (zR (q13.2) 1239 (l0)) 22) (ck (inR (x1) (zL (q13.2) (zR (q13.2) 1239 (l0)))) (if ((16 : Int32)) ≤ (zE (q13.2) (zR (q13.2) 1239 (l0)) (x1).toNatClampNeg) then ((f_X11_tells (l0) (l1) (l2) ((-3 : Int32)) (q13.2)).bind (fun q19 => ck (isB (q19.1)) (some (q19.1, q19.2)))) else (ck (isO (q13.2) (zR (q13.2) 1211 (l0)) 22) (ck (inR (l3) (zL (q13.2) (zR (q13.2) 1211 (l0)))) (if (zE (q13.2) (zR (q13.2) 1211 (l0)) (l3).toNatClampNeg) = ((-1 : Int32)) then ((f_X11_tells (l0) (l1) (l2) ((-3 : Int32)) (q13.2)).bind (fun q24 => ck (isB (q24.1)) (some (q24.1, q24.2)))) else ((f_X11_from (l1) (l2) (q13.2)).bind (fun q26 => ck (isO (q26.2) (l0) 12) ((f_X11_begins (l0) (x1) (zE (q13.2) (zR (q13.2) 1211 (l0)) (l3).toNatClampNeg) (l4) (q26.1) (q26.2)).bind (fun q27 => if (q27.1) = ((-1 : Int32)) then (some ((0 : Int32), q27.2)) else (some ((1 : Int32), q27.2))))))))))))) else (some ((1 : Int32), q13.2))))))) else (some ((1 : Int32), q7.2))))))))))
theorem f_X11_bears_ok {G : Gd} {d : Nat} (hj : 647 ≤ d) : ∀ (l0 : Nat) (l1 : Int32) (l2 : Int32) (l3 : Int32) (l4 : Int32) (L : List (Nat × Value)) (h : Hp) (o : (Int32 × Hp)), zlk L 0 = some (zrf (l0)) → zlk L 1 = some (.int (l1)) → zlk L 2 = some (.int (l2)) → zlk L 3 = some (.int (l3)) → zlk L 4 = some (.int (l4)) → f_X11_bears l0 l1 l2 l3 l4 h = some o → Ev G M_X11_bears d 0 L [] h (Ret Y_X11_bears (some (.int o.1)) o.2) := by
  intro l0 l1 l2 l3 l4 L h o g0 g1 g2 g3 g4 e
  unfold f_X11_bears at e
  refine r_iload_n d_X11_bears_0 rfl g1 ?_
  refine r_bipush d_X11_bears_1 (v := (16 : Int32)) (by decide +kernel) ?_
  refine r_idiv d_X11_bears_3 (by decide +kernel) ?_
  refine r_iload_n d_X11_bears_4 rfl g3 ?_
  refine r_iadd d_X11_bears_5 ?_
  refine r_iconst d_X11_bears_6 (v := (4 : Int32)) (by decide +kernel) ?_
  refine r_irem d_X11_bears_7 (by decide +kernel) ?_
  replace e := bhd e
  obtain ⟨_, rfl, e⟩ := e
  refine s_istore d_X11_bears_8 (by decide) (fun L g5 gK => ?_)
  replace g0 := gK _ _ (by decide) (Or.inr (zrf_cat _)) g0
  replace g1 := gK _ _ (by decide) (Or.inr rfl) g1
  replace g2 := gK _ _ (by decide) (Or.inr rfl) g2
  replace g3 := gK _ _ (by decide) (Or.inr rfl) g3
  replace g4 := gK _ _ (by decide) (Or.inr rfl) g4
  refine g_ald_n d_X11_bears_10 rfl g0 ?_
  replace e := ckd e
  obtain ⟨k2, e⟩ := e
  refine g_getR d_X11_bears_11 (f := 1237) k2 fk_10_101 rfl rfl ?_
  refine r_iload d_X11_bears_14 g5 ?_
  replace e := ckd e
  obtain ⟨k3, e⟩ := e
  replace e := ckd e
  obtain ⟨k4, e⟩ := e
  refine g_iald d_X11_bears_16 k3 k4 rfl ?_
  refine r_iconst d_X11_bears_17 (v := (-1 : Int32)) (by decide +kernel) ?_
  refine r_icmp_ne d_X11_bears_18 (tgt := 23) (by decide) (fun c5 => ?_) (fun c5 => ?_)
  · replace e := (if_neg c5).symm.trans e
    refine g_ald_n d_X11_bears_23 rfl g0 ?_
    refine r_iload d_X11_bears_24 g5 ?_
    refine r_iload_n d_X11_bears_26 rfl g1 ?_
    refine r_iload_n d_X11_bears_27 rfl g2 ?_
    replace e := bd e
    obtain ⟨q6, eq6, e⟩ := e
    refine g_callS d_X11_bears_28 sk_10_433 (as := [_, _]) rfl rfl (by simp [zrf_cat, cat_int, cat_long]) (j := 2) (by omega) (c_X11_from (by omega) eq6) ?_
    replace e := ckd e
    obtain ⟨k8, e⟩ := e
    replace e := bd e
    obtain ⟨q7, eq7, e⟩ := e
    refine g_callV d_X11_bears_31 vk_10_375 (as := [_, _]) rfl k8 rfl (by simp [zrf_cat, cat_int, cat_long]) (j := 3) (by omega) (c_X11_withOrigin (by omega) eq7) ?_
    refine r_iconst d_X11_bears_34 (v := (-1 : Int32)) (by decide +kernel) ?_
    refine r_icmp_ne d_X11_bears_35 (tgt := 54) (by decide) (fun c9 => ?_) (fun c9 => ?_)
    · replace e := (if_neg c9).symm.trans e
      refine r_iconst d_X11_bears_54 (v := (1 : Int32)) (by decide +kernel) ?_
      obtain rfl := Option.some.inj e
      exact g_iret d_X11_bears_55 rfl rfl
    · replace e := (if_pos c9).symm.trans e
      refine g_ald_n d_X11_bears_38 rfl g0 ?_
      refine r_iload_n d_X11_bears_39 rfl g1 ?_
      refine r_iload_n d_X11_bears_40 rfl g2 ?_
      refine g_ald_n d_X11_bears_41 rfl g0 ?_
      replace e := ckd e
      obtain ⟨k10, e⟩ := e
      refine g_getR d_X11_bears_42 (f := 1241) k10 fk_10_113 rfl rfl ?_
      refine r_iload_n d_X11_bears_45 rfl g1 ?_
      replace e := ckd e
      obtain ⟨k11, e⟩ := e
      replace e := ckd e
      obtain ⟨k12, e⟩ := e
      refine g_iald d_X11_bears_46 k11 k12 rfl ?_
      replace e := bd e
      obtain ⟨q13, eq13, e⟩ := e
      refine g_callV d_X11_bears_47 vk_10_360 (as := [_, _, _]) rfl k10 rfl (by simp [zrf_cat, cat_int, cat_long]) (j := 2) (by omega) (c_X11_endOf (by omega) eq13) ?_
      refine r_iconst d_X11_bears_50 (v := (-1 : Int32)) (by decide +kernel) ?_
      refine r_icmp_eq d_X11_bears_51 (tgt := 56) (by decide) (fun c14 => ?_) (fun c14 => ?_)
      · replace e := (if_pos c14).symm.trans e
        refine g_ald_n d_X11_bears_56 rfl g0 ?_
        replace e := ckd e
        obtain ⟨k15, e⟩ := e
        refine g_getR d_X11_bears_57 (f := 1239) k15 fk_10_107 rfl rfl ?_
        refine r_iload d_X11_bears_60 g5 ?_
        replace e := ckd e
        obtain ⟨k16, e⟩ := e
        replace e := ckd e
        obtain ⟨k17, e⟩ := e
        refine g_iald d_X11_bears_62 k16 k17 rfl ?_
        refine r_bipush d_X11_bears_63 (v := (16 : Int32)) (by decide +kernel) ?_
        refine r_icmp_ge d_X11_bears_65 (tgt := 107) (by decide) (fun c18 => ?_) (fun c18 => ?_)
        · replace e := (if_pos c18).symm.trans e
          refine g_ald_n d_X11_bears_107 rfl g0 ?_
          refine r_iload_n d_X11_bears_108 rfl g1 ?_
          refine r_iload_n d_X11_bears_109 rfl g2 ?_
          refine r_bipush d_X11_bears_110 (v := (-3 : Int32)) (by decide +kernel) ?_
          replace e := bd e
          obtain ⟨q19, eq19, e⟩ := e
          refine g_callV d_X11_bears_112 vk_10_438 (as := [_, _, _]) rfl k15 rfl (by simp [zrf_cat, cat_int, cat_long]) (j := 646) (by omega) (c_X11_tells (by omega) eq19) ?_
          replace e := ckd e
          obtain ⟨k20, e⟩ := e
          obtain rfl := Option.some.inj e
          exact g_iret d_X11_bears_115 rfl k20
        · replace e := (if_neg c18).symm.trans e
          refine g_ald_n d_X11_bears_68 rfl g0 ?_
          refine g_getR d_X11_bears_69 (f := 1211) k15 fk_10_29 rfl rfl ?_
          refine r_iload_n d_X11_bears_72 rfl g3 ?_
          replace e := ckd e
          obtain ⟨k21, e⟩ := e
          replace e := ckd e
          obtain ⟨k22, e⟩ := e
          refine g_iald d_X11_bears_73 k21 k22 rfl ?_
          refine r_iconst d_X11_bears_74 (v := (-1 : Int32)) (by decide +kernel) ?_
          refine r_icmp_eq d_X11_bears_75 (tgt := 107) (by decide) (fun c23 => ?_) (fun c23 => ?_)
          · replace e := (if_pos c23).symm.trans e
            refine g_ald_n d_X11_bears_107 rfl g0 ?_
            refine r_iload_n d_X11_bears_108 rfl g1 ?_
            refine r_iload_n d_X11_bears_109 rfl g2 ?_
            refine r_bipush d_X11_bears_110 (v := (-3 : Int32)) (by decide +kernel) ?_
            replace e := bd e
            obtain ⟨q24, eq24, e⟩ := e
            refine g_callV d_X11_bears_112 vk_10_438 (as := [_, _, _]) rfl k15 rfl (by simp [zrf_cat, cat_int, cat_long]) (j := 646) (by omega) (c_X11_tells (by omega) eq24) ?_
            replace e := ckd e
            obtain ⟨k25, e⟩ := e
            obtain rfl := Option.some.inj e
            exact g_iret d_X11_bears_115 rfl k25
          · replace e := (if_neg c23).symm.trans e
            refine g_ald_n d_X11_bears_78 rfl g0 ?_
            refine r_iload d_X11_bears_79 g5 ?_
            refine g_ald_n d_X11_bears_81 rfl g0 ?_
            refine g_getR d_X11_bears_82 (f := 1211) k15 fk_10_29 rfl rfl ?_
            refine r_iload_n d_X11_bears_85 rfl g3 ?_
            refine g_iald d_X11_bears_86 k21 k22 rfl ?_
            refine r_iload d_X11_bears_87 g4 ?_
            refine r_iload_n d_X11_bears_89 rfl g1 ?_
            refine r_iload_n d_X11_bears_90 rfl g2 ?_
            replace e := bd e
            obtain ⟨q26, eq26, e⟩ := e
            refine g_callS d_X11_bears_91 sk_10_433 (as := [_, _]) rfl rfl (by simp [zrf_cat, cat_int, cat_long]) (j := 2) (by omega) (c_X11_from (by omega) eq26) ?_
            replace e := ckd e
            obtain ⟨k28, e⟩ := e
            replace e := bd e
            obtain ⟨q27, eq27, e⟩ := e
            refine g_callV d_X11_bears_94 vk_10_378 (as := [_, _, _, _]) rfl k28 rfl (by simp [zrf_cat, cat_int, cat_long]) (j := 645) (by omega) (c_X11_begins (by omega) eq27) ?_
            refine r_iconst d_X11_bears_97 (v := (-1 : Int32)) (by decide +kernel) ?_
            refine r_icmp_eq d_X11_bears_98 (tgt := 105) (by decide) (fun c29 => ?_) (fun c29 => ?_)
            · replace e := (if_pos c29).symm.trans e
              refine r_iconst d_X11_bears_105 (v := (0 : Int32)) (by decide +kernel) ?_
              obtain rfl := Option.some.inj e
              exact g_iret d_X11_bears_106 rfl rfl
            · replace e := (if_neg c29).symm.trans e
              refine r_iconst d_X11_bears_101 (v := (1 : Int32)) (by decide +kernel) ?_
              refine r_goto d_X11_bears_102 (tgt := 106) (by decide) ?_
              obtain rfl := Option.some.inj e
              exact g_iret d_X11_bears_106 rfl rfl
      · replace e := (if_neg c14).symm.trans e
        refine r_iconst d_X11_bears_54 (v := (1 : Int32)) (by decide +kernel) ?_
        obtain rfl := Option.some.inj e
        exact g_iret d_X11_bears_55 rfl rfl
  · replace e := (if_pos c5).symm.trans e
    refine r_iconst d_X11_bears_21 (v := (0 : Int32)) (by decide +kernel) ?_
    obtain rfl := Option.some.inj e
    exact g_iret d_X11_bears_22 rfl rfl

theorem c_X11_bears {G : Gd} {j : Nat} (hj : 647 ≤ j) {l0 : Nat} {l1 : Int32} {l2 : Int32} {l3 : Int32} {l4 : Int32} {h : Hp} {o : (Int32 × Hp)} (e : f_X11_bears l0 l1 l2 l3 l4 h = some o) : Cal G j Y_X11_bears [zrf (l0), .int (l1), .int (l2), .int (l3), .int (l4)] h (some (.int o.1)) o.2 := Cal.of (n := 0) (I := false) (by first | exact Or.inl (by decide +kernel) | exact Or.inr (by decide +kernel)) (by decide) (by simp [lg_sl, zrf_cat, cat_int, cat_long]) (f_X11_bears_ok hj _ _ _ _ _ _ h o (by simp [lv_args, zlk, zrf_cat, cat_int, cat_long]) (by simp [lv_args, zlk, zrf_cat, cat_int, cat_long]) (by simp [lv_args, zlk, zrf_cat, cat_int, cat_long]) (by simp [lv_args, zlk, zrf_cat, cat_int, cat_long]) (by simp [lv_args, zlk, zrf_cat, cat_int, cat_long]) e)
def f_X11_childOf_33 (K5 : Nat → Int32 → Int32 → Int32 → Int32 → Hp → Option (Int32 × Hp)) (s0 : Int32) (s1 : Int32) (l0 : Nat) (l1 : Int32) (l2 : Int32) (l4 : Int32) (h : Hp) : Option (Int32 × Hp) := bh ((s0) + (s1)) (fun x7 => bh ((l4) + (1 : Int32)) (fun x8 => K5 (l0) (l1) (l2) (x7) (x8) (h)))
theorem f_X11_childOf_33_ok {G : Gd} {d : Nat} (K5 : Nat → Int32 → Int32 → Int32 → Int32 → Hp → Option (Int32 × Hp)) (hj : 2 ≤ d) (hK5 : ∀ (l0 : Nat) (l1 : Int32) (l2 : Int32) (l3 : Int32) (l4 : Int32) (L : List (Nat × Value)) (h : Hp) (o : (Int32 × Hp)), zlk L 0 = some (zrf (l0)) → zlk L 1 = some (.int (l1)) → zlk L 2 = some (.int (l2)) → zlk L 3 = some (.int (l3)) → zlk L 4 = some (.int (l4)) → K5 l0 l1 l2 l3 l4 h = some o → Ev G M_X11_childOf d 5 L [] h (Ret Y_X11_childOf (some (.int o.1)) o.2)) : ∀ (s0 : Int32) (s1 : Int32) (l0 : Nat) (l1 : Int32) (l2 : Int32) (l4 : Int32) (L : List (Nat × Value)) (h : Hp) (o : (Int32 × Hp)), zlk L 0 = some (zrf (l0)) → zlk L 1 = some (.int (l1)) → zlk L 2 = some (.int (l2)) → zlk L 4 = some (.int (l4)) → f_X11_childOf_33 K5 s0 s1 l0 l1 l2 l4 h = some o → Ev G M_X11_childOf d 33 L [.int (s1), .int (s0)] h (Ret Y_X11_childOf (some (.int o.1)) o.2) := by
  intro s0 s1 l0 l1 l2 l4 L h o g0 g1 g2 g4 e
  unfold f_X11_childOf_33 at e
  refine r_iadd d_X11_childOf_33 ?_
  replace e := bhd e
  obtain ⟨_, rfl, e⟩ := e
  refine s_istore_n d_X11_childOf_34 rfl (by decide) (fun L g3 gK => ?_)
  replace g0 := gK _ _ (by decide) (Or.inr (zrf_cat _)) g0
  replace g1 := gK _ _ (by decide) (Or.inr rfl) g1
  replace g2 := gK _ _ (by decide) (Or.inr rfl) g2
  replace g4 := gK _ _ (by decide) (Or.inr rfl) g4
  replace e := bhd e
  obtain ⟨_, rfl, e⟩ := e
  refine s_iinc d_X11_childOf_35 g4 (w := (1 : Int32)) (by decide +kernel) (by decide) (fun L g4 gK => ?_)
  replace g0 := gK _ _ (by decide) (Or.inr (zrf_cat _)) g0
  replace g1 := gK _ _ (by decide) (Or.inr rfl) g1
  replace g2 := gK _ _ (by decide) (Or.inr rfl) g2
  replace g3 := gK _ _ (by decide) (Or.inr rfl) g3
  refine r_goto d_X11_childOf_38 (tgt := 5) (by decide) ?_
  exact hK5 _ _ _ _ _ _ _ _ g0 g1 g2 g3 g4 e

def f_X11_childOf_5 : Nat → Nat → Int32 → Int32 → Int32 → Int32 → Hp → Option (Int32 × Hp)
  | 0, _, _, _, _, _, _ => none
  | n + 1, l0, l1, l2, l3, l4, h => if (l2) ≤ (l4) then (some (l3, h)) else (ck (isO (h) (l0) 12) ((f_X11_event (l0) (l1) (l4) (h)).bind (fun q2 => ck (isO (q2.2) (l0) 12) ((f_X11_kindOf (l0) (q2.1) (q2.2)).bind (fun q4 => if (q4.1) = ((6 : Int32)) then (f_X11_childOf_33 (f_X11_childOf_5 n) (l3) ((1 : Int32)) (l0) (l1) (l2) (l4) (q4.2)) else (f_X11_childOf_33 (f_X11_childOf_5 n) (l3) ((0 : Int32)) (l0) (l1) (l2) (l4) (q4.2)))))))
theorem f_X11_childOf_5_ok {G : Gd} {d : Nat} (hj : 2 ≤ d) : ∀ (n : Nat) (l0 : Nat) (l1 : Int32) (l2 : Int32) (l3 : Int32) (l4 : Int32) (L : List (Nat × Value)) (h : Hp) (o : (Int32 × Hp)), zlk L 0 = some (zrf (l0)) → zlk L 1 = some (.int (l1)) → zlk L 2 = some (.int (l2)) → zlk L 3 = some (.int (l3)) → zlk L 4 = some (.int (l4)) → f_X11_childOf_5 n l0 l1 l2 l3 l4 h = some o → Ev G M_X11_childOf d 5 L [] h (Ret Y_X11_childOf (some (.int o.1)) o.2) := by
  intro n
  induction n with
  | zero =>
    intro l0 l1 l2 l3 l4 L h o g0 g1 g2 g3 g4 e
    cases e
  | succ n ih =>
    intro l0 l1 l2 l3 l4 L h o g0 g1 g2 g3 g4 e
    unfold f_X11_childOf_5 at e
    refine r_iload d_X11_childOf_5 g4 ?_
    refine r_iload_n d_X11_childOf_7 rfl g2 ?_
    refine r_icmp_ge d_X11_childOf_8 (tgt := 41) (by decide) (fun c1 => ?_) (fun c1 => ?_)
    · replace e := (if_pos c1).symm.trans e
      refine r_iload_n d_X11_childOf_41 rfl g3 ?_
      obtain rfl := Option.some.inj e
      exact g_iret d_X11_childOf_42 rfl rfl
    · replace e := (if_neg c1).symm.trans e
      refine r_iload_n d_X11_childOf_11 rfl g3 ?_
      refine g_ald_n d_X11_childOf_12 rfl g0 ?_
      refine g_ald_n d_X11_childOf_13 rfl g0 ?_
      refine r_iload_n d_X11_childOf_14 rfl g1 ?_
      refine r_iload d_X11_childOf_15 g4 ?_
      replace e := ckd e
      obtain ⟨k3, e⟩ := e
      replace e := bd e
      obtain ⟨q2, eq2, e⟩ := e
      refine g_callV d_X11_childOf_17 vk_10_305 (as := [_, _]) rfl k3 rfl (by simp [zrf_cat, cat_int, cat_long]) (j := 1) (by omega) (c_X11_event (by omega) eq2) ?_
      replace e := ckd e
      obtain ⟨k5, e⟩ := e
      replace e := bd e
      obtain ⟨q4, eq4, e⟩ := e
      refine g_callV d_X11_childOf_20 vk_10_286 (as := [_]) rfl k5 rfl (by simp [zrf_cat, cat_int, cat_long]) (j := 1) (by omega) (c_X11_kindOf (by omega) eq4) ?_
      refine r_bipush d_X11_childOf_23 (v := (6 : Int32)) (by decide +kernel) ?_
      refine r_icmp_ne d_X11_childOf_25 (tgt := 32) (by decide) (fun c6 => ?_) (fun c6 => ?_)
      · replace e := (if_neg c6).symm.trans e
        refine r_iconst d_X11_childOf_32 (v := (0 : Int32)) (by decide +kernel) ?_
        exact f_X11_childOf_33_ok _ hj ih _ _ _ _ _ _ _ _ _ g0 g1 g2 g4 e
      · replace e := (if_pos c6).symm.trans e
        refine r_iconst d_X11_childOf_28 (v := (1 : Int32)) (by decide +kernel) ?_
        refine r_goto d_X11_childOf_29 (tgt := 33) (by decide) ?_
        exact f_X11_childOf_33_ok _ hj ih _ _ _ _ _ _ _ _ _ g0 g1 g2 g4 e

def f_X11_childOf (l0 : Nat) (l1 : Int32) (l2 : Int32) (h : Hp) : Option (Int32 × Hp) := f_X11_childOf_5 fz (l0) (l1) (l2) ((0 : Int32)) ((0 : Int32)) (h)
theorem f_X11_childOf_ok {G : Gd} {d : Nat} (hj : 2 ≤ d) : ∀ (l0 : Nat) (l1 : Int32) (l2 : Int32) (L : List (Nat × Value)) (h : Hp) (o : (Int32 × Hp)), zlk L 0 = some (zrf (l0)) → zlk L 1 = some (.int (l1)) → zlk L 2 = some (.int (l2)) → f_X11_childOf l0 l1 l2 h = some o → Ev G M_X11_childOf d 0 L [] h (Ret Y_X11_childOf (some (.int o.1)) o.2) := by
  intro l0 l1 l2 L h o g0 g1 g2 e
  unfold f_X11_childOf at e
  refine r_iconst d_X11_childOf_0 (v := (0 : Int32)) (by decide +kernel) ?_
  refine s_istore_n d_X11_childOf_1 rfl (by decide) (fun L g3 gK => ?_)
  replace g0 := gK _ _ (by decide) (Or.inr (zrf_cat _)) g0
  replace g1 := gK _ _ (by decide) (Or.inr rfl) g1
  replace g2 := gK _ _ (by decide) (Or.inr rfl) g2
  refine r_iconst d_X11_childOf_2 (v := (0 : Int32)) (by decide +kernel) ?_
  refine s_istore d_X11_childOf_3 (by decide) (fun L g4 gK => ?_)
  replace g0 := gK _ _ (by decide) (Or.inr (zrf_cat _)) g0
  replace g1 := gK _ _ (by decide) (Or.inr rfl) g1
  replace g2 := gK _ _ (by decide) (Or.inr rfl) g2
  replace g3 := gK _ _ (by decide) (Or.inr rfl) g3
  exact f_X11_childOf_5_ok hj _ _ _ _ _ _ _ _ _ g0 g1 g2 g3 g4 e

theorem c_X11_childOf {G : Gd} {j : Nat} (hj : 2 ≤ j) {l0 : Nat} {l1 : Int32} {l2 : Int32} {h : Hp} {o : (Int32 × Hp)} (e : f_X11_childOf l0 l1 l2 h = some o) : Cal G j Y_X11_childOf [zrf (l0), .int (l1), .int (l2)] h (some (.int o.1)) o.2 := Cal.of (n := 0) (I := false) (by first | exact Or.inl (by decide +kernel) | exact Or.inr (by decide +kernel)) (by decide) (by simp [lg_sl, zrf_cat, cat_int, cat_long]) (f_X11_childOf_ok hj _ _ _ _ h o (by simp [lv_args, zlk, zrf_cat, cat_int, cat_long]) (by simp [lv_args, zlk, zrf_cat, cat_int, cat_long]) (by simp [lv_args, zlk, zrf_cat, cat_int, cat_long]) e)
def f_X11_programOf_47 (K5 : Nat → Int32 → Int32 → Int32 → Hp → Option (Int32 × Hp)) (s0 : Int32) (s1 : Int32) (l0 : Nat) (l1 : Int32) (l3 : Int32) (h : Hp) : Option (Int32 × Hp) := bh ((s0) - (s1)) (fun x16 => bh ((l3) + (1 : Int32)) (fun x17 => K5 (l0) (l1) (x17) (x16) (h)))
theorem f_X11_programOf_47_ok {G : Gd} {d : Nat} (K5 : Nat → Int32 → Int32 → Int32 → Hp → Option (Int32 × Hp)) (hj : 2 ≤ d) (hK5 : ∀ (l0 : Nat) (l1 : Int32) (l3 : Int32) (l4 : Int32) (L : List (Nat × Value)) (h : Hp) (o : (Int32 × Hp)), zlk L 0 = some (zrf (l0)) → zlk L 1 = some (.int (l1)) → zlk L 3 = some (.int (l3)) → zlk L 4 = some (.int (l4)) → K5 l0 l1 l3 l4 h = some o → Ev G M_X11_programOf d 5 L [] h (Ret Y_X11_programOf (some (.int o.1)) o.2)) : ∀ (s0 : Int32) (s1 : Int32) (l0 : Nat) (l1 : Int32) (l3 : Int32) (L : List (Nat × Value)) (h : Hp) (o : (Int32 × Hp)), zlk L 0 = some (zrf (l0)) → zlk L 1 = some (.int (l1)) → zlk L 3 = some (.int (l3)) → f_X11_programOf_47 K5 s0 s1 l0 l1 l3 h = some o → Ev G M_X11_programOf d 47 L [.int (s1), .int (s0)] h (Ret Y_X11_programOf (some (.int o.1)) o.2) := by
  intro s0 s1 l0 l1 l3 L h o g0 g1 g3 e
  unfold f_X11_programOf_47 at e
  refine r_isub d_X11_programOf_47 ?_
  replace e := bhd e
  obtain ⟨_, rfl, e⟩ := e
  refine s_istore d_X11_programOf_48 (by decide) (fun L g4 gK => ?_)
  replace g0 := gK _ _ (by decide) (Or.inr (zrf_cat _)) g0
  replace g1 := gK _ _ (by decide) (Or.inr rfl) g1
  replace g3 := gK _ _ (by decide) (Or.inr rfl) g3
  replace e := bhd e
  obtain ⟨_, rfl, e⟩ := e
  refine s_iinc d_X11_programOf_50 g3 (w := (1 : Int32)) (by decide +kernel) (by decide) (fun L g3 gK => ?_)
  replace g0 := gK _ _ (by decide) (Or.inr (zrf_cat _)) g0
  replace g1 := gK _ _ (by decide) (Or.inr rfl) g1
  replace g4 := gK _ _ (by decide) (Or.inr rfl) g4
  refine r_goto d_X11_programOf_53 (tgt := 5) (by decide) ?_
  exact hK5 _ _ _ _ _ _ _ g0 g1 g3 g4 e

def f_X11_programOf_25 (K5 : Nat → Int32 → Int32 → Int32 → Hp → Option (Int32 × Hp)) (l0 : Nat) (l1 : Int32) (l3 : Int32) (l4 : Int32) (h : Hp) : Option (Int32 × Hp) := ck (isO (h) (l0) 12) ((f_X11_event (l0) (l1) (l3) (h)).bind (fun q11 => ck (isO (q11.2) (l0) 12) ((f_X11_kindOf (l0) (q11.1) (q11.2)).bind (fun q13 => if (q13.1) = ((6 : Int32)) then (f_X11_programOf_47 K5 (l4) ((1 : Int32)) (l0) (l1) (l3) (q13.2)) else (f_X11_programOf_47 K5 (l4) ((0 : Int32)) (l0) (l1) (l3) (q13.2))))))
theorem f_X11_programOf_25_ok {G : Gd} {d : Nat} (K5 : Nat → Int32 → Int32 → Int32 → Hp → Option (Int32 × Hp)) (hj : 2 ≤ d) (hK5 : ∀ (l0 : Nat) (l1 : Int32) (l3 : Int32) (l4 : Int32) (L : List (Nat × Value)) (h : Hp) (o : (Int32 × Hp)), zlk L 0 = some (zrf (l0)) → zlk L 1 = some (.int (l1)) → zlk L 3 = some (.int (l3)) → zlk L 4 = some (.int (l4)) → K5 l0 l1 l3 l4 h = some o → Ev G M_X11_programOf d 5 L [] h (Ret Y_X11_programOf (some (.int o.1)) o.2)) : ∀ (l0 : Nat) (l1 : Int32) (l3 : Int32) (l4 : Int32) (L : List (Nat × Value)) (h : Hp) (o : (Int32 × Hp)), zlk L 0 = some (zrf (l0)) → zlk L 1 = some (.int (l1)) → zlk L 3 = some (.int (l3)) → zlk L 4 = some (.int (l4)) → f_X11_programOf_25 K5 l0 l1 l3 l4 h = some o → Ev G M_X11_programOf d 25 L [] h (Ret Y_X11_programOf (some (.int o.1)) o.2) := by
  intro l0 l1 l3 l4 L h o g0 g1 g3 g4 e
  unfold f_X11_programOf_25 at e
  refine r_iload d_X11_programOf_25 g4 ?_
  refine g_ald_n d_X11_programOf_27 rfl g0 ?_
  refine g_ald_n d_X11_programOf_28 rfl g0 ?_
  refine r_iload_n d_X11_programOf_29 rfl g1 ?_
  refine r_iload_n d_X11_programOf_30 rfl g3 ?_
  replace e := ckd e
  obtain ⟨k12, e⟩ := e
  replace e := bd e
  obtain ⟨q11, eq11, e⟩ := e
  refine g_callV d_X11_programOf_31 vk_10_305 (as := [_, _]) rfl k12 rfl (by simp [zrf_cat, cat_int, cat_long]) (j := 1) (by omega) (c_X11_event (by omega) eq11) ?_
  replace e := ckd e
  obtain ⟨k14, e⟩ := e
  replace e := bd e
  obtain ⟨q13, eq13, e⟩ := e
  refine g_callV d_X11_programOf_34 vk_10_286 (as := [_]) rfl k14 rfl (by simp [zrf_cat, cat_int, cat_long]) (j := 1) (by omega) (c_X11_kindOf (by omega) eq13) ?_
  refine r_bipush d_X11_programOf_37 (v := (6 : Int32)) (by decide +kernel) ?_
  refine r_icmp_ne d_X11_programOf_39 (tgt := 46) (by decide) (fun c15 => ?_) (fun c15 => ?_)
  · replace e := (if_neg c15).symm.trans e
    refine r_iconst d_X11_programOf_46 (v := (0 : Int32)) (by decide +kernel) ?_
    exact f_X11_programOf_47_ok _ hj hK5 _ _ _ _ _ _ _ _ g0 g1 g3 e
  · replace e := (if_pos c15).symm.trans e
    refine r_iconst d_X11_programOf_42 (v := (1 : Int32)) (by decide +kernel) ?_
    refine r_goto d_X11_programOf_43 (tgt := 47) (by decide) ?_
    exact f_X11_programOf_47_ok _ hj hK5 _ _ _ _ _ _ _ _ g0 g1 g3 e

def f_X11_programOf_5 : Nat → Nat → Int32 → Int32 → Int32 → Hp → Option (Int32 × Hp)
  | 0, _, _, _, _, _ => none
  | n + 1, l0, l1, l3, l4, h => if (0) < (l4) then (f_X11_programOf_25 (f_X11_programOf_5 n) (l0) (l1) (l3) (l4) (h)) else (ck (isO (h) (l0) 12) ((f_X11_event (l0) (l1) (l3) (h)).bind (fun q2 => ck (isO (q2.2) (l0) 12) ((f_X11_kindOf (l0) (q2.1) (q2.2)).bind (fun q4 => if (q4.1) = ((6 : Int32)) then (ck (isO (q4.2) (l0) 12) ((f_X11_event (l0) (l1) (l3) (q4.2)).bind (fun q8 => ck (isO (q8.2) (zR (q4.2) 1227 (l0)) 22) (ck (inR (q8.1) (zL (q8.2) (zR (q4.2) 1227 (l0)))) (some (zE (q8.2) (zR (q4.2) 1227 (l0)) (q8.1).toNatClampNeg, q8.2)))))) else (f_X11_programOf_25 (f_X11_programOf_5 n) (l0) (l1) (l3) (l4) (q4.2)))))))
theorem f_X11_programOf_5_ok {G : Gd} {d : Nat} (hj : 2 ≤ d) : ∀ (n : Nat) (l0 : Nat) (l1 : Int32) (l3 : Int32) (l4 : Int32) (L : List (Nat × Value)) (h : Hp) (o : (Int32 × Hp)), zlk L 0 = some (zrf (l0)) → zlk L 1 = some (.int (l1)) → zlk L 3 = some (.int (l3)) → zlk L 4 = some (.int (l4)) → f_X11_programOf_5 n l0 l1 l3 l4 h = some o → Ev G M_X11_programOf d 5 L [] h (Ret Y_X11_programOf (some (.int o.1)) o.2) := by
  intro n
  induction n with
  | zero =>
    intro l0 l1 l3 l4 L h o g0 g1 g3 g4 e
    cases e
  | succ n ih =>
    intro l0 l1 l3 l4 L h o g0 g1 g3 g4 e
    unfold f_X11_programOf_5 at e
    refine r_iload d_X11_programOf_5 g4 ?_
    refine r_if_gt d_X11_programOf_7 (tgt := 25) (by decide) (fun c1 => ?_) (fun c1 => ?_)
    · replace e := (if_pos c1).symm.trans e
      exact f_X11_programOf_25_ok _ hj ih _ _ _ _ _ _ _ g0 g1 g3 g4 e
    · replace e := (if_neg c1).symm.trans e
      refine g_ald_n d_X11_programOf_10 rfl g0 ?_
      refine g_ald_n d_X11_programOf_11 rfl g0 ?_
      refine r_iload_n d_X11_programOf_12 rfl g1 ?_
      refine r_iload_n d_X11_programOf_13 rfl g3 ?_
      replace e := ckd e
      obtain ⟨k3, e⟩ := e
      replace e := bd e
      obtain ⟨q2, eq2, e⟩ := e
      refine g_callV d_X11_programOf_14 vk_10_305 (as := [_, _]) rfl k3 rfl (by simp [zrf_cat, cat_int, cat_long]) (j := 1) (by omega) (c_X11_event (by omega) eq2) ?_
      replace e := ckd e
      obtain ⟨k5, e⟩ := e
      replace e := bd e
      obtain ⟨q4, eq4, e⟩ := e
      refine g_callV d_X11_programOf_17 vk_10_286 (as := [_]) rfl k5 rfl (by simp [zrf_cat, cat_int, cat_long]) (j := 1) (by omega) (c_X11_kindOf (by omega) eq4) ?_
      refine r_bipush d_X11_programOf_20 (v := (6 : Int32)) (by decide +kernel) ?_
      refine r_icmp_eq d_X11_programOf_22 (tgt := 56) (by decide) (fun c6 => ?_) (fun c6 => ?_)
      · replace e := (if_pos c6).symm.trans e
        refine g_ald_n d_X11_programOf_56 rfl g0 ?_
        replace e := ckd e
        obtain ⟨k7, e⟩ := e
        refine g_getR d_X11_programOf_57 (f := 1227) k7 fk_10_70 rfl rfl ?_
        refine g_ald_n d_X11_programOf_60 rfl g0 ?_
        refine r_iload_n d_X11_programOf_61 rfl g1 ?_
        refine r_iload_n d_X11_programOf_62 rfl g3 ?_
        replace e := bd e
        obtain ⟨q8, eq8, e⟩ := e
        refine g_callV d_X11_programOf_63 vk_10_305 (as := [_, _]) rfl k7 rfl (by simp [zrf_cat, cat_int, cat_long]) (j := 1) (by omega) (c_X11_event (by omega) eq8) ?_
        replace e := ckd e
        obtain ⟨k9, e⟩ := e
        replace e := ckd e
        obtain ⟨k10, e⟩ := e
        refine g_iald d_X11_programOf_66 k9 k10 rfl ?_
        obtain rfl := Option.some.inj e
        exact g_iret d_X11_programOf_67 rfl rfl
      · replace e := (if_neg c6).symm.trans e
        exact f_X11_programOf_25_ok _ hj ih _ _ _ _ _ _ _ g0 g1 g3 g4 e

def f_X11_programOf (l0 : Nat) (l1 : Int32) (l2 : Int32) (h : Hp) : Option (Int32 × Hp) := f_X11_programOf_5 fz (l0) (l1) ((0 : Int32)) (l2) (h)
theorem f_X11_programOf_ok {G : Gd} {d : Nat} (hj : 2 ≤ d) : ∀ (l0 : Nat) (l1 : Int32) (l2 : Int32) (L : List (Nat × Value)) (h : Hp) (o : (Int32 × Hp)), zlk L 0 = some (zrf (l0)) → zlk L 1 = some (.int (l1)) → zlk L 2 = some (.int (l2)) → f_X11_programOf l0 l1 l2 h = some o → Ev G M_X11_programOf d 0 L [] h (Ret Y_X11_programOf (some (.int o.1)) o.2) := by
  intro l0 l1 l2 L h o g0 g1 g2 e
  unfold f_X11_programOf at e
  refine r_iconst d_X11_programOf_0 (v := (0 : Int32)) (by decide +kernel) ?_
  refine s_istore_n d_X11_programOf_1 rfl (by decide) (fun L g3 gK => ?_)
  replace g0 := gK _ _ (by decide) (Or.inr (zrf_cat _)) g0
  replace g1 := gK _ _ (by decide) (Or.inr rfl) g1
  replace g2 := gK _ _ (by decide) (Or.inr rfl) g2
  refine r_iload_n d_X11_programOf_2 rfl g2 ?_
  refine s_istore d_X11_programOf_3 (by decide) (fun L g4 gK => ?_)
  replace g0 := gK _ _ (by decide) (Or.inr (zrf_cat _)) g0
  replace g1 := gK _ _ (by decide) (Or.inr rfl) g1
  replace g3 := gK _ _ (by decide) (Or.inr rfl) g3
  exact f_X11_programOf_5_ok hj _ _ _ _ _ _ _ _ g0 g1 g3 g4 e

theorem c_X11_programOf {G : Gd} {j : Nat} (hj : 2 ≤ j) {l0 : Nat} {l1 : Int32} {l2 : Int32} {h : Hp} {o : (Int32 × Hp)} (e : f_X11_programOf l0 l1 l2 h = some o) : Cal G j Y_X11_programOf [zrf (l0), .int (l1), .int (l2)] h (some (.int o.1)) o.2 := Cal.of (n := 0) (I := false) (by first | exact Or.inl (by decide +kernel) | exact Or.inr (by decide +kernel)) (by decide) (by simp [lg_sl, zrf_cat, cat_int, cat_long]) (f_X11_programOf_ok hj _ _ _ _ h o (by simp [lv_args, zlk, zrf_cat, cat_int, cat_long]) (by simp [lv_args, zlk, zrf_cat, cat_int, cat_long]) (by simp [lv_args, zlk, zrf_cat, cat_int, cat_long]) e)
def f_X11_signals_ (l0 : Nat) (l1 : Int32) (l2 : Int32) (l3 : Int32) (h : Hp) : Option (Int32 × Hp) := if (l1) = ((-1 : Int32)) then (some ((1 : Int32), h)) else (ck (isO (h) (l0) 12) (ck (isO (h) (zR (h) 1243 (l0)) 22) (ck (inR (l1) (zL (h) (zR (h) 1243 (l0)))) (if (zE (h) (zR (h) 1243 (l0)) (l1).toNatClampNeg) = ((4 : Int32)) then (some ((1 : Int32), h)) else ((f_X11_hasSignal (l0) (l1) (l3) (h)).bind (fun q6 => if (q6.1) = (0) then (ck (isO (q6.2) (l0) 12) ((f_X11_comes (l0) (l1) ((8 : Int32)) (l2) ((0 : Int32)) (l3) (q6.2)).bind (fun q8 => if (q8.1) = (0) then (some ((0 : Int32), q8.2)) else (some ((1 : Int32), q8.2))))) else (some ((1 : Int32), q6.2))))))))
theorem f_X11_signals__ok {G : Gd} {d : Nat} (hj : 646 ≤ d) : ∀ (l0 : Nat) (l1 : Int32) (l2 : Int32) (l3 : Int32) (L : List (Nat × Value)) (h : Hp) (o : (Int32 × Hp)), zlk L 0 = some (zrf (l0)) → zlk L 1 = some (.int (l1)) → zlk L 2 = some (.int (l2)) → zlk L 3 = some (.int (l3)) → f_X11_signals_ l0 l1 l2 l3 h = some o → Ev G M_X11_signals_ d 0 L [] h (Ret Y_X11_signals_ (some (.int o.1)) o.2) := by
  intro l0 l1 l2 l3 L h o g0 g1 g2 g3 e
  unfold f_X11_signals_ at e
  refine r_iload_n d_X11_signals__0 rfl g1 ?_
  refine r_iconst d_X11_signals__1 (v := (-1 : Int32)) (by decide +kernel) ?_
  refine r_icmp_eq d_X11_signals__2 (tgt := 37) (by decide) (fun c1 => ?_) (fun c1 => ?_)
  · replace e := (if_pos c1).symm.trans e
    refine r_iconst d_X11_signals__37 (v := (1 : Int32)) (by decide +kernel) ?_
    refine r_goto d_X11_signals__38 (tgt := 42) (by decide) ?_
    obtain rfl := Option.some.inj e
    exact g_iret d_X11_signals__42 rfl rfl
  · replace e := (if_neg c1).symm.trans e
    refine g_ald_n d_X11_signals__5 rfl g0 ?_
    replace e := ckd e
    obtain ⟨k2, e⟩ := e
    refine g_getR d_X11_signals__6 (f := 1243) k2 fk_10_119 rfl rfl ?_
    refine r_iload_n d_X11_signals__9 rfl g1 ?_
    replace e := ckd e
    obtain ⟨k3, e⟩ := e
    replace e := ckd e
    obtain ⟨k4, e⟩ := e
    refine g_iald d_X11_signals__10 k3 k4 rfl ?_
    refine r_iconst d_X11_signals__11 (v := (4 : Int32)) (by decide +kernel) ?_
    refine r_icmp_eq d_X11_signals__12 (tgt := 37) (by decide) (fun c5 => ?_) (fun c5 => ?_)
    · replace e := (if_pos c5).symm.trans e
      refine r_iconst d_X11_signals__37 (v := (1 : Int32)) (by decide +kernel) ?_
      refine r_goto d_X11_signals__38 (tgt := 42) (by decide) ?_
      obtain rfl := Option.some.inj e
      exact g_iret d_X11_signals__42 rfl rfl
    · replace e := (if_neg c5).symm.trans e
      refine g_ald_n d_X11_signals__15 rfl g0 ?_
      refine r_iload_n d_X11_signals__16 rfl g1 ?_
      refine r_iload_n d_X11_signals__17 rfl g3 ?_
      replace e := bd e
      obtain ⟨q6, eq6, e⟩ := e
      refine g_callV d_X11_signals__18 vk_10_391 (as := [_, _]) rfl k2 rfl (by simp [zrf_cat, cat_int, cat_long]) (j := 2) (by omega) (c_X11_hasSignal (by omega) eq6) ?_
      refine r_if_ne d_X11_signals__21 (tgt := 37) (by decide) (fun c7 => ?_) (fun c7 => ?_)
      · replace e := (if_neg c7).symm.trans e
        refine r_iconst d_X11_signals__37 (v := (1 : Int32)) (by decide +kernel) ?_
        refine r_goto d_X11_signals__38 (tgt := 42) (by decide) ?_
        obtain rfl := Option.some.inj e
        exact g_iret d_X11_signals__42 rfl rfl
      · replace e := (if_pos c7).symm.trans e
        refine g_ald_n d_X11_signals__24 rfl g0 ?_
        refine r_iload_n d_X11_signals__25 rfl g1 ?_
        refine r_bipush d_X11_signals__26 (v := (8 : Int32)) (by decide +kernel) ?_
        refine r_iload_n d_X11_signals__28 rfl g2 ?_
        refine r_iconst d_X11_signals__29 (v := (0 : Int32)) (by decide +kernel) ?_
        refine r_iload_n d_X11_signals__30 rfl g3 ?_
        replace e := ckd e
        obtain ⟨k9, e⟩ := e
        replace e := bd e
        obtain ⟨q8, eq8, e⟩ := e
        refine g_callV d_X11_signals__31 vk_10_394 (as := [_, _, _, _, _]) rfl k9 rfl (by simp [zrf_cat, cat_int, cat_long]) (j := 645) (by omega) (c_X11_comes (by omega) eq8) ?_
        refine r_if_eq d_X11_signals__34 (tgt := 41) (by decide) (fun c10 => ?_) (fun c10 => ?_)
        · replace e := (if_pos c10).symm.trans e
          refine r_iconst d_X11_signals__41 (v := (0 : Int32)) (by decide +kernel) ?_
          obtain rfl := Option.some.inj e
          exact g_iret d_X11_signals__42 rfl rfl
        · replace e := (if_neg c10).symm.trans e
          refine r_iconst d_X11_signals__37 (v := (1 : Int32)) (by decide +kernel) ?_
          refine r_goto d_X11_signals__38 (tgt := 42) (by decide) ?_
          obtain rfl := Option.some.inj e
          exact g_iret d_X11_signals__42 rfl rfl

theorem c_X11_signals_ {G : Gd} {j : Nat} (hj : 646 ≤ j) {l0 : Nat} {l1 : Int32} {l2 : Int32} {l3 : Int32} {h : Hp} {o : (Int32 × Hp)} (e : f_X11_signals_ l0 l1 l2 l3 h = some o) : Cal G j Y_X11_signals_ [zrf (l0), .int (l1), .int (l2), .int (l3)] h (some (.int o.1)) o.2 := Cal.of (n := 0) (I := false) (by first | exact Or.inl (by decide +kernel) | exact Or.inr (by decide +kernel)) (by decide) (by simp [lg_sl, zrf_cat, cat_int, cat_long]) (f_X11_signals__ok hj _ _ _ _ _ h o (by simp [lv_args, zlk, zrf_cat, cat_int, cat_long]) (by simp [lv_args, zlk, zrf_cat, cat_int, cat_long]) (by simp [lv_args, zlk, zrf_cat, cat_int, cat_long]) (by simp [lv_args, zlk, zrf_cat, cat_int, cat_long]) e)
theorem vk_10_430 : Vk "TaskWeaveModel" 430 2 12 Y_X11_programOf := ⟨yk_X11_programOf, by decide +kernel, by decide +kernel, by decide +kernel, by decide⟩
theorem vk_10_436 : Vk "TaskWeaveModel" 436 3 12 Y_X11_signals_ := ⟨yk_X11_signals_, by decide +kernel, by decide +kernel, by decide +kernel, by decide⟩
theorem vk_10_424 : Vk "TaskWeaveModel" 424 2 12 Y_X11_childOf := ⟨yk_X11_childOf, by decide +kernel, by decide +kernel, by decide +kernel, by decide⟩
theorem vk_10_427 : Vk "TaskWeaveModel" 427 4 12 Y_X11_bears := ⟨yk_X11_bears, by decide +kernel, by decide +kernel, by decide +kernel, by decide⟩
def f_X11_delivers_172 (s0 : Int32) (l0 : Nat) (l1 : Int32) (l2 : Int32) (l3 : Int32) (l4 : Int32) (h : Hp) : Option (Int32 × Hp) := if (l4) = ((9 : Int32)) then (ck (isO (h) (l0) 12) (ck (isO (h) (zR (h) 1228 (l0)) 22) (ck (inR (l3) (zL (h) (zR (h) 1228 (l0)))) ((f_X11_from (l1) (l2) (h)).bind (fun q59 => ck (isO (q59.2) (l0) 12) ((f_X11_signals_ (l0) (s0) (zE (h) (zR (h) 1228 (l0)) (l3).toNatClampNeg) (q59.1) (q59.2)).bind (fun q60 => ck (isB (q60.1)) (some (q60.1, q60.2))))))))) else (if (s0) = ((-1 : Int32)) then (some ((1 : Int32), h)) else (ck (isO (h) (l0) 12) ((f_X11_origin (l0) (l1) (h)).bind (fun q49 => ck (isO (q49.2) (l0) 12) (ck (isO (q49.2) (zR (q49.2) 1227 (l0)) 22) (ck (inR (l3) (zL (q49.2) (zR (q49.2) 1227 (l0)))) ((f_X11_tells (l0) (s0) ((((-1 : Int32)) - (q49.1)) - (((-1 : Int32)) - (q49.1)) / ((64 : Int32)) * ((64 : Int32))) (zE (q49.2) (zR (q49.2) 1227 (l0)) (l3).toNatClampNeg) (q49.2)).bind (fun q54 => if (q54.1) = (0) then (some ((0 : Int32), q54.2)) else (some ((1 : Int32), q54.2))))))))))
theorem f_X11_delivers_172_ok {G : Gd} {d : Nat} (hj : 648 ≤ d) : ∀ (s0 : Int32) (l0 : Nat) (l1 : Int32) (l2 : Int32) (l3 : Int32) (l4 : Int32) (L : List (Nat × Value)) (h : Hp) (o : (Int32 × Hp)), zlk L 0 = some (zrf (l0)) → zlk L 1 = some (.int (l1)) → zlk L 2 = some (.int (l2)) → zlk L 3 = some (.int (l3)) → zlk L 4 = some (.int (l4)) → f_X11_delivers_172 s0 l0 l1 l2 l3 l4 h = some o → Ev G M_X11_delivers d 172 L [.int (s0)] h (Ret Y_X11_delivers (some (.int o.1)) o.2) := by
  intro s0 l0 l1 l2 l3 l4 L h o g0 g1 g2 g3 g4 e
  unfold f_X11_delivers_172 at e
  refine s_istore d_X11_delivers_172 (by decide) (fun L g6 gK => ?_)
  replace g0 := gK _ _ (by decide) (Or.inr (zrf_cat _)) g0
  replace g1 := gK _ _ (by decide) (Or.inr rfl) g1
  replace g2 := gK _ _ (by decide) (Or.inr rfl) g2
  replace g3 := gK _ _ (by decide) (Or.inr rfl) g3
  replace g4 := gK _ _ (by decide) (Or.inr rfl) g4
  refine r_iload d_X11_delivers_174 g4 ?_
  refine r_bipush d_X11_delivers_176 (v := (9 : Int32)) (by decide +kernel) ?_
  refine r_icmp_ne d_X11_delivers_178 (tgt := 201) (by decide) (fun c47 => ?_) (fun c47 => ?_)
  · replace e := (if_neg c47).symm.trans e
    refine r_iload d_X11_delivers_201 g6 ?_
    refine r_iconst d_X11_delivers_203 (v := (-1 : Int32)) (by decide +kernel) ?_
    refine r_icmp_eq d_X11_delivers_204 (tgt := 232) (by decide) (fun c48 => ?_) (fun c48 => ?_)
    · replace e := (if_pos c48).symm.trans e
      refine r_iconst d_X11_delivers_232 (v := (1 : Int32)) (by decide +kernel) ?_
      refine r_goto d_X11_delivers_233 (tgt := 237) (by decide) ?_
      obtain rfl := Option.some.inj e
      exact g_iret d_X11_delivers_237 rfl rfl
    · replace e := (if_neg c48).symm.trans e
      refine g_ald_n d_X11_delivers_207 rfl g0 ?_
      refine r_iload d_X11_delivers_208 g6 ?_
      refine r_iconst d_X11_delivers_210 (v := (-1 : Int32)) (by decide +kernel) ?_
      refine g_ald_n d_X11_delivers_211 rfl g0 ?_
      refine r_iload_n d_X11_delivers_212 rfl g1 ?_
      replace e := ckd e
      obtain ⟨k50, e⟩ := e
      replace e := bd e
      obtain ⟨q49, eq49, e⟩ := e
      refine g_callV d_X11_delivers_213 vk_10_309 (as := [_]) rfl k50 rfl (by simp [zrf_cat, cat_int, cat_long]) (j := 2) (by omega) (c_X11_origin (by omega) eq49) ?_
      refine r_isub d_X11_delivers_216 ?_
      refine r_bipush d_X11_delivers_217 (v := (64 : Int32)) (by decide +kernel) ?_
      refine r_irem d_X11_delivers_219 (by decide +kernel) ?_
      refine g_ald_n d_X11_delivers_220 rfl g0 ?_
      replace e := ckd e
      obtain ⟨k51, e⟩ := e
      refine g_getR d_X11_delivers_221 (f := 1227) k51 fk_10_70 rfl rfl ?_
      refine r_iload_n d_X11_delivers_224 rfl g3 ?_
      replace e := ckd e
      obtain ⟨k52, e⟩ := e
      replace e := ckd e
      obtain ⟨k53, e⟩ := e
      refine g_iald d_X11_delivers_225 k52 k53 rfl ?_
      replace e := bd e
      obtain ⟨q54, eq54, e⟩ := e
      refine g_callV d_X11_delivers_226 vk_10_438 (as := [_, _, _]) rfl k51 rfl (by simp [zrf_cat, cat_int, cat_long]) (j := 646) (by omega) (c_X11_tells (by omega) eq54) ?_
      refine r_if_eq d_X11_delivers_229 (tgt := 236) (by decide) (fun c55 => ?_) (fun c55 => ?_)
      · replace e := (if_pos c55).symm.trans e
        refine r_iconst d_X11_delivers_236 (v := (0 : Int32)) (by decide +kernel) ?_
        obtain rfl := Option.some.inj e
        exact g_iret d_X11_delivers_237 rfl rfl
      · replace e := (if_neg c55).symm.trans e
        refine r_iconst d_X11_delivers_232 (v := (1 : Int32)) (by decide +kernel) ?_
        refine r_goto d_X11_delivers_233 (tgt := 237) (by decide) ?_
        obtain rfl := Option.some.inj e
        exact g_iret d_X11_delivers_237 rfl rfl
  · replace e := (if_pos c47).symm.trans e
    refine g_ald_n d_X11_delivers_181 rfl g0 ?_
    refine r_iload d_X11_delivers_182 g6 ?_
    refine g_ald_n d_X11_delivers_184 rfl g0 ?_
    replace e := ckd e
    obtain ⟨k56, e⟩ := e
    refine g_getR d_X11_delivers_185 (f := 1228) k56 fk_10_73 rfl rfl ?_
    refine r_iload_n d_X11_delivers_188 rfl g3 ?_
    replace e := ckd e
    obtain ⟨k57, e⟩ := e
    replace e := ckd e
    obtain ⟨k58, e⟩ := e
    refine g_iald d_X11_delivers_189 k57 k58 rfl ?_
    refine r_iload_n d_X11_delivers_190 rfl g1 ?_
    refine r_iload_n d_X11_delivers_191 rfl g2 ?_
    replace e := bd e
    obtain ⟨q59, eq59, e⟩ := e
    refine g_callS d_X11_delivers_192 sk_10_433 (as := [_, _]) rfl rfl (by simp [zrf_cat, cat_int, cat_long]) (j := 2) (by omega) (c_X11_from (by omega) eq59) ?_
    replace e := ckd e
    obtain ⟨k61, e⟩ := e
    replace e := bd e
    obtain ⟨q60, eq60, e⟩ := e
    refine g_callV d_X11_delivers_195 vk_10_436 (as := [_, _, _]) rfl k61 rfl (by simp [zrf_cat, cat_int, cat_long]) (j := 646) (by omega) (c_X11_signals_ (by omega) eq60) ?_
    refine r_goto d_X11_delivers_198 (tgt := 237) (by decide) ?_
    replace e := ckd e
    obtain ⟨k62, e⟩ := e
    obtain rfl := Option.some.inj e
    exact g_iret d_X11_delivers_237 rfl k62

def f_X11_delivers_132 (l0 : Nat) (l1 : Int32) (l2 : Int32) (l3 : Int32) (l4 : Int32) (h : Hp) : Option (Int32 × Hp) := ck (isO (h) (l0) 12) ((f_X11_parent (l0) (l1) (h)).bind (fun q38 => ck (isO (q38.2) (l0) 12) (ck (isO (q38.2) (zR (q38.2) 1237 (l0)) 22) (ck (inR ((q38.1) - (q38.1) / ((4 : Int32)) * ((4 : Int32))) (zL (q38.2) (zR (q38.2) 1237 (l0)))) (if (zE (q38.2) (zR (q38.2) 1237 (l0)) ((q38.1) - (q38.1) / ((4 : Int32)) * ((4 : Int32))).toNatClampNeg) = ((-1 : Int32)) then (some ((0 : Int32), q38.2)) else ((f_X11_isFlow (l0) (q38.1) (q38.2)).bind (fun q44 => if (q44.1) = (0) then (f_X11_delivers_172 ((-1 : Int32)) (l0) (l1) (l2) (l3) (l4) (q44.2)) else ((f_X11_placeOf (q38.1) (q44.2)).bind (fun q46 => f_X11_delivers_172 (q46.1) (l0) (l1) (l2) (l3) (l4) (q46.2))))))))))
theorem f_X11_delivers_132_ok {G : Gd} {d : Nat} (hj : 648 ≤ d) : ∀ (l0 : Nat) (l1 : Int32) (l2 : Int32) (l3 : Int32) (l4 : Int32) (L : List (Nat × Value)) (h : Hp) (o : (Int32 × Hp)), zlk L 0 = some (zrf (l0)) → zlk L 1 = some (.int (l1)) → zlk L 2 = some (.int (l2)) → zlk L 3 = some (.int (l3)) → zlk L 4 = some (.int (l4)) → f_X11_delivers_132 l0 l1 l2 l3 l4 h = some o → Ev G M_X11_delivers d 132 L [] h (Ret Y_X11_delivers (some (.int o.1)) o.2) := by
  intro l0 l1 l2 l3 l4 L h o g0 g1 g2 g3 g4 e
  unfold f_X11_delivers_132 at e
  refine g_ald_n d_X11_delivers_132 rfl g0 ?_
  refine r_iload_n d_X11_delivers_133 rfl g1 ?_
  replace e := ckd e
  obtain ⟨k39, e⟩ := e
  replace e := bd e
  obtain ⟨q38, eq38, e⟩ := e
  refine g_callV d_X11_delivers_134 vk_10_302 (as := [_]) rfl k39 rfl (by simp [zrf_cat, cat_int, cat_long]) (j := 3) (by omega) (c_X11_parent (by omega) eq38) ?_
  refine s_istore d_X11_delivers_137 (by decide) (fun L g5 gK => ?_)
  replace g0 := gK _ _ (by decide) (Or.inr (zrf_cat _)) g0
  replace g1 := gK _ _ (by decide) (Or.inr rfl) g1
  replace g2 := gK _ _ (by decide) (Or.inr rfl) g2
  replace g3 := gK _ _ (by decide) (Or.inr rfl) g3
  replace g4 := gK _ _ (by decide) (Or.inr rfl) g4
  refine g_ald_n d_X11_delivers_139 rfl g0 ?_
  replace e := ckd e
  obtain ⟨k40, e⟩ := e
  refine g_getR d_X11_delivers_140 (f := 1237) k40 fk_10_101 rfl rfl ?_
  refine r_iload d_X11_delivers_143 g5 ?_
  refine r_iconst d_X11_delivers_145 (v := (4 : Int32)) (by decide +kernel) ?_
  refine r_irem d_X11_delivers_146 (by decide +kernel) ?_
  replace e := ckd e
  obtain ⟨k41, e⟩ := e
  replace e := ckd e
  obtain ⟨k42, e⟩ := e
  refine g_iald d_X11_delivers_147 k41 k42 rfl ?_
  refine r_iconst d_X11_delivers_148 (v := (-1 : Int32)) (by decide +kernel) ?_
  refine r_icmp_ne d_X11_delivers_149 (tgt := 154) (by decide) (fun c43 => ?_) (fun c43 => ?_)
  · replace e := (if_neg c43).symm.trans e
    refine g_ald_n d_X11_delivers_154 rfl g0 ?_
    refine r_iload d_X11_delivers_155 g5 ?_
    replace e := bd e
    obtain ⟨q44, eq44, e⟩ := e
    refine g_callV d_X11_delivers_157 vk_10_382 (as := [_]) rfl k40 rfl (by simp [zrf_cat, cat_int, cat_long]) (j := 1) (by omega) (c_X11_isFlow (by omega) eq44) ?_
    refine r_if_eq d_X11_delivers_160 (tgt := 171) (by decide) (fun c45 => ?_) (fun c45 => ?_)
    · replace e := (if_pos c45).symm.trans e
      refine r_iconst d_X11_delivers_171 (v := (-1 : Int32)) (by decide +kernel) ?_
      exact f_X11_delivers_172_ok hj _ _ _ _ _ _ _ _ _ g0 g1 g2 g3 g4 e
    · replace e := (if_neg c45).symm.trans e
      refine r_iload d_X11_delivers_163 g5 ?_
      replace e := bd e
      obtain ⟨q46, eq46, e⟩ := e
      refine g_callS d_X11_delivers_165 sk_10_385 (as := [_]) rfl rfl (by simp [zrf_cat, cat_int, cat_long]) (j := 1) (by omega) (c_X11_placeOf (by omega) eq46) ?_
      refine r_goto d_X11_delivers_168 (tgt := 172) (by decide) ?_
      exact f_X11_delivers_172_ok hj _ _ _ _ _ _ _ _ _ g0 g1 g2 g3 g4 e
  · replace e := (if_pos c43).symm.trans e
    refine r_iconst d_X11_delivers_152 (v := (0 : Int32)) (by decide +kernel) ?_
    obtain rfl := Option.some.inj e
    exact g_iret d_X11_delivers_153 rfl rfl

def f_X11_delivers (l0 : Nat) (l1 : Int32) (l2 : Int32) (h : Hp) : Option (Int32 × Hp) := ck (isO (h) (l0) 12) ((f_X11_event (l0) (l1) (l2) (h)).bind (fun q1 => ck (isO (q1.2) (l0) 12) ((f_X11_kindOf (l0) (q1.1) (q1.2)).bind (fun q3 => if (q3.1) = ((6 : Int32)) then (ck (isO (q3.2) (l0) 12) ((f_X11_childOf (l0) (l1) (l2) (q3.2)).bind (fun q29 => ck (isO (q29.2) (l0) 12) (ck (isO (q29.2) (zR (q29.2) 1227 (l0)) 22) (ck (inR (q1.1) (zL (q29.2) (zR (q29.2) 1227 (l0)))) (ck (isO (q29.2) (zR (q29.2) 1228 (l0)) 22) (ck (inR (q1.1) (zL (q29.2) (zR (q29.2) 1228 (l0)))) ((f_X11_bears (l0) (l1) (q29.1) (zE (q29.2) (zR (q29.2) 1227 (l0)) (q1.1).toNatClampNeg) (zE (q29.2) (zR (q29.2) 1228 (l0)) (q1.1).toNatClampNeg) (q29.2)).bind (fun q36 => ck (isB (q36.1)) (some (q36.1, q36.2))))))))))) else (if (q3.1) = ((9 : Int32)) then (ck (isO (q3.2) (l0) 12) (ck (isO (q3.2) (zR (q3.2) 1227 (l0)) 22) (ck (inR (q1.1) (zL (q3.2) (zR (q3.2) 1227 (l0)))) (if (zE (q3.2) (zR (q3.2) 1227 (l0)) (q1.1).toNatClampNeg) < (0) then (f_X11_delivers_132 (l0) (l1) (l2) (q1.1) (q3.1) (q3.2)) else ((f_X11_programOf (l0) (l1) (zE (q3.2) (zR (q3.2) 1227 (l0)) (q1.1).toNatClampNeg) (q3.2)).bind (fun q11 => bh ((((l1) / ((16 : Int32))) + (q11.1)) - (((l1) / ((16 : Int32))) + (q11.1)) / ((4 : Int32)) * ((4 : Int32))) (fun x12 => ck (isO (q11.2) (l0) 12) (ck (isO (q11.2) (zR (q11.2) 1237 (l0)) 22) (ck (inR (x12) (zL (q11.2) (zR (q11.2) 1237 (l0)))) (if (zE (q11.2) (zR (q11.2) 1237 (l0)) (x12).toNatClampNeg) = ((-1 : Int32)) then (some ((0 : Int32), q11.2)) else (ck (isO (q11.2) (zR (q11.2) 1227 (l0)) 22) (ck (inR (q1.1) (zL (q11.2) (zR (q11.2) 1227 (l0)))) ((f_X11_from (l1) (zE (q11.2) (zR (q11.2) 1227 (l0)) (q1.1).toNatClampNeg) (q11.2)).bind (fun q19 => ck (isO (q19.2) (l0) 12) ((f_X11_withOrigin (l0) (x12) (q19.1) (q19.2)).bind (fun q20 => ck (isO (q20.2) (l0) 12) (ck (isO (q20.2) (zR (q20.2) 1228 (l0)) 22) (ck (inR (q1.1) (zL (q20.2) (zR (q20.2) 1228 (l0)))) ((f_X11_from (l1) (l2) (q20.2)).bind (fun q25 => ck (isO (q25.2) (l0) 12) ((f_X11_signals_ (l0) (q20.1) (zE (q20.2) (zR (q20.2) 1228 (l0)) (q1.1).toNatClampNeg) (q25.1) (q25.2)).bind (fun q26 => if (q26.1) = (0) then (some ((0 : Int32), q26.2)) else (some ((1 : Int32), q26.2)))))))))))))))))))))))) else (f_X11_delivers_132 (l0) (l1) (l2) (q1.1) (q3.1) (q3.2)))))))
theorem f_X11_delivers_ok {G : Gd} {d : Nat} (hj : 648 ≤ d) : ∀ (l0 : Nat) (l1 : Int32) (l2 : Int32) (L : List (Nat × Value)) (h : Hp) (o : (Int32 × Hp)), zlk L 0 = some (zrf (l0)) → zlk L 1 = some (.int (l1)) → zlk L 2 = some (.int (l2)) → f_X11_delivers l0 l1 l2 h = some o → Ev G M_X11_delivers d 0 L [] h (Ret Y_X11_delivers (some (.int o.1)) o.2) := by
  intro l0 l1 l2 L h o g0 g1 g2 e
  unfold f_X11_delivers at e
  refine g_ald_n d_X11_delivers_0 rfl g0 ?_
  refine r_iload_n d_X11_delivers_1 rfl g1 ?_
  refine r_iload_n d_X11_delivers_2 rfl g2 ?_
  replace e := ckd e
  obtain ⟨k2, e⟩ := e
  replace e := bd e
  obtain ⟨q1, eq1, e⟩ := e
  refine g_callV d_X11_delivers_3 vk_10_305 (as := [_, _]) rfl k2 rfl (by simp [zrf_cat, cat_int, cat_long]) (j := 1) (by omega) (c_X11_event (by omega) eq1) ?_
  refine s_istore_n d_X11_delivers_6 rfl (by decide) (fun L g3 gK => ?_)
  replace g0 := gK _ _ (by decide) (Or.inr (zrf_cat _)) g0
  replace g1 := gK _ _ (by decide) (Or.inr rfl) g1
  replace g2 := gK _ _ (by decide) (Or.inr rfl) g2
  refine g_ald_n d_X11_delivers_7 rfl g0 ?_
  refine r_iload_n d_X11_delivers_8 rfl g3 ?_
  replace e := ckd e
  obtain ⟨k4, e⟩ := e
  replace e := bd e
  obtain ⟨q3, eq3, e⟩ := e
  refine g_callV d_X11_delivers_9 vk_10_286 (as := [_]) rfl k4 rfl (by simp [zrf_cat, cat_int, cat_long]) (j := 1) (by omega) (c_X11_kindOf (by omega) eq3) ?_
  refine s_istore d_X11_delivers_12 (by decide) (fun L g4 gK => ?_)
  replace g0 := gK _ _ (by decide) (Or.inr (zrf_cat _)) g0
  replace g1 := gK _ _ (by decide) (Or.inr rfl) g1
  replace g2 := gK _ _ (by decide) (Or.inr rfl) g2
  replace g3 := gK _ _ (by decide) (Or.inr rfl) g3
  refine r_iload d_X11_delivers_14 g4 ?_
  refine r_bipush d_X11_delivers_16 (v := (6 : Int32)) (by decide +kernel) ?_
  refine r_icmp_ne d_X11_delivers_18 (tgt := 45) (by decide) (fun c5 => ?_) (fun c5 => ?_)
  · replace e := (if_neg c5).symm.trans e
    refine r_iload d_X11_delivers_45 g4 ?_
    refine r_bipush d_X11_delivers_47 (v := (9 : Int32)) (by decide +kernel) ?_
    refine r_icmp_ne d_X11_delivers_49 (tgt := 132) (by decide) (fun c6 => ?_) (fun c6 => ?_)
    · replace e := (if_neg c6).symm.trans e
      exact f_X11_delivers_132_ok hj _ _ _ _ _ _ _ _ g0 g1 g2 g3 g4 e
    · replace e := (if_pos c6).symm.trans e
      refine g_ald_n d_X11_delivers_52 rfl g0 ?_
      replace e := ckd e
      obtain ⟨k7, e⟩ := e
      refine g_getR d_X11_delivers_53 (f := 1227) k7 fk_10_70 rfl rfl ?_
      refine r_iload_n d_X11_delivers_56 rfl g3 ?_
      replace e := ckd e
      obtain ⟨k8, e⟩ := e
      replace e := ckd e
      obtain ⟨k9, e⟩ := e
      refine g_iald d_X11_delivers_57 k8 k9 rfl ?_
      refine r_if_lt d_X11_delivers_58 (tgt := 132) (by decide) (fun c10 => ?_) (fun c10 => ?_)
      · replace e := (if_pos c10).symm.trans e
        exact f_X11_delivers_132_ok hj _ _ _ _ _ _ _ _ g0 g1 g2 g3 g4 e
      · replace e := (if_neg c10).symm.trans e
        refine r_iload_n d_X11_delivers_61 rfl g1 ?_
        refine r_bipush d_X11_delivers_62 (v := (16 : Int32)) (by decide +kernel) ?_
        refine r_idiv d_X11_delivers_64 (by decide +kernel) ?_
        refine g_ald_n d_X11_delivers_65 rfl g0 ?_
        refine r_iload_n d_X11_delivers_66 rfl g1 ?_
        refine g_ald_n d_X11_delivers_67 rfl g0 ?_
        refine g_getR d_X11_delivers_68 (f := 1227) k7 fk_10_70 rfl rfl ?_
        refine r_iload_n d_X11_delivers_71 rfl g3 ?_
        refine g_iald d_X11_delivers_72 k8 k9 rfl ?_
        replace e := bd e
        obtain ⟨q11, eq11, e⟩ := e
        refine g_callV d_X11_delivers_73 vk_10_430 (as := [_, _]) rfl k7 rfl (by simp [zrf_cat, cat_int, cat_long]) (j := 2) (by omega) (c_X11_programOf (by omega) eq11) ?_
        refine r_iadd d_X11_delivers_76 ?_
        refine r_iconst d_X11_delivers_77 (v := (4 : Int32)) (by decide +kernel) ?_
        refine r_irem d_X11_delivers_78 (by decide +kernel) ?_
        replace e := bhd e
        obtain ⟨_, rfl, e⟩ := e
        refine s_istore d_X11_delivers_79 (by decide) (fun L g5 gK => ?_)
        replace g0 := gK _ _ (by decide) (Or.inr (zrf_cat _)) g0
        replace g1 := gK _ _ (by decide) (Or.inr rfl) g1
        replace g2 := gK _ _ (by decide) (Or.inr rfl) g2
        replace g3 := gK _ _ (by decide) (Or.inr rfl) g3
        refine g_ald_n d_X11_delivers_81 rfl g0 ?_
        replace e := ckd e
        obtain ⟨k13, e⟩ := e
        refine g_getR d_X11_delivers_82 (f := 1237) k13 fk_10_101 rfl rfl ?_
        refine r_iload d_X11_delivers_85 g5 ?_
        replace e := ckd e
        obtain ⟨k14, e⟩ := e
        replace e := ckd e
        obtain ⟨k15, e⟩ := e
        refine g_iald d_X11_delivers_87 k14 k15 rfl ?_
        refine r_iconst d_X11_delivers_88 (v := (-1 : Int32)) (by decide +kernel) ?_
        refine r_icmp_eq d_X11_delivers_89 (tgt := 130) (by decide) (fun c16 => ?_) (fun c16 => ?_)
        · replace e := (if_pos c16).symm.trans e
          refine r_iconst d_X11_delivers_130 (v := (0 : Int32)) (by decide +kernel) ?_
          obtain rfl := Option.some.inj e
          exact g_iret d_X11_delivers_131 rfl rfl
        · replace e := (if_neg c16).symm.trans e
          refine g_ald_n d_X11_delivers_92 rfl g0 ?_
          refine g_ald_n d_X11_delivers_93 rfl g0 ?_
          refine r_iload d_X11_delivers_94 g5 ?_
          refine r_iload_n d_X11_delivers_96 rfl g1 ?_
          refine g_ald_n d_X11_delivers_97 rfl g0 ?_
          refine g_getR d_X11_delivers_98 (f := 1227) k13 fk_10_70 rfl rfl ?_
          refine r_iload_n d_X11_delivers_101 rfl g3 ?_
          replace e := ckd e
          obtain ⟨k17, e⟩ := e
          replace e := ckd e
          obtain ⟨k18, e⟩ := e
          refine g_iald d_X11_delivers_102 k17 k18 rfl ?_
          replace e := bd e
          obtain ⟨q19, eq19, e⟩ := e
          refine g_callS d_X11_delivers_103 sk_10_433 (as := [_, _]) rfl rfl (by simp [zrf_cat, cat_int, cat_long]) (j := 2) (by omega) (c_X11_from (by omega) eq19) ?_
          replace e := ckd e
          obtain ⟨k21, e⟩ := e
          replace e := bd e
          obtain ⟨q20, eq20, e⟩ := e
          refine g_callV d_X11_delivers_106 vk_10_375 (as := [_, _]) rfl k21 rfl (by simp [zrf_cat, cat_int, cat_long]) (j := 3) (by omega) (c_X11_withOrigin (by omega) eq20) ?_
          refine g_ald_n d_X11_delivers_109 rfl g0 ?_
          replace e := ckd e
          obtain ⟨k22, e⟩ := e
          refine g_getR d_X11_delivers_110 (f := 1228) k22 fk_10_73 rfl rfl ?_
          refine r_iload_n d_X11_delivers_113 rfl g3 ?_
          replace e := ckd e
          obtain ⟨k23, e⟩ := e
          replace e := ckd e
          obtain ⟨k24, e⟩ := e
          refine g_iald d_X11_delivers_114 k23 k24 rfl ?_
          refine r_iload_n d_X11_delivers_115 rfl g1 ?_
          refine r_iload_n d_X11_delivers_116 rfl g2 ?_
          replace e := bd e
          obtain ⟨q25, eq25, e⟩ := e
          refine g_callS d_X11_delivers_117 sk_10_433 (as := [_, _]) rfl rfl (by simp [zrf_cat, cat_int, cat_long]) (j := 2) (by omega) (c_X11_from (by omega) eq25) ?_
          replace e := ckd e
          obtain ⟨k27, e⟩ := e
          replace e := bd e
          obtain ⟨q26, eq26, e⟩ := e
          refine g_callV d_X11_delivers_120 vk_10_436 (as := [_, _, _]) rfl k27 rfl (by simp [zrf_cat, cat_int, cat_long]) (j := 646) (by omega) (c_X11_signals_ (by omega) eq26) ?_
          refine r_if_eq d_X11_delivers_123 (tgt := 130) (by decide) (fun c28 => ?_) (fun c28 => ?_)
          · replace e := (if_pos c28).symm.trans e
            refine r_iconst d_X11_delivers_130 (v := (0 : Int32)) (by decide +kernel) ?_
            obtain rfl := Option.some.inj e
            exact g_iret d_X11_delivers_131 rfl rfl
          · replace e := (if_neg c28).symm.trans e
            refine r_iconst d_X11_delivers_126 (v := (1 : Int32)) (by decide +kernel) ?_
            refine r_goto d_X11_delivers_127 (tgt := 131) (by decide) ?_
            obtain rfl := Option.some.inj e
            exact g_iret d_X11_delivers_131 rfl rfl
  · replace e := (if_pos c5).symm.trans e
    refine g_ald_n d_X11_delivers_21 rfl g0 ?_
    refine r_iload_n d_X11_delivers_22 rfl g1 ?_
    refine g_ald_n d_X11_delivers_23 rfl g0 ?_
    refine r_iload_n d_X11_delivers_24 rfl g1 ?_
    refine r_iload_n d_X11_delivers_25 rfl g2 ?_
    replace e := ckd e
    obtain ⟨k30, e⟩ := e
    replace e := bd e
    obtain ⟨q29, eq29, e⟩ := e
    refine g_callV d_X11_delivers_26 vk_10_424 (as := [_, _]) rfl k30 rfl (by simp [zrf_cat, cat_int, cat_long]) (j := 2) (by omega) (c_X11_childOf (by omega) eq29) ?_
    refine g_ald_n d_X11_delivers_29 rfl g0 ?_
    replace e := ckd e
    obtain ⟨k31, e⟩ := e
    refine g_getR d_X11_delivers_30 (f := 1227) k31 fk_10_70 rfl rfl ?_
    refine r_iload_n d_X11_delivers_33 rfl g3 ?_
    replace e := ckd e
    obtain ⟨k32, e⟩ := e
    replace e := ckd e
    obtain ⟨k33, e⟩ := e
    refine g_iald d_X11_delivers_34 k32 k33 rfl ?_
    refine g_ald_n d_X11_delivers_35 rfl g0 ?_
    refine g_getR d_X11_delivers_36 (f := 1228) k31 fk_10_73 rfl rfl ?_
    refine r_iload_n d_X11_delivers_39 rfl g3 ?_
    replace e := ckd e
    obtain ⟨k34, e⟩ := e
    replace e := ckd e
    obtain ⟨k35, e⟩ := e
    refine g_iald d_X11_delivers_40 k34 k35 rfl ?_
    replace e := bd e
    obtain ⟨q36, eq36, e⟩ := e
    refine g_callV d_X11_delivers_41 vk_10_427 (as := [_, _, _, _]) rfl k31 rfl (by simp [zrf_cat, cat_int, cat_long]) (j := 647) (by omega) (c_X11_bears (by omega) eq36) ?_
    replace e := ckd e
    obtain ⟨k37, e⟩ := e
    obtain rfl := Option.some.inj e
    exact g_iret d_X11_delivers_44 rfl k37

theorem c_X11_delivers {G : Gd} {j : Nat} (hj : 648 ≤ j) {l0 : Nat} {l1 : Int32} {l2 : Int32} {h : Hp} {o : (Int32 × Hp)} (e : f_X11_delivers l0 l1 l2 h = some o) : Cal G j Y_X11_delivers [zrf (l0), .int (l1), .int (l2)] h (some (.int o.1)) o.2 := Cal.of (n := 0) (I := false) (by first | exact Or.inl (by decide +kernel) | exact Or.inr (by decide +kernel)) (by decide) (by simp [lg_sl, zrf_cat, cat_int, cat_long]) (f_X11_delivers_ok hj _ _ _ _ h o (by simp [lv_args, zlk, zrf_cat, cat_int, cat_long]) (by simp [lv_args, zlk, zrf_cat, cat_int, cat_long]) (by simp [lv_args, zlk, zrf_cat, cat_int, cat_long]) e)
def f_X11_leaves_12 : Nat → Nat → Int32 → Int32 → Hp → Option Hp
  | 0, _, _, _, _ => none
  | n + 1, l0, l1, l3, h => ck (isO (h) (l0) 12) (ck (isO (h) (zR (h) 1257 (l0)) 22) (ck (inR (l1) (zL (h) (zR (h) 1257 (l0)))) (if ((((1024 : Int32)) * (l1)) + (zE (h) (zR (h) 1257 (l0)) (l1).toNatClampNeg)) ≤ (l3) then (some (h)) else (ck (isO (h) (zR (h) 1258 (l0)) 22) (ck (inR ((l3) + ((1 : Int32))) (zL (h) (zR (h) 1258 (l0)))) (ck (inR (l3) (zL (h) (zR (h) 1258 (l0)))) (bh (pE (h) (zR (h) 1258 (l0)) (l3).toNatClampNeg (zE (h) (zR (h) 1258 (l0)) ((l3) + ((1 : Int32))).toNatClampNeg)) (fun h12 => ck (isO (h12) (zR (h12) 1259 (l0)) 22) (ck (inR ((l3) + ((1 : Int32))) (zL (h12) (zR (h12) 1259 (l0)))) (ck (inR (l3) (zL (h12) (zR (h12) 1259 (l0)))) (bh (pE (h12) (zR (h12) 1259 (l0)) (l3).toNatClampNeg (zE (h12) (zR (h12) 1259 (l0)) ((l3) + ((1 : Int32))).toNatClampNeg)) (fun h16 => ck (isO (h16) (zR (h16) 1260 (l0)) 22) (ck (inR ((l3) + ((1 : Int32))) (zL (h16) (zR (h16) 1260 (l0)))) (ck (inR (l3) (zL (h16) (zR (h16) 1260 (l0)))) (bh (pE (h16) (zR (h16) 1260 (l0)) (l3).toNatClampNeg (zE (h16) (zR (h16) 1260 (l0)) ((l3) + ((1 : Int32))).toNatClampNeg)) (fun h20 => bh ((l3) + (1 : Int32)) (fun x21 => f_X11_leaves_12 n (l0) (l1) (x21) (h20))))))))))))))))))
theorem f_X11_leaves_12_ok {G : Gd} {d : Nat} (hj : 1 ≤ d) : ∀ (n : Nat) (l0 : Nat) (l1 : Int32) (l3 : Int32) (L : List (Nat × Value)) (h : Hp) (o : Hp), zlk L 0 = some (zrf (l0)) → zlk L 1 = some (.int (l1)) → zlk L 3 = some (.int (l3)) → f_X11_leaves_12 n l0 l1 l3 h = some o → Ev G M_X11_leaves d 12 L [] h (Ret Y_X11_leaves none o) := by
  intro n
  induction n with
  | zero =>
    intro l0 l1 l3 L h o g0 g1 g3 e
    cases e
  | succ n ih =>
    intro l0 l1 l3 L h o g0 g1 g3 e
    unfold f_X11_leaves_12 at e
    refine r_iload_n d_X11_leaves_12 rfl g3 ?_
    refine r_sipush d_X11_leaves_13 (v := (1024 : Int32)) (by decide +kernel) ?_
    refine r_iload_n d_X11_leaves_16 rfl g1 ?_
    refine r_imul d_X11_leaves_17 ?_
    refine g_ald_n d_X11_leaves_18 rfl g0 ?_
    replace e := ckd e
    obtain ⟨k5, e⟩ := e
    refine g_getR d_X11_leaves_19 (f := 1257) k5 fk_10_161 rfl rfl ?_
    refine r_iload_n d_X11_leaves_22 rfl g1 ?_
    replace e := ckd e
    obtain ⟨k6, e⟩ := e
    replace e := ckd e
    obtain ⟨k7, e⟩ := e
    refine g_iald d_X11_leaves_23 k6 k7 rfl ?_
    refine r_iadd d_X11_leaves_24 ?_
    refine r_icmp_ge d_X11_leaves_25 (tgt := 76) (by decide) (fun c8 => ?_) (fun c8 => ?_)
    · replace e := (if_pos c8).symm.trans e
      obtain rfl := Option.some.inj e
      exact g_vret d_X11_leaves_76 rfl
    · replace e := (if_neg c8).symm.trans e
      refine g_ald_n d_X11_leaves_28 rfl g0 ?_
      refine g_getR d_X11_leaves_29 (f := 1258) k5 fk_10_164 rfl rfl ?_
      refine r_iload_n d_X11_leaves_32 rfl g3 ?_
      refine g_ald_n d_X11_leaves_33 rfl g0 ?_
      refine g_getR d_X11_leaves_34 (f := 1258) k5 fk_10_164 rfl rfl ?_
      refine r_iload_n d_X11_leaves_37 rfl g3 ?_
      refine r_iconst d_X11_leaves_38 (v := (1 : Int32)) (by decide +kernel) ?_
      refine r_iadd d_X11_leaves_39 ?_
      replace e := ckd e
      obtain ⟨k9, e⟩ := e
      replace e := ckd e
      obtain ⟨k10, e⟩ := e
      refine g_iald d_X11_leaves_40 k9 k10 rfl ?_
      replace e := ckd e
      obtain ⟨k11, e⟩ := e
      refine g_iast d_X11_leaves_41 k9 k11 ?_
      replace e := bhd e
      obtain ⟨_, rfl, e⟩ := e
      refine g_ald_n d_X11_leaves_42 rfl g0 ?_
      refine g_getR d_X11_leaves_43 (f := 1259) (tO_pE k5) fk_10_167 rfl rfl ?_
      refine r_iload_n d_X11_leaves_46 rfl g3 ?_
      refine g_ald_n d_X11_leaves_47 rfl g0 ?_
      refine g_getR d_X11_leaves_48 (f := 1259) (tO_pE k5) fk_10_167 rfl rfl ?_
      refine r_iload_n d_X11_leaves_51 rfl g3 ?_
      refine r_iconst d_X11_leaves_52 (v := (1 : Int32)) (by decide +kernel) ?_
      refine r_iadd d_X11_leaves_53 ?_
      replace e := ckd e
      obtain ⟨k13, e⟩ := e
      replace e := ckd e
      obtain ⟨k14, e⟩ := e
      refine g_iald d_X11_leaves_54 k13 k14 rfl ?_
      replace e := ckd e
      obtain ⟨k15, e⟩ := e
      refine g_iast d_X11_leaves_55 k13 k15 ?_
      replace e := bhd e
      obtain ⟨_, rfl, e⟩ := e
      refine g_ald_n d_X11_leaves_56 rfl g0 ?_
      refine g_getR d_X11_leaves_57 (f := 1260) (tO_pE (tO_pE k5)) fk_10_170 rfl rfl ?_
      refine r_iload_n d_X11_leaves_60 rfl g3 ?_
      refine g_ald_n d_X11_leaves_61 rfl g0 ?_
      refine g_getR d_X11_leaves_62 (f := 1260) (tO_pE (tO_pE k5)) fk_10_170 rfl rfl ?_
      refine r_iload_n d_X11_leaves_65 rfl g3 ?_
      refine r_iconst d_X11_leaves_66 (v := (1 : Int32)) (by decide +kernel) ?_
      refine r_iadd d_X11_leaves_67 ?_
      replace e := ckd e
      obtain ⟨k17, e⟩ := e
      replace e := ckd e
      obtain ⟨k18, e⟩ := e
      refine g_iald d_X11_leaves_68 k17 k18 rfl ?_
      replace e := ckd e
      obtain ⟨k19, e⟩ := e
      refine g_iast d_X11_leaves_69 k17 k19 ?_
      replace e := bhd e
      obtain ⟨_, rfl, e⟩ := e
      replace e := bhd e
      obtain ⟨_, rfl, e⟩ := e
      refine s_iinc d_X11_leaves_70 g3 (w := (1 : Int32)) (by decide +kernel) (by decide) (fun L g3 gK => ?_)
      replace g0 := gK _ _ (by decide) (Or.inr (zrf_cat _)) g0
      replace g1 := gK _ _ (by decide) (Or.inr rfl) g1
      refine r_goto d_X11_leaves_73 (tgt := 12) (by decide) ?_
      exact ih _ _ _ _ _ _ g0 g1 g3 e

def f_X11_leaves (l0 : Nat) (l1 : Int32) (l2 : Int32) (h : Hp) : Option Hp := ck (isO (h) (l0) 12) (ck (isO (h) (zR (h) 1257 (l0)) 22) (ck (inR (l1) (zL (h) (zR (h) 1257 (l0)))) (bh (pE (h) (zR (h) 1257 (l0)) (l1).toNatClampNeg ((zE (h) (zR (h) 1257 (l0)) (l1).toNatClampNeg) - ((1 : Int32)))) (fun h4 => f_X11_leaves_12 fz (l0) (l1) (l2) (h4)))))
theorem f_X11_leaves_ok {G : Gd} {d : Nat} (hj : 1 ≤ d) : ∀ (l0 : Nat) (l1 : Int32) (l2 : Int32) (L : List (Nat × Value)) (h : Hp) (o : Hp), zlk L 0 = some (zrf (l0)) → zlk L 1 = some (.int (l1)) → zlk L 2 = some (.int (l2)) → f_X11_leaves l0 l1 l2 h = some o → Ev G M_X11_leaves d 0 L [] h (Ret Y_X11_leaves none o) := by
  intro l0 l1 l2 L h o g0 g1 g2 e
  unfold f_X11_leaves at e
  refine g_ald_n d_X11_leaves_0 rfl g0 ?_
  replace e := ckd e
  obtain ⟨k1, e⟩ := e
  refine g_getR d_X11_leaves_1 (f := 1257) k1 fk_10_161 rfl rfl ?_
  refine r_iload_n d_X11_leaves_4 rfl g1 ?_
  refine r_dup2 d_X11_leaves_5 rfl (zrf_cat _) ?_
  replace e := ckd e
  obtain ⟨k2, e⟩ := e
  replace e := ckd e
  obtain ⟨k3, e⟩ := e
  refine g_iald d_X11_leaves_6 k2 k3 rfl ?_
  refine r_iconst d_X11_leaves_7 (v := (1 : Int32)) (by decide +kernel) ?_
  refine r_isub d_X11_leaves_8 ?_
  refine g_iast d_X11_leaves_9 k2 k3 ?_
  replace e := bhd e
  obtain ⟨_, rfl, e⟩ := e
  refine r_iload_n d_X11_leaves_10 rfl g2 ?_
  refine s_istore_n d_X11_leaves_11 rfl (by decide) (fun L g3 gK => ?_)
  replace g0 := gK _ _ (by decide) (Or.inr (zrf_cat _)) g0
  replace g1 := gK _ _ (by decide) (Or.inr rfl) g1
  exact f_X11_leaves_12_ok hj _ _ _ _ _ _ _ g0 g1 g3 e

theorem c_X11_leaves {G : Gd} {j : Nat} (hj : 1 ≤ j) {l0 : Nat} {l1 : Int32} {l2 : Int32} {h : Hp} {o : Hp} (e : f_X11_leaves l0 l1 l2 h = some o) : Cal G j Y_X11_leaves [zrf (l0), .int (l1), .int (l2)] h none o := Cal.of (n := 0) (I := false) (by first | exact Or.inl (by decide +kernel) | exact Or.inr (by decide +kernel)) (by decide) (by simp [lg_sl, zrf_cat, cat_int, cat_long]) (f_X11_leaves_ok hj _ _ _ _ h o (by simp [lv_args, zlk, zrf_cat, cat_int, cat_long]) (by simp [lv_args, zlk, zrf_cat, cat_int, cat_long]) (by simp [lv_args, zlk, zrf_cat, cat_int, cat_long]) e)
def f_X11_outOf_6 : Nat → Nat → Int32 → Int32 → Int32 → Hp → Option (Int32 × Hp)
  | 0, _, _, _, _, _ => none
  | n + 1, l0, l1, l2, l3, h => ck (isO (h) (l0) 12) (ck (isO (h) (zR (h) 1257 (l0)) 22) (ck (inR (l1) (zL (h) (zR (h) 1257 (l0)))) (if ((((1024 : Int32)) * (l1)) + (zE (h) (zR (h) 1257 (l0)) (l1).toNatClampNeg)) ≤ (l3) then (some ((-1 : Int32), h)) else (ck (isO (h) (zR (h) 1258 (l0)) 22) (ck (inR (l3) (zL (h) (zR (h) 1258 (l0)))) (if (zE (h) (zR (h) 1258 (l0)) (l3).toNatClampNeg) = (l2) then (some (l3, h)) else (bh ((l3) + (1 : Int32)) (fun x9 => f_X11_outOf_6 n (l0) (l1) (l2) (x9) (h)))))))))
theorem f_X11_outOf_6_ok {G : Gd} {d : Nat} (hj : 1 ≤ d) : ∀ (n : Nat) (l0 : Nat) (l1 : Int32) (l2 : Int32) (l3 : Int32) (L : List (Nat × Value)) (h : Hp) (o : (Int32 × Hp)), zlk L 0 = some (zrf (l0)) → zlk L 1 = some (.int (l1)) → zlk L 2 = some (.int (l2)) → zlk L 3 = some (.int (l3)) → f_X11_outOf_6 n l0 l1 l2 l3 h = some o → Ev G M_X11_outOf d 6 L [] h (Ret Y_X11_outOf (some (.int o.1)) o.2) := by
  intro n
  induction n with
  | zero =>
    intro l0 l1 l2 l3 L h o g0 g1 g2 g3 e
    cases e
  | succ n ih =>
    intro l0 l1 l2 l3 L h o g0 g1 g2 g3 e
    unfold f_X11_outOf_6 at e
    refine r_iload_n d_X11_outOf_6 rfl g3 ?_
    refine r_sipush d_X11_outOf_7 (v := (1024 : Int32)) (by decide +kernel) ?_
    refine r_iload_n d_X11_outOf_10 rfl g1 ?_
    refine r_imul d_X11_outOf_11 ?_
    refine g_ald_n d_X11_outOf_12 rfl g0 ?_
    replace e := ckd e
    obtain ⟨k2, e⟩ := e
    refine g_getR d_X11_outOf_13 (f := 1257) k2 fk_10_161 rfl rfl ?_
    refine r_iload_n d_X11_outOf_16 rfl g1 ?_
    replace e := ckd e
    obtain ⟨k3, e⟩ := e
    replace e := ckd e
    obtain ⟨k4, e⟩ := e
    refine g_iald d_X11_outOf_17 k3 k4 rfl ?_
    refine r_iadd d_X11_outOf_18 ?_
    refine r_icmp_ge d_X11_outOf_19 (tgt := 40) (by decide) (fun c5 => ?_) (fun c5 => ?_)
    · replace e := (if_pos c5).symm.trans e
      refine r_iconst d_X11_outOf_40 (v := (-1 : Int32)) (by decide +kernel) ?_
      obtain rfl := Option.some.inj e
      exact g_iret d_X11_outOf_41 rfl rfl
    · replace e := (if_neg c5).symm.trans e
      refine g_ald_n d_X11_outOf_22 rfl g0 ?_
      refine g_getR d_X11_outOf_23 (f := 1258) k2 fk_10_164 rfl rfl ?_
      refine r_iload_n d_X11_outOf_26 rfl g3 ?_
      replace e := ckd e
      obtain ⟨k6, e⟩ := e
      replace e := ckd e
      obtain ⟨k7, e⟩ := e
      refine g_iald d_X11_outOf_27 k6 k7 rfl ?_
      refine r_iload_n d_X11_outOf_28 rfl g2 ?_
      refine r_icmp_ne d_X11_outOf_29 (tgt := 34) (by decide) (fun c8 => ?_) (fun c8 => ?_)
      · replace e := (if_neg c8).symm.trans e
        replace e := bhd e
        obtain ⟨_, rfl, e⟩ := e
        refine s_iinc d_X11_outOf_34 g3 (w := (1 : Int32)) (by decide +kernel) (by decide) (fun L g3 gK => ?_)
        replace g0 := gK _ _ (by decide) (Or.inr (zrf_cat _)) g0
        replace g1 := gK _ _ (by decide) (Or.inr rfl) g1
        replace g2 := gK _ _ (by decide) (Or.inr rfl) g2
        refine r_goto d_X11_outOf_37 (tgt := 6) (by decide) ?_
        exact ih _ _ _ _ _ _ _ g0 g1 g2 g3 e
      · replace e := (if_pos c8).symm.trans e
        refine r_iload_n d_X11_outOf_32 rfl g3 ?_
        obtain rfl := Option.some.inj e
        exact g_iret d_X11_outOf_33 rfl rfl

def f_X11_outOf (l0 : Nat) (l1 : Int32) (l2 : Int32) (h : Hp) : Option (Int32 × Hp) := bh (((1024 : Int32)) * (l1)) (fun x1 => f_X11_outOf_6 fz (l0) (l1) (l2) (x1) (h))
theorem f_X11_outOf_ok {G : Gd} {d : Nat} (hj : 1 ≤ d) : ∀ (l0 : Nat) (l1 : Int32) (l2 : Int32) (L : List (Nat × Value)) (h : Hp) (o : (Int32 × Hp)), zlk L 0 = some (zrf (l0)) → zlk L 1 = some (.int (l1)) → zlk L 2 = some (.int (l2)) → f_X11_outOf l0 l1 l2 h = some o → Ev G M_X11_outOf d 0 L [] h (Ret Y_X11_outOf (some (.int o.1)) o.2) := by
  intro l0 l1 l2 L h o g0 g1 g2 e
  unfold f_X11_outOf at e
  refine r_sipush d_X11_outOf_0 (v := (1024 : Int32)) (by decide +kernel) ?_
  refine r_iload_n d_X11_outOf_3 rfl g1 ?_
  refine r_imul d_X11_outOf_4 ?_
  replace e := bhd e
  obtain ⟨_, rfl, e⟩ := e
  refine s_istore_n d_X11_outOf_5 rfl (by decide) (fun L g3 gK => ?_)
  replace g0 := gK _ _ (by decide) (Or.inr (zrf_cat _)) g0
  replace g1 := gK _ _ (by decide) (Or.inr rfl) g1
  replace g2 := gK _ _ (by decide) (Or.inr rfl) g2
  exact f_X11_outOf_6_ok hj _ _ _ _ _ _ _ _ g0 g1 g2 g3 e

theorem c_X11_outOf {G : Gd} {j : Nat} (hj : 1 ≤ j) {l0 : Nat} {l1 : Int32} {l2 : Int32} {h : Hp} {o : (Int32 × Hp)} (e : f_X11_outOf l0 l1 l2 h = some o) : Cal G j Y_X11_outOf [zrf (l0), .int (l1), .int (l2)] h (some (.int o.1)) o.2 := Cal.of (n := 0) (I := false) (by first | exact Or.inl (by decide +kernel) | exact Or.inr (by decide +kernel)) (by decide) (by simp [lg_sl, zrf_cat, cat_int, cat_long]) (f_X11_outOf_ok hj _ _ _ _ h o (by simp [lv_args, zlk, zrf_cat, cat_int, cat_long]) (by simp [lv_args, zlk, zrf_cat, cat_int, cat_long]) (by simp [lv_args, zlk, zrf_cat, cat_int, cat_long]) e)
theorem vk_10_415 : Vk "TaskWeaveModel" 415 2 12 Y_X11_outOf := ⟨yk_X11_outOf, by decide +kernel, by decide +kernel, by decide +kernel, by decide⟩
theorem vk_10_418 : Vk "TaskWeaveModel" 418 2 12 Y_X11_delivers := ⟨yk_X11_delivers, by decide +kernel, by decide +kernel, by decide +kernel, by decide⟩
theorem vk_10_421 : Vk "TaskWeaveModel" 421 2 12 Y_X11_leaves := ⟨yk_X11_leaves, by decide +kernel, by decide +kernel, by decide +kernel, by decide⟩
def f_X11_messages_143 (K40 : Nat → Int32 → Int32 → Int32 → Hp → Option Hp) (l0 : Nat) (l1 : Int32) (l2 : Int32) (l3 : Int32) (h : Hp) : Option Hp := bh ((l3) + (1 : Int32)) (fun x43 => K40 (l0) (l1) (l2) (x43) (h))
theorem f_X11_messages_143_ok {G : Gd} {d : Nat} (K40 : Nat → Int32 → Int32 → Int32 → Hp → Option Hp) (hj : 649 ≤ d) (hK40 : ∀ (l0 : Nat) (l1 : Int32) (l2 : Int32) (l3 : Int32) (L : List (Nat × Value)) (h : Hp) (o : Hp), zlk L 0 = some (zrf (l0)) → zlk L 1 = some (.int (l1)) → zlk L 2 = some (.int (l2)) → zlk L 3 = some (.int (l3)) → K40 l0 l1 l2 l3 h = some o → Ev G M_X11_messages d 40 L [] h (Ret Y_X11_messages none o)) : ∀ (l0 : Nat) (l1 : Int32) (l2 : Int32) (l3 : Int32) (L : List (Nat × Value)) (h : Hp) (o : Hp), zlk L 0 = some (zrf (l0)) → zlk L 1 = some (.int (l1)) → zlk L 2 = some (.int (l2)) → zlk L 3 = some (.int (l3)) → f_X11_messages_143 K40 l0 l1 l2 l3 h = some o → Ev G M_X11_messages d 143 L [] h (Ret Y_X11_messages none o) := by
  intro l0 l1 l2 l3 L h o g0 g1 g2 g3 e
  unfold f_X11_messages_143 at e
  replace e := bhd e
  obtain ⟨_, rfl, e⟩ := e
  refine s_iinc d_X11_messages_143 g3 (w := (1 : Int32)) (by decide +kernel) (by decide) (fun L g3 gK => ?_)
  replace g0 := gK _ _ (by decide) (Or.inr (zrf_cat _)) g0
  replace g1 := gK _ _ (by decide) (Or.inr rfl) g1
  replace g2 := gK _ _ (by decide) (Or.inr rfl) g2
  refine r_goto d_X11_messages_146 (tgt := 40) (by decide) ?_
  exact hK40 _ _ _ _ _ _ _ g0 g1 g2 g3 e

def f_X11_messages_40 : Nat → Nat → Int32 → Int32 → Int32 → Hp → Option Hp
  | 0, _, _, _, _, _ => none
  | n + 1, l0, l1, l2, l3, h => if (l2) ≤ (l3) then (some (h)) else (ck (isO (h) (l0) 12) (ck (isO (h) (zR (h) 1237 (l0)) 22) (ck (inR (l1) (zL (h) (zR (h) 1237 (l0)))) (if (zE (h) (zR (h) 1237 (l0)) (l1).toNatClampNeg) = ((-1 : Int32)) then (some (h)) else (ck (isO (h) (zR (h) 1261 (l0)) 22) (ck (inR (l3) (zL (h) (zR (h) 1261 (l0)))) ((f_X11_outOf (l0) (l1) (zE (h) (zR (h) 1261 (l0)) (l3).toNatClampNeg) (h)).bind (fun q20 => if (q20.1) = ((-1 : Int32)) then (f_X11_messages_143 (f_X11_messages_40 n) (l0) (l1) (l2) (l3) (q20.2)) else (ck (isO (q20.2) (l0) 12) (ck (isO (q20.2) (zR (q20.2) 1259 (l0)) 22) (ck (inR (q20.1) (zL (q20.2) (zR (q20.2) 1259 (l0)))) (ck (isO (q20.2) (zR (q20.2) 1260 (l0)) 22) (ck (inR (q20.1) (zL (q20.2) (zR (q20.2) 1260 (l0)))) ((f_X11_delivers (l0) (zE (q20.2) (zR (q20.2) 1259 (l0)) (q20.1).toNatClampNeg) (zE (q20.2) (zR (q20.2) 1260 (l0)) (q20.1).toNatClampNeg) (q20.2)).bind (fun q27 => if (q27.1) = (0) then (f_X11_messages_143 (f_X11_messages_40 n) (l0) (l1) (l2) (l3) (q27.2)) else (ck (isO (q27.2) (l0) 12) (ck (isO (q27.2) (zR (q27.2) 1237 (l0)) 22) (ck (inR (l1) (zL (q27.2) (zR (q27.2) 1237 (l0)))) (if (zE (q27.2) (zR (q27.2) 1237 (l0)) (l1).toNatClampNeg) = ((-1 : Int32)) then (f_X11_messages_143 (f_X11_messages_40 n) (l0) (l1) (l2) (l3) (q27.2)) else (ck (isO (q27.2) (zR (q27.2) 1261 (l0)) 22) (ck (inR (l3) (zL (q27.2) (zR (q27.2) 1261 (l0)))) ((f_X11_does (f_losesD 30) (l0) (l1) ((0 : Int32)) ((14 : Int32)) (zE (q27.2) (zR (q27.2) 1261 (l0)) (l3).toNatClampNeg) ((0 : Int32)) ((0 : Int32)) (q27.2)).bind (fun q35 => if (q35.1) = (0) then (f_X11_messages_143 (f_X11_messages_40 n) (l0) (l1) (l2) (l3) (q35.2)) else (ck (isO (q35.2) (l0) 12) (ck (isO (q35.2) (zR (q35.2) 1261 (l0)) 22) (ck (inR (l3) (zL (q35.2) (zR (q35.2) 1261 (l0)))) ((f_X11_outOf (l0) (l1) (zE (q35.2) (zR (q35.2) 1261 (l0)) (l3).toNatClampNeg) (q35.2)).bind (fun q40 => ck (isO (q40.2) (l0) 12) ((f_X11_leaves (l0) (l1) (q40.1) (q40.2)).bind (fun q41 => f_X11_messages_143 (f_X11_messages_40 n) (l0) (l1) (l2) (l3) (q41)))))))))))))))))))))))))))))))
theorem f_X11_messages_40_ok {G : Gd} {d : Nat} (hj : 649 ≤ d) : ∀ (n : Nat) (l0 : Nat) (l1 : Int32) (l2 : Int32) (l3 : Int32) (L : List (Nat × Value)) (h : Hp) (o : Hp), zlk L 0 = some (zrf (l0)) → zlk L 1 = some (.int (l1)) → zlk L 2 = some (.int (l2)) → zlk L 3 = some (.int (l3)) → f_X11_messages_40 n l0 l1 l2 l3 h = some o → Ev G M_X11_messages d 40 L [] h (Ret Y_X11_messages none o) := by
  intro n
  induction n with
  | zero =>
    intro l0 l1 l2 l3 L h o g0 g1 g2 g3 e
    cases e
  | succ n ih =>
    intro l0 l1 l2 l3 L h o g0 g1 g2 g3 e
    unfold f_X11_messages_40 at e
    refine r_iload_n d_X11_messages_40 rfl g3 ?_
    refine r_iload_n d_X11_messages_41 rfl g2 ?_
    refine r_icmp_ge d_X11_messages_42 (tgt := 149) (by decide) (fun c13 => ?_) (fun c13 => ?_)
    · replace e := (if_pos c13).symm.trans e
      obtain rfl := Option.some.inj e
      exact g_vret d_X11_messages_149 rfl
    · replace e := (if_neg c13).symm.trans e
      refine g_ald_n d_X11_messages_45 rfl g0 ?_
      replace e := ckd e
      obtain ⟨k14, e⟩ := e
      refine g_getR d_X11_messages_46 (f := 1237) k14 fk_10_101 rfl rfl ?_
      refine r_iload_n d_X11_messages_49 rfl g1 ?_
      replace e := ckd e
      obtain ⟨k15, e⟩ := e
      replace e := ckd e
      obtain ⟨k16, e⟩ := e
      refine g_iald d_X11_messages_50 k15 k16 rfl ?_
      refine r_iconst d_X11_messages_51 (v := (-1 : Int32)) (by decide +kernel) ?_
      refine r_icmp_eq d_X11_messages_52 (tgt := 149) (by decide) (fun c17 => ?_) (fun c17 => ?_)
      · replace e := (if_pos c17).symm.trans e
        obtain rfl := Option.some.inj e
        exact g_vret d_X11_messages_149 rfl
      · replace e := (if_neg c17).symm.trans e
        refine g_ald_n d_X11_messages_55 rfl g0 ?_
        refine r_iload_n d_X11_messages_56 rfl g1 ?_
        refine g_ald_n d_X11_messages_57 rfl g0 ?_
        refine g_getR d_X11_messages_58 (f := 1261) k14 fk_10_173 rfl rfl ?_
        refine r_iload_n d_X11_messages_61 rfl g3 ?_
        replace e := ckd e
        obtain ⟨k18, e⟩ := e
        replace e := ckd e
        obtain ⟨k19, e⟩ := e
        refine g_iald d_X11_messages_62 k18 k19 rfl ?_
        replace e := bd e
        obtain ⟨q20, eq20, e⟩ := e
        refine g_callV d_X11_messages_63 vk_10_415 (as := [_, _]) rfl k14 rfl (by simp [zrf_cat, cat_int, cat_long]) (j := 1) (by omega) (c_X11_outOf (by omega) eq20) ?_
        refine s_istore d_X11_messages_66 (by decide) (fun L g4 gK => ?_)
        replace g0 := gK _ _ (by decide) (Or.inr (zrf_cat _)) g0
        replace g1 := gK _ _ (by decide) (Or.inr rfl) g1
        replace g2 := gK _ _ (by decide) (Or.inr rfl) g2
        replace g3 := gK _ _ (by decide) (Or.inr rfl) g3
        refine r_iload d_X11_messages_68 g4 ?_
        refine r_iconst d_X11_messages_70 (v := (-1 : Int32)) (by decide +kernel) ?_
        refine r_icmp_eq d_X11_messages_71 (tgt := 143) (by decide) (fun c21 => ?_) (fun c21 => ?_)
        · replace e := (if_pos c21).symm.trans e
          exact f_X11_messages_143_ok _ hj ih _ _ _ _ _ _ _ g0 g1 g2 g3 e
        · replace e := (if_neg c21).symm.trans e
          refine g_ald_n d_X11_messages_74 rfl g0 ?_
          refine g_ald_n d_X11_messages_75 rfl g0 ?_
          replace e := ckd e
          obtain ⟨k22, e⟩ := e
          refine g_getR d_X11_messages_76 (f := 1259) k22 fk_10_167 rfl rfl ?_
          refine r_iload d_X11_messages_79 g4 ?_
          replace e := ckd e
          obtain ⟨k23, e⟩ := e
          replace e := ckd e
          obtain ⟨k24, e⟩ := e
          refine g_iald d_X11_messages_81 k23 k24 rfl ?_
          refine g_ald_n d_X11_messages_82 rfl g0 ?_
          refine g_getR d_X11_messages_83 (f := 1260) k22 fk_10_170 rfl rfl ?_
          refine r_iload d_X11_messages_86 g4 ?_
          replace e := ckd e
          obtain ⟨k25, e⟩ := e
          replace e := ckd e
          obtain ⟨k26, e⟩ := e
          refine g_iald d_X11_messages_88 k25 k26 rfl ?_
          replace e := bd e
          obtain ⟨q27, eq27, e⟩ := e
          refine g_callV d_X11_messages_89 vk_10_418 (as := [_, _]) rfl k22 rfl (by simp [zrf_cat, cat_int, cat_long]) (j := 648) (by omega) (c_X11_delivers (by omega) eq27) ?_
          refine r_if_eq d_X11_messages_92 (tgt := 143) (by decide) (fun c28 => ?_) (fun c28 => ?_)
          · replace e := (if_pos c28).symm.trans e
            exact f_X11_messages_143_ok _ hj ih _ _ _ _ _ _ _ g0 g1 g2 g3 e
          · replace e := (if_neg c28).symm.trans e
            refine g_ald_n d_X11_messages_95 rfl g0 ?_
            replace e := ckd e
            obtain ⟨k29, e⟩ := e
            refine g_getR d_X11_messages_96 (f := 1237) k29 fk_10_101 rfl rfl ?_
            refine r_iload_n d_X11_messages_99 rfl g1 ?_
            replace e := ckd e
            obtain ⟨k30, e⟩ := e
            replace e := ckd e
            obtain ⟨k31, e⟩ := e
            refine g_iald d_X11_messages_100 k30 k31 rfl ?_
            refine r_iconst d_X11_messages_101 (v := (-1 : Int32)) (by decide +kernel) ?_
            refine r_icmp_eq d_X11_messages_102 (tgt := 143) (by decide) (fun c32 => ?_) (fun c32 => ?_)
            · replace e := (if_pos c32).symm.trans e
              exact f_X11_messages_143_ok _ hj ih _ _ _ _ _ _ _ g0 g1 g2 g3 e
            · replace e := (if_neg c32).symm.trans e
              refine g_ald_n d_X11_messages_105 rfl g0 ?_
              refine r_iload_n d_X11_messages_106 rfl g1 ?_
              refine r_iconst d_X11_messages_107 (v := (0 : Int32)) (by decide +kernel) ?_
              refine r_bipush d_X11_messages_108 (v := (14 : Int32)) (by decide +kernel) ?_
              refine g_ald_n d_X11_messages_110 rfl g0 ?_
              refine g_getR d_X11_messages_111 (f := 1261) k29 fk_10_173 rfl rfl ?_
              refine r_iload_n d_X11_messages_114 rfl g3 ?_
              replace e := ckd e
              obtain ⟨k33, e⟩ := e
              replace e := ckd e
              obtain ⟨k34, e⟩ := e
              refine g_iald d_X11_messages_115 k33 k34 rfl ?_
              refine r_iconst d_X11_messages_116 (v := (0 : Int32)) (by decide +kernel) ?_
              refine r_iconst d_X11_messages_117 (v := (0 : Int32)) (by decide +kernel) ?_
              replace e := bd e
              obtain ⟨q35, eq35, e⟩ := e
              refine g_callV d_X11_messages_118 vk_10_364 (as := [_, _, _, _, _, _]) rfl k29 rfl (by simp [zrf_cat, cat_int, cat_long]) (j := 642) (by omega) (c_X11_does (jl := 640) (fun q => c_losesD 30 (by omega) q) (by omega) (by omega) eq35) ?_
              refine r_if_ne d_X11_messages_121 (tgt := 127) (by decide) (fun c36 => ?_) (fun c36 => ?_)
              · replace e := (if_neg c36).symm.trans e
                refine g_ald_n d_X11_messages_127 rfl g0 ?_
                refine r_iload_n d_X11_messages_128 rfl g1 ?_
                refine g_ald_n d_X11_messages_129 rfl g0 ?_
                refine r_iload_n d_X11_messages_130 rfl g1 ?_
                refine g_ald_n d_X11_messages_131 rfl g0 ?_
                replace e := ckd e
                obtain ⟨k37, e⟩ := e
                refine g_getR d_X11_messages_132 (f := 1261) k37 fk_10_173 rfl rfl ?_
                refine r_iload_n d_X11_messages_135 rfl g3 ?_
                replace e := ckd e
                obtain ⟨k38, e⟩ := e
                replace e := ckd e
                obtain ⟨k39, e⟩ := e
                refine g_iald d_X11_messages_136 k38 k39 rfl ?_
                replace e := bd e
                obtain ⟨q40, eq40, e⟩ := e
                refine g_callV d_X11_messages_137 vk_10_415 (as := [_, _]) rfl k37 rfl (by simp [zrf_cat, cat_int, cat_long]) (j := 1) (by omega) (c_X11_outOf (by omega) eq40) ?_
                replace e := ckd e
                obtain ⟨k42, e⟩ := e
                replace e := bd e
                obtain ⟨q41, eq41, e⟩ := e
                refine g_callV d_X11_messages_140 vk_10_421 (as := [_, _]) rfl k42 rfl (by simp [zrf_cat, cat_int, cat_long]) (j := 1) (by omega) (c_X11_leaves (by omega) eq41) ?_
                exact f_X11_messages_143_ok _ hj ih _ _ _ _ _ _ _ g0 g1 g2 g3 e
              · replace e := (if_pos c36).symm.trans e
                refine r_goto d_X11_messages_124 (tgt := 143) (by decide) ?_
                exact f_X11_messages_143_ok _ hj ih _ _ _ _ _ _ _ g0 g1 g2 g3 e

def f_X11_messages_9 : Nat → Nat → Int32 → Int32 → Int32 → Hp → Option Hp
  | 0, _, _, _, _, _ => none
  | n + 1, l0, l1, l2, l3, h => if (l2) ≤ (l3) then (f_X11_messages_40 fz (l0) (l1) (l2) ((0 : Int32)) (h)) else (ck (isO (h) (l0) 12) (ck (isO (h) (zR (h) 1258 (l0)) 22) (ck (inR ((((1024 : Int32)) * (l1)) + (l3)) (zL (h) (zR (h) 1258 (l0)))) (ck (isO (h) (zR (h) 1261 (l0)) 22) (ck (inR (l3) (zL (h) (zR (h) 1261 (l0)))) (bh (pE (h) (zR (h) 1261 (l0)) (l3).toNatClampNeg (zE (h) (zR (h) 1258 (l0)) ((((1024 : Int32)) * (l1)) + (l3)).toNatClampNeg)) (fun h11 => bh ((l3) + (1 : Int32)) (fun x12 => f_X11_messages_9 n (l0) (l1) (l2) (x12) (h11)))))))))
theorem f_X11_messages_9_ok {G : Gd} {d : Nat} (hj : 649 ≤ d) : ∀ (n : Nat) (l0 : Nat) (l1 : Int32) (l2 : Int32) (l3 : Int32) (L : List (Nat × Value)) (h : Hp) (o : Hp), zlk L 0 = some (zrf (l0)) → zlk L 1 = some (.int (l1)) → zlk L 2 = some (.int (l2)) → zlk L 3 = some (.int (l3)) → f_X11_messages_9 n l0 l1 l2 l3 h = some o → Ev G M_X11_messages d 9 L [] h (Ret Y_X11_messages none o) := by
  intro n
  induction n with
  | zero =>
    intro l0 l1 l2 l3 L h o g0 g1 g2 g3 e
    cases e
  | succ n ih =>
    intro l0 l1 l2 l3 L h o g0 g1 g2 g3 e
    unfold f_X11_messages_9 at e
    refine r_iload_n d_X11_messages_9 rfl g3 ?_
    refine r_iload_n d_X11_messages_10 rfl g2 ?_
    refine r_icmp_ge d_X11_messages_11 (tgt := 38) (by decide) (fun c5 => ?_) (fun c5 => ?_)
    · replace e := (if_pos c5).symm.trans e
      refine r_iconst d_X11_messages_38 (v := (0 : Int32)) (by decide +kernel) ?_
      refine s_istore_n d_X11_messages_39 rfl (by decide) (fun L g3 gK => ?_)
      replace g0 := gK _ _ (by decide) (Or.inr (zrf_cat _)) g0
      replace g1 := gK _ _ (by decide) (Or.inr rfl) g1
      replace g2 := gK _ _ (by decide) (Or.inr rfl) g2
      exact f_X11_messages_40_ok hj _ _ _ _ _ _ _ _ g0 g1 g2 g3 e
    · replace e := (if_neg c5).symm.trans e
      refine g_ald_n d_X11_messages_14 rfl g0 ?_
      replace e := ckd e
      obtain ⟨k6, e⟩ := e
      refine g_getR d_X11_messages_15 (f := 1261) k6 fk_10_173 rfl rfl ?_
      refine r_iload_n d_X11_messages_18 rfl g3 ?_
      refine g_ald_n d_X11_messages_19 rfl g0 ?_
      refine g_getR d_X11_messages_20 (f := 1258) k6 fk_10_164 rfl rfl ?_
      refine r_sipush d_X11_messages_23 (v := (1024 : Int32)) (by decide +kernel) ?_
      refine r_iload_n d_X11_messages_26 rfl g1 ?_
      refine r_imul d_X11_messages_27 ?_
      refine r_iload_n d_X11_messages_28 rfl g3 ?_
      refine r_iadd d_X11_messages_29 ?_
      replace e := ckd e
      obtain ⟨k7, e⟩ := e
      replace e := ckd e
      obtain ⟨k8, e⟩ := e
      refine g_iald d_X11_messages_30 k7 k8 rfl ?_
      replace e := ckd e
      obtain ⟨k9, e⟩ := e
      replace e := ckd e
      obtain ⟨k10, e⟩ := e
      refine g_iast d_X11_messages_31 k9 k10 ?_
      replace e := bhd e
      obtain ⟨_, rfl, e⟩ := e
      replace e := bhd e
      obtain ⟨_, rfl, e⟩ := e
      refine s_iinc d_X11_messages_32 g3 (w := (1 : Int32)) (by decide +kernel) (by decide) (fun L g3 gK => ?_)
      replace g0 := gK _ _ (by decide) (Or.inr (zrf_cat _)) g0
      replace g1 := gK _ _ (by decide) (Or.inr rfl) g1
      replace g2 := gK _ _ (by decide) (Or.inr rfl) g2
      refine r_goto d_X11_messages_35 (tgt := 9) (by decide) ?_
      exact ih _ _ _ _ _ _ _ g0 g1 g2 g3 e

def f_X11_messages (l0 : Nat) (l1 : Int32) (h : Hp) : Option Hp := ck (isO (h) (l0) 12) (ck (isO (h) (zR (h) 1257 (l0)) 22) (ck (inR (l1) (zL (h) (zR (h) 1257 (l0)))) (bh (zE (h) (zR (h) 1257 (l0)) (l1).toNatClampNeg) (fun x4 => f_X11_messages_9 fz (l0) (l1) (x4) ((0 : Int32)) (h)))))
theorem f_X11_messages_ok {G : Gd} {d : Nat} (hj : 649 ≤ d) : ∀ (l0 : Nat) (l1 : Int32) (L : List (Nat × Value)) (h : Hp) (o : Hp), zlk L 0 = some (zrf (l0)) → zlk L 1 = some (.int (l1)) → f_X11_messages l0 l1 h = some o → Ev G M_X11_messages d 0 L [] h (Ret Y_X11_messages none o) := by
  intro l0 l1 L h o g0 g1 e
  unfold f_X11_messages at e
  refine g_ald_n d_X11_messages_0 rfl g0 ?_
  replace e := ckd e
  obtain ⟨k1, e⟩ := e
  refine g_getR d_X11_messages_1 (f := 1257) k1 fk_10_161 rfl rfl ?_
  refine r_iload_n d_X11_messages_4 rfl g1 ?_
  replace e := ckd e
  obtain ⟨k2, e⟩ := e
  replace e := ckd e
  obtain ⟨k3, e⟩ := e
  refine g_iald d_X11_messages_5 k2 k3 rfl ?_
  replace e := bhd e
  obtain ⟨_, rfl, e⟩ := e
  refine s_istore_n d_X11_messages_6 rfl (by decide) (fun L g2 gK => ?_)
  replace g0 := gK _ _ (by decide) (Or.inr (zrf_cat _)) g0
  replace g1 := gK _ _ (by decide) (Or.inr rfl) g1
  refine r_iconst d_X11_messages_7 (v := (0 : Int32)) (by decide +kernel) ?_
  refine s_istore_n d_X11_messages_8 rfl (by decide) (fun L g3 gK => ?_)
  replace g0 := gK _ _ (by decide) (Or.inr (zrf_cat _)) g0
  replace g1 := gK _ _ (by decide) (Or.inr rfl) g1
  replace g2 := gK _ _ (by decide) (Or.inr rfl) g2
  exact f_X11_messages_9_ok hj _ _ _ _ _ _ _ _ g0 g1 g2 g3 e

theorem c_X11_messages {G : Gd} {j : Nat} (hj : 649 ≤ j) {l0 : Nat} {l1 : Int32} {h : Hp} {o : Hp} (e : f_X11_messages l0 l1 h = some o) : Cal G j Y_X11_messages [zrf (l0), .int (l1)] h none o := Cal.of (n := 0) (I := false) (by first | exact Or.inl (by decide +kernel) | exact Or.inr (by decide +kernel)) (by decide) (by simp [lg_sl, zrf_cat, cat_int, cat_long]) (f_X11_messages_ok hj _ _ _ h o (by simp [lv_args, zlk, zrf_cat, cat_int, cat_long]) (by simp [lv_args, zlk, zrf_cat, cat_int, cat_long]) e)
def f_X11_timers_66 (K2 : Nat → Int32 → Int32 → Hp → Option Hp) (l0 : Nat) (l1 : Int32) (l2 : Int32) (h : Hp) : Option Hp := bh ((l2) + (1 : Int32)) (fun x16 => K2 (l0) (l1) (x16) (h))
theorem f_X11_timers_66_ok {G : Gd} {d : Nat} (K2 : Nat → Int32 → Int32 → Hp → Option Hp) (hj : 647 ≤ d) (hK2 : ∀ (l0 : Nat) (l1 : Int32) (l2 : Int32) (L : List (Nat × Value)) (h : Hp) (o : Hp), zlk L 0 = some (zrf (l0)) → zlk L 1 = some (.int (l1)) → zlk L 2 = some (.int (l2)) → K2 l0 l1 l2 h = some o → Ev G M_X11_timers d 2 L [] h (Ret Y_X11_timers none o)) : ∀ (l0 : Nat) (l1 : Int32) (l2 : Int32) (L : List (Nat × Value)) (h : Hp) (o : Hp), zlk L 0 = some (zrf (l0)) → zlk L 1 = some (.int (l1)) → zlk L 2 = some (.int (l2)) → f_X11_timers_66 K2 l0 l1 l2 h = some o → Ev G M_X11_timers d 66 L [] h (Ret Y_X11_timers none o) := by
  intro l0 l1 l2 L h o g0 g1 g2 e
  unfold f_X11_timers_66 at e
  replace e := bhd e
  obtain ⟨_, rfl, e⟩ := e
  refine s_iinc d_X11_timers_66 g2 (w := (1 : Int32)) (by decide +kernel) (by decide) (fun L g2 gK => ?_)
  replace g0 := gK _ _ (by decide) (Or.inr (zrf_cat _)) g0
  replace g1 := gK _ _ (by decide) (Or.inr rfl) g1
  refine r_goto d_X11_timers_69 (tgt := 2) (by decide) ?_
  exact hK2 _ _ _ _ _ _ g0 g1 g2 e

def f_X11_timers_131 (K74 : Nat → Int32 → Int32 → Hp → Option Hp) (l0 : Nat) (l1 : Int32) (l2 : Int32) (h : Hp) : Option Hp := bh ((l2) + (1 : Int32)) (fun x32 => K74 (l0) (l1) (x32) (h))
theorem f_X11_timers_131_ok {G : Gd} {d : Nat} (K74 : Nat → Int32 → Int32 → Hp → Option Hp) (hj : 647 ≤ d) (hK74 : ∀ (l0 : Nat) (l1 : Int32) (l2 : Int32) (L : List (Nat × Value)) (h : Hp) (o : Hp), zlk L 0 = some (zrf (l0)) → zlk L 1 = some (.int (l1)) → zlk L 2 = some (.int (l2)) → K74 l0 l1 l2 h = some o → Ev G M_X11_timers d 74 L [] h (Ret Y_X11_timers none o)) : ∀ (l0 : Nat) (l1 : Int32) (l2 : Int32) (L : List (Nat × Value)) (h : Hp) (o : Hp), zlk L 0 = some (zrf (l0)) → zlk L 1 = some (.int (l1)) → zlk L 2 = some (.int (l2)) → f_X11_timers_131 K74 l0 l1 l2 h = some o → Ev G M_X11_timers d 131 L [] h (Ret Y_X11_timers none o) := by
  intro l0 l1 l2 L h o g0 g1 g2 e
  unfold f_X11_timers_131 at e
  replace e := bhd e
  obtain ⟨_, rfl, e⟩ := e
  refine s_iinc d_X11_timers_131 g2 (w := (1 : Int32)) (by decide +kernel) (by decide) (fun L g2 gK => ?_)
  replace g0 := gK _ _ (by decide) (Or.inr (zrf_cat _)) g0
  replace g1 := gK _ _ (by decide) (Or.inr rfl) g1
  refine r_goto d_X11_timers_134 (tgt := 74) (by decide) ?_
  exact hK74 _ _ _ _ _ _ g0 g1 g2 e

def f_X11_timers_74 : Nat → Nat → Int32 → Int32 → Hp → Option Hp
  | 0, _, _, _, _ => none
  | n + 1, l0, l1, l2, h => ck (isO (h) (l0) 12) (ck (isO (h) (zR (h) 1239 (l0)) 22) (ck (inR (l1) (zL (h) (zR (h) 1239 (l0)))) (if (zE (h) (zR (h) 1239 (l0)) (l1).toNatClampNeg) ≤ (l2) then (some (h)) else (ck (isO (h) (zR (h) 1237 (l0)) 22) (ck (inR (l1) (zL (h) (zR (h) 1237 (l0)))) (if (zE (h) (zR (h) 1237 (l0)) (l1).toNatClampNeg) = ((-1 : Int32)) then (some (h)) else (bh ((((16 : Int32)) * (l1)) + (l2)) (fun x24 => ck (isO (h) (zR (h) 1252 (l0)) 22) (ck (inR (x24) (zL (h) (zR (h) 1252 (l0)))) (if (zE (h) (zR (h) 1252 (l0)) (x24).toNatClampNeg) = ((2 : Int32)) then (ck (isO (h) (zR (h) 1254 (l0)) 22) (ck (inR (x24) (zL (h) (zR (h) 1254 (l0)))) (if (zI (h) 1201 (l0)) < (zE (h) (zR (h) 1254 (l0)) (x24).toNatClampNeg) then (f_X11_timers_131 (f_X11_timers_74 n) (l0) (l1) (l2) (h)) else ((f_X11_fails (l0) (x24) (h)).bind (fun q31 => f_X11_timers_131 (f_X11_timers_74 n) (l0) (l1) (l2) (q31.2)))))) else (f_X11_timers_131 (f_X11_timers_74 n) (l0) (l1) (l2) (h))))))))))))
theorem f_X11_timers_74_ok {G : Gd} {d : Nat} (hj : 647 ≤ d) : ∀ (n : Nat) (l0 : Nat) (l1 : Int32) (l2 : Int32) (L : List (Nat × Value)) (h : Hp) (o : Hp), zlk L 0 = some (zrf (l0)) → zlk L 1 = some (.int (l1)) → zlk L 2 = some (.int (l2)) → f_X11_timers_74 n l0 l1 l2 h = some o → Ev G M_X11_timers d 74 L [] h (Ret Y_X11_timers none o) := by
  intro n
  induction n with
  | zero =>
    intro l0 l1 l2 L h o g0 g1 g2 e
    cases e
  | succ n ih =>
    intro l0 l1 l2 L h o g0 g1 g2 e
    unfold f_X11_timers_74 at e
    refine r_iload_n d_X11_timers_74 rfl g2 ?_
    refine g_ald_n d_X11_timers_75 rfl g0 ?_
    replace e := ckd e
    obtain ⟨k17, e⟩ := e
    refine g_getR d_X11_timers_76 (f := 1239) k17 fk_10_107 rfl rfl ?_
    refine r_iload_n d_X11_timers_79 rfl g1 ?_
    replace e := ckd e
    obtain ⟨k18, e⟩ := e
    replace e := ckd e
    obtain ⟨k19, e⟩ := e
    refine g_iald d_X11_timers_80 k18 k19 rfl ?_
    refine r_icmp_ge d_X11_timers_81 (tgt := 137) (by decide) (fun c20 => ?_) (fun c20 => ?_)
    · replace e := (if_pos c20).symm.trans e
      obtain rfl := Option.some.inj e
      exact g_vret d_X11_timers_137 rfl
    · replace e := (if_neg c20).symm.trans e
      refine g_ald_n d_X11_timers_84 rfl g0 ?_
      refine g_getR d_X11_timers_85 (f := 1237) k17 fk_10_101 rfl rfl ?_
      refine r_iload_n d_X11_timers_88 rfl g1 ?_
      replace e := ckd e
      obtain ⟨k21, e⟩ := e
      replace e := ckd e
      obtain ⟨k22, e⟩ := e
      refine g_iald d_X11_timers_89 k21 k22 rfl ?_
      refine r_iconst d_X11_timers_90 (v := (-1 : Int32)) (by decide +kernel) ?_
      refine r_icmp_eq d_X11_timers_91 (tgt := 137) (by decide) (fun c23 => ?_) (fun c23 => ?_)
      · replace e := (if_pos c23).symm.trans e
        obtain rfl := Option.some.inj e
        exact g_vret d_X11_timers_137 rfl
      · replace e := (if_neg c23).symm.trans e
        refine r_bipush d_X11_timers_94 (v := (16 : Int32)) (by decide +kernel) ?_
        refine r_iload_n d_X11_timers_96 rfl g1 ?_
        refine r_imul d_X11_timers_97 ?_
        refine r_iload_n d_X11_timers_98 rfl g2 ?_
        refine r_iadd d_X11_timers_99 ?_
        replace e := bhd e
        obtain ⟨_, rfl, e⟩ := e
        refine s_istore_n d_X11_timers_100 rfl (by decide) (fun L g3 gK => ?_)
        replace g0 := gK _ _ (by decide) (Or.inr (zrf_cat _)) g0
        replace g1 := gK _ _ (by decide) (Or.inr rfl) g1
        replace g2 := gK _ _ (by decide) (Or.inr rfl) g2
        refine g_ald_n d_X11_timers_101 rfl g0 ?_
        refine g_getR d_X11_timers_102 (f := 1252) k17 fk_10_146 rfl rfl ?_
        refine r_iload_n d_X11_timers_105 rfl g3 ?_
        replace e := ckd e
        obtain ⟨k25, e⟩ := e
        replace e := ckd e
        obtain ⟨k26, e⟩ := e
        refine g_iald d_X11_timers_106 k25 k26 rfl ?_
        refine r_iconst d_X11_timers_107 (v := (2 : Int32)) (by decide +kernel) ?_
        refine r_icmp_ne d_X11_timers_108 (tgt := 131) (by decide) (fun c27 => ?_) (fun c27 => ?_)
        · replace e := (if_neg c27).symm.trans e
          exact f_X11_timers_131_ok _ hj ih _ _ _ _ _ _ g0 g1 g2 e
        · replace e := (if_pos c27).symm.trans e
          refine g_ald_n d_X11_timers_111 rfl g0 ?_
          refine g_getR d_X11_timers_112 (f := 1254) k17 fk_10_152 rfl rfl ?_
          refine r_iload_n d_X11_timers_115 rfl g3 ?_
          replace e := ckd e
          obtain ⟨k28, e⟩ := e
          replace e := ckd e
          obtain ⟨k29, e⟩ := e
          refine g_iald d_X11_timers_116 k28 k29 rfl ?_
          refine g_ald_n d_X11_timers_117 rfl g0 ?_
          refine g_getI d_X11_timers_118 (f := 1201) k17 fk_10_283 rfl rfl ?_
          refine r_icmp_gt d_X11_timers_121 (tgt := 131) (by decide) (fun c30 => ?_) (fun c30 => ?_)
          · replace e := (if_pos c30).symm.trans e
            exact f_X11_timers_131_ok _ hj ih _ _ _ _ _ _ g0 g1 g2 e
          · replace e := (if_neg c30).symm.trans e
            refine g_ald_n d_X11_timers_124 rfl g0 ?_
            refine r_iload_n d_X11_timers_125 rfl g3 ?_
            replace e := bd e
            obtain ⟨q31, eq31, e⟩ := e
            refine g_callV d_X11_timers_126 vk_10_406 (as := [_]) rfl k17 rfl (by simp [zrf_cat, cat_int, cat_long]) (j := 646) (by omega) (c_X11_fails (by omega) eq31) ?_
            refine s_istore d_X11_timers_129 (by decide) (fun L g4 gK => ?_)
            replace g0 := gK _ _ (by decide) (Or.inr (zrf_cat _)) g0
            replace g1 := gK _ _ (by decide) (Or.inr rfl) g1
            replace g2 := gK _ _ (by decide) (Or.inr rfl) g2
            exact f_X11_timers_131_ok _ hj ih _ _ _ _ _ _ g0 g1 g2 e

def f_X11_timers_72 (l0 : Nat) (l1 : Int32) (h : Hp) : Option Hp := f_X11_timers_74 fz (l0) (l1) ((0 : Int32)) (h)
theorem f_X11_timers_72_ok {G : Gd} {d : Nat} (hj : 647 ≤ d) : ∀ (l0 : Nat) (l1 : Int32) (L : List (Nat × Value)) (h : Hp) (o : Hp), zlk L 0 = some (zrf (l0)) → zlk L 1 = some (.int (l1)) → f_X11_timers_72 l0 l1 h = some o → Ev G M_X11_timers d 72 L [] h (Ret Y_X11_timers none o) := by
  intro l0 l1 L h o g0 g1 e
  unfold f_X11_timers_72 at e
  refine r_iconst d_X11_timers_72 (v := (0 : Int32)) (by decide +kernel) ?_
  refine s_istore_n d_X11_timers_73 rfl (by decide) (fun L g2 gK => ?_)
  replace g0 := gK _ _ (by decide) (Or.inr (zrf_cat _)) g0
  replace g1 := gK _ _ (by decide) (Or.inr rfl) g1
  exact f_X11_timers_74_ok hj _ _ _ _ _ _ _ g0 g1 g2 e

def f_X11_timers_2 : Nat → Nat → Int32 → Int32 → Hp → Option Hp
  | 0, _, _, _, _ => none
  | n + 1, l0, l1, l2, h => ck (isO (h) (l0) 12) (ck (isO (h) (zR (h) 1239 (l0)) 22) (ck (inR (l1) (zL (h) (zR (h) 1239 (l0)))) (if (zE (h) (zR (h) 1239 (l0)) (l1).toNatClampNeg) ≤ (l2) then (f_X11_timers_72 (l0) (l1) (h)) else (ck (isO (h) (zR (h) 1237 (l0)) 22) (ck (inR (l1) (zL (h) (zR (h) 1237 (l0)))) (if (zE (h) (zR (h) 1237 (l0)) (l1).toNatClampNeg) = ((-1 : Int32)) then (f_X11_timers_72 (l0) (l1) (h)) else (bh ((((16 : Int32)) * (l1)) + (l2)) (fun x8 => ck (isO (h) (zR (h) 1243 (l0)) 22) (ck (inR (x8) (zL (h) (zR (h) 1243 (l0)))) (if (zE (h) (zR (h) 1243 (l0)) (x8).toNatClampNeg) = ((1 : Int32)) then (ck (isO (h) (zR (h) 1251 (l0)) 22) (ck (inR (x8) (zL (h) (zR (h) 1251 (l0)))) (if (zI (h) 1201 (l0)) < (zE (h) (zR (h) 1251 (l0)) (x8).toNatClampNeg) then (f_X11_timers_66 (f_X11_timers_2 n) (l0) (l1) (l2) (h)) else ((f_X11_comes (l0) (x8) ((5 : Int32)) (zI (h) 1201 (l0)) ((0 : Int32)) ((0 : Int32)) (h)).bind (fun q15 => f_X11_timers_66 (f_X11_timers_2 n) (l0) (l1) (l2) (q15.2)))))) else (f_X11_timers_66 (f_X11_timers_2 n) (l0) (l1) (l2) (h))))))))))))
theorem f_X11_timers_2_ok {G : Gd} {d : Nat} (hj : 647 ≤ d) : ∀ (n : Nat) (l0 : Nat) (l1 : Int32) (l2 : Int32) (L : List (Nat × Value)) (h : Hp) (o : Hp), zlk L 0 = some (zrf (l0)) → zlk L 1 = some (.int (l1)) → zlk L 2 = some (.int (l2)) → f_X11_timers_2 n l0 l1 l2 h = some o → Ev G M_X11_timers d 2 L [] h (Ret Y_X11_timers none o) := by
  intro n
  induction n with
  | zero =>
    intro l0 l1 l2 L h o g0 g1 g2 e
    cases e
  | succ n ih =>
    intro l0 l1 l2 L h o g0 g1 g2 e
    unfold f_X11_timers_2 at e
    refine r_iload_n d_X11_timers_2 rfl g2 ?_
    refine g_ald_n d_X11_timers_3 rfl g0 ?_
    replace e := ckd e
    obtain ⟨k1, e⟩ := e
    refine g_getR d_X11_timers_4 (f := 1239) k1 fk_10_107 rfl rfl ?_
    refine r_iload_n d_X11_timers_7 rfl g1 ?_
    replace e := ckd e
    obtain ⟨k2, e⟩ := e
    replace e := ckd e
    obtain ⟨k3, e⟩ := e
    refine g_iald d_X11_timers_8 k2 k3 rfl ?_
    refine r_icmp_ge d_X11_timers_9 (tgt := 72) (by decide) (fun c4 => ?_) (fun c4 => ?_)
    · replace e := (if_pos c4).symm.trans e
      exact f_X11_timers_72_ok hj _ _ _ _ _ g0 g1 e
    · replace e := (if_neg c4).symm.trans e
      refine g_ald_n d_X11_timers_12 rfl g0 ?_
      refine g_getR d_X11_timers_13 (f := 1237) k1 fk_10_101 rfl rfl ?_
      refine r_iload_n d_X11_timers_16 rfl g1 ?_
      replace e := ckd e
      obtain ⟨k5, e⟩ := e
      replace e := ckd e
      obtain ⟨k6, e⟩ := e
      refine g_iald d_X11_timers_17 k5 k6 rfl ?_
      refine r_iconst d_X11_timers_18 (v := (-1 : Int32)) (by decide +kernel) ?_
      refine r_icmp_eq d_X11_timers_19 (tgt := 72) (by decide) (fun c7 => ?_) (fun c7 => ?_)
      · replace e := (if_pos c7).symm.trans e
        exact f_X11_timers_72_ok hj _ _ _ _ _ g0 g1 e
      · replace e := (if_neg c7).symm.trans e
        refine r_bipush d_X11_timers_22 (v := (16 : Int32)) (by decide +kernel) ?_
        refine r_iload_n d_X11_timers_24 rfl g1 ?_
        refine r_imul d_X11_timers_25 ?_
        refine r_iload_n d_X11_timers_26 rfl g2 ?_
        refine r_iadd d_X11_timers_27 ?_
        replace e := bhd e
        obtain ⟨_, rfl, e⟩ := e
        refine s_istore_n d_X11_timers_28 rfl (by decide) (fun L g3 gK => ?_)
        replace g0 := gK _ _ (by decide) (Or.inr (zrf_cat _)) g0
        replace g1 := gK _ _ (by decide) (Or.inr rfl) g1
        replace g2 := gK _ _ (by decide) (Or.inr rfl) g2
        refine g_ald_n d_X11_timers_29 rfl g0 ?_
        refine g_getR d_X11_timers_30 (f := 1243) k1 fk_10_119 rfl rfl ?_
        refine r_iload_n d_X11_timers_33 rfl g3 ?_
        replace e := ckd e
        obtain ⟨k9, e⟩ := e
        replace e := ckd e
        obtain ⟨k10, e⟩ := e
        refine g_iald d_X11_timers_34 k9 k10 rfl ?_
        refine r_iconst d_X11_timers_35 (v := (1 : Int32)) (by decide +kernel) ?_
        refine r_icmp_ne d_X11_timers_36 (tgt := 66) (by decide) (fun c11 => ?_) (fun c11 => ?_)
        · replace e := (if_neg c11).symm.trans e
          exact f_X11_timers_66_ok _ hj ih _ _ _ _ _ _ g0 g1 g2 e
        · replace e := (if_pos c11).symm.trans e
          refine g_ald_n d_X11_timers_39 rfl g0 ?_
          refine g_getR d_X11_timers_40 (f := 1251) k1 fk_10_143 rfl rfl ?_
          refine r_iload_n d_X11_timers_43 rfl g3 ?_
          replace e := ckd e
          obtain ⟨k12, e⟩ := e
          replace e := ckd e
          obtain ⟨k13, e⟩ := e
          refine g_iald d_X11_timers_44 k12 k13 rfl ?_
          refine g_ald_n d_X11_timers_45 rfl g0 ?_
          refine g_getI d_X11_timers_46 (f := 1201) k1 fk_10_283 rfl rfl ?_
          refine r_icmp_gt d_X11_timers_49 (tgt := 66) (by decide) (fun c14 => ?_) (fun c14 => ?_)
          · replace e := (if_pos c14).symm.trans e
            exact f_X11_timers_66_ok _ hj ih _ _ _ _ _ _ g0 g1 g2 e
          · replace e := (if_neg c14).symm.trans e
            refine g_ald_n d_X11_timers_52 rfl g0 ?_
            refine r_iload_n d_X11_timers_53 rfl g3 ?_
            refine r_iconst d_X11_timers_54 (v := (5 : Int32)) (by decide +kernel) ?_
            refine g_ald_n d_X11_timers_55 rfl g0 ?_
            refine g_getI d_X11_timers_56 (f := 1201) k1 fk_10_283 rfl rfl ?_
            refine r_iconst d_X11_timers_59 (v := (0 : Int32)) (by decide +kernel) ?_
            refine r_iconst d_X11_timers_60 (v := (0 : Int32)) (by decide +kernel) ?_
            replace e := bd e
            obtain ⟨q15, eq15, e⟩ := e
            refine g_callV d_X11_timers_61 vk_10_394 (as := [_, _, _, _, _]) rfl k1 rfl (by simp [zrf_cat, cat_int, cat_long]) (j := 645) (by omega) (c_X11_comes (by omega) eq15) ?_
            refine s_istore d_X11_timers_64 (by decide) (fun L g4 gK => ?_)
            replace g0 := gK _ _ (by decide) (Or.inr (zrf_cat _)) g0
            replace g1 := gK _ _ (by decide) (Or.inr rfl) g1
            replace g2 := gK _ _ (by decide) (Or.inr rfl) g2
            exact f_X11_timers_66_ok _ hj ih _ _ _ _ _ _ g0 g1 g2 e

def f_X11_timers (l0 : Nat) (l1 : Int32) (h : Hp) : Option Hp := f_X11_timers_2 fz (l0) (l1) ((0 : Int32)) (h)
theorem f_X11_timers_ok {G : Gd} {d : Nat} (hj : 647 ≤ d) : ∀ (l0 : Nat) (l1 : Int32) (L : List (Nat × Value)) (h : Hp) (o : Hp), zlk L 0 = some (zrf (l0)) → zlk L 1 = some (.int (l1)) → f_X11_timers l0 l1 h = some o → Ev G M_X11_timers d 0 L [] h (Ret Y_X11_timers none o) := by
  intro l0 l1 L h o g0 g1 e
  unfold f_X11_timers at e
  refine r_iconst d_X11_timers_0 (v := (0 : Int32)) (by decide +kernel) ?_
  refine s_istore_n d_X11_timers_1 rfl (by decide) (fun L g2 gK => ?_)
  replace g0 := gK _ _ (by decide) (Or.inr (zrf_cat _)) g0
  replace g1 := gK _ _ (by decide) (Or.inr rfl) g1
  exact f_X11_timers_2_ok hj _ _ _ _ _ _ _ g0 g1 g2 e

theorem c_X11_timers {G : Gd} {j : Nat} (hj : 647 ≤ j) {l0 : Nat} {l1 : Int32} {h : Hp} {o : Hp} (e : f_X11_timers l0 l1 h = some o) : Cal G j Y_X11_timers [zrf (l0), .int (l1)] h none o := Cal.of (n := 0) (I := false) (by first | exact Or.inl (by decide +kernel) | exact Or.inr (by decide +kernel)) (by decide) (by simp [lg_sl, zrf_cat, cat_int, cat_long]) (f_X11_timers_ok hj _ _ _ h o (by simp [lv_args, zlk, zrf_cat, cat_int, cat_long]) (by simp [lv_args, zlk, zrf_cat, cat_int, cat_long]) e)
theorem vk_10_409 : Vk "TaskWeaveModel" 409 1 12 Y_X11_timers := ⟨yk_X11_timers, by decide +kernel, by decide +kernel, by decide +kernel, by decide⟩
theorem vk_10_412 : Vk "TaskWeaveModel" 412 1 12 Y_X11_messages := ⟨yk_X11_messages, by decide +kernel, by decide +kernel, by decide +kernel, by decide⟩
def f_X11_tick_85 (K23 : Nat → Int32 → Int32 → Hp → Option (Int32 × Hp)) (K65 : Nat → Int32 → Int32 → Int32 → Hp → Option (Int32 × Hp)) (l0 : Nat) (l1 : Int32) (l2 : Int32) (l3 : Int32) (h : Hp) : Option (Int32 × Hp) := bh ((l3) + (1 : Int32)) (fun x23 => K65 (l0) (l1) (l2) (x23) (h))
theorem f_X11_tick_85_ok {G : Gd} {d : Nat} (K23 : Nat → Int32 → Int32 → Hp → Option (Int32 × Hp)) (K65 : Nat → Int32 → Int32 → Int32 → Hp → Option (Int32 × Hp)) (hj : 650 ≤ d) (hK23 : ∀ (l0 : Nat) (l1 : Int32) (l2 : Int32) (L : List (Nat × Value)) (h : Hp) (o : (Int32 × Hp)), zlk L 0 = some (zrf (l0)) → zlk L 1 = some (.int (l1)) → zlk L 2 = some (.int (l2)) → K23 l0 l1 l2 h = some o → Ev G M_X11_tick d 23 L [] h (Ret Y_X11_tick (some (.int o.1)) o.2)) (hK65 : ∀ (l0 : Nat) (l1 : Int32) (l2 : Int32) (l3 : Int32) (L : List (Nat × Value)) (h : Hp) (o : (Int32 × Hp)), zlk L 0 = some (zrf (l0)) → zlk L 1 = some (.int (l1)) → zlk L 2 = some (.int (l2)) → zlk L 3 = some (.int (l3)) → K65 l0 l1 l2 l3 h = some o → Ev G M_X11_tick d 65 L [] h (Ret Y_X11_tick (some (.int o.1)) o.2)) : ∀ (l0 : Nat) (l1 : Int32) (l2 : Int32) (l3 : Int32) (L : List (Nat × Value)) (h : Hp) (o : (Int32 × Hp)), zlk L 0 = some (zrf (l0)) → zlk L 1 = some (.int (l1)) → zlk L 2 = some (.int (l2)) → zlk L 3 = some (.int (l3)) → f_X11_tick_85 K23 K65 l0 l1 l2 l3 h = some o → Ev G M_X11_tick d 85 L [] h (Ret Y_X11_tick (some (.int o.1)) o.2) := by
  intro l0 l1 l2 l3 L h o g0 g1 g2 g3 e
  unfold f_X11_tick_85 at e
  replace e := bhd e
  obtain ⟨_, rfl, e⟩ := e
  refine s_iinc d_X11_tick_85 g3 (w := (1 : Int32)) (by decide +kernel) (by decide) (fun L g3 gK => ?_)
  replace g0 := gK _ _ (by decide) (Or.inr (zrf_cat _)) g0
  replace g1 := gK _ _ (by decide) (Or.inr rfl) g1
  replace g2 := gK _ _ (by decide) (Or.inr rfl) g2
  refine r_goto d_X11_tick_88 (tgt := 65) (by decide) ?_
  exact hK65 _ _ _ _ _ _ _ g0 g1 g2 g3 e

def f_X11_tick_65 (K23 : Nat → Int32 → Int32 → Hp → Option (Int32 × Hp)) : Nat → Nat → Int32 → Int32 → Int32 → Hp → Option (Int32 × Hp)
  | 0, _, _, _, _, _ => none
  | n + 1, l0, l1, l2, l3, h => if ((4 : Int32)) ≤ (l3) then (bh ((l2) + (1 : Int32)) (fun x17 => K23 (l0) (l1) (x17) (h))) else (ck (isO (h) (l0) 12) (ck (isO (h) (zR (h) 1237 (l0)) 22) (ck (inR (l3) (zL (h) (zR (h) 1237 (l0)))) (if (zE (h) (zR (h) 1237 (l0)) (l3).toNatClampNeg) = ((-1 : Int32)) then (f_X11_tick_85 K23 (f_X11_tick_65 K23 n) (l0) (l1) (l2) (l3) (h)) else ((f_X11_messages (l0) (l3) (h)).bind (fun q22 => f_X11_tick_85 K23 (f_X11_tick_65 K23 n) (l0) (l1) (l2) (l3) (q22)))))))
theorem f_X11_tick_65_ok {G : Gd} {d : Nat} (K23 : Nat → Int32 → Int32 → Hp → Option (Int32 × Hp)) (hj : 650 ≤ d) (hK23 : ∀ (l0 : Nat) (l1 : Int32) (l2 : Int32) (L : List (Nat × Value)) (h : Hp) (o : (Int32 × Hp)), zlk L 0 = some (zrf (l0)) → zlk L 1 = some (.int (l1)) → zlk L 2 = some (.int (l2)) → K23 l0 l1 l2 h = some o → Ev G M_X11_tick d 23 L [] h (Ret Y_X11_tick (some (.int o.1)) o.2)) : ∀ (n : Nat) (l0 : Nat) (l1 : Int32) (l2 : Int32) (l3 : Int32) (L : List (Nat × Value)) (h : Hp) (o : (Int32 × Hp)), zlk L 0 = some (zrf (l0)) → zlk L 1 = some (.int (l1)) → zlk L 2 = some (.int (l2)) → zlk L 3 = some (.int (l3)) → f_X11_tick_65 K23 n l0 l1 l2 l3 h = some o → Ev G M_X11_tick d 65 L [] h (Ret Y_X11_tick (some (.int o.1)) o.2) := by
  intro n
  induction n with
  | zero =>
    intro l0 l1 l2 l3 L h o g0 g1 g2 g3 e
    cases e
  | succ n ih =>
    intro l0 l1 l2 l3 L h o g0 g1 g2 g3 e
    unfold f_X11_tick_65 at e
    refine r_iload_n d_X11_tick_65 rfl g3 ?_
    refine r_iconst d_X11_tick_66 (v := (4 : Int32)) (by decide +kernel) ?_
    refine r_icmp_ge d_X11_tick_67 (tgt := 91) (by decide) (fun c16 => ?_) (fun c16 => ?_)
    · replace e := (if_pos c16).symm.trans e
      replace e := bhd e
      obtain ⟨_, rfl, e⟩ := e
      refine s_iinc d_X11_tick_91 g2 (w := (1 : Int32)) (by decide +kernel) (by decide) (fun L g2 gK => ?_)
      replace g0 := gK _ _ (by decide) (Or.inr (zrf_cat _)) g0
      replace g1 := gK _ _ (by decide) (Or.inr rfl) g1
      refine r_goto d_X11_tick_94 (tgt := 23) (by decide) ?_
      exact hK23 _ _ _ _ _ _ g0 g1 g2 e
    · replace e := (if_neg c16).symm.trans e
      refine g_ald_n d_X11_tick_70 rfl g0 ?_
      replace e := ckd e
      obtain ⟨k18, e⟩ := e
      refine g_getR d_X11_tick_71 (f := 1237) k18 fk_10_101 rfl rfl ?_
      refine r_iload_n d_X11_tick_74 rfl g3 ?_
      replace e := ckd e
      obtain ⟨k19, e⟩ := e
      replace e := ckd e
      obtain ⟨k20, e⟩ := e
      refine g_iald d_X11_tick_75 k19 k20 rfl ?_
      refine r_iconst d_X11_tick_76 (v := (-1 : Int32)) (by decide +kernel) ?_
      refine r_icmp_eq d_X11_tick_77 (tgt := 85) (by decide) (fun c21 => ?_) (fun c21 => ?_)
      · replace e := (if_pos c21).symm.trans e
        exact f_X11_tick_85_ok _ _ hj hK23 ih _ _ _ _ _ _ _ g0 g1 g2 g3 e
      · replace e := (if_neg c21).symm.trans e
        refine g_ald_n d_X11_tick_80 rfl g0 ?_
        refine r_iload_n d_X11_tick_81 rfl g3 ?_
        replace e := bd e
        obtain ⟨q22, eq22, e⟩ := e
        refine g_callV d_X11_tick_82 vk_10_412 (as := [_]) rfl k18 rfl (by simp [zrf_cat, cat_int, cat_long]) (j := 649) (by omega) (c_X11_messages (by omega) eq22) ?_
        exact f_X11_tick_85_ok _ _ hj hK23 ih _ _ _ _ _ _ _ g0 g1 g2 g3 e

def f_X11_tick_47 (K23 : Nat → Int32 → Int32 → Hp → Option (Int32 × Hp)) : Nat → Nat → Int32 → Int32 → Int32 → Hp → Option (Int32 × Hp)
  | 0, _, _, _, _, _ => none
  | n + 1, l0, l1, l2, l3, h => if ((4 : Int32)) ≤ (l3) then (f_X11_tick_65 K23 fz (l0) (l1) (l2) ((0 : Int32)) (h)) else (ck (isO (h) (l0) 12) ((f_X11_timers (l0) (l3) (h)).bind (fun q13 => bh ((l3) + (1 : Int32)) (fun x15 => f_X11_tick_47 K23 n (l0) (l1) (l2) (x15) (q13)))))
theorem f_X11_tick_47_ok {G : Gd} {d : Nat} (K23 : Nat → Int32 → Int32 → Hp → Option (Int32 × Hp)) (hj : 650 ≤ d) (hK23 : ∀ (l0 : Nat) (l1 : Int32) (l2 : Int32) (L : List (Nat × Value)) (h : Hp) (o : (Int32 × Hp)), zlk L 0 = some (zrf (l0)) → zlk L 1 = some (.int (l1)) → zlk L 2 = some (.int (l2)) → K23 l0 l1 l2 h = some o → Ev G M_X11_tick d 23 L [] h (Ret Y_X11_tick (some (.int o.1)) o.2)) : ∀ (n : Nat) (l0 : Nat) (l1 : Int32) (l2 : Int32) (l3 : Int32) (L : List (Nat × Value)) (h : Hp) (o : (Int32 × Hp)), zlk L 0 = some (zrf (l0)) → zlk L 1 = some (.int (l1)) → zlk L 2 = some (.int (l2)) → zlk L 3 = some (.int (l3)) → f_X11_tick_47 K23 n l0 l1 l2 l3 h = some o → Ev G M_X11_tick d 47 L [] h (Ret Y_X11_tick (some (.int o.1)) o.2) := by
  intro n
  induction n with
  | zero =>
    intro l0 l1 l2 l3 L h o g0 g1 g2 g3 e
    cases e
  | succ n ih =>
    intro l0 l1 l2 l3 L h o g0 g1 g2 g3 e
    unfold f_X11_tick_47 at e
    refine r_iload_n d_X11_tick_47 rfl g3 ?_
    refine r_iconst d_X11_tick_48 (v := (4 : Int32)) (by decide +kernel) ?_
    refine r_icmp_ge d_X11_tick_49 (tgt := 63) (by decide) (fun c12 => ?_) (fun c12 => ?_)
    · replace e := (if_pos c12).symm.trans e
      refine r_iconst d_X11_tick_63 (v := (0 : Int32)) (by decide +kernel) ?_
      refine s_istore_n d_X11_tick_64 rfl (by decide) (fun L g3 gK => ?_)
      replace g0 := gK _ _ (by decide) (Or.inr (zrf_cat _)) g0
      replace g1 := gK _ _ (by decide) (Or.inr rfl) g1
      replace g2 := gK _ _ (by decide) (Or.inr rfl) g2
      exact f_X11_tick_65_ok _ hj hK23 _ _ _ _ _ _ _ _ g0 g1 g2 g3 e
    · replace e := (if_neg c12).symm.trans e
      refine g_ald_n d_X11_tick_52 rfl g0 ?_
      refine r_iload_n d_X11_tick_53 rfl g3 ?_
      replace e := ckd e
      obtain ⟨k14, e⟩ := e
      replace e := bd e
      obtain ⟨q13, eq13, e⟩ := e
      refine g_callV d_X11_tick_54 vk_10_409 (as := [_]) rfl k14 rfl (by simp [zrf_cat, cat_int, cat_long]) (j := 647) (by omega) (c_X11_timers (by omega) eq13) ?_
      replace e := bhd e
      obtain ⟨_, rfl, e⟩ := e
      refine s_iinc d_X11_tick_57 g3 (w := (1 : Int32)) (by decide +kernel) (by decide) (fun L g3 gK => ?_)
      replace g0 := gK _ _ (by decide) (Or.inr (zrf_cat _)) g0
      replace g1 := gK _ _ (by decide) (Or.inr rfl) g1
      replace g2 := gK _ _ (by decide) (Or.inr rfl) g2
      refine r_goto d_X11_tick_60 (tgt := 47) (by decide) ?_
      exact ih _ _ _ _ _ _ _ g0 g1 g2 g3 e

def f_X11_tick_23 : Nat → Nat → Int32 → Int32 → Hp → Option (Int32 × Hp)
  | 0, _, _, _, _ => none
  | n + 1, l0, l1, l2, h => if (l1) ≤ (l2) then (ck (isO (h) (l0) 12) (if (zI (h) 1200 (l0)) ≤ (0) then (some (zI (h) 1201 (l0), h)) else (some ((0 : Int32), h)))) else (ck (isO (h) (l0) 12) (if (zI (h) 1200 (l0)) = (0) then (bh (pI (h) 1201 (l0) ((zI (h) 1201 (l0)) + ((1 : Int32)))) (fun h11 => f_X11_tick_47 (f_X11_tick_23 n) fz (l0) (l1) (l2) ((0 : Int32)) (h11))) else (if (zI (h) 1200 (l0)) ≤ (0) then (some (zI (h) 1201 (l0), h)) else (some ((0 : Int32), h)))))
theorem f_X11_tick_23_ok {G : Gd} {d : Nat} (hj : 650 ≤ d) : ∀ (n : Nat) (l0 : Nat) (l1 : Int32) (l2 : Int32) (L : List (Nat × Value)) (h : Hp) (o : (Int32 × Hp)), zlk L 0 = some (zrf (l0)) → zlk L 1 = some (.int (l1)) → zlk L 2 = some (.int (l2)) → f_X11_tick_23 n l0 l1 l2 h = some o → Ev G M_X11_tick d 23 L [] h (Ret Y_X11_tick (some (.int o.1)) o.2) := by
  intro n
  induction n with
  | zero =>
    intro l0 l1 l2 L h o g0 g1 g2 e
    cases e
  | succ n ih =>
    intro l0 l1 l2 L h o g0 g1 g2 e
    unfold f_X11_tick_23 at e
    refine r_iload_n d_X11_tick_23 rfl g2 ?_
    refine r_iload_n d_X11_tick_24 rfl g1 ?_
    refine r_icmp_ge d_X11_tick_25 (tgt := 97) (by decide) (fun c5 => ?_) (fun c5 => ?_)
    · replace e := (if_pos c5).symm.trans e
      refine g_ald_n d_X11_tick_97 rfl g0 ?_
      replace e := ckd e
      obtain ⟨k6, e⟩ := e
      refine g_getI d_X11_tick_98 (f := 1200) k6 fk_10_183 rfl rfl ?_
      refine r_if_le d_X11_tick_101 (tgt := 108) (by decide) (fun c7 => ?_) (fun c7 => ?_)
      · replace e := (if_pos c7).symm.trans e
        refine g_ald_n d_X11_tick_108 rfl g0 ?_
        refine g_getI d_X11_tick_109 (f := 1201) k6 fk_10_283 rfl rfl ?_
        obtain rfl := Option.some.inj e
        exact g_iret d_X11_tick_112 rfl rfl
      · replace e := (if_neg c7).symm.trans e
        refine r_iconst d_X11_tick_104 (v := (0 : Int32)) (by decide +kernel) ?_
        refine r_goto d_X11_tick_105 (tgt := 112) (by decide) ?_
        obtain rfl := Option.some.inj e
        exact g_iret d_X11_tick_112 rfl rfl
    · replace e := (if_neg c5).symm.trans e
      refine g_ald_n d_X11_tick_28 rfl g0 ?_
      replace e := ckd e
      obtain ⟨k8, e⟩ := e
      refine g_getI d_X11_tick_29 (f := 1200) k8 fk_10_183 rfl rfl ?_
      refine r_if_ne d_X11_tick_32 (tgt := 97) (by decide) (fun c9 => ?_) (fun c9 => ?_)
      · replace e := (if_neg c9).symm.trans e
        refine g_ald_n d_X11_tick_97 rfl g0 ?_
        refine g_getI d_X11_tick_98 (f := 1200) k8 fk_10_183 rfl rfl ?_
        refine r_if_le d_X11_tick_101 (tgt := 108) (by decide) (fun c10 => ?_) (fun c10 => ?_)
        · replace e := (if_pos c10).symm.trans e
          refine g_ald_n d_X11_tick_108 rfl g0 ?_
          refine g_getI d_X11_tick_109 (f := 1201) k8 fk_10_283 rfl rfl ?_
          obtain rfl := Option.some.inj e
          exact g_iret d_X11_tick_112 rfl rfl
        · replace e := (if_neg c10).symm.trans e
          refine r_iconst d_X11_tick_104 (v := (0 : Int32)) (by decide +kernel) ?_
          refine r_goto d_X11_tick_105 (tgt := 112) (by decide) ?_
          obtain rfl := Option.some.inj e
          exact g_iret d_X11_tick_112 rfl rfl
      · replace e := (if_pos c9).symm.trans e
        refine g_ald_n d_X11_tick_35 rfl g0 ?_
        refine r_dup d_X11_tick_36 (zrf_cat _) ?_
        refine g_getI d_X11_tick_37 (f := 1201) k8 fk_10_283 rfl rfl ?_
        refine r_iconst d_X11_tick_40 (v := (1 : Int32)) (by decide +kernel) ?_
        refine r_iadd d_X11_tick_41 ?_
        refine g_putI d_X11_tick_42 (f := 1201) k8 fk_10_283 rfl (Or.inl rfl) ⟨rfl, rfl⟩ ?_
        replace e := bhd e
        obtain ⟨_, rfl, e⟩ := e
        refine r_iconst d_X11_tick_45 (v := (0 : Int32)) (by decide +kernel) ?_
        refine s_istore_n d_X11_tick_46 rfl (by decide) (fun L g3 gK => ?_)
        replace g0 := gK _ _ (by decide) (Or.inr (zrf_cat _)) g0
        replace g1 := gK _ _ (by decide) (Or.inr rfl) g1
        replace g2 := gK _ _ (by decide) (Or.inr rfl) g2
        exact f_X11_tick_47_ok _ hj ih _ _ _ _ _ _ _ _ g0 g1 g2 g3 e

def f_X11_tick_18 (s0 : Nat) (s1 : Int32) (l0 : Nat) (l1 : Int32) (h : Hp) : Option (Int32 × Hp) := ck (isO (h) (s0) 12) (bh (pI (h) 1200 (s0) (s1)) (fun h4 => f_X11_tick_23 fz (l0) (l1) ((0 : Int32)) (h4)))
theorem f_X11_tick_18_ok {G : Gd} {d : Nat} (hj : 650 ≤ d) : ∀ (s0 : Nat) (s1 : Int32) (l0 : Nat) (l1 : Int32) (L : List (Nat × Value)) (h : Hp) (o : (Int32 × Hp)), zlk L 0 = some (zrf (l0)) → zlk L 1 = some (.int (l1)) → f_X11_tick_18 s0 s1 l0 l1 h = some o → Ev G M_X11_tick d 18 L [.int (s1), zrf (s0)] h (Ret Y_X11_tick (some (.int o.1)) o.2) := by
  intro s0 s1 l0 l1 L h o g0 g1 e
  unfold f_X11_tick_18 at e
  replace e := ckd e
  obtain ⟨k3, e⟩ := e
  refine g_putI d_X11_tick_18 (f := 1200) k3 fk_10_183 rfl (Or.inl rfl) ⟨rfl, rfl⟩ ?_
  replace e := bhd e
  obtain ⟨_, rfl, e⟩ := e
  refine r_iconst d_X11_tick_21 (v := (0 : Int32)) (by decide +kernel) ?_
  refine s_istore_n d_X11_tick_22 rfl (by decide) (fun L g2 gK => ?_)
  replace g0 := gK _ _ (by decide) (Or.inr (zrf_cat _)) g0
  replace g1 := gK _ _ (by decide) (Or.inr rfl) g1
  exact f_X11_tick_23_ok hj _ _ _ _ _ _ _ g0 g1 g2 e

def f_X11_tick_13 (s0 : Nat) (l0 : Nat) (l1 : Int32) (h : Hp) : Option (Int32 × Hp) := f_X11_tick_18 (s0) ((1 : Int32)) (l0) (l1) (h)
theorem f_X11_tick_13_ok {G : Gd} {d : Nat} (hj : 650 ≤ d) : ∀ (s0 : Nat) (l0 : Nat) (l1 : Int32) (L : List (Nat × Value)) (h : Hp) (o : (Int32 × Hp)), zlk L 0 = some (zrf (l0)) → zlk L 1 = some (.int (l1)) → f_X11_tick_13 s0 l0 l1 h = some o → Ev G M_X11_tick d 13 L [zrf (s0)] h (Ret Y_X11_tick (some (.int o.1)) o.2) := by
  intro s0 l0 l1 L h o g0 g1 e
  unfold f_X11_tick_13 at e
  refine r_iconst d_X11_tick_13 (v := (1 : Int32)) (by decide +kernel) ?_
  refine r_goto d_X11_tick_14 (tgt := 18) (by decide) ?_
  exact f_X11_tick_18_ok hj _ _ _ _ _ _ _ g0 g1 e

def f_X11_tick (l0 : Nat) (l1 : Int32) (h : Hp) : Option (Int32 × Hp) := if (l1) < ((1 : Int32)) then (f_X11_tick_13 (l0) (l0) (l1) (h)) else (if (l1) ≤ ((500 : Int32)) then (f_X11_tick_18 (l0) ((0 : Int32)) (l0) (l1) (h)) else (f_X11_tick_13 (l0) (l0) (l1) (h)))
theorem f_X11_tick_ok {G : Gd} {d : Nat} (hj : 650 ≤ d) : ∀ (l0 : Nat) (l1 : Int32) (L : List (Nat × Value)) (h : Hp) (o : (Int32 × Hp)), zlk L 0 = some (zrf (l0)) → zlk L 1 = some (.int (l1)) → f_X11_tick l0 l1 h = some o → Ev G M_X11_tick d 0 L [] h (Ret Y_X11_tick (some (.int o.1)) o.2) := by
  intro l0 l1 L h o g0 g1 e
  unfold f_X11_tick at e
  refine g_ald_n d_X11_tick_0 rfl g0 ?_
  refine r_iload_n d_X11_tick_1 rfl g1 ?_
  refine r_iconst d_X11_tick_2 (v := (1 : Int32)) (by decide +kernel) ?_
  refine r_icmp_lt d_X11_tick_3 (tgt := 13) (by decide) (fun c1 => ?_) (fun c1 => ?_)
  · replace e := (if_pos c1).symm.trans e
    exact f_X11_tick_13_ok hj _ _ _ _ _ _ g0 g1 e
  · replace e := (if_neg c1).symm.trans e
    refine r_iload_n d_X11_tick_6 rfl g1 ?_
    refine r_sipush d_X11_tick_7 (v := (500 : Int32)) (by decide +kernel) ?_
    refine r_icmp_le d_X11_tick_10 (tgt := 17) (by decide) (fun c2 => ?_) (fun c2 => ?_)
    · replace e := (if_pos c2).symm.trans e
      refine r_iconst d_X11_tick_17 (v := (0 : Int32)) (by decide +kernel) ?_
      exact f_X11_tick_18_ok hj _ _ _ _ _ _ _ g0 g1 e
    · replace e := (if_neg c2).symm.trans e
      exact f_X11_tick_13_ok hj _ _ _ _ _ _ g0 g1 e

theorem c_X11_tick {G : Gd} {j : Nat} (hj : 650 ≤ j) {l0 : Nat} {l1 : Int32} {h : Hp} {o : (Int32 × Hp)} (e : f_X11_tick l0 l1 h = some o) : Cal G j Y_X11_tick [zrf (l0), .int (l1)] h (some (.int o.1)) o.2 := Cal.of (n := 0) (I := false) (by first | exact Or.inl (by decide +kernel) | exact Or.inr (by decide +kernel)) (by decide) (by simp [lg_sl, zrf_cat, cat_int, cat_long]) (f_X11_tick_ok hj _ _ _ h o (by simp [lv_args, zlk, zrf_cat, cat_int, cat_long]) (by simp [lv_args, zlk, zrf_cat, cat_int, cat_long]) e)
def f_X11_replicas_38 : Nat → Nat → Int32 → Int32 → Int32 → Hp → Option (Int32 × Hp)
  | 0, _, _, _, _, _ => none
  | n + 1, l0, l1, l2, l3, h => if ((((5 : Int32)) * (l1)) + ((5 : Int32))) ≤ (l3) then (ck (isO (h) (l0) 12) ((f_X11_fresh (l0) (l1) (l2) (h)).bind (fun q13 => some ((1 : Int32), q13)))) else (ck (isO (h) (l0) 12) (ck (isO (h) (zR (h) 1231 (l0)) 22) (ck (inR (l3) (zL (h) (zR (h) 1231 (l0)))) (if (zE (h) (zR (h) 1231 (l0)) (l3).toNatClampNeg) ≤ (0) then (bh ((l3) + (1 : Int32)) (fun x19 => f_X11_replicas_38 n (l0) (l1) (l2) (x19) (h))) else (some ((0 : Int32), h))))))
theorem f_X11_replicas_38_ok {G : Gd} {d : Nat} (hj : 2 ≤ d) : ∀ (n : Nat) (l0 : Nat) (l1 : Int32) (l2 : Int32) (l3 : Int32) (L : List (Nat × Value)) (h : Hp) (o : (Int32 × Hp)), zlk L 0 = some (zrf (l0)) → zlk L 1 = some (.int (l1)) → zlk L 2 = some (.int (l2)) → zlk L 3 = some (.int (l3)) → f_X11_replicas_38 n l0 l1 l2 l3 h = some o → Ev G M_X11_replicas d 38 L [] h (Ret Y_X11_replicas (some (.int o.1)) o.2) := by
  intro n
  induction n with
  | zero =>
    intro l0 l1 l2 l3 L h o g0 g1 g2 g3 e
    cases e
  | succ n ih =>
    intro l0 l1 l2 l3 L h o g0 g1 g2 g3 e
    unfold f_X11_replicas_38 at e
    refine r_iload_n d_X11_replicas_38 rfl g3 ?_
    refine r_iconst d_X11_replicas_39 (v := (5 : Int32)) (by decide +kernel) ?_
    refine r_iload_n d_X11_replicas_40 rfl g1 ?_
    refine r_imul d_X11_replicas_41 ?_
    refine r_iconst d_X11_replicas_42 (v := (5 : Int32)) (by decide +kernel) ?_
    refine r_iadd d_X11_replicas_43 ?_
    refine r_icmp_ge d_X11_replicas_44 (tgt := 64) (by decide) (fun c12 => ?_) (fun c12 => ?_)
    · replace e := (if_pos c12).symm.trans e
      refine g_ald_n d_X11_replicas_64 rfl g0 ?_
      refine r_iload_n d_X11_replicas_65 rfl g1 ?_
      refine r_iload_n d_X11_replicas_66 rfl g2 ?_
      replace e := ckd e
      obtain ⟨k14, e⟩ := e
      replace e := bd e
      obtain ⟨q13, eq13, e⟩ := e
      refine g_callV d_X11_replicas_67 vk_10_179 (as := [_, _]) rfl k14 rfl (by simp [zrf_cat, cat_int, cat_long]) (j := 1) (by omega) (c_X11_fresh (by omega) eq13) ?_
      refine r_iconst d_X11_replicas_70 (v := (1 : Int32)) (by decide +kernel) ?_
      obtain rfl := Option.some.inj e
      exact g_iret d_X11_replicas_71 rfl rfl
    · replace e := (if_neg c12).symm.trans e
      refine g_ald_n d_X11_replicas_47 rfl g0 ?_
      replace e := ckd e
      obtain ⟨k15, e⟩ := e
      refine g_getR d_X11_replicas_48 (f := 1231) k15 fk_10_83 rfl rfl ?_
      refine r_iload_n d_X11_replicas_51 rfl g3 ?_
      replace e := ckd e
      obtain ⟨k16, e⟩ := e
      replace e := ckd e
      obtain ⟨k17, e⟩ := e
      refine g_iald d_X11_replicas_52 k16 k17 rfl ?_
      refine r_if_le d_X11_replicas_53 (tgt := 58) (by decide) (fun c18 => ?_) (fun c18 => ?_)
      · replace e := (if_pos c18).symm.trans e
        replace e := bhd e
        obtain ⟨_, rfl, e⟩ := e
        refine s_iinc d_X11_replicas_58 g3 (w := (1 : Int32)) (by decide +kernel) (by decide) (fun L g3 gK => ?_)
        replace g0 := gK _ _ (by decide) (Or.inr (zrf_cat _)) g0
        replace g1 := gK _ _ (by decide) (Or.inr rfl) g1
        replace g2 := gK _ _ (by decide) (Or.inr rfl) g2
        refine r_goto d_X11_replicas_61 (tgt := 38) (by decide) ?_
        exact ih _ _ _ _ _ _ _ g0 g1 g2 g3 e
      · replace e := (if_neg c18).symm.trans e
        refine r_iconst d_X11_replicas_56 (v := (0 : Int32)) (by decide +kernel) ?_
        obtain rfl := Option.some.inj e
        exact g_iret d_X11_replicas_57 rfl rfl

def f_X11_replicas (l0 : Nat) (l1 : Int32) (l2 : Int32) (h : Hp) : Option (Int32 × Hp) := ck (isO (h) (l0) 12) (bh (pI (h) 1200 (l0) ((0 : Int32))) (fun h2 => (f_X11_in (l1) ((4 : Int32)) (h2)).bind (fun q3 => if (q3.1) = (0) then (some ((0 : Int32), q3.2)) else (if (l2) < ((3 : Int32)) then (some ((0 : Int32), q3.2)) else (if ((5 : Int32)) < (l2) then (some ((0 : Int32), q3.2)) else (ck (isO (q3.2) (l0) 12) (ck (isO (q3.2) (zR (q3.2) 1238 (l0)) 22) (ck (inR (l1) (zL (q3.2) (zR (q3.2) 1238 (l0)))) (if (zE (q3.2) (zR (q3.2) 1238 (l0)) (l1).toNatClampNeg) = (0) then (bh (((5 : Int32)) * (l1)) (fun x11 => f_X11_replicas_38 fz (l0) (l1) (l2) (x11) (q3.2))) else (some ((0 : Int32), q3.2)))))))))))
theorem f_X11_replicas_ok {G : Gd} {d : Nat} (hj : 2 ≤ d) : ∀ (l0 : Nat) (l1 : Int32) (l2 : Int32) (L : List (Nat × Value)) (h : Hp) (o : (Int32 × Hp)), zlk L 0 = some (zrf (l0)) → zlk L 1 = some (.int (l1)) → zlk L 2 = some (.int (l2)) → f_X11_replicas l0 l1 l2 h = some o → Ev G M_X11_replicas d 0 L [] h (Ret Y_X11_replicas (some (.int o.1)) o.2) := by
  intro l0 l1 l2 L h o g0 g1 g2 e
  unfold f_X11_replicas at e
  refine g_ald_n d_X11_replicas_0 rfl g0 ?_
  refine r_iconst d_X11_replicas_1 (v := (0 : Int32)) (by decide +kernel) ?_
  replace e := ckd e
  obtain ⟨k1, e⟩ := e
  refine g_putI d_X11_replicas_2 (f := 1200) k1 fk_10_183 rfl (Or.inl rfl) ⟨rfl, rfl⟩ ?_
  replace e := bhd e
  obtain ⟨_, rfl, e⟩ := e
  refine r_iload_n d_X11_replicas_5 rfl g1 ?_
  refine r_iconst d_X11_replicas_6 (v := (4 : Int32)) (by decide +kernel) ?_
  replace e := bd e
  obtain ⟨q3, eq3, e⟩ := e
  refine g_callS d_X11_replicas_7 sk_10_230 (as := [_, _]) rfl rfl (by simp [zrf_cat, cat_int, cat_long]) (j := 1) (by omega) (c_X11_in (by omega) eq3) ?_
  refine r_if_eq d_X11_replicas_10 (tgt := 32) (by decide) (fun c4 => ?_) (fun c4 => ?_)
  · replace e := (if_pos c4).symm.trans e
    refine r_iconst d_X11_replicas_32 (v := (0 : Int32)) (by decide +kernel) ?_
    obtain rfl := Option.some.inj e
    exact g_iret d_X11_replicas_33 rfl rfl
  · replace e := (if_neg c4).symm.trans e
    refine r_iload_n d_X11_replicas_13 rfl g2 ?_
    refine r_iconst d_X11_replicas_14 (v := (3 : Int32)) (by decide +kernel) ?_
    refine r_icmp_lt d_X11_replicas_15 (tgt := 32) (by decide) (fun c5 => ?_) (fun c5 => ?_)
    · replace e := (if_pos c5).symm.trans e
      refine r_iconst d_X11_replicas_32 (v := (0 : Int32)) (by decide +kernel) ?_
      obtain rfl := Option.some.inj e
      exact g_iret d_X11_replicas_33 rfl rfl
    · replace e := (if_neg c5).symm.trans e
      refine r_iload_n d_X11_replicas_18 rfl g2 ?_
      refine r_iconst d_X11_replicas_19 (v := (5 : Int32)) (by decide +kernel) ?_
      refine r_icmp_gt d_X11_replicas_20 (tgt := 32) (by decide) (fun c6 => ?_) (fun c6 => ?_)
      · replace e := (if_pos c6).symm.trans e
        refine r_iconst d_X11_replicas_32 (v := (0 : Int32)) (by decide +kernel) ?_
        obtain rfl := Option.some.inj e
        exact g_iret d_X11_replicas_33 rfl rfl
      · replace e := (if_neg c6).symm.trans e
        refine g_ald_n d_X11_replicas_23 rfl g0 ?_
        replace e := ckd e
        obtain ⟨k7, e⟩ := e
        refine g_getR d_X11_replicas_24 (f := 1238) k7 fk_10_104 rfl rfl ?_
        refine r_iload_n d_X11_replicas_27 rfl g1 ?_
        replace e := ckd e
        obtain ⟨k8, e⟩ := e
        replace e := ckd e
        obtain ⟨k9, e⟩ := e
        refine g_iald d_X11_replicas_28 k8 k9 rfl ?_
        refine r_if_eq d_X11_replicas_29 (tgt := 34) (by decide) (fun c10 => ?_) (fun c10 => ?_)
        · replace e := (if_pos c10).symm.trans e
          refine r_iconst d_X11_replicas_34 (v := (5 : Int32)) (by decide +kernel) ?_
          refine r_iload_n d_X11_replicas_35 rfl g1 ?_
          refine r_imul d_X11_replicas_36 ?_
          replace e := bhd e
          obtain ⟨_, rfl, e⟩ := e
          refine s_istore_n d_X11_replicas_37 rfl (by decide) (fun L g3 gK => ?_)
          replace g0 := gK _ _ (by decide) (Or.inr (zrf_cat _)) g0
          replace g1 := gK _ _ (by decide) (Or.inr rfl) g1
          replace g2 := gK _ _ (by decide) (Or.inr rfl) g2
          exact f_X11_replicas_38_ok hj _ _ _ _ _ _ _ _ g0 g1 g2 g3 e
        · replace e := (if_neg c10).symm.trans e
          refine r_iconst d_X11_replicas_32 (v := (0 : Int32)) (by decide +kernel) ?_
          obtain rfl := Option.some.inj e
          exact g_iret d_X11_replicas_33 rfl rfl

theorem c_X11_replicas {G : Gd} {j : Nat} (hj : 2 ≤ j) {l0 : Nat} {l1 : Int32} {l2 : Int32} {h : Hp} {o : (Int32 × Hp)} (e : f_X11_replicas l0 l1 l2 h = some o) : Cal G j Y_X11_replicas [zrf (l0), .int (l1), .int (l2)] h (some (.int o.1)) o.2 := Cal.of (n := 0) (I := false) (by first | exact Or.inl (by decide +kernel) | exact Or.inr (by decide +kernel)) (by decide) (by simp [lg_sl, zrf_cat, cat_int, cat_long]) (f_X11_replicas_ok hj _ _ _ _ h o (by simp [lv_args, zlk, zrf_cat, cat_int, cat_long]) (by simp [lv_args, zlk, zrf_cat, cat_int, cat_long]) (by simp [lv_args, zlk, zrf_cat, cat_int, cat_long]) e)
