abbrev Y_X11_write : Yx := (⟨"TaskWeaveModel", "write", "(II)Z"⟩, prog_13_method_24_code, 3, (some .boolean))
abbrev M_X11_write : Mx := ("TaskWeaveModel", prog_13_method_24_code, 3, false)
theorem yk_X11_write : Yk Y_X11_write 2 := ⟨by decide +kernel, by decide +kernel, ⟨by decide, by decide⟩, by decide +kernel, by decide, trivial⟩
theorem d_X11_write_0 : decode prog_13_method_24_code 0 = .ok (.aload_n 0, 1) := by decide +kernel
theorem d_X11_write_1 : decode prog_13_method_24_code 1 = .ok (.getfield 95, 3) := by decide +kernel
theorem d_X11_write_4 : decode prog_13_method_24_code 4 = .ok (.iload_n 1, 1) := by decide +kernel
theorem d_X11_write_5 : decode prog_13_method_24_code 5 = .ok (.iaload, 1) := by decide +kernel
theorem d_X11_write_6 : decode prog_13_method_24_code 6 = .ok (.iconst (-1), 1) := by decide +kernel
theorem d_X11_write_7 : decode prog_13_method_24_code 7 = .ok (.if_icmp .eq 40, 3) := by decide +kernel
theorem d_X11_write_10 : decode prog_13_method_24_code 10 = .ok (.aload_n 0, 1) := by decide +kernel
theorem d_X11_write_11 : decode prog_13_method_24_code 11 = .ok (.getfield 95, 3) := by decide +kernel
theorem d_X11_write_14 : decode prog_13_method_24_code 14 = .ok (.iload_n 1, 1) := by decide +kernel
theorem d_X11_write_15 : decode prog_13_method_24_code 15 = .ok (.iaload, 1) := by decide +kernel
theorem d_X11_write_16 : decode prog_13_method_24_code 16 = .ok (.bipush 16, 2) := by decide +kernel
theorem d_X11_write_18 : decode prog_13_method_24_code 18 = .ok (.if_icmp .ge 29, 3) := by decide +kernel
theorem d_X11_write_21 : decode prog_13_method_24_code 21 = .ok (.aload_n 0, 1) := by decide +kernel
theorem d_X11_write_22 : decode prog_13_method_24_code 22 = .ok (.getfield 86, 3) := by decide +kernel
theorem d_X11_write_25 : decode prog_13_method_24_code 25 = .ok (.iload_n 1, 1) := by decide +kernel
theorem d_X11_write_26 : decode prog_13_method_24_code 26 = .ok (.aload_n 0, 1) := by decide +kernel
theorem d_X11_write_27 : decode prog_13_method_24_code 27 = .ok (.getfield 95, 3) := by decide +kernel
theorem d_X11_write_30 : decode prog_13_method_24_code 30 = .ok (.iload_n 1, 1) := by decide +kernel
theorem d_X11_write_31 : decode prog_13_method_24_code 31 = .ok (.iaload, 1) := by decide +kernel
theorem d_X11_write_32 : decode prog_13_method_24_code 32 = .ok (.iastore, 1) := by decide +kernel
theorem d_X11_write_33 : decode prog_13_method_24_code 33 = .ok (.aload_n 0, 1) := by decide +kernel
theorem d_X11_write_34 : decode prog_13_method_24_code 34 = .ok (.getfield 89, 3) := by decide +kernel
theorem d_X11_write_37 : decode prog_13_method_24_code 37 = .ok (.iload_n 1, 1) := by decide +kernel
theorem d_X11_write_38 : decode prog_13_method_24_code 38 = .ok (.iload_n 2, 1) := by decide +kernel
theorem d_X11_write_39 : decode prog_13_method_24_code 39 = .ok (.iastore, 1) := by decide +kernel
theorem d_X11_write_40 : decode prog_13_method_24_code 40 = .ok (.aload_n 0, 1) := by decide +kernel
theorem d_X11_write_41 : decode prog_13_method_24_code 41 = .ok (.iload_n 1, 1) := by decide +kernel
theorem d_X11_write_42 : decode prog_13_method_24_code 42 = .ok (.invokevirtual 247, 3) := by decide +kernel
theorem d_X11_write_45 : decode prog_13_method_24_code 45 = .ok (.iconst 0, 1) := by decide +kernel
theorem d_X11_write_46 : decode prog_13_method_24_code 46 = .ok (.ireturn, 1) := by decide +kernel
theorem d_X11_write_47 : decode prog_13_method_24_code 47 = .ok (.aload_n 0, 1) := by decide +kernel
theorem d_X11_write_48 : decode prog_13_method_24_code 48 = .ok (.getfield 95, 3) := by decide +kernel
theorem d_X11_write_51 : decode prog_13_method_24_code 51 = .ok (.iload_n 1, 1) := by decide +kernel
theorem d_X11_write_52 : decode prog_13_method_24_code 52 = .ok (.iaload, 1) := by decide +kernel
theorem d_X11_write_53 : decode prog_13_method_24_code 53 = .ok (.iconst (-1), 1) := by decide +kernel
theorem d_X11_write_54 : decode prog_13_method_24_code 54 = .ok (.if_icmp .eq 14, 3) := by decide +kernel
theorem d_X11_write_57 : decode prog_13_method_24_code 57 = .ok (.aload_n 0, 1) := by decide +kernel
theorem d_X11_write_58 : decode prog_13_method_24_code 58 = .ok (.getfield 95, 3) := by decide +kernel
theorem d_X11_write_61 : decode prog_13_method_24_code 61 = .ok (.iload_n 1, 1) := by decide +kernel
theorem d_X11_write_62 : decode prog_13_method_24_code 62 = .ok (.dup2, 1) := by decide +kernel
theorem d_X11_write_63 : decode prog_13_method_24_code 63 = .ok (.iaload, 1) := by decide +kernel
theorem d_X11_write_64 : decode prog_13_method_24_code 64 = .ok (.bipush 16, 2) := by decide +kernel
theorem d_X11_write_66 : decode prog_13_method_24_code 66 = .ok (.isub, 1) := by decide +kernel
theorem d_X11_write_67 : decode prog_13_method_24_code 67 = .ok (.iastore, 1) := by decide +kernel
theorem d_X11_write_68 : decode prog_13_method_24_code 68 = .ok (.aload_n 0, 1) := by decide +kernel
theorem d_X11_write_69 : decode prog_13_method_24_code 69 = .ok (.getfield 80, 3) := by decide +kernel
theorem d_X11_write_72 : decode prog_13_method_24_code 72 = .ok (.sipush 8192, 3) := by decide +kernel
theorem d_X11_write_75 : decode prog_13_method_24_code 75 = .ok (.iload_n 1, 1) := by decide +kernel
theorem d_X11_write_76 : decode prog_13_method_24_code 76 = .ok (.imul, 1) := by decide +kernel
theorem d_X11_write_77 : decode prog_13_method_24_code 77 = .ok (.aload_n 0, 1) := by decide +kernel
theorem d_X11_write_78 : decode prog_13_method_24_code 78 = .ok (.getfield 83, 3) := by decide +kernel
theorem d_X11_write_81 : decode prog_13_method_24_code 81 = .ok (.iload_n 1, 1) := by decide +kernel
theorem d_X11_write_82 : decode prog_13_method_24_code 82 = .ok (.iaload, 1) := by decide +kernel
theorem d_X11_write_83 : decode prog_13_method_24_code 83 = .ok (.iadd, 1) := by decide +kernel
theorem d_X11_write_84 : decode prog_13_method_24_code 84 = .ok (.iload_n 2, 1) := by decide +kernel
theorem d_X11_write_85 : decode prog_13_method_24_code 85 = .ok (.iastore, 1) := by decide +kernel
theorem d_X11_write_86 : decode prog_13_method_24_code 86 = .ok (.aload_n 0, 1) := by decide +kernel
theorem d_X11_write_87 : decode prog_13_method_24_code 87 = .ok (.getfield 83, 3) := by decide +kernel
theorem d_X11_write_90 : decode prog_13_method_24_code 90 = .ok (.iload_n 1, 1) := by decide +kernel
theorem d_X11_write_91 : decode prog_13_method_24_code 91 = .ok (.dup2, 1) := by decide +kernel
theorem d_X11_write_92 : decode prog_13_method_24_code 92 = .ok (.iaload, 1) := by decide +kernel
theorem d_X11_write_93 : decode prog_13_method_24_code 93 = .ok (.iconst 1, 1) := by decide +kernel
theorem d_X11_write_94 : decode prog_13_method_24_code 94 = .ok (.iadd, 1) := by decide +kernel
theorem d_X11_write_95 : decode prog_13_method_24_code 95 = .ok (.iastore, 1) := by decide +kernel
theorem d_X11_write_96 : decode prog_13_method_24_code 96 = .ok (.iconst 1, 1) := by decide +kernel
theorem d_X11_write_97 : decode prog_13_method_24_code 97 = .ok (.ireturn, 1) := by decide +kernel
abbrev Y_X11_makeAlike : Yx := (⟨"TaskWeaveModel", "makeAlike", "(II)V"⟩, prog_13_method_25_code, 5, none)
abbrev M_X11_makeAlike : Mx := ("TaskWeaveModel", prog_13_method_25_code, 5, false)
theorem yk_X11_makeAlike : Yk Y_X11_makeAlike 2 := ⟨by decide +kernel, by decide +kernel, ⟨by decide, by decide⟩, by decide +kernel, by decide, trivial⟩
theorem d_X11_makeAlike_0 : decode prog_13_method_25_code 0 = .ok (.iconst 0, 1) := by decide +kernel
theorem d_X11_makeAlike_1 : decode prog_13_method_25_code 1 = .ok (.istore_n 3, 1) := by decide +kernel
theorem d_X11_makeAlike_2 : decode prog_13_method_25_code 2 = .ok (.iload_n 3, 1) := by decide +kernel
theorem d_X11_makeAlike_3 : decode prog_13_method_25_code 3 = .ok (.aload_n 0, 1) := by decide +kernel
theorem d_X11_makeAlike_4 : decode prog_13_method_25_code 4 = .ok (.getfield 83, 3) := by decide +kernel
theorem d_X11_makeAlike_7 : decode prog_13_method_25_code 7 = .ok (.iload_n 1, 1) := by decide +kernel
theorem d_X11_makeAlike_8 : decode prog_13_method_25_code 8 = .ok (.iaload, 1) := by decide +kernel
theorem d_X11_makeAlike_9 : decode prog_13_method_25_code 9 = .ok (.if_icmp .ge 46, 3) := by decide +kernel
theorem d_X11_makeAlike_12 : decode prog_13_method_25_code 12 = .ok (.iload_n 3, 1) := by decide +kernel
theorem d_X11_makeAlike_13 : decode prog_13_method_25_code 13 = .ok (.aload_n 0, 1) := by decide +kernel
theorem d_X11_makeAlike_14 : decode prog_13_method_25_code 14 = .ok (.getfield 83, 3) := by decide +kernel
theorem d_X11_makeAlike_17 : decode prog_13_method_25_code 17 = .ok (.iload_n 2, 1) := by decide +kernel
theorem d_X11_makeAlike_18 : decode prog_13_method_25_code 18 = .ok (.iaload, 1) := by decide +kernel
theorem d_X11_makeAlike_19 : decode prog_13_method_25_code 19 = .ok (.if_icmp .ge 36, 3) := by decide +kernel
theorem d_X11_makeAlike_22 : decode prog_13_method_25_code 22 = .ok (.aload_n 0, 1) := by decide +kernel
theorem d_X11_makeAlike_23 : decode prog_13_method_25_code 23 = .ok (.getfield 80, 3) := by decide +kernel
theorem d_X11_makeAlike_26 : decode prog_13_method_25_code 26 = .ok (.sipush 8192, 3) := by decide +kernel
theorem d_X11_makeAlike_29 : decode prog_13_method_25_code 29 = .ok (.iload_n 1, 1) := by decide +kernel
theorem d_X11_makeAlike_30 : decode prog_13_method_25_code 30 = .ok (.imul, 1) := by decide +kernel
theorem d_X11_makeAlike_31 : decode prog_13_method_25_code 31 = .ok (.iload_n 3, 1) := by decide +kernel
theorem d_X11_makeAlike_32 : decode prog_13_method_25_code 32 = .ok (.iadd, 1) := by decide +kernel
theorem d_X11_makeAlike_33 : decode prog_13_method_25_code 33 = .ok (.iaload, 1) := by decide +kernel
theorem d_X11_makeAlike_34 : decode prog_13_method_25_code 34 = .ok (.aload_n 0, 1) := by decide +kernel
theorem d_X11_makeAlike_35 : decode prog_13_method_25_code 35 = .ok (.getfield 80, 3) := by decide +kernel
theorem d_X11_makeAlike_38 : decode prog_13_method_25_code 38 = .ok (.sipush 8192, 3) := by decide +kernel
theorem d_X11_makeAlike_41 : decode prog_13_method_25_code 41 = .ok (.iload_n 2, 1) := by decide +kernel
theorem d_X11_makeAlike_42 : decode prog_13_method_25_code 42 = .ok (.imul, 1) := by decide +kernel
theorem d_X11_makeAlike_43 : decode prog_13_method_25_code 43 = .ok (.iload_n 3, 1) := by decide +kernel
theorem d_X11_makeAlike_44 : decode prog_13_method_25_code 44 = .ok (.iadd, 1) := by decide +kernel
theorem d_X11_makeAlike_45 : decode prog_13_method_25_code 45 = .ok (.iaload, 1) := by decide +kernel
theorem d_X11_makeAlike_46 : decode prog_13_method_25_code 46 = .ok (.if_icmp .ne 9, 3) := by decide +kernel
theorem d_X11_makeAlike_49 : decode prog_13_method_25_code 49 = .ok (.iinc 3 1, 3) := by decide +kernel
theorem d_X11_makeAlike_52 : decode prog_13_method_25_code 52 = .ok (.goto (-50), 3) := by decide +kernel
theorem d_X11_makeAlike_55 : decode prog_13_method_25_code 55 = .ok (.aload_n 0, 1) := by decide +kernel
theorem d_X11_makeAlike_56 : decode prog_13_method_25_code 56 = .ok (.getfield 83, 3) := by decide +kernel
theorem d_X11_makeAlike_59 : decode prog_13_method_25_code 59 = .ok (.iload_n 1, 1) := by decide +kernel
theorem d_X11_makeAlike_60 : decode prog_13_method_25_code 60 = .ok (.iload_n 3, 1) := by decide +kernel
theorem d_X11_makeAlike_61 : decode prog_13_method_25_code 61 = .ok (.iastore, 1) := by decide +kernel
theorem d_X11_makeAlike_62 : decode prog_13_method_25_code 62 = .ok (.iconst 1, 1) := by decide +kernel
theorem d_X11_makeAlike_63 : decode prog_13_method_25_code 63 = .ok (.istore 4, 2) := by decide +kernel
theorem d_X11_makeAlike_65 : decode prog_13_method_25_code 65 = .ok (.iload 4, 2) := by decide +kernel
theorem d_X11_makeAlike_67 : decode prog_13_method_25_code 67 = .ok (.ifCond .eq 38, 3) := by decide +kernel
theorem d_X11_makeAlike_70 : decode prog_13_method_25_code 70 = .ok (.iload_n 3, 1) := by decide +kernel
theorem d_X11_makeAlike_71 : decode prog_13_method_25_code 71 = .ok (.aload_n 0, 1) := by decide +kernel
theorem d_X11_makeAlike_72 : decode prog_13_method_25_code 72 = .ok (.getfield 83, 3) := by decide +kernel
theorem d_X11_makeAlike_75 : decode prog_13_method_25_code 75 = .ok (.iload_n 2, 1) := by decide +kernel
theorem d_X11_makeAlike_76 : decode prog_13_method_25_code 76 = .ok (.iaload, 1) := by decide +kernel
theorem d_X11_makeAlike_77 : decode prog_13_method_25_code 77 = .ok (.if_icmp .ge 28, 3) := by decide +kernel
theorem d_X11_makeAlike_80 : decode prog_13_method_25_code 80 = .ok (.aload_n 0, 1) := by decide +kernel
theorem d_X11_makeAlike_81 : decode prog_13_method_25_code 81 = .ok (.iload_n 1, 1) := by decide +kernel
theorem d_X11_makeAlike_82 : decode prog_13_method_25_code 82 = .ok (.aload_n 0, 1) := by decide +kernel
theorem d_X11_makeAlike_83 : decode prog_13_method_25_code 83 = .ok (.getfield 80, 3) := by decide +kernel
theorem d_X11_makeAlike_86 : decode prog_13_method_25_code 86 = .ok (.sipush 8192, 3) := by decide +kernel
theorem d_X11_makeAlike_89 : decode prog_13_method_25_code 89 = .ok (.iload_n 2, 1) := by decide +kernel
theorem d_X11_makeAlike_90 : decode prog_13_method_25_code 90 = .ok (.imul, 1) := by decide +kernel
theorem d_X11_makeAlike_91 : decode prog_13_method_25_code 91 = .ok (.iload_n 3, 1) := by decide +kernel
theorem d_X11_makeAlike_92 : decode prog_13_method_25_code 92 = .ok (.iadd, 1) := by decide +kernel
theorem d_X11_makeAlike_93 : decode prog_13_method_25_code 93 = .ok (.iaload, 1) := by decide +kernel
theorem d_X11_makeAlike_94 : decode prog_13_method_25_code 94 = .ok (.invokevirtual 251, 3) := by decide +kernel
theorem d_X11_makeAlike_97 : decode prog_13_method_25_code 97 = .ok (.istore 4, 2) := by decide +kernel
theorem d_X11_makeAlike_99 : decode prog_13_method_25_code 99 = .ok (.iinc 3 1, 3) := by decide +kernel
theorem d_X11_makeAlike_102 : decode prog_13_method_25_code 102 = .ok (.goto (-37), 3) := by decide +kernel
theorem d_X11_makeAlike_105 : decode prog_13_method_25_code 105 = .ok (.return_, 1) := by decide +kernel
abbrev Y_X11_ups : Yx := (⟨"TaskWeaveModel", "ups", "(I)I"⟩, prog_13_method_26_code, 4, (some .int))
abbrev M_X11_ups : Mx := ("TaskWeaveModel", prog_13_method_26_code, 4, false)
theorem yk_X11_ups : Yk Y_X11_ups 1 := ⟨by decide +kernel, by decide +kernel, ⟨by decide, by decide⟩, by decide +kernel, by decide, trivial⟩
theorem d_X11_ups_0 : decode prog_13_method_26_code 0 = .ok (.iconst 0, 1) := by decide +kernel
theorem d_X11_ups_1 : decode prog_13_method_26_code 1 = .ok (.istore_n 2, 1) := by decide +kernel
theorem d_X11_ups_2 : decode prog_13_method_26_code 2 = .ok (.iconst 0, 1) := by decide +kernel
theorem d_X11_ups_3 : decode prog_13_method_26_code 3 = .ok (.istore_n 3, 1) := by decide +kernel
theorem d_X11_ups_4 : decode prog_13_method_26_code 4 = .ok (.iload_n 3, 1) := by decide +kernel
theorem d_X11_ups_5 : decode prog_13_method_26_code 5 = .ok (.aload_n 0, 1) := by decide +kernel
theorem d_X11_ups_6 : decode prog_13_method_26_code 6 = .ok (.getfield 98, 3) := by decide +kernel
theorem d_X11_ups_9 : decode prog_13_method_26_code 9 = .ok (.iload_n 1, 1) := by decide +kernel
theorem d_X11_ups_10 : decode prog_13_method_26_code 10 = .ok (.iaload, 1) := by decide +kernel
theorem d_X11_ups_11 : decode prog_13_method_26_code 11 = .ok (.if_icmp .ge 30, 3) := by decide +kernel
theorem d_X11_ups_14 : decode prog_13_method_26_code 14 = .ok (.iload_n 2, 1) := by decide +kernel
theorem d_X11_ups_15 : decode prog_13_method_26_code 15 = .ok (.aload_n 0, 1) := by decide +kernel
theorem d_X11_ups_16 : decode prog_13_method_26_code 16 = .ok (.getfield 92, 3) := by decide +kernel
theorem d_X11_ups_19 : decode prog_13_method_26_code 19 = .ok (.iconst 5, 1) := by decide +kernel
theorem d_X11_ups_20 : decode prog_13_method_26_code 20 = .ok (.iload_n 1, 1) := by decide +kernel
theorem d_X11_ups_21 : decode prog_13_method_26_code 21 = .ok (.imul, 1) := by decide +kernel
theorem d_X11_ups_22 : decode prog_13_method_26_code 22 = .ok (.iload_n 3, 1) := by decide +kernel
theorem d_X11_ups_23 : decode prog_13_method_26_code 23 = .ok (.iadd, 1) := by decide +kernel
theorem d_X11_ups_24 : decode prog_13_method_26_code 24 = .ok (.baload, 1) := by decide +kernel
theorem d_X11_ups_25 : decode prog_13_method_26_code 25 = .ok (.ifCond .eq 7, 3) := by decide +kernel
theorem d_X11_ups_28 : decode prog_13_method_26_code 28 = .ok (.iconst 1, 1) := by decide +kernel
theorem d_X11_ups_29 : decode prog_13_method_26_code 29 = .ok (.goto 4, 3) := by decide +kernel
theorem d_X11_ups_32 : decode prog_13_method_26_code 32 = .ok (.iconst 0, 1) := by decide +kernel
theorem d_X11_ups_33 : decode prog_13_method_26_code 33 = .ok (.iadd, 1) := by decide +kernel
theorem d_X11_ups_34 : decode prog_13_method_26_code 34 = .ok (.istore_n 2, 1) := by decide +kernel
theorem d_X11_ups_35 : decode prog_13_method_26_code 35 = .ok (.iinc 3 1, 3) := by decide +kernel
theorem d_X11_ups_38 : decode prog_13_method_26_code 38 = .ok (.goto (-34), 3) := by decide +kernel
theorem d_X11_ups_41 : decode prog_13_method_26_code 41 = .ok (.iload_n 2, 1) := by decide +kernel
theorem d_X11_ups_42 : decode prog_13_method_26_code 42 = .ok (.ireturn, 1) := by decide +kernel
abbrev Y_X11_spread : Yx := (⟨"TaskWeaveModel", "spread", "(III)Z"⟩, prog_13_method_27_code, 6, (some .boolean))
abbrev M_X11_spread : Mx := ("TaskWeaveModel", prog_13_method_27_code, 6, false)
theorem yk_X11_spread : Yk Y_X11_spread 3 := ⟨by decide +kernel, by decide +kernel, ⟨by decide, by decide⟩, by decide +kernel, by decide, trivial⟩
theorem d_X11_spread_0 : decode prog_13_method_27_code 0 = .ok (.aload_n 0, 1) := by decide +kernel
theorem d_X11_spread_1 : decode prog_13_method_27_code 1 = .ok (.iconst 5, 1) := by decide +kernel
theorem d_X11_spread_2 : decode prog_13_method_27_code 2 = .ok (.iload_n 1, 1) := by decide +kernel
theorem d_X11_spread_3 : decode prog_13_method_27_code 3 = .ok (.imul, 1) := by decide +kernel
theorem d_X11_spread_4 : decode prog_13_method_27_code 4 = .ok (.iload_n 2, 1) := by decide +kernel
theorem d_X11_spread_5 : decode prog_13_method_27_code 5 = .ok (.iadd, 1) := by decide +kernel
theorem d_X11_spread_6 : decode prog_13_method_27_code 6 = .ok (.iload_n 3, 1) := by decide +kernel
theorem d_X11_spread_7 : decode prog_13_method_27_code 7 = .ok (.invokevirtual 251, 3) := by decide +kernel
theorem d_X11_spread_10 : decode prog_13_method_27_code 10 = .ok (.ifCond .ne 5, 3) := by decide +kernel
theorem d_X11_spread_13 : decode prog_13_method_27_code 13 = .ok (.iconst 0, 1) := by decide +kernel
theorem d_X11_spread_14 : decode prog_13_method_27_code 14 = .ok (.ireturn, 1) := by decide +kernel
theorem d_X11_spread_15 : decode prog_13_method_27_code 15 = .ok (.iconst 1, 1) := by decide +kernel
theorem d_X11_spread_16 : decode prog_13_method_27_code 16 = .ok (.istore 4, 2) := by decide +kernel
theorem d_X11_spread_18 : decode prog_13_method_27_code 18 = .ok (.iconst 0, 1) := by decide +kernel
theorem d_X11_spread_19 : decode prog_13_method_27_code 19 = .ok (.istore 5, 2) := by decide +kernel
theorem d_X11_spread_21 : decode prog_13_method_27_code 21 = .ok (.iload 5, 2) := by decide +kernel
theorem d_X11_spread_23 : decode prog_13_method_27_code 23 = .ok (.aload_n 0, 1) := by decide +kernel
theorem d_X11_spread_24 : decode prog_13_method_27_code 24 = .ok (.getfield 98, 3) := by decide +kernel
theorem d_X11_spread_27 : decode prog_13_method_27_code 27 = .ok (.iload_n 1, 1) := by decide +kernel
theorem d_X11_spread_28 : decode prog_13_method_27_code 28 = .ok (.iaload, 1) := by decide +kernel
theorem d_X11_spread_29 : decode prog_13_method_27_code 29 = .ok (.if_icmp .ge 46, 3) := by decide +kernel
theorem d_X11_spread_32 : decode prog_13_method_27_code 32 = .ok (.iload 5, 2) := by decide +kernel
theorem d_X11_spread_34 : decode prog_13_method_27_code 34 = .ok (.iload_n 2, 1) := by decide +kernel
theorem d_X11_spread_35 : decode prog_13_method_27_code 35 = .ok (.if_icmp .eq 34, 3) := by decide +kernel
theorem d_X11_spread_38 : decode prog_13_method_27_code 38 = .ok (.aload_n 0, 1) := by decide +kernel
theorem d_X11_spread_39 : decode prog_13_method_27_code 39 = .ok (.getfield 92, 3) := by decide +kernel
theorem d_X11_spread_42 : decode prog_13_method_27_code 42 = .ok (.iconst 5, 1) := by decide +kernel
theorem d_X11_spread_43 : decode prog_13_method_27_code 43 = .ok (.iload_n 1, 1) := by decide +kernel
theorem d_X11_spread_44 : decode prog_13_method_27_code 44 = .ok (.imul, 1) := by decide +kernel
theorem d_X11_spread_45 : decode prog_13_method_27_code 45 = .ok (.iload 5, 2) := by decide +kernel
theorem d_X11_spread_47 : decode prog_13_method_27_code 47 = .ok (.iadd, 1) := by decide +kernel
theorem d_X11_spread_48 : decode prog_13_method_27_code 48 = .ok (.baload, 1) := by decide +kernel
theorem d_X11_spread_49 : decode prog_13_method_27_code 49 = .ok (.ifCond .eq 20, 3) := by decide +kernel
theorem d_X11_spread_52 : decode prog_13_method_27_code 52 = .ok (.aload_n 0, 1) := by decide +kernel
theorem d_X11_spread_53 : decode prog_13_method_27_code 53 = .ok (.iconst 5, 1) := by decide +kernel
theorem d_X11_spread_54 : decode prog_13_method_27_code 54 = .ok (.iload_n 1, 1) := by decide +kernel
theorem d_X11_spread_55 : decode prog_13_method_27_code 55 = .ok (.imul, 1) := by decide +kernel
theorem d_X11_spread_56 : decode prog_13_method_27_code 56 = .ok (.iload 5, 2) := by decide +kernel
theorem d_X11_spread_58 : decode prog_13_method_27_code 58 = .ok (.iadd, 1) := by decide +kernel
theorem d_X11_spread_59 : decode prog_13_method_27_code 59 = .ok (.iload_n 3, 1) := by decide +kernel
theorem d_X11_spread_60 : decode prog_13_method_27_code 60 = .ok (.invokevirtual 251, 3) := by decide +kernel
theorem d_X11_spread_63 : decode prog_13_method_27_code 63 = .ok (.ifCond .eq 6, 3) := by decide +kernel
theorem d_X11_spread_66 : decode prog_13_method_27_code 66 = .ok (.iinc 4 1, 3) := by decide +kernel
theorem d_X11_spread_69 : decode prog_13_method_27_code 69 = .ok (.iinc 5 1, 3) := by decide +kernel
theorem d_X11_spread_72 : decode prog_13_method_27_code 72 = .ok (.goto (-51), 3) := by decide +kernel
theorem d_X11_spread_75 : decode prog_13_method_27_code 75 = .ok (.iconst 2, 1) := by decide +kernel
theorem d_X11_spread_76 : decode prog_13_method_27_code 76 = .ok (.iload 4, 2) := by decide +kernel
theorem d_X11_spread_78 : decode prog_13_method_27_code 78 = .ok (.imul, 1) := by decide +kernel
theorem d_X11_spread_79 : decode prog_13_method_27_code 79 = .ok (.aload_n 0, 1) := by decide +kernel
theorem d_X11_spread_80 : decode prog_13_method_27_code 80 = .ok (.getfield 98, 3) := by decide +kernel
theorem d_X11_spread_83 : decode prog_13_method_27_code 83 = .ok (.iload_n 1, 1) := by decide +kernel
theorem d_X11_spread_84 : decode prog_13_method_27_code 84 = .ok (.iaload, 1) := by decide +kernel
theorem d_X11_spread_85 : decode prog_13_method_27_code 85 = .ok (.if_icmp .le 7, 3) := by decide +kernel
theorem d_X11_spread_88 : decode prog_13_method_27_code 88 = .ok (.iconst 1, 1) := by decide +kernel
theorem d_X11_spread_89 : decode prog_13_method_27_code 89 = .ok (.goto 4, 3) := by decide +kernel
theorem d_X11_spread_92 : decode prog_13_method_27_code 92 = .ok (.iconst 0, 1) := by decide +kernel
theorem d_X11_spread_93 : decode prog_13_method_27_code 93 = .ok (.ireturn, 1) := by decide +kernel
abbrev Y_X11_event : Yx := (⟨"TaskWeaveModel", "event", "(II)I"⟩, prog_13_method_36_code, 3, (some .int))
abbrev M_X11_event : Mx := ("TaskWeaveModel", prog_13_method_36_code, 3, false)
theorem yk_X11_event : Yk Y_X11_event 2 := ⟨by decide +kernel, by decide +kernel, ⟨by decide, by decide⟩, by decide +kernel, by decide, trivial⟩
theorem d_X11_event_0 : decode prog_13_method_36_code 0 = .ok (.aload_n 0, 1) := by decide +kernel
theorem d_X11_event_1 : decode prog_13_method_36_code 1 = .ok (.getfield 110, 3) := by decide +kernel
theorem d_X11_event_4 : decode prog_13_method_36_code 4 = .ok (.bipush 60, 2) := by decide +kernel
theorem d_X11_event_6 : decode prog_13_method_36_code 6 = .ok (.iload_n 1, 1) := by decide +kernel
theorem d_X11_event_7 : decode prog_13_method_36_code 7 = .ok (.imul, 1) := by decide +kernel
theorem d_X11_event_8 : decode prog_13_method_36_code 8 = .ok (.iload_n 2, 1) := by decide +kernel
theorem d_X11_event_9 : decode prog_13_method_36_code 9 = .ok (.iadd, 1) := by decide +kernel
theorem d_X11_event_10 : decode prog_13_method_36_code 10 = .ok (.iaload, 1) := by decide +kernel
theorem d_X11_event_11 : decode prog_13_method_36_code 11 = .ok (.ireturn, 1) := by decide +kernel
abbrev Y_X11_endOf : Yx := (⟨"TaskWeaveModel", "endOf", "(III)I"⟩, prog_13_method_51_code, 5, (some .int))
abbrev M_X11_endOf : Mx := ("TaskWeaveModel", prog_13_method_51_code, 5, false)
theorem yk_X11_endOf : Yk Y_X11_endOf 3 := ⟨by decide +kernel, by decide +kernel, ⟨by decide, by decide⟩, by decide +kernel, by decide, trivial⟩
theorem d_X11_endOf_0 : decode prog_13_method_51_code 0 = .ok (.iconst 0, 1) := by decide +kernel
theorem d_X11_endOf_1 : decode prog_13_method_51_code 1 = .ok (.istore 4, 2) := by decide +kernel
theorem d_X11_endOf_3 : decode prog_13_method_51_code 3 = .ok (.iload 4, 2) := by decide +kernel
theorem d_X11_endOf_5 : decode prog_13_method_51_code 5 = .ok (.iload_n 3, 1) := by decide +kernel
theorem d_X11_endOf_6 : decode prog_13_method_51_code 6 = .ok (.if_icmp .ge 49, 3) := by decide +kernel
theorem d_X11_endOf_9 : decode prog_13_method_51_code 9 = .ok (.aload_n 0, 1) := by decide +kernel
theorem d_X11_endOf_10 : decode prog_13_method_51_code 10 = .ok (.aload_n 0, 1) := by decide +kernel
theorem d_X11_endOf_11 : decode prog_13_method_51_code 11 = .ok (.iload_n 1, 1) := by decide +kernel
theorem d_X11_endOf_12 : decode prog_13_method_51_code 12 = .ok (.iload 4, 2) := by decide +kernel
theorem d_X11_endOf_14 : decode prog_13_method_51_code 14 = .ok (.invokevirtual 305, 3) := by decide +kernel
theorem d_X11_endOf_17 : decode prog_13_method_51_code 17 = .ok (.invokevirtual 286, 3) := by decide +kernel
theorem d_X11_endOf_20 : decode prog_13_method_51_code 20 = .ok (.bipush 7, 2) := by decide +kernel
theorem d_X11_endOf_22 : decode prog_13_method_51_code 22 = .ok (.if_icmp .ne 27, 3) := by decide +kernel
theorem d_X11_endOf_25 : decode prog_13_method_51_code 25 = .ok (.aload_n 0, 1) := by decide +kernel
theorem d_X11_endOf_26 : decode prog_13_method_51_code 26 = .ok (.getfield 70, 3) := by decide +kernel
theorem d_X11_endOf_29 : decode prog_13_method_51_code 29 = .ok (.aload_n 0, 1) := by decide +kernel
theorem d_X11_endOf_30 : decode prog_13_method_51_code 30 = .ok (.iload_n 1, 1) := by decide +kernel
theorem d_X11_endOf_31 : decode prog_13_method_51_code 31 = .ok (.iload 4, 2) := by decide +kernel
theorem d_X11_endOf_33 : decode prog_13_method_51_code 33 = .ok (.invokevirtual 305, 3) := by decide +kernel
theorem d_X11_endOf_36 : decode prog_13_method_51_code 36 = .ok (.iaload, 1) := by decide +kernel
theorem d_X11_endOf_37 : decode prog_13_method_51_code 37 = .ok (.iload_n 2, 1) := by decide +kernel
theorem d_X11_endOf_38 : decode prog_13_method_51_code 38 = .ok (.if_icmp .ne 11, 3) := by decide +kernel
theorem d_X11_endOf_41 : decode prog_13_method_51_code 41 = .ok (.aload_n 0, 1) := by decide +kernel
theorem d_X11_endOf_42 : decode prog_13_method_51_code 42 = .ok (.iload_n 1, 1) := by decide +kernel
theorem d_X11_endOf_43 : decode prog_13_method_51_code 43 = .ok (.iload 4, 2) := by decide +kernel
theorem d_X11_endOf_45 : decode prog_13_method_51_code 45 = .ok (.invokevirtual 305, 3) := by decide +kernel
theorem d_X11_endOf_48 : decode prog_13_method_51_code 48 = .ok (.ireturn, 1) := by decide +kernel
theorem d_X11_endOf_49 : decode prog_13_method_51_code 49 = .ok (.iinc 4 1, 3) := by decide +kernel
theorem d_X11_endOf_52 : decode prog_13_method_51_code 52 = .ok (.goto (-49), 3) := by decide +kernel
theorem d_X11_endOf_55 : decode prog_13_method_51_code 55 = .ok (.iconst (-1), 1) := by decide +kernel
theorem d_X11_endOf_56 : decode prog_13_method_51_code 56 = .ok (.ireturn, 1) := by decide +kernel
abbrev Y_X11_hasEnded : Yx := (⟨"TaskWeaveModel", "hasEnded", "(II)V"⟩, prog_13_method_44_code, 3, none)
abbrev M_X11_hasEnded : Mx := ("TaskWeaveModel", prog_13_method_44_code, 3, false)
theorem yk_X11_hasEnded : Yk Y_X11_hasEnded 2 := ⟨by decide +kernel, by decide +kernel, ⟨by decide, by decide⟩, by decide +kernel, by decide, trivial⟩
theorem d_X11_hasEnded_0 : decode prog_13_method_44_code 0 = .ok (.aload_n 0, 1) := by decide +kernel
theorem d_X11_hasEnded_1 : decode prog_13_method_44_code 1 = .ok (.getfield 119, 3) := by decide +kernel
theorem d_X11_hasEnded_4 : decode prog_13_method_44_code 4 = .ok (.iload_n 1, 1) := by decide +kernel
theorem d_X11_hasEnded_5 : decode prog_13_method_44_code 5 = .ok (.iconst 4, 1) := by decide +kernel
theorem d_X11_hasEnded_6 : decode prog_13_method_44_code 6 = .ok (.iastore, 1) := by decide +kernel
theorem d_X11_hasEnded_7 : decode prog_13_method_44_code 7 = .ok (.aload_n 0, 1) := by decide +kernel
theorem d_X11_hasEnded_8 : decode prog_13_method_44_code 8 = .ok (.getfield 122, 3) := by decide +kernel
theorem d_X11_hasEnded_11 : decode prog_13_method_44_code 11 = .ok (.iload_n 1, 1) := by decide +kernel
theorem d_X11_hasEnded_12 : decode prog_13_method_44_code 12 = .ok (.aload_n 0, 1) := by decide +kernel
theorem d_X11_hasEnded_13 : decode prog_13_method_44_code 13 = .ok (.getfield 70, 3) := by decide +kernel
theorem d_X11_hasEnded_16 : decode prog_13_method_44_code 16 = .ok (.iload_n 2, 1) := by decide +kernel
theorem d_X11_hasEnded_17 : decode prog_13_method_44_code 17 = .ok (.iaload, 1) := by decide +kernel
theorem d_X11_hasEnded_18 : decode prog_13_method_44_code 18 = .ok (.iastore, 1) := by decide +kernel
theorem d_X11_hasEnded_19 : decode prog_13_method_44_code 19 = .ok (.return_, 1) := by decide +kernel
abbrev Y_X11_waits : Yx := (⟨"TaskWeaveModel", "waits", "(IIII)V"⟩, prog_13_method_46_code, 8, none)
abbrev M_X11_waits : Mx := ("TaskWeaveModel", prog_13_method_46_code, 8, false)
theorem yk_X11_waits : Yk Y_X11_waits 4 := ⟨by decide +kernel, by decide +kernel, ⟨by decide, by decide⟩, by decide +kernel, by decide, trivial⟩
theorem d_X11_waits_0 : decode prog_13_method_46_code 0 = .ok (.aload_n 0, 1) := by decide +kernel
theorem d_X11_waits_1 : decode prog_13_method_46_code 1 = .ok (.iconst 0, 1) := by decide +kernel
theorem d_X11_waits_2 : decode prog_13_method_46_code 2 = .ok (.putfield 327, 3) := by decide +kernel
theorem d_X11_waits_5 : decode prog_13_method_46_code 5 = .ok (.aload_n 0, 1) := by decide +kernel
theorem d_X11_waits_6 : decode prog_13_method_46_code 6 = .ok (.getfield 318, 3) := by decide +kernel
theorem d_X11_waits_9 : decode prog_13_method_46_code 9 = .ok (.aload_n 0, 1) := by decide +kernel
theorem d_X11_waits_10 : decode prog_13_method_46_code 10 = .ok (.getfield 113, 3) := by decide +kernel
theorem d_X11_waits_13 : decode prog_13_method_46_code 13 = .ok (.iload_n 1, 1) := by decide +kernel
theorem d_X11_waits_14 : decode prog_13_method_46_code 14 = .ok (.iaload, 1) := by decide +kernel
theorem d_X11_waits_15 : decode prog_13_method_46_code 15 = .ok (.if_icmp .ge 191, 3) := by decide +kernel
theorem d_X11_waits_18 : decode prog_13_method_46_code 18 = .ok (.aload_n 0, 1) := by decide +kernel
theorem d_X11_waits_19 : decode prog_13_method_46_code 19 = .ok (.iload_n 1, 1) := by decide +kernel
theorem d_X11_waits_20 : decode prog_13_method_46_code 20 = .ok (.aload_n 0, 1) := by decide +kernel
theorem d_X11_waits_21 : decode prog_13_method_46_code 21 = .ok (.getfield 318, 3) := by decide +kernel
theorem d_X11_waits_24 : decode prog_13_method_46_code 24 = .ok (.invokevirtual 305, 3) := by decide +kernel
theorem d_X11_waits_27 : decode prog_13_method_46_code 27 = .ok (.istore 5, 2) := by decide +kernel
theorem d_X11_waits_29 : decode prog_13_method_46_code 29 = .ok (.aload_n 0, 1) := by decide +kernel
theorem d_X11_waits_30 : decode prog_13_method_46_code 30 = .ok (.iload 5, 2) := by decide +kernel
theorem d_X11_waits_32 : decode prog_13_method_46_code 32 = .ok (.invokevirtual 286, 3) := by decide +kernel
theorem d_X11_waits_35 : decode prog_13_method_46_code 35 = .ok (.istore 6, 2) := by decide +kernel
theorem d_X11_waits_37 : decode prog_13_method_46_code 37 = .ok (.aload_n 0, 1) := by decide +kernel
theorem d_X11_waits_38 : decode prog_13_method_46_code 38 = .ok (.dup, 1) := by decide +kernel
theorem d_X11_waits_39 : decode prog_13_method_46_code 39 = .ok (.getfield 318, 3) := by decide +kernel
theorem d_X11_waits_42 : decode prog_13_method_46_code 42 = .ok (.iconst 1, 1) := by decide +kernel
theorem d_X11_waits_43 : decode prog_13_method_46_code 43 = .ok (.iadd, 1) := by decide +kernel
theorem d_X11_waits_44 : decode prog_13_method_46_code 44 = .ok (.putfield 318, 3) := by decide +kernel
theorem d_X11_waits_47 : decode prog_13_method_46_code 47 = .ok (.iload 6, 2) := by decide +kernel
theorem d_X11_waits_49 : decode prog_13_method_46_code 49 = .ok (.bipush 10, 2) := by decide +kernel
theorem d_X11_waits_51 : decode prog_13_method_46_code 51 = .ok (.if_icmp .lt 11, 3) := by decide +kernel
theorem d_X11_waits_54 : decode prog_13_method_46_code 54 = .ok (.aload_n 0, 1) := by decide +kernel
theorem d_X11_waits_55 : decode prog_13_method_46_code 55 = .ok (.iload_n 1, 1) := by decide +kernel
theorem d_X11_waits_56 : decode prog_13_method_46_code 56 = .ok (.iload 5, 2) := by decide +kernel
theorem d_X11_waits_58 : decode prog_13_method_46_code 58 = .ok (.invokevirtual 336, 3) := by decide +kernel
theorem d_X11_waits_61 : decode prog_13_method_46_code 61 = .ok (.return_, 1) := by decide +kernel
theorem d_X11_waits_62 : decode prog_13_method_46_code 62 = .ok (.iload_n 2, 1) := by decide +kernel
theorem d_X11_waits_63 : decode prog_13_method_46_code 63 = .ok (.iconst 1, 1) := by decide +kernel
theorem d_X11_waits_64 : decode prog_13_method_46_code 64 = .ok (.if_icmp .ne 10, 3) := by decide +kernel
theorem d_X11_waits_67 : decode prog_13_method_46_code 67 = .ok (.iload 6, 2) := by decide +kernel
theorem d_X11_waits_69 : decode prog_13_method_46_code 69 = .ok (.iconst 5, 1) := by decide +kernel
theorem d_X11_waits_70 : decode prog_13_method_46_code 70 = .ok (.if_icmp .ne 4, 3) := by decide +kernel
theorem d_X11_waits_73 : decode prog_13_method_46_code 73 = .ok (.return_, 1) := by decide +kernel
theorem d_X11_waits_74 : decode prog_13_method_46_code 74 = .ok (.iload_n 2, 1) := by decide +kernel
theorem d_X11_waits_75 : decode prog_13_method_46_code 75 = .ok (.ifCond .ne 23, 3) := by decide +kernel
theorem d_X11_waits_78 : decode prog_13_method_46_code 78 = .ok (.iload 6, 2) := by decide +kernel
theorem d_X11_waits_80 : decode prog_13_method_46_code 80 = .ok (.iconst 2, 1) := by decide +kernel
theorem d_X11_waits_81 : decode prog_13_method_46_code 81 = .ok (.if_icmp .eq 9, 3) := by decide +kernel
theorem d_X11_waits_84 : decode prog_13_method_46_code 84 = .ok (.iload 6, 2) := by decide +kernel
theorem d_X11_waits_86 : decode prog_13_method_46_code 86 = .ok (.iconst 3, 1) := by decide +kernel
theorem d_X11_waits_87 : decode prog_13_method_46_code 87 = .ok (.if_icmp .ne 7, 3) := by decide +kernel
theorem d_X11_waits_90 : decode prog_13_method_46_code 90 = .ok (.iconst 1, 1) := by decide +kernel
theorem d_X11_waits_91 : decode prog_13_method_46_code 91 = .ok (.goto 55, 3) := by decide +kernel
theorem d_X11_waits_94 : decode prog_13_method_46_code 94 = .ok (.iconst 0, 1) := by decide +kernel
theorem d_X11_waits_95 : decode prog_13_method_46_code 95 = .ok (.goto 51, 3) := by decide +kernel
theorem d_X11_waits_98 : decode prog_13_method_46_code 98 = .ok (.iload_n 2, 1) := by decide +kernel
theorem d_X11_waits_99 : decode prog_13_method_46_code 99 = .ok (.iconst 2, 1) := by decide +kernel
theorem d_X11_waits_100 : decode prog_13_method_46_code 100 = .ok (.if_icmp .ne 18, 3) := by decide +kernel
theorem d_X11_waits_103 : decode prog_13_method_46_code 103 = .ok (.iload 6, 2) := by decide +kernel
theorem d_X11_waits_105 : decode prog_13_method_46_code 105 = .ok (.bipush 8, 2) := by decide +kernel
theorem d_X11_waits_107 : decode prog_13_method_46_code 107 = .ok (.if_icmp .ne 7, 3) := by decide +kernel
theorem d_X11_waits_110 : decode prog_13_method_46_code 110 = .ok (.iconst 1, 1) := by decide +kernel
theorem d_X11_waits_111 : decode prog_13_method_46_code 111 = .ok (.goto 35, 3) := by decide +kernel
theorem d_X11_waits_114 : decode prog_13_method_46_code 114 = .ok (.iconst 0, 1) := by decide +kernel
theorem d_X11_waits_115 : decode prog_13_method_46_code 115 = .ok (.goto 31, 3) := by decide +kernel
theorem d_X11_waits_118 : decode prog_13_method_46_code 118 = .ok (.iload_n 2, 1) := by decide +kernel
theorem d_X11_waits_119 : decode prog_13_method_46_code 119 = .ok (.iconst 3, 1) := by decide +kernel
theorem d_X11_waits_120 : decode prog_13_method_46_code 120 = .ok (.if_icmp .ne 25, 3) := by decide +kernel
theorem d_X11_waits_123 : decode prog_13_method_46_code 123 = .ok (.iload 6, 2) := by decide +kernel
theorem d_X11_waits_125 : decode prog_13_method_46_code 125 = .ok (.bipush 7, 2) := by decide +kernel
theorem d_X11_waits_127 : decode prog_13_method_46_code 127 = .ok (.if_icmp .ne 18, 3) := by decide +kernel
theorem d_X11_waits_130 : decode prog_13_method_46_code 130 = .ok (.aload_n 0, 1) := by decide +kernel
theorem d_X11_waits_131 : decode prog_13_method_46_code 131 = .ok (.getfield 70, 3) := by decide +kernel
theorem d_X11_waits_134 : decode prog_13_method_46_code 134 = .ok (.iload 5, 2) := by decide +kernel
theorem d_X11_waits_136 : decode prog_13_method_46_code 136 = .ok (.iaload, 1) := by decide +kernel
theorem d_X11_waits_137 : decode prog_13_method_46_code 137 = .ok (.iload_n 3, 1) := by decide +kernel
theorem d_X11_waits_138 : decode prog_13_method_46_code 138 = .ok (.if_icmp .ne 7, 3) := by decide +kernel
theorem d_X11_waits_141 : decode prog_13_method_46_code 141 = .ok (.iconst 1, 1) := by decide +kernel
theorem d_X11_waits_142 : decode prog_13_method_46_code 142 = .ok (.goto 4, 3) := by decide +kernel
theorem d_X11_waits_145 : decode prog_13_method_46_code 145 = .ok (.iconst 0, 1) := by decide +kernel
theorem d_X11_waits_146 : decode prog_13_method_46_code 146 = .ok (.istore 7, 2) := by decide +kernel
theorem d_X11_waits_148 : decode prog_13_method_46_code 148 = .ok (.iload 7, 2) := by decide +kernel
theorem d_X11_waits_150 : decode prog_13_method_46_code 150 = .ok (.ifCond .ne 6, 3) := by decide +kernel
theorem d_X11_waits_153 : decode prog_13_method_46_code 153 = .ok (.goto (-148), 3) := by decide +kernel
theorem d_X11_waits_156 : decode prog_13_method_46_code 156 = .ok (.aload_n 0, 1) := by decide +kernel
theorem d_X11_waits_157 : decode prog_13_method_46_code 157 = .ok (.getfield 125, 3) := by decide +kernel
theorem d_X11_waits_160 : decode prog_13_method_46_code 160 = .ok (.bipush 8, 2) := by decide +kernel
theorem d_X11_waits_162 : decode prog_13_method_46_code 162 = .ok (.iload_n 1, 1) := by decide +kernel
theorem d_X11_waits_163 : decode prog_13_method_46_code 163 = .ok (.imul, 1) := by decide +kernel
theorem d_X11_waits_164 : decode prog_13_method_46_code 164 = .ok (.iload 4, 2) := by decide +kernel
theorem d_X11_waits_166 : decode prog_13_method_46_code 166 = .ok (.iadd, 1) := by decide +kernel
theorem d_X11_waits_167 : decode prog_13_method_46_code 167 = .ok (.iload_n 2, 1) := by decide +kernel
theorem d_X11_waits_168 : decode prog_13_method_46_code 168 = .ok (.iconst 3, 1) := by decide +kernel
theorem d_X11_waits_169 : decode prog_13_method_46_code 169 = .ok (.if_icmp .ne 13, 3) := by decide +kernel
theorem d_X11_waits_172 : decode prog_13_method_46_code 172 = .ok (.aload_n 0, 1) := by decide +kernel
theorem d_X11_waits_173 : decode prog_13_method_46_code 173 = .ok (.getfield 73, 3) := by decide +kernel
theorem d_X11_waits_176 : decode prog_13_method_46_code 176 = .ok (.iload 5, 2) := by decide +kernel
theorem d_X11_waits_178 : decode prog_13_method_46_code 178 = .ok (.iaload, 1) := by decide +kernel
theorem d_X11_waits_179 : decode prog_13_method_46_code 179 = .ok (.goto 10, 3) := by decide +kernel
theorem d_X11_waits_182 : decode prog_13_method_46_code 182 = .ok (.aload_n 0, 1) := by decide +kernel
theorem d_X11_waits_183 : decode prog_13_method_46_code 183 = .ok (.getfield 70, 3) := by decide +kernel
theorem d_X11_waits_186 : decode prog_13_method_46_code 186 = .ok (.iload 5, 2) := by decide +kernel
theorem d_X11_waits_188 : decode prog_13_method_46_code 188 = .ok (.iaload, 1) := by decide +kernel
theorem d_X11_waits_189 : decode prog_13_method_46_code 189 = .ok (.iastore, 1) := by decide +kernel
theorem d_X11_waits_190 : decode prog_13_method_46_code 190 = .ok (.iload_n 2, 1) := by decide +kernel
theorem d_X11_waits_191 : decode prog_13_method_46_code 191 = .ok (.iconst 2, 1) := by decide +kernel
theorem d_X11_waits_192 : decode prog_13_method_46_code 192 = .ok (.if_icmp .ne 13, 3) := by decide +kernel
theorem d_X11_waits_195 : decode prog_13_method_46_code 195 = .ok (.aload_n 0, 1) := by decide +kernel
theorem d_X11_waits_196 : decode prog_13_method_46_code 196 = .ok (.dup, 1) := by decide +kernel
theorem d_X11_waits_197 : decode prog_13_method_46_code 197 = .ok (.getfield 321, 3) := by decide +kernel
theorem d_X11_waits_200 : decode prog_13_method_46_code 200 = .ok (.iconst 1, 1) := by decide +kernel
theorem d_X11_waits_201 : decode prog_13_method_46_code 201 = .ok (.iadd, 1) := by decide +kernel
theorem d_X11_waits_202 : decode prog_13_method_46_code 202 = .ok (.putfield 321, 3) := by decide +kernel
theorem d_X11_waits_205 : decode prog_13_method_46_code 205 = .ok (.return_, 1) := by decide +kernel
theorem d_X11_waits_206 : decode prog_13_method_46_code 206 = .ok (.aload_n 0, 1) := by decide +kernel
theorem d_X11_waits_207 : decode prog_13_method_46_code 207 = .ok (.getfield 119, 3) := by decide +kernel
theorem d_X11_waits_210 : decode prog_13_method_46_code 210 = .ok (.iload_n 1, 1) := by decide +kernel
theorem d_X11_waits_211 : decode prog_13_method_46_code 211 = .ok (.iload_n 2, 1) := by decide +kernel
theorem d_X11_waits_212 : decode prog_13_method_46_code 212 = .ok (.iastore, 1) := by decide +kernel
theorem d_X11_waits_213 : decode prog_13_method_46_code 213 = .ok (.return_, 1) := by decide +kernel
abbrev Y_X11_joins : Yx := (⟨"TaskWeaveModel", "joins", "(III)V"⟩, prog_13_method_52_code, 5, none)
abbrev M_X11_joins : Mx := ("TaskWeaveModel", prog_13_method_52_code, 5, false)
theorem yk_X11_joins : Yk Y_X11_joins 3 := ⟨by decide +kernel, by decide +kernel, ⟨by decide, by decide⟩, by decide +kernel, by decide, trivial⟩
theorem d_X11_joins_0 : decode prog_13_method_52_code 0 = .ok (.aload_n 0, 1) := by decide +kernel
theorem d_X11_joins_1 : decode prog_13_method_52_code 1 = .ok (.iload_n 1, 1) := by decide +kernel
theorem d_X11_joins_2 : decode prog_13_method_52_code 2 = .ok (.iload_n 2, 1) := by decide +kernel
theorem d_X11_joins_3 : decode prog_13_method_52_code 3 = .ok (.aload_n 0, 1) := by decide +kernel
theorem d_X11_joins_4 : decode prog_13_method_52_code 4 = .ok (.getfield 318, 3) := by decide +kernel
theorem d_X11_joins_7 : decode prog_13_method_52_code 7 = .ok (.invokevirtual 360, 3) := by decide +kernel
theorem d_X11_joins_10 : decode prog_13_method_52_code 10 = .ok (.istore 4, 2) := by decide +kernel
theorem d_X11_joins_12 : decode prog_13_method_52_code 12 = .ok (.iload_n 2, 1) := by decide +kernel
theorem d_X11_joins_13 : decode prog_13_method_52_code 13 = .ok (.aload_n 0, 1) := by decide +kernel
theorem d_X11_joins_14 : decode prog_13_method_52_code 14 = .ok (.getfield 324, 3) := by decide +kernel
theorem d_X11_joins_17 : decode prog_13_method_52_code 17 = .ok (.invokestatic 230, 3) := by decide +kernel
theorem d_X11_joins_20 : decode prog_13_method_52_code 20 = .ok (.ifCond .ne 18, 3) := by decide +kernel
theorem d_X11_joins_23 : decode prog_13_method_52_code 23 = .ok (.aload_n 0, 1) := by decide +kernel
theorem d_X11_joins_24 : decode prog_13_method_52_code 24 = .ok (.getfield 125, 3) := by decide +kernel
theorem d_X11_joins_27 : decode prog_13_method_52_code 27 = .ok (.bipush 8, 2) := by decide +kernel
theorem d_X11_joins_29 : decode prog_13_method_52_code 29 = .ok (.iload_n 1, 1) := by decide +kernel
theorem d_X11_joins_30 : decode prog_13_method_52_code 30 = .ok (.imul, 1) := by decide +kernel
theorem d_X11_joins_31 : decode prog_13_method_52_code 31 = .ok (.iload_n 3, 1) := by decide +kernel
theorem d_X11_joins_32 : decode prog_13_method_52_code 32 = .ok (.iadd, 1) := by decide +kernel
theorem d_X11_joins_33 : decode prog_13_method_52_code 33 = .ok (.iconst (-1), 1) := by decide +kernel
theorem d_X11_joins_34 : decode prog_13_method_52_code 34 = .ok (.iastore, 1) := by decide +kernel
theorem d_X11_joins_35 : decode prog_13_method_52_code 35 = .ok (.goto 38, 3) := by decide +kernel
theorem d_X11_joins_38 : decode prog_13_method_52_code 38 = .ok (.iload 4, 2) := by decide +kernel
theorem d_X11_joins_40 : decode prog_13_method_52_code 40 = .ok (.iconst (-1), 1) := by decide +kernel
theorem d_X11_joins_41 : decode prog_13_method_52_code 41 = .ok (.if_icmp .eq 24, 3) := by decide +kernel
theorem d_X11_joins_44 : decode prog_13_method_52_code 44 = .ok (.aload_n 0, 1) := by decide +kernel
theorem d_X11_joins_45 : decode prog_13_method_52_code 45 = .ok (.getfield 125, 3) := by decide +kernel
theorem d_X11_joins_48 : decode prog_13_method_52_code 48 = .ok (.bipush 8, 2) := by decide +kernel
theorem d_X11_joins_50 : decode prog_13_method_52_code 50 = .ok (.iload_n 1, 1) := by decide +kernel
theorem d_X11_joins_51 : decode prog_13_method_52_code 51 = .ok (.imul, 1) := by decide +kernel
theorem d_X11_joins_52 : decode prog_13_method_52_code 52 = .ok (.iload_n 3, 1) := by decide +kernel
theorem d_X11_joins_53 : decode prog_13_method_52_code 53 = .ok (.iadd, 1) := by decide +kernel
theorem d_X11_joins_54 : decode prog_13_method_52_code 54 = .ok (.aload_n 0, 1) := by decide +kernel
theorem d_X11_joins_55 : decode prog_13_method_52_code 55 = .ok (.getfield 73, 3) := by decide +kernel
theorem d_X11_joins_58 : decode prog_13_method_52_code 58 = .ok (.iload 4, 2) := by decide +kernel
theorem d_X11_joins_60 : decode prog_13_method_52_code 60 = .ok (.iaload, 1) := by decide +kernel
theorem d_X11_joins_61 : decode prog_13_method_52_code 61 = .ok (.iastore, 1) := by decide +kernel
theorem d_X11_joins_62 : decode prog_13_method_52_code 62 = .ok (.goto 11, 3) := by decide +kernel
theorem d_X11_joins_65 : decode prog_13_method_52_code 65 = .ok (.aload_n 0, 1) := by decide +kernel
theorem d_X11_joins_66 : decode prog_13_method_52_code 66 = .ok (.iload_n 1, 1) := by decide +kernel
theorem d_X11_joins_67 : decode prog_13_method_52_code 67 = .ok (.iconst 3, 1) := by decide +kernel
theorem d_X11_joins_68 : decode prog_13_method_52_code 68 = .ok (.iload_n 2, 1) := by decide +kernel
theorem d_X11_joins_69 : decode prog_13_method_52_code 69 = .ok (.iload_n 3, 1) := by decide +kernel
theorem d_X11_joins_70 : decode prog_13_method_52_code 70 = .ok (.invokevirtual 351, 3) := by decide +kernel
theorem d_X11_joins_73 : decode prog_13_method_52_code 73 = .ok (.return_, 1) := by decide +kernel
abbrev Y_X11_own : Yx := (⟨"TaskWeaveModel", "own", "(IIII)Z"⟩, prog_13_method_45_code, 6, (some .boolean))
abbrev M_X11_own : Mx := ("TaskWeaveModel", prog_13_method_45_code, 6, false)
theorem yk_X11_own : Yk Y_X11_own 4 := ⟨by decide +kernel, by decide +kernel, ⟨by decide, by decide⟩, by decide +kernel, by decide, trivial⟩
theorem d_X11_own_0 : decode prog_13_method_45_code 0 = .ok (.aload_n 0, 1) := by decide +kernel
theorem d_X11_own_1 : decode prog_13_method_45_code 1 = .ok (.getfield 318, 3) := by decide +kernel
theorem d_X11_own_4 : decode prog_13_method_45_code 4 = .ok (.aload_n 0, 1) := by decide +kernel
theorem d_X11_own_5 : decode prog_13_method_45_code 5 = .ok (.getfield 113, 3) := by decide +kernel
theorem d_X11_own_8 : decode prog_13_method_45_code 8 = .ok (.iload_n 1, 1) := by decide +kernel
theorem d_X11_own_9 : decode prog_13_method_45_code 9 = .ok (.iaload, 1) := by decide +kernel
theorem d_X11_own_10 : decode prog_13_method_45_code 10 = .ok (.if_icmp .ge 59, 3) := by decide +kernel
theorem d_X11_own_13 : decode prog_13_method_45_code 13 = .ok (.aload_n 0, 1) := by decide +kernel
theorem d_X11_own_14 : decode prog_13_method_45_code 14 = .ok (.iload_n 1, 1) := by decide +kernel
theorem d_X11_own_15 : decode prog_13_method_45_code 15 = .ok (.aload_n 0, 1) := by decide +kernel
theorem d_X11_own_16 : decode prog_13_method_45_code 16 = .ok (.getfield 318, 3) := by decide +kernel
theorem d_X11_own_19 : decode prog_13_method_45_code 19 = .ok (.invokevirtual 305, 3) := by decide +kernel
theorem d_X11_own_22 : decode prog_13_method_45_code 22 = .ok (.istore 5, 2) := by decide +kernel
theorem d_X11_own_24 : decode prog_13_method_45_code 24 = .ok (.aload_n 0, 1) := by decide +kernel
theorem d_X11_own_25 : decode prog_13_method_45_code 25 = .ok (.dup, 1) := by decide +kernel
theorem d_X11_own_26 : decode prog_13_method_45_code 26 = .ok (.getfield 318, 3) := by decide +kernel
theorem d_X11_own_29 : decode prog_13_method_45_code 29 = .ok (.iconst 1, 1) := by decide +kernel
theorem d_X11_own_30 : decode prog_13_method_45_code 30 = .ok (.iadd, 1) := by decide +kernel
theorem d_X11_own_31 : decode prog_13_method_45_code 31 = .ok (.putfield 318, 3) := by decide +kernel
theorem d_X11_own_34 : decode prog_13_method_45_code 34 = .ok (.aload_n 0, 1) := by decide +kernel
theorem d_X11_own_35 : decode prog_13_method_45_code 35 = .ok (.iload 5, 2) := by decide +kernel
theorem d_X11_own_37 : decode prog_13_method_45_code 37 = .ok (.invokevirtual 286, 3) := by decide +kernel
theorem d_X11_own_40 : decode prog_13_method_45_code 40 = .ok (.bipush 10, 2) := by decide +kernel
theorem d_X11_own_42 : decode prog_13_method_45_code 42 = .ok (.if_icmp .lt 10, 3) := by decide +kernel
theorem d_X11_own_45 : decode prog_13_method_45_code 45 = .ok (.aload_n 0, 1) := by decide +kernel
theorem d_X11_own_46 : decode prog_13_method_45_code 46 = .ok (.iload_n 1, 1) := by decide +kernel
theorem d_X11_own_47 : decode prog_13_method_45_code 47 = .ok (.iload 5, 2) := by decide +kernel
theorem d_X11_own_49 : decode prog_13_method_45_code 49 = .ok (.invokevirtual 336, 3) := by decide +kernel
theorem d_X11_own_52 : decode prog_13_method_45_code 52 = .ok (.aload_n 0, 1) := by decide +kernel
theorem d_X11_own_53 : decode prog_13_method_45_code 53 = .ok (.getfield 119, 3) := by decide +kernel
theorem d_X11_own_56 : decode prog_13_method_45_code 56 = .ok (.iload_n 1, 1) := by decide +kernel
theorem d_X11_own_57 : decode prog_13_method_45_code 57 = .ok (.iaload, 1) := by decide +kernel
theorem d_X11_own_58 : decode prog_13_method_45_code 58 = .ok (.bipush 6, 2) := by decide +kernel
theorem d_X11_own_60 : decode prog_13_method_45_code 60 = .ok (.if_icmp .ne 7, 3) := by decide +kernel
theorem d_X11_own_63 : decode prog_13_method_45_code 63 = .ok (.iconst 1, 1) := by decide +kernel
theorem d_X11_own_64 : decode prog_13_method_45_code 64 = .ok (.goto 4, 3) := by decide +kernel
theorem d_X11_own_67 : decode prog_13_method_45_code 67 = .ok (.iconst 0, 1) := by decide +kernel
theorem d_X11_own_68 : decode prog_13_method_45_code 68 = .ok (.ireturn, 1) := by decide +kernel
theorem d_X11_own_69 : decode prog_13_method_45_code 69 = .ok (.aload_n 0, 1) := by decide +kernel
theorem d_X11_own_70 : decode prog_13_method_45_code 70 = .ok (.getfield 119, 3) := by decide +kernel
theorem d_X11_own_73 : decode prog_13_method_45_code 73 = .ok (.iload_n 1, 1) := by decide +kernel
theorem d_X11_own_74 : decode prog_13_method_45_code 74 = .ok (.iconst 5, 1) := by decide +kernel
theorem d_X11_own_75 : decode prog_13_method_45_code 75 = .ok (.iastore, 1) := by decide +kernel
theorem d_X11_own_76 : decode prog_13_method_45_code 76 = .ok (.aload_n 0, 1) := by decide +kernel
theorem d_X11_own_77 : decode prog_13_method_45_code 77 = .ok (.getfield 134, 3) := by decide +kernel
theorem d_X11_own_80 : decode prog_13_method_45_code 80 = .ok (.iload_n 1, 1) := by decide +kernel
theorem d_X11_own_81 : decode prog_13_method_45_code 81 = .ok (.iload_n 2, 1) := by decide +kernel
theorem d_X11_own_82 : decode prog_13_method_45_code 82 = .ok (.iastore, 1) := by decide +kernel
theorem d_X11_own_83 : decode prog_13_method_45_code 83 = .ok (.aload_n 0, 1) := by decide +kernel
theorem d_X11_own_84 : decode prog_13_method_45_code 84 = .ok (.getfield 137, 3) := by decide +kernel
theorem d_X11_own_87 : decode prog_13_method_45_code 87 = .ok (.iload_n 1, 1) := by decide +kernel
theorem d_X11_own_88 : decode prog_13_method_45_code 88 = .ok (.iload_n 3, 1) := by decide +kernel
theorem d_X11_own_89 : decode prog_13_method_45_code 89 = .ok (.iastore, 1) := by decide +kernel
theorem d_X11_own_90 : decode prog_13_method_45_code 90 = .ok (.aload_n 0, 1) := by decide +kernel
theorem d_X11_own_91 : decode prog_13_method_45_code 91 = .ok (.getfield 140, 3) := by decide +kernel
theorem d_X11_own_94 : decode prog_13_method_45_code 94 = .ok (.iload_n 1, 1) := by decide +kernel
theorem d_X11_own_95 : decode prog_13_method_45_code 95 = .ok (.iload 4, 2) := by decide +kernel
theorem d_X11_own_97 : decode prog_13_method_45_code 97 = .ok (.iastore, 1) := by decide +kernel
theorem d_X11_own_98 : decode prog_13_method_45_code 98 = .ok (.iconst 0, 1) := by decide +kernel
theorem d_X11_own_99 : decode prog_13_method_45_code 99 = .ok (.ireturn, 1) := by decide +kernel
abbrev Y_X11_origin : Yx := (⟨"TaskWeaveModel", "origin", "(I)I"⟩, prog_13_method_37_code, 2, (some .int))
abbrev M_X11_origin : Mx := ("TaskWeaveModel", prog_13_method_37_code, 2, false)
theorem yk_X11_origin : Yk Y_X11_origin 1 := ⟨by decide +kernel, by decide +kernel, ⟨by decide, by decide⟩, by decide +kernel, by decide, trivial⟩
theorem d_X11_origin_0 : decode prog_13_method_37_code 0 = .ok (.aload_n 0, 1) := by decide +kernel
theorem d_X11_origin_1 : decode prog_13_method_37_code 1 = .ok (.getfield 76, 3) := by decide +kernel
theorem d_X11_origin_4 : decode prog_13_method_37_code 4 = .ok (.aload_n 0, 1) := by decide +kernel
theorem d_X11_origin_5 : decode prog_13_method_37_code 5 = .ok (.iload_n 1, 1) := by decide +kernel
theorem d_X11_origin_6 : decode prog_13_method_37_code 6 = .ok (.iconst 0, 1) := by decide +kernel
theorem d_X11_origin_7 : decode prog_13_method_37_code 7 = .ok (.invokevirtual 305, 3) := by decide +kernel
theorem d_X11_origin_10 : decode prog_13_method_37_code 10 = .ok (.iaload, 1) := by decide +kernel
theorem d_X11_origin_11 : decode prog_13_method_37_code 11 = .ok (.ireturn, 1) := by decide +kernel
abbrev Y_X11_parent : Yx := (⟨"TaskWeaveModel", "parent", "(I)I"⟩, prog_13_method_38_code, 2, (some .int))
abbrev M_X11_parent : Mx := ("TaskWeaveModel", prog_13_method_38_code, 2, false)
theorem yk_X11_parent : Yk Y_X11_parent 1 := ⟨by decide +kernel, by decide +kernel, ⟨by decide, by decide⟩, by decide +kernel, by decide, trivial⟩
theorem d_X11_parent_0 : decode prog_13_method_38_code 0 = .ok (.aload_n 0, 1) := by decide +kernel
theorem d_X11_parent_1 : decode prog_13_method_38_code 1 = .ok (.iload_n 1, 1) := by decide +kernel
theorem d_X11_parent_2 : decode prog_13_method_38_code 2 = .ok (.invokevirtual 309, 3) := by decide +kernel
theorem d_X11_parent_5 : decode prog_13_method_38_code 5 = .ok (.ifCond .ge 16, 3) := by decide +kernel
theorem d_X11_parent_8 : decode prog_13_method_38_code 8 = .ok (.iconst (-1), 1) := by decide +kernel
theorem d_X11_parent_9 : decode prog_13_method_38_code 9 = .ok (.aload_n 0, 1) := by decide +kernel
theorem d_X11_parent_10 : decode prog_13_method_38_code 10 = .ok (.iload_n 1, 1) := by decide +kernel
theorem d_X11_parent_11 : decode prog_13_method_38_code 11 = .ok (.invokevirtual 309, 3) := by decide +kernel
theorem d_X11_parent_14 : decode prog_13_method_38_code 14 = .ok (.isub, 1) := by decide +kernel
theorem d_X11_parent_15 : decode prog_13_method_38_code 15 = .ok (.bipush 64, 2) := by decide +kernel
theorem d_X11_parent_17 : decode prog_13_method_38_code 17 = .ok (.idiv, 1) := by decide +kernel
theorem d_X11_parent_18 : decode prog_13_method_38_code 18 = .ok (.goto 4, 3) := by decide +kernel
theorem d_X11_parent_21 : decode prog_13_method_38_code 21 = .ok (.iconst (-1), 1) := by decide +kernel
theorem d_X11_parent_22 : decode prog_13_method_38_code 22 = .ok (.ireturn, 1) := by decide +kernel
abbrev Y_X11_takesSignal : Yx := (⟨"TaskWeaveModel", "takesSignal", "(II)V"⟩, prog_13_method_50_code, 5, none)
abbrev M_X11_takesSignal : Mx := ("TaskWeaveModel", prog_13_method_50_code, 5, false)
theorem yk_X11_takesSignal : Yk Y_X11_takesSignal 2 := ⟨by decide +kernel, by decide +kernel, ⟨by decide, by decide⟩, by decide +kernel, by decide, trivial⟩
theorem d_X11_takesSignal_0 : decode prog_13_method_50_code 0 = .ok (.iconst 0, 1) := by decide +kernel
theorem d_X11_takesSignal_1 : decode prog_13_method_50_code 1 = .ok (.istore_n 3, 1) := by decide +kernel
theorem d_X11_takesSignal_2 : decode prog_13_method_50_code 2 = .ok (.iconst 0, 1) := by decide +kernel
theorem d_X11_takesSignal_3 : decode prog_13_method_50_code 3 = .ok (.istore 4, 2) := by decide +kernel
theorem d_X11_takesSignal_5 : decode prog_13_method_50_code 5 = .ok (.iload 4, 2) := by decide +kernel
theorem d_X11_takesSignal_7 : decode prog_13_method_50_code 7 = .ok (.aload_n 0, 1) := by decide +kernel
theorem d_X11_takesSignal_8 : decode prog_13_method_50_code 8 = .ok (.getfield 318, 3) := by decide +kernel
theorem d_X11_takesSignal_11 : decode prog_13_method_50_code 11 = .ok (.if_icmp .ge 73, 3) := by decide +kernel
theorem d_X11_takesSignal_14 : decode prog_13_method_50_code 14 = .ok (.aload_n 0, 1) := by decide +kernel
theorem d_X11_takesSignal_15 : decode prog_13_method_50_code 15 = .ok (.aload_n 0, 1) := by decide +kernel
theorem d_X11_takesSignal_16 : decode prog_13_method_50_code 16 = .ok (.iload_n 1, 1) := by decide +kernel
theorem d_X11_takesSignal_17 : decode prog_13_method_50_code 17 = .ok (.iload 4, 2) := by decide +kernel
theorem d_X11_takesSignal_19 : decode prog_13_method_50_code 19 = .ok (.invokevirtual 305, 3) := by decide +kernel
theorem d_X11_takesSignal_22 : decode prog_13_method_50_code 22 = .ok (.invokevirtual 286, 3) := by decide +kernel
theorem d_X11_takesSignal_25 : decode prog_13_method_50_code 25 = .ok (.bipush 8, 2) := by decide +kernel
theorem d_X11_takesSignal_27 : decode prog_13_method_50_code 27 = .ok (.if_icmp .eq 6, 3) := by decide +kernel
theorem d_X11_takesSignal_30 : decode prog_13_method_50_code 30 = .ok (.goto 48, 3) := by decide +kernel
theorem d_X11_takesSignal_33 : decode prog_13_method_50_code 33 = .ok (.iload_n 3, 1) := by decide +kernel
theorem d_X11_takesSignal_34 : decode prog_13_method_50_code 34 = .ok (.aload_n 0, 1) := by decide +kernel
theorem d_X11_takesSignal_35 : decode prog_13_method_50_code 35 = .ok (.getfield 321, 3) := by decide +kernel
theorem d_X11_takesSignal_38 : decode prog_13_method_50_code 38 = .ok (.if_icmp .ne 37, 3) := by decide +kernel
theorem d_X11_takesSignal_41 : decode prog_13_method_50_code 41 = .ok (.aload_n 0, 1) := by decide +kernel
theorem d_X11_takesSignal_42 : decode prog_13_method_50_code 42 = .ok (.getfield 125, 3) := by decide +kernel
theorem d_X11_takesSignal_45 : decode prog_13_method_50_code 45 = .ok (.bipush 8, 2) := by decide +kernel
theorem d_X11_takesSignal_47 : decode prog_13_method_50_code 47 = .ok (.iload_n 1, 1) := by decide +kernel
theorem d_X11_takesSignal_48 : decode prog_13_method_50_code 48 = .ok (.imul, 1) := by decide +kernel
theorem d_X11_takesSignal_49 : decode prog_13_method_50_code 49 = .ok (.iload_n 2, 1) := by decide +kernel
theorem d_X11_takesSignal_50 : decode prog_13_method_50_code 50 = .ok (.iadd, 1) := by decide +kernel
theorem d_X11_takesSignal_51 : decode prog_13_method_50_code 51 = .ok (.aload_n 0, 1) := by decide +kernel
theorem d_X11_takesSignal_52 : decode prog_13_method_50_code 52 = .ok (.getfield 70, 3) := by decide +kernel
theorem d_X11_takesSignal_55 : decode prog_13_method_50_code 55 = .ok (.aload_n 0, 1) := by decide +kernel
theorem d_X11_takesSignal_56 : decode prog_13_method_50_code 56 = .ok (.iload_n 1, 1) := by decide +kernel
theorem d_X11_takesSignal_57 : decode prog_13_method_50_code 57 = .ok (.iload 4, 2) := by decide +kernel
theorem d_X11_takesSignal_59 : decode prog_13_method_50_code 59 = .ok (.invokevirtual 305, 3) := by decide +kernel
theorem d_X11_takesSignal_62 : decode prog_13_method_50_code 62 = .ok (.iaload, 1) := by decide +kernel
theorem d_X11_takesSignal_63 : decode prog_13_method_50_code 63 = .ok (.iastore, 1) := by decide +kernel
theorem d_X11_takesSignal_64 : decode prog_13_method_50_code 64 = .ok (.aload_n 0, 1) := by decide +kernel
theorem d_X11_takesSignal_65 : decode prog_13_method_50_code 65 = .ok (.dup, 1) := by decide +kernel
theorem d_X11_takesSignal_66 : decode prog_13_method_50_code 66 = .ok (.getfield 321, 3) := by decide +kernel
theorem d_X11_takesSignal_69 : decode prog_13_method_50_code 69 = .ok (.iconst 1, 1) := by decide +kernel
theorem d_X11_takesSignal_70 : decode prog_13_method_50_code 70 = .ok (.iadd, 1) := by decide +kernel
theorem d_X11_takesSignal_71 : decode prog_13_method_50_code 71 = .ok (.putfield 321, 3) := by decide +kernel
theorem d_X11_takesSignal_74 : decode prog_13_method_50_code 74 = .ok (.return_, 1) := by decide +kernel
theorem d_X11_takesSignal_75 : decode prog_13_method_50_code 75 = .ok (.iinc 3 1, 3) := by decide +kernel
theorem d_X11_takesSignal_78 : decode prog_13_method_50_code 78 = .ok (.iinc 4 1, 3) := by decide +kernel
theorem d_X11_takesSignal_81 : decode prog_13_method_50_code 81 = .ok (.goto (-76), 3) := by decide +kernel
theorem d_X11_takesSignal_84 : decode prog_13_method_50_code 84 = .ok (.aload_n 0, 1) := by decide +kernel
theorem d_X11_takesSignal_85 : decode prog_13_method_50_code 85 = .ok (.iload_n 1, 1) := by decide +kernel
theorem d_X11_takesSignal_86 : decode prog_13_method_50_code 86 = .ok (.iconst 2, 1) := by decide +kernel
theorem d_X11_takesSignal_87 : decode prog_13_method_50_code 87 = .ok (.iconst 0, 1) := by decide +kernel
theorem d_X11_takesSignal_88 : decode prog_13_method_50_code 88 = .ok (.iload_n 2, 1) := by decide +kernel
theorem d_X11_takesSignal_89 : decode prog_13_method_50_code 89 = .ok (.invokevirtual 351, 3) := by decide +kernel
theorem d_X11_takesSignal_92 : decode prog_13_method_50_code 92 = .ok (.return_, 1) := by decide +kernel
theorem vk_10_247 : Vk "TaskWeaveModel" 247 1 12 Y_X11_down := ⟨yk_X11_down, by decide +kernel, by decide +kernel, by decide +kernel, by decide⟩
def f_X11_write_68 (l0 : Nat) (l1 : Int32) (l2 : Int32) (h : Hp) : Option (Int32 × Hp) := ck (isO (h) (l0) 12) (ck (isO (h) (zR (h) 1231 (l0)) 22) (ck (inR (l1) (zL (h) (zR (h) 1231 (l0)))) (ck (isO (h) (zR (h) 1230 (l0)) 22) (ck (inR ((((8192 : Int32)) * (l1)) + (zE (h) (zR (h) 1231 (l0)) (l1).toNatClampNeg)) (zL (h) (zR (h) 1230 (l0)))) (bh (pE (h) (zR (h) 1230 (l0)) ((((8192 : Int32)) * (l1)) + (zE (h) (zR (h) 1231 (l0)) (l1).toNatClampNeg)).toNatClampNeg (l2)) (fun h23 => ck (isO (h23) (zR (h23) 1231 (l0)) 22) (ck (inR (l1) (zL (h23) (zR (h23) 1231 (l0)))) (bh (pE (h23) (zR (h23) 1231 (l0)) (l1).toNatClampNeg ((zE (h23) (zR (h23) 1231 (l0)) (l1).toNatClampNeg) + ((1 : Int32)))) (fun h26 => some ((1 : Int32), h26))))))))))
theorem f_X11_write_68_ok {G : Gd} {d : Nat} (hj : 2 ≤ d) : ∀ (l0 : Nat) (l1 : Int32) (l2 : Int32) (L : List (Nat × Value)) (h : Hp) (o : (Int32 × Hp)), zlk L 0 = some (zrf (l0)) → zlk L 1 = some (.int (l1)) → zlk L 2 = some (.int (l2)) → f_X11_write_68 l0 l1 l2 h = some o → Ev G M_X11_write d 68 L [] h (Ret Y_X11_write (some (.int o.1)) o.2) := by
  intro l0 l1 l2 L h o g0 g1 g2 e
  unfold f_X11_write_68 at e
  refine g_ald_n d_X11_write_68 rfl g0 ?_
  replace e := ckd e
  obtain ⟨k18, e⟩ := e
  refine g_getR d_X11_write_69 (f := 1230) k18 fk_10_80 rfl rfl ?_
  refine r_sipush d_X11_write_72 (v := (8192 : Int32)) (by decide +kernel) ?_
  refine r_iload_n d_X11_write_75 rfl g1 ?_
  refine r_imul d_X11_write_76 ?_
  refine g_ald_n d_X11_write_77 rfl g0 ?_
  refine g_getR d_X11_write_78 (f := 1231) k18 fk_10_83 rfl rfl ?_
  refine r_iload_n d_X11_write_81 rfl g1 ?_
  replace e := ckd e
  obtain ⟨k19, e⟩ := e
  replace e := ckd e
  obtain ⟨k20, e⟩ := e
  refine g_iald d_X11_write_82 k19 k20 rfl ?_
  refine r_iadd d_X11_write_83 ?_
  refine r_iload_n d_X11_write_84 rfl g2 ?_
  replace e := ckd e
  obtain ⟨k21, e⟩ := e
  replace e := ckd e
  obtain ⟨k22, e⟩ := e
  refine g_iast d_X11_write_85 k21 k22 ?_
  replace e := bhd e
  obtain ⟨_, rfl, e⟩ := e
  refine g_ald_n d_X11_write_86 rfl g0 ?_
  refine g_getR d_X11_write_87 (f := 1231) (tO_pE k18) fk_10_83 rfl rfl ?_
  refine r_iload_n d_X11_write_90 rfl g1 ?_
  refine r_dup2 d_X11_write_91 rfl (zrf_cat _) ?_
  replace e := ckd e
  obtain ⟨k24, e⟩ := e
  replace e := ckd e
  obtain ⟨k25, e⟩ := e
  refine g_iald d_X11_write_92 k24 k25 rfl ?_
  refine r_iconst d_X11_write_93 (v := (1 : Int32)) (by decide +kernel) ?_
  refine r_iadd d_X11_write_94 ?_
  refine g_iast d_X11_write_95 k24 k25 ?_
  replace e := bhd e
  obtain ⟨_, rfl, e⟩ := e
  refine r_iconst d_X11_write_96 (v := (1 : Int32)) (by decide +kernel) ?_
  obtain rfl := Option.some.inj e
  exact g_iret d_X11_write_97 rfl rfl

def f_X11_write_47 (l0 : Nat) (l1 : Int32) (l2 : Int32) (h : Hp) : Option (Int32 × Hp) := ck (isO (h) (l0) 12) (ck (isO (h) (zR (h) 1235 (l0)) 22) (ck (inR (l1) (zL (h) (zR (h) 1235 (l0)))) (if (zE (h) (zR (h) 1235 (l0)) (l1).toNatClampNeg) = ((-1 : Int32)) then (f_X11_write_68 (l0) (l1) (l2) (h)) else (bh (pE (h) (zR (h) 1235 (l0)) (l1).toNatClampNeg ((zE (h) (zR (h) 1235 (l0)) (l1).toNatClampNeg) - ((16 : Int32)))) (fun h17 => f_X11_write_68 (l0) (l1) (l2) (h17))))))
theorem f_X11_write_47_ok {G : Gd} {d : Nat} (hj : 2 ≤ d) : ∀ (l0 : Nat) (l1 : Int32) (l2 : Int32) (L : List (Nat × Value)) (h : Hp) (o : (Int32 × Hp)), zlk L 0 = some (zrf (l0)) → zlk L 1 = some (.int (l1)) → zlk L 2 = some (.int (l2)) → f_X11_write_47 l0 l1 l2 h = some o → Ev G M_X11_write d 47 L [] h (Ret Y_X11_write (some (.int o.1)) o.2) := by
  intro l0 l1 l2 L h o g0 g1 g2 e
  unfold f_X11_write_47 at e
  refine g_ald_n d_X11_write_47 rfl g0 ?_
  replace e := ckd e
  obtain ⟨k13, e⟩ := e
  refine g_getR d_X11_write_48 (f := 1235) k13 fk_10_95 rfl rfl ?_
  refine r_iload_n d_X11_write_51 rfl g1 ?_
  replace e := ckd e
  obtain ⟨k14, e⟩ := e
  replace e := ckd e
  obtain ⟨k15, e⟩ := e
  refine g_iald d_X11_write_52 k14 k15 rfl ?_
  refine r_iconst d_X11_write_53 (v := (-1 : Int32)) (by decide +kernel) ?_
  refine r_icmp_eq d_X11_write_54 (tgt := 68) (by decide) (fun c16 => ?_) (fun c16 => ?_)
  · replace e := (if_pos c16).symm.trans e
    exact f_X11_write_68_ok hj _ _ _ _ _ _ g0 g1 g2 e
  · replace e := (if_neg c16).symm.trans e
    refine g_ald_n d_X11_write_57 rfl g0 ?_
    refine g_getR d_X11_write_58 (f := 1235) k13 fk_10_95 rfl rfl ?_
    refine r_iload_n d_X11_write_61 rfl g1 ?_
    refine r_dup2 d_X11_write_62 rfl (zrf_cat _) ?_
    refine g_iald d_X11_write_63 k14 k15 rfl ?_
    refine r_bipush d_X11_write_64 (v := (16 : Int32)) (by decide +kernel) ?_
    refine r_isub d_X11_write_66 ?_
    refine g_iast d_X11_write_67 k14 k15 ?_
    replace e := bhd e
    obtain ⟨_, rfl, e⟩ := e
    exact f_X11_write_68_ok hj _ _ _ _ _ _ g0 g1 g2 e

def f_X11_write (l0 : Nat) (l1 : Int32) (l2 : Int32) (h : Hp) : Option (Int32 × Hp) := ck (isO (h) (l0) 12) (ck (isO (h) (zR (h) 1235 (l0)) 22) (ck (inR (l1) (zL (h) (zR (h) 1235 (l0)))) (if (zE (h) (zR (h) 1235 (l0)) (l1).toNatClampNeg) = ((-1 : Int32)) then (f_X11_write_47 (l0) (l1) (l2) (h)) else (if ((16 : Int32)) ≤ (zE (h) (zR (h) 1235 (l0)) (l1).toNatClampNeg) then (f_X11_write_47 (l0) (l1) (l2) (h)) else (ck (isO (h) (zR (h) 1232 (l0)) 22) (ck (inR (l1) (zL (h) (zR (h) 1232 (l0)))) (bh (pE (h) (zR (h) 1232 (l0)) (l1).toNatClampNeg (zE (h) (zR (h) 1235 (l0)) (l1).toNatClampNeg)) (fun h8 => ck (isO (h8) (zR (h8) 1233 (l0)) 22) (ck (inR (l1) (zL (h8) (zR (h8) 1233 (l0)))) (bh (pE (h8) (zR (h8) 1233 (l0)) (l1).toNatClampNeg (l2)) (fun h11 => (f_X11_down (l0) (l1) (h11)).bind (fun q12 => some ((0 : Int32), q12)))))))))))))
theorem f_X11_write_ok {G : Gd} {d : Nat} (hj : 2 ≤ d) : ∀ (l0 : Nat) (l1 : Int32) (l2 : Int32) (L : List (Nat × Value)) (h : Hp) (o : (Int32 × Hp)), zlk L 0 = some (zrf (l0)) → zlk L 1 = some (.int (l1)) → zlk L 2 = some (.int (l2)) → f_X11_write l0 l1 l2 h = some o → Ev G M_X11_write d 0 L [] h (Ret Y_X11_write (some (.int o.1)) o.2) := by
  intro l0 l1 l2 L h o g0 g1 g2 e
  unfold f_X11_write at e
  refine g_ald_n d_X11_write_0 rfl g0 ?_
  replace e := ckd e
  obtain ⟨k1, e⟩ := e
  refine g_getR d_X11_write_1 (f := 1235) k1 fk_10_95 rfl rfl ?_
  refine r_iload_n d_X11_write_4 rfl g1 ?_
  replace e := ckd e
  obtain ⟨k2, e⟩ := e
  replace e := ckd e
  obtain ⟨k3, e⟩ := e
  refine g_iald d_X11_write_5 k2 k3 rfl ?_
  refine r_iconst d_X11_write_6 (v := (-1 : Int32)) (by decide +kernel) ?_
  refine r_icmp_eq d_X11_write_7 (tgt := 47) (by decide) (fun c4 => ?_) (fun c4 => ?_)
  · replace e := (if_pos c4).symm.trans e
    exact f_X11_write_47_ok hj _ _ _ _ _ _ g0 g1 g2 e
  · replace e := (if_neg c4).symm.trans e
    refine g_ald_n d_X11_write_10 rfl g0 ?_
    refine g_getR d_X11_write_11 (f := 1235) k1 fk_10_95 rfl rfl ?_
    refine r_iload_n d_X11_write_14 rfl g1 ?_
    refine g_iald d_X11_write_15 k2 k3 rfl ?_
    refine r_bipush d_X11_write_16 (v := (16 : Int32)) (by decide +kernel) ?_
    refine r_icmp_ge d_X11_write_18 (tgt := 47) (by decide) (fun c5 => ?_) (fun c5 => ?_)
    · replace e := (if_pos c5).symm.trans e
      exact f_X11_write_47_ok hj _ _ _ _ _ _ g0 g1 g2 e
    · replace e := (if_neg c5).symm.trans e
      refine g_ald_n d_X11_write_21 rfl g0 ?_
      refine g_getR d_X11_write_22 (f := 1232) k1 fk_10_86 rfl rfl ?_
      refine r_iload_n d_X11_write_25 rfl g1 ?_
      refine g_ald_n d_X11_write_26 rfl g0 ?_
      refine g_getR d_X11_write_27 (f := 1235) k1 fk_10_95 rfl rfl ?_
      refine r_iload_n d_X11_write_30 rfl g1 ?_
      refine g_iald d_X11_write_31 k2 k3 rfl ?_
      replace e := ckd e
      obtain ⟨k6, e⟩ := e
      replace e := ckd e
      obtain ⟨k7, e⟩ := e
      refine g_iast d_X11_write_32 k6 k7 ?_
      replace e := bhd e
      obtain ⟨_, rfl, e⟩ := e
      refine g_ald_n d_X11_write_33 rfl g0 ?_
      refine g_getR d_X11_write_34 (f := 1233) (tO_pE k1) fk_10_89 rfl rfl ?_
      refine r_iload_n d_X11_write_37 rfl g1 ?_
      refine r_iload_n d_X11_write_38 rfl g2 ?_
      replace e := ckd e
      obtain ⟨k9, e⟩ := e
      replace e := ckd e
      obtain ⟨k10, e⟩ := e
      refine g_iast d_X11_write_39 k9 k10 ?_
      replace e := bhd e
      obtain ⟨_, rfl, e⟩ := e
      refine g_ald_n d_X11_write_40 rfl g0 ?_
      refine r_iload_n d_X11_write_41 rfl g1 ?_
      replace e := bd e
      obtain ⟨q12, eq12, e⟩ := e
      refine g_callV d_X11_write_42 vk_10_247 (as := [_]) rfl (tO_pE (tO_pE k1)) rfl (by simp [zrf_cat, cat_int, cat_long]) (j := 1) (by omega) (c_X11_down (by omega) eq12) ?_
      refine r_iconst d_X11_write_45 (v := (0 : Int32)) (by decide +kernel) ?_
      obtain rfl := Option.some.inj e
      exact g_iret d_X11_write_46 rfl rfl

theorem c_X11_write {G : Gd} {j : Nat} (hj : 2 ≤ j) {l0 : Nat} {l1 : Int32} {l2 : Int32} {h : Hp} {o : (Int32 × Hp)} (e : f_X11_write l0 l1 l2 h = some o) : Cal G j Y_X11_write [zrf (l0), .int (l1), .int (l2)] h (some (.int o.1)) o.2 := Cal.of (n := 0) (I := false) (by first | exact Or.inl (by decide +kernel) | exact Or.inr (by decide +kernel)) (by decide) (by simp [lg_sl, zrf_cat, cat_int, cat_long]) (f_X11_write_ok hj _ _ _ _ h o (by simp [lv_args, zlk, zrf_cat, cat_int, cat_long]) (by simp [lv_args, zlk, zrf_cat, cat_int, cat_long]) (by simp [lv_args, zlk, zrf_cat, cat_int, cat_long]) e)
theorem vk_10_251 : Vk "TaskWeaveModel" 251 2 12 Y_X11_write := ⟨yk_X11_write, by decide +kernel, by decide +kernel, by decide +kernel, by decide⟩
def f_X11_makeAlike_65 : Nat → Nat → Int32 → Int32 → Int32 → Int32 → Hp → Option Hp
  | 0, _, _, _, _, _, _ => none
  | n + 1, l0, l1, l2, l3, l4, h => if (l4) = (0) then (some (h)) else (ck (isO (h) (l0) 12) (ck (isO (h) (zR (h) 1231 (l0)) 22) (ck (inR (l2) (zL (h) (zR (h) 1231 (l0)))) (if (zE (h) (zR (h) 1231 (l0)) (l2).toNatClampNeg) ≤ (l3) then (some (h)) else (ck (isO (h) (zR (h) 1230 (l0)) 22) (ck (inR ((((8192 : Int32)) * (l2)) + (l3)) (zL (h) (zR (h) 1230 (l0)))) ((f_X11_write (l0) (l1) (zE (h) (zR (h) 1230 (l0)) ((((8192 : Int32)) * (l2)) + (l3)).toNatClampNeg) (h)).bind (fun q23 => bh ((l3) + (1 : Int32)) (fun x24 => f_X11_makeAlike_65 n (l0) (l1) (l2) (x24) (q23.1) (q23.2))))))))))
theorem f_X11_makeAlike_65_ok {G : Gd} {d : Nat} (hj : 3 ≤ d) : ∀ (n : Nat) (l0 : Nat) (l1 : Int32) (l2 : Int32) (l3 : Int32) (l4 : Int32) (L : List (Nat × Value)) (h : Hp) (o : Hp), zlk L 0 = some (zrf (l0)) → zlk L 1 = some (.int (l1)) → zlk L 2 = some (.int (l2)) → zlk L 3 = some (.int (l3)) → zlk L 4 = some (.int (l4)) → f_X11_makeAlike_65 n l0 l1 l2 l3 l4 h = some o → Ev G M_X11_makeAlike d 65 L [] h (Ret Y_X11_makeAlike none o) := by
  intro n
  induction n with
  | zero =>
    intro l0 l1 l2 l3 l4 L h o g0 g1 g2 g3 g4 e
    cases e
  | succ n ih =>
    intro l0 l1 l2 l3 l4 L h o g0 g1 g2 g3 g4 e
    unfold f_X11_makeAlike_65 at e
    refine r_iload d_X11_makeAlike_65 g4 ?_
    refine r_if_eq d_X11_makeAlike_67 (tgt := 105) (by decide) (fun c16 => ?_) (fun c16 => ?_)
    · replace e := (if_pos c16).symm.trans e
      obtain rfl := Option.some.inj e
      exact g_vret d_X11_makeAlike_105 rfl
    · replace e := (if_neg c16).symm.trans e
      refine r_iload_n d_X11_makeAlike_70 rfl g3 ?_
      refine g_ald_n d_X11_makeAlike_71 rfl g0 ?_
      replace e := ckd e
      obtain ⟨k17, e⟩ := e
      refine g_getR d_X11_makeAlike_72 (f := 1231) k17 fk_10_83 rfl rfl ?_
      refine r_iload_n d_X11_makeAlike_75 rfl g2 ?_
      replace e := ckd e
      obtain ⟨k18, e⟩ := e
      replace e := ckd e
      obtain ⟨k19, e⟩ := e
      refine g_iald d_X11_makeAlike_76 k18 k19 rfl ?_
      refine r_icmp_ge d_X11_makeAlike_77 (tgt := 105) (by decide) (fun c20 => ?_) (fun c20 => ?_)
      · replace e := (if_pos c20).symm.trans e
        obtain rfl := Option.some.inj e
        exact g_vret d_X11_makeAlike_105 rfl
      · replace e := (if_neg c20).symm.trans e
        refine g_ald_n d_X11_makeAlike_80 rfl g0 ?_
        refine r_iload_n d_X11_makeAlike_81 rfl g1 ?_
        refine g_ald_n d_X11_makeAlike_82 rfl g0 ?_
        refine g_getR d_X11_makeAlike_83 (f := 1230) k17 fk_10_80 rfl rfl ?_
        refine r_sipush d_X11_makeAlike_86 (v := (8192 : Int32)) (by decide +kernel) ?_
        refine r_iload_n d_X11_makeAlike_89 rfl g2 ?_
        refine r_imul d_X11_makeAlike_90 ?_
        refine r_iload_n d_X11_makeAlike_91 rfl g3 ?_
        refine r_iadd d_X11_makeAlike_92 ?_
        replace e := ckd e
        obtain ⟨k21, e⟩ := e
        replace e := ckd e
        obtain ⟨k22, e⟩ := e
        refine g_iald d_X11_makeAlike_93 k21 k22 rfl ?_
        replace e := bd e
        obtain ⟨q23, eq23, e⟩ := e
        refine g_callV d_X11_makeAlike_94 vk_10_251 (as := [_, _]) rfl k17 rfl (by simp [zrf_cat, cat_int, cat_long]) (j := 2) (by omega) (c_X11_write (by omega) eq23) ?_
        refine s_istore d_X11_makeAlike_97 (by decide) (fun L g4 gK => ?_)
        replace g0 := gK _ _ (by decide) (Or.inr (zrf_cat _)) g0
        replace g1 := gK _ _ (by decide) (Or.inr rfl) g1
        replace g2 := gK _ _ (by decide) (Or.inr rfl) g2
        replace g3 := gK _ _ (by decide) (Or.inr rfl) g3
        replace e := bhd e
        obtain ⟨_, rfl, e⟩ := e
        refine s_iinc d_X11_makeAlike_99 g3 (w := (1 : Int32)) (by decide +kernel) (by decide) (fun L g3 gK => ?_)
        replace g0 := gK _ _ (by decide) (Or.inr (zrf_cat _)) g0
        replace g1 := gK _ _ (by decide) (Or.inr rfl) g1
        replace g2 := gK _ _ (by decide) (Or.inr rfl) g2
        replace g4 := gK _ _ (by decide) (Or.inr rfl) g4
        refine r_goto d_X11_makeAlike_102 (tgt := 65) (by decide) ?_
        exact ih _ _ _ _ _ _ _ _ g0 g1 g2 g3 g4 e

def f_X11_makeAlike_55 (l0 : Nat) (l1 : Int32) (l2 : Int32) (l3 : Int32) (h : Hp) : Option Hp := ck (isO (h) (l0) 12) (ck (isO (h) (zR (h) 1231 (l0)) 22) (ck (inR (l1) (zL (h) (zR (h) 1231 (l0)))) (bh (pE (h) (zR (h) 1231 (l0)) (l1).toNatClampNeg (l3)) (fun h15 => f_X11_makeAlike_65 fz (l0) (l1) (l2) (l3) ((1 : Int32)) (h15)))))
theorem f_X11_makeAlike_55_ok {G : Gd} {d : Nat} (hj : 3 ≤ d) : ∀ (l0 : Nat) (l1 : Int32) (l2 : Int32) (l3 : Int32) (L : List (Nat × Value)) (h : Hp) (o : Hp), zlk L 0 = some (zrf (l0)) → zlk L 1 = some (.int (l1)) → zlk L 2 = some (.int (l2)) → zlk L 3 = some (.int (l3)) → f_X11_makeAlike_55 l0 l1 l2 l3 h = some o → Ev G M_X11_makeAlike d 55 L [] h (Ret Y_X11_makeAlike none o) := by
  intro l0 l1 l2 l3 L h o g0 g1 g2 g3 e
  unfold f_X11_makeAlike_55 at e
  refine g_ald_n d_X11_makeAlike_55 rfl g0 ?_
  replace e := ckd e
  obtain ⟨k12, e⟩ := e
  refine g_getR d_X11_makeAlike_56 (f := 1231) k12 fk_10_83 rfl rfl ?_
  refine r_iload_n d_X11_makeAlike_59 rfl g1 ?_
  refine r_iload_n d_X11_makeAlike_60 rfl g3 ?_
  replace e := ckd e
  obtain ⟨k13, e⟩ := e
  replace e := ckd e
  obtain ⟨k14, e⟩ := e
  refine g_iast d_X11_makeAlike_61 k13 k14 ?_
  replace e := bhd e
  obtain ⟨_, rfl, e⟩ := e
  refine r_iconst d_X11_makeAlike_62 (v := (1 : Int32)) (by decide +kernel) ?_
  refine s_istore d_X11_makeAlike_63 (by decide) (fun L g4 gK => ?_)
  replace g0 := gK _ _ (by decide) (Or.inr (zrf_cat _)) g0
  replace g1 := gK _ _ (by decide) (Or.inr rfl) g1
  replace g2 := gK _ _ (by decide) (Or.inr rfl) g2
  replace g3 := gK _ _ (by decide) (Or.inr rfl) g3
  exact f_X11_makeAlike_65_ok hj _ _ _ _ _ _ _ _ _ g0 g1 g2 g3 g4 e

def f_X11_makeAlike_2 : Nat → Nat → Int32 → Int32 → Int32 → Hp → Option Hp
  | 0, _, _, _, _, _ => none
  | n + 1, l0, l1, l2, l3, h => ck (isO (h) (l0) 12) (ck (isO (h) (zR (h) 1231 (l0)) 22) (ck (inR (l1) (zL (h) (zR (h) 1231 (l0)))) (if (zE (h) (zR (h) 1231 (l0)) (l1).toNatClampNeg) ≤ (l3) then (f_X11_makeAlike_55 (l0) (l1) (l2) (l3) (h)) else (ck (inR (l2) (zL (h) (zR (h) 1231 (l0)))) (if (zE (h) (zR (h) 1231 (l0)) (l2).toNatClampNeg) ≤ (l3) then (f_X11_makeAlike_55 (l0) (l1) (l2) (l3) (h)) else (ck (isO (h) (zR (h) 1230 (l0)) 22) (ck (inR ((((8192 : Int32)) * (l1)) + (l3)) (zL (h) (zR (h) 1230 (l0)))) (ck (inR ((((8192 : Int32)) * (l2)) + (l3)) (zL (h) (zR (h) 1230 (l0)))) (if (zE (h) (zR (h) 1230 (l0)) ((((8192 : Int32)) * (l1)) + (l3)).toNatClampNeg) = (zE (h) (zR (h) 1230 (l0)) ((((8192 : Int32)) * (l2)) + (l3)).toNatClampNeg) then (bh ((l3) + (1 : Int32)) (fun x11 => f_X11_makeAlike_2 n (l0) (l1) (l2) (x11) (h))) else (f_X11_makeAlike_55 (l0) (l1) (l2) (l3) (h)))))))))))
theorem f_X11_makeAlike_2_ok {G : Gd} {d : Nat} (hj : 3 ≤ d) : ∀ (n : Nat) (l0 : Nat) (l1 : Int32) (l2 : Int32) (l3 : Int32) (L : List (Nat × Value)) (h : Hp) (o : Hp), zlk L 0 = some (zrf (l0)) → zlk L 1 = some (.int (l1)) → zlk L 2 = some (.int (l2)) → zlk L 3 = some (.int (l3)) → f_X11_makeAlike_2 n l0 l1 l2 l3 h = some o → Ev G M_X11_makeAlike d 2 L [] h (Ret Y_X11_makeAlike none o) := by
  intro n
  induction n with
  | zero =>
    intro l0 l1 l2 l3 L h o g0 g1 g2 g3 e
    cases e
  | succ n ih =>
    intro l0 l1 l2 l3 L h o g0 g1 g2 g3 e
    unfold f_X11_makeAlike_2 at e
    refine r_iload_n d_X11_makeAlike_2 rfl g3 ?_
    refine g_ald_n d_X11_makeAlike_3 rfl g0 ?_
    replace e := ckd e
    obtain ⟨k1, e⟩ := e
    refine g_getR d_X11_makeAlike_4 (f := 1231) k1 fk_10_83 rfl rfl ?_
    refine r_iload_n d_X11_makeAlike_7 rfl g1 ?_
    replace e := ckd e
    obtain ⟨k2, e⟩ := e
    replace e := ckd e
    obtain ⟨k3, e⟩ := e
    refine g_iald d_X11_makeAlike_8 k2 k3 rfl ?_
    refine r_icmp_ge d_X11_makeAlike_9 (tgt := 55) (by decide) (fun c4 => ?_) (fun c4 => ?_)
    · replace e := (if_pos c4).symm.trans e
      exact f_X11_makeAlike_55_ok hj _ _ _ _ _ _ _ g0 g1 g2 g3 e
    · replace e := (if_neg c4).symm.trans e
      refine r_iload_n d_X11_makeAlike_12 rfl g3 ?_
      refine g_ald_n d_X11_makeAlike_13 rfl g0 ?_
      refine g_getR d_X11_makeAlike_14 (f := 1231) k1 fk_10_83 rfl rfl ?_
      refine r_iload_n d_X11_makeAlike_17 rfl g2 ?_
      replace e := ckd e
      obtain ⟨k5, e⟩ := e
      refine g_iald d_X11_makeAlike_18 k2 k5 rfl ?_
      refine r_icmp_ge d_X11_makeAlike_19 (tgt := 55) (by decide) (fun c6 => ?_) (fun c6 => ?_)
      · replace e := (if_pos c6).symm.trans e
        exact f_X11_makeAlike_55_ok hj _ _ _ _ _ _ _ g0 g1 g2 g3 e
      · replace e := (if_neg c6).symm.trans e
        refine g_ald_n d_X11_makeAlike_22 rfl g0 ?_
        refine g_getR d_X11_makeAlike_23 (f := 1230) k1 fk_10_80 rfl rfl ?_
        refine r_sipush d_X11_makeAlike_26 (v := (8192 : Int32)) (by decide +kernel) ?_
        refine r_iload_n d_X11_makeAlike_29 rfl g1 ?_
        refine r_imul d_X11_makeAlike_30 ?_
        refine r_iload_n d_X11_makeAlike_31 rfl g3 ?_
        refine r_iadd d_X11_makeAlike_32 ?_
        replace e := ckd e
        obtain ⟨k7, e⟩ := e
        replace e := ckd e
        obtain ⟨k8, e⟩ := e
        refine g_iald d_X11_makeAlike_33 k7 k8 rfl ?_
        refine g_ald_n d_X11_makeAlike_34 rfl g0 ?_
        refine g_getR d_X11_makeAlike_35 (f := 1230) k1 fk_10_80 rfl rfl ?_
        refine r_sipush d_X11_makeAlike_38 (v := (8192 : Int32)) (by decide +kernel) ?_
        refine r_iload_n d_X11_makeAlike_41 rfl g2 ?_
        refine r_imul d_X11_makeAlike_42 ?_
        refine r_iload_n d_X11_makeAlike_43 rfl g3 ?_
        refine r_iadd d_X11_makeAlike_44 ?_
        replace e := ckd e
        obtain ⟨k9, e⟩ := e
        refine g_iald d_X11_makeAlike_45 k7 k9 rfl ?_
        refine r_icmp_ne d_X11_makeAlike_46 (tgt := 55) (by decide) (fun c10 => ?_) (fun c10 => ?_)
        · replace e := (if_neg c10).symm.trans e
          exact f_X11_makeAlike_55_ok hj _ _ _ _ _ _ _ g0 g1 g2 g3 e
        · replace e := (if_pos c10).symm.trans e
          replace e := bhd e
          obtain ⟨_, rfl, e⟩ := e
          refine s_iinc d_X11_makeAlike_49 g3 (w := (1 : Int32)) (by decide +kernel) (by decide) (fun L g3 gK => ?_)
          replace g0 := gK _ _ (by decide) (Or.inr (zrf_cat _)) g0
          replace g1 := gK _ _ (by decide) (Or.inr rfl) g1
          replace g2 := gK _ _ (by decide) (Or.inr rfl) g2
          refine r_goto d_X11_makeAlike_52 (tgt := 2) (by decide) ?_
          exact ih _ _ _ _ _ _ _ g0 g1 g2 g3 e

def f_X11_makeAlike (l0 : Nat) (l1 : Int32) (l2 : Int32) (h : Hp) : Option Hp := f_X11_makeAlike_2 fz (l0) (l1) (l2) ((0 : Int32)) (h)
theorem f_X11_makeAlike_ok {G : Gd} {d : Nat} (hj : 3 ≤ d) : ∀ (l0 : Nat) (l1 : Int32) (l2 : Int32) (L : List (Nat × Value)) (h : Hp) (o : Hp), zlk L 0 = some (zrf (l0)) → zlk L 1 = some (.int (l1)) → zlk L 2 = some (.int (l2)) → f_X11_makeAlike l0 l1 l2 h = some o → Ev G M_X11_makeAlike d 0 L [] h (Ret Y_X11_makeAlike none o) := by
  intro l0 l1 l2 L h o g0 g1 g2 e
  unfold f_X11_makeAlike at e
  refine r_iconst d_X11_makeAlike_0 (v := (0 : Int32)) (by decide +kernel) ?_
  refine s_istore_n d_X11_makeAlike_1 rfl (by decide) (fun L g3 gK => ?_)
  replace g0 := gK _ _ (by decide) (Or.inr (zrf_cat _)) g0
  replace g1 := gK _ _ (by decide) (Or.inr rfl) g1
  replace g2 := gK _ _ (by decide) (Or.inr rfl) g2
  exact f_X11_makeAlike_2_ok hj _ _ _ _ _ _ _ _ g0 g1 g2 g3 e

theorem c_X11_makeAlike {G : Gd} {j : Nat} (hj : 3 ≤ j) {l0 : Nat} {l1 : Int32} {l2 : Int32} {h : Hp} {o : Hp} (e : f_X11_makeAlike l0 l1 l2 h = some o) : Cal G j Y_X11_makeAlike [zrf (l0), .int (l1), .int (l2)] h none o := Cal.of (n := 0) (I := false) (by first | exact Or.inl (by decide +kernel) | exact Or.inr (by decide +kernel)) (by decide) (by simp [lg_sl, zrf_cat, cat_int, cat_long]) (f_X11_makeAlike_ok hj _ _ _ _ h o (by simp [lv_args, zlk, zrf_cat, cat_int, cat_long]) (by simp [lv_args, zlk, zrf_cat, cat_int, cat_long]) (by simp [lv_args, zlk, zrf_cat, cat_int, cat_long]) e)
def f_X11_ups_33 (K4 : Nat → Int32 → Int32 → Int32 → Hp → Option (Int32 × Hp)) (s0 : Int32) (s1 : Int32) (l0 : Nat) (l1 : Int32) (l3 : Int32) (h : Hp) : Option (Int32 × Hp) := bh ((s0) + (s1)) (fun x8 => bh ((l3) + (1 : Int32)) (fun x9 => K4 (l0) (l1) (x8) (x9) (h)))
theorem f_X11_ups_33_ok {G : Gd} {d : Nat} (K4 : Nat → Int32 → Int32 → Int32 → Hp → Option (Int32 × Hp)) (hj : 1 ≤ d) (hK4 : ∀ (l0 : Nat) (l1 : Int32) (l2 : Int32) (l3 : Int32) (L : List (Nat × Value)) (h : Hp) (o : (Int32 × Hp)), zlk L 0 = some (zrf (l0)) → zlk L 1 = some (.int (l1)) → zlk L 2 = some (.int (l2)) → zlk L 3 = some (.int (l3)) → K4 l0 l1 l2 l3 h = some o → Ev G M_X11_ups d 4 L [] h (Ret Y_X11_ups (some (.int o.1)) o.2)) : ∀ (s0 : Int32) (s1 : Int32) (l0 : Nat) (l1 : Int32) (l3 : Int32) (L : List (Nat × Value)) (h : Hp) (o : (Int32 × Hp)), zlk L 0 = some (zrf (l0)) → zlk L 1 = some (.int (l1)) → zlk L 3 = some (.int (l3)) → f_X11_ups_33 K4 s0 s1 l0 l1 l3 h = some o → Ev G M_X11_ups d 33 L [.int (s1), .int (s0)] h (Ret Y_X11_ups (some (.int o.1)) o.2) := by
  intro s0 s1 l0 l1 l3 L h o g0 g1 g3 e
  unfold f_X11_ups_33 at e
  refine r_iadd d_X11_ups_33 ?_
  replace e := bhd e
  obtain ⟨_, rfl, e⟩ := e
  refine s_istore_n d_X11_ups_34 rfl (by decide) (fun L g2 gK => ?_)
  replace g0 := gK _ _ (by decide) (Or.inr (zrf_cat _)) g0
  replace g1 := gK _ _ (by decide) (Or.inr rfl) g1
  replace g3 := gK _ _ (by decide) (Or.inr rfl) g3
  replace e := bhd e
  obtain ⟨_, rfl, e⟩ := e
  refine s_iinc d_X11_ups_35 g3 (w := (1 : Int32)) (by decide +kernel) (by decide) (fun L g3 gK => ?_)
  replace g0 := gK _ _ (by decide) (Or.inr (zrf_cat _)) g0
  replace g1 := gK _ _ (by decide) (Or.inr rfl) g1
  replace g2 := gK _ _ (by decide) (Or.inr rfl) g2
  refine r_goto d_X11_ups_38 (tgt := 4) (by decide) ?_
  exact hK4 _ _ _ _ _ _ _ g0 g1 g2 g3 e

def f_X11_ups_4 : Nat → Nat → Int32 → Int32 → Int32 → Hp → Option (Int32 × Hp)
  | 0, _, _, _, _, _ => none
  | n + 1, l0, l1, l2, l3, h => ck (isO (h) (l0) 12) (ck (isO (h) (zR (h) 1236 (l0)) 22) (ck (inR (l1) (zL (h) (zR (h) 1236 (l0)))) (if (zE (h) (zR (h) 1236 (l0)) (l1).toNatClampNeg) ≤ (l3) then (some (l2, h)) else (ck (isO (h) (zR (h) 1234 (l0)) 23) (ck (inR ((((5 : Int32)) * (l1)) + (l3)) (zL (h) (zR (h) 1234 (l0)))) (if (zE (h) (zR (h) 1234 (l0)) ((((5 : Int32)) * (l1)) + (l3)).toNatClampNeg) = (0) then (f_X11_ups_33 (f_X11_ups_4 n) (l2) ((0 : Int32)) (l0) (l1) (l3) (h)) else (f_X11_ups_33 (f_X11_ups_4 n) (l2) ((1 : Int32)) (l0) (l1) (l3) (h))))))))
theorem f_X11_ups_4_ok {G : Gd} {d : Nat} (hj : 1 ≤ d) : ∀ (n : Nat) (l0 : Nat) (l1 : Int32) (l2 : Int32) (l3 : Int32) (L : List (Nat × Value)) (h : Hp) (o : (Int32 × Hp)), zlk L 0 = some (zrf (l0)) → zlk L 1 = some (.int (l1)) → zlk L 2 = some (.int (l2)) → zlk L 3 = some (.int (l3)) → f_X11_ups_4 n l0 l1 l2 l3 h = some o → Ev G M_X11_ups d 4 L [] h (Ret Y_X11_ups (some (.int o.1)) o.2) := by
  intro n
  induction n with
  | zero =>
    intro l0 l1 l2 l3 L h o g0 g1 g2 g3 e
    cases e
  | succ n ih =>
    intro l0 l1 l2 l3 L h o g0 g1 g2 g3 e
    unfold f_X11_ups_4 at e
    refine r_iload_n d_X11_ups_4 rfl g3 ?_
    refine g_ald_n d_X11_ups_5 rfl g0 ?_
    replace e := ckd e
    obtain ⟨k1, e⟩ := e
    refine g_getR d_X11_ups_6 (f := 1236) k1 fk_10_98 rfl rfl ?_
    refine r_iload_n d_X11_ups_9 rfl g1 ?_
    replace e := ckd e
    obtain ⟨k2, e⟩ := e
    replace e := ckd e
    obtain ⟨k3, e⟩ := e
    refine g_iald d_X11_ups_10 k2 k3 rfl ?_
    refine r_icmp_ge d_X11_ups_11 (tgt := 41) (by decide) (fun c4 => ?_) (fun c4 => ?_)
    · replace e := (if_pos c4).symm.trans e
      refine r_iload_n d_X11_ups_41 rfl g2 ?_
      obtain rfl := Option.some.inj e
      exact g_iret d_X11_ups_42 rfl rfl
    · replace e := (if_neg c4).symm.trans e
      refine r_iload_n d_X11_ups_14 rfl g2 ?_
      refine g_ald_n d_X11_ups_15 rfl g0 ?_
      refine g_getR d_X11_ups_16 (f := 1234) k1 fk_10_92 rfl rfl ?_
      refine r_iconst d_X11_ups_19 (v := (5 : Int32)) (by decide +kernel) ?_
      refine r_iload_n d_X11_ups_20 rfl g1 ?_
      refine r_imul d_X11_ups_21 ?_
      refine r_iload_n d_X11_ups_22 rfl g3 ?_
      refine r_iadd d_X11_ups_23 ?_
      replace e := ckd e
      obtain ⟨k5, e⟩ := e
      replace e := ckd e
      obtain ⟨k6, e⟩ := e
      refine g_zald d_X11_ups_24 k5 k6 rfl ?_
      refine r_if_eq d_X11_ups_25 (tgt := 32) (by decide) (fun c7 => ?_) (fun c7 => ?_)
      · replace e := (if_pos c7).symm.trans e
        refine r_iconst d_X11_ups_32 (v := (0 : Int32)) (by decide +kernel) ?_
        exact f_X11_ups_33_ok _ hj ih _ _ _ _ _ _ _ _ g0 g1 g3 e
      · replace e := (if_neg c7).symm.trans e
        refine r_iconst d_X11_ups_28 (v := (1 : Int32)) (by decide +kernel) ?_
        refine r_goto d_X11_ups_29 (tgt := 33) (by decide) ?_
        exact f_X11_ups_33_ok _ hj ih _ _ _ _ _ _ _ _ g0 g1 g3 e

def f_X11_ups (l0 : Nat) (l1 : Int32) (h : Hp) : Option (Int32 × Hp) := f_X11_ups_4 fz (l0) (l1) ((0 : Int32)) ((0 : Int32)) (h)
theorem f_X11_ups_ok {G : Gd} {d : Nat} (hj : 1 ≤ d) : ∀ (l0 : Nat) (l1 : Int32) (L : List (Nat × Value)) (h : Hp) (o : (Int32 × Hp)), zlk L 0 = some (zrf (l0)) → zlk L 1 = some (.int (l1)) → f_X11_ups l0 l1 h = some o → Ev G M_X11_ups d 0 L [] h (Ret Y_X11_ups (some (.int o.1)) o.2) := by
  intro l0 l1 L h o g0 g1 e
  unfold f_X11_ups at e
  refine r_iconst d_X11_ups_0 (v := (0 : Int32)) (by decide +kernel) ?_
  refine s_istore_n d_X11_ups_1 rfl (by decide) (fun L g2 gK => ?_)
  replace g0 := gK _ _ (by decide) (Or.inr (zrf_cat _)) g0
  replace g1 := gK _ _ (by decide) (Or.inr rfl) g1
  refine r_iconst d_X11_ups_2 (v := (0 : Int32)) (by decide +kernel) ?_
  refine s_istore_n d_X11_ups_3 rfl (by decide) (fun L g3 gK => ?_)
  replace g0 := gK _ _ (by decide) (Or.inr (zrf_cat _)) g0
  replace g1 := gK _ _ (by decide) (Or.inr rfl) g1
  replace g2 := gK _ _ (by decide) (Or.inr rfl) g2
  exact f_X11_ups_4_ok hj _ _ _ _ _ _ _ _ g0 g1 g2 g3 e

theorem c_X11_ups {G : Gd} {j : Nat} (hj : 1 ≤ j) {l0 : Nat} {l1 : Int32} {h : Hp} {o : (Int32 × Hp)} (e : f_X11_ups l0 l1 h = some o) : Cal G j Y_X11_ups [zrf (l0), .int (l1)] h (some (.int o.1)) o.2 := Cal.of (n := 0) (I := false) (by first | exact Or.inl (by decide +kernel) | exact Or.inr (by decide +kernel)) (by decide) (by simp [lg_sl, zrf_cat, cat_int, cat_long]) (f_X11_ups_ok hj _ _ _ h o (by simp [lv_args, zlk, zrf_cat, cat_int, cat_long]) (by simp [lv_args, zlk, zrf_cat, cat_int, cat_long]) e)
def f_X11_spread_69 (K21 : Nat → Int32 → Int32 → Int32 → Int32 → Int32 → Hp → Option (Int32 × Hp)) (l0 : Nat) (l1 : Int32) (l2 : Int32) (l3 : Int32) (l4 : Int32) (l5 : Int32) (h : Hp) : Option (Int32 × Hp) := bh ((l5) + (1 : Int32)) (fun x16 => K21 (l0) (l1) (l2) (l3) (l4) (x16) (h))
theorem f_X11_spread_69_ok {G : Gd} {d : Nat} (K21 : Nat → Int32 → Int32 → Int32 → Int32 → Int32 → Hp → Option (Int32 × Hp)) (hj : 3 ≤ d) (hK21 : ∀ (l0 : Nat) (l1 : Int32) (l2 : Int32) (l3 : Int32) (l4 : Int32) (l5 : Int32) (L : List (Nat × Value)) (h : Hp) (o : (Int32 × Hp)), zlk L 0 = some (zrf (l0)) → zlk L 1 = some (.int (l1)) → zlk L 2 = some (.int (l2)) → zlk L 3 = some (.int (l3)) → zlk L 4 = some (.int (l4)) → zlk L 5 = some (.int (l5)) → K21 l0 l1 l2 l3 l4 l5 h = some o → Ev G M_X11_spread d 21 L [] h (Ret Y_X11_spread (some (.int o.1)) o.2)) : ∀ (l0 : Nat) (l1 : Int32) (l2 : Int32) (l3 : Int32) (l4 : Int32) (l5 : Int32) (L : List (Nat × Value)) (h : Hp) (o : (Int32 × Hp)), zlk L 0 = some (zrf (l0)) → zlk L 1 = some (.int (l1)) → zlk L 2 = some (.int (l2)) → zlk L 3 = some (.int (l3)) → zlk L 4 = some (.int (l4)) → zlk L 5 = some (.int (l5)) → f_X11_spread_69 K21 l0 l1 l2 l3 l4 l5 h = some o → Ev G M_X11_spread d 69 L [] h (Ret Y_X11_spread (some (.int o.1)) o.2) := by
  intro l0 l1 l2 l3 l4 l5 L h o g0 g1 g2 g3 g4 g5 e
  unfold f_X11_spread_69 at e
  replace e := bhd e
  obtain ⟨_, rfl, e⟩ := e
  refine s_iinc d_X11_spread_69 g5 (w := (1 : Int32)) (by decide +kernel) (by decide) (fun L g5 gK => ?_)
  replace g0 := gK _ _ (by decide) (Or.inr (zrf_cat _)) g0
  replace g1 := gK _ _ (by decide) (Or.inr rfl) g1
  replace g2 := gK _ _ (by decide) (Or.inr rfl) g2
  replace g3 := gK _ _ (by decide) (Or.inr rfl) g3
  replace g4 := gK _ _ (by decide) (Or.inr rfl) g4
  refine r_goto d_X11_spread_72 (tgt := 21) (by decide) ?_
  exact hK21 _ _ _ _ _ _ _ _ _ g0 g1 g2 g3 g4 g5 e

def f_X11_spread_21 : Nat → Nat → Int32 → Int32 → Int32 → Int32 → Int32 → Hp → Option (Int32 × Hp)
  | 0, _, _, _, _, _, _, _ => none
  | n + 1, l0, l1, l2, l3, l4, l5, h => ck (isO (h) (l0) 12) (ck (isO (h) (zR (h) 1236 (l0)) 22) (ck (inR (l1) (zL (h) (zR (h) 1236 (l0)))) (if (zE (h) (zR (h) 1236 (l0)) (l1).toNatClampNeg) ≤ (l5) then (if (((2 : Int32)) * (l4)) ≤ (zE (h) (zR (h) 1236 (l0)) (l1).toNatClampNeg) then (some ((0 : Int32), h)) else (some ((1 : Int32), h))) else (if (l5) = (l2) then (f_X11_spread_69 (f_X11_spread_21 n) (l0) (l1) (l2) (l3) (l4) (l5) (h)) else (ck (isO (h) (zR (h) 1234 (l0)) 23) (ck (inR ((((5 : Int32)) * (l1)) + (l5)) (zL (h) (zR (h) 1234 (l0)))) (if (zE (h) (zR (h) 1234 (l0)) ((((5 : Int32)) * (l1)) + (l5)).toNatClampNeg) = (0) then (f_X11_spread_69 (f_X11_spread_21 n) (l0) (l1) (l2) (l3) (l4) (l5) (h)) else ((f_X11_write (l0) ((((5 : Int32)) * (l1)) + (l5)) (l3) (h)).bind (fun q13 => if (q13.1) = (0) then (f_X11_spread_69 (f_X11_spread_21 n) (l0) (l1) (l2) (l3) (l4) (l5) (q13.2)) else (bh ((l4) + (1 : Int32)) (fun x15 => f_X11_spread_69 (f_X11_spread_21 n) (l0) (l1) (l2) (l3) (x15) (l5) (q13.2))))))))))))
theorem f_X11_spread_21_ok {G : Gd} {d : Nat} (hj : 3 ≤ d) : ∀ (n : Nat) (l0 : Nat) (l1 : Int32) (l2 : Int32) (l3 : Int32) (l4 : Int32) (l5 : Int32) (L : List (Nat × Value)) (h : Hp) (o : (Int32 × Hp)), zlk L 0 = some (zrf (l0)) → zlk L 1 = some (.int (l1)) → zlk L 2 = some (.int (l2)) → zlk L 3 = some (.int (l3)) → zlk L 4 = some (.int (l4)) → zlk L 5 = some (.int (l5)) → f_X11_spread_21 n l0 l1 l2 l3 l4 l5 h = some o → Ev G M_X11_spread d 21 L [] h (Ret Y_X11_spread (some (.int o.1)) o.2) := by
  intro n
  induction n with
  | zero =>
    intro l0 l1 l2 l3 l4 l5 L h o g0 g1 g2 g3 g4 g5 e
    cases e
  | succ n ih =>
    intro l0 l1 l2 l3 l4 l5 L h o g0 g1 g2 g3 g4 g5 e
    unfold f_X11_spread_21 at e
    refine r_iload d_X11_spread_21 g5 ?_
    refine g_ald_n d_X11_spread_23 rfl g0 ?_
    replace e := ckd e
    obtain ⟨k4, e⟩ := e
    refine g_getR d_X11_spread_24 (f := 1236) k4 fk_10_98 rfl rfl ?_
    refine r_iload_n d_X11_spread_27 rfl g1 ?_
    replace e := ckd e
    obtain ⟨k5, e⟩ := e
    replace e := ckd e
    obtain ⟨k6, e⟩ := e
    refine g_iald d_X11_spread_28 k5 k6 rfl ?_
    refine r_icmp_ge d_X11_spread_29 (tgt := 75) (by decide) (fun c7 => ?_) (fun c7 => ?_)
    · replace e := (if_pos c7).symm.trans e
      refine r_iconst d_X11_spread_75 (v := (2 : Int32)) (by decide +kernel) ?_
      refine r_iload d_X11_spread_76 g4 ?_
      refine r_imul d_X11_spread_78 ?_
      refine g_ald_n d_X11_spread_79 rfl g0 ?_
      refine g_getR d_X11_spread_80 (f := 1236) k4 fk_10_98 rfl rfl ?_
      refine r_iload_n d_X11_spread_83 rfl g1 ?_
      refine g_iald d_X11_spread_84 k5 k6 rfl ?_
      refine r_icmp_le d_X11_spread_85 (tgt := 92) (by decide) (fun c8 => ?_) (fun c8 => ?_)
      · replace e := (if_pos c8).symm.trans e
        refine r_iconst d_X11_spread_92 (v := (0 : Int32)) (by decide +kernel) ?_
        obtain rfl := Option.some.inj e
        exact g_iret d_X11_spread_93 rfl rfl
      · replace e := (if_neg c8).symm.trans e
        refine r_iconst d_X11_spread_88 (v := (1 : Int32)) (by decide +kernel) ?_
        refine r_goto d_X11_spread_89 (tgt := 93) (by decide) ?_
        obtain rfl := Option.some.inj e
        exact g_iret d_X11_spread_93 rfl rfl
    · replace e := (if_neg c7).symm.trans e
      refine r_iload d_X11_spread_32 g5 ?_
      refine r_iload_n d_X11_spread_34 rfl g2 ?_
      refine r_icmp_eq d_X11_spread_35 (tgt := 69) (by decide) (fun c9 => ?_) (fun c9 => ?_)
      · replace e := (if_pos c9).symm.trans e
        exact f_X11_spread_69_ok _ hj ih _ _ _ _ _ _ _ _ _ g0 g1 g2 g3 g4 g5 e
      · replace e := (if_neg c9).symm.trans e
        refine g_ald_n d_X11_spread_38 rfl g0 ?_
        refine g_getR d_X11_spread_39 (f := 1234) k4 fk_10_92 rfl rfl ?_
        refine r_iconst d_X11_spread_42 (v := (5 : Int32)) (by decide +kernel) ?_
        refine r_iload_n d_X11_spread_43 rfl g1 ?_
        refine r_imul d_X11_spread_44 ?_
        refine r_iload d_X11_spread_45 g5 ?_
        refine r_iadd d_X11_spread_47 ?_
        replace e := ckd e
        obtain ⟨k10, e⟩ := e
        replace e := ckd e
        obtain ⟨k11, e⟩ := e
        refine g_zald d_X11_spread_48 k10 k11 rfl ?_
        refine r_if_eq d_X11_spread_49 (tgt := 69) (by decide) (fun c12 => ?_) (fun c12 => ?_)
        · replace e := (if_pos c12).symm.trans e
          exact f_X11_spread_69_ok _ hj ih _ _ _ _ _ _ _ _ _ g0 g1 g2 g3 g4 g5 e
        · replace e := (if_neg c12).symm.trans e
          refine g_ald_n d_X11_spread_52 rfl g0 ?_
          refine r_iconst d_X11_spread_53 (v := (5 : Int32)) (by decide +kernel) ?_
          refine r_iload_n d_X11_spread_54 rfl g1 ?_
          refine r_imul d_X11_spread_55 ?_
          refine r_iload d_X11_spread_56 g5 ?_
          refine r_iadd d_X11_spread_58 ?_
          refine r_iload_n d_X11_spread_59 rfl g3 ?_
          replace e := bd e
          obtain ⟨q13, eq13, e⟩ := e
          refine g_callV d_X11_spread_60 vk_10_251 (as := [_, _]) rfl k4 rfl (by simp [zrf_cat, cat_int, cat_long]) (j := 2) (by omega) (c_X11_write (by omega) eq13) ?_
          refine r_if_eq d_X11_spread_63 (tgt := 69) (by decide) (fun c14 => ?_) (fun c14 => ?_)
          · replace e := (if_pos c14).symm.trans e
            exact f_X11_spread_69_ok _ hj ih _ _ _ _ _ _ _ _ _ g0 g1 g2 g3 g4 g5 e
          · replace e := (if_neg c14).symm.trans e
            replace e := bhd e
            obtain ⟨_, rfl, e⟩ := e
            refine s_iinc d_X11_spread_66 g4 (w := (1 : Int32)) (by decide +kernel) (by decide) (fun L g4 gK => ?_)
            replace g0 := gK _ _ (by decide) (Or.inr (zrf_cat _)) g0
            replace g1 := gK _ _ (by decide) (Or.inr rfl) g1
            replace g2 := gK _ _ (by decide) (Or.inr rfl) g2
            replace g3 := gK _ _ (by decide) (Or.inr rfl) g3
            replace g5 := gK _ _ (by decide) (Or.inr rfl) g5
            exact f_X11_spread_69_ok _ hj ih _ _ _ _ _ _ _ _ _ g0 g1 g2 g3 g4 g5 e

def f_X11_spread (l0 : Nat) (l1 : Int32) (l2 : Int32) (l3 : Int32) (h : Hp) : Option (Int32 × Hp) := ck (isO (h) (l0) 12) ((f_X11_write (l0) ((((5 : Int32)) * (l1)) + (l2)) (l3) (h)).bind (fun q1 => if (q1.1) = (0) then (some ((0 : Int32), q1.2)) else (f_X11_spread_21 fz (l0) (l1) (l2) (l3) ((1 : Int32)) ((0 : Int32)) (q1.2))))
theorem f_X11_spread_ok {G : Gd} {d : Nat} (hj : 3 ≤ d) : ∀ (l0 : Nat) (l1 : Int32) (l2 : Int32) (l3 : Int32) (L : List (Nat × Value)) (h : Hp) (o : (Int32 × Hp)), zlk L 0 = some (zrf (l0)) → zlk L 1 = some (.int (l1)) → zlk L 2 = some (.int (l2)) → zlk L 3 = some (.int (l3)) → f_X11_spread l0 l1 l2 l3 h = some o → Ev G M_X11_spread d 0 L [] h (Ret Y_X11_spread (some (.int o.1)) o.2) := by
  intro l0 l1 l2 l3 L h o g0 g1 g2 g3 e
  unfold f_X11_spread at e
  refine g_ald_n d_X11_spread_0 rfl g0 ?_
  refine r_iconst d_X11_spread_1 (v := (5 : Int32)) (by decide +kernel) ?_
  refine r_iload_n d_X11_spread_2 rfl g1 ?_
  refine r_imul d_X11_spread_3 ?_
  refine r_iload_n d_X11_spread_4 rfl g2 ?_
  refine r_iadd d_X11_spread_5 ?_
  refine r_iload_n d_X11_spread_6 rfl g3 ?_
  replace e := ckd e
  obtain ⟨k2, e⟩ := e
  replace e := bd e
  obtain ⟨q1, eq1, e⟩ := e
  refine g_callV d_X11_spread_7 vk_10_251 (as := [_, _]) rfl k2 rfl (by simp [zrf_cat, cat_int, cat_long]) (j := 2) (by omega) (c_X11_write (by omega) eq1) ?_
  refine r_if_ne d_X11_spread_10 (tgt := 15) (by decide) (fun c3 => ?_) (fun c3 => ?_)
  · replace e := (if_neg c3).symm.trans e
    refine r_iconst d_X11_spread_15 (v := (1 : Int32)) (by decide +kernel) ?_
    refine s_istore d_X11_spread_16 (by decide) (fun L g4 gK => ?_)
    replace g0 := gK _ _ (by decide) (Or.inr (zrf_cat _)) g0
    replace g1 := gK _ _ (by decide) (Or.inr rfl) g1
    replace g2 := gK _ _ (by decide) (Or.inr rfl) g2
    replace g3 := gK _ _ (by decide) (Or.inr rfl) g3
    refine r_iconst d_X11_spread_18 (v := (0 : Int32)) (by decide +kernel) ?_
    refine s_istore d_X11_spread_19 (by decide) (fun L g5 gK => ?_)
    replace g0 := gK _ _ (by decide) (Or.inr (zrf_cat _)) g0
    replace g1 := gK _ _ (by decide) (Or.inr rfl) g1
    replace g2 := gK _ _ (by decide) (Or.inr rfl) g2
    replace g3 := gK _ _ (by decide) (Or.inr rfl) g3
    replace g4 := gK _ _ (by decide) (Or.inr rfl) g4
    exact f_X11_spread_21_ok hj _ _ _ _ _ _ _ _ _ _ g0 g1 g2 g3 g4 g5 e
  · replace e := (if_pos c3).symm.trans e
    refine r_iconst d_X11_spread_13 (v := (0 : Int32)) (by decide +kernel) ?_
    obtain rfl := Option.some.inj e
    exact g_iret d_X11_spread_14 rfl rfl

theorem c_X11_spread {G : Gd} {j : Nat} (hj : 3 ≤ j) {l0 : Nat} {l1 : Int32} {l2 : Int32} {l3 : Int32} {h : Hp} {o : (Int32 × Hp)} (e : f_X11_spread l0 l1 l2 l3 h = some o) : Cal G j Y_X11_spread [zrf (l0), .int (l1), .int (l2), .int (l3)] h (some (.int o.1)) o.2 := Cal.of (n := 0) (I := false) (by first | exact Or.inl (by decide +kernel) | exact Or.inr (by decide +kernel)) (by decide) (by simp [lg_sl, zrf_cat, cat_int, cat_long]) (f_X11_spread_ok hj _ _ _ _ _ h o (by simp [lv_args, zlk, zrf_cat, cat_int, cat_long]) (by simp [lv_args, zlk, zrf_cat, cat_int, cat_long]) (by simp [lv_args, zlk, zrf_cat, cat_int, cat_long]) (by simp [lv_args, zlk, zrf_cat, cat_int, cat_long]) e)
def f_X11_event (l0 : Nat) (l1 : Int32) (l2 : Int32) (h : Hp) : Option (Int32 × Hp) := ck (isO (h) (l0) 12) (ck (isO (h) (zR (h) 1240 (l0)) 22) (ck (inR ((((60 : Int32)) * (l1)) + (l2)) (zL (h) (zR (h) 1240 (l0)))) (some (zE (h) (zR (h) 1240 (l0)) ((((60 : Int32)) * (l1)) + (l2)).toNatClampNeg, h))))
theorem f_X11_event_ok {G : Gd} {d : Nat} (hj : 1 ≤ d) : ∀ (l0 : Nat) (l1 : Int32) (l2 : Int32) (L : List (Nat × Value)) (h : Hp) (o : (Int32 × Hp)), zlk L 0 = some (zrf (l0)) → zlk L 1 = some (.int (l1)) → zlk L 2 = some (.int (l2)) → f_X11_event l0 l1 l2 h = some o → Ev G M_X11_event d 0 L [] h (Ret Y_X11_event (some (.int o.1)) o.2) := by
  intro l0 l1 l2 L h o g0 g1 g2 e
  unfold f_X11_event at e
  refine g_ald_n d_X11_event_0 rfl g0 ?_
  replace e := ckd e
  obtain ⟨k1, e⟩ := e
  refine g_getR d_X11_event_1 (f := 1240) k1 fk_10_110 rfl rfl ?_
  refine r_bipush d_X11_event_4 (v := (60 : Int32)) (by decide +kernel) ?_
  refine r_iload_n d_X11_event_6 rfl g1 ?_
  refine r_imul d_X11_event_7 ?_
  refine r_iload_n d_X11_event_8 rfl g2 ?_
  refine r_iadd d_X11_event_9 ?_
  replace e := ckd e
  obtain ⟨k2, e⟩ := e
  replace e := ckd e
  obtain ⟨k3, e⟩ := e
  refine g_iald d_X11_event_10 k2 k3 rfl ?_
  obtain rfl := Option.some.inj e
  exact g_iret d_X11_event_11 rfl rfl

theorem c_X11_event {G : Gd} {j : Nat} (hj : 1 ≤ j) {l0 : Nat} {l1 : Int32} {l2 : Int32} {h : Hp} {o : (Int32 × Hp)} (e : f_X11_event l0 l1 l2 h = some o) : Cal G j Y_X11_event [zrf (l0), .int (l1), .int (l2)] h (some (.int o.1)) o.2 := Cal.of (n := 0) (I := false) (by first | exact Or.inl (by decide +kernel) | exact Or.inr (by decide +kernel)) (by decide) (by simp [lg_sl, zrf_cat, cat_int, cat_long]) (f_X11_event_ok hj _ _ _ _ h o (by simp [lv_args, zlk, zrf_cat, cat_int, cat_long]) (by simp [lv_args, zlk, zrf_cat, cat_int, cat_long]) (by simp [lv_args, zlk, zrf_cat, cat_int, cat_long]) e)
theorem vk_10_305 : Vk "TaskWeaveModel" 305 2 12 Y_X11_event := ⟨yk_X11_event, by decide +kernel, by decide +kernel, by decide +kernel, by decide⟩
theorem vk_10_286 : Vk "TaskWeaveModel" 286 1 12 Y_X11_kindOf := ⟨yk_X11_kindOf, by decide +kernel, by decide +kernel, by decide +kernel, by decide⟩
def f_X11_endOf_49 (K3 : Nat → Int32 → Int32 → Int32 → Int32 → Hp → Option (Int32 × Hp)) (l0 : Nat) (l1 : Int32) (l2 : Int32) (l3 : Int32) (l4 : Int32) (h : Hp) : Option (Int32 × Hp) := bh ((l4) + (1 : Int32)) (fun x14 => K3 (l0) (l1) (l2) (l3) (x14) (h))
theorem f_X11_endOf_49_ok {G : Gd} {d : Nat} (K3 : Nat → Int32 → Int32 → Int32 → Int32 → Hp → Option (Int32 × Hp)) (hj : 2 ≤ d) (hK3 : ∀ (l0 : Nat) (l1 : Int32) (l2 : Int32) (l3 : Int32) (l4 : Int32) (L : List (Nat × Value)) (h : Hp) (o : (Int32 × Hp)), zlk L 0 = some (zrf (l0)) → zlk L 1 = some (.int (l1)) → zlk L 2 = some (.int (l2)) → zlk L 3 = some (.int (l3)) → zlk L 4 = some (.int (l4)) → K3 l0 l1 l2 l3 l4 h = some o → Ev G M_X11_endOf d 3 L [] h (Ret Y_X11_endOf (some (.int o.1)) o.2)) : ∀ (l0 : Nat) (l1 : Int32) (l2 : Int32) (l3 : Int32) (l4 : Int32) (L : List (Nat × Value)) (h : Hp) (o : (Int32 × Hp)), zlk L 0 = some (zrf (l0)) → zlk L 1 = some (.int (l1)) → zlk L 2 = some (.int (l2)) → zlk L 3 = some (.int (l3)) → zlk L 4 = some (.int (l4)) → f_X11_endOf_49 K3 l0 l1 l2 l3 l4 h = some o → Ev G M_X11_endOf d 49 L [] h (Ret Y_X11_endOf (some (.int o.1)) o.2) := by
  intro l0 l1 l2 l3 l4 L h o g0 g1 g2 g3 g4 e
  unfold f_X11_endOf_49 at e
  replace e := bhd e
  obtain ⟨_, rfl, e⟩ := e
  refine s_iinc d_X11_endOf_49 g4 (w := (1 : Int32)) (by decide +kernel) (by decide) (fun L g4 gK => ?_)
  replace g0 := gK _ _ (by decide) (Or.inr (zrf_cat _)) g0
  replace g1 := gK _ _ (by decide) (Or.inr rfl) g1
  replace g2 := gK _ _ (by decide) (Or.inr rfl) g2
  replace g3 := gK _ _ (by decide) (Or.inr rfl) g3
  refine r_goto d_X11_endOf_52 (tgt := 3) (by decide) ?_
  exact hK3 _ _ _ _ _ _ _ _ g0 g1 g2 g3 g4 e

def f_X11_endOf_3 : Nat → Nat → Int32 → Int32 → Int32 → Int32 → Hp → Option (Int32 × Hp)
  | 0, _, _, _, _, _, _ => none
  | n + 1, l0, l1, l2, l3, l4, h => if (l3) ≤ (l4) then (some ((-1 : Int32), h)) else (ck (isO (h) (l0) 12) ((f_X11_event (l0) (l1) (l4) (h)).bind (fun q2 => ck (isO (q2.2) (l0) 12) ((f_X11_kindOf (l0) (q2.1) (q2.2)).bind (fun q4 => if (q4.1) = ((7 : Int32)) then (ck (isO (q4.2) (l0) 12) ((f_X11_event (l0) (l1) (l4) (q4.2)).bind (fun q8 => ck (isO (q8.2) (zR (q4.2) 1227 (l0)) 22) (ck (inR (q8.1) (zL (q8.2) (zR (q4.2) 1227 (l0)))) (if (zE (q8.2) (zR (q4.2) 1227 (l0)) (q8.1).toNatClampNeg) = (l2) then (ck (isO (q8.2) (l0) 12) ((f_X11_event (l0) (l1) (l4) (q8.2)).bind (fun q12 => some (q12.1, q12.2)))) else (f_X11_endOf_49 (f_X11_endOf_3 n) (l0) (l1) (l2) (l3) (l4) (q8.2))))))) else (f_X11_endOf_49 (f_X11_endOf_3 n) (l0) (l1) (l2) (l3) (l4) (q4.2)))))))
theorem f_X11_endOf_3_ok {G : Gd} {d : Nat} (hj : 2 ≤ d) : ∀ (n : Nat) (l0 : Nat) (l1 : Int32) (l2 : Int32) (l3 : Int32) (l4 : Int32) (L : List (Nat × Value)) (h : Hp) (o : (Int32 × Hp)), zlk L 0 = some (zrf (l0)) → zlk L 1 = some (.int (l1)) → zlk L 2 = some (.int (l2)) → zlk L 3 = some (.int (l3)) → zlk L 4 = some (.int (l4)) → f_X11_endOf_3 n l0 l1 l2 l3 l4 h = some o → Ev G M_X11_endOf d 3 L [] h (Ret Y_X11_endOf (some (.int o.1)) o.2) := by
  intro n
  induction n with
  | zero =>
    intro l0 l1 l2 l3 l4 L h o g0 g1 g2 g3 g4 e
    cases e
  | succ n ih =>
    intro l0 l1 l2 l3 l4 L h o g0 g1 g2 g3 g4 e
    unfold f_X11_endOf_3 at e
    refine r_iload d_X11_endOf_3 g4 ?_
    refine r_iload_n d_X11_endOf_5 rfl g3 ?_
    refine r_icmp_ge d_X11_endOf_6 (tgt := 55) (by decide) (fun c1 => ?_) (fun c1 => ?_)
    · replace e := (if_pos c1).symm.trans e
      refine r_iconst d_X11_endOf_55 (v := (-1 : Int32)) (by decide +kernel) ?_
      obtain rfl := Option.some.inj e
      exact g_iret d_X11_endOf_56 rfl rfl
    · replace e := (if_neg c1).symm.trans e
      refine g_ald_n d_X11_endOf_9 rfl g0 ?_
      refine g_ald_n d_X11_endOf_10 rfl g0 ?_
      refine r_iload_n d_X11_endOf_11 rfl g1 ?_
      refine r_iload d_X11_endOf_12 g4 ?_
      replace e := ckd e
      obtain ⟨k3, e⟩ := e
      replace e := bd e
      obtain ⟨q2, eq2, e⟩ := e
      refine g_callV d_X11_endOf_14 vk_10_305 (as := [_, _]) rfl k3 rfl (by simp [zrf_cat, cat_int, cat_long]) (j := 1) (by omega) (c_X11_event (by omega) eq2) ?_
      replace e := ckd e
      obtain ⟨k5, e⟩ := e
      replace e := bd e
      obtain ⟨q4, eq4, e⟩ := e
      refine g_callV d_X11_endOf_17 vk_10_286 (as := [_]) rfl k5 rfl (by simp [zrf_cat, cat_int, cat_long]) (j := 1) (by omega) (c_X11_kindOf (by omega) eq4) ?_
      refine r_bipush d_X11_endOf_20 (v := (7 : Int32)) (by decide +kernel) ?_
      refine r_icmp_ne d_X11_endOf_22 (tgt := 49) (by decide) (fun c6 => ?_) (fun c6 => ?_)
      · replace e := (if_neg c6).symm.trans e
        exact f_X11_endOf_49_ok _ hj ih _ _ _ _ _ _ _ _ g0 g1 g2 g3 g4 e
      · replace e := (if_pos c6).symm.trans e
        refine g_ald_n d_X11_endOf_25 rfl g0 ?_
        replace e := ckd e
        obtain ⟨k7, e⟩ := e
        refine g_getR d_X11_endOf_26 (f := 1227) k7 fk_10_70 rfl rfl ?_
        refine g_ald_n d_X11_endOf_29 rfl g0 ?_
        refine r_iload_n d_X11_endOf_30 rfl g1 ?_
        refine r_iload d_X11_endOf_31 g4 ?_
        replace e := bd e
        obtain ⟨q8, eq8, e⟩ := e
        refine g_callV d_X11_endOf_33 vk_10_305 (as := [_, _]) rfl k7 rfl (by simp [zrf_cat, cat_int, cat_long]) (j := 1) (by omega) (c_X11_event (by omega) eq8) ?_
        replace e := ckd e
        obtain ⟨k9, e⟩ := e
        replace e := ckd e
        obtain ⟨k10, e⟩ := e
        refine g_iald d_X11_endOf_36 k9 k10 rfl ?_
        refine r_iload_n d_X11_endOf_37 rfl g2 ?_
        refine r_icmp_ne d_X11_endOf_38 (tgt := 49) (by decide) (fun c11 => ?_) (fun c11 => ?_)
        · replace e := (if_neg c11).symm.trans e
          exact f_X11_endOf_49_ok _ hj ih _ _ _ _ _ _ _ _ g0 g1 g2 g3 g4 e
        · replace e := (if_pos c11).symm.trans e
          refine g_ald_n d_X11_endOf_41 rfl g0 ?_
          refine r_iload_n d_X11_endOf_42 rfl g1 ?_
          refine r_iload d_X11_endOf_43 g4 ?_
          replace e := ckd e
          obtain ⟨k13, e⟩ := e
          replace e := bd e
          obtain ⟨q12, eq12, e⟩ := e
          refine g_callV d_X11_endOf_45 vk_10_305 (as := [_, _]) rfl k13 rfl (by simp [zrf_cat, cat_int, cat_long]) (j := 1) (by omega) (c_X11_event (by omega) eq12) ?_
          obtain rfl := Option.some.inj e
          exact g_iret d_X11_endOf_48 rfl rfl

def f_X11_endOf (l0 : Nat) (l1 : Int32) (l2 : Int32) (l3 : Int32) (h : Hp) : Option (Int32 × Hp) := f_X11_endOf_3 fz (l0) (l1) (l2) (l3) ((0 : Int32)) (h)
theorem f_X11_endOf_ok {G : Gd} {d : Nat} (hj : 2 ≤ d) : ∀ (l0 : Nat) (l1 : Int32) (l2 : Int32) (l3 : Int32) (L : List (Nat × Value)) (h : Hp) (o : (Int32 × Hp)), zlk L 0 = some (zrf (l0)) → zlk L 1 = some (.int (l1)) → zlk L 2 = some (.int (l2)) → zlk L 3 = some (.int (l3)) → f_X11_endOf l0 l1 l2 l3 h = some o → Ev G M_X11_endOf d 0 L [] h (Ret Y_X11_endOf (some (.int o.1)) o.2) := by
  intro l0 l1 l2 l3 L h o g0 g1 g2 g3 e
  unfold f_X11_endOf at e
  refine r_iconst d_X11_endOf_0 (v := (0 : Int32)) (by decide +kernel) ?_
  refine s_istore d_X11_endOf_1 (by decide) (fun L g4 gK => ?_)
  replace g0 := gK _ _ (by decide) (Or.inr (zrf_cat _)) g0
  replace g1 := gK _ _ (by decide) (Or.inr rfl) g1
  replace g2 := gK _ _ (by decide) (Or.inr rfl) g2
  replace g3 := gK _ _ (by decide) (Or.inr rfl) g3
  exact f_X11_endOf_3_ok hj _ _ _ _ _ _ _ _ _ g0 g1 g2 g3 g4 e

theorem c_X11_endOf {G : Gd} {j : Nat} (hj : 2 ≤ j) {l0 : Nat} {l1 : Int32} {l2 : Int32} {l3 : Int32} {h : Hp} {o : (Int32 × Hp)} (e : f_X11_endOf l0 l1 l2 l3 h = some o) : Cal G j Y_X11_endOf [zrf (l0), .int (l1), .int (l2), .int (l3)] h (some (.int o.1)) o.2 := Cal.of (n := 0) (I := false) (by first | exact Or.inl (by decide +kernel) | exact Or.inr (by decide +kernel)) (by decide) (by simp [lg_sl, zrf_cat, cat_int, cat_long]) (f_X11_endOf_ok hj _ _ _ _ _ h o (by simp [lv_args, zlk, zrf_cat, cat_int, cat_long]) (by simp [lv_args, zlk, zrf_cat, cat_int, cat_long]) (by simp [lv_args, zlk, zrf_cat, cat_int, cat_long]) (by simp [lv_args, zlk, zrf_cat, cat_int, cat_long]) e)
def f_X11_hasEnded (l0 : Nat) (l1 : Int32) (l2 : Int32) (h : Hp) : Option Hp := ck (isO (h) (l0) 12) (ck (isO (h) (zR (h) 1243 (l0)) 22) (ck (inR (l1) (zL (h) (zR (h) 1243 (l0)))) (bh (pE (h) (zR (h) 1243 (l0)) (l1).toNatClampNeg ((4 : Int32))) (fun h4 => ck (isO (h4) (zR (h4) 1227 (l0)) 22) (ck (inR (l2) (zL (h4) (zR (h4) 1227 (l0)))) (ck (isO (h4) (zR (h4) 1244 (l0)) 22) (ck (inR (l1) (zL (h4) (zR (h4) 1244 (l0)))) (bh (pE (h4) (zR (h4) 1244 (l0)) (l1).toNatClampNeg (zE (h4) (zR (h4) 1227 (l0)) (l2).toNatClampNeg)) (fun h9 => some (h9))))))))))
theorem f_X11_hasEnded_ok {G : Gd} {d : Nat} (hj : 1 ≤ d) : ∀ (l0 : Nat) (l1 : Int32) (l2 : Int32) (L : List (Nat × Value)) (h : Hp) (o : Hp), zlk L 0 = some (zrf (l0)) → zlk L 1 = some (.int (l1)) → zlk L 2 = some (.int (l2)) → f_X11_hasEnded l0 l1 l2 h = some o → Ev G M_X11_hasEnded d 0 L [] h (Ret Y_X11_hasEnded none o) := by
  intro l0 l1 l2 L h o g0 g1 g2 e
  unfold f_X11_hasEnded at e
  refine g_ald_n d_X11_hasEnded_0 rfl g0 ?_
  replace e := ckd e
  obtain ⟨k1, e⟩ := e
  refine g_getR d_X11_hasEnded_1 (f := 1243) k1 fk_10_119 rfl rfl ?_
  refine r_iload_n d_X11_hasEnded_4 rfl g1 ?_
  refine r_iconst d_X11_hasEnded_5 (v := (4 : Int32)) (by decide +kernel) ?_
  replace e := ckd e
  obtain ⟨k2, e⟩ := e
  replace e := ckd e
  obtain ⟨k3, e⟩ := e
  refine g_iast d_X11_hasEnded_6 k2 k3 ?_
  replace e := bhd e
  obtain ⟨_, rfl, e⟩ := e
  refine g_ald_n d_X11_hasEnded_7 rfl g0 ?_
  refine g_getR d_X11_hasEnded_8 (f := 1244) (tO_pE k1) fk_10_122 rfl rfl ?_
  refine r_iload_n d_X11_hasEnded_11 rfl g1 ?_
  refine g_ald_n d_X11_hasEnded_12 rfl g0 ?_
  refine g_getR d_X11_hasEnded_13 (f := 1227) (tO_pE k1) fk_10_70 rfl rfl ?_
  refine r_iload_n d_X11_hasEnded_16 rfl g2 ?_
  replace e := ckd e
  obtain ⟨k5, e⟩ := e
  replace e := ckd e
  obtain ⟨k6, e⟩ := e
  refine g_iald d_X11_hasEnded_17 k5 k6 rfl ?_
  replace e := ckd e
  obtain ⟨k7, e⟩ := e
  replace e := ckd e
  obtain ⟨k8, e⟩ := e
  refine g_iast d_X11_hasEnded_18 k7 k8 ?_
  replace e := bhd e
  obtain ⟨_, rfl, e⟩ := e
  obtain rfl := Option.some.inj e
  exact g_vret d_X11_hasEnded_19 rfl

theorem c_X11_hasEnded {G : Gd} {j : Nat} (hj : 1 ≤ j) {l0 : Nat} {l1 : Int32} {l2 : Int32} {h : Hp} {o : Hp} (e : f_X11_hasEnded l0 l1 l2 h = some o) : Cal G j Y_X11_hasEnded [zrf (l0), .int (l1), .int (l2)] h none o := Cal.of (n := 0) (I := false) (by first | exact Or.inl (by decide +kernel) | exact Or.inr (by decide +kernel)) (by decide) (by simp [lg_sl, zrf_cat, cat_int, cat_long]) (f_X11_hasEnded_ok hj _ _ _ _ h o (by simp [lv_args, zlk, zrf_cat, cat_int, cat_long]) (by simp [lv_args, zlk, zrf_cat, cat_int, cat_long]) (by simp [lv_args, zlk, zrf_cat, cat_int, cat_long]) e)
theorem fk_10_327 : Fk "TaskWeaveModel" 327 1267 := ⟨by decide, by decide, by decide +kernel⟩
theorem fk_10_318 : Fk "TaskWeaveModel" 318 1264 := ⟨by decide, by decide, by decide +kernel⟩
theorem vk_10_336 : Vk "TaskWeaveModel" 336 2 12 Y_X11_hasEnded := ⟨yk_X11_hasEnded, by decide +kernel, by decide +kernel, by decide +kernel, by decide⟩
theorem fk_10_321 : Fk "TaskWeaveModel" 321 1265 := ⟨by decide, by decide, by decide +kernel⟩
def f_X11_waits_146 (K5 : Nat → Int32 → Int32 → Int32 → Int32 → Hp → Option Hp) (s0 : Int32) (l0 : Nat) (l1 : Int32) (l2 : Int32) (l3 : Int32) (l4 : Int32) (l5 : Int32) (h : Hp) : Option Hp := if (s0) = (0) then (K5 (l0) (l1) (l2) (l3) (l4) (h)) else (ck (isO (h) (l0) 12) (if (l2) = ((3 : Int32)) then (ck (isO (h) (zR (h) 1228 (l0)) 22) (ck (inR (l5) (zL (h) (zR (h) 1228 (l0)))) (ck (isO (h) (zR (h) 1245 (l0)) 22) (ck (inR ((((8 : Int32)) * (l1)) + (l4)) (zL (h) (zR (h) 1245 (l0)))) (bh (pE (h) (zR (h) 1245 (l0)) ((((8 : Int32)) * (l1)) + (l4)).toNatClampNeg (zE (h) (zR (h) 1228 (l0)) (l5).toNatClampNeg)) (fun h44 => if (l2) = ((2 : Int32)) then (bh (pI (h44) 1265 (l0) ((zI (h44) 1265 (l0)) + ((1 : Int32)))) (fun h46 => some (h46))) else (some (h44)))))))) else (ck (isO (h) (zR (h) 1227 (l0)) 22) (ck (inR (l5) (zL (h) (zR (h) 1227 (l0)))) (ck (isO (h) (zR (h) 1245 (l0)) 22) (ck (inR ((((8 : Int32)) * (l1)) + (l4)) (zL (h) (zR (h) 1245 (l0)))) (bh (pE (h) (zR (h) 1245 (l0)) ((((8 : Int32)) * (l1)) + (l4)).toNatClampNeg (zE (h) (zR (h) 1227 (l0)) (l5).toNatClampNeg)) (fun h37 => if (l2) = ((2 : Int32)) then (bh (pI (h37) 1265 (l0) ((zI (h37) 1265 (l0)) + ((1 : Int32)))) (fun h39 => some (h39))) else (some (h37))))))))))
theorem f_X11_waits_146_ok {G : Gd} {d : Nat} (K5 : Nat → Int32 → Int32 → Int32 → Int32 → Hp → Option Hp) (hj : 2 ≤ d) (hK5 : ∀ (l0 : Nat) (l1 : Int32) (l2 : Int32) (l3 : Int32) (l4 : Int32) (L : List (Nat × Value)) (h : Hp) (o : Hp), zlk L 0 = some (zrf (l0)) → zlk L 1 = some (.int (l1)) → zlk L 2 = some (.int (l2)) → zlk L 3 = some (.int (l3)) → zlk L 4 = some (.int (l4)) → K5 l0 l1 l2 l3 l4 h = some o → Ev G M_X11_waits d 5 L [] h (Ret Y_X11_waits none o)) : ∀ (s0 : Int32) (l0 : Nat) (l1 : Int32) (l2 : Int32) (l3 : Int32) (l4 : Int32) (l5 : Int32) (L : List (Nat × Value)) (h : Hp) (o : Hp), zlk L 0 = some (zrf (l0)) → zlk L 1 = some (.int (l1)) → zlk L 2 = some (.int (l2)) → zlk L 3 = some (.int (l3)) → zlk L 4 = some (.int (l4)) → zlk L 5 = some (.int (l5)) → f_X11_waits_146 K5 s0 l0 l1 l2 l3 l4 l5 h = some o → Ev G M_X11_waits d 146 L [.int (s0)] h (Ret Y_X11_waits none o) := by
  intro s0 l0 l1 l2 l3 l4 l5 L h o g0 g1 g2 g3 g4 g5 e
  unfold f_X11_waits_146 at e
  refine s_istore d_X11_waits_146 (by decide) (fun L g7 gK => ?_)
  replace g0 := gK _ _ (by decide) (Or.inr (zrf_cat _)) g0
  replace g1 := gK _ _ (by decide) (Or.inr rfl) g1
  replace g2 := gK _ _ (by decide) (Or.inr rfl) g2
  replace g3 := gK _ _ (by decide) (Or.inr rfl) g3
  replace g4 := gK _ _ (by decide) (Or.inr rfl) g4
  replace g5 := gK _ _ (by decide) (Or.inr rfl) g5
  refine r_iload d_X11_waits_148 g7 ?_
  refine r_if_ne d_X11_waits_150 (tgt := 156) (by decide) (fun c30 => ?_) (fun c30 => ?_)
  · replace e := (if_neg c30).symm.trans e
    refine g_ald_n d_X11_waits_156 rfl g0 ?_
    replace e := ckd e
    obtain ⟨k31, e⟩ := e
    refine g_getR d_X11_waits_157 (f := 1245) k31 fk_10_125 rfl rfl ?_
    refine r_bipush d_X11_waits_160 (v := (8 : Int32)) (by decide +kernel) ?_
    refine r_iload_n d_X11_waits_162 rfl g1 ?_
    refine r_imul d_X11_waits_163 ?_
    refine r_iload d_X11_waits_164 g4 ?_
    refine r_iadd d_X11_waits_166 ?_
    refine r_iload_n d_X11_waits_167 rfl g2 ?_
    refine r_iconst d_X11_waits_168 (v := (3 : Int32)) (by decide +kernel) ?_
    refine r_icmp_ne d_X11_waits_169 (tgt := 182) (by decide) (fun c32 => ?_) (fun c32 => ?_)
    · replace e := (if_neg c32).symm.trans e
      refine g_ald_n d_X11_waits_182 rfl g0 ?_
      refine g_getR d_X11_waits_183 (f := 1227) k31 fk_10_70 rfl rfl ?_
      refine r_iload d_X11_waits_186 g5 ?_
      replace e := ckd e
      obtain ⟨k33, e⟩ := e
      replace e := ckd e
      obtain ⟨k34, e⟩ := e
      refine g_iald d_X11_waits_188 k33 k34 rfl ?_
      replace e := ckd e
      obtain ⟨k35, e⟩ := e
      replace e := ckd e
      obtain ⟨k36, e⟩ := e
      refine g_iast d_X11_waits_189 k35 k36 ?_
      replace e := bhd e
      obtain ⟨_, rfl, e⟩ := e
      refine r_iload_n d_X11_waits_190 rfl g2 ?_
      refine r_iconst d_X11_waits_191 (v := (2 : Int32)) (by decide +kernel) ?_
      refine r_icmp_ne d_X11_waits_192 (tgt := 205) (by decide) (fun c38 => ?_) (fun c38 => ?_)
      · replace e := (if_neg c38).symm.trans e
        obtain rfl := Option.some.inj e
        exact g_vret d_X11_waits_205 rfl
      · replace e := (if_pos c38).symm.trans e
        refine g_ald_n d_X11_waits_195 rfl g0 ?_
        refine r_dup d_X11_waits_196 (zrf_cat _) ?_
        refine g_getI d_X11_waits_197 (f := 1265) (tO_pE k31) fk_10_321 rfl rfl ?_
        refine r_iconst d_X11_waits_200 (v := (1 : Int32)) (by decide +kernel) ?_
        refine r_iadd d_X11_waits_201 ?_
        refine g_putI d_X11_waits_202 (f := 1265) (tO_pE k31) fk_10_321 rfl (Or.inl rfl) ⟨rfl, rfl⟩ ?_
        replace e := bhd e
        obtain ⟨_, rfl, e⟩ := e
        obtain rfl := Option.some.inj e
        exact g_vret d_X11_waits_205 rfl
    · replace e := (if_pos c32).symm.trans e
      refine g_ald_n d_X11_waits_172 rfl g0 ?_
      refine g_getR d_X11_waits_173 (f := 1228) k31 fk_10_73 rfl rfl ?_
      refine r_iload d_X11_waits_176 g5 ?_
      replace e := ckd e
      obtain ⟨k40, e⟩ := e
      replace e := ckd e
      obtain ⟨k41, e⟩ := e
      refine g_iald d_X11_waits_178 k40 k41 rfl ?_
      refine r_goto d_X11_waits_179 (tgt := 189) (by decide) ?_
      replace e := ckd e
      obtain ⟨k42, e⟩ := e
      replace e := ckd e
      obtain ⟨k43, e⟩ := e
      refine g_iast d_X11_waits_189 k42 k43 ?_
      replace e := bhd e
      obtain ⟨_, rfl, e⟩ := e
      refine r_iload_n d_X11_waits_190 rfl g2 ?_
      refine r_iconst d_X11_waits_191 (v := (2 : Int32)) (by decide +kernel) ?_
      refine r_icmp_ne d_X11_waits_192 (tgt := 205) (by decide) (fun c45 => ?_) (fun c45 => ?_)
      · replace e := (if_neg c45).symm.trans e
        obtain rfl := Option.some.inj e
        exact g_vret d_X11_waits_205 rfl
      · replace e := (if_pos c45).symm.trans e
        refine g_ald_n d_X11_waits_195 rfl g0 ?_
        refine r_dup d_X11_waits_196 (zrf_cat _) ?_
        refine g_getI d_X11_waits_197 (f := 1265) (tO_pE k31) fk_10_321 rfl rfl ?_
        refine r_iconst d_X11_waits_200 (v := (1 : Int32)) (by decide +kernel) ?_
        refine r_iadd d_X11_waits_201 ?_
        refine g_putI d_X11_waits_202 (f := 1265) (tO_pE k31) fk_10_321 rfl (Or.inl rfl) ⟨rfl, rfl⟩ ?_
        replace e := bhd e
        obtain ⟨_, rfl, e⟩ := e
        obtain rfl := Option.some.inj e
        exact g_vret d_X11_waits_205 rfl
  · replace e := (if_pos c30).symm.trans e
    refine r_goto d_X11_waits_153 (tgt := 5) (by decide) ?_
    exact hK5 _ _ _ _ _ _ _ _ g0 g1 g2 g3 g4 e

def f_X11_waits_90 (K5 : Nat → Int32 → Int32 → Int32 → Int32 → Hp → Option Hp) (l0 : Nat) (l1 : Int32) (l2 : Int32) (l3 : Int32) (l4 : Int32) (l5 : Int32) (h : Hp) : Option Hp := f_X11_waits_146 K5 ((1 : Int32)) (l0) (l1) (l2) (l3) (l4) (l5) (h)
theorem f_X11_waits_90_ok {G : Gd} {d : Nat} (K5 : Nat → Int32 → Int32 → Int32 → Int32 → Hp → Option Hp) (hj : 2 ≤ d) (hK5 : ∀ (l0 : Nat) (l1 : Int32) (l2 : Int32) (l3 : Int32) (l4 : Int32) (L : List (Nat × Value)) (h : Hp) (o : Hp), zlk L 0 = some (zrf (l0)) → zlk L 1 = some (.int (l1)) → zlk L 2 = some (.int (l2)) → zlk L 3 = some (.int (l3)) → zlk L 4 = some (.int (l4)) → K5 l0 l1 l2 l3 l4 h = some o → Ev G M_X11_waits d 5 L [] h (Ret Y_X11_waits none o)) : ∀ (l0 : Nat) (l1 : Int32) (l2 : Int32) (l3 : Int32) (l4 : Int32) (l5 : Int32) (L : List (Nat × Value)) (h : Hp) (o : Hp), zlk L 0 = some (zrf (l0)) → zlk L 1 = some (.int (l1)) → zlk L 2 = some (.int (l2)) → zlk L 3 = some (.int (l3)) → zlk L 4 = some (.int (l4)) → zlk L 5 = some (.int (l5)) → f_X11_waits_90 K5 l0 l1 l2 l3 l4 l5 h = some o → Ev G M_X11_waits d 90 L [] h (Ret Y_X11_waits none o) := by
  intro l0 l1 l2 l3 l4 l5 L h o g0 g1 g2 g3 g4 g5 e
  unfold f_X11_waits_90 at e
  refine r_iconst d_X11_waits_90 (v := (1 : Int32)) (by decide +kernel) ?_
  refine r_goto d_X11_waits_91 (tgt := 146) (by decide) ?_
  exact f_X11_waits_146_ok _ hj hK5 _ _ _ _ _ _ _ _ _ _ g0 g1 g2 g3 g4 g5 e

def f_X11_waits_145 (K5 : Nat → Int32 → Int32 → Int32 → Int32 → Hp → Option Hp) (l0 : Nat) (l1 : Int32) (l2 : Int32) (l3 : Int32) (l4 : Int32) (l5 : Int32) (h : Hp) : Option Hp := f_X11_waits_146 K5 ((0 : Int32)) (l0) (l1) (l2) (l3) (l4) (l5) (h)
theorem f_X11_waits_145_ok {G : Gd} {d : Nat} (K5 : Nat → Int32 → Int32 → Int32 → Int32 → Hp → Option Hp) (hj : 2 ≤ d) (hK5 : ∀ (l0 : Nat) (l1 : Int32) (l2 : Int32) (l3 : Int32) (l4 : Int32) (L : List (Nat × Value)) (h : Hp) (o : Hp), zlk L 0 = some (zrf (l0)) → zlk L 1 = some (.int (l1)) → zlk L 2 = some (.int (l2)) → zlk L 3 = some (.int (l3)) → zlk L 4 = some (.int (l4)) → K5 l0 l1 l2 l3 l4 h = some o → Ev G M_X11_waits d 5 L [] h (Ret Y_X11_waits none o)) : ∀ (l0 : Nat) (l1 : Int32) (l2 : Int32) (l3 : Int32) (l4 : Int32) (l5 : Int32) (L : List (Nat × Value)) (h : Hp) (o : Hp), zlk L 0 = some (zrf (l0)) → zlk L 1 = some (.int (l1)) → zlk L 2 = some (.int (l2)) → zlk L 3 = some (.int (l3)) → zlk L 4 = some (.int (l4)) → zlk L 5 = some (.int (l5)) → f_X11_waits_145 K5 l0 l1 l2 l3 l4 l5 h = some o → Ev G M_X11_waits d 145 L [] h (Ret Y_X11_waits none o) := by
  intro l0 l1 l2 l3 l4 l5 L h o g0 g1 g2 g3 g4 g5 e
  unfold f_X11_waits_145 at e
  refine r_iconst d_X11_waits_145 (v := (0 : Int32)) (by decide +kernel) ?_
  exact f_X11_waits_146_ok _ hj hK5 _ _ _ _ _ _ _ _ _ _ g0 g1 g2 g3 g4 g5 e

def f_X11_waits_74 (K5 : Nat → Int32 → Int32 → Int32 → Int32 → Hp → Option Hp) (l0 : Nat) (l1 : Int32) (l2 : Int32) (l3 : Int32) (l4 : Int32) (l5 : Int32) (l6 : Int32) (h : Hp) : Option Hp := if (l2) = (0) then (if (l6) = ((2 : Int32)) then (f_X11_waits_90 K5 (l0) (l1) (l2) (l3) (l4) (l5) (h)) else (if (l6) = ((3 : Int32)) then (f_X11_waits_90 K5 (l0) (l1) (l2) (l3) (l4) (l5) (h)) else (f_X11_waits_146 K5 ((0 : Int32)) (l0) (l1) (l2) (l3) (l4) (l5) (h)))) else (if (l2) = ((2 : Int32)) then (if (l6) = ((8 : Int32)) then (f_X11_waits_146 K5 ((1 : Int32)) (l0) (l1) (l2) (l3) (l4) (l5) (h)) else (f_X11_waits_146 K5 ((0 : Int32)) (l0) (l1) (l2) (l3) (l4) (l5) (h))) else (if (l2) = ((3 : Int32)) then (if (l6) = ((7 : Int32)) then (ck (isO (h) (l0) 12) (ck (isO (h) (zR (h) 1227 (l0)) 22) (ck (inR (l5) (zL (h) (zR (h) 1227 (l0)))) (if (zE (h) (zR (h) 1227 (l0)) (l5).toNatClampNeg) = (l3) then (f_X11_waits_146 K5 ((1 : Int32)) (l0) (l1) (l2) (l3) (l4) (l5) (h)) else (f_X11_waits_145 K5 (l0) (l1) (l2) (l3) (l4) (l5) (h)))))) else (f_X11_waits_145 K5 (l0) (l1) (l2) (l3) (l4) (l5) (h))) else (f_X11_waits_145 K5 (l0) (l1) (l2) (l3) (l4) (l5) (h))))
theorem f_X11_waits_74_ok {G : Gd} {d : Nat} (K5 : Nat → Int32 → Int32 → Int32 → Int32 → Hp → Option Hp) (hj : 2 ≤ d) (hK5 : ∀ (l0 : Nat) (l1 : Int32) (l2 : Int32) (l3 : Int32) (l4 : Int32) (L : List (Nat × Value)) (h : Hp) (o : Hp), zlk L 0 = some (zrf (l0)) → zlk L 1 = some (.int (l1)) → zlk L 2 = some (.int (l2)) → zlk L 3 = some (.int (l3)) → zlk L 4 = some (.int (l4)) → K5 l0 l1 l2 l3 l4 h = some o → Ev G M_X11_waits d 5 L [] h (Ret Y_X11_waits none o)) : ∀ (l0 : Nat) (l1 : Int32) (l2 : Int32) (l3 : Int32) (l4 : Int32) (l5 : Int32) (l6 : Int32) (L : List (Nat × Value)) (h : Hp) (o : Hp), zlk L 0 = some (zrf (l0)) → zlk L 1 = some (.int (l1)) → zlk L 2 = some (.int (l2)) → zlk L 3 = some (.int (l3)) → zlk L 4 = some (.int (l4)) → zlk L 5 = some (.int (l5)) → zlk L 6 = some (.int (l6)) → f_X11_waits_74 K5 l0 l1 l2 l3 l4 l5 l6 h = some o → Ev G M_X11_waits d 74 L [] h (Ret Y_X11_waits none o) := by
  intro l0 l1 l2 l3 l4 l5 l6 L h o g0 g1 g2 g3 g4 g5 g6 e
  unfold f_X11_waits_74 at e
  refine r_iload_n d_X11_waits_74 rfl g2 ?_
  refine r_if_ne d_X11_waits_75 (tgt := 98) (by decide) (fun c19 => ?_) (fun c19 => ?_)
  · replace e := (if_neg c19).symm.trans e
    refine r_iload_n d_X11_waits_98 rfl g2 ?_
    refine r_iconst d_X11_waits_99 (v := (2 : Int32)) (by decide +kernel) ?_
    refine r_icmp_ne d_X11_waits_100 (tgt := 118) (by decide) (fun c20 => ?_) (fun c20 => ?_)
    · replace e := (if_neg c20).symm.trans e
      refine r_iload_n d_X11_waits_118 rfl g2 ?_
      refine r_iconst d_X11_waits_119 (v := (3 : Int32)) (by decide +kernel) ?_
      refine r_icmp_ne d_X11_waits_120 (tgt := 145) (by decide) (fun c21 => ?_) (fun c21 => ?_)
      · replace e := (if_neg c21).symm.trans e
        exact f_X11_waits_145_ok _ hj hK5 _ _ _ _ _ _ _ _ _ g0 g1 g2 g3 g4 g5 e
      · replace e := (if_pos c21).symm.trans e
        refine r_iload d_X11_waits_123 g6 ?_
        refine r_bipush d_X11_waits_125 (v := (7 : Int32)) (by decide +kernel) ?_
        refine r_icmp_ne d_X11_waits_127 (tgt := 145) (by decide) (fun c22 => ?_) (fun c22 => ?_)
        · replace e := (if_neg c22).symm.trans e
          exact f_X11_waits_145_ok _ hj hK5 _ _ _ _ _ _ _ _ _ g0 g1 g2 g3 g4 g5 e
        · replace e := (if_pos c22).symm.trans e
          refine g_ald_n d_X11_waits_130 rfl g0 ?_
          replace e := ckd e
          obtain ⟨k23, e⟩ := e
          refine g_getR d_X11_waits_131 (f := 1227) k23 fk_10_70 rfl rfl ?_
          refine r_iload d_X11_waits_134 g5 ?_
          replace e := ckd e
          obtain ⟨k24, e⟩ := e
          replace e := ckd e
          obtain ⟨k25, e⟩ := e
          refine g_iald d_X11_waits_136 k24 k25 rfl ?_
          refine r_iload_n d_X11_waits_137 rfl g3 ?_
          refine r_icmp_ne d_X11_waits_138 (tgt := 145) (by decide) (fun c26 => ?_) (fun c26 => ?_)
          · replace e := (if_neg c26).symm.trans e
            exact f_X11_waits_145_ok _ hj hK5 _ _ _ _ _ _ _ _ _ g0 g1 g2 g3 g4 g5 e
          · replace e := (if_pos c26).symm.trans e
            refine r_iconst d_X11_waits_141 (v := (1 : Int32)) (by decide +kernel) ?_
            refine r_goto d_X11_waits_142 (tgt := 146) (by decide) ?_
            exact f_X11_waits_146_ok _ hj hK5 _ _ _ _ _ _ _ _ _ _ g0 g1 g2 g3 g4 g5 e
    · replace e := (if_pos c20).symm.trans e
      refine r_iload d_X11_waits_103 g6 ?_
      refine r_bipush d_X11_waits_105 (v := (8 : Int32)) (by decide +kernel) ?_
      refine r_icmp_ne d_X11_waits_107 (tgt := 114) (by decide) (fun c27 => ?_) (fun c27 => ?_)
      · replace e := (if_neg c27).symm.trans e
        refine r_iconst d_X11_waits_114 (v := (0 : Int32)) (by decide +kernel) ?_
        refine r_goto d_X11_waits_115 (tgt := 146) (by decide) ?_
        exact f_X11_waits_146_ok _ hj hK5 _ _ _ _ _ _ _ _ _ _ g0 g1 g2 g3 g4 g5 e
      · replace e := (if_pos c27).symm.trans e
        refine r_iconst d_X11_waits_110 (v := (1 : Int32)) (by decide +kernel) ?_
        refine r_goto d_X11_waits_111 (tgt := 146) (by decide) ?_
        exact f_X11_waits_146_ok _ hj hK5 _ _ _ _ _ _ _ _ _ _ g0 g1 g2 g3 g4 g5 e
  · replace e := (if_pos c19).symm.trans e
    refine r_iload d_X11_waits_78 g6 ?_
    refine r_iconst d_X11_waits_80 (v := (2 : Int32)) (by decide +kernel) ?_
    refine r_icmp_eq d_X11_waits_81 (tgt := 90) (by decide) (fun c28 => ?_) (fun c28 => ?_)
    · replace e := (if_pos c28).symm.trans e
      exact f_X11_waits_90_ok _ hj hK5 _ _ _ _ _ _ _ _ _ g0 g1 g2 g3 g4 g5 e
    · replace e := (if_neg c28).symm.trans e
      refine r_iload d_X11_waits_84 g6 ?_
      refine r_iconst d_X11_waits_86 (v := (3 : Int32)) (by decide +kernel) ?_
      refine r_icmp_ne d_X11_waits_87 (tgt := 94) (by decide) (fun c29 => ?_) (fun c29 => ?_)
      · replace e := (if_neg c29).symm.trans e
        refine r_iconst d_X11_waits_94 (v := (0 : Int32)) (by decide +kernel) ?_
        refine r_goto d_X11_waits_95 (tgt := 146) (by decide) ?_
        exact f_X11_waits_146_ok _ hj hK5 _ _ _ _ _ _ _ _ _ _ g0 g1 g2 g3 g4 g5 e
      · replace e := (if_pos c29).symm.trans e
        exact f_X11_waits_90_ok _ hj hK5 _ _ _ _ _ _ _ _ _ g0 g1 g2 g3 g4 g5 e

def f_X11_waits_5 : Nat → Nat → Int32 → Int32 → Int32 → Int32 → Hp → Option Hp
  | 0, _, _, _, _, _, _ => none
  | n + 1, l0, l1, l2, l3, l4, h => ck (isO (h) (l0) 12) (ck (isO (h) (zR (h) 1241 (l0)) 22) (ck (inR (l1) (zL (h) (zR (h) 1241 (l0)))) (if (zE (h) (zR (h) 1241 (l0)) (l1).toNatClampNeg) ≤ (zI (h) 1264 (l0)) then (ck (isO (h) (zR (h) 1243 (l0)) 22) (ck (inR (l1) (zL (h) (zR (h) 1243 (l0)))) (bh (pE (h) (zR (h) 1243 (l0)) (l1).toNatClampNeg (l2)) (fun h9 => some (h9))))) else ((f_X11_event (l0) (l1) (zI (h) 1264 (l0)) (h)).bind (fun q10 => ck (isO (q10.2) (l0) 12) ((f_X11_kindOf (l0) (q10.1) (q10.2)).bind (fun q11 => ck (isO (q11.2) (l0) 12) (bh (pI (q11.2) 1264 (l0) ((zI (q11.2) 1264 (l0)) + ((1 : Int32)))) (fun h14 => if (q11.1) < ((10 : Int32)) then (if (l2) = ((1 : Int32)) then (if (q11.1) = ((5 : Int32)) then (some (h14)) else (f_X11_waits_74 (f_X11_waits_5 n) (l0) (l1) (l2) (l3) (l4) (q10.1) (q11.1) (h14))) else (f_X11_waits_74 (f_X11_waits_5 n) (l0) (l1) (l2) (l3) (l4) (q10.1) (q11.1) (h14))) else ((f_X11_hasEnded (l0) (l1) (q10.1) (h14)).bind (fun q18 => some (q18))))))))))))
theorem f_X11_waits_5_ok {G : Gd} {d : Nat} (hj : 2 ≤ d) : ∀ (n : Nat) (l0 : Nat) (l1 : Int32) (l2 : Int32) (l3 : Int32) (l4 : Int32) (L : List (Nat × Value)) (h : Hp) (o : Hp), zlk L 0 = some (zrf (l0)) → zlk L 1 = some (.int (l1)) → zlk L 2 = some (.int (l2)) → zlk L 3 = some (.int (l3)) → zlk L 4 = some (.int (l4)) → f_X11_waits_5 n l0 l1 l2 l3 l4 h = some o → Ev G M_X11_waits d 5 L [] h (Ret Y_X11_waits none o) := by
  intro n
  induction n with
  | zero =>
    intro l0 l1 l2 l3 l4 L h o g0 g1 g2 g3 g4 e
    cases e
  | succ n ih =>
    intro l0 l1 l2 l3 l4 L h o g0 g1 g2 g3 g4 e
    unfold f_X11_waits_5 at e
    refine g_ald_n d_X11_waits_5 rfl g0 ?_
    replace e := ckd e
    obtain ⟨k3, e⟩ := e
    refine g_getI d_X11_waits_6 (f := 1264) k3 fk_10_318 rfl rfl ?_
    refine g_ald_n d_X11_waits_9 rfl g0 ?_
    refine g_getR d_X11_waits_10 (f := 1241) k3 fk_10_113 rfl rfl ?_
    refine r_iload_n d_X11_waits_13 rfl g1 ?_
    replace e := ckd e
    obtain ⟨k4, e⟩ := e
    replace e := ckd e
    obtain ⟨k5, e⟩ := e
    refine g_iald d_X11_waits_14 k4 k5 rfl ?_
    refine r_icmp_ge d_X11_waits_15 (tgt := 206) (by decide) (fun c6 => ?_) (fun c6 => ?_)
    · replace e := (if_pos c6).symm.trans e
      refine g_ald_n d_X11_waits_206 rfl g0 ?_
      refine g_getR d_X11_waits_207 (f := 1243) k3 fk_10_119 rfl rfl ?_
      refine r_iload_n d_X11_waits_210 rfl g1 ?_
      refine r_iload_n d_X11_waits_211 rfl g2 ?_
      replace e := ckd e
      obtain ⟨k7, e⟩ := e
      replace e := ckd e
      obtain ⟨k8, e⟩ := e
      refine g_iast d_X11_waits_212 k7 k8 ?_
      replace e := bhd e
      obtain ⟨_, rfl, e⟩ := e
      obtain rfl := Option.some.inj e
      exact g_vret d_X11_waits_213 rfl
    · replace e := (if_neg c6).symm.trans e
      refine g_ald_n d_X11_waits_18 rfl g0 ?_
      refine r_iload_n d_X11_waits_19 rfl g1 ?_
      refine g_ald_n d_X11_waits_20 rfl g0 ?_
      refine g_getI d_X11_waits_21 (f := 1264) k3 fk_10_318 rfl rfl ?_
      replace e := bd e
      obtain ⟨q10, eq10, e⟩ := e
      refine g_callV d_X11_waits_24 vk_10_305 (as := [_, _]) rfl k3 rfl (by simp [zrf_cat, cat_int, cat_long]) (j := 1) (by omega) (c_X11_event (by omega) eq10) ?_
      refine s_istore d_X11_waits_27 (by decide) (fun L g5 gK => ?_)
      replace g0 := gK _ _ (by decide) (Or.inr (zrf_cat _)) g0
      replace g1 := gK _ _ (by decide) (Or.inr rfl) g1
      replace g2 := gK _ _ (by decide) (Or.inr rfl) g2
      replace g3 := gK _ _ (by decide) (Or.inr rfl) g3
      replace g4 := gK _ _ (by decide) (Or.inr rfl) g4
      refine g_ald_n d_X11_waits_29 rfl g0 ?_
      refine r_iload d_X11_waits_30 g5 ?_
      replace e := ckd e
      obtain ⟨k12, e⟩ := e
      replace e := bd e
      obtain ⟨q11, eq11, e⟩ := e
      refine g_callV d_X11_waits_32 vk_10_286 (as := [_]) rfl k12 rfl (by simp [zrf_cat, cat_int, cat_long]) (j := 1) (by omega) (c_X11_kindOf (by omega) eq11) ?_
      refine s_istore d_X11_waits_35 (by decide) (fun L g6 gK => ?_)
      replace g0 := gK _ _ (by decide) (Or.inr (zrf_cat _)) g0
      replace g1 := gK _ _ (by decide) (Or.inr rfl) g1
      replace g2 := gK _ _ (by decide) (Or.inr rfl) g2
      replace g3 := gK _ _ (by decide) (Or.inr rfl) g3
      replace g4 := gK _ _ (by decide) (Or.inr rfl) g4
      replace g5 := gK _ _ (by decide) (Or.inr rfl) g5
      refine g_ald_n d_X11_waits_37 rfl g0 ?_
      refine r_dup d_X11_waits_38 (zrf_cat _) ?_
      replace e := ckd e
      obtain ⟨k13, e⟩ := e
      refine g_getI d_X11_waits_39 (f := 1264) k13 fk_10_318 rfl rfl ?_
      refine r_iconst d_X11_waits_42 (v := (1 : Int32)) (by decide +kernel) ?_
      refine r_iadd d_X11_waits_43 ?_
      refine g_putI d_X11_waits_44 (f := 1264) k13 fk_10_318 rfl (Or.inl rfl) ⟨rfl, rfl⟩ ?_
      replace e := bhd e
      obtain ⟨_, rfl, e⟩ := e
      refine r_iload d_X11_waits_47 g6 ?_
      refine r_bipush d_X11_waits_49 (v := (10 : Int32)) (by decide +kernel) ?_
      refine r_icmp_lt d_X11_waits_51 (tgt := 62) (by decide) (fun c15 => ?_) (fun c15 => ?_)
      · replace e := (if_pos c15).symm.trans e
        refine r_iload_n d_X11_waits_62 rfl g2 ?_
        refine r_iconst d_X11_waits_63 (v := (1 : Int32)) (by decide +kernel) ?_
        refine r_icmp_ne d_X11_waits_64 (tgt := 74) (by decide) (fun c16 => ?_) (fun c16 => ?_)
        · replace e := (if_neg c16).symm.trans e
          exact f_X11_waits_74_ok _ hj ih _ _ _ _ _ _ _ _ _ _ g0 g1 g2 g3 g4 g5 g6 e
        · replace e := (if_pos c16).symm.trans e
          refine r_iload d_X11_waits_67 g6 ?_
          refine r_iconst d_X11_waits_69 (v := (5 : Int32)) (by decide +kernel) ?_
          refine r_icmp_ne d_X11_waits_70 (tgt := 74) (by decide) (fun c17 => ?_) (fun c17 => ?_)
          · replace e := (if_neg c17).symm.trans e
            exact f_X11_waits_74_ok _ hj ih _ _ _ _ _ _ _ _ _ _ g0 g1 g2 g3 g4 g5 g6 e
          · replace e := (if_pos c17).symm.trans e
            obtain rfl := Option.some.inj e
            exact g_vret d_X11_waits_73 rfl
      · replace e := (if_neg c15).symm.trans e
        refine g_ald_n d_X11_waits_54 rfl g0 ?_
        refine r_iload_n d_X11_waits_55 rfl g1 ?_
        refine r_iload d_X11_waits_56 g5 ?_
        replace e := bd e
        obtain ⟨q18, eq18, e⟩ := e
        refine g_callV d_X11_waits_58 vk_10_336 (as := [_, _]) rfl (tO_pI k13) rfl (by simp [zrf_cat, cat_int, cat_long]) (j := 1) (by omega) (c_X11_hasEnded (by omega) eq18) ?_
        obtain rfl := Option.some.inj e
        exact g_vret d_X11_waits_61 rfl

def f_X11_waits (l0 : Nat) (l1 : Int32) (l2 : Int32) (l3 : Int32) (l4 : Int32) (h : Hp) : Option Hp := ck (isO (h) (l0) 12) (bh (pI (h) 1267 (l0) ((0 : Int32))) (fun h2 => f_X11_waits_5 fz (l0) (l1) (l2) (l3) (l4) (h2)))
theorem f_X11_waits_ok {G : Gd} {d : Nat} (hj : 2 ≤ d) : ∀ (l0 : Nat) (l1 : Int32) (l2 : Int32) (l3 : Int32) (l4 : Int32) (L : List (Nat × Value)) (h : Hp) (o : Hp), zlk L 0 = some (zrf (l0)) → zlk L 1 = some (.int (l1)) → zlk L 2 = some (.int (l2)) → zlk L 3 = some (.int (l3)) → zlk L 4 = some (.int (l4)) → f_X11_waits l0 l1 l2 l3 l4 h = some o → Ev G M_X11_waits d 0 L [] h (Ret Y_X11_waits none o) := by
  intro l0 l1 l2 l3 l4 L h o g0 g1 g2 g3 g4 e
  unfold f_X11_waits at e
  refine g_ald_n d_X11_waits_0 rfl g0 ?_
  refine r_iconst d_X11_waits_1 (v := (0 : Int32)) (by decide +kernel) ?_
  replace e := ckd e
  obtain ⟨k1, e⟩ := e
  refine g_putI d_X11_waits_2 (f := 1267) k1 fk_10_327 rfl (Or.inl rfl) ⟨rfl, rfl⟩ ?_
  replace e := bhd e
  obtain ⟨_, rfl, e⟩ := e
  exact f_X11_waits_5_ok hj _ _ _ _ _ _ _ _ _ g0 g1 g2 g3 g4 e

theorem c_X11_waits {G : Gd} {j : Nat} (hj : 2 ≤ j) {l0 : Nat} {l1 : Int32} {l2 : Int32} {l3 : Int32} {l4 : Int32} {h : Hp} {o : Hp} (e : f_X11_waits l0 l1 l2 l3 l4 h = some o) : Cal G j Y_X11_waits [zrf (l0), .int (l1), .int (l2), .int (l3), .int (l4)] h none o := Cal.of (n := 0) (I := false) (by first | exact Or.inl (by decide +kernel) | exact Or.inr (by decide +kernel)) (by decide) (by simp [lg_sl, zrf_cat, cat_int, cat_long]) (f_X11_waits_ok hj _ _ _ _ _ _ h o (by simp [lv_args, zlk, zrf_cat, cat_int, cat_long]) (by simp [lv_args, zlk, zrf_cat, cat_int, cat_long]) (by simp [lv_args, zlk, zrf_cat, cat_int, cat_long]) (by simp [lv_args, zlk, zrf_cat, cat_int, cat_long]) (by simp [lv_args, zlk, zrf_cat, cat_int, cat_long]) e)
theorem vk_10_360 : Vk "TaskWeaveModel" 360 3 12 Y_X11_endOf := ⟨yk_X11_endOf, by decide +kernel, by decide +kernel, by decide +kernel, by decide⟩
theorem fk_10_324 : Fk "TaskWeaveModel" 324 1266 := ⟨by decide, by decide, by decide +kernel⟩
theorem vk_10_351 : Vk "TaskWeaveModel" 351 4 12 Y_X11_waits := ⟨yk_X11_waits, by decide +kernel, by decide +kernel, by decide +kernel, by decide⟩
def f_X11_joins (l0 : Nat) (l1 : Int32) (l2 : Int32) (l3 : Int32) (h : Hp) : Option Hp := ck (isO (h) (l0) 12) ((f_X11_endOf (l0) (l1) (l2) (zI (h) 1264 (l0)) (h)).bind (fun q2 => ck (isO (q2.2) (l0) 12) ((f_X11_in (l2) (zI (q2.2) 1266 (l0)) (q2.2)).bind (fun q4 => if (q4.1) = (0) then (ck (isO (q4.2) (l0) 12) (ck (isO (q4.2) (zR (q4.2) 1245 (l0)) 22) (ck (inR ((((8 : Int32)) * (l1)) + (l3)) (zL (q4.2) (zR (q4.2) 1245 (l0)))) (bh (pE (q4.2) (zR (q4.2) 1245 (l0)) ((((8 : Int32)) * (l1)) + (l3)).toNatClampNeg ((-1 : Int32))) (fun h18 => some (h18)))))) else (if (q2.1) = ((-1 : Int32)) then (ck (isO (q4.2) (l0) 12) ((f_X11_waits (l0) (l1) ((3 : Int32)) (l2) (l3) (q4.2)).bind (fun q7 => some (q7)))) else (ck (isO (q4.2) (l0) 12) (ck (isO (q4.2) (zR (q4.2) 1228 (l0)) 22) (ck (inR (q2.1) (zL (q4.2) (zR (q4.2) 1228 (l0)))) (ck (isO (q4.2) (zR (q4.2) 1245 (l0)) 22) (ck (inR ((((8 : Int32)) * (l1)) + (l3)) (zL (q4.2) (zR (q4.2) 1245 (l0)))) (bh (pE (q4.2) (zR (q4.2) 1245 (l0)) ((((8 : Int32)) * (l1)) + (l3)).toNatClampNeg (zE (q4.2) (zR (q4.2) 1228 (l0)) (q2.1).toNatClampNeg)) (fun h14 => some (h14)))))))))))))
theorem f_X11_joins_ok {G : Gd} {d : Nat} (hj : 3 ≤ d) : ∀ (l0 : Nat) (l1 : Int32) (l2 : Int32) (l3 : Int32) (L : List (Nat × Value)) (h : Hp) (o : Hp), zlk L 0 = some (zrf (l0)) → zlk L 1 = some (.int (l1)) → zlk L 2 = some (.int (l2)) → zlk L 3 = some (.int (l3)) → f_X11_joins l0 l1 l2 l3 h = some o → Ev G M_X11_joins d 0 L [] h (Ret Y_X11_joins none o) := by
  intro l0 l1 l2 l3 L h o g0 g1 g2 g3 e
  unfold f_X11_joins at e
  refine g_ald_n d_X11_joins_0 rfl g0 ?_
  refine r_iload_n d_X11_joins_1 rfl g1 ?_
  refine r_iload_n d_X11_joins_2 rfl g2 ?_
  refine g_ald_n d_X11_joins_3 rfl g0 ?_
  replace e := ckd e
  obtain ⟨k1, e⟩ := e
  refine g_getI d_X11_joins_4 (f := 1264) k1 fk_10_318 rfl rfl ?_
  replace e := bd e
  obtain ⟨q2, eq2, e⟩ := e
  refine g_callV d_X11_joins_7 vk_10_360 (as := [_, _, _]) rfl k1 rfl (by simp [zrf_cat, cat_int, cat_long]) (j := 2) (by omega) (c_X11_endOf (by omega) eq2) ?_
  refine s_istore d_X11_joins_10 (by decide) (fun L g4 gK => ?_)
  replace g0 := gK _ _ (by decide) (Or.inr (zrf_cat _)) g0
  replace g1 := gK _ _ (by decide) (Or.inr rfl) g1
  replace g2 := gK _ _ (by decide) (Or.inr rfl) g2
  replace g3 := gK _ _ (by decide) (Or.inr rfl) g3
  refine r_iload_n d_X11_joins_12 rfl g2 ?_
  refine g_ald_n d_X11_joins_13 rfl g0 ?_
  replace e := ckd e
  obtain ⟨k3, e⟩ := e
  refine g_getI d_X11_joins_14 (f := 1266) k3 fk_10_324 rfl rfl ?_
  replace e := bd e
  obtain ⟨q4, eq4, e⟩ := e
  refine g_callS d_X11_joins_17 sk_10_230 (as := [_, _]) rfl rfl (by simp [zrf_cat, cat_int, cat_long]) (j := 1) (by omega) (c_X11_in (by omega) eq4) ?_
  refine r_if_ne d_X11_joins_20 (tgt := 38) (by decide) (fun c5 => ?_) (fun c5 => ?_)
  · replace e := (if_neg c5).symm.trans e
    refine r_iload d_X11_joins_38 g4 ?_
    refine r_iconst d_X11_joins_40 (v := (-1 : Int32)) (by decide +kernel) ?_
    refine r_icmp_eq d_X11_joins_41 (tgt := 65) (by decide) (fun c6 => ?_) (fun c6 => ?_)
    · replace e := (if_pos c6).symm.trans e
      refine g_ald_n d_X11_joins_65 rfl g0 ?_
      refine r_iload_n d_X11_joins_66 rfl g1 ?_
      refine r_iconst d_X11_joins_67 (v := (3 : Int32)) (by decide +kernel) ?_
      refine r_iload_n d_X11_joins_68 rfl g2 ?_
      refine r_iload_n d_X11_joins_69 rfl g3 ?_
      replace e := ckd e
      obtain ⟨k8, e⟩ := e
      replace e := bd e
      obtain ⟨q7, eq7, e⟩ := e
      refine g_callV d_X11_joins_70 vk_10_351 (as := [_, _, _, _]) rfl k8 rfl (by simp [zrf_cat, cat_int, cat_long]) (j := 2) (by omega) (c_X11_waits (by omega) eq7) ?_
      obtain rfl := Option.some.inj e
      exact g_vret d_X11_joins_73 rfl
    · replace e := (if_neg c6).symm.trans e
      refine g_ald_n d_X11_joins_44 rfl g0 ?_
      replace e := ckd e
      obtain ⟨k9, e⟩ := e
      refine g_getR d_X11_joins_45 (f := 1245) k9 fk_10_125 rfl rfl ?_
      refine r_bipush d_X11_joins_48 (v := (8 : Int32)) (by decide +kernel) ?_
      refine r_iload_n d_X11_joins_50 rfl g1 ?_
      refine r_imul d_X11_joins_51 ?_
      refine r_iload_n d_X11_joins_52 rfl g3 ?_
      refine r_iadd d_X11_joins_53 ?_
      refine g_ald_n d_X11_joins_54 rfl g0 ?_
      refine g_getR d_X11_joins_55 (f := 1228) k9 fk_10_73 rfl rfl ?_
      refine r_iload d_X11_joins_58 g4 ?_
      replace e := ckd e
      obtain ⟨k10, e⟩ := e
      replace e := ckd e
      obtain ⟨k11, e⟩ := e
      refine g_iald d_X11_joins_60 k10 k11 rfl ?_
      replace e := ckd e
      obtain ⟨k12, e⟩ := e
      replace e := ckd e
      obtain ⟨k13, e⟩ := e
      refine g_iast d_X11_joins_61 k12 k13 ?_
      replace e := bhd e
      obtain ⟨_, rfl, e⟩ := e
      refine r_goto d_X11_joins_62 (tgt := 73) (by decide) ?_
      obtain rfl := Option.some.inj e
      exact g_vret d_X11_joins_73 rfl
  · replace e := (if_pos c5).symm.trans e
    refine g_ald_n d_X11_joins_23 rfl g0 ?_
    replace e := ckd e
    obtain ⟨k15, e⟩ := e
    refine g_getR d_X11_joins_24 (f := 1245) k15 fk_10_125 rfl rfl ?_
    refine r_bipush d_X11_joins_27 (v := (8 : Int32)) (by decide +kernel) ?_
    refine r_iload_n d_X11_joins_29 rfl g1 ?_
    refine r_imul d_X11_joins_30 ?_
    refine r_iload_n d_X11_joins_31 rfl g3 ?_
    refine r_iadd d_X11_joins_32 ?_
    refine r_iconst d_X11_joins_33 (v := (-1 : Int32)) (by decide +kernel) ?_
    replace e := ckd e
    obtain ⟨k16, e⟩ := e
    replace e := ckd e
    obtain ⟨k17, e⟩ := e
    refine g_iast d_X11_joins_34 k16 k17 ?_
    replace e := bhd e
    obtain ⟨_, rfl, e⟩ := e
    refine r_goto d_X11_joins_35 (tgt := 73) (by decide) ?_
    obtain rfl := Option.some.inj e
    exact g_vret d_X11_joins_73 rfl

theorem c_X11_joins {G : Gd} {j : Nat} (hj : 3 ≤ j) {l0 : Nat} {l1 : Int32} {l2 : Int32} {l3 : Int32} {h : Hp} {o : Hp} (e : f_X11_joins l0 l1 l2 l3 h = some o) : Cal G j Y_X11_joins [zrf (l0), .int (l1), .int (l2), .int (l3)] h none o := Cal.of (n := 0) (I := false) (by first | exact Or.inl (by decide +kernel) | exact Or.inr (by decide +kernel)) (by decide) (by simp [lg_sl, zrf_cat, cat_int, cat_long]) (f_X11_joins_ok hj _ _ _ _ _ h o (by simp [lv_args, zlk, zrf_cat, cat_int, cat_long]) (by simp [lv_args, zlk, zrf_cat, cat_int, cat_long]) (by simp [lv_args, zlk, zrf_cat, cat_int, cat_long]) (by simp [lv_args, zlk, zrf_cat, cat_int, cat_long]) e)
def f_X11_own (l0 : Nat) (l1 : Int32) (l2 : Int32) (l3 : Int32) (l4 : Int32) (h : Hp) : Option (Int32 × Hp) := ck (isO (h) (l0) 12) (ck (isO (h) (zR (h) 1241 (l0)) 22) (ck (inR (l1) (zL (h) (zR (h) 1241 (l0)))) (if (zE (h) (zR (h) 1241 (l0)) (l1).toNatClampNeg) ≤ (zI (h) 1264 (l0)) then (ck (isO (h) (zR (h) 1243 (l0)) 22) (ck (inR (l1) (zL (h) (zR (h) 1243 (l0)))) (bh (pE (h) (zR (h) 1243 (l0)) (l1).toNatClampNeg ((5 : Int32))) (fun h7 => ck (isO (h7) (zR (h7) 1248 (l0)) 22) (ck (inR (l1) (zL (h7) (zR (h7) 1248 (l0)))) (bh (pE (h7) (zR (h7) 1248 (l0)) (l1).toNatClampNeg (l2)) (fun h10 => ck (isO (h10) (zR (h10) 1249 (l0)) 22) (ck (inR (l1) (zL (h10) (zR (h10) 1249 (l0)))) (bh (pE (h10) (zR (h10) 1249 (l0)) (l1).toNatClampNeg (l3)) (fun h13 => ck (isO (h13) (zR (h13) 1250 (l0)) 22) (ck (inR (l1) (zL (h13) (zR (h13) 1250 (l0)))) (bh (pE (h13) (zR (h13) 1250 (l0)) (l1).toNatClampNeg (l4)) (fun h16 => some ((0 : Int32), h16)))))))))))))) else ((f_X11_event (l0) (l1) (zI (h) 1264 (l0)) (h)).bind (fun q17 => ck (isO (q17.2) (l0) 12) (bh (pI (q17.2) 1264 (l0) ((zI (q17.2) 1264 (l0)) + ((1 : Int32)))) (fun h19 => (f_X11_kindOf (l0) (q17.1) (h19)).bind (fun q20 => if (q20.1) < ((10 : Int32)) then (ck (isO (q20.2) (l0) 12) (ck (isO (q20.2) (zR (q20.2) 1243 (l0)) 22) (ck (inR (l1) (zL (q20.2) (zR (q20.2) 1243 (l0)))) (if (zE (q20.2) (zR (q20.2) 1243 (l0)) (l1).toNatClampNeg) = ((6 : Int32)) then (some ((1 : Int32), q20.2)) else (some ((0 : Int32), q20.2)))))) else (ck (isO (q20.2) (l0) 12) ((f_X11_hasEnded (l0) (l1) (q17.1) (q20.2)).bind (fun q26 => ck (isO (q26) (l0) 12) (ck (isO (q26) (zR (q26) 1243 (l0)) 22) (ck (inR (l1) (zL (q26) (zR (q26) 1243 (l0)))) (if (zE (q26) (zR (q26) 1243 (l0)) (l1).toNatClampNeg) = ((6 : Int32)) then (some ((1 : Int32), q26)) else (some ((0 : Int32), q26))))))))))))))))
theorem f_X11_own_ok {G : Gd} {d : Nat} (hj : 2 ≤ d) : ∀ (l0 : Nat) (l1 : Int32) (l2 : Int32) (l3 : Int32) (l4 : Int32) (L : List (Nat × Value)) (h : Hp) (o : (Int32 × Hp)), zlk L 0 = some (zrf (l0)) → zlk L 1 = some (.int (l1)) → zlk L 2 = some (.int (l2)) → zlk L 3 = some (.int (l3)) → zlk L 4 = some (.int (l4)) → f_X11_own l0 l1 l2 l3 l4 h = some o → Ev G M_X11_own d 0 L [] h (Ret Y_X11_own (some (.int o.1)) o.2) := by
  intro l0 l1 l2 l3 l4 L h o g0 g1 g2 g3 g4 e
  unfold f_X11_own at e
  refine g_ald_n d_X11_own_0 rfl g0 ?_
  replace e := ckd e
  obtain ⟨k1, e⟩ := e
  refine g_getI d_X11_own_1 (f := 1264) k1 fk_10_318 rfl rfl ?_
  refine g_ald_n d_X11_own_4 rfl g0 ?_
  refine g_getR d_X11_own_5 (f := 1241) k1 fk_10_113 rfl rfl ?_
  refine r_iload_n d_X11_own_8 rfl g1 ?_
  replace e := ckd e
  obtain ⟨k2, e⟩ := e
  replace e := ckd e
  obtain ⟨k3, e⟩ := e
  refine g_iald d_X11_own_9 k2 k3 rfl ?_
  refine r_icmp_ge d_X11_own_10 (tgt := 69) (by decide) (fun c4 => ?_) (fun c4 => ?_)
  · replace e := (if_pos c4).symm.trans e
    refine g_ald_n d_X11_own_69 rfl g0 ?_
    refine g_getR d_X11_own_70 (f := 1243) k1 fk_10_119 rfl rfl ?_
    refine r_iload_n d_X11_own_73 rfl g1 ?_
    refine r_iconst d_X11_own_74 (v := (5 : Int32)) (by decide +kernel) ?_
    replace e := ckd e
    obtain ⟨k5, e⟩ := e
    replace e := ckd e
    obtain ⟨k6, e⟩ := e
    refine g_iast d_X11_own_75 k5 k6 ?_
    replace e := bhd e
    obtain ⟨_, rfl, e⟩ := e
    refine g_ald_n d_X11_own_76 rfl g0 ?_
    refine g_getR d_X11_own_77 (f := 1248) (tO_pE k1) fk_10_134 rfl rfl ?_
    refine r_iload_n d_X11_own_80 rfl g1 ?_
    refine r_iload_n d_X11_own_81 rfl g2 ?_
    replace e := ckd e
    obtain ⟨k8, e⟩ := e
    replace e := ckd e
    obtain ⟨k9, e⟩ := e
    refine g_iast d_X11_own_82 k8 k9 ?_
    replace e := bhd e
    obtain ⟨_, rfl, e⟩ := e
    refine g_ald_n d_X11_own_83 rfl g0 ?_
    refine g_getR d_X11_own_84 (f := 1249) (tO_pE (tO_pE k1)) fk_10_137 rfl rfl ?_
    refine r_iload_n d_X11_own_87 rfl g1 ?_
    refine r_iload_n d_X11_own_88 rfl g3 ?_
    replace e := ckd e
    obtain ⟨k11, e⟩ := e
    replace e := ckd e
    obtain ⟨k12, e⟩ := e
    refine g_iast d_X11_own_89 k11 k12 ?_
    replace e := bhd e
    obtain ⟨_, rfl, e⟩ := e
    refine g_ald_n d_X11_own_90 rfl g0 ?_
    refine g_getR d_X11_own_91 (f := 1250) (tO_pE (tO_pE (tO_pE k1))) fk_10_140 rfl rfl ?_
    refine r_iload_n d_X11_own_94 rfl g1 ?_
    refine r_iload d_X11_own_95 g4 ?_
    replace e := ckd e
    obtain ⟨k14, e⟩ := e
    replace e := ckd e
    obtain ⟨k15, e⟩ := e
    refine g_iast d_X11_own_97 k14 k15 ?_
    replace e := bhd e
    obtain ⟨_, rfl, e⟩ := e
    refine r_iconst d_X11_own_98 (v := (0 : Int32)) (by decide +kernel) ?_
    obtain rfl := Option.some.inj e
    exact g_iret d_X11_own_99 rfl rfl
  · replace e := (if_neg c4).symm.trans e
    refine g_ald_n d_X11_own_13 rfl g0 ?_
    refine r_iload_n d_X11_own_14 rfl g1 ?_
    refine g_ald_n d_X11_own_15 rfl g0 ?_
    refine g_getI d_X11_own_16 (f := 1264) k1 fk_10_318 rfl rfl ?_
    replace e := bd e
    obtain ⟨q17, eq17, e⟩ := e
    refine g_callV d_X11_own_19 vk_10_305 (as := [_, _]) rfl k1 rfl (by simp [zrf_cat, cat_int, cat_long]) (j := 1) (by omega) (c_X11_event (by omega) eq17) ?_
    refine s_istore d_X11_own_22 (by decide) (fun L g5 gK => ?_)
    replace g0 := gK _ _ (by decide) (Or.inr (zrf_cat _)) g0
    replace g1 := gK _ _ (by decide) (Or.inr rfl) g1
    refine g_ald_n d_X11_own_24 rfl g0 ?_
    refine r_dup d_X11_own_25 (zrf_cat _) ?_
    replace e := ckd e
    obtain ⟨k18, e⟩ := e
    refine g_getI d_X11_own_26 (f := 1264) k18 fk_10_318 rfl rfl ?_
    refine r_iconst d_X11_own_29 (v := (1 : Int32)) (by decide +kernel) ?_
    refine r_iadd d_X11_own_30 ?_
    refine g_putI d_X11_own_31 (f := 1264) k18 fk_10_318 rfl (Or.inl rfl) ⟨rfl, rfl⟩ ?_
    replace e := bhd e
    obtain ⟨_, rfl, e⟩ := e
    refine g_ald_n d_X11_own_34 rfl g0 ?_
    refine r_iload d_X11_own_35 g5 ?_
    replace e := bd e
    obtain ⟨q20, eq20, e⟩ := e
    refine g_callV d_X11_own_37 vk_10_286 (as := [_]) rfl (tO_pI k18) rfl (by simp [zrf_cat, cat_int, cat_long]) (j := 1) (by omega) (c_X11_kindOf (by omega) eq20) ?_
    refine r_bipush d_X11_own_40 (v := (10 : Int32)) (by decide +kernel) ?_
    refine r_icmp_lt d_X11_own_42 (tgt := 52) (by decide) (fun c21 => ?_) (fun c21 => ?_)
    · replace e := (if_pos c21).symm.trans e
      refine g_ald_n d_X11_own_52 rfl g0 ?_
      replace e := ckd e
      obtain ⟨k22, e⟩ := e
      refine g_getR d_X11_own_53 (f := 1243) k22 fk_10_119 rfl rfl ?_
      refine r_iload_n d_X11_own_56 rfl g1 ?_
      replace e := ckd e
      obtain ⟨k23, e⟩ := e
      replace e := ckd e
      obtain ⟨k24, e⟩ := e
      refine g_iald d_X11_own_57 k23 k24 rfl ?_
      refine r_bipush d_X11_own_58 (v := (6 : Int32)) (by decide +kernel) ?_
      refine r_icmp_ne d_X11_own_60 (tgt := 67) (by decide) (fun c25 => ?_) (fun c25 => ?_)
      · replace e := (if_neg c25).symm.trans e
        refine r_iconst d_X11_own_67 (v := (0 : Int32)) (by decide +kernel) ?_
        obtain rfl := Option.some.inj e
        exact g_iret d_X11_own_68 rfl rfl
      · replace e := (if_pos c25).symm.trans e
        refine r_iconst d_X11_own_63 (v := (1 : Int32)) (by decide +kernel) ?_
        refine r_goto d_X11_own_64 (tgt := 68) (by decide) ?_
        obtain rfl := Option.some.inj e
        exact g_iret d_X11_own_68 rfl rfl
    · replace e := (if_neg c21).symm.trans e
      refine g_ald_n d_X11_own_45 rfl g0 ?_
      refine r_iload_n d_X11_own_46 rfl g1 ?_
      refine r_iload d_X11_own_47 g5 ?_
      replace e := ckd e
      obtain ⟨k27, e⟩ := e
      replace e := bd e
      obtain ⟨q26, eq26, e⟩ := e
      refine g_callV d_X11_own_49 vk_10_336 (as := [_, _]) rfl k27 rfl (by simp [zrf_cat, cat_int, cat_long]) (j := 1) (by omega) (c_X11_hasEnded (by omega) eq26) ?_
      refine g_ald_n d_X11_own_52 rfl g0 ?_
      replace e := ckd e
      obtain ⟨k28, e⟩ := e
      refine g_getR d_X11_own_53 (f := 1243) k28 fk_10_119 rfl rfl ?_
      refine r_iload_n d_X11_own_56 rfl g1 ?_
      replace e := ckd e
      obtain ⟨k29, e⟩ := e
      replace e := ckd e
      obtain ⟨k30, e⟩ := e
      refine g_iald d_X11_own_57 k29 k30 rfl ?_
      refine r_bipush d_X11_own_58 (v := (6 : Int32)) (by decide +kernel) ?_
      refine r_icmp_ne d_X11_own_60 (tgt := 67) (by decide) (fun c31 => ?_) (fun c31 => ?_)
      · replace e := (if_neg c31).symm.trans e
        refine r_iconst d_X11_own_67 (v := (0 : Int32)) (by decide +kernel) ?_
        obtain rfl := Option.some.inj e
        exact g_iret d_X11_own_68 rfl rfl
      · replace e := (if_pos c31).symm.trans e
        refine r_iconst d_X11_own_63 (v := (1 : Int32)) (by decide +kernel) ?_
        refine r_goto d_X11_own_64 (tgt := 68) (by decide) ?_
        obtain rfl := Option.some.inj e
        exact g_iret d_X11_own_68 rfl rfl

theorem c_X11_own {G : Gd} {j : Nat} (hj : 2 ≤ j) {l0 : Nat} {l1 : Int32} {l2 : Int32} {l3 : Int32} {l4 : Int32} {h : Hp} {o : (Int32 × Hp)} (e : f_X11_own l0 l1 l2 l3 l4 h = some o) : Cal G j Y_X11_own [zrf (l0), .int (l1), .int (l2), .int (l3), .int (l4)] h (some (.int o.1)) o.2 := Cal.of (n := 0) (I := false) (by first | exact Or.inl (by decide +kernel) | exact Or.inr (by decide +kernel)) (by decide) (by simp [lg_sl, zrf_cat, cat_int, cat_long]) (f_X11_own_ok hj _ _ _ _ _ _ h o (by simp [lv_args, zlk, zrf_cat, cat_int, cat_long]) (by simp [lv_args, zlk, zrf_cat, cat_int, cat_long]) (by simp [lv_args, zlk, zrf_cat, cat_int, cat_long]) (by simp [lv_args, zlk, zrf_cat, cat_int, cat_long]) (by simp [lv_args, zlk, zrf_cat, cat_int, cat_long]) e)
def f_X11_origin (l0 : Nat) (l1 : Int32) (h : Hp) : Option (Int32 × Hp) := ck (isO (h) (l0) 12) ((f_X11_event (l0) (l1) ((0 : Int32)) (h)).bind (fun q2 => ck (isO (q2.2) (zR (h) 1229 (l0)) 22) (ck (inR (q2.1) (zL (q2.2) (zR (h) 1229 (l0)))) (some (zE (q2.2) (zR (h) 1229 (l0)) (q2.1).toNatClampNeg, q2.2)))))
theorem f_X11_origin_ok {G : Gd} {d : Nat} (hj : 2 ≤ d) : ∀ (l0 : Nat) (l1 : Int32) (L : List (Nat × Value)) (h : Hp) (o : (Int32 × Hp)), zlk L 0 = some (zrf (l0)) → zlk L 1 = some (.int (l1)) → f_X11_origin l0 l1 h = some o → Ev G M_X11_origin d 0 L [] h (Ret Y_X11_origin (some (.int o.1)) o.2) := by
  intro l0 l1 L h o g0 g1 e
  unfold f_X11_origin at e
  refine g_ald_n d_X11_origin_0 rfl g0 ?_
  replace e := ckd e
  obtain ⟨k1, e⟩ := e
  refine g_getR d_X11_origin_1 (f := 1229) k1 fk_10_76 rfl rfl ?_
  refine g_ald_n d_X11_origin_4 rfl g0 ?_
  refine r_iload_n d_X11_origin_5 rfl g1 ?_
  refine r_iconst d_X11_origin_6 (v := (0 : Int32)) (by decide +kernel) ?_
  replace e := bd e
  obtain ⟨q2, eq2, e⟩ := e
  refine g_callV d_X11_origin_7 vk_10_305 (as := [_, _]) rfl k1 rfl (by simp [zrf_cat, cat_int, cat_long]) (j := 1) (by omega) (c_X11_event (by omega) eq2) ?_
  replace e := ckd e
  obtain ⟨k3, e⟩ := e
  replace e := ckd e
  obtain ⟨k4, e⟩ := e
  refine g_iald d_X11_origin_10 k3 k4 rfl ?_
  obtain rfl := Option.some.inj e
  exact g_iret d_X11_origin_11 rfl rfl

theorem c_X11_origin {G : Gd} {j : Nat} (hj : 2 ≤ j) {l0 : Nat} {l1 : Int32} {h : Hp} {o : (Int32 × Hp)} (e : f_X11_origin l0 l1 h = some o) : Cal G j Y_X11_origin [zrf (l0), .int (l1)] h (some (.int o.1)) o.2 := Cal.of (n := 0) (I := false) (by first | exact Or.inl (by decide +kernel) | exact Or.inr (by decide +kernel)) (by decide) (by simp [lg_sl, zrf_cat, cat_int, cat_long]) (f_X11_origin_ok hj _ _ _ h o (by simp [lv_args, zlk, zrf_cat, cat_int, cat_long]) (by simp [lv_args, zlk, zrf_cat, cat_int, cat_long]) e)
theorem vk_10_309 : Vk "TaskWeaveModel" 309 1 12 Y_X11_origin := ⟨yk_X11_origin, by decide +kernel, by decide +kernel, by decide +kernel, by decide⟩
def f_X11_parent (l0 : Nat) (l1 : Int32) (h : Hp) : Option (Int32 × Hp) := ck (isO (h) (l0) 12) ((f_X11_origin (l0) (l1) (h)).bind (fun q1 => if (0) ≤ (q1.1) then (some ((-1 : Int32), q1.2)) else (ck (isO (q1.2) (l0) 12) ((f_X11_origin (l0) (l1) (q1.2)).bind (fun q4 => some ((((-1 : Int32)) - (q4.1)) / ((64 : Int32)), q4.2))))))
theorem f_X11_parent_ok {G : Gd} {d : Nat} (hj : 3 ≤ d) : ∀ (l0 : Nat) (l1 : Int32) (L : List (Nat × Value)) (h : Hp) (o : (Int32 × Hp)), zlk L 0 = some (zrf (l0)) → zlk L 1 = some (.int (l1)) → f_X11_parent l0 l1 h = some o → Ev G M_X11_parent d 0 L [] h (Ret Y_X11_parent (some (.int o.1)) o.2) := by
  intro l0 l1 L h o g0 g1 e
  unfold f_X11_parent at e
  refine g_ald_n d_X11_parent_0 rfl g0 ?_
  refine r_iload_n d_X11_parent_1 rfl g1 ?_
  replace e := ckd e
  obtain ⟨k2, e⟩ := e
  replace e := bd e
  obtain ⟨q1, eq1, e⟩ := e
  refine g_callV d_X11_parent_2 vk_10_309 (as := [_]) rfl k2 rfl (by simp [zrf_cat, cat_int, cat_long]) (j := 2) (by omega) (c_X11_origin (by omega) eq1) ?_
  refine r_if_ge d_X11_parent_5 (tgt := 21) (by decide) (fun c3 => ?_) (fun c3 => ?_)
  · replace e := (if_pos c3).symm.trans e
    refine r_iconst d_X11_parent_21 (v := (-1 : Int32)) (by decide +kernel) ?_
    obtain rfl := Option.some.inj e
    exact g_iret d_X11_parent_22 rfl rfl
  · replace e := (if_neg c3).symm.trans e
    refine r_iconst d_X11_parent_8 (v := (-1 : Int32)) (by decide +kernel) ?_
    refine g_ald_n d_X11_parent_9 rfl g0 ?_
    refine r_iload_n d_X11_parent_10 rfl g1 ?_
    replace e := ckd e
    obtain ⟨k5, e⟩ := e
    replace e := bd e
    obtain ⟨q4, eq4, e⟩ := e
    refine g_callV d_X11_parent_11 vk_10_309 (as := [_]) rfl k5 rfl (by simp [zrf_cat, cat_int, cat_long]) (j := 2) (by omega) (c_X11_origin (by omega) eq4) ?_
    refine r_isub d_X11_parent_14 ?_
    refine r_bipush d_X11_parent_15 (v := (64 : Int32)) (by decide +kernel) ?_
    refine r_idiv d_X11_parent_17 (by decide +kernel) ?_
    refine r_goto d_X11_parent_18 (tgt := 22) (by decide) ?_
    obtain rfl := Option.some.inj e
    exact g_iret d_X11_parent_22 rfl rfl

theorem c_X11_parent {G : Gd} {j : Nat} (hj : 3 ≤ j) {l0 : Nat} {l1 : Int32} {h : Hp} {o : (Int32 × Hp)} (e : f_X11_parent l0 l1 h = some o) : Cal G j Y_X11_parent [zrf (l0), .int (l1)] h (some (.int o.1)) o.2 := Cal.of (n := 0) (I := false) (by first | exact Or.inl (by decide +kernel) | exact Or.inr (by decide +kernel)) (by decide) (by simp [lg_sl, zrf_cat, cat_int, cat_long]) (f_X11_parent_ok hj _ _ _ h o (by simp [lv_args, zlk, zrf_cat, cat_int, cat_long]) (by simp [lv_args, zlk, zrf_cat, cat_int, cat_long]) e)
def f_X11_takesSignal_78 (K5 : Nat → Int32 → Int32 → Int32 → Int32 → Hp → Option Hp) (l0 : Nat) (l1 : Int32) (l2 : Int32) (l3 : Int32) (l4 : Int32) (h : Hp) : Option Hp := bh ((l4) + (1 : Int32)) (fun x19 => K5 (l0) (l1) (l2) (l3) (x19) (h))
theorem f_X11_takesSignal_78_ok {G : Gd} {d : Nat} (K5 : Nat → Int32 → Int32 → Int32 → Int32 → Hp → Option Hp) (hj : 3 ≤ d) (hK5 : ∀ (l0 : Nat) (l1 : Int32) (l2 : Int32) (l3 : Int32) (l4 : Int32) (L : List (Nat × Value)) (h : Hp) (o : Hp), zlk L 0 = some (zrf (l0)) → zlk L 1 = some (.int (l1)) → zlk L 2 = some (.int (l2)) → zlk L 3 = some (.int (l3)) → zlk L 4 = some (.int (l4)) → K5 l0 l1 l2 l3 l4 h = some o → Ev G M_X11_takesSignal d 5 L [] h (Ret Y_X11_takesSignal none o)) : ∀ (l0 : Nat) (l1 : Int32) (l2 : Int32) (l3 : Int32) (l4 : Int32) (L : List (Nat × Value)) (h : Hp) (o : Hp), zlk L 0 = some (zrf (l0)) → zlk L 1 = some (.int (l1)) → zlk L 2 = some (.int (l2)) → zlk L 3 = some (.int (l3)) → zlk L 4 = some (.int (l4)) → f_X11_takesSignal_78 K5 l0 l1 l2 l3 l4 h = some o → Ev G M_X11_takesSignal d 78 L [] h (Ret Y_X11_takesSignal none o) := by
  intro l0 l1 l2 l3 l4 L h o g0 g1 g2 g3 g4 e
  unfold f_X11_takesSignal_78 at e
  replace e := bhd e
  obtain ⟨_, rfl, e⟩ := e
  refine s_iinc d_X11_takesSignal_78 g4 (w := (1 : Int32)) (by decide +kernel) (by decide) (fun L g4 gK => ?_)
  replace g0 := gK _ _ (by decide) (Or.inr (zrf_cat _)) g0
  replace g1 := gK _ _ (by decide) (Or.inr rfl) g1
  replace g2 := gK _ _ (by decide) (Or.inr rfl) g2
  replace g3 := gK _ _ (by decide) (Or.inr rfl) g3
  refine r_goto d_X11_takesSignal_81 (tgt := 5) (by decide) ?_
  exact hK5 _ _ _ _ _ _ _ _ g0 g1 g2 g3 g4 e

def f_X11_takesSignal_5 : Nat → Nat → Int32 → Int32 → Int32 → Int32 → Hp → Option Hp
  | 0, _, _, _, _, _, _ => none
  | n + 1, l0, l1, l2, l3, l4, h => ck (isO (h) (l0) 12) (if (zI (h) 1264 (l0)) ≤ (l4) then ((f_X11_waits (l0) (l1) ((2 : Int32)) ((0 : Int32)) (l2) (h)).bind (fun q3 => some (q3))) else ((f_X11_event (l0) (l1) (l4) (h)).bind (fun q4 => ck (isO (q4.2) (l0) 12) ((f_X11_kindOf (l0) (q4.1) (q4.2)).bind (fun q5 => if (q5.1) = ((8 : Int32)) then (ck (isO (q5.2) (l0) 12) (if (l3) = (zI (q5.2) 1265 (l0)) then ((f_X11_event (l0) (l1) (l4) (q5.2)).bind (fun q11 => ck (isO (q11.2) (zR (q5.2) 1227 (l0)) 22) (ck (inR (q11.1) (zL (q11.2) (zR (q5.2) 1227 (l0)))) (ck (isO (q11.2) (zR (q5.2) 1245 (l0)) 22) (ck (inR ((((8 : Int32)) * (l1)) + (l2)) (zL (q11.2) (zR (q5.2) 1245 (l0)))) (bh (pE (q11.2) (zR (q5.2) 1245 (l0)) ((((8 : Int32)) * (l1)) + (l2)).toNatClampNeg (zE (q11.2) (zR (q5.2) 1227 (l0)) (q11.1).toNatClampNeg)) (fun h16 => ck (isO (h16) (l0) 12) (bh (pI (h16) 1265 (l0) ((zI (h16) 1265 (l0)) + ((1 : Int32)))) (fun h18 => some (h18)))))))))) else (bh ((l3) + (1 : Int32)) (fun x10 => f_X11_takesSignal_78 (f_X11_takesSignal_5 n) (l0) (l1) (l2) (x10) (l4) (q5.2))))) else (f_X11_takesSignal_78 (f_X11_takesSignal_5 n) (l0) (l1) (l2) (l3) (l4) (q5.2)))))))
theorem f_X11_takesSignal_5_ok {G : Gd} {d : Nat} (hj : 3 ≤ d) : ∀ (n : Nat) (l0 : Nat) (l1 : Int32) (l2 : Int32) (l3 : Int32) (l4 : Int32) (L : List (Nat × Value)) (h : Hp) (o : Hp), zlk L 0 = some (zrf (l0)) → zlk L 1 = some (.int (l1)) → zlk L 2 = some (.int (l2)) → zlk L 3 = some (.int (l3)) → zlk L 4 = some (.int (l4)) → f_X11_takesSignal_5 n l0 l1 l2 l3 l4 h = some o → Ev G M_X11_takesSignal d 5 L [] h (Ret Y_X11_takesSignal none o) := by
  intro n
  induction n with
  | zero =>
    intro l0 l1 l2 l3 l4 L h o g0 g1 g2 g3 g4 e
    cases e
  | succ n ih =>
    intro l0 l1 l2 l3 l4 L h o g0 g1 g2 g3 g4 e
    unfold f_X11_takesSignal_5 at e
    refine r_iload d_X11_takesSignal_5 g4 ?_
    refine g_ald_n d_X11_takesSignal_7 rfl g0 ?_
    replace e := ckd e
    obtain ⟨k1, e⟩ := e
    refine g_getI d_X11_takesSignal_8 (f := 1264) k1 fk_10_318 rfl rfl ?_
    refine r_icmp_ge d_X11_takesSignal_11 (tgt := 84) (by decide) (fun c2 => ?_) (fun c2 => ?_)
    · replace e := (if_pos c2).symm.trans e
      refine g_ald_n d_X11_takesSignal_84 rfl g0 ?_
      refine r_iload_n d_X11_takesSignal_85 rfl g1 ?_
      refine r_iconst d_X11_takesSignal_86 (v := (2 : Int32)) (by decide +kernel) ?_
      refine r_iconst d_X11_takesSignal_87 (v := (0 : Int32)) (by decide +kernel) ?_
      refine r_iload_n d_X11_takesSignal_88 rfl g2 ?_
      replace e := bd e
      obtain ⟨q3, eq3, e⟩ := e
      refine g_callV d_X11_takesSignal_89 vk_10_351 (as := [_, _, _, _]) rfl k1 rfl (by simp [zrf_cat, cat_int, cat_long]) (j := 2) (by omega) (c_X11_waits (by omega) eq3) ?_
      obtain rfl := Option.some.inj e
      exact g_vret d_X11_takesSignal_92 rfl
    · replace e := (if_neg c2).symm.trans e
      refine g_ald_n d_X11_takesSignal_14 rfl g0 ?_
      refine g_ald_n d_X11_takesSignal_15 rfl g0 ?_
      refine r_iload_n d_X11_takesSignal_16 rfl g1 ?_
      refine r_iload d_X11_takesSignal_17 g4 ?_
      replace e := bd e
      obtain ⟨q4, eq4, e⟩ := e
      refine g_callV d_X11_takesSignal_19 vk_10_305 (as := [_, _]) rfl k1 rfl (by simp [zrf_cat, cat_int, cat_long]) (j := 1) (by omega) (c_X11_event (by omega) eq4) ?_
      replace e := ckd e
      obtain ⟨k6, e⟩ := e
      replace e := bd e
      obtain ⟨q5, eq5, e⟩ := e
      refine g_callV d_X11_takesSignal_22 vk_10_286 (as := [_]) rfl k6 rfl (by simp [zrf_cat, cat_int, cat_long]) (j := 1) (by omega) (c_X11_kindOf (by omega) eq5) ?_
      refine r_bipush d_X11_takesSignal_25 (v := (8 : Int32)) (by decide +kernel) ?_
      refine r_icmp_eq d_X11_takesSignal_27 (tgt := 33) (by decide) (fun c7 => ?_) (fun c7 => ?_)
      · replace e := (if_pos c7).symm.trans e
        refine r_iload_n d_X11_takesSignal_33 rfl g3 ?_
        refine g_ald_n d_X11_takesSignal_34 rfl g0 ?_
        replace e := ckd e
        obtain ⟨k8, e⟩ := e
        refine g_getI d_X11_takesSignal_35 (f := 1265) k8 fk_10_321 rfl rfl ?_
        refine r_icmp_ne d_X11_takesSignal_38 (tgt := 75) (by decide) (fun c9 => ?_) (fun c9 => ?_)
        · replace e := (if_neg c9).symm.trans e
          replace e := bhd e
          obtain ⟨_, rfl, e⟩ := e
          refine s_iinc d_X11_takesSignal_75 g3 (w := (1 : Int32)) (by decide +kernel) (by decide) (fun L g3 gK => ?_)
          replace g0 := gK _ _ (by decide) (Or.inr (zrf_cat _)) g0
          replace g1 := gK _ _ (by decide) (Or.inr rfl) g1
          replace g2 := gK _ _ (by decide) (Or.inr rfl) g2
          replace g4 := gK _ _ (by decide) (Or.inr rfl) g4
          exact f_X11_takesSignal_78_ok _ hj ih _ _ _ _ _ _ _ _ g0 g1 g2 g3 g4 e
        · replace e := (if_pos c9).symm.trans e
          refine g_ald_n d_X11_takesSignal_41 rfl g0 ?_
          refine g_getR d_X11_takesSignal_42 (f := 1245) k8 fk_10_125 rfl rfl ?_
          refine r_bipush d_X11_takesSignal_45 (v := (8 : Int32)) (by decide +kernel) ?_
          refine r_iload_n d_X11_takesSignal_47 rfl g1 ?_
          refine r_imul d_X11_takesSignal_48 ?_
          refine r_iload_n d_X11_takesSignal_49 rfl g2 ?_
          refine r_iadd d_X11_takesSignal_50 ?_
          refine g_ald_n d_X11_takesSignal_51 rfl g0 ?_
          refine g_getR d_X11_takesSignal_52 (f := 1227) k8 fk_10_70 rfl rfl ?_
          refine g_ald_n d_X11_takesSignal_55 rfl g0 ?_
          refine r_iload_n d_X11_takesSignal_56 rfl g1 ?_
          refine r_iload d_X11_takesSignal_57 g4 ?_
          replace e := bd e
          obtain ⟨q11, eq11, e⟩ := e
          refine g_callV d_X11_takesSignal_59 vk_10_305 (as := [_, _]) rfl k8 rfl (by simp [zrf_cat, cat_int, cat_long]) (j := 1) (by omega) (c_X11_event (by omega) eq11) ?_
          replace e := ckd e
          obtain ⟨k12, e⟩ := e
          replace e := ckd e
          obtain ⟨k13, e⟩ := e
          refine g_iald d_X11_takesSignal_62 k12 k13 rfl ?_
          replace e := ckd e
          obtain ⟨k14, e⟩ := e
          replace e := ckd e
          obtain ⟨k15, e⟩ := e
          refine g_iast d_X11_takesSignal_63 k14 k15 ?_
          replace e := bhd e
          obtain ⟨_, rfl, e⟩ := e
          refine g_ald_n d_X11_takesSignal_64 rfl g0 ?_
          refine r_dup d_X11_takesSignal_65 (zrf_cat _) ?_
          replace e := ckd e
          obtain ⟨k17, e⟩ := e
          refine g_getI d_X11_takesSignal_66 (f := 1265) k17 fk_10_321 rfl rfl ?_
          refine r_iconst d_X11_takesSignal_69 (v := (1 : Int32)) (by decide +kernel) ?_
          refine r_iadd d_X11_takesSignal_70 ?_
          refine g_putI d_X11_takesSignal_71 (f := 1265) k17 fk_10_321 rfl (Or.inl rfl) ⟨rfl, rfl⟩ ?_
          replace e := bhd e
          obtain ⟨_, rfl, e⟩ := e
          obtain rfl := Option.some.inj e
          exact g_vret d_X11_takesSignal_74 rfl
      · replace e := (if_neg c7).symm.trans e
        refine r_goto d_X11_takesSignal_30 (tgt := 78) (by decide) ?_
        exact f_X11_takesSignal_78_ok _ hj ih _ _ _ _ _ _ _ _ g0 g1 g2 g3 g4 e

def f_X11_takesSignal (l0 : Nat) (l1 : Int32) (l2 : Int32) (h : Hp) : Option Hp := f_X11_takesSignal_5 fz (l0) (l1) (l2) ((0 : Int32)) ((0 : Int32)) (h)
theorem f_X11_takesSignal_ok {G : Gd} {d : Nat} (hj : 3 ≤ d) : ∀ (l0 : Nat) (l1 : Int32) (l2 : Int32) (L : List (Nat × Value)) (h : Hp) (o : Hp), zlk L 0 = some (zrf (l0)) → zlk L 1 = some (.int (l1)) → zlk L 2 = some (.int (l2)) → f_X11_takesSignal l0 l1 l2 h = some o → Ev G M_X11_takesSignal d 0 L [] h (Ret Y_X11_takesSignal none o) := by
  intro l0 l1 l2 L h o g0 g1 g2 e
  unfold f_X11_takesSignal at e
  refine r_iconst d_X11_takesSignal_0 (v := (0 : Int32)) (by decide +kernel) ?_
  refine s_istore_n d_X11_takesSignal_1 rfl (by decide) (fun L g3 gK => ?_)
  replace g0 := gK _ _ (by decide) (Or.inr (zrf_cat _)) g0
  replace g1 := gK _ _ (by decide) (Or.inr rfl) g1
  replace g2 := gK _ _ (by decide) (Or.inr rfl) g2
  refine r_iconst d_X11_takesSignal_2 (v := (0 : Int32)) (by decide +kernel) ?_
  refine s_istore d_X11_takesSignal_3 (by decide) (fun L g4 gK => ?_)
  replace g0 := gK _ _ (by decide) (Or.inr (zrf_cat _)) g0
  replace g1 := gK _ _ (by decide) (Or.inr rfl) g1
  replace g2 := gK _ _ (by decide) (Or.inr rfl) g2
  replace g3 := gK _ _ (by decide) (Or.inr rfl) g3
  exact f_X11_takesSignal_5_ok hj _ _ _ _ _ _ _ _ _ g0 g1 g2 g3 g4 e

theorem c_X11_takesSignal {G : Gd} {j : Nat} (hj : 3 ≤ j) {l0 : Nat} {l1 : Int32} {l2 : Int32} {h : Hp} {o : Hp} (e : f_X11_takesSignal l0 l1 l2 h = some o) : Cal G j Y_X11_takesSignal [zrf (l0), .int (l1), .int (l2)] h none o := Cal.of (n := 0) (I := false) (by first | exact Or.inl (by decide +kernel) | exact Or.inr (by decide +kernel)) (by decide) (by simp [lg_sl, zrf_cat, cat_int, cat_long]) (f_X11_takesSignal_ok hj _ _ _ _ h o (by simp [lv_args, zlk, zrf_cat, cat_int, cat_long]) (by simp [lv_args, zlk, zrf_cat, cat_int, cat_long]) (by simp [lv_args, zlk, zrf_cat, cat_int, cat_long]) e)
