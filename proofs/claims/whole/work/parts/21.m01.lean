abbrev Y_X3_readReckoning : Yx := (⟨"TaskWeave$Parser", "readReckoning", "(I)Z"⟩, prog_5_method_12_code, 3, (some .boolean))
abbrev M_X3_readReckoning : Mx := ("TaskWeave$Parser", prog_5_method_12_code, 3, false)
theorem yk_X3_readReckoning : Yk Y_X3_readReckoning 1 := ⟨by decide +kernel, by decide +kernel, ⟨by decide, by decide⟩, by decide +kernel, by decide, trivial⟩
theorem d_X3_readReckoning_0 : decode prog_5_method_12_code 0 = .ok (.aload_n 0, 1) := by decide +kernel
theorem d_X3_readReckoning_1 : decode prog_5_method_12_code 1 = .ok (.getfield 15, 3) := by decide +kernel
theorem d_X3_readReckoning_4 : decode prog_5_method_12_code 4 = .ok (.iload_n 1, 1) := by decide +kernel
theorem d_X3_readReckoning_5 : decode prog_5_method_12_code 5 = .ok (.iconst 0, 1) := by decide +kernel
theorem d_X3_readReckoning_6 : decode prog_5_method_12_code 6 = .ok (.iadd, 1) := by decide +kernel
theorem d_X3_readReckoning_7 : decode prog_5_method_12_code 7 = .ok (.bipush 43, 2) := by decide +kernel
theorem d_X3_readReckoning_9 : decode prog_5_method_12_code 9 = .ok (.iastore, 1) := by decide +kernel
theorem d_X3_readReckoning_10 : decode prog_5_method_12_code 10 = .ok (.aload_n 0, 1) := by decide +kernel
theorem d_X3_readReckoning_11 : decode prog_5_method_12_code 11 = .ok (.iload_n 1, 1) := by decide +kernel
theorem d_X3_readReckoning_12 : decode prog_5_method_12_code 12 = .ok (.iconst 4, 1) := by decide +kernel
theorem d_X3_readReckoning_13 : decode prog_5_method_12_code 13 = .ok (.iadd, 1) := by decide +kernel
theorem d_X3_readReckoning_14 : decode prog_5_method_12_code 14 = .ok (.invokevirtual 92, 3) := by decide +kernel
theorem d_X3_readReckoning_17 : decode prog_5_method_12_code 17 = .ok (.ifCond .ne 5, 3) := by decide +kernel
theorem d_X3_readReckoning_20 : decode prog_5_method_12_code 20 = .ok (.iconst 0, 1) := by decide +kernel
theorem d_X3_readReckoning_21 : decode prog_5_method_12_code 21 = .ok (.ireturn, 1) := by decide +kernel
theorem d_X3_readReckoning_22 : decode prog_5_method_12_code 22 = .ok (.aload_n 0, 1) := by decide +kernel
theorem d_X3_readReckoning_23 : decode prog_5_method_12_code 23 = .ok (.invokevirtual 75, 3) := by decide +kernel
theorem d_X3_readReckoning_26 : decode prog_5_method_12_code 26 = .ok (.istore_n 2, 1) := by decide +kernel
theorem d_X3_readReckoning_27 : decode prog_5_method_12_code 27 = .ok (.iload_n 2, 1) := by decide +kernel
theorem d_X3_readReckoning_28 : decode prog_5_method_12_code 28 = .ok (.bipush 43, 2) := by decide +kernel
theorem d_X3_readReckoning_30 : decode prog_5_method_12_code 30 = .ok (.if_icmp .eq 29, 3) := by decide +kernel
theorem d_X3_readReckoning_33 : decode prog_5_method_12_code 33 = .ok (.iload_n 2, 1) := by decide +kernel
theorem d_X3_readReckoning_34 : decode prog_5_method_12_code 34 = .ok (.bipush 45, 2) := by decide +kernel
theorem d_X3_readReckoning_36 : decode prog_5_method_12_code 36 = .ok (.if_icmp .eq 23, 3) := by decide +kernel
theorem d_X3_readReckoning_39 : decode prog_5_method_12_code 39 = .ok (.iload_n 2, 1) := by decide +kernel
theorem d_X3_readReckoning_40 : decode prog_5_method_12_code 40 = .ok (.bipush 42, 2) := by decide +kernel
theorem d_X3_readReckoning_42 : decode prog_5_method_12_code 42 = .ok (.if_icmp .eq 17, 3) := by decide +kernel
theorem d_X3_readReckoning_45 : decode prog_5_method_12_code 45 = .ok (.iload_n 2, 1) := by decide +kernel
theorem d_X3_readReckoning_46 : decode prog_5_method_12_code 46 = .ok (.bipush 60, 2) := by decide +kernel
theorem d_X3_readReckoning_48 : decode prog_5_method_12_code 48 = .ok (.if_icmp .eq 11, 3) := by decide +kernel
theorem d_X3_readReckoning_51 : decode prog_5_method_12_code 51 = .ok (.iload_n 2, 1) := by decide +kernel
theorem d_X3_readReckoning_52 : decode prog_5_method_12_code 52 = .ok (.bipush 61, 2) := by decide +kernel
theorem d_X3_readReckoning_54 : decode prog_5_method_12_code 54 = .ok (.if_icmp .eq 5, 3) := by decide +kernel
theorem d_X3_readReckoning_57 : decode prog_5_method_12_code 57 = .ok (.iconst 1, 1) := by decide +kernel
theorem d_X3_readReckoning_58 : decode prog_5_method_12_code 58 = .ok (.ireturn, 1) := by decide +kernel
theorem d_X3_readReckoning_59 : decode prog_5_method_12_code 59 = .ok (.aload_n 0, 1) := by decide +kernel
theorem d_X3_readReckoning_60 : decode prog_5_method_12_code 60 = .ok (.getfield 15, 3) := by decide +kernel
theorem d_X3_readReckoning_63 : decode prog_5_method_12_code 63 = .ok (.iload_n 1, 1) := by decide +kernel
theorem d_X3_readReckoning_64 : decode prog_5_method_12_code 64 = .ok (.iconst 0, 1) := by decide +kernel
theorem d_X3_readReckoning_65 : decode prog_5_method_12_code 65 = .ok (.iadd, 1) := by decide +kernel
theorem d_X3_readReckoning_66 : decode prog_5_method_12_code 66 = .ok (.iload_n 2, 1) := by decide +kernel
theorem d_X3_readReckoning_67 : decode prog_5_method_12_code 67 = .ok (.iastore, 1) := by decide +kernel
theorem d_X3_readReckoning_68 : decode prog_5_method_12_code 68 = .ok (.aload_n 0, 1) := by decide +kernel
theorem d_X3_readReckoning_69 : decode prog_5_method_12_code 69 = .ok (.dup, 1) := by decide +kernel
theorem d_X3_readReckoning_70 : decode prog_5_method_12_code 70 = .ok (.getfield 39, 3) := by decide +kernel
theorem d_X3_readReckoning_73 : decode prog_5_method_12_code 73 = .ok (.iconst 1, 1) := by decide +kernel
theorem d_X3_readReckoning_74 : decode prog_5_method_12_code 74 = .ok (.iadd, 1) := by decide +kernel
theorem d_X3_readReckoning_75 : decode prog_5_method_12_code 75 = .ok (.putfield 39, 3) := by decide +kernel
theorem d_X3_readReckoning_78 : decode prog_5_method_12_code 78 = .ok (.aload_n 0, 1) := by decide +kernel
theorem d_X3_readReckoning_79 : decode prog_5_method_12_code 79 = .ok (.iload_n 1, 1) := by decide +kernel
theorem d_X3_readReckoning_80 : decode prog_5_method_12_code 80 = .ok (.bipush 6, 2) := by decide +kernel
theorem d_X3_readReckoning_82 : decode prog_5_method_12_code 82 = .ok (.iadd, 1) := by decide +kernel
theorem d_X3_readReckoning_83 : decode prog_5_method_12_code 83 = .ok (.invokevirtual 92, 3) := by decide +kernel
theorem d_X3_readReckoning_86 : decode prog_5_method_12_code 86 = .ok (.ireturn, 1) := by decide +kernel
abbrev Y_X3_readRightSide : Yx := (⟨"TaskWeave$Parser", "readRightSide", "(I)Z"⟩, prog_5_method_11_code, 3, (some .boolean))
abbrev M_X3_readRightSide : Mx := ("TaskWeave$Parser", prog_5_method_11_code, 3, false)
theorem yk_X3_readRightSide : Yk Y_X3_readRightSide 1 := ⟨by decide +kernel, by decide +kernel, ⟨by decide, by decide⟩, by decide +kernel, by decide, trivial⟩
theorem d_X3_readRightSide_0 : decode prog_5_method_11_code 0 = .ok (.aload_n 0, 1) := by decide +kernel
theorem d_X3_readRightSide_1 : decode prog_5_method_11_code 1 = .ok (.invokevirtual 75, 3) := by decide +kernel
theorem d_X3_readRightSide_4 : decode prog_5_method_11_code 4 = .ok (.istore_n 2, 1) := by decide +kernel
theorem d_X3_readRightSide_5 : decode prog_5_method_11_code 5 = .ok (.iload_n 2, 1) := by decide +kernel
theorem d_X3_readRightSide_6 : decode prog_5_method_11_code 6 = .ok (.bipush 65, 2) := by decide +kernel
theorem d_X3_readRightSide_8 : decode prog_5_method_11_code 8 = .ok (.if_icmp .eq 27, 3) := by decide +kernel
theorem d_X3_readRightSide_11 : decode prog_5_method_11_code 11 = .ok (.iload_n 2, 1) := by decide +kernel
theorem d_X3_readRightSide_12 : decode prog_5_method_11_code 12 = .ok (.bipush 87, 2) := by decide +kernel
theorem d_X3_readRightSide_14 : decode prog_5_method_11_code 14 = .ok (.if_icmp .eq 21, 3) := by decide +kernel
theorem d_X3_readRightSide_17 : decode prog_5_method_11_code 17 = .ok (.iload_n 2, 1) := by decide +kernel
theorem d_X3_readRightSide_18 : decode prog_5_method_11_code 18 = .ok (.bipush 67, 2) := by decide +kernel
theorem d_X3_readRightSide_20 : decode prog_5_method_11_code 20 = .ok (.if_icmp .eq 15, 3) := by decide +kernel
theorem d_X3_readRightSide_23 : decode prog_5_method_11_code 23 = .ok (.iload_n 2, 1) := by decide +kernel
theorem d_X3_readRightSide_24 : decode prog_5_method_11_code 24 = .ok (.bipush 74, 2) := by decide +kernel
theorem d_X3_readRightSide_26 : decode prog_5_method_11_code 26 = .ok (.if_icmp .eq 9, 3) := by decide +kernel
theorem d_X3_readRightSide_29 : decode prog_5_method_11_code 29 = .ok (.aload_n 0, 1) := by decide +kernel
theorem d_X3_readRightSide_30 : decode prog_5_method_11_code 30 = .ok (.iload_n 1, 1) := by decide +kernel
theorem d_X3_readRightSide_31 : decode prog_5_method_11_code 31 = .ok (.invokevirtual 95, 3) := by decide +kernel
theorem d_X3_readRightSide_34 : decode prog_5_method_11_code 34 = .ok (.ireturn, 1) := by decide +kernel
theorem d_X3_readRightSide_35 : decode prog_5_method_11_code 35 = .ok (.aload_n 0, 1) := by decide +kernel
theorem d_X3_readRightSide_36 : decode prog_5_method_11_code 36 = .ok (.getfield 15, 3) := by decide +kernel
theorem d_X3_readRightSide_39 : decode prog_5_method_11_code 39 = .ok (.iload_n 1, 1) := by decide +kernel
theorem d_X3_readRightSide_40 : decode prog_5_method_11_code 40 = .ok (.iconst 0, 1) := by decide +kernel
theorem d_X3_readRightSide_41 : decode prog_5_method_11_code 41 = .ok (.iadd, 1) := by decide +kernel
theorem d_X3_readRightSide_42 : decode prog_5_method_11_code 42 = .ok (.iload_n 2, 1) := by decide +kernel
theorem d_X3_readRightSide_43 : decode prog_5_method_11_code 43 = .ok (.iastore, 1) := by decide +kernel
theorem d_X3_readRightSide_44 : decode prog_5_method_11_code 44 = .ok (.aload_n 0, 1) := by decide +kernel
theorem d_X3_readRightSide_45 : decode prog_5_method_11_code 45 = .ok (.dup, 1) := by decide +kernel
theorem d_X3_readRightSide_46 : decode prog_5_method_11_code 46 = .ok (.getfield 39, 3) := by decide +kernel
theorem d_X3_readRightSide_49 : decode prog_5_method_11_code 49 = .ok (.iconst 1, 1) := by decide +kernel
theorem d_X3_readRightSide_50 : decode prog_5_method_11_code 50 = .ok (.iadd, 1) := by decide +kernel
theorem d_X3_readRightSide_51 : decode prog_5_method_11_code 51 = .ok (.putfield 39, 3) := by decide +kernel
theorem d_X3_readRightSide_54 : decode prog_5_method_11_code 54 = .ok (.iload_n 2, 1) := by decide +kernel
theorem d_X3_readRightSide_55 : decode prog_5_method_11_code 55 = .ok (.lookupswitch 87 #[(65, 33), (67, 57), (74, 81)], 33) := by decide +kernel
theorem d_X3_readRightSide_88 : decode prog_5_method_11_code 88 = .ok (.aload_n 0, 1) := by decide +kernel
theorem d_X3_readRightSide_89 : decode prog_5_method_11_code 89 = .ok (.iload_n 1, 1) := by decide +kernel
theorem d_X3_readRightSide_90 : decode prog_5_method_11_code 90 = .ok (.bipush 57, 2) := by decide +kernel
theorem d_X3_readRightSide_92 : decode prog_5_method_11_code 92 = .ok (.invokevirtual 85, 3) := by decide +kernel
theorem d_X3_readRightSide_95 : decode prog_5_method_11_code 95 = .ok (.ifCond .eq 15, 3) := by decide +kernel
theorem d_X3_readRightSide_98 : decode prog_5_method_11_code 98 = .ok (.aload_n 0, 1) := by decide +kernel
theorem d_X3_readRightSide_99 : decode prog_5_method_11_code 99 = .ok (.iload_n 1, 1) := by decide +kernel
theorem d_X3_readRightSide_100 : decode prog_5_method_11_code 100 = .ok (.invokevirtual 89, 3) := by decide +kernel
theorem d_X3_readRightSide_103 : decode prog_5_method_11_code 103 = .ok (.ifCond .eq 7, 3) := by decide +kernel
theorem d_X3_readRightSide_106 : decode prog_5_method_11_code 106 = .ok (.iconst 1, 1) := by decide +kernel
theorem d_X3_readRightSide_107 : decode prog_5_method_11_code 107 = .ok (.goto 4, 3) := by decide +kernel
theorem d_X3_readRightSide_110 : decode prog_5_method_11_code 110 = .ok (.iconst 0, 1) := by decide +kernel
theorem d_X3_readRightSide_111 : decode prog_5_method_11_code 111 = .ok (.ireturn, 1) := by decide +kernel
theorem d_X3_readRightSide_112 : decode prog_5_method_11_code 112 = .ok (.aload_n 0, 1) := by decide +kernel
theorem d_X3_readRightSide_113 : decode prog_5_method_11_code 113 = .ok (.iload_n 1, 1) := by decide +kernel
theorem d_X3_readRightSide_114 : decode prog_5_method_11_code 114 = .ok (.bipush 55, 2) := by decide +kernel
theorem d_X3_readRightSide_116 : decode prog_5_method_11_code 116 = .ok (.invokevirtual 85, 3) := by decide +kernel
theorem d_X3_readRightSide_119 : decode prog_5_method_11_code 119 = .ok (.ifCond .eq 15, 3) := by decide +kernel
theorem d_X3_readRightSide_122 : decode prog_5_method_11_code 122 = .ok (.aload_n 0, 1) := by decide +kernel
theorem d_X3_readRightSide_123 : decode prog_5_method_11_code 123 = .ok (.iload_n 1, 1) := by decide +kernel
theorem d_X3_readRightSide_124 : decode prog_5_method_11_code 124 = .ok (.invokevirtual 89, 3) := by decide +kernel
theorem d_X3_readRightSide_127 : decode prog_5_method_11_code 127 = .ok (.ifCond .eq 7, 3) := by decide +kernel
theorem d_X3_readRightSide_130 : decode prog_5_method_11_code 130 = .ok (.iconst 1, 1) := by decide +kernel
theorem d_X3_readRightSide_131 : decode prog_5_method_11_code 131 = .ok (.goto 4, 3) := by decide +kernel
theorem d_X3_readRightSide_134 : decode prog_5_method_11_code 134 = .ok (.iconst 0, 1) := by decide +kernel
theorem d_X3_readRightSide_135 : decode prog_5_method_11_code 135 = .ok (.ireturn, 1) := by decide +kernel
theorem d_X3_readRightSide_136 : decode prog_5_method_11_code 136 = .ok (.aload_n 0, 1) := by decide +kernel
theorem d_X3_readRightSide_137 : decode prog_5_method_11_code 137 = .ok (.iload_n 1, 1) := by decide +kernel
theorem d_X3_readRightSide_138 : decode prog_5_method_11_code 138 = .ok (.invokevirtual 89, 3) := by decide +kernel
theorem d_X3_readRightSide_141 : decode prog_5_method_11_code 141 = .ok (.ireturn, 1) := by decide +kernel
theorem d_X3_readRightSide_142 : decode prog_5_method_11_code 142 = .ok (.iconst 1, 1) := by decide +kernel
theorem d_X3_readRightSide_143 : decode prog_5_method_11_code 143 = .ok (.ireturn, 1) := by decide +kernel
abbrev Y_X3_readStep : Yx := (⟨"TaskWeave$Parser", "readStep", "(I)Z"⟩, prog_5_method_10_code, 3, (some .boolean))
abbrev M_X3_readStep : Mx := ("TaskWeave$Parser", prog_5_method_10_code, 3, false)
theorem yk_X3_readStep : Yk Y_X3_readStep 1 := ⟨by decide +kernel, by decide +kernel, ⟨by decide, by decide⟩, by decide +kernel, by decide, trivial⟩
theorem d_X3_readStep_0 : decode prog_5_method_10_code 0 = .ok (.iconst 0, 1) := by decide +kernel
theorem d_X3_readStep_1 : decode prog_5_method_10_code 1 = .ok (.istore_n 2, 1) := by decide +kernel
theorem d_X3_readStep_2 : decode prog_5_method_10_code 2 = .ok (.iload_n 2, 1) := by decide +kernel
theorem d_X3_readStep_3 : decode prog_5_method_10_code 3 = .ok (.bipush 8, 2) := by decide +kernel
theorem d_X3_readStep_5 : decode prog_5_method_10_code 5 = .ok (.if_icmp .ge 18, 3) := by decide +kernel
theorem d_X3_readStep_8 : decode prog_5_method_10_code 8 = .ok (.aload_n 0, 1) := by decide +kernel
theorem d_X3_readStep_9 : decode prog_5_method_10_code 9 = .ok (.getfield 15, 3) := by decide +kernel
theorem d_X3_readStep_12 : decode prog_5_method_10_code 12 = .ok (.iload_n 1, 1) := by decide +kernel
theorem d_X3_readStep_13 : decode prog_5_method_10_code 13 = .ok (.iload_n 2, 1) := by decide +kernel
theorem d_X3_readStep_14 : decode prog_5_method_10_code 14 = .ok (.iadd, 1) := by decide +kernel
theorem d_X3_readStep_15 : decode prog_5_method_10_code 15 = .ok (.iconst 0, 1) := by decide +kernel
theorem d_X3_readStep_16 : decode prog_5_method_10_code 16 = .ok (.iastore, 1) := by decide +kernel
theorem d_X3_readStep_17 : decode prog_5_method_10_code 17 = .ok (.iinc 2 1, 3) := by decide +kernel
theorem d_X3_readStep_20 : decode prog_5_method_10_code 20 = .ok (.goto (-18), 3) := by decide +kernel
theorem d_X3_readStep_23 : decode prog_5_method_10_code 23 = .ok (.aload_n 0, 1) := by decide +kernel
theorem d_X3_readStep_24 : decode prog_5_method_10_code 24 = .ok (.getfield 15, 3) := by decide +kernel
theorem d_X3_readStep_27 : decode prog_5_method_10_code 27 = .ok (.iload_n 1, 1) := by decide +kernel
theorem d_X3_readStep_28 : decode prog_5_method_10_code 28 = .ok (.iconst 4, 1) := by decide +kernel
theorem d_X3_readStep_29 : decode prog_5_method_10_code 29 = .ok (.iadd, 1) := by decide +kernel
theorem d_X3_readStep_30 : decode prog_5_method_10_code 30 = .ok (.iconst (-1), 1) := by decide +kernel
theorem d_X3_readStep_31 : decode prog_5_method_10_code 31 = .ok (.iastore, 1) := by decide +kernel
theorem d_X3_readStep_32 : decode prog_5_method_10_code 32 = .ok (.aload_n 0, 1) := by decide +kernel
theorem d_X3_readStep_33 : decode prog_5_method_10_code 33 = .ok (.getfield 15, 3) := by decide +kernel
theorem d_X3_readStep_36 : decode prog_5_method_10_code 36 = .ok (.iload_n 1, 1) := by decide +kernel
theorem d_X3_readStep_37 : decode prog_5_method_10_code 37 = .ok (.bipush 6, 2) := by decide +kernel
theorem d_X3_readStep_39 : decode prog_5_method_10_code 39 = .ok (.iadd, 1) := by decide +kernel
theorem d_X3_readStep_40 : decode prog_5_method_10_code 40 = .ok (.iconst (-1), 1) := by decide +kernel
theorem d_X3_readStep_41 : decode prog_5_method_10_code 41 = .ok (.iastore, 1) := by decide +kernel
theorem d_X3_readStep_42 : decode prog_5_method_10_code 42 = .ok (.aload_n 0, 1) := by decide +kernel
theorem d_X3_readStep_43 : decode prog_5_method_10_code 43 = .ok (.invokevirtual 75, 3) := by decide +kernel
theorem d_X3_readStep_46 : decode prog_5_method_10_code 46 = .ok (.istore_n 2, 1) := by decide +kernel
theorem d_X3_readStep_47 : decode prog_5_method_10_code 47 = .ok (.iload_n 2, 1) := by decide +kernel
theorem d_X3_readStep_48 : decode prog_5_method_10_code 48 = .ok (.invokestatic 79, 3) := by decide +kernel
theorem d_X3_readStep_51 : decode prog_5_method_10_code 51 = .ok (.ifCond .eq 48, 3) := by decide +kernel
theorem d_X3_readStep_54 : decode prog_5_method_10_code 54 = .ok (.aload_n 0, 1) := by decide +kernel
theorem d_X3_readStep_55 : decode prog_5_method_10_code 55 = .ok (.getfield 15, 3) := by decide +kernel
theorem d_X3_readStep_58 : decode prog_5_method_10_code 58 = .ok (.iload_n 1, 1) := by decide +kernel
theorem d_X3_readStep_59 : decode prog_5_method_10_code 59 = .ok (.iconst 1, 1) := by decide +kernel
theorem d_X3_readStep_60 : decode prog_5_method_10_code 60 = .ok (.iadd, 1) := by decide +kernel
theorem d_X3_readStep_61 : decode prog_5_method_10_code 61 = .ok (.iload_n 2, 1) := by decide +kernel
theorem d_X3_readStep_62 : decode prog_5_method_10_code 62 = .ok (.bipush 97, 2) := by decide +kernel
theorem d_X3_readStep_64 : decode prog_5_method_10_code 64 = .ok (.isub, 1) := by decide +kernel
theorem d_X3_readStep_65 : decode prog_5_method_10_code 65 = .ok (.iastore, 1) := by decide +kernel
theorem d_X3_readStep_66 : decode prog_5_method_10_code 66 = .ok (.aload_n 0, 1) := by decide +kernel
theorem d_X3_readStep_67 : decode prog_5_method_10_code 67 = .ok (.dup, 1) := by decide +kernel
theorem d_X3_readStep_68 : decode prog_5_method_10_code 68 = .ok (.getfield 39, 3) := by decide +kernel
theorem d_X3_readStep_71 : decode prog_5_method_10_code 71 = .ok (.iconst 1, 1) := by decide +kernel
theorem d_X3_readStep_72 : decode prog_5_method_10_code 72 = .ok (.iadd, 1) := by decide +kernel
theorem d_X3_readStep_73 : decode prog_5_method_10_code 73 = .ok (.putfield 39, 3) := by decide +kernel
theorem d_X3_readStep_76 : decode prog_5_method_10_code 76 = .ok (.aload_n 0, 1) := by decide +kernel
theorem d_X3_readStep_77 : decode prog_5_method_10_code 77 = .ok (.bipush 61, 2) := by decide +kernel
theorem d_X3_readStep_79 : decode prog_5_method_10_code 79 = .ok (.invokevirtual 71, 3) := by decide +kernel
theorem d_X3_readStep_82 : decode prog_5_method_10_code 82 = .ok (.ifCond .eq 15, 3) := by decide +kernel
theorem d_X3_readStep_85 : decode prog_5_method_10_code 85 = .ok (.aload_n 0, 1) := by decide +kernel
theorem d_X3_readStep_86 : decode prog_5_method_10_code 86 = .ok (.iload_n 1, 1) := by decide +kernel
theorem d_X3_readStep_87 : decode prog_5_method_10_code 87 = .ok (.invokevirtual 82, 3) := by decide +kernel
theorem d_X3_readStep_90 : decode prog_5_method_10_code 90 = .ok (.ifCond .eq 7, 3) := by decide +kernel
theorem d_X3_readStep_93 : decode prog_5_method_10_code 93 = .ok (.iconst 1, 1) := by decide +kernel
theorem d_X3_readStep_94 : decode prog_5_method_10_code 94 = .ok (.goto 4, 3) := by decide +kernel
theorem d_X3_readStep_97 : decode prog_5_method_10_code 97 = .ok (.iconst 0, 1) := by decide +kernel
theorem d_X3_readStep_98 : decode prog_5_method_10_code 98 = .ok (.ireturn, 1) := by decide +kernel
theorem d_X3_readStep_99 : decode prog_5_method_10_code 99 = .ok (.iload_n 2, 1) := by decide +kernel
theorem d_X3_readStep_100 : decode prog_5_method_10_code 100 = .ok (.bipush 84, 2) := by decide +kernel
theorem d_X3_readStep_102 : decode prog_5_method_10_code 102 = .ok (.if_icmp .eq 29, 3) := by decide +kernel
theorem d_X3_readStep_105 : decode prog_5_method_10_code 105 = .ok (.iload_n 2, 1) := by decide +kernel
theorem d_X3_readStep_106 : decode prog_5_method_10_code 106 = .ok (.bipush 83, 2) := by decide +kernel
theorem d_X3_readStep_108 : decode prog_5_method_10_code 108 = .ok (.if_icmp .eq 23, 3) := by decide +kernel
theorem d_X3_readStep_111 : decode prog_5_method_10_code 111 = .ok (.iload_n 2, 1) := by decide +kernel
theorem d_X3_readStep_112 : decode prog_5_method_10_code 112 = .ok (.bipush 73, 2) := by decide +kernel
theorem d_X3_readStep_114 : decode prog_5_method_10_code 114 = .ok (.if_icmp .eq 17, 3) := by decide +kernel
theorem d_X3_readStep_117 : decode prog_5_method_10_code 117 = .ok (.iload_n 2, 1) := by decide +kernel
theorem d_X3_readStep_118 : decode prog_5_method_10_code 118 = .ok (.bipush 71, 2) := by decide +kernel
theorem d_X3_readStep_120 : decode prog_5_method_10_code 120 = .ok (.if_icmp .eq 11, 3) := by decide +kernel
theorem d_X3_readStep_123 : decode prog_5_method_10_code 123 = .ok (.iload_n 2, 1) := by decide +kernel
theorem d_X3_readStep_124 : decode prog_5_method_10_code 124 = .ok (.bipush 69, 2) := by decide +kernel
theorem d_X3_readStep_126 : decode prog_5_method_10_code 126 = .ok (.if_icmp .eq 5, 3) := by decide +kernel
theorem d_X3_readStep_129 : decode prog_5_method_10_code 129 = .ok (.iconst 0, 1) := by decide +kernel
theorem d_X3_readStep_130 : decode prog_5_method_10_code 130 = .ok (.ireturn, 1) := by decide +kernel
theorem d_X3_readStep_131 : decode prog_5_method_10_code 131 = .ok (.aload_n 0, 1) := by decide +kernel
theorem d_X3_readStep_132 : decode prog_5_method_10_code 132 = .ok (.getfield 15, 3) := by decide +kernel
theorem d_X3_readStep_135 : decode prog_5_method_10_code 135 = .ok (.iload_n 1, 1) := by decide +kernel
theorem d_X3_readStep_136 : decode prog_5_method_10_code 136 = .ok (.iconst 0, 1) := by decide +kernel
theorem d_X3_readStep_137 : decode prog_5_method_10_code 137 = .ok (.iadd, 1) := by decide +kernel
theorem d_X3_readStep_138 : decode prog_5_method_10_code 138 = .ok (.iload_n 2, 1) := by decide +kernel
theorem d_X3_readStep_139 : decode prog_5_method_10_code 139 = .ok (.iastore, 1) := by decide +kernel
theorem d_X3_readStep_140 : decode prog_5_method_10_code 140 = .ok (.aload_n 0, 1) := by decide +kernel
theorem d_X3_readStep_141 : decode prog_5_method_10_code 141 = .ok (.dup, 1) := by decide +kernel
theorem d_X3_readStep_142 : decode prog_5_method_10_code 142 = .ok (.getfield 39, 3) := by decide +kernel
theorem d_X3_readStep_145 : decode prog_5_method_10_code 145 = .ok (.iconst 1, 1) := by decide +kernel
theorem d_X3_readStep_146 : decode prog_5_method_10_code 146 = .ok (.iadd, 1) := by decide +kernel
theorem d_X3_readStep_147 : decode prog_5_method_10_code 147 = .ok (.putfield 39, 3) := by decide +kernel
theorem d_X3_readStep_150 : decode prog_5_method_10_code 150 = .ok (.iload_n 2, 1) := by decide +kernel
theorem d_X3_readStep_151 : decode prog_5_method_10_code 151 = .ok (.lookupswitch 119 #[(71, 33), (73, 41), (83, 65)], 33) := by decide +kernel
theorem d_X3_readStep_184 : decode prog_5_method_10_code 184 = .ok (.aload_n 0, 1) := by decide +kernel
theorem d_X3_readStep_185 : decode prog_5_method_10_code 185 = .ok (.iload_n 1, 1) := by decide +kernel
theorem d_X3_readStep_186 : decode prog_5_method_10_code 186 = .ok (.bipush 57, 2) := by decide +kernel
theorem d_X3_readStep_188 : decode prog_5_method_10_code 188 = .ok (.invokevirtual 85, 3) := by decide +kernel
theorem d_X3_readStep_191 : decode prog_5_method_10_code 191 = .ok (.ireturn, 1) := by decide +kernel
theorem d_X3_readStep_192 : decode prog_5_method_10_code 192 = .ok (.aload_n 0, 1) := by decide +kernel
theorem d_X3_readStep_193 : decode prog_5_method_10_code 193 = .ok (.iload_n 1, 1) := by decide +kernel
theorem d_X3_readStep_194 : decode prog_5_method_10_code 194 = .ok (.invokevirtual 89, 3) := by decide +kernel
theorem d_X3_readStep_197 : decode prog_5_method_10_code 197 = .ok (.ifCond .eq 17, 3) := by decide +kernel
theorem d_X3_readStep_200 : decode prog_5_method_10_code 200 = .ok (.aload_n 0, 1) := by decide +kernel
theorem d_X3_readStep_201 : decode prog_5_method_10_code 201 = .ok (.iload_n 1, 1) := by decide +kernel
theorem d_X3_readStep_202 : decode prog_5_method_10_code 202 = .ok (.bipush 57, 2) := by decide +kernel
theorem d_X3_readStep_204 : decode prog_5_method_10_code 204 = .ok (.invokevirtual 85, 3) := by decide +kernel
theorem d_X3_readStep_207 : decode prog_5_method_10_code 207 = .ok (.ifCond .eq 7, 3) := by decide +kernel
theorem d_X3_readStep_210 : decode prog_5_method_10_code 210 = .ok (.iconst 1, 1) := by decide +kernel
theorem d_X3_readStep_211 : decode prog_5_method_10_code 211 = .ok (.goto 4, 3) := by decide +kernel
theorem d_X3_readStep_214 : decode prog_5_method_10_code 214 = .ok (.iconst 0, 1) := by decide +kernel
theorem d_X3_readStep_215 : decode prog_5_method_10_code 215 = .ok (.ireturn, 1) := by decide +kernel
theorem d_X3_readStep_216 : decode prog_5_method_10_code 216 = .ok (.aload_n 0, 1) := by decide +kernel
theorem d_X3_readStep_217 : decode prog_5_method_10_code 217 = .ok (.bipush 40, 2) := by decide +kernel
theorem d_X3_readStep_219 : decode prog_5_method_10_code 219 = .ok (.invokevirtual 71, 3) := by decide +kernel
theorem d_X3_readStep_222 : decode prog_5_method_10_code 222 = .ok (.ifCond .eq 46, 3) := by decide +kernel
theorem d_X3_readStep_225 : decode prog_5_method_10_code 225 = .ok (.aload_n 0, 1) := by decide +kernel
theorem d_X3_readStep_226 : decode prog_5_method_10_code 226 = .ok (.iload_n 1, 1) := by decide +kernel
theorem d_X3_readStep_227 : decode prog_5_method_10_code 227 = .ok (.iconst 4, 1) := by decide +kernel
theorem d_X3_readStep_228 : decode prog_5_method_10_code 228 = .ok (.iadd, 1) := by decide +kernel
theorem d_X3_readStep_229 : decode prog_5_method_10_code 229 = .ok (.invokevirtual 92, 3) := by decide +kernel
theorem d_X3_readStep_232 : decode prog_5_method_10_code 232 = .ok (.ifCond .eq 36, 3) := by decide +kernel
theorem d_X3_readStep_235 : decode prog_5_method_10_code 235 = .ok (.aload_n 0, 1) := by decide +kernel
theorem d_X3_readStep_236 : decode prog_5_method_10_code 236 = .ok (.bipush 44, 2) := by decide +kernel
theorem d_X3_readStep_238 : decode prog_5_method_10_code 238 = .ok (.invokevirtual 71, 3) := by decide +kernel
theorem d_X3_readStep_241 : decode prog_5_method_10_code 241 = .ok (.ifCond .eq 27, 3) := by decide +kernel
theorem d_X3_readStep_244 : decode prog_5_method_10_code 244 = .ok (.aload_n 0, 1) := by decide +kernel
theorem d_X3_readStep_245 : decode prog_5_method_10_code 245 = .ok (.iload_n 1, 1) := by decide +kernel
theorem d_X3_readStep_246 : decode prog_5_method_10_code 246 = .ok (.bipush 6, 2) := by decide +kernel
theorem d_X3_readStep_248 : decode prog_5_method_10_code 248 = .ok (.iadd, 1) := by decide +kernel
theorem d_X3_readStep_249 : decode prog_5_method_10_code 249 = .ok (.invokevirtual 92, 3) := by decide +kernel
theorem d_X3_readStep_252 : decode prog_5_method_10_code 252 = .ok (.ifCond .eq 16, 3) := by decide +kernel
theorem d_X3_readStep_255 : decode prog_5_method_10_code 255 = .ok (.aload_n 0, 1) := by decide +kernel
theorem d_X3_readStep_256 : decode prog_5_method_10_code 256 = .ok (.bipush 41, 2) := by decide +kernel
theorem d_X3_readStep_258 : decode prog_5_method_10_code 258 = .ok (.invokevirtual 71, 3) := by decide +kernel
theorem d_X3_readStep_261 : decode prog_5_method_10_code 261 = .ok (.ifCond .eq 7, 3) := by decide +kernel
theorem d_X3_readStep_264 : decode prog_5_method_10_code 264 = .ok (.iconst 1, 1) := by decide +kernel
theorem d_X3_readStep_265 : decode prog_5_method_10_code 265 = .ok (.goto 4, 3) := by decide +kernel
theorem d_X3_readStep_268 : decode prog_5_method_10_code 268 = .ok (.iconst 0, 1) := by decide +kernel
theorem d_X3_readStep_269 : decode prog_5_method_10_code 269 = .ok (.ireturn, 1) := by decide +kernel
theorem d_X3_readStep_270 : decode prog_5_method_10_code 270 = .ok (.aload_n 0, 1) := by decide +kernel
theorem d_X3_readStep_271 : decode prog_5_method_10_code 271 = .ok (.iload_n 1, 1) := by decide +kernel
theorem d_X3_readStep_272 : decode prog_5_method_10_code 272 = .ok (.invokevirtual 89, 3) := by decide +kernel
theorem d_X3_readStep_275 : decode prog_5_method_10_code 275 = .ok (.ireturn, 1) := by decide +kernel
abbrev Y_X3_readSteps : Yx := (⟨"TaskWeave$Parser", "readSteps", "()I"⟩, prog_5_method_5_code, 2, (some .int))
abbrev M_X3_readSteps : Mx := ("TaskWeave$Parser", prog_5_method_5_code, 2, false)
theorem yk_X3_readSteps : Yk Y_X3_readSteps 0 := ⟨by decide +kernel, by decide +kernel, ⟨by decide, by decide⟩, by decide +kernel, by decide, trivial⟩
theorem d_X3_readSteps_0 : decode prog_5_method_5_code 0 = .ok (.aload_n 0, 1) := by decide +kernel
theorem d_X3_readSteps_1 : decode prog_5_method_5_code 1 = .ok (.getfield 19, 3) := by decide +kernel
theorem d_X3_readSteps_4 : decode prog_5_method_5_code 4 = .ok (.iconst (-1), 1) := by decide +kernel
theorem d_X3_readSteps_5 : decode prog_5_method_5_code 5 = .ok (.invokestatic 60, 3) := by decide +kernel
theorem d_X3_readSteps_8 : decode prog_5_method_5_code 8 = .ok (.aload_n 0, 1) := by decide +kernel
theorem d_X3_readSteps_9 : decode prog_5_method_5_code 9 = .ok (.iconst 0, 1) := by decide +kernel
theorem d_X3_readSteps_10 : decode prog_5_method_5_code 10 = .ok (.putfield 39, 3) := by decide +kernel
theorem d_X3_readSteps_13 : decode prog_5_method_5_code 13 = .ok (.iconst 0, 1) := by decide +kernel
theorem d_X3_readSteps_14 : decode prog_5_method_5_code 14 = .ok (.istore_n 1, 1) := by decide +kernel
theorem d_X3_readSteps_15 : decode prog_5_method_5_code 15 = .ok (.iload_n 1, 1) := by decide +kernel
theorem d_X3_readSteps_16 : decode prog_5_method_5_code 16 = .ok (.bipush 60, 2) := by decide +kernel
theorem d_X3_readSteps_18 : decode prog_5_method_5_code 18 = .ok (.if_icmp .ge 50, 3) := by decide +kernel
theorem d_X3_readSteps_21 : decode prog_5_method_5_code 21 = .ok (.aload_n 0, 1) := by decide +kernel
theorem d_X3_readSteps_22 : decode prog_5_method_5_code 22 = .ok (.getfield 39, 3) := by decide +kernel
theorem d_X3_readSteps_25 : decode prog_5_method_5_code 25 = .ok (.aload_n 0, 1) := by decide +kernel
theorem d_X3_readSteps_26 : decode prog_5_method_5_code 26 = .ok (.getfield 26, 3) := by decide +kernel
theorem d_X3_readSteps_29 : decode prog_5_method_5_code 29 = .ok (.if_icmp .ge 39, 3) := by decide +kernel
theorem d_X3_readSteps_32 : decode prog_5_method_5_code 32 = .ok (.aload_n 0, 1) := by decide +kernel
theorem d_X3_readSteps_33 : decode prog_5_method_5_code 33 = .ok (.iload_n 1, 1) := by decide +kernel
theorem d_X3_readSteps_34 : decode prog_5_method_5_code 34 = .ok (.invokevirtual 64, 3) := by decide +kernel
theorem d_X3_readSteps_37 : decode prog_5_method_5_code 37 = .ok (.ifCond .eq 23, 3) := by decide +kernel
theorem d_X3_readSteps_40 : decode prog_5_method_5_code 40 = .ok (.aload_n 0, 1) := by decide +kernel
theorem d_X3_readSteps_41 : decode prog_5_method_5_code 41 = .ok (.iload_n 1, 1) := by decide +kernel
theorem d_X3_readSteps_42 : decode prog_5_method_5_code 42 = .ok (.bipush 8, 2) := by decide +kernel
theorem d_X3_readSteps_44 : decode prog_5_method_5_code 44 = .ok (.imul, 1) := by decide +kernel
theorem d_X3_readSteps_45 : decode prog_5_method_5_code 45 = .ok (.invokevirtual 68, 3) := by decide +kernel
theorem d_X3_readSteps_48 : decode prog_5_method_5_code 48 = .ok (.ifCond .eq 12, 3) := by decide +kernel
theorem d_X3_readSteps_51 : decode prog_5_method_5_code 51 = .ok (.aload_n 0, 1) := by decide +kernel
theorem d_X3_readSteps_52 : decode prog_5_method_5_code 52 = .ok (.bipush 59, 2) := by decide +kernel
theorem d_X3_readSteps_54 : decode prog_5_method_5_code 54 = .ok (.invokevirtual 71, 3) := by decide +kernel
theorem d_X3_readSteps_57 : decode prog_5_method_5_code 57 = .ok (.ifCond .ne 5, 3) := by decide +kernel
theorem d_X3_readSteps_60 : decode prog_5_method_5_code 60 = .ok (.iconst (-1), 1) := by decide +kernel
theorem d_X3_readSteps_61 : decode prog_5_method_5_code 61 = .ok (.ireturn, 1) := by decide +kernel
theorem d_X3_readSteps_62 : decode prog_5_method_5_code 62 = .ok (.iinc 1 1, 3) := by decide +kernel
theorem d_X3_readSteps_65 : decode prog_5_method_5_code 65 = .ok (.goto (-50), 3) := by decide +kernel
theorem d_X3_readSteps_68 : decode prog_5_method_5_code 68 = .ok (.aload_n 0, 1) := by decide +kernel
theorem d_X3_readSteps_69 : decode prog_5_method_5_code 69 = .ok (.getfield 39, 3) := by decide +kernel
theorem d_X3_readSteps_72 : decode prog_5_method_5_code 72 = .ok (.aload_n 0, 1) := by decide +kernel
theorem d_X3_readSteps_73 : decode prog_5_method_5_code 73 = .ok (.getfield 26, 3) := by decide +kernel
theorem d_X3_readSteps_76 : decode prog_5_method_5_code 76 = .ok (.if_icmp .ge 7, 3) := by decide +kernel
theorem d_X3_readSteps_79 : decode prog_5_method_5_code 79 = .ok (.iconst (-1), 1) := by decide +kernel
theorem d_X3_readSteps_80 : decode prog_5_method_5_code 80 = .ok (.goto 4, 3) := by decide +kernel
theorem d_X3_readSteps_83 : decode prog_5_method_5_code 83 = .ok (.iload_n 1, 1) := by decide +kernel
theorem d_X3_readSteps_84 : decode prog_5_method_5_code 84 = .ok (.ireturn, 1) := by decide +kernel
abbrev Y_X4_init : Yx := (⟨"TaskWeave$Program", "<init>", "(I[I)V"⟩, prog_6_method_1_code, 3, none)
abbrev M_X4_init : Mx := ("TaskWeave$Program", prog_6_method_1_code, 3, true)
theorem yk_X4_init : Yk Y_X4_init 2 := ⟨by decide +kernel, by decide +kernel, ⟨by decide, by decide⟩, by decide +kernel, by decide, trivial⟩
theorem d_X4_init_0 : decode prog_6_method_1_code 0 = .ok (.aload_n 0, 1) := by decide +kernel
theorem d_X4_init_1 : decode prog_6_method_1_code 1 = .ok (.invokespecial 1, 3) := by decide +kernel
theorem d_X4_init_4 : decode prog_6_method_1_code 4 = .ok (.aload_n 0, 1) := by decide +kernel
theorem d_X4_init_5 : decode prog_6_method_1_code 5 = .ok (.iload_n 1, 1) := by decide +kernel
theorem d_X4_init_6 : decode prog_6_method_1_code 6 = .ok (.putfield 7, 3) := by decide +kernel
theorem d_X4_init_9 : decode prog_6_method_1_code 9 = .ok (.aload_n 0, 1) := by decide +kernel
theorem d_X4_init_10 : decode prog_6_method_1_code 10 = .ok (.aload_n 2, 1) := by decide +kernel
theorem d_X4_init_11 : decode prog_6_method_1_code 11 = .ok (.putfield 13, 3) := by decide +kernel
theorem d_X4_init_14 : decode prog_6_method_1_code 14 = .ok (.return_, 1) := by decide +kernel
abbrev Y_X3_parse : Yx := (⟨"TaskWeave$Parser", "parse", "()LTaskWeave$Program;"⟩, prog_5_method_4_code, 3, (some (.object "TaskWeave$Program")))
abbrev M_X3_parse : Mx := ("TaskWeave$Parser", prog_5_method_4_code, 3, false)
theorem yk_X3_parse : Yk Y_X3_parse 0 := ⟨by decide +kernel, by decide +kernel, ⟨by decide, by decide⟩, by decide +kernel, by decide, trivial⟩
theorem d_X3_parse_0 : decode prog_5_method_4_code 0 = .ok (.aload_n 0, 1) := by decide +kernel
theorem d_X3_parse_1 : decode prog_5_method_4_code 1 = .ok (.invokevirtual 35, 3) := by decide +kernel
theorem d_X3_parse_4 : decode prog_5_method_4_code 4 = .ok (.istore_n 1, 1) := by decide +kernel
theorem d_X3_parse_5 : decode prog_5_method_4_code 5 = .ok (.iload_n 1, 1) := by decide +kernel
theorem d_X3_parse_6 : decode prog_5_method_4_code 6 = .ok (.iconst (-1), 1) := by decide +kernel
theorem d_X3_parse_7 : decode prog_5_method_4_code 7 = .ok (.if_icmp .ne 10, 3) := by decide +kernel
theorem d_X3_parse_10 : decode prog_5_method_4_code 10 = .ok (.aload_n 0, 1) := by decide +kernel
theorem d_X3_parse_11 : decode prog_5_method_4_code 11 = .ok (.getfield 39, 3) := by decide +kernel
theorem d_X3_parse_14 : decode prog_5_method_4_code 14 = .ok (.goto 8, 3) := by decide +kernel
theorem d_X3_parse_17 : decode prog_5_method_4_code 17 = .ok (.aload_n 0, 1) := by decide +kernel
theorem d_X3_parse_18 : decode prog_5_method_4_code 18 = .ok (.iload_n 1, 1) := by decide +kernel
theorem d_X3_parse_19 : decode prog_5_method_4_code 19 = .ok (.invokevirtual 42, 3) := by decide +kernel
theorem d_X3_parse_22 : decode prog_5_method_4_code 22 = .ok (.istore_n 2, 1) := by decide +kernel
theorem d_X3_parse_23 : decode prog_5_method_4_code 23 = .ok (.aload_n 0, 1) := by decide +kernel
theorem d_X3_parse_24 : decode prog_5_method_4_code 24 = .ok (.invokevirtual 46, 3) := by decide +kernel
theorem d_X3_parse_27 : decode prog_5_method_4_code 27 = .ok (.aload_n 0, 1) := by decide +kernel
theorem d_X3_parse_28 : decode prog_5_method_4_code 28 = .ok (.iload_n 2, 1) := by decide +kernel
theorem d_X3_parse_29 : decode prog_5_method_4_code 29 = .ok (.putfield 22, 3) := by decide +kernel
theorem d_X3_parse_32 : decode prog_5_method_4_code 32 = .ok (.iload_n 2, 1) := by decide +kernel
theorem d_X3_parse_33 : decode prog_5_method_4_code 33 = .ok (.iconst (-1), 1) := by decide +kernel
theorem d_X3_parse_34 : decode prog_5_method_4_code 34 = .ok (.if_icmp .ne 25, 3) := by decide +kernel
theorem d_X3_parse_37 : decode prog_5_method_4_code 37 = .ok (.new 49, 3) := by decide +kernel
theorem d_X3_parse_40 : decode prog_5_method_4_code 40 = .ok (.dup, 1) := by decide +kernel
theorem d_X3_parse_41 : decode prog_5_method_4_code 41 = .ok (.iload_n 1, 1) := by decide +kernel
theorem d_X3_parse_42 : decode prog_5_method_4_code 42 = .ok (.aload_n 0, 1) := by decide +kernel
theorem d_X3_parse_43 : decode prog_5_method_4_code 43 = .ok (.getfield 15, 3) := by decide +kernel
theorem d_X3_parse_46 : decode prog_5_method_4_code 46 = .ok (.iload_n 1, 1) := by decide +kernel
theorem d_X3_parse_47 : decode prog_5_method_4_code 47 = .ok (.bipush 8, 2) := by decide +kernel
theorem d_X3_parse_49 : decode prog_5_method_4_code 49 = .ok (.imul, 1) := by decide +kernel
theorem d_X3_parse_50 : decode prog_5_method_4_code 50 = .ok (.invokestatic 51, 3) := by decide +kernel
theorem d_X3_parse_53 : decode prog_5_method_4_code 53 = .ok (.invokespecial 57, 3) := by decide +kernel
theorem d_X3_parse_56 : decode prog_5_method_4_code 56 = .ok (.goto 4, 3) := by decide +kernel
theorem d_X3_parse_59 : decode prog_5_method_4_code 59 = .ok (.aconst_null, 1) := by decide +kernel
theorem d_X3_parse_60 : decode prog_5_method_4_code 60 = .ok (.areturn, 1) := by decide +kernel
abbrev Y_X5_init : Yx := (⟨"TaskWeave$Replica", "<init>", "(I)V"⟩, prog_7_method_1_code, 2, none)
abbrev M_X5_init : Mx := ("TaskWeave$Replica", prog_7_method_1_code, 2, true)
theorem yk_X5_init : Yk Y_X5_init 1 := ⟨by decide +kernel, by decide +kernel, ⟨by decide, by decide⟩, by decide +kernel, by decide, trivial⟩
theorem d_X5_init_0 : decode prog_7_method_1_code 0 = .ok (.aload_n 0, 1) := by decide +kernel
theorem d_X5_init_1 : decode prog_7_method_1_code 1 = .ok (.invokespecial 3, 3) := by decide +kernel
theorem d_X5_init_4 : decode prog_7_method_1_code 4 = .ok (.aload_n 0, 1) := by decide +kernel
theorem d_X5_init_5 : decode prog_7_method_1_code 5 = .ok (.sipush 512, 3) := by decide +kernel
theorem d_X5_init_8 : decode prog_7_method_1_code 8 = .ok (.newarray .byte, 2) := by decide +kernel
theorem d_X5_init_10 : decode prog_7_method_1_code 10 = .ok (.putfield 9, 3) := by decide +kernel
theorem d_X5_init_13 : decode prog_7_method_1_code 13 = .ok (.aload_n 0, 1) := by decide +kernel
theorem d_X5_init_14 : decode prog_7_method_1_code 14 = .ok (.iconst 1, 1) := by decide +kernel
theorem d_X5_init_15 : decode prog_7_method_1_code 15 = .ok (.putfield 15, 3) := by decide +kernel
theorem d_X5_init_18 : decode prog_7_method_1_code 18 = .ok (.aload_n 0, 1) := by decide +kernel
theorem d_X5_init_19 : decode prog_7_method_1_code 19 = .ok (.iconst (-1), 1) := by decide +kernel
theorem d_X5_init_20 : decode prog_7_method_1_code 20 = .ok (.putfield 19, 3) := by decide +kernel
theorem d_X5_init_23 : decode prog_7_method_1_code 23 = .ok (.aload_n 0, 1) := by decide +kernel
theorem d_X5_init_24 : decode prog_7_method_1_code 24 = .ok (.iload_n 1, 1) := by decide +kernel
theorem d_X5_init_25 : decode prog_7_method_1_code 25 = .ok (.putfield 23, 3) := by decide +kernel
theorem d_X5_init_28 : decode prog_7_method_1_code 28 = .ok (.return_, 1) := by decide +kernel
abbrev Y_X5_byteAt : Yx := (⟨"TaskWeave$Replica", "byteAt", "(I)I"⟩, prog_7_method_2_code, 2, (some .int))
abbrev M_X5_byteAt : Mx := ("TaskWeave$Replica", prog_7_method_2_code, 2, false)
theorem yk_X5_byteAt : Yk Y_X5_byteAt 1 := ⟨by decide +kernel, by decide +kernel, ⟨by decide, by decide⟩, by decide +kernel, by decide, trivial⟩
theorem d_X5_byteAt_0 : decode prog_7_method_2_code 0 = .ok (.iload_n 1, 1) := by decide +kernel
theorem d_X5_byteAt_1 : decode prog_7_method_2_code 1 = .ok (.ifCond .lt 24, 3) := by decide +kernel
theorem d_X5_byteAt_4 : decode prog_7_method_2_code 4 = .ok (.iload_n 1, 1) := by decide +kernel
theorem d_X5_byteAt_5 : decode prog_7_method_2_code 5 = .ok (.aload_n 0, 1) := by decide +kernel
theorem d_X5_byteAt_6 : decode prog_7_method_2_code 6 = .ok (.getfield 26, 3) := by decide +kernel
theorem d_X5_byteAt_9 : decode prog_7_method_2_code 9 = .ok (.if_icmp .ge 16, 3) := by decide +kernel
theorem d_X5_byteAt_12 : decode prog_7_method_2_code 12 = .ok (.aload_n 0, 1) := by decide +kernel
theorem d_X5_byteAt_13 : decode prog_7_method_2_code 13 = .ok (.getfield 9, 3) := by decide +kernel
theorem d_X5_byteAt_16 : decode prog_7_method_2_code 16 = .ok (.iload_n 1, 1) := by decide +kernel
theorem d_X5_byteAt_17 : decode prog_7_method_2_code 17 = .ok (.baload, 1) := by decide +kernel
theorem d_X5_byteAt_18 : decode prog_7_method_2_code 18 = .ok (.sipush 255, 3) := by decide +kernel
theorem d_X5_byteAt_21 : decode prog_7_method_2_code 21 = .ok (.iand, 1) := by decide +kernel
theorem d_X5_byteAt_22 : decode prog_7_method_2_code 22 = .ok (.goto 4, 3) := by decide +kernel
theorem d_X5_byteAt_25 : decode prog_7_method_2_code 25 = .ok (.iconst 0, 1) := by decide +kernel
theorem d_X5_byteAt_26 : decode prog_7_method_2_code 26 = .ok (.ireturn, 1) := by decide +kernel
abbrev Y_X5_wordAt : Yx := (⟨"TaskWeave$Replica", "wordAt", "(I)I"⟩, prog_7_method_3_code, 2, (some .int))
abbrev M_X5_wordAt : Mx := ("TaskWeave$Replica", prog_7_method_3_code, 2, false)
theorem yk_X5_wordAt : Yk Y_X5_wordAt 1 := ⟨by decide +kernel, by decide +kernel, ⟨by decide, by decide⟩, by decide +kernel, by decide, trivial⟩
theorem d_X5_wordAt_0 : decode prog_7_method_3_code 0 = .ok (.aload_n 0, 1) := by decide +kernel
theorem d_X5_wordAt_1 : decode prog_7_method_3_code 1 = .ok (.iload_n 1, 1) := by decide +kernel
theorem d_X5_wordAt_2 : decode prog_7_method_3_code 2 = .ok (.invokevirtual 29, 3) := by decide +kernel
theorem d_X5_wordAt_5 : decode prog_7_method_3_code 5 = .ok (.bipush 24, 2) := by decide +kernel
theorem d_X5_wordAt_7 : decode prog_7_method_3_code 7 = .ok (.ishl, 1) := by decide +kernel
theorem d_X5_wordAt_8 : decode prog_7_method_3_code 8 = .ok (.aload_n 0, 1) := by decide +kernel
theorem d_X5_wordAt_9 : decode prog_7_method_3_code 9 = .ok (.iload_n 1, 1) := by decide +kernel
theorem d_X5_wordAt_10 : decode prog_7_method_3_code 10 = .ok (.iconst 1, 1) := by decide +kernel
theorem d_X5_wordAt_11 : decode prog_7_method_3_code 11 = .ok (.iadd, 1) := by decide +kernel
theorem d_X5_wordAt_12 : decode prog_7_method_3_code 12 = .ok (.invokevirtual 29, 3) := by decide +kernel
theorem d_X5_wordAt_15 : decode prog_7_method_3_code 15 = .ok (.bipush 16, 2) := by decide +kernel
theorem d_X5_wordAt_17 : decode prog_7_method_3_code 17 = .ok (.ishl, 1) := by decide +kernel
theorem d_X5_wordAt_18 : decode prog_7_method_3_code 18 = .ok (.ior, 1) := by decide +kernel
theorem d_X5_wordAt_19 : decode prog_7_method_3_code 19 = .ok (.aload_n 0, 1) := by decide +kernel
theorem d_X5_wordAt_20 : decode prog_7_method_3_code 20 = .ok (.iload_n 1, 1) := by decide +kernel
theorem d_X5_wordAt_21 : decode prog_7_method_3_code 21 = .ok (.iconst 2, 1) := by decide +kernel
theorem d_X5_wordAt_22 : decode prog_7_method_3_code 22 = .ok (.iadd, 1) := by decide +kernel
theorem d_X5_wordAt_23 : decode prog_7_method_3_code 23 = .ok (.invokevirtual 29, 3) := by decide +kernel
theorem d_X5_wordAt_26 : decode prog_7_method_3_code 26 = .ok (.bipush 8, 2) := by decide +kernel
theorem d_X5_wordAt_28 : decode prog_7_method_3_code 28 = .ok (.ishl, 1) := by decide +kernel
theorem d_X5_wordAt_29 : decode prog_7_method_3_code 29 = .ok (.ior, 1) := by decide +kernel
theorem d_X5_wordAt_30 : decode prog_7_method_3_code 30 = .ok (.aload_n 0, 1) := by decide +kernel
theorem d_X5_wordAt_31 : decode prog_7_method_3_code 31 = .ok (.iload_n 1, 1) := by decide +kernel
theorem d_X5_wordAt_32 : decode prog_7_method_3_code 32 = .ok (.iconst 3, 1) := by decide +kernel
theorem d_X5_wordAt_33 : decode prog_7_method_3_code 33 = .ok (.iadd, 1) := by decide +kernel
theorem d_X5_wordAt_34 : decode prog_7_method_3_code 34 = .ok (.invokevirtual 29, 3) := by decide +kernel
theorem d_X5_wordAt_37 : decode prog_7_method_3_code 37 = .ok (.ior, 1) := by decide +kernel
theorem d_X5_wordAt_38 : decode prog_7_method_3_code 38 = .ok (.ireturn, 1) := by decide +kernel
abbrev Y_X5_lastTerm : Yx := (⟨"TaskWeave$Replica", "lastTerm", "()I"⟩, prog_7_method_4_code, 2, (some .int))
abbrev M_X5_lastTerm : Mx := ("TaskWeave$Replica", prog_7_method_4_code, 2, false)
theorem yk_X5_lastTerm : Yk Y_X5_lastTerm 0 := ⟨by decide +kernel, by decide +kernel, ⟨by decide, by decide⟩, by decide +kernel, by decide, trivial⟩
theorem d_X5_lastTerm_0 : decode prog_7_method_4_code 0 = .ok (.aload_n 0, 1) := by decide +kernel
theorem d_X5_lastTerm_1 : decode prog_7_method_4_code 1 = .ok (.getfield 26, 3) := by decide +kernel
theorem d_X5_lastTerm_4 : decode prog_7_method_4_code 4 = .ok (.bipush 16, 2) := by decide +kernel
theorem d_X5_lastTerm_6 : decode prog_7_method_4_code 6 = .ok (.isub, 1) := by decide +kernel
theorem d_X5_lastTerm_7 : decode prog_7_method_4_code 7 = .ok (.istore_n 1, 1) := by decide +kernel
theorem d_X5_lastTerm_8 : decode prog_7_method_4_code 8 = .ok (.iload_n 1, 1) := by decide +kernel
theorem d_X5_lastTerm_9 : decode prog_7_method_4_code 9 = .ok (.ifCond .ge 7, 3) := by decide +kernel
theorem d_X5_lastTerm_12 : decode prog_7_method_4_code 12 = .ok (.iconst 0, 1) := by decide +kernel
theorem d_X5_lastTerm_13 : decode prog_7_method_4_code 13 = .ok (.goto 31, 3) := by decide +kernel
theorem d_X5_lastTerm_16 : decode prog_7_method_4_code 16 = .ok (.aload_n 0, 1) := by decide +kernel
theorem d_X5_lastTerm_17 : decode prog_7_method_4_code 17 = .ok (.getfield 9, 3) := by decide +kernel
theorem d_X5_lastTerm_20 : decode prog_7_method_4_code 20 = .ok (.iload_n 1, 1) := by decide +kernel
theorem d_X5_lastTerm_21 : decode prog_7_method_4_code 21 = .ok (.iconst 1, 1) := by decide +kernel
theorem d_X5_lastTerm_22 : decode prog_7_method_4_code 22 = .ok (.iadd, 1) := by decide +kernel
theorem d_X5_lastTerm_23 : decode prog_7_method_4_code 23 = .ok (.baload, 1) := by decide +kernel
theorem d_X5_lastTerm_24 : decode prog_7_method_4_code 24 = .ok (.sipush 255, 3) := by decide +kernel
theorem d_X5_lastTerm_27 : decode prog_7_method_4_code 27 = .ok (.iand, 1) := by decide +kernel
theorem d_X5_lastTerm_28 : decode prog_7_method_4_code 28 = .ok (.bipush 8, 2) := by decide +kernel
theorem d_X5_lastTerm_30 : decode prog_7_method_4_code 30 = .ok (.ishl, 1) := by decide +kernel
theorem d_X5_lastTerm_31 : decode prog_7_method_4_code 31 = .ok (.aload_n 0, 1) := by decide +kernel
theorem d_X5_lastTerm_32 : decode prog_7_method_4_code 32 = .ok (.getfield 9, 3) := by decide +kernel
theorem d_X5_lastTerm_35 : decode prog_7_method_4_code 35 = .ok (.iload_n 1, 1) := by decide +kernel
theorem d_X5_lastTerm_36 : decode prog_7_method_4_code 36 = .ok (.iconst 2, 1) := by decide +kernel
theorem d_X5_lastTerm_37 : decode prog_7_method_4_code 37 = .ok (.iadd, 1) := by decide +kernel
theorem d_X5_lastTerm_38 : decode prog_7_method_4_code 38 = .ok (.baload, 1) := by decide +kernel
theorem d_X5_lastTerm_39 : decode prog_7_method_4_code 39 = .ok (.sipush 255, 3) := by decide +kernel
theorem d_X5_lastTerm_42 : decode prog_7_method_4_code 42 = .ok (.iand, 1) := by decide +kernel
theorem d_X5_lastTerm_43 : decode prog_7_method_4_code 43 = .ok (.ior, 1) := by decide +kernel
theorem d_X5_lastTerm_44 : decode prog_7_method_4_code 44 = .ok (.ireturn, 1) := by decide +kernel
abbrev Y_J7_copyOf_9075b : Yx := (⟨"java/util/Arrays", "copyOf", "([BI)[B"⟩, prog_29_method_121_code, 3, (some (.array .byte)))
abbrev M_J7_copyOf_9075b : Mx := ("java/util/Arrays", prog_29_method_121_code, 3, false)
theorem yk_J7_copyOf_9075b : Yk Y_J7_copyOf_9075b 2 := ⟨by decide +kernel, by decide +kernel, ⟨by decide, by decide⟩, by decide +kernel, by decide, trivial⟩
theorem d_J7_copyOf_9075b_0 : decode prog_29_method_121_code 0 = .ok (.iload_n 1, 1) := by decide +kernel
theorem d_J7_copyOf_9075b_1 : decode prog_29_method_121_code 1 = .ok (.aload_n 0, 1) := by decide +kernel
theorem d_J7_copyOf_9075b_2 : decode prog_29_method_121_code 2 = .ok (.arraylength, 1) := by decide +kernel
theorem d_J7_copyOf_9075b_3 : decode prog_29_method_121_code 3 = .ok (.if_icmp .ne 11, 3) := by decide +kernel
theorem d_J7_copyOf_9075b_6 : decode prog_29_method_121_code 6 = .ok (.aload_n 0, 1) := by decide +kernel
theorem d_J7_copyOf_9075b_7 : decode prog_29_method_121_code 7 = .ok (.invokevirtual 310, 3) := by decide +kernel
theorem d_J7_copyOf_9075b_10 : decode prog_29_method_121_code 10 = .ok (.checkcast 311, 3) := by decide +kernel
theorem d_J7_copyOf_9075b_13 : decode prog_29_method_121_code 13 = .ok (.areturn, 1) := by decide +kernel
theorem d_J7_copyOf_9075b_14 : decode prog_29_method_121_code 14 = .ok (.iload_n 1, 1) := by decide +kernel
theorem d_J7_copyOf_9075b_15 : decode prog_29_method_121_code 15 = .ok (.newarray .byte, 2) := by decide +kernel
theorem d_J7_copyOf_9075b_17 : decode prog_29_method_121_code 17 = .ok (.astore_n 2, 1) := by decide +kernel
theorem d_J7_copyOf_9075b_18 : decode prog_29_method_121_code 18 = .ok (.aload_n 0, 1) := by decide +kernel
theorem d_J7_copyOf_9075b_19 : decode prog_29_method_121_code 19 = .ok (.iconst 0, 1) := by decide +kernel
theorem d_J7_copyOf_9075b_20 : decode prog_29_method_121_code 20 = .ok (.aload_n 2, 1) := by decide +kernel
theorem d_J7_copyOf_9075b_21 : decode prog_29_method_121_code 21 = .ok (.iconst 0, 1) := by decide +kernel
theorem d_J7_copyOf_9075b_22 : decode prog_29_method_121_code 22 = .ok (.aload_n 0, 1) := by decide +kernel
theorem d_J7_copyOf_9075b_23 : decode prog_29_method_121_code 23 = .ok (.arraylength, 1) := by decide +kernel
theorem d_J7_copyOf_9075b_24 : decode prog_29_method_121_code 24 = .ok (.iload_n 1, 1) := by decide +kernel
theorem d_J7_copyOf_9075b_25 : decode prog_29_method_121_code 25 = .ok (.invokestatic 304, 3) := by decide +kernel
theorem d_J7_copyOf_9075b_28 : decode prog_29_method_121_code 28 = .ok (.invokestatic 150, 3) := by decide +kernel
theorem d_J7_copyOf_9075b_31 : decode prog_29_method_121_code 31 = .ok (.aload_n 2, 1) := by decide +kernel
theorem d_J7_copyOf_9075b_32 : decode prog_29_method_121_code 32 = .ok (.areturn, 1) := by decide +kernel
abbrev Y_X5_write : Yx := (⟨"TaskWeave$Replica", "write", "([BII)V"⟩, prog_7_method_5_code, 5, none)
abbrev M_X5_write : Mx := ("TaskWeave$Replica", prog_7_method_5_code, 5, false)
theorem yk_X5_write : Yk Y_X5_write 3 := ⟨by decide +kernel, by decide +kernel, ⟨by decide, by decide⟩, by decide +kernel, by decide, trivial⟩
theorem d_X5_write_0 : decode prog_7_method_5_code 0 = .ok (.iload_n 2, 1) := by decide +kernel
theorem d_X5_write_1 : decode prog_7_method_5_code 1 = .ok (.istore 4, 2) := by decide +kernel
theorem d_X5_write_3 : decode prog_7_method_5_code 3 = .ok (.iload 4, 2) := by decide +kernel
theorem d_X5_write_5 : decode prog_7_method_5_code 5 = .ok (.iload_n 3, 1) := by decide +kernel
theorem d_X5_write_6 : decode prog_7_method_5_code 6 = .ok (.if_icmp .ge 110, 3) := by decide +kernel
theorem d_X5_write_9 : decode prog_7_method_5_code 9 = .ok (.aload_n 0, 1) := by decide +kernel
theorem d_X5_write_10 : decode prog_7_method_5_code 10 = .ok (.getfield 15, 3) := by decide +kernel
theorem d_X5_write_13 : decode prog_7_method_5_code 13 = .ok (.ifCond .eq 103, 3) := by decide +kernel
theorem d_X5_write_16 : decode prog_7_method_5_code 16 = .ok (.aload_n 0, 1) := by decide +kernel
theorem d_X5_write_17 : decode prog_7_method_5_code 17 = .ok (.getfield 19, 3) := by decide +kernel
theorem d_X5_write_20 : decode prog_7_method_5_code 20 = .ok (.ifCond .ne 16, 3) := by decide +kernel
theorem d_X5_write_23 : decode prog_7_method_5_code 23 = .ok (.aload_n 0, 1) := by decide +kernel
theorem d_X5_write_24 : decode prog_7_method_5_code 24 = .ok (.iconst 0, 1) := by decide +kernel
theorem d_X5_write_25 : decode prog_7_method_5_code 25 = .ok (.putfield 15, 3) := by decide +kernel
theorem d_X5_write_28 : decode prog_7_method_5_code 28 = .ok (.aload_n 0, 1) := by decide +kernel
theorem d_X5_write_29 : decode prog_7_method_5_code 29 = .ok (.iconst (-1), 1) := by decide +kernel
theorem d_X5_write_30 : decode prog_7_method_5_code 30 = .ok (.putfield 19, 3) := by decide +kernel
theorem d_X5_write_33 : decode prog_7_method_5_code 33 = .ok (.goto 77, 3) := by decide +kernel
theorem d_X5_write_36 : decode prog_7_method_5_code 36 = .ok (.aload_n 0, 1) := by decide +kernel
theorem d_X5_write_37 : decode prog_7_method_5_code 37 = .ok (.getfield 26, 3) := by decide +kernel
theorem d_X5_write_40 : decode prog_7_method_5_code 40 = .ok (.aload_n 0, 1) := by decide +kernel
theorem d_X5_write_41 : decode prog_7_method_5_code 41 = .ok (.getfield 9, 3) := by decide +kernel
theorem d_X5_write_44 : decode prog_7_method_5_code 44 = .ok (.arraylength, 1) := by decide +kernel
theorem d_X5_write_45 : decode prog_7_method_5_code 45 = .ok (.if_icmp .ne 20, 3) := by decide +kernel
theorem d_X5_write_48 : decode prog_7_method_5_code 48 = .ok (.aload_n 0, 1) := by decide +kernel
theorem d_X5_write_49 : decode prog_7_method_5_code 49 = .ok (.aload_n 0, 1) := by decide +kernel
theorem d_X5_write_50 : decode prog_7_method_5_code 50 = .ok (.getfield 9, 3) := by decide +kernel
theorem d_X5_write_53 : decode prog_7_method_5_code 53 = .ok (.iconst 2, 1) := by decide +kernel
theorem d_X5_write_54 : decode prog_7_method_5_code 54 = .ok (.aload_n 0, 1) := by decide +kernel
theorem d_X5_write_55 : decode prog_7_method_5_code 55 = .ok (.getfield 26, 3) := by decide +kernel
theorem d_X5_write_58 : decode prog_7_method_5_code 58 = .ok (.imul, 1) := by decide +kernel
theorem d_X5_write_59 : decode prog_7_method_5_code 59 = .ok (.invokestatic 33, 3) := by decide +kernel
theorem d_X5_write_62 : decode prog_7_method_5_code 62 = .ok (.putfield 9, 3) := by decide +kernel
theorem d_X5_write_65 : decode prog_7_method_5_code 65 = .ok (.aload_n 0, 1) := by decide +kernel
theorem d_X5_write_66 : decode prog_7_method_5_code 66 = .ok (.getfield 9, 3) := by decide +kernel
theorem d_X5_write_69 : decode prog_7_method_5_code 69 = .ok (.aload_n 0, 1) := by decide +kernel
theorem d_X5_write_70 : decode prog_7_method_5_code 70 = .ok (.getfield 26, 3) := by decide +kernel
theorem d_X5_write_73 : decode prog_7_method_5_code 73 = .ok (.aload_n 1, 1) := by decide +kernel
theorem d_X5_write_74 : decode prog_7_method_5_code 74 = .ok (.iload 4, 2) := by decide +kernel
theorem d_X5_write_76 : decode prog_7_method_5_code 76 = .ok (.baload, 1) := by decide +kernel
theorem d_X5_write_77 : decode prog_7_method_5_code 77 = .ok (.bastore, 1) := by decide +kernel
theorem d_X5_write_78 : decode prog_7_method_5_code 78 = .ok (.aload_n 0, 1) := by decide +kernel
theorem d_X5_write_79 : decode prog_7_method_5_code 79 = .ok (.dup, 1) := by decide +kernel
theorem d_X5_write_80 : decode prog_7_method_5_code 80 = .ok (.getfield 26, 3) := by decide +kernel
theorem d_X5_write_83 : decode prog_7_method_5_code 83 = .ok (.iconst 1, 1) := by decide +kernel
theorem d_X5_write_84 : decode prog_7_method_5_code 84 = .ok (.iadd, 1) := by decide +kernel
theorem d_X5_write_85 : decode prog_7_method_5_code 85 = .ok (.putfield 26, 3) := by decide +kernel
theorem d_X5_write_88 : decode prog_7_method_5_code 88 = .ok (.aload_n 0, 1) := by decide +kernel
theorem d_X5_write_89 : decode prog_7_method_5_code 89 = .ok (.aload_n 0, 1) := by decide +kernel
theorem d_X5_write_90 : decode prog_7_method_5_code 90 = .ok (.getfield 19, 3) := by decide +kernel
theorem d_X5_write_93 : decode prog_7_method_5_code 93 = .ok (.iconst (-1), 1) := by decide +kernel
theorem d_X5_write_94 : decode prog_7_method_5_code 94 = .ok (.if_icmp .ne 7, 3) := by decide +kernel
theorem d_X5_write_97 : decode prog_7_method_5_code 97 = .ok (.iconst (-1), 1) := by decide +kernel
theorem d_X5_write_98 : decode prog_7_method_5_code 98 = .ok (.goto 9, 3) := by decide +kernel
theorem d_X5_write_101 : decode prog_7_method_5_code 101 = .ok (.aload_n 0, 1) := by decide +kernel
theorem d_X5_write_102 : decode prog_7_method_5_code 102 = .ok (.getfield 19, 3) := by decide +kernel
theorem d_X5_write_105 : decode prog_7_method_5_code 105 = .ok (.iconst 1, 1) := by decide +kernel
theorem d_X5_write_106 : decode prog_7_method_5_code 106 = .ok (.isub, 1) := by decide +kernel
theorem d_X5_write_107 : decode prog_7_method_5_code 107 = .ok (.putfield 19, 3) := by decide +kernel
theorem d_X5_write_110 : decode prog_7_method_5_code 110 = .ok (.iinc 4 1, 3) := by decide +kernel
theorem d_X5_write_113 : decode prog_7_method_5_code 113 = .ok (.goto (-110), 3) := by decide +kernel
theorem d_X5_write_116 : decode prog_7_method_5_code 116 = .ok (.return_, 1) := by decide +kernel
abbrev Y_X5_isAheadOf : Yx := (⟨"TaskWeave$Replica", "isAheadOf", "(LTaskWeave$Replica;)Z"⟩, prog_7_method_6_code, 4, (some .boolean))
abbrev M_X5_isAheadOf : Mx := ("TaskWeave$Replica", prog_7_method_6_code, 4, false)
theorem yk_X5_isAheadOf : Yk Y_X5_isAheadOf 1 := ⟨by decide +kernel, by decide +kernel, ⟨by decide, by decide⟩, by decide +kernel, by decide, trivial⟩
theorem d_X5_isAheadOf_0 : decode prog_7_method_6_code 0 = .ok (.aload_n 0, 1) := by decide +kernel
theorem d_X5_isAheadOf_1 : decode prog_7_method_6_code 1 = .ok (.invokevirtual 39, 3) := by decide +kernel
theorem d_X5_isAheadOf_4 : decode prog_7_method_6_code 4 = .ok (.istore_n 2, 1) := by decide +kernel
theorem d_X5_isAheadOf_5 : decode prog_7_method_6_code 5 = .ok (.aload_n 1, 1) := by decide +kernel
theorem d_X5_isAheadOf_6 : decode prog_7_method_6_code 6 = .ok (.invokevirtual 39, 3) := by decide +kernel
theorem d_X5_isAheadOf_9 : decode prog_7_method_6_code 9 = .ok (.istore_n 3, 1) := by decide +kernel
theorem d_X5_isAheadOf_10 : decode prog_7_method_6_code 10 = .ok (.iload_n 2, 1) := by decide +kernel
theorem d_X5_isAheadOf_11 : decode prog_7_method_6_code 11 = .ok (.iload_n 3, 1) := by decide +kernel
theorem d_X5_isAheadOf_12 : decode prog_7_method_6_code 12 = .ok (.if_icmp .gt 19, 3) := by decide +kernel
theorem d_X5_isAheadOf_15 : decode prog_7_method_6_code 15 = .ok (.iload_n 2, 1) := by decide +kernel
theorem d_X5_isAheadOf_16 : decode prog_7_method_6_code 16 = .ok (.iload_n 3, 1) := by decide +kernel
theorem d_X5_isAheadOf_17 : decode prog_7_method_6_code 17 = .ok (.if_icmp .ne 18, 3) := by decide +kernel
theorem d_X5_isAheadOf_20 : decode prog_7_method_6_code 20 = .ok (.aload_n 0, 1) := by decide +kernel
theorem d_X5_isAheadOf_21 : decode prog_7_method_6_code 21 = .ok (.getfield 26, 3) := by decide +kernel
theorem d_X5_isAheadOf_24 : decode prog_7_method_6_code 24 = .ok (.aload_n 1, 1) := by decide +kernel
theorem d_X5_isAheadOf_25 : decode prog_7_method_6_code 25 = .ok (.getfield 26, 3) := by decide +kernel
theorem d_X5_isAheadOf_28 : decode prog_7_method_6_code 28 = .ok (.if_icmp .le 7, 3) := by decide +kernel
theorem d_X5_isAheadOf_31 : decode prog_7_method_6_code 31 = .ok (.iconst 1, 1) := by decide +kernel
theorem d_X5_isAheadOf_32 : decode prog_7_method_6_code 32 = .ok (.goto 4, 3) := by decide +kernel
theorem d_X5_isAheadOf_35 : decode prog_7_method_6_code 35 = .ok (.iconst 0, 1) := by decide +kernel
theorem d_X5_isAheadOf_36 : decode prog_7_method_6_code 36 = .ok (.ireturn, 1) := by decide +kernel
abbrev Y_X5_sameRecord : Yx := (⟨"TaskWeave$Replica", "sameRecord", "(LTaskWeave$Replica;I)Z"⟩, prog_7_method_7_code, 4, (some .boolean))
abbrev M_X5_sameRecord : Mx := ("TaskWeave$Replica", prog_7_method_7_code, 4, false)
theorem yk_X5_sameRecord : Yk Y_X5_sameRecord 2 := ⟨by decide +kernel, by decide +kernel, ⟨by decide, by decide⟩, by decide +kernel, by decide, trivial⟩
theorem d_X5_sameRecord_0 : decode prog_7_method_7_code 0 = .ok (.iload_n 2, 1) := by decide +kernel
theorem d_X5_sameRecord_1 : decode prog_7_method_7_code 1 = .ok (.bipush 16, 2) := by decide +kernel
theorem d_X5_sameRecord_3 : decode prog_7_method_7_code 3 = .ok (.imul, 1) := by decide +kernel
theorem d_X5_sameRecord_4 : decode prog_7_method_7_code 4 = .ok (.istore_n 3, 1) := by decide +kernel
theorem d_X5_sameRecord_5 : decode prog_7_method_7_code 5 = .ok (.iload_n 3, 1) := by decide +kernel
theorem d_X5_sameRecord_6 : decode prog_7_method_7_code 6 = .ok (.iload_n 2, 1) := by decide +kernel
theorem d_X5_sameRecord_7 : decode prog_7_method_7_code 7 = .ok (.iconst 1, 1) := by decide +kernel
theorem d_X5_sameRecord_8 : decode prog_7_method_7_code 8 = .ok (.iadd, 1) := by decide +kernel
theorem d_X5_sameRecord_9 : decode prog_7_method_7_code 9 = .ok (.bipush 16, 2) := by decide +kernel
theorem d_X5_sameRecord_11 : decode prog_7_method_7_code 11 = .ok (.imul, 1) := by decide +kernel
theorem d_X5_sameRecord_12 : decode prog_7_method_7_code 12 = .ok (.if_icmp .ge 42, 3) := by decide +kernel
theorem d_X5_sameRecord_15 : decode prog_7_method_7_code 15 = .ok (.iload_n 3, 1) := by decide +kernel
theorem d_X5_sameRecord_16 : decode prog_7_method_7_code 16 = .ok (.aload_n 0, 1) := by decide +kernel
theorem d_X5_sameRecord_17 : decode prog_7_method_7_code 17 = .ok (.getfield 26, 3) := by decide +kernel
theorem d_X5_sameRecord_20 : decode prog_7_method_7_code 20 = .ok (.if_icmp .ge 26, 3) := by decide +kernel
theorem d_X5_sameRecord_23 : decode prog_7_method_7_code 23 = .ok (.iload_n 3, 1) := by decide +kernel
theorem d_X5_sameRecord_24 : decode prog_7_method_7_code 24 = .ok (.aload_n 1, 1) := by decide +kernel
theorem d_X5_sameRecord_25 : decode prog_7_method_7_code 25 = .ok (.getfield 26, 3) := by decide +kernel
theorem d_X5_sameRecord_28 : decode prog_7_method_7_code 28 = .ok (.if_icmp .ge 18, 3) := by decide +kernel
theorem d_X5_sameRecord_31 : decode prog_7_method_7_code 31 = .ok (.aload_n 0, 1) := by decide +kernel
theorem d_X5_sameRecord_32 : decode prog_7_method_7_code 32 = .ok (.getfield 9, 3) := by decide +kernel
theorem d_X5_sameRecord_35 : decode prog_7_method_7_code 35 = .ok (.iload_n 3, 1) := by decide +kernel
theorem d_X5_sameRecord_36 : decode prog_7_method_7_code 36 = .ok (.baload, 1) := by decide +kernel
theorem d_X5_sameRecord_37 : decode prog_7_method_7_code 37 = .ok (.aload_n 1, 1) := by decide +kernel
theorem d_X5_sameRecord_38 : decode prog_7_method_7_code 38 = .ok (.getfield 9, 3) := by decide +kernel
theorem d_X5_sameRecord_41 : decode prog_7_method_7_code 41 = .ok (.iload_n 3, 1) := by decide +kernel
theorem d_X5_sameRecord_42 : decode prog_7_method_7_code 42 = .ok (.baload, 1) := by decide +kernel
theorem d_X5_sameRecord_43 : decode prog_7_method_7_code 43 = .ok (.if_icmp .eq 5, 3) := by decide +kernel
theorem d_X5_sameRecord_46 : decode prog_7_method_7_code 46 = .ok (.iconst 0, 1) := by decide +kernel
theorem d_X5_sameRecord_47 : decode prog_7_method_7_code 47 = .ok (.ireturn, 1) := by decide +kernel
theorem d_X5_sameRecord_48 : decode prog_7_method_7_code 48 = .ok (.iinc 3 1, 3) := by decide +kernel
theorem d_X5_sameRecord_51 : decode prog_7_method_7_code 51 = .ok (.goto (-46), 3) := by decide +kernel
theorem d_X5_sameRecord_54 : decode prog_7_method_7_code 54 = .ok (.iconst 1, 1) := by decide +kernel
theorem d_X5_sameRecord_55 : decode prog_7_method_7_code 55 = .ok (.ireturn, 1) := by decide +kernel
abbrev Y_X8_init : Yx := (⟨"TaskWeave$Task", "<init>", "()V"⟩, prog_10_method_1_code, 1, none)
abbrev M_X8_init : Mx := ("TaskWeave$Task", prog_10_method_1_code, 1, true)
theorem yk_X8_init : Yk Y_X8_init 0 := ⟨by decide +kernel, by decide +kernel, ⟨by decide, by decide⟩, by decide +kernel, by decide, trivial⟩
theorem d_X8_init_0 : decode prog_10_method_1_code 0 = .ok (.aload_n 0, 1) := by decide +kernel
theorem d_X8_init_1 : decode prog_10_method_1_code 1 = .ok (.invokespecial 1, 3) := by decide +kernel
theorem d_X8_init_4 : decode prog_10_method_1_code 4 = .ok (.return_, 1) := by decide +kernel
abbrev Y_X9_init : Yx := (⟨"TaskWeave$Workflow", "<init>", "(I)V"⟩, prog_11_method_1_code, 2, none)
abbrev M_X9_init : Mx := ("TaskWeave$Workflow", prog_11_method_1_code, 2, true)
theorem yk_X9_init : Yk Y_X9_init 1 := ⟨by decide +kernel, by decide +kernel, ⟨by decide, by decide⟩, by decide +kernel, by decide, trivial⟩
theorem d_X9_init_0 : decode prog_11_method_1_code 0 = .ok (.aload_n 0, 1) := by decide +kernel
theorem d_X9_init_1 : decode prog_11_method_1_code 1 = .ok (.invokespecial 3, 3) := by decide +kernel
theorem d_X9_init_4 : decode prog_11_method_1_code 4 = .ok (.aload_n 0, 1) := by decide +kernel
theorem d_X9_init_5 : decode prog_11_method_1_code 5 = .ok (.bipush 8, 2) := by decide +kernel
theorem d_X9_init_7 : decode prog_11_method_1_code 7 = .ok (.newarray .int, 2) := by decide +kernel
theorem d_X9_init_9 : decode prog_11_method_1_code 9 = .ok (.putfield 9, 3) := by decide +kernel
theorem d_X9_init_12 : decode prog_11_method_1_code 12 = .ok (.aload_n 0, 1) := by decide +kernel
theorem d_X9_init_13 : decode prog_11_method_1_code 13 = .ok (.new 15, 3) := by decide +kernel
theorem d_X9_init_16 : decode prog_11_method_1_code 16 = .ok (.dup, 1) := by decide +kernel
theorem d_X9_init_17 : decode prog_11_method_1_code 17 = .ok (.invokespecial 17, 3) := by decide +kernel
theorem d_X9_init_20 : decode prog_11_method_1_code 20 = .ok (.putfield 18, 3) := by decide +kernel
theorem d_X9_init_23 : decode prog_11_method_1_code 23 = .ok (.aload_n 0, 1) := by decide +kernel
theorem d_X9_init_24 : decode prog_11_method_1_code 24 = .ok (.new 22, 3) := by decide +kernel
theorem d_X9_init_27 : decode prog_11_method_1_code 27 = .ok (.dup, 1) := by decide +kernel
theorem d_X9_init_28 : decode prog_11_method_1_code 28 = .ok (.invokespecial 24, 3) := by decide +kernel
theorem d_X9_init_31 : decode prog_11_method_1_code 31 = .ok (.putfield 25, 3) := by decide +kernel
theorem d_X9_init_34 : decode prog_11_method_1_code 34 = .ok (.aload_n 0, 1) := by decide +kernel
theorem d_X9_init_35 : decode prog_11_method_1_code 35 = .ok (.iload_n 1, 1) := by decide +kernel
theorem d_X9_init_36 : decode prog_11_method_1_code 36 = .ok (.putfield 29, 3) := by decide +kernel
theorem d_X9_init_39 : decode prog_11_method_1_code 39 = .ok (.return_, 1) := by decide +kernel
abbrev Y_X6_init : Yx := (⟨"TaskWeave$Shard", "<init>", "(ILTaskWeave$Clock;[LTaskWeave$Shelf;)V"⟩, prog_8_method_1_code, 5, none)
abbrev M_X6_init : Mx := ("TaskWeave$Shard", prog_8_method_1_code, 5, true)
theorem yk_X6_init : Yk Y_X6_init 3 := ⟨by decide +kernel, by decide +kernel, ⟨by decide, by decide⟩, by decide +kernel, by decide, trivial⟩
theorem d_X6_init_0 : decode prog_8_method_1_code 0 = .ok (.aload_n 0, 1) := by decide +kernel
theorem d_X6_init_1 : decode prog_8_method_1_code 1 = .ok (.invokespecial 3, 3) := by decide +kernel
theorem d_X6_init_4 : decode prog_8_method_1_code 4 = .ok (.aload_n 0, 1) := by decide +kernel
theorem d_X6_init_5 : decode prog_8_method_1_code 5 = .ok (.iconst 5, 1) := by decide +kernel
theorem d_X6_init_6 : decode prog_8_method_1_code 6 = .ok (.anewarray 9, 3) := by decide +kernel
theorem d_X6_init_9 : decode prog_8_method_1_code 9 = .ok (.putfield 11, 3) := by decide +kernel
theorem d_X6_init_12 : decode prog_8_method_1_code 12 = .ok (.aload_n 0, 1) := by decide +kernel
theorem d_X6_init_13 : decode prog_8_method_1_code 13 = .ok (.bipush 16, 2) := by decide +kernel
theorem d_X6_init_15 : decode prog_8_method_1_code 15 = .ok (.anewarray 17, 3) := by decide +kernel
theorem d_X6_init_18 : decode prog_8_method_1_code 18 = .ok (.putfield 19, 3) := by decide +kernel
theorem d_X6_init_21 : decode prog_8_method_1_code 21 = .ok (.aload_n 0, 1) := by decide +kernel
theorem d_X6_init_22 : decode prog_8_method_1_code 22 = .ok (.bipush 16, 2) := by decide +kernel
theorem d_X6_init_24 : decode prog_8_method_1_code 24 = .ok (.newarray .byte, 2) := by decide +kernel
theorem d_X6_init_26 : decode prog_8_method_1_code 26 = .ok (.putfield 23, 3) := by decide +kernel
theorem d_X6_init_29 : decode prog_8_method_1_code 29 = .ok (.aload_n 0, 1) := by decide +kernel
theorem d_X6_init_30 : decode prog_8_method_1_code 30 = .ok (.new 27, 3) := by decide +kernel
theorem d_X6_init_33 : decode prog_8_method_1_code 33 = .ok (.dup, 1) := by decide +kernel
theorem d_X6_init_34 : decode prog_8_method_1_code 34 = .ok (.invokespecial 29, 3) := by decide +kernel
theorem d_X6_init_37 : decode prog_8_method_1_code 37 = .ok (.putfield 30, 3) := by decide +kernel
theorem d_X6_init_40 : decode prog_8_method_1_code 40 = .ok (.aload_n 0, 1) := by decide +kernel
theorem d_X6_init_41 : decode prog_8_method_1_code 41 = .ok (.iconst 3, 1) := by decide +kernel
theorem d_X6_init_42 : decode prog_8_method_1_code 42 = .ok (.putfield 34, 3) := by decide +kernel
theorem d_X6_init_45 : decode prog_8_method_1_code 45 = .ok (.aload_n 0, 1) := by decide +kernel
theorem d_X6_init_46 : decode prog_8_method_1_code 46 = .ok (.iload_n 1, 1) := by decide +kernel
theorem d_X6_init_47 : decode prog_8_method_1_code 47 = .ok (.putfield 38, 3) := by decide +kernel
theorem d_X6_init_50 : decode prog_8_method_1_code 50 = .ok (.aload_n 0, 1) := by decide +kernel
theorem d_X6_init_51 : decode prog_8_method_1_code 51 = .ok (.aload_n 2, 1) := by decide +kernel
theorem d_X6_init_52 : decode prog_8_method_1_code 52 = .ok (.putfield 41, 3) := by decide +kernel
theorem d_X6_init_55 : decode prog_8_method_1_code 55 = .ok (.aload_n 0, 1) := by decide +kernel
theorem d_X6_init_56 : decode prog_8_method_1_code 56 = .ok (.aload_n 3, 1) := by decide +kernel
theorem d_X6_init_57 : decode prog_8_method_1_code 57 = .ok (.putfield 45, 3) := by decide +kernel
theorem d_X6_init_60 : decode prog_8_method_1_code 60 = .ok (.iconst 0, 1) := by decide +kernel
theorem d_X6_init_61 : decode prog_8_method_1_code 61 = .ok (.istore 4, 2) := by decide +kernel
theorem d_X6_init_63 : decode prog_8_method_1_code 63 = .ok (.iload 4, 2) := by decide +kernel
theorem d_X6_init_65 : decode prog_8_method_1_code 65 = .ok (.iconst 5, 1) := by decide +kernel
theorem d_X6_init_66 : decode prog_8_method_1_code 66 = .ok (.if_icmp .ge 25, 3) := by decide +kernel
theorem d_X6_init_69 : decode prog_8_method_1_code 69 = .ok (.aload_n 0, 1) := by decide +kernel
theorem d_X6_init_70 : decode prog_8_method_1_code 70 = .ok (.getfield 11, 3) := by decide +kernel
theorem d_X6_init_73 : decode prog_8_method_1_code 73 = .ok (.iload 4, 2) := by decide +kernel
theorem d_X6_init_75 : decode prog_8_method_1_code 75 = .ok (.new 9, 3) := by decide +kernel
theorem d_X6_init_78 : decode prog_8_method_1_code 78 = .ok (.dup, 1) := by decide +kernel
theorem d_X6_init_79 : decode prog_8_method_1_code 79 = .ok (.iload 4, 2) := by decide +kernel
theorem d_X6_init_81 : decode prog_8_method_1_code 81 = .ok (.invokespecial 49, 3) := by decide +kernel
theorem d_X6_init_84 : decode prog_8_method_1_code 84 = .ok (.aastore, 1) := by decide +kernel
theorem d_X6_init_85 : decode prog_8_method_1_code 85 = .ok (.iinc 4 1, 3) := by decide +kernel
theorem d_X6_init_88 : decode prog_8_method_1_code 88 = .ok (.goto (-25), 3) := by decide +kernel
theorem d_X6_init_91 : decode prog_8_method_1_code 91 = .ok (.iconst 0, 1) := by decide +kernel
theorem d_X6_init_92 : decode prog_8_method_1_code 92 = .ok (.istore 4, 2) := by decide +kernel
theorem d_X6_init_94 : decode prog_8_method_1_code 94 = .ok (.iload 4, 2) := by decide +kernel
theorem d_X6_init_96 : decode prog_8_method_1_code 96 = .ok (.bipush 16, 2) := by decide +kernel
theorem d_X6_init_98 : decode prog_8_method_1_code 98 = .ok (.if_icmp .ge 29, 3) := by decide +kernel
theorem d_X6_init_101 : decode prog_8_method_1_code 101 = .ok (.aload_n 0, 1) := by decide +kernel
theorem d_X6_init_102 : decode prog_8_method_1_code 102 = .ok (.getfield 19, 3) := by decide +kernel
theorem d_X6_init_105 : decode prog_8_method_1_code 105 = .ok (.iload 4, 2) := by decide +kernel
theorem d_X6_init_107 : decode prog_8_method_1_code 107 = .ok (.new 17, 3) := by decide +kernel
theorem d_X6_init_110 : decode prog_8_method_1_code 110 = .ok (.dup, 1) := by decide +kernel
theorem d_X6_init_111 : decode prog_8_method_1_code 111 = .ok (.iload_n 1, 1) := by decide +kernel
theorem d_X6_init_112 : decode prog_8_method_1_code 112 = .ok (.iconst 4, 1) := by decide +kernel
theorem d_X6_init_113 : decode prog_8_method_1_code 113 = .ok (.iload 4, 2) := by decide +kernel
theorem d_X6_init_115 : decode prog_8_method_1_code 115 = .ok (.imul, 1) := by decide +kernel
theorem d_X6_init_116 : decode prog_8_method_1_code 116 = .ok (.iadd, 1) := by decide +kernel
theorem d_X6_init_117 : decode prog_8_method_1_code 117 = .ok (.invokespecial 52, 3) := by decide +kernel
theorem d_X6_init_120 : decode prog_8_method_1_code 120 = .ok (.aastore, 1) := by decide +kernel
theorem d_X6_init_121 : decode prog_8_method_1_code 121 = .ok (.iinc 4 1, 3) := by decide +kernel
theorem d_X6_init_124 : decode prog_8_method_1_code 124 = .ok (.goto (-30), 3) := by decide +kernel
theorem d_X6_init_127 : decode prog_8_method_1_code 127 = .ok (.return_, 1) := by decide +kernel
abbrev Y_X6_works : Yx := (⟨"TaskWeave$Shard", "works", "()Z"⟩, prog_8_method_2_code, 1, (some .boolean))
abbrev M_X6_works : Mx := ("TaskWeave$Shard", prog_8_method_2_code, 1, false)
theorem yk_X6_works : Yk Y_X6_works 0 := ⟨by decide +kernel, by decide +kernel, ⟨by decide, by decide⟩, by decide +kernel, by decide, trivial⟩
theorem d_X6_works_0 : decode prog_8_method_2_code 0 = .ok (.aload_n 0, 1) := by decide +kernel
theorem d_X6_works_1 : decode prog_8_method_2_code 1 = .ok (.getfield 53, 3) := by decide +kernel
theorem d_X6_works_4 : decode prog_8_method_2_code 4 = .ok (.iconst (-1), 1) := by decide +kernel
theorem d_X6_works_5 : decode prog_8_method_2_code 5 = .ok (.if_icmp .eq 7, 3) := by decide +kernel
theorem d_X6_works_8 : decode prog_8_method_2_code 8 = .ok (.iconst 1, 1) := by decide +kernel
theorem d_X6_works_9 : decode prog_8_method_2_code 9 = .ok (.goto 4, 3) := by decide +kernel
theorem d_X6_works_12 : decode prog_8_method_2_code 12 = .ok (.iconst 0, 1) := by decide +kernel
theorem d_X6_works_13 : decode prog_8_method_2_code 13 = .ok (.ireturn, 1) := by decide +kernel
abbrev Y_X6_row : Yx := (⟨"TaskWeave$Shard", "row", "(I)LTaskWeave$Workflow;"⟩, prog_8_method_3_code, 2, (some (.object "TaskWeave$Workflow")))
abbrev M_X6_row : Mx := ("TaskWeave$Shard", prog_8_method_3_code, 2, false)
theorem yk_X6_row : Yk Y_X6_row 1 := ⟨by decide +kernel, by decide +kernel, ⟨by decide, by decide⟩, by decide +kernel, by decide, trivial⟩
theorem d_X6_row_0 : decode prog_8_method_3_code 0 = .ok (.iload_n 1, 1) := by decide +kernel
theorem d_X6_row_1 : decode prog_8_method_3_code 1 = .ok (.ifCond .lt 20, 3) := by decide +kernel
theorem d_X6_row_4 : decode prog_8_method_3_code 4 = .ok (.iload_n 1, 1) := by decide +kernel
theorem d_X6_row_5 : decode prog_8_method_3_code 5 = .ok (.aload_n 0, 1) := by decide +kernel
theorem d_X6_row_6 : decode prog_8_method_3_code 6 = .ok (.getfield 56, 3) := by decide +kernel
theorem d_X6_row_9 : decode prog_8_method_3_code 9 = .ok (.if_icmp .ge 12, 3) := by decide +kernel
theorem d_X6_row_12 : decode prog_8_method_3_code 12 = .ok (.aload_n 0, 1) := by decide +kernel
theorem d_X6_row_13 : decode prog_8_method_3_code 13 = .ok (.getfield 19, 3) := by decide +kernel
theorem d_X6_row_16 : decode prog_8_method_3_code 16 = .ok (.iload_n 1, 1) := by decide +kernel
theorem d_X6_row_17 : decode prog_8_method_3_code 17 = .ok (.aaload, 1) := by decide +kernel
theorem d_X6_row_18 : decode prog_8_method_3_code 18 = .ok (.goto 4, 3) := by decide +kernel
theorem d_X6_row_21 : decode prog_8_method_3_code 21 = .ok (.aconst_null, 1) := by decide +kernel
theorem d_X6_row_22 : decode prog_8_method_3_code 22 = .ok (.areturn, 1) := by decide +kernel
def f_X3_readReckoning_59 (l0 : Nat) (l1 : Int32) (l2 : Int32) (h : Hp) : Option (Int32 × Hp) := ck (isO (h) (l0) 4) (ck (isO (h) (zR (h) 401 (l0)) 22) (ck (inR ((l1) + ((0 : Int32))) (zL (h) (zR (h) 401 (l0)))) (bh (pE (h) (zR (h) 401 (l0)) ((l1) + ((0 : Int32))).toNatClampNeg (l2)) (fun h17 => bh (pI (h17) 404 (l0) ((zI (h17) 404 (l0)) + ((1 : Int32)))) (fun h18 => (f_X3_readValue (l0) ((l1) + ((6 : Int32))) (h18)).bind (fun q19 => ck (isB (q19.1)) (some (q19.1, q19.2))))))))
theorem f_X3_readReckoning_59_ok {G : Gd} {d : Nat} (hj : 3 ≤ d) : ∀ (l0 : Nat) (l1 : Int32) (l2 : Int32) (L : List (Nat × Value)) (h : Hp) (o : (Int32 × Hp)), zlk L 0 = some (zrf (l0)) → zlk L 1 = some (.int (l1)) → zlk L 2 = some (.int (l2)) → f_X3_readReckoning_59 l0 l1 l2 h = some o → Ev G M_X3_readReckoning d 59 L [] h (Ret Y_X3_readReckoning (some (.int o.1)) o.2) := by
  intro l0 l1 l2 L h o g0 g1 g2 e
  unfold f_X3_readReckoning_59 at e
  refine g_ald_n d_X3_readReckoning_59 rfl g0 ?_
  replace e := ckd e
  obtain ⟨k14, e⟩ := e
  refine g_getR d_X3_readReckoning_60 (f := 401) k14 fk_2_15 rfl rfl ?_
  refine r_iload_n d_X3_readReckoning_63 rfl g1 ?_
  refine r_iconst d_X3_readReckoning_64 (v := (0 : Int32)) (by decide +kernel) ?_
  refine r_iadd d_X3_readReckoning_65 ?_
  refine r_iload_n d_X3_readReckoning_66 rfl g2 ?_
  replace e := ckd e
  obtain ⟨k15, e⟩ := e
  replace e := ckd e
  obtain ⟨k16, e⟩ := e
  refine g_iast d_X3_readReckoning_67 k15 k16 ?_
  replace e := bhd e
  obtain ⟨_, rfl, e⟩ := e
  refine g_ald_n d_X3_readReckoning_68 rfl g0 ?_
  refine r_dup d_X3_readReckoning_69 (zrf_cat _) ?_
  refine g_getI d_X3_readReckoning_70 (f := 404) (tO_pE k14) fk_2_39 rfl rfl ?_
  refine r_iconst d_X3_readReckoning_73 (v := (1 : Int32)) (by decide +kernel) ?_
  refine r_iadd d_X3_readReckoning_74 ?_
  refine g_putI d_X3_readReckoning_75 (f := 404) (tO_pE k14) fk_2_39 rfl (Or.inl rfl) ⟨rfl, rfl⟩ ?_
  replace e := bhd e
  obtain ⟨_, rfl, e⟩ := e
  refine g_ald_n d_X3_readReckoning_78 rfl g0 ?_
  refine r_iload_n d_X3_readReckoning_79 rfl g1 ?_
  refine r_bipush d_X3_readReckoning_80 (v := (6 : Int32)) (by decide +kernel) ?_
  refine r_iadd d_X3_readReckoning_82 ?_
  replace e := bd e
  obtain ⟨q19, eq19, e⟩ := e
  refine g_callV d_X3_readReckoning_83 vk_2_92 (as := [_]) rfl (tO_pI (tO_pE k14)) rfl (by simp [zrf_cat, cat_int, cat_long]) (j := 2) (by omega) (c_X3_readValue (by omega) eq19) ?_
  replace e := ckd e
  obtain ⟨k20, e⟩ := e
  obtain rfl := Option.some.inj e
  exact g_iret d_X3_readReckoning_86 rfl k20

def f_X3_readReckoning (l0 : Nat) (l1 : Int32) (h : Hp) : Option (Int32 × Hp) := ck (isO (h) (l0) 4) (ck (isO (h) (zR (h) 401 (l0)) 22) (ck (inR ((l1) + ((0 : Int32))) (zL (h) (zR (h) 401 (l0)))) (bh (pE (h) (zR (h) 401 (l0)) ((l1) + ((0 : Int32))).toNatClampNeg ((43 : Int32))) (fun h4 => (f_X3_readValue (l0) ((l1) + ((4 : Int32))) (h4)).bind (fun q5 => if (q5.1) = (0) then (some ((0 : Int32), q5.2)) else (ck (isO (q5.2) (l0) 4) ((f_X3_peek (l0) (q5.2)).bind (fun q7 => if (q7.1) = ((43 : Int32)) then (f_X3_readReckoning_59 (l0) (l1) (q7.1) (q7.2)) else (if (q7.1) = ((45 : Int32)) then (f_X3_readReckoning_59 (l0) (l1) (q7.1) (q7.2)) else (if (q7.1) = ((42 : Int32)) then (f_X3_readReckoning_59 (l0) (l1) (q7.1) (q7.2)) else (if (q7.1) = ((60 : Int32)) then (f_X3_readReckoning_59 (l0) (l1) (q7.1) (q7.2)) else (if (q7.1) = ((61 : Int32)) then (f_X3_readReckoning_59 (l0) (l1) (q7.1) (q7.2)) else (some ((1 : Int32), q7.2))))))))))))))
theorem f_X3_readReckoning_ok {G : Gd} {d : Nat} (hj : 3 ≤ d) : ∀ (l0 : Nat) (l1 : Int32) (L : List (Nat × Value)) (h : Hp) (o : (Int32 × Hp)), zlk L 0 = some (zrf (l0)) → zlk L 1 = some (.int (l1)) → f_X3_readReckoning l0 l1 h = some o → Ev G M_X3_readReckoning d 0 L [] h (Ret Y_X3_readReckoning (some (.int o.1)) o.2) := by
  intro l0 l1 L h o g0 g1 e
  unfold f_X3_readReckoning at e
  refine g_ald_n d_X3_readReckoning_0 rfl g0 ?_
  replace e := ckd e
  obtain ⟨k1, e⟩ := e
  refine g_getR d_X3_readReckoning_1 (f := 401) k1 fk_2_15 rfl rfl ?_
  refine r_iload_n d_X3_readReckoning_4 rfl g1 ?_
  refine r_iconst d_X3_readReckoning_5 (v := (0 : Int32)) (by decide +kernel) ?_
  refine r_iadd d_X3_readReckoning_6 ?_
  refine r_bipush d_X3_readReckoning_7 (v := (43 : Int32)) (by decide +kernel) ?_
  replace e := ckd e
  obtain ⟨k2, e⟩ := e
  replace e := ckd e
  obtain ⟨k3, e⟩ := e
  refine g_iast d_X3_readReckoning_9 k2 k3 ?_
  replace e := bhd e
  obtain ⟨_, rfl, e⟩ := e
  refine g_ald_n d_X3_readReckoning_10 rfl g0 ?_
  refine r_iload_n d_X3_readReckoning_11 rfl g1 ?_
  refine r_iconst d_X3_readReckoning_12 (v := (4 : Int32)) (by decide +kernel) ?_
  refine r_iadd d_X3_readReckoning_13 ?_
  replace e := bd e
  obtain ⟨q5, eq5, e⟩ := e
  refine g_callV d_X3_readReckoning_14 vk_2_92 (as := [_]) rfl (tO_pE k1) rfl (by simp [zrf_cat, cat_int, cat_long]) (j := 2) (by omega) (c_X3_readValue (by omega) eq5) ?_
  refine r_if_ne d_X3_readReckoning_17 (tgt := 22) (by decide) (fun c6 => ?_) (fun c6 => ?_)
  · replace e := (if_neg c6).symm.trans e
    refine g_ald_n d_X3_readReckoning_22 rfl g0 ?_
    replace e := ckd e
    obtain ⟨k8, e⟩ := e
    replace e := bd e
    obtain ⟨q7, eq7, e⟩ := e
    refine g_callV d_X3_readReckoning_23 vk_2_75 (as := []) rfl k8 rfl (by simp [zrf_cat, cat_int, cat_long]) (j := 1) (by omega) (c_X3_peek (by omega) eq7) ?_
    refine s_istore_n d_X3_readReckoning_26 rfl (by decide) (fun L g2 gK => ?_)
    replace g0 := gK _ _ (by decide) (Or.inr (zrf_cat _)) g0
    replace g1 := gK _ _ (by decide) (Or.inr rfl) g1
    refine r_iload_n d_X3_readReckoning_27 rfl g2 ?_
    refine r_bipush d_X3_readReckoning_28 (v := (43 : Int32)) (by decide +kernel) ?_
    refine r_icmp_eq d_X3_readReckoning_30 (tgt := 59) (by decide) (fun c9 => ?_) (fun c9 => ?_)
    · replace e := (if_pos c9).symm.trans e
      exact f_X3_readReckoning_59_ok hj _ _ _ _ _ _ g0 g1 g2 e
    · replace e := (if_neg c9).symm.trans e
      refine r_iload_n d_X3_readReckoning_33 rfl g2 ?_
      refine r_bipush d_X3_readReckoning_34 (v := (45 : Int32)) (by decide +kernel) ?_
      refine r_icmp_eq d_X3_readReckoning_36 (tgt := 59) (by decide) (fun c10 => ?_) (fun c10 => ?_)
      · replace e := (if_pos c10).symm.trans e
        exact f_X3_readReckoning_59_ok hj _ _ _ _ _ _ g0 g1 g2 e
      · replace e := (if_neg c10).symm.trans e
        refine r_iload_n d_X3_readReckoning_39 rfl g2 ?_
        refine r_bipush d_X3_readReckoning_40 (v := (42 : Int32)) (by decide +kernel) ?_
        refine r_icmp_eq d_X3_readReckoning_42 (tgt := 59) (by decide) (fun c11 => ?_) (fun c11 => ?_)
        · replace e := (if_pos c11).symm.trans e
          exact f_X3_readReckoning_59_ok hj _ _ _ _ _ _ g0 g1 g2 e
        · replace e := (if_neg c11).symm.trans e
          refine r_iload_n d_X3_readReckoning_45 rfl g2 ?_
          refine r_bipush d_X3_readReckoning_46 (v := (60 : Int32)) (by decide +kernel) ?_
          refine r_icmp_eq d_X3_readReckoning_48 (tgt := 59) (by decide) (fun c12 => ?_) (fun c12 => ?_)
          · replace e := (if_pos c12).symm.trans e
            exact f_X3_readReckoning_59_ok hj _ _ _ _ _ _ g0 g1 g2 e
          · replace e := (if_neg c12).symm.trans e
            refine r_iload_n d_X3_readReckoning_51 rfl g2 ?_
            refine r_bipush d_X3_readReckoning_52 (v := (61 : Int32)) (by decide +kernel) ?_
            refine r_icmp_eq d_X3_readReckoning_54 (tgt := 59) (by decide) (fun c13 => ?_) (fun c13 => ?_)
            · replace e := (if_pos c13).symm.trans e
              exact f_X3_readReckoning_59_ok hj _ _ _ _ _ _ g0 g1 g2 e
            · replace e := (if_neg c13).symm.trans e
              refine r_iconst d_X3_readReckoning_57 (v := (1 : Int32)) (by decide +kernel) ?_
              obtain rfl := Option.some.inj e
              exact g_iret d_X3_readReckoning_58 rfl rfl
  · replace e := (if_pos c6).symm.trans e
    refine r_iconst d_X3_readReckoning_20 (v := (0 : Int32)) (by decide +kernel) ?_
    obtain rfl := Option.some.inj e
    exact g_iret d_X3_readReckoning_21 rfl rfl

theorem c_X3_readReckoning {G : Gd} {j : Nat} (hj : 3 ≤ j) {l0 : Nat} {l1 : Int32} {h : Hp} {o : (Int32 × Hp)} (e : f_X3_readReckoning l0 l1 h = some o) : Cal G j Y_X3_readReckoning [zrf (l0), .int (l1)] h (some (.int o.1)) o.2 := Cal.of (n := 0) (I := false) (by first | exact Or.inl (by decide +kernel) | exact Or.inr (by decide +kernel)) (by decide) (by simp [lg_sl, zrf_cat, cat_int, cat_long]) (f_X3_readReckoning_ok hj _ _ _ h o (by simp [lv_args, zlk, zrf_cat, cat_int, cat_long]) (by simp [lv_args, zlk, zrf_cat, cat_int, cat_long]) e)
theorem vk_2_95 : Vk "TaskWeave$Parser" 95 1 4 Y_X3_readReckoning := ⟨yk_X3_readReckoning, by decide +kernel, by decide +kernel, by decide +kernel, by decide⟩
theorem vk_2_85 : Vk "TaskWeave$Parser" 85 2 4 Y_X3_readDigit := ⟨yk_X3_readDigit, by decide +kernel, by decide +kernel, by decide +kernel, by decide⟩
theorem vk_2_89 : Vk "TaskWeave$Parser" 89 1 4 Y_X3_readBracket := ⟨yk_X3_readBracket, by decide +kernel, by decide +kernel, by decide +kernel, by decide⟩
def f_X3_readRightSide_35 (l0 : Nat) (l1 : Int32) (l2 : Int32) (h : Hp) : Option (Int32 × Hp) := ck (isO (h) (l0) 4) (ck (isO (h) (zR (h) 401 (l0)) 22) (ck (inR ((l1) + ((0 : Int32))) (zL (h) (zR (h) 401 (l0)))) (bh (pE (h) (zR (h) 401 (l0)) ((l1) + ((0 : Int32))).toNatClampNeg (l2)) (fun h13 => bh (pI (h13) 404 (l0) ((zI (h13) 404 (l0)) + ((1 : Int32)))) (fun h14 => if (l2) = (65 : Int32) then ((f_X3_readDigit (l0) (l1) ((57 : Int32)) (h14)).bind (fun q16 => if (q16.1) = (0) then (some ((0 : Int32), q16.2)) else (ck (isO (q16.2) (l0) 4) ((f_X3_readBracket (l0) (l1) (q16.2)).bind (fun q18 => if (q18.1) = (0) then (some ((0 : Int32), q18.2)) else (some ((1 : Int32), q18.2))))))) else (if (l2) = (67 : Int32) then ((f_X3_readDigit (l0) (l1) ((55 : Int32)) (h14)).bind (fun q22 => if (q22.1) = (0) then (some ((0 : Int32), q22.2)) else (ck (isO (q22.2) (l0) 4) ((f_X3_readBracket (l0) (l1) (q22.2)).bind (fun q24 => if (q24.1) = (0) then (some ((0 : Int32), q24.2)) else (some ((1 : Int32), q24.2))))))) else (if (l2) = (74 : Int32) then ((f_X3_readBracket (l0) (l1) (h14)).bind (fun q28 => ck (isB (q28.1)) (some (q28.1, q28.2)))) else (some ((1 : Int32), h14)))))))))
theorem f_X3_readRightSide_35_ok {G : Gd} {d : Nat} (hj : 4 ≤ d) : ∀ (l0 : Nat) (l1 : Int32) (l2 : Int32) (L : List (Nat × Value)) (h : Hp) (o : (Int32 × Hp)), zlk L 0 = some (zrf (l0)) → zlk L 1 = some (.int (l1)) → zlk L 2 = some (.int (l2)) → f_X3_readRightSide_35 l0 l1 l2 h = some o → Ev G M_X3_readRightSide d 35 L [] h (Ret Y_X3_readRightSide (some (.int o.1)) o.2) := by
  intro l0 l1 l2 L h o g0 g1 g2 e
  unfold f_X3_readRightSide_35 at e
  refine g_ald_n d_X3_readRightSide_35 rfl g0 ?_
  replace e := ckd e
  obtain ⟨k10, e⟩ := e
  refine g_getR d_X3_readRightSide_36 (f := 401) k10 fk_2_15 rfl rfl ?_
  refine r_iload_n d_X3_readRightSide_39 rfl g1 ?_
  refine r_iconst d_X3_readRightSide_40 (v := (0 : Int32)) (by decide +kernel) ?_
  refine r_iadd d_X3_readRightSide_41 ?_
  refine r_iload_n d_X3_readRightSide_42 rfl g2 ?_
  replace e := ckd e
  obtain ⟨k11, e⟩ := e
  replace e := ckd e
  obtain ⟨k12, e⟩ := e
  refine g_iast d_X3_readRightSide_43 k11 k12 ?_
  replace e := bhd e
  obtain ⟨_, rfl, e⟩ := e
  refine g_ald_n d_X3_readRightSide_44 rfl g0 ?_
  refine r_dup d_X3_readRightSide_45 (zrf_cat _) ?_
  refine g_getI d_X3_readRightSide_46 (f := 404) (tO_pE k10) fk_2_39 rfl rfl ?_
  refine r_iconst d_X3_readRightSide_49 (v := (1 : Int32)) (by decide +kernel) ?_
  refine r_iadd d_X3_readRightSide_50 ?_
  refine g_putI d_X3_readRightSide_51 (f := 404) (tO_pE k10) fk_2_39 rfl (Or.inl rfl) ⟨rfl, rfl⟩ ?_
  replace e := bhd e
  obtain ⟨_, rfl, e⟩ := e
  refine r_iload_n d_X3_readRightSide_54 rfl g2 ?_
  rcases ite_or e with ⟨c15, e⟩ | ⟨c15, e⟩
  · refine r_lookup d_X3_readRightSide_55 (off := 33) (tgt := 88) (by decide +kernel) (by rw [c15] <;> rfl) (by decide) ?_
    refine g_ald_n d_X3_readRightSide_88 rfl g0 ?_
    refine r_iload_n d_X3_readRightSide_89 rfl g1 ?_
    refine r_bipush d_X3_readRightSide_90 (v := (57 : Int32)) (by decide +kernel) ?_
    replace e := bd e
    obtain ⟨q16, eq16, e⟩ := e
    refine g_callV d_X3_readRightSide_92 vk_2_85 (as := [_, _]) rfl (tO_pI (tO_pE k10)) rfl (by simp [zrf_cat, cat_int, cat_long]) (j := 2) (by omega) (c_X3_readDigit (by omega) eq16) ?_
    refine r_if_eq d_X3_readRightSide_95 (tgt := 110) (by decide) (fun c17 => ?_) (fun c17 => ?_)
    · replace e := (if_pos c17).symm.trans e
      refine r_iconst d_X3_readRightSide_110 (v := (0 : Int32)) (by decide +kernel) ?_
      obtain rfl := Option.some.inj e
      exact g_iret d_X3_readRightSide_111 rfl rfl
    · replace e := (if_neg c17).symm.trans e
      refine g_ald_n d_X3_readRightSide_98 rfl g0 ?_
      refine r_iload_n d_X3_readRightSide_99 rfl g1 ?_
      replace e := ckd e
      obtain ⟨k19, e⟩ := e
      replace e := bd e
      obtain ⟨q18, eq18, e⟩ := e
      refine g_callV d_X3_readRightSide_100 vk_2_89 (as := [_]) rfl k19 rfl (by simp [zrf_cat, cat_int, cat_long]) (j := 3) (by omega) (c_X3_readBracket (by omega) eq18) ?_
      refine r_if_eq d_X3_readRightSide_103 (tgt := 110) (by decide) (fun c20 => ?_) (fun c20 => ?_)
      · replace e := (if_pos c20).symm.trans e
        refine r_iconst d_X3_readRightSide_110 (v := (0 : Int32)) (by decide +kernel) ?_
        obtain rfl := Option.some.inj e
        exact g_iret d_X3_readRightSide_111 rfl rfl
      · replace e := (if_neg c20).symm.trans e
        refine r_iconst d_X3_readRightSide_106 (v := (1 : Int32)) (by decide +kernel) ?_
        refine r_goto d_X3_readRightSide_107 (tgt := 111) (by decide) ?_
        obtain rfl := Option.some.inj e
        exact g_iret d_X3_readRightSide_111 rfl rfl
  · rcases ite_or e with ⟨c21, e⟩ | ⟨c21, e⟩
    · refine r_lookup d_X3_readRightSide_55 (off := 57) (tgt := 112) (by decide +kernel) (by rw [c21] <;> rfl) (by decide) ?_
      refine g_ald_n d_X3_readRightSide_112 rfl g0 ?_
      refine r_iload_n d_X3_readRightSide_113 rfl g1 ?_
      refine r_bipush d_X3_readRightSide_114 (v := (55 : Int32)) (by decide +kernel) ?_
      replace e := bd e
      obtain ⟨q22, eq22, e⟩ := e
      refine g_callV d_X3_readRightSide_116 vk_2_85 (as := [_, _]) rfl (tO_pI (tO_pE k10)) rfl (by simp [zrf_cat, cat_int, cat_long]) (j := 2) (by omega) (c_X3_readDigit (by omega) eq22) ?_
      refine r_if_eq d_X3_readRightSide_119 (tgt := 134) (by decide) (fun c23 => ?_) (fun c23 => ?_)
      · replace e := (if_pos c23).symm.trans e
        refine r_iconst d_X3_readRightSide_134 (v := (0 : Int32)) (by decide +kernel) ?_
        obtain rfl := Option.some.inj e
        exact g_iret d_X3_readRightSide_135 rfl rfl
      · replace e := (if_neg c23).symm.trans e
        refine g_ald_n d_X3_readRightSide_122 rfl g0 ?_
        refine r_iload_n d_X3_readRightSide_123 rfl g1 ?_
        replace e := ckd e
        obtain ⟨k25, e⟩ := e
        replace e := bd e
        obtain ⟨q24, eq24, e⟩ := e
        refine g_callV d_X3_readRightSide_124 vk_2_89 (as := [_]) rfl k25 rfl (by simp [zrf_cat, cat_int, cat_long]) (j := 3) (by omega) (c_X3_readBracket (by omega) eq24) ?_
        refine r_if_eq d_X3_readRightSide_127 (tgt := 134) (by decide) (fun c26 => ?_) (fun c26 => ?_)
        · replace e := (if_pos c26).symm.trans e
          refine r_iconst d_X3_readRightSide_134 (v := (0 : Int32)) (by decide +kernel) ?_
          obtain rfl := Option.some.inj e
          exact g_iret d_X3_readRightSide_135 rfl rfl
        · replace e := (if_neg c26).symm.trans e
          refine r_iconst d_X3_readRightSide_130 (v := (1 : Int32)) (by decide +kernel) ?_
          refine r_goto d_X3_readRightSide_131 (tgt := 135) (by decide) ?_
          obtain rfl := Option.some.inj e
          exact g_iret d_X3_readRightSide_135 rfl rfl
    · rcases ite_or e with ⟨c27, e⟩ | ⟨c27, e⟩
      · refine r_lookup d_X3_readRightSide_55 (off := 81) (tgt := 136) (by decide +kernel) (by rw [c27] <;> rfl) (by decide) ?_
        refine g_ald_n d_X3_readRightSide_136 rfl g0 ?_
        refine r_iload_n d_X3_readRightSide_137 rfl g1 ?_
        replace e := bd e
        obtain ⟨q28, eq28, e⟩ := e
        refine g_callV d_X3_readRightSide_138 vk_2_89 (as := [_]) rfl (tO_pI (tO_pE k10)) rfl (by simp [zrf_cat, cat_int, cat_long]) (j := 3) (by omega) (c_X3_readBracket (by omega) eq28) ?_
        replace e := ckd e
        obtain ⟨k29, e⟩ := e
        obtain rfl := Option.some.inj e
        exact g_iret d_X3_readRightSide_141 rfl k29
      · refine r_lookup d_X3_readRightSide_55 (off := 87) (tgt := 142) (by decide +kernel) (by rw [lv_osw c15 (by decide +kernel), lv_osw c21 (by decide +kernel), lv_osw c27 (by decide +kernel)] <;> rfl) (by decide) ?_
        refine r_iconst d_X3_readRightSide_142 (v := (1 : Int32)) (by decide +kernel) ?_
        obtain rfl := Option.some.inj e
        exact g_iret d_X3_readRightSide_143 rfl rfl

def f_X3_readRightSide (l0 : Nat) (l1 : Int32) (h : Hp) : Option (Int32 × Hp) := ck (isO (h) (l0) 4) ((f_X3_peek (l0) (h)).bind (fun q1 => if (q1.1) = ((65 : Int32)) then (f_X3_readRightSide_35 (l0) (l1) (q1.1) (q1.2)) else (if (q1.1) = ((87 : Int32)) then (f_X3_readRightSide_35 (l0) (l1) (q1.1) (q1.2)) else (if (q1.1) = ((67 : Int32)) then (f_X3_readRightSide_35 (l0) (l1) (q1.1) (q1.2)) else (if (q1.1) = ((74 : Int32)) then (f_X3_readRightSide_35 (l0) (l1) (q1.1) (q1.2)) else (ck (isO (q1.2) (l0) 4) ((f_X3_readReckoning (l0) (l1) (q1.2)).bind (fun q7 => ck (isB (q7.1)) (some (q7.1, q7.2))))))))))
theorem f_X3_readRightSide_ok {G : Gd} {d : Nat} (hj : 4 ≤ d) : ∀ (l0 : Nat) (l1 : Int32) (L : List (Nat × Value)) (h : Hp) (o : (Int32 × Hp)), zlk L 0 = some (zrf (l0)) → zlk L 1 = some (.int (l1)) → f_X3_readRightSide l0 l1 h = some o → Ev G M_X3_readRightSide d 0 L [] h (Ret Y_X3_readRightSide (some (.int o.1)) o.2) := by
  intro l0 l1 L h o g0 g1 e
  unfold f_X3_readRightSide at e
  refine g_ald_n d_X3_readRightSide_0 rfl g0 ?_
  replace e := ckd e
  obtain ⟨k2, e⟩ := e
  replace e := bd e
  obtain ⟨q1, eq1, e⟩ := e
  refine g_callV d_X3_readRightSide_1 vk_2_75 (as := []) rfl k2 rfl (by simp [zrf_cat, cat_int, cat_long]) (j := 1) (by omega) (c_X3_peek (by omega) eq1) ?_
  refine s_istore_n d_X3_readRightSide_4 rfl (by decide) (fun L g2 gK => ?_)
  replace g0 := gK _ _ (by decide) (Or.inr (zrf_cat _)) g0
  replace g1 := gK _ _ (by decide) (Or.inr rfl) g1
  refine r_iload_n d_X3_readRightSide_5 rfl g2 ?_
  refine r_bipush d_X3_readRightSide_6 (v := (65 : Int32)) (by decide +kernel) ?_
  refine r_icmp_eq d_X3_readRightSide_8 (tgt := 35) (by decide) (fun c3 => ?_) (fun c3 => ?_)
  · replace e := (if_pos c3).symm.trans e
    exact f_X3_readRightSide_35_ok hj _ _ _ _ _ _ g0 g1 g2 e
  · replace e := (if_neg c3).symm.trans e
    refine r_iload_n d_X3_readRightSide_11 rfl g2 ?_
    refine r_bipush d_X3_readRightSide_12 (v := (87 : Int32)) (by decide +kernel) ?_
    refine r_icmp_eq d_X3_readRightSide_14 (tgt := 35) (by decide) (fun c4 => ?_) (fun c4 => ?_)
    · replace e := (if_pos c4).symm.trans e
      exact f_X3_readRightSide_35_ok hj _ _ _ _ _ _ g0 g1 g2 e
    · replace e := (if_neg c4).symm.trans e
      refine r_iload_n d_X3_readRightSide_17 rfl g2 ?_
      refine r_bipush d_X3_readRightSide_18 (v := (67 : Int32)) (by decide +kernel) ?_
      refine r_icmp_eq d_X3_readRightSide_20 (tgt := 35) (by decide) (fun c5 => ?_) (fun c5 => ?_)
      · replace e := (if_pos c5).symm.trans e
        exact f_X3_readRightSide_35_ok hj _ _ _ _ _ _ g0 g1 g2 e
      · replace e := (if_neg c5).symm.trans e
        refine r_iload_n d_X3_readRightSide_23 rfl g2 ?_
        refine r_bipush d_X3_readRightSide_24 (v := (74 : Int32)) (by decide +kernel) ?_
        refine r_icmp_eq d_X3_readRightSide_26 (tgt := 35) (by decide) (fun c6 => ?_) (fun c6 => ?_)
        · replace e := (if_pos c6).symm.trans e
          exact f_X3_readRightSide_35_ok hj _ _ _ _ _ _ g0 g1 g2 e
        · replace e := (if_neg c6).symm.trans e
          refine g_ald_n d_X3_readRightSide_29 rfl g0 ?_
          refine r_iload_n d_X3_readRightSide_30 rfl g1 ?_
          replace e := ckd e
          obtain ⟨k8, e⟩ := e
          replace e := bd e
          obtain ⟨q7, eq7, e⟩ := e
          refine g_callV d_X3_readRightSide_31 vk_2_95 (as := [_]) rfl k8 rfl (by simp [zrf_cat, cat_int, cat_long]) (j := 3) (by omega) (c_X3_readReckoning (by omega) eq7) ?_
          replace e := ckd e
          obtain ⟨k9, e⟩ := e
          obtain rfl := Option.some.inj e
          exact g_iret d_X3_readRightSide_34 rfl k9

theorem c_X3_readRightSide {G : Gd} {j : Nat} (hj : 4 ≤ j) {l0 : Nat} {l1 : Int32} {h : Hp} {o : (Int32 × Hp)} (e : f_X3_readRightSide l0 l1 h = some o) : Cal G j Y_X3_readRightSide [zrf (l0), .int (l1)] h (some (.int o.1)) o.2 := Cal.of (n := 0) (I := false) (by first | exact Or.inl (by decide +kernel) | exact Or.inr (by decide +kernel)) (by decide) (by simp [lg_sl, zrf_cat, cat_int, cat_long]) (f_X3_readRightSide_ok hj _ _ _ h o (by simp [lv_args, zlk, zrf_cat, cat_int, cat_long]) (by simp [lv_args, zlk, zrf_cat, cat_int, cat_long]) e)
theorem vk_2_82 : Vk "TaskWeave$Parser" 82 1 4 Y_X3_readRightSide := ⟨yk_X3_readRightSide, by decide +kernel, by decide +kernel, by decide +kernel, by decide⟩
def f_X3_readStep_131 (l0 : Nat) (l1 : Int32) (l2 : Int32) (h : Hp) : Option (Int32 × Hp) := ck (isO (h) (l0) 4) (ck (isO (h) (zR (h) 401 (l0)) 22) (ck (inR ((l1) + ((0 : Int32))) (zL (h) (zR (h) 401 (l0)))) (bh (pE (h) (zR (h) 401 (l0)) ((l1) + ((0 : Int32))).toNatClampNeg (l2)) (fun h35 => bh (pI (h35) 404 (l0) ((zI (h35) 404 (l0)) + ((1 : Int32)))) (fun h36 => if (l2) = (71 : Int32) then ((f_X3_readDigit (l0) (l1) ((57 : Int32)) (h36)).bind (fun q38 => ck (isB (q38.1)) (some (q38.1, q38.2)))) else (if (l2) = (73 : Int32) then ((f_X3_readBracket (l0) (l1) (h36)).bind (fun q41 => if (q41.1) = (0) then (some ((0 : Int32), q41.2)) else (ck (isO (q41.2) (l0) 4) ((f_X3_readDigit (l0) (l1) ((57 : Int32)) (q41.2)).bind (fun q43 => if (q43.1) = (0) then (some ((0 : Int32), q43.2)) else (some ((1 : Int32), q43.2))))))) else (if (l2) = (83 : Int32) then ((f_X3_accept (l0) ((40 : Int32)) (h36)).bind (fun q47 => if (q47.1) = (0) then (some ((0 : Int32), q47.2)) else (ck (isO (q47.2) (l0) 4) ((f_X3_readValue (l0) ((l1) + ((4 : Int32))) (q47.2)).bind (fun q49 => if (q49.1) = (0) then (some ((0 : Int32), q49.2)) else (ck (isO (q49.2) (l0) 4) ((f_X3_accept (l0) ((44 : Int32)) (q49.2)).bind (fun q52 => if (q52.1) = (0) then (some ((0 : Int32), q52.2)) else (ck (isO (q52.2) (l0) 4) ((f_X3_readValue (l0) ((l1) + ((6 : Int32))) (q52.2)).bind (fun q55 => if (q55.1) = (0) then (some ((0 : Int32), q55.2)) else (ck (isO (q55.2) (l0) 4) ((f_X3_accept (l0) ((41 : Int32)) (q55.2)).bind (fun q58 => if (q58.1) = (0) then (some ((0 : Int32), q58.2)) else (some ((1 : Int32), q58.2)))))))))))))))) else ((f_X3_readBracket (l0) (l1) (h36)).bind (fun q61 => ck (isB (q61.1)) (some (q61.1, q61.2)))))))))))
theorem f_X3_readStep_131_ok {G : Gd} {d : Nat} (hj : 5 ≤ d) : ∀ (l0 : Nat) (l1 : Int32) (l2 : Int32) (L : List (Nat × Value)) (h : Hp) (o : (Int32 × Hp)), zlk L 0 = some (zrf (l0)) → zlk L 1 = some (.int (l1)) → zlk L 2 = some (.int (l2)) → f_X3_readStep_131 l0 l1 l2 h = some o → Ev G M_X3_readStep d 131 L [] h (Ret Y_X3_readStep (some (.int o.1)) o.2) := by
  intro l0 l1 l2 L h o g0 g1 g2 e
  unfold f_X3_readStep_131 at e
  refine g_ald_n d_X3_readStep_131 rfl g0 ?_
  replace e := ckd e
  obtain ⟨k32, e⟩ := e
  refine g_getR d_X3_readStep_132 (f := 401) k32 fk_2_15 rfl rfl ?_
  refine r_iload_n d_X3_readStep_135 rfl g1 ?_
  refine r_iconst d_X3_readStep_136 (v := (0 : Int32)) (by decide +kernel) ?_
  refine r_iadd d_X3_readStep_137 ?_
  refine r_iload_n d_X3_readStep_138 rfl g2 ?_
  replace e := ckd e
  obtain ⟨k33, e⟩ := e
  replace e := ckd e
  obtain ⟨k34, e⟩ := e
  refine g_iast d_X3_readStep_139 k33 k34 ?_
  replace e := bhd e
  obtain ⟨_, rfl, e⟩ := e
  refine g_ald_n d_X3_readStep_140 rfl g0 ?_
  refine r_dup d_X3_readStep_141 (zrf_cat _) ?_
  refine g_getI d_X3_readStep_142 (f := 404) (tO_pE k32) fk_2_39 rfl rfl ?_
  refine r_iconst d_X3_readStep_145 (v := (1 : Int32)) (by decide +kernel) ?_
  refine r_iadd d_X3_readStep_146 ?_
  refine g_putI d_X3_readStep_147 (f := 404) (tO_pE k32) fk_2_39 rfl (Or.inl rfl) ⟨rfl, rfl⟩ ?_
  replace e := bhd e
  obtain ⟨_, rfl, e⟩ := e
  refine r_iload_n d_X3_readStep_150 rfl g2 ?_
  rcases ite_or e with ⟨c37, e⟩ | ⟨c37, e⟩
  · refine r_lookup d_X3_readStep_151 (off := 33) (tgt := 184) (by decide +kernel) (by rw [c37] <;> rfl) (by decide) ?_
    refine g_ald_n d_X3_readStep_184 rfl g0 ?_
    refine r_iload_n d_X3_readStep_185 rfl g1 ?_
    refine r_bipush d_X3_readStep_186 (v := (57 : Int32)) (by decide +kernel) ?_
    replace e := bd e
    obtain ⟨q38, eq38, e⟩ := e
    refine g_callV d_X3_readStep_188 vk_2_85 (as := [_, _]) rfl (tO_pI (tO_pE k32)) rfl (by simp [zrf_cat, cat_int, cat_long]) (j := 2) (by omega) (c_X3_readDigit (by omega) eq38) ?_
    replace e := ckd e
    obtain ⟨k39, e⟩ := e
    obtain rfl := Option.some.inj e
    exact g_iret d_X3_readStep_191 rfl k39
  · rcases ite_or e with ⟨c40, e⟩ | ⟨c40, e⟩
    · refine r_lookup d_X3_readStep_151 (off := 41) (tgt := 192) (by decide +kernel) (by rw [c40] <;> rfl) (by decide) ?_
      refine g_ald_n d_X3_readStep_192 rfl g0 ?_
      refine r_iload_n d_X3_readStep_193 rfl g1 ?_
      replace e := bd e
      obtain ⟨q41, eq41, e⟩ := e
      refine g_callV d_X3_readStep_194 vk_2_89 (as := [_]) rfl (tO_pI (tO_pE k32)) rfl (by simp [zrf_cat, cat_int, cat_long]) (j := 3) (by omega) (c_X3_readBracket (by omega) eq41) ?_
      refine r_if_eq d_X3_readStep_197 (tgt := 214) (by decide) (fun c42 => ?_) (fun c42 => ?_)
      · replace e := (if_pos c42).symm.trans e
        refine r_iconst d_X3_readStep_214 (v := (0 : Int32)) (by decide +kernel) ?_
        obtain rfl := Option.some.inj e
        exact g_iret d_X3_readStep_215 rfl rfl
      · replace e := (if_neg c42).symm.trans e
        refine g_ald_n d_X3_readStep_200 rfl g0 ?_
        refine r_iload_n d_X3_readStep_201 rfl g1 ?_
        refine r_bipush d_X3_readStep_202 (v := (57 : Int32)) (by decide +kernel) ?_
        replace e := ckd e
        obtain ⟨k44, e⟩ := e
        replace e := bd e
        obtain ⟨q43, eq43, e⟩ := e
        refine g_callV d_X3_readStep_204 vk_2_85 (as := [_, _]) rfl k44 rfl (by simp [zrf_cat, cat_int, cat_long]) (j := 2) (by omega) (c_X3_readDigit (by omega) eq43) ?_
        refine r_if_eq d_X3_readStep_207 (tgt := 214) (by decide) (fun c45 => ?_) (fun c45 => ?_)
        · replace e := (if_pos c45).symm.trans e
          refine r_iconst d_X3_readStep_214 (v := (0 : Int32)) (by decide +kernel) ?_
          obtain rfl := Option.some.inj e
          exact g_iret d_X3_readStep_215 rfl rfl
        · replace e := (if_neg c45).symm.trans e
          refine r_iconst d_X3_readStep_210 (v := (1 : Int32)) (by decide +kernel) ?_
          refine r_goto d_X3_readStep_211 (tgt := 215) (by decide) ?_
          obtain rfl := Option.some.inj e
          exact g_iret d_X3_readStep_215 rfl rfl
    · rcases ite_or e with ⟨c46, e⟩ | ⟨c46, e⟩
      · refine r_lookup d_X3_readStep_151 (off := 65) (tgt := 216) (by decide +kernel) (by rw [c46] <;> rfl) (by decide) ?_
        refine g_ald_n d_X3_readStep_216 rfl g0 ?_
        refine r_bipush d_X3_readStep_217 (v := (40 : Int32)) (by decide +kernel) ?_
        replace e := bd e
        obtain ⟨q47, eq47, e⟩ := e
        refine g_callV d_X3_readStep_219 vk_2_71 (as := [_]) rfl (tO_pI (tO_pE k32)) rfl (by simp [zrf_cat, cat_int, cat_long]) (j := 1) (by omega) (c_X3_accept (by omega) eq47) ?_
        refine r_if_eq d_X3_readStep_222 (tgt := 268) (by decide) (fun c48 => ?_) (fun c48 => ?_)
        · replace e := (if_pos c48).symm.trans e
          refine r_iconst d_X3_readStep_268 (v := (0 : Int32)) (by decide +kernel) ?_
          obtain rfl := Option.some.inj e
          exact g_iret d_X3_readStep_269 rfl rfl
        · replace e := (if_neg c48).symm.trans e
          refine g_ald_n d_X3_readStep_225 rfl g0 ?_
          refine r_iload_n d_X3_readStep_226 rfl g1 ?_
          refine r_iconst d_X3_readStep_227 (v := (4 : Int32)) (by decide +kernel) ?_
          refine r_iadd d_X3_readStep_228 ?_
          replace e := ckd e
          obtain ⟨k50, e⟩ := e
          replace e := bd e
          obtain ⟨q49, eq49, e⟩ := e
          refine g_callV d_X3_readStep_229 vk_2_92 (as := [_]) rfl k50 rfl (by simp [zrf_cat, cat_int, cat_long]) (j := 2) (by omega) (c_X3_readValue (by omega) eq49) ?_
          refine r_if_eq d_X3_readStep_232 (tgt := 268) (by decide) (fun c51 => ?_) (fun c51 => ?_)
          · replace e := (if_pos c51).symm.trans e
            refine r_iconst d_X3_readStep_268 (v := (0 : Int32)) (by decide +kernel) ?_
            obtain rfl := Option.some.inj e
            exact g_iret d_X3_readStep_269 rfl rfl
          · replace e := (if_neg c51).symm.trans e
            refine g_ald_n d_X3_readStep_235 rfl g0 ?_
            refine r_bipush d_X3_readStep_236 (v := (44 : Int32)) (by decide +kernel) ?_
            replace e := ckd e
            obtain ⟨k53, e⟩ := e
            replace e := bd e
            obtain ⟨q52, eq52, e⟩ := e
            refine g_callV d_X3_readStep_238 vk_2_71 (as := [_]) rfl k53 rfl (by simp [zrf_cat, cat_int, cat_long]) (j := 1) (by omega) (c_X3_accept (by omega) eq52) ?_
            refine r_if_eq d_X3_readStep_241 (tgt := 268) (by decide) (fun c54 => ?_) (fun c54 => ?_)
            · replace e := (if_pos c54).symm.trans e
              refine r_iconst d_X3_readStep_268 (v := (0 : Int32)) (by decide +kernel) ?_
              obtain rfl := Option.some.inj e
              exact g_iret d_X3_readStep_269 rfl rfl
            · replace e := (if_neg c54).symm.trans e
              refine g_ald_n d_X3_readStep_244 rfl g0 ?_
              refine r_iload_n d_X3_readStep_245 rfl g1 ?_
              refine r_bipush d_X3_readStep_246 (v := (6 : Int32)) (by decide +kernel) ?_
              refine r_iadd d_X3_readStep_248 ?_
              replace e := ckd e
              obtain ⟨k56, e⟩ := e
              replace e := bd e
              obtain ⟨q55, eq55, e⟩ := e
              refine g_callV d_X3_readStep_249 vk_2_92 (as := [_]) rfl k56 rfl (by simp [zrf_cat, cat_int, cat_long]) (j := 2) (by omega) (c_X3_readValue (by omega) eq55) ?_
              refine r_if_eq d_X3_readStep_252 (tgt := 268) (by decide) (fun c57 => ?_) (fun c57 => ?_)
              · replace e := (if_pos c57).symm.trans e
                refine r_iconst d_X3_readStep_268 (v := (0 : Int32)) (by decide +kernel) ?_
                obtain rfl := Option.some.inj e
                exact g_iret d_X3_readStep_269 rfl rfl
              · replace e := (if_neg c57).symm.trans e
                refine g_ald_n d_X3_readStep_255 rfl g0 ?_
                refine r_bipush d_X3_readStep_256 (v := (41 : Int32)) (by decide +kernel) ?_
                replace e := ckd e
                obtain ⟨k59, e⟩ := e
                replace e := bd e
                obtain ⟨q58, eq58, e⟩ := e
                refine g_callV d_X3_readStep_258 vk_2_71 (as := [_]) rfl k59 rfl (by simp [zrf_cat, cat_int, cat_long]) (j := 1) (by omega) (c_X3_accept (by omega) eq58) ?_
                refine r_if_eq d_X3_readStep_261 (tgt := 268) (by decide) (fun c60 => ?_) (fun c60 => ?_)
                · replace e := (if_pos c60).symm.trans e
                  refine r_iconst d_X3_readStep_268 (v := (0 : Int32)) (by decide +kernel) ?_
                  obtain rfl := Option.some.inj e
                  exact g_iret d_X3_readStep_269 rfl rfl
                · replace e := (if_neg c60).symm.trans e
                  refine r_iconst d_X3_readStep_264 (v := (1 : Int32)) (by decide +kernel) ?_
                  refine r_goto d_X3_readStep_265 (tgt := 269) (by decide) ?_
                  obtain rfl := Option.some.inj e
                  exact g_iret d_X3_readStep_269 rfl rfl
      · refine r_lookup d_X3_readStep_151 (off := 119) (tgt := 270) (by decide +kernel) (by rw [lv_osw c37 (by decide +kernel), lv_osw c40 (by decide +kernel), lv_osw c46 (by decide +kernel)] <;> rfl) (by decide) ?_
        refine g_ald_n d_X3_readStep_270 rfl g0 ?_
        refine r_iload_n d_X3_readStep_271 rfl g1 ?_
        replace e := bd e
        obtain ⟨q61, eq61, e⟩ := e
        refine g_callV d_X3_readStep_272 vk_2_89 (as := [_]) rfl (tO_pI (tO_pE k32)) rfl (by simp [zrf_cat, cat_int, cat_long]) (j := 3) (by omega) (c_X3_readBracket (by omega) eq61) ?_
        replace e := ckd e
        obtain ⟨k62, e⟩ := e
        obtain rfl := Option.some.inj e
        exact g_iret d_X3_readStep_275 rfl k62

def f_X3_readStep_2 : Nat → Nat → Int32 → Int32 → Hp → Option (Int32 × Hp)
  | 0, _, _, _, _ => none
  | n + 1, l0, l1, l2, h => if ((8 : Int32)) ≤ (l2) then (ck (isO (h) (l0) 4) (ck (isO (h) (zR (h) 401 (l0)) 22) (ck (inR ((l1) + ((4 : Int32))) (zL (h) (zR (h) 401 (l0)))) (bh (pE (h) (zR (h) 401 (l0)) ((l1) + ((4 : Int32))).toNatClampNeg ((-1 : Int32))) (fun h5 => ck (isO (h5) (zR (h5) 401 (l0)) 22) (ck (inR ((l1) + ((6 : Int32))) (zL (h5) (zR (h5) 401 (l0)))) (bh (pE (h5) (zR (h5) 401 (l0)) ((l1) + ((6 : Int32))).toNatClampNeg ((-1 : Int32))) (fun h8 => (f_X3_peek (l0) (h8)).bind (fun q9 => (f_X3_isLocal (q9.1) (q9.2)).bind (fun q10 => if (q10.1) = (0) then (if (q9.1) = ((84 : Int32)) then (f_X3_readStep_131 (l0) (l1) (q9.1) (q10.2)) else (if (q9.1) = ((83 : Int32)) then (f_X3_readStep_131 (l0) (l1) (q9.1) (q10.2)) else (if (q9.1) = ((73 : Int32)) then (f_X3_readStep_131 (l0) (l1) (q9.1) (q10.2)) else (if (q9.1) = ((71 : Int32)) then (f_X3_readStep_131 (l0) (l1) (q9.1) (q10.2)) else (if (q9.1) = ((69 : Int32)) then (f_X3_readStep_131 (l0) (l1) (q9.1) (q10.2)) else (some ((0 : Int32), q10.2))))))) else (ck (isO (q10.2) (l0) 4) (ck (isO (q10.2) (zR (q10.2) 401 (l0)) 22) (ck (inR ((l1) + ((1 : Int32))) (zL (q10.2) (zR (q10.2) 401 (l0)))) (bh (pE (q10.2) (zR (q10.2) 401 (l0)) ((l1) + ((1 : Int32))).toNatClampNeg ((q9.1) - ((97 : Int32)))) (fun h20 => bh (pI (h20) 404 (l0) ((zI (h20) 404 (l0)) + ((1 : Int32)))) (fun h21 => (f_X3_accept (l0) ((61 : Int32)) (h21)).bind (fun q22 => if (q22.1) = (0) then (some ((0 : Int32), q22.2)) else (ck (isO (q22.2) (l0) 4) ((f_X3_readRightSide (l0) (l1) (q22.2)).bind (fun q24 => if (q24.1) = (0) then (some ((0 : Int32), q24.2)) else (some ((1 : Int32), q24.2)))))))))))))))))))))) else (ck (isO (h) (l0) 4) (ck (isO (h) (zR (h) 401 (l0)) 22) (ck (inR ((l1) + (l2)) (zL (h) (zR (h) 401 (l0)))) (bh (pE (h) (zR (h) 401 (l0)) ((l1) + (l2)).toNatClampNeg ((0 : Int32))) (fun h30 => bh ((l2) + (1 : Int32)) (fun x31 => f_X3_readStep_2 n (l0) (l1) (x31) (h30)))))))
theorem f_X3_readStep_2_ok {G : Gd} {d : Nat} (hj : 5 ≤ d) : ∀ (n : Nat) (l0 : Nat) (l1 : Int32) (l2 : Int32) (L : List (Nat × Value)) (h : Hp) (o : (Int32 × Hp)), zlk L 0 = some (zrf (l0)) → zlk L 1 = some (.int (l1)) → zlk L 2 = some (.int (l2)) → f_X3_readStep_2 n l0 l1 l2 h = some o → Ev G M_X3_readStep d 2 L [] h (Ret Y_X3_readStep (some (.int o.1)) o.2) := by
  intro n
  induction n with
  | zero =>
    intro l0 l1 l2 L h o g0 g1 g2 e
    cases e
  | succ n ih =>
    intro l0 l1 l2 L h o g0 g1 g2 e
    unfold f_X3_readStep_2 at e
    refine r_iload_n d_X3_readStep_2 rfl g2 ?_
    refine r_bipush d_X3_readStep_3 (v := (8 : Int32)) (by decide +kernel) ?_
    refine r_icmp_ge d_X3_readStep_5 (tgt := 23) (by decide) (fun c1 => ?_) (fun c1 => ?_)
    · replace e := (if_pos c1).symm.trans e
      refine g_ald_n d_X3_readStep_23 rfl g0 ?_
      replace e := ckd e
      obtain ⟨k2, e⟩ := e
      refine g_getR d_X3_readStep_24 (f := 401) k2 fk_2_15 rfl rfl ?_
      refine r_iload_n d_X3_readStep_27 rfl g1 ?_
      refine r_iconst d_X3_readStep_28 (v := (4 : Int32)) (by decide +kernel) ?_
      refine r_iadd d_X3_readStep_29 ?_
      refine r_iconst d_X3_readStep_30 (v := (-1 : Int32)) (by decide +kernel) ?_
      replace e := ckd e
      obtain ⟨k3, e⟩ := e
      replace e := ckd e
      obtain ⟨k4, e⟩ := e
      refine g_iast d_X3_readStep_31 k3 k4 ?_
      replace e := bhd e
      obtain ⟨_, rfl, e⟩ := e
      refine g_ald_n d_X3_readStep_32 rfl g0 ?_
      refine g_getR d_X3_readStep_33 (f := 401) (tO_pE k2) fk_2_15 rfl rfl ?_
      refine r_iload_n d_X3_readStep_36 rfl g1 ?_
      refine r_bipush d_X3_readStep_37 (v := (6 : Int32)) (by decide +kernel) ?_
      refine r_iadd d_X3_readStep_39 ?_
      refine r_iconst d_X3_readStep_40 (v := (-1 : Int32)) (by decide +kernel) ?_
      replace e := ckd e
      obtain ⟨k6, e⟩ := e
      replace e := ckd e
      obtain ⟨k7, e⟩ := e
      refine g_iast d_X3_readStep_41 k6 k7 ?_
      replace e := bhd e
      obtain ⟨_, rfl, e⟩ := e
      refine g_ald_n d_X3_readStep_42 rfl g0 ?_
      replace e := bd e
      obtain ⟨q9, eq9, e⟩ := e
      refine g_callV d_X3_readStep_43 vk_2_75 (as := []) rfl (tO_pE (tO_pE k2)) rfl (by simp [zrf_cat, cat_int, cat_long]) (j := 1) (by omega) (c_X3_peek (by omega) eq9) ?_
      refine s_istore_n d_X3_readStep_46 rfl (by decide) (fun L g2 gK => ?_)
      replace g0 := gK _ _ (by decide) (Or.inr (zrf_cat _)) g0
      replace g1 := gK _ _ (by decide) (Or.inr rfl) g1
      refine r_iload_n d_X3_readStep_47 rfl g2 ?_
      replace e := bd e
      obtain ⟨q10, eq10, e⟩ := e
      refine g_callS d_X3_readStep_48 sk_2_79 (as := [_]) rfl rfl (by simp [zrf_cat, cat_int, cat_long]) (j := 1) (by omega) (c_X3_isLocal (by omega) eq10) ?_
      refine r_if_eq d_X3_readStep_51 (tgt := 99) (by decide) (fun c11 => ?_) (fun c11 => ?_)
      · replace e := (if_pos c11).symm.trans e
        refine r_iload_n d_X3_readStep_99 rfl g2 ?_
        refine r_bipush d_X3_readStep_100 (v := (84 : Int32)) (by decide +kernel) ?_
        refine r_icmp_eq d_X3_readStep_102 (tgt := 131) (by decide) (fun c12 => ?_) (fun c12 => ?_)
        · replace e := (if_pos c12).symm.trans e
          exact f_X3_readStep_131_ok hj _ _ _ _ _ _ g0 g1 g2 e
        · replace e := (if_neg c12).symm.trans e
          refine r_iload_n d_X3_readStep_105 rfl g2 ?_
          refine r_bipush d_X3_readStep_106 (v := (83 : Int32)) (by decide +kernel) ?_
          refine r_icmp_eq d_X3_readStep_108 (tgt := 131) (by decide) (fun c13 => ?_) (fun c13 => ?_)
          · replace e := (if_pos c13).symm.trans e
            exact f_X3_readStep_131_ok hj _ _ _ _ _ _ g0 g1 g2 e
          · replace e := (if_neg c13).symm.trans e
            refine r_iload_n d_X3_readStep_111 rfl g2 ?_
            refine r_bipush d_X3_readStep_112 (v := (73 : Int32)) (by decide +kernel) ?_
            refine r_icmp_eq d_X3_readStep_114 (tgt := 131) (by decide) (fun c14 => ?_) (fun c14 => ?_)
            · replace e := (if_pos c14).symm.trans e
              exact f_X3_readStep_131_ok hj _ _ _ _ _ _ g0 g1 g2 e
            · replace e := (if_neg c14).symm.trans e
              refine r_iload_n d_X3_readStep_117 rfl g2 ?_
              refine r_bipush d_X3_readStep_118 (v := (71 : Int32)) (by decide +kernel) ?_
              refine r_icmp_eq d_X3_readStep_120 (tgt := 131) (by decide) (fun c15 => ?_) (fun c15 => ?_)
              · replace e := (if_pos c15).symm.trans e
                exact f_X3_readStep_131_ok hj _ _ _ _ _ _ g0 g1 g2 e
              · replace e := (if_neg c15).symm.trans e
                refine r_iload_n d_X3_readStep_123 rfl g2 ?_
                refine r_bipush d_X3_readStep_124 (v := (69 : Int32)) (by decide +kernel) ?_
                refine r_icmp_eq d_X3_readStep_126 (tgt := 131) (by decide) (fun c16 => ?_) (fun c16 => ?_)
                · replace e := (if_pos c16).symm.trans e
                  exact f_X3_readStep_131_ok hj _ _ _ _ _ _ g0 g1 g2 e
                · replace e := (if_neg c16).symm.trans e
                  refine r_iconst d_X3_readStep_129 (v := (0 : Int32)) (by decide +kernel) ?_
                  obtain rfl := Option.some.inj e
                  exact g_iret d_X3_readStep_130 rfl rfl
      · replace e := (if_neg c11).symm.trans e
        refine g_ald_n d_X3_readStep_54 rfl g0 ?_
        replace e := ckd e
        obtain ⟨k17, e⟩ := e
        refine g_getR d_X3_readStep_55 (f := 401) k17 fk_2_15 rfl rfl ?_
        refine r_iload_n d_X3_readStep_58 rfl g1 ?_
        refine r_iconst d_X3_readStep_59 (v := (1 : Int32)) (by decide +kernel) ?_
        refine r_iadd d_X3_readStep_60 ?_
        refine r_iload_n d_X3_readStep_61 rfl g2 ?_
        refine r_bipush d_X3_readStep_62 (v := (97 : Int32)) (by decide +kernel) ?_
        refine r_isub d_X3_readStep_64 ?_
        replace e := ckd e
        obtain ⟨k18, e⟩ := e
        replace e := ckd e
        obtain ⟨k19, e⟩ := e
        refine g_iast d_X3_readStep_65 k18 k19 ?_
        replace e := bhd e
        obtain ⟨_, rfl, e⟩ := e
        refine g_ald_n d_X3_readStep_66 rfl g0 ?_
        refine r_dup d_X3_readStep_67 (zrf_cat _) ?_
        refine g_getI d_X3_readStep_68 (f := 404) (tO_pE k17) fk_2_39 rfl rfl ?_
        refine r_iconst d_X3_readStep_71 (v := (1 : Int32)) (by decide +kernel) ?_
        refine r_iadd d_X3_readStep_72 ?_
        refine g_putI d_X3_readStep_73 (f := 404) (tO_pE k17) fk_2_39 rfl (Or.inl rfl) ⟨rfl, rfl⟩ ?_
        replace e := bhd e
        obtain ⟨_, rfl, e⟩ := e
        refine g_ald_n d_X3_readStep_76 rfl g0 ?_
        refine r_bipush d_X3_readStep_77 (v := (61 : Int32)) (by decide +kernel) ?_
        replace e := bd e
        obtain ⟨q22, eq22, e⟩ := e
        refine g_callV d_X3_readStep_79 vk_2_71 (as := [_]) rfl (tO_pI (tO_pE k17)) rfl (by simp [zrf_cat, cat_int, cat_long]) (j := 1) (by omega) (c_X3_accept (by omega) eq22) ?_
        refine r_if_eq d_X3_readStep_82 (tgt := 97) (by decide) (fun c23 => ?_) (fun c23 => ?_)
        · replace e := (if_pos c23).symm.trans e
          refine r_iconst d_X3_readStep_97 (v := (0 : Int32)) (by decide +kernel) ?_
          obtain rfl := Option.some.inj e
          exact g_iret d_X3_readStep_98 rfl rfl
        · replace e := (if_neg c23).symm.trans e
          refine g_ald_n d_X3_readStep_85 rfl g0 ?_
          refine r_iload_n d_X3_readStep_86 rfl g1 ?_
          replace e := ckd e
          obtain ⟨k25, e⟩ := e
          replace e := bd e
          obtain ⟨q24, eq24, e⟩ := e
          refine g_callV d_X3_readStep_87 vk_2_82 (as := [_]) rfl k25 rfl (by simp [zrf_cat, cat_int, cat_long]) (j := 4) (by omega) (c_X3_readRightSide (by omega) eq24) ?_
          refine r_if_eq d_X3_readStep_90 (tgt := 97) (by decide) (fun c26 => ?_) (fun c26 => ?_)
          · replace e := (if_pos c26).symm.trans e
            refine r_iconst d_X3_readStep_97 (v := (0 : Int32)) (by decide +kernel) ?_
            obtain rfl := Option.some.inj e
            exact g_iret d_X3_readStep_98 rfl rfl
          · replace e := (if_neg c26).symm.trans e
            refine r_iconst d_X3_readStep_93 (v := (1 : Int32)) (by decide +kernel) ?_
            refine r_goto d_X3_readStep_94 (tgt := 98) (by decide) ?_
            obtain rfl := Option.some.inj e
            exact g_iret d_X3_readStep_98 rfl rfl
    · replace e := (if_neg c1).symm.trans e
      refine g_ald_n d_X3_readStep_8 rfl g0 ?_
      replace e := ckd e
      obtain ⟨k27, e⟩ := e
      refine g_getR d_X3_readStep_9 (f := 401) k27 fk_2_15 rfl rfl ?_
      refine r_iload_n d_X3_readStep_12 rfl g1 ?_
      refine r_iload_n d_X3_readStep_13 rfl g2 ?_
      refine r_iadd d_X3_readStep_14 ?_
      refine r_iconst d_X3_readStep_15 (v := (0 : Int32)) (by decide +kernel) ?_
      replace e := ckd e
      obtain ⟨k28, e⟩ := e
      replace e := ckd e
      obtain ⟨k29, e⟩ := e
      refine g_iast d_X3_readStep_16 k28 k29 ?_
      replace e := bhd e
      obtain ⟨_, rfl, e⟩ := e
      replace e := bhd e
      obtain ⟨_, rfl, e⟩ := e
      refine s_iinc d_X3_readStep_17 g2 (w := (1 : Int32)) (by decide +kernel) (by decide) (fun L g2 gK => ?_)
      replace g0 := gK _ _ (by decide) (Or.inr (zrf_cat _)) g0
      replace g1 := gK _ _ (by decide) (Or.inr rfl) g1
      refine r_goto d_X3_readStep_20 (tgt := 2) (by decide) ?_
      exact ih _ _ _ _ _ _ g0 g1 g2 e

def f_X3_readStep (l0 : Nat) (l1 : Int32) (h : Hp) : Option (Int32 × Hp) := f_X3_readStep_2 fz (l0) (l1) ((0 : Int32)) (h)
theorem f_X3_readStep_ok {G : Gd} {d : Nat} (hj : 5 ≤ d) : ∀ (l0 : Nat) (l1 : Int32) (L : List (Nat × Value)) (h : Hp) (o : (Int32 × Hp)), zlk L 0 = some (zrf (l0)) → zlk L 1 = some (.int (l1)) → f_X3_readStep l0 l1 h = some o → Ev G M_X3_readStep d 0 L [] h (Ret Y_X3_readStep (some (.int o.1)) o.2) := by
  intro l0 l1 L h o g0 g1 e
  unfold f_X3_readStep at e
  refine r_iconst d_X3_readStep_0 (v := (0 : Int32)) (by decide +kernel) ?_
  refine s_istore_n d_X3_readStep_1 rfl (by decide) (fun L g2 gK => ?_)
  replace g0 := gK _ _ (by decide) (Or.inr (zrf_cat _)) g0
  replace g1 := gK _ _ (by decide) (Or.inr rfl) g1
  exact f_X3_readStep_2_ok hj _ _ _ _ _ _ _ g0 g1 g2 e

theorem c_X3_readStep {G : Gd} {j : Nat} (hj : 5 ≤ j) {l0 : Nat} {l1 : Int32} {h : Hp} {o : (Int32 × Hp)} (e : f_X3_readStep l0 l1 h = some o) : Cal G j Y_X3_readStep [zrf (l0), .int (l1)] h (some (.int o.1)) o.2 := Cal.of (n := 0) (I := false) (by first | exact Or.inl (by decide +kernel) | exact Or.inr (by decide +kernel)) (by decide) (by simp [lg_sl, zrf_cat, cat_int, cat_long]) (f_X3_readStep_ok hj _ _ _ h o (by simp [lv_args, zlk, zrf_cat, cat_int, cat_long]) (by simp [lv_args, zlk, zrf_cat, cat_int, cat_long]) e)
theorem sk_2_60 : Sk "TaskWeave$Parser" 60 2 Y_J7_fill_53178 := ⟨yk_J7_fill_53178, by decide +kernel, by decide +kernel⟩
theorem vk_2_64 : Vk "TaskWeave$Parser" 64 1 4 Y_X3_readLabel := ⟨yk_X3_readLabel, by decide +kernel, by decide +kernel, by decide +kernel, by decide⟩
theorem vk_2_68 : Vk "TaskWeave$Parser" 68 1 4 Y_X3_readStep := ⟨yk_X3_readStep, by decide +kernel, by decide +kernel, by decide +kernel, by decide⟩
def f_X3_readSteps_15 : Nat → Nat → Int32 → Hp → Option (Int32 × Hp)
  | 0, _, _, _ => none
  | n + 1, l0, l1, h => if ((60 : Int32)) ≤ (l1) then (ck (isO (h) (l0) 4) (if (zI (h) 403 (l0)) ≤ (zI (h) 404 (l0)) then (some (l1, h)) else (some ((-1 : Int32), h)))) else (ck (isO (h) (l0) 4) (if (zI (h) 403 (l0)) ≤ (zI (h) 404 (l0)) then (if (zI (h) 403 (l0)) ≤ (zI (h) 404 (l0)) then (some (l1, h)) else (some ((-1 : Int32), h))) else ((f_X3_readLabel (l0) (l1) (h)).bind (fun q11 => if (q11.1) = (0) then (some ((-1 : Int32), q11.2)) else (ck (isO (q11.2) (l0) 4) ((f_X3_readStep (l0) ((l1) * ((8 : Int32))) (q11.2)).bind (fun q13 => if (q13.1) = (0) then (some ((-1 : Int32), q13.2)) else (ck (isO (q13.2) (l0) 4) ((f_X3_accept (l0) ((59 : Int32)) (q13.2)).bind (fun q16 => if (q16.1) = (0) then (some ((-1 : Int32), q16.2)) else (bh ((l1) + (1 : Int32)) (fun x19 => f_X3_readSteps_15 n (l0) (x19) (q16.2)))))))))))))
theorem f_X3_readSteps_15_ok {G : Gd} {d : Nat} (hj : 6 ≤ d) : ∀ (n : Nat) (l0 : Nat) (l1 : Int32) (L : List (Nat × Value)) (h : Hp) (o : (Int32 × Hp)), zlk L 0 = some (zrf (l0)) → zlk L 1 = some (.int (l1)) → f_X3_readSteps_15 n l0 l1 h = some o → Ev G M_X3_readSteps d 15 L [] h (Ret Y_X3_readSteps (some (.int o.1)) o.2) := by
  intro n
  induction n with
  | zero =>
    intro l0 l1 L h o g0 g1 e
    cases e
  | succ n ih =>
    intro l0 l1 L h o g0 g1 e
    unfold f_X3_readSteps_15 at e
    refine r_iload_n d_X3_readSteps_15 rfl g1 ?_
    refine r_bipush d_X3_readSteps_16 (v := (60 : Int32)) (by decide +kernel) ?_
    refine r_icmp_ge d_X3_readSteps_18 (tgt := 68) (by decide) (fun c5 => ?_) (fun c5 => ?_)
    · replace e := (if_pos c5).symm.trans e
      refine g_ald_n d_X3_readSteps_68 rfl g0 ?_
      replace e := ckd e
      obtain ⟨k6, e⟩ := e
      refine g_getI d_X3_readSteps_69 (f := 404) k6 fk_2_39 rfl rfl ?_
      refine g_ald_n d_X3_readSteps_72 rfl g0 ?_
      refine g_getI d_X3_readSteps_73 (f := 403) k6 fk_2_26 rfl rfl ?_
      refine r_icmp_ge d_X3_readSteps_76 (tgt := 83) (by decide) (fun c7 => ?_) (fun c7 => ?_)
      · replace e := (if_pos c7).symm.trans e
        refine r_iload_n d_X3_readSteps_83 rfl g1 ?_
        obtain rfl := Option.some.inj e
        exact g_iret d_X3_readSteps_84 rfl rfl
      · replace e := (if_neg c7).symm.trans e
        refine r_iconst d_X3_readSteps_79 (v := (-1 : Int32)) (by decide +kernel) ?_
        refine r_goto d_X3_readSteps_80 (tgt := 84) (by decide) ?_
        obtain rfl := Option.some.inj e
        exact g_iret d_X3_readSteps_84 rfl rfl
    · replace e := (if_neg c5).symm.trans e
      refine g_ald_n d_X3_readSteps_21 rfl g0 ?_
      replace e := ckd e
      obtain ⟨k8, e⟩ := e
      refine g_getI d_X3_readSteps_22 (f := 404) k8 fk_2_39 rfl rfl ?_
      refine g_ald_n d_X3_readSteps_25 rfl g0 ?_
      refine g_getI d_X3_readSteps_26 (f := 403) k8 fk_2_26 rfl rfl ?_
      refine r_icmp_ge d_X3_readSteps_29 (tgt := 68) (by decide) (fun c9 => ?_) (fun c9 => ?_)
      · replace e := (if_pos c9).symm.trans e
        refine g_ald_n d_X3_readSteps_68 rfl g0 ?_
        refine g_getI d_X3_readSteps_69 (f := 404) k8 fk_2_39 rfl rfl ?_
        refine g_ald_n d_X3_readSteps_72 rfl g0 ?_
        refine g_getI d_X3_readSteps_73 (f := 403) k8 fk_2_26 rfl rfl ?_
        refine r_icmp_ge d_X3_readSteps_76 (tgt := 83) (by decide) (fun c10 => ?_) (fun c10 => ?_)
        · replace e := (if_pos c10).symm.trans e
          refine r_iload_n d_X3_readSteps_83 rfl g1 ?_
          obtain rfl := Option.some.inj e
          exact g_iret d_X3_readSteps_84 rfl rfl
        · replace e := (if_neg c10).symm.trans e
          refine r_iconst d_X3_readSteps_79 (v := (-1 : Int32)) (by decide +kernel) ?_
          refine r_goto d_X3_readSteps_80 (tgt := 84) (by decide) ?_
          obtain rfl := Option.some.inj e
          exact g_iret d_X3_readSteps_84 rfl rfl
      · replace e := (if_neg c9).symm.trans e
        refine g_ald_n d_X3_readSteps_32 rfl g0 ?_
        refine r_iload_n d_X3_readSteps_33 rfl g1 ?_
        replace e := bd e
        obtain ⟨q11, eq11, e⟩ := e
        refine g_callV d_X3_readSteps_34 vk_2_64 (as := [_]) rfl k8 rfl (by simp [zrf_cat, cat_int, cat_long]) (j := 2) (by omega) (c_X3_readLabel (by omega) eq11) ?_
        refine r_if_eq d_X3_readSteps_37 (tgt := 60) (by decide) (fun c12 => ?_) (fun c12 => ?_)
        · replace e := (if_pos c12).symm.trans e
          refine r_iconst d_X3_readSteps_60 (v := (-1 : Int32)) (by decide +kernel) ?_
          obtain rfl := Option.some.inj e
          exact g_iret d_X3_readSteps_61 rfl rfl
        · replace e := (if_neg c12).symm.trans e
          refine g_ald_n d_X3_readSteps_40 rfl g0 ?_
          refine r_iload_n d_X3_readSteps_41 rfl g1 ?_
          refine r_bipush d_X3_readSteps_42 (v := (8 : Int32)) (by decide +kernel) ?_
          refine r_imul d_X3_readSteps_44 ?_
          replace e := ckd e
          obtain ⟨k14, e⟩ := e
          replace e := bd e
          obtain ⟨q13, eq13, e⟩ := e
          refine g_callV d_X3_readSteps_45 vk_2_68 (as := [_]) rfl k14 rfl (by simp [zrf_cat, cat_int, cat_long]) (j := 5) (by omega) (c_X3_readStep (by omega) eq13) ?_
          refine r_if_eq d_X3_readSteps_48 (tgt := 60) (by decide) (fun c15 => ?_) (fun c15 => ?_)
          · replace e := (if_pos c15).symm.trans e
            refine r_iconst d_X3_readSteps_60 (v := (-1 : Int32)) (by decide +kernel) ?_
            obtain rfl := Option.some.inj e
            exact g_iret d_X3_readSteps_61 rfl rfl
          · replace e := (if_neg c15).symm.trans e
            refine g_ald_n d_X3_readSteps_51 rfl g0 ?_
            refine r_bipush d_X3_readSteps_52 (v := (59 : Int32)) (by decide +kernel) ?_
            replace e := ckd e
            obtain ⟨k17, e⟩ := e
            replace e := bd e
            obtain ⟨q16, eq16, e⟩ := e
            refine g_callV d_X3_readSteps_54 vk_2_71 (as := [_]) rfl k17 rfl (by simp [zrf_cat, cat_int, cat_long]) (j := 1) (by omega) (c_X3_accept (by omega) eq16) ?_
            refine r_if_ne d_X3_readSteps_57 (tgt := 62) (by decide) (fun c18 => ?_) (fun c18 => ?_)
            · replace e := (if_neg c18).symm.trans e
              replace e := bhd e
              obtain ⟨_, rfl, e⟩ := e
              refine s_iinc d_X3_readSteps_62 g1 (w := (1 : Int32)) (by decide +kernel) (by decide) (fun L g1 gK => ?_)
              replace g0 := gK _ _ (by decide) (Or.inr (zrf_cat _)) g0
              refine r_goto d_X3_readSteps_65 (tgt := 15) (by decide) ?_
              exact ih _ _ _ _ _ g0 g1 e
            · replace e := (if_pos c18).symm.trans e
              refine r_iconst d_X3_readSteps_60 (v := (-1 : Int32)) (by decide +kernel) ?_
              obtain rfl := Option.some.inj e
              exact g_iret d_X3_readSteps_61 rfl rfl

def f_X3_readSteps (l0 : Nat) (h : Hp) : Option (Int32 × Hp) := ck (isO (h) (l0) 4) ((f_J7_fill_53178 (zR (h) 402 (l0)) ((-1 : Int32)) (h)).bind (fun q2 => ck (isO (q2) (l0) 4) (bh (pI (q2) 404 (l0) ((0 : Int32))) (fun h4 => f_X3_readSteps_15 fz (l0) ((0 : Int32)) (h4)))))
theorem f_X3_readSteps_ok {G : Gd} {d : Nat} (hj : 6 ≤ d) : ∀ (l0 : Nat) (L : List (Nat × Value)) (h : Hp) (o : (Int32 × Hp)), zlk L 0 = some (zrf (l0)) → f_X3_readSteps l0 h = some o → Ev G M_X3_readSteps d 0 L [] h (Ret Y_X3_readSteps (some (.int o.1)) o.2) := by
  intro l0 L h o g0 e
  unfold f_X3_readSteps at e
  refine g_ald_n d_X3_readSteps_0 rfl g0 ?_
  replace e := ckd e
  obtain ⟨k1, e⟩ := e
  refine g_getR d_X3_readSteps_1 (f := 402) k1 fk_2_19 rfl rfl ?_
  refine r_iconst d_X3_readSteps_4 (v := (-1 : Int32)) (by decide +kernel) ?_
  replace e := bd e
  obtain ⟨q2, eq2, e⟩ := e
  refine g_callS d_X3_readSteps_5 sk_2_60 (as := [_, _]) rfl rfl (by simp [zrf_cat, cat_int, cat_long]) (j := 1) (by omega) (c_J7_fill_53178 (by omega) eq2) ?_
  refine g_ald_n d_X3_readSteps_8 rfl g0 ?_
  refine r_iconst d_X3_readSteps_9 (v := (0 : Int32)) (by decide +kernel) ?_
  replace e := ckd e
  obtain ⟨k3, e⟩ := e
  refine g_putI d_X3_readSteps_10 (f := 404) k3 fk_2_39 rfl (Or.inl rfl) ⟨rfl, rfl⟩ ?_
  replace e := bhd e
  obtain ⟨_, rfl, e⟩ := e
  refine r_iconst d_X3_readSteps_13 (v := (0 : Int32)) (by decide +kernel) ?_
  refine s_istore_n d_X3_readSteps_14 rfl (by decide) (fun L g1 gK => ?_)
  replace g0 := gK _ _ (by decide) (Or.inr (zrf_cat _)) g0
  exact f_X3_readSteps_15_ok hj _ _ _ _ _ _ g0 g1 e

theorem c_X3_readSteps {G : Gd} {j : Nat} (hj : 6 ≤ j) {l0 : Nat} {h : Hp} {o : (Int32 × Hp)} (e : f_X3_readSteps l0 h = some o) : Cal G j Y_X3_readSteps [zrf (l0)] h (some (.int o.1)) o.2 := Cal.of (n := 0) (I := false) (by first | exact Or.inl (by decide +kernel) | exact Or.inr (by decide +kernel)) (by decide) (by simp [lg_sl, zrf_cat, cat_int, cat_long]) (f_X3_readSteps_ok hj _ _ h o (by simp [lv_args, zlk, zrf_cat, cat_int, cat_long]) e)
theorem fk_3_7 : Fk "TaskWeave$Program" 7 500 := ⟨by decide, by decide, by decide +kernel⟩
theorem fk_3_13 : Fk "TaskWeave$Program" 13 501 := ⟨by decide, by decide, by decide +kernel⟩
def f_X4_init (l0 : Nat) (l1 : Int32) (l2 : Nat) (h : Hp) : Option Hp := ck (isO (h) (l0) 5) (bh (pI (h) 500 (l0) (l1)) (fun h2 => bh (pR (h2) 501 (l0) (l2)) (fun h3 => some (h3))))
theorem f_X4_init_ok {G : Gd} {d : Nat} (hj : 1 ≤ d) : ∀ (l0 : Nat) (l1 : Int32) (l2 : Nat) (L : List (Nat × Value)) (h : Hp) (o : Hp), zlk L 0 = some (zrf (l0)) → zlk L 1 = some (.int (l1)) → zlk L 2 = some (zrf (l2)) → f_X4_init l0 l1 l2 h = some o → Ev G M_X4_init d 0 L [] h (Ret Y_X4_init none o) := by
  intro l0 l1 l2 L h o g0 g1 g2 e
  unfold f_X4_init at e
  refine g_ald_n d_X4_init_0 rfl g0 ?_
  replace e := ckd e
  obtain ⟨k1, e⟩ := e
  refine g_objInit k1 d_X4_init_1 (by decide +kernel) (by omega) (by simp [zrf_cat, cat_int, cat_long]) ?_
  refine g_ald_n d_X4_init_4 rfl g0 ?_
  refine r_iload_n d_X4_init_5 rfl g1 ?_
  refine g_putI d_X4_init_6 (f := 500) k1 fk_3_7 rfl (Or.inr ⟨rfl, rfl⟩) ⟨rfl, rfl⟩ ?_
  replace e := bhd e
  obtain ⟨_, rfl, e⟩ := e
  refine g_ald_n d_X4_init_9 rfl g0 ?_
  refine g_ald_n d_X4_init_10 rfl g2 ?_
  refine g_putR d_X4_init_11 (f := 501) (tO_pI k1) fk_3_13 rfl (Or.inr ⟨rfl, rfl⟩) (Or.inr ⟨_, rfl⟩) ?_
  replace e := bhd e
  obtain ⟨_, rfl, e⟩ := e
  obtain rfl := Option.some.inj e
  exact g_vret d_X4_init_14 rfl

theorem c_X4_init {G : Gd} {j : Nat} (hj : 1 ≤ j) {l0 : Nat} {l1 : Int32} {l2 : Nat} {h : Hp} {o : Hp} (e : f_X4_init l0 l1 l2 h = some o) : Cal G j Y_X4_init [zrf (l0), .int (l1), zrf (l2)] h none o := Cal.of (n := 0) (I := true) (by first | exact Or.inl (by decide +kernel) | exact Or.inr (by decide +kernel)) (by decide) (by simp [lg_sl, zrf_cat, cat_int, cat_long]) (f_X4_init_ok hj _ _ _ _ h o (by simp [lv_args, zlk, zrf_cat, cat_int, cat_long]) (by simp [lv_args, zlk, zrf_cat, cat_int, cat_long]) (by simp [lv_args, zlk, zrf_cat, cat_int, cat_long]) e)
theorem vk_2_35 : Vk "TaskWeave$Parser" 35 0 4 Y_X3_readSteps := ⟨yk_X3_readSteps, by decide +kernel, by decide +kernel, by decide +kernel, by decide⟩
theorem vk_2_42 : Vk "TaskWeave$Parser" 42 1 4 Y_X3_linkLabels := ⟨yk_X3_linkLabels, by decide +kernel, by decide +kernel, by decide +kernel, by decide⟩
theorem vk_2_46 : Vk "TaskWeave$Parser" 46 0 4 Y_X3_clear := ⟨yk_X3_clear, by decide +kernel, by decide +kernel, by decide +kernel, by decide⟩
theorem sk_2_51 : Sk "TaskWeave$Parser" 51 2 Y_J7_copyOf_59c91 := ⟨yk_J7_copyOf_59c91, by decide +kernel, by decide +kernel⟩
theorem ik_2_57 : Ik "TaskWeave$Parser" 57 2 Y_X4_init := ⟨yk_X4_init, rfl, by decide +kernel, rfl, by decide +kernel⟩
def f_X3_parse_22 (s0 : Int32) (l0 : Nat) (l1 : Int32) (h : Hp) : Option (Nat × Hp) := ck (isO (h) (l0) 4) ((f_X3_clear (l0) (h)).bind (fun q7 => ck (isO (q7) (l0) 4) (bh (pI (q7) 405 (l0) (s0)) (fun h10 => if (s0) = ((-1 : Int32)) then (ck (8 ≤ zn (h10)) (bh (pN (h10) 5 (kN 5)) (fun h13 => (f_J7_copyOf_59c91 (zR (h13) 401 (l0)) ((l1) * ((8 : Int32))) (h13)).bind (fun q14 => ck (isO (q14.2) (zn (h10)) 5) ((f_X4_init (zn (h10)) (l1) (q14.1) (q14.2)).bind (fun q15 => some (zn (h10), q15))))))) else (some (0, h10))))))
theorem f_X3_parse_22_ok {G : Gd} {d : Nat} (hj : 7 ≤ d) : ∀ (s0 : Int32) (l0 : Nat) (l1 : Int32) (L : List (Nat × Value)) (h : Hp) (o : (Nat × Hp)), zlk L 0 = some (zrf (l0)) → zlk L 1 = some (.int (l1)) → f_X3_parse_22 s0 l0 l1 h = some o → Ev G M_X3_parse d 22 L [.int (s0)] h (Ret Y_X3_parse (some (zrf o.1)) o.2) := by
  intro s0 l0 l1 L h o g0 g1 e
  unfold f_X3_parse_22 at e
  refine s_istore_n d_X3_parse_22 rfl (by decide) (fun L g2 gK => ?_)
  replace g0 := gK _ _ (by decide) (Or.inr (zrf_cat _)) g0
  replace g1 := gK _ _ (by decide) (Or.inr rfl) g1
  refine g_ald_n d_X3_parse_23 rfl g0 ?_
  replace e := ckd e
  obtain ⟨k8, e⟩ := e
  replace e := bd e
  obtain ⟨q7, eq7, e⟩ := e
  refine g_callV d_X3_parse_24 vk_2_46 (as := []) rfl k8 rfl (by simp [zrf_cat, cat_int, cat_long]) (j := 1) (by omega) (c_X3_clear (by omega) eq7) ?_
  refine g_ald_n d_X3_parse_27 rfl g0 ?_
  refine r_iload_n d_X3_parse_28 rfl g2 ?_
  replace e := ckd e
  obtain ⟨k9, e⟩ := e
  refine g_putI d_X3_parse_29 (f := 405) k9 fk_2_22 rfl (Or.inl rfl) ⟨rfl, rfl⟩ ?_
  replace e := bhd e
  obtain ⟨_, rfl, e⟩ := e
  refine r_iload_n d_X3_parse_32 rfl g2 ?_
  refine r_iconst d_X3_parse_33 (v := (-1 : Int32)) (by decide +kernel) ?_
  refine r_icmp_ne d_X3_parse_34 (tgt := 59) (by decide) (fun c11 => ?_) (fun c11 => ?_)
  · replace e := (if_neg c11).symm.trans e
    refine g_null d_X3_parse_59 ?_
    obtain rfl := Option.some.inj e
    exact g_aret d_X3_parse_60 rfl (Or.inl ⟨_, rfl⟩)
  · replace e := (if_pos c11).symm.trans e
    replace e := ckd e
    obtain ⟨k12, e⟩ := e
    refine g_new k12 d_X3_parse_37 (i := 5) (by decide) (by decide) (by decide +kernel) ?_
    replace e := bhd e
    obtain ⟨_, rfl, e⟩ := e
    refine r_dup d_X3_parse_40 (zrf_cat _) ?_
    refine r_iload_n d_X3_parse_41 rfl g1 ?_
    refine g_ald_n d_X3_parse_42 rfl g0 ?_
    refine g_getR d_X3_parse_43 (f := 401) (tO_pN (tO_pI k9)) fk_2_15 rfl rfl ?_
    refine r_iload_n d_X3_parse_46 rfl g1 ?_
    refine r_bipush d_X3_parse_47 (v := (8 : Int32)) (by decide +kernel) ?_
    refine r_imul d_X3_parse_49 ?_
    replace e := bd e
    obtain ⟨q14, eq14, e⟩ := e
    refine g_callS d_X3_parse_50 sk_2_51 (as := [_, _]) rfl rfl (by simp [zrf_cat, cat_int, cat_long]) (j := 1) (by omega) (c_J7_copyOf_59c91 (by omega) eq14) ?_
    replace e := ckd e
    obtain ⟨k16, e⟩ := e
    replace e := bd e
    obtain ⟨q15, eq15, e⟩ := e
    refine g_callI d_X3_parse_53 ik_2_57 (as := [_, _]) rfl k16 rfl (by simp [zrf_cat, cat_int, cat_long]) (j := 1) (by omega) (c_X4_init (by omega) eq15) ?_
    refine r_goto d_X3_parse_56 (tgt := 60) (by decide) ?_
    obtain rfl := Option.some.inj e
    exact g_aret d_X3_parse_60 rfl (Or.inl ⟨_, rfl⟩)

def f_X3_parse (l0 : Nat) (h : Hp) : Option (Nat × Hp) := ck (isO (h) (l0) 4) ((f_X3_readSteps (l0) (h)).bind (fun q1 => if (q1.1) = ((-1 : Int32)) then (ck (isO (q1.2) (l0) 4) (f_X3_parse_22 (zI (q1.2) 404 (l0)) (l0) (q1.1) (q1.2))) else (ck (isO (q1.2) (l0) 4) ((f_X3_linkLabels (l0) (q1.1) (q1.2)).bind (fun q4 => f_X3_parse_22 (q4.1) (l0) (q1.1) (q4.2))))))
theorem f_X3_parse_ok {G : Gd} {d : Nat} (hj : 7 ≤ d) : ∀ (l0 : Nat) (L : List (Nat × Value)) (h : Hp) (o : (Nat × Hp)), zlk L 0 = some (zrf (l0)) → f_X3_parse l0 h = some o → Ev G M_X3_parse d 0 L [] h (Ret Y_X3_parse (some (zrf o.1)) o.2) := by
  intro l0 L h o g0 e
  unfold f_X3_parse at e
  refine g_ald_n d_X3_parse_0 rfl g0 ?_
  replace e := ckd e
  obtain ⟨k2, e⟩ := e
  replace e := bd e
  obtain ⟨q1, eq1, e⟩ := e
  refine g_callV d_X3_parse_1 vk_2_35 (as := []) rfl k2 rfl (by simp [zrf_cat, cat_int, cat_long]) (j := 6) (by omega) (c_X3_readSteps (by omega) eq1) ?_
  refine s_istore_n d_X3_parse_4 rfl (by decide) (fun L g1 gK => ?_)
  replace g0 := gK _ _ (by decide) (Or.inr (zrf_cat _)) g0
  refine r_iload_n d_X3_parse_5 rfl g1 ?_
  refine r_iconst d_X3_parse_6 (v := (-1 : Int32)) (by decide +kernel) ?_
  refine r_icmp_ne d_X3_parse_7 (tgt := 17) (by decide) (fun c3 => ?_) (fun c3 => ?_)
  · replace e := (if_neg c3).symm.trans e
    refine g_ald_n d_X3_parse_17 rfl g0 ?_
    refine r_iload_n d_X3_parse_18 rfl g1 ?_
    replace e := ckd e
    obtain ⟨k5, e⟩ := e
    replace e := bd e
    obtain ⟨q4, eq4, e⟩ := e
    refine g_callV d_X3_parse_19 vk_2_42 (as := [_]) rfl k5 rfl (by simp [zrf_cat, cat_int, cat_long]) (j := 1) (by omega) (c_X3_linkLabels (by omega) eq4) ?_
    exact f_X3_parse_22_ok hj _ _ _ _ _ _ g0 g1 e
  · replace e := (if_pos c3).symm.trans e
    refine g_ald_n d_X3_parse_10 rfl g0 ?_
    replace e := ckd e
    obtain ⟨k6, e⟩ := e
    refine g_getI d_X3_parse_11 (f := 404) k6 fk_2_39 rfl rfl ?_
    refine r_goto d_X3_parse_14 (tgt := 22) (by decide) ?_
    exact f_X3_parse_22_ok hj _ _ _ _ _ _ g0 g1 e

theorem c_X3_parse {G : Gd} {j : Nat} (hj : 7 ≤ j) {l0 : Nat} {h : Hp} {o : (Nat × Hp)} (e : f_X3_parse l0 h = some o) : Cal G j Y_X3_parse [zrf (l0)] h (some (zrf o.1)) o.2 := Cal.of (n := 0) (I := false) (by first | exact Or.inl (by decide +kernel) | exact Or.inr (by decide +kernel)) (by decide) (by simp [lg_sl, zrf_cat, cat_int, cat_long]) (f_X3_parse_ok hj _ _ h o (by simp [lv_args, zlk, zrf_cat, cat_int, cat_long]) e)
theorem fk_4_9 : Fk "TaskWeave$Replica" 9 601 := ⟨by decide, by decide, by decide +kernel⟩
theorem fk_4_15 : Fk "TaskWeave$Replica" 15 603 := ⟨by decide, by decide, by decide +kernel⟩
theorem fk_4_19 : Fk "TaskWeave$Replica" 19 604 := ⟨by decide, by decide, by decide +kernel⟩
theorem fk_4_23 : Fk "TaskWeave$Replica" 23 600 := ⟨by decide, by decide, by decide +kernel⟩
def f_X5_init (l0 : Nat) (l1 : Int32) (h : Hp) : Option Hp := ck (isO (h) (l0) 6) (ck (8 ≤ zn (h)) (bh (pN (h) 20 ((512 : Int32)).toNatClampNeg) (fun h3 => bh (pR (h3) 601 (l0) (zn (h))) (fun h4 => bh (pI (h4) 603 (l0) ((1 : Int32))) (fun h5 => bh (pI (h5) 604 (l0) ((-1 : Int32))) (fun h6 => bh (pI (h6) 600 (l0) (l1)) (fun h7 => some (h7))))))))
theorem f_X5_init_ok {G : Gd} {d : Nat} (hj : 1 ≤ d) : ∀ (l0 : Nat) (l1 : Int32) (L : List (Nat × Value)) (h : Hp) (o : Hp), zlk L 0 = some (zrf (l0)) → zlk L 1 = some (.int (l1)) → f_X5_init l0 l1 h = some o → Ev G M_X5_init d 0 L [] h (Ret Y_X5_init none o) := by
  intro l0 l1 L h o g0 g1 e
  unfold f_X5_init at e
  refine g_ald_n d_X5_init_0 rfl g0 ?_
  replace e := ckd e
  obtain ⟨k1, e⟩ := e
  refine g_objInit k1 d_X5_init_1 (by decide +kernel) (by omega) (by simp [zrf_cat, cat_int, cat_long]) ?_
  refine g_ald_n d_X5_init_4 rfl g0 ?_
  refine r_sipush d_X5_init_5 (v := (512 : Int32)) (by decide +kernel) ?_
  replace e := ckd e
  obtain ⟨k2, e⟩ := e
  refine g_newa (t := 20) k2 d_X5_init_8 (by decide) (by decide) rfl (by decide +kernel) (by decide) (by decide +kernel) ?_
  replace e := bhd e
  obtain ⟨_, rfl, e⟩ := e
  refine g_putR d_X5_init_10 (f := 601) (tO_pN k1) fk_4_9 rfl (Or.inl rfl) (Or.inr ⟨_, rfl⟩) ?_
  replace e := bhd e
  obtain ⟨_, rfl, e⟩ := e
  refine g_ald_n d_X5_init_13 rfl g0 ?_
  refine r_iconst d_X5_init_14 (v := (1 : Int32)) (by decide +kernel) ?_
  refine g_putI d_X5_init_15 (f := 603) (tO_pR (tO_pN k1)) fk_4_15 rfl (Or.inl rfl) ⟨rfl, rfl⟩ ?_
  replace e := bhd e
  obtain ⟨_, rfl, e⟩ := e
  refine g_ald_n d_X5_init_18 rfl g0 ?_
  refine r_iconst d_X5_init_19 (v := (-1 : Int32)) (by decide +kernel) ?_
  refine g_putI d_X5_init_20 (f := 604) (tO_pI (tO_pR (tO_pN k1))) fk_4_19 rfl (Or.inl rfl) ⟨rfl, rfl⟩ ?_
  replace e := bhd e
  obtain ⟨_, rfl, e⟩ := e
  refine g_ald_n d_X5_init_23 rfl g0 ?_
  refine r_iload_n d_X5_init_24 rfl g1 ?_
  refine g_putI d_X5_init_25 (f := 600) (tO_pI (tO_pI (tO_pR (tO_pN k1)))) fk_4_23 rfl (Or.inr ⟨rfl, rfl⟩) ⟨rfl, rfl⟩ ?_
  replace e := bhd e
  obtain ⟨_, rfl, e⟩ := e
  obtain rfl := Option.some.inj e
  exact g_vret d_X5_init_28 rfl

theorem c_X5_init {G : Gd} {j : Nat} (hj : 1 ≤ j) {l0 : Nat} {l1 : Int32} {h : Hp} {o : Hp} (e : f_X5_init l0 l1 h = some o) : Cal G j Y_X5_init [zrf (l0), .int (l1)] h none o := Cal.of (n := 0) (I := true) (by first | exact Or.inl (by decide +kernel) | exact Or.inr (by decide +kernel)) (by decide) (by simp [lg_sl, zrf_cat, cat_int, cat_long]) (f_X5_init_ok hj _ _ _ h o (by simp [lv_args, zlk, zrf_cat, cat_int, cat_long]) (by simp [lv_args, zlk, zrf_cat, cat_int, cat_long]) e)
theorem fk_4_26 : Fk "TaskWeave$Replica" 26 602 := ⟨by decide, by decide, by decide +kernel⟩
def f_X5_byteAt (l0 : Nat) (l1 : Int32) (h : Hp) : Option (Int32 × Hp) := if (l1) < (0) then (some ((0 : Int32), h)) else (ck (isO (h) (l0) 6) (if (zI (h) 602 (l0)) ≤ (l1) then (some ((0 : Int32), h)) else (ck (isO (h) (zR (h) 601 (l0)) 20) (ck (inR (l1) (zL (h) (zR (h) 601 (l0)))) (some ((zE (h) (zR (h) 601 (l0)) (l1).toNatClampNeg) &&& ((255 : Int32)), h))))))
theorem f_X5_byteAt_ok {G : Gd} {d : Nat} (hj : 1 ≤ d) : ∀ (l0 : Nat) (l1 : Int32) (L : List (Nat × Value)) (h : Hp) (o : (Int32 × Hp)), zlk L 0 = some (zrf (l0)) → zlk L 1 = some (.int (l1)) → f_X5_byteAt l0 l1 h = some o → Ev G M_X5_byteAt d 0 L [] h (Ret Y_X5_byteAt (some (.int o.1)) o.2) := by
  intro l0 l1 L h o g0 g1 e
  unfold f_X5_byteAt at e
  refine r_iload_n d_X5_byteAt_0 rfl g1 ?_
  refine r_if_lt d_X5_byteAt_1 (tgt := 25) (by decide) (fun c1 => ?_) (fun c1 => ?_)
  · replace e := (if_pos c1).symm.trans e
    refine r_iconst d_X5_byteAt_25 (v := (0 : Int32)) (by decide +kernel) ?_
    obtain rfl := Option.some.inj e
    exact g_iret d_X5_byteAt_26 rfl rfl
  · replace e := (if_neg c1).symm.trans e
    refine r_iload_n d_X5_byteAt_4 rfl g1 ?_
    refine g_ald_n d_X5_byteAt_5 rfl g0 ?_
    replace e := ckd e
    obtain ⟨k2, e⟩ := e
    refine g_getI d_X5_byteAt_6 (f := 602) k2 fk_4_26 rfl rfl ?_
    refine r_icmp_ge d_X5_byteAt_9 (tgt := 25) (by decide) (fun c3 => ?_) (fun c3 => ?_)
    · replace e := (if_pos c3).symm.trans e
      refine r_iconst d_X5_byteAt_25 (v := (0 : Int32)) (by decide +kernel) ?_
      obtain rfl := Option.some.inj e
      exact g_iret d_X5_byteAt_26 rfl rfl
    · replace e := (if_neg c3).symm.trans e
      refine g_ald_n d_X5_byteAt_12 rfl g0 ?_
      refine g_getR d_X5_byteAt_13 (f := 601) k2 fk_4_9 rfl rfl ?_
      refine r_iload_n d_X5_byteAt_16 rfl g1 ?_
      replace e := ckd e
      obtain ⟨k4, e⟩ := e
      replace e := ckd e
      obtain ⟨k5, e⟩ := e
      refine g_bald d_X5_byteAt_17 k4 k5 rfl ?_
      refine r_sipush d_X5_byteAt_18 (v := (255 : Int32)) (by decide +kernel) ?_
      refine r_iand d_X5_byteAt_21 ?_
      refine r_goto d_X5_byteAt_22 (tgt := 26) (by decide) ?_
      obtain rfl := Option.some.inj e
      exact g_iret d_X5_byteAt_26 rfl rfl

theorem c_X5_byteAt {G : Gd} {j : Nat} (hj : 1 ≤ j) {l0 : Nat} {l1 : Int32} {h : Hp} {o : (Int32 × Hp)} (e : f_X5_byteAt l0 l1 h = some o) : Cal G j Y_X5_byteAt [zrf (l0), .int (l1)] h (some (.int o.1)) o.2 := Cal.of (n := 0) (I := false) (by first | exact Or.inl (by decide +kernel) | exact Or.inr (by decide +kernel)) (by decide) (by simp [lg_sl, zrf_cat, cat_int, cat_long]) (f_X5_byteAt_ok hj _ _ _ h o (by simp [lv_args, zlk, zrf_cat, cat_int, cat_long]) (by simp [lv_args, zlk, zrf_cat, cat_int, cat_long]) e)
theorem vk_4_29 : Vk "TaskWeave$Replica" 29 1 6 Y_X5_byteAt := ⟨yk_X5_byteAt, by decide +kernel, by decide +kernel, by decide +kernel, by decide⟩
def f_X5_wordAt (l0 : Nat) (l1 : Int32) (h : Hp) : Option (Int32 × Hp) := ck (isO (h) (l0) 6) ((f_X5_byteAt (l0) (l1) (h)).bind (fun q1 => ck (isO (q1.2) (l0) 6) ((f_X5_byteAt (l0) ((l1) + ((1 : Int32))) (q1.2)).bind (fun q3 => ck (isO (q3.2) (l0) 6) ((f_X5_byteAt (l0) ((l1) + ((2 : Int32))) (q3.2)).bind (fun q5 => ck (isO (q5.2) (l0) 6) ((f_X5_byteAt (l0) ((l1) + ((3 : Int32))) (q5.2)).bind (fun q7 => some (((((q1.1) <<< (((24 : Int32)) &&& 31)) ||| ((q3.1) <<< (((16 : Int32)) &&& 31))) ||| ((q5.1) <<< (((8 : Int32)) &&& 31))) ||| (q7.1), q7.2)))))))))
theorem f_X5_wordAt_ok {G : Gd} {d : Nat} (hj : 2 ≤ d) : ∀ (l0 : Nat) (l1 : Int32) (L : List (Nat × Value)) (h : Hp) (o : (Int32 × Hp)), zlk L 0 = some (zrf (l0)) → zlk L 1 = some (.int (l1)) → f_X5_wordAt l0 l1 h = some o → Ev G M_X5_wordAt d 0 L [] h (Ret Y_X5_wordAt (some (.int o.1)) o.2) := by
  intro l0 l1 L h o g0 g1 e
  unfold f_X5_wordAt at e
  refine g_ald_n d_X5_wordAt_0 rfl g0 ?_
  refine r_iload_n d_X5_wordAt_1 rfl g1 ?_
  replace e := ckd e
  obtain ⟨k2, e⟩ := e
  replace e := bd e
  obtain ⟨q1, eq1, e⟩ := e
  refine g_callV d_X5_wordAt_2 vk_4_29 (as := [_]) rfl k2 rfl (by simp [zrf_cat, cat_int, cat_long]) (j := 1) (by omega) (c_X5_byteAt (by omega) eq1) ?_
  refine r_bipush d_X5_wordAt_5 (v := (24 : Int32)) (by decide +kernel) ?_
  refine r_ishl d_X5_wordAt_7 ?_
  refine g_ald_n d_X5_wordAt_8 rfl g0 ?_
  refine r_iload_n d_X5_wordAt_9 rfl g1 ?_
  refine r_iconst d_X5_wordAt_10 (v := (1 : Int32)) (by decide +kernel) ?_
  refine r_iadd d_X5_wordAt_11 ?_
  replace e := ckd e
  obtain ⟨k4, e⟩ := e
  replace e := bd e
  obtain ⟨q3, eq3, e⟩ := e
  refine g_callV d_X5_wordAt_12 vk_4_29 (as := [_]) rfl k4 rfl (by simp [zrf_cat, cat_int, cat_long]) (j := 1) (by omega) (c_X5_byteAt (by omega) eq3) ?_
  refine r_bipush d_X5_wordAt_15 (v := (16 : Int32)) (by decide +kernel) ?_
  refine r_ishl d_X5_wordAt_17 ?_
  refine r_ior d_X5_wordAt_18 ?_
  refine g_ald_n d_X5_wordAt_19 rfl g0 ?_
  refine r_iload_n d_X5_wordAt_20 rfl g1 ?_
  refine r_iconst d_X5_wordAt_21 (v := (2 : Int32)) (by decide +kernel) ?_
  refine r_iadd d_X5_wordAt_22 ?_
  replace e := ckd e
  obtain ⟨k6, e⟩ := e
  replace e := bd e
  obtain ⟨q5, eq5, e⟩ := e
  refine g_callV d_X5_wordAt_23 vk_4_29 (as := [_]) rfl k6 rfl (by simp [zrf_cat, cat_int, cat_long]) (j := 1) (by omega) (c_X5_byteAt (by omega) eq5) ?_
  refine r_bipush d_X5_wordAt_26 (v := (8 : Int32)) (by decide +kernel) ?_
  refine r_ishl d_X5_wordAt_28 ?_
  refine r_ior d_X5_wordAt_29 ?_
  refine g_ald_n d_X5_wordAt_30 rfl g0 ?_
  refine r_iload_n d_X5_wordAt_31 rfl g1 ?_
  refine r_iconst d_X5_wordAt_32 (v := (3 : Int32)) (by decide +kernel) ?_
  refine r_iadd d_X5_wordAt_33 ?_
  replace e := ckd e
  obtain ⟨k8, e⟩ := e
  replace e := bd e
  obtain ⟨q7, eq7, e⟩ := e
  refine g_callV d_X5_wordAt_34 vk_4_29 (as := [_]) rfl k8 rfl (by simp [zrf_cat, cat_int, cat_long]) (j := 1) (by omega) (c_X5_byteAt (by omega) eq7) ?_
  refine r_ior d_X5_wordAt_37 ?_
  obtain rfl := Option.some.inj e
  exact g_iret d_X5_wordAt_38 rfl rfl

theorem c_X5_wordAt {G : Gd} {j : Nat} (hj : 2 ≤ j) {l0 : Nat} {l1 : Int32} {h : Hp} {o : (Int32 × Hp)} (e : f_X5_wordAt l0 l1 h = some o) : Cal G j Y_X5_wordAt [zrf (l0), .int (l1)] h (some (.int o.1)) o.2 := Cal.of (n := 0) (I := false) (by first | exact Or.inl (by decide +kernel) | exact Or.inr (by decide +kernel)) (by decide) (by simp [lg_sl, zrf_cat, cat_int, cat_long]) (f_X5_wordAt_ok hj _ _ _ h o (by simp [lv_args, zlk, zrf_cat, cat_int, cat_long]) (by simp [lv_args, zlk, zrf_cat, cat_int, cat_long]) e)
def f_X5_lastTerm (l0 : Nat) (h : Hp) : Option (Int32 × Hp) := ck (isO (h) (l0) 6) (bh ((zI (h) 602 (l0)) - ((16 : Int32))) (fun x2 => if (0) ≤ (x2) then (ck (isO (h) (zR (h) 601 (l0)) 20) (ck (inR ((x2) + ((1 : Int32))) (zL (h) (zR (h) 601 (l0)))) (ck (inR ((x2) + ((2 : Int32))) (zL (h) (zR (h) 601 (l0)))) (some ((((zE (h) (zR (h) 601 (l0)) ((x2) + ((1 : Int32))).toNatClampNeg) &&& ((255 : Int32))) <<< (((8 : Int32)) &&& 31)) ||| ((zE (h) (zR (h) 601 (l0)) ((x2) + ((2 : Int32))).toNatClampNeg) &&& ((255 : Int32))), h))))) else (some ((0 : Int32), h))))
theorem f_X5_lastTerm_ok {G : Gd} {d : Nat} (hj : 1 ≤ d) : ∀ (l0 : Nat) (L : List (Nat × Value)) (h : Hp) (o : (Int32 × Hp)), zlk L 0 = some (zrf (l0)) → f_X5_lastTerm l0 h = some o → Ev G M_X5_lastTerm d 0 L [] h (Ret Y_X5_lastTerm (some (.int o.1)) o.2) := by
  intro l0 L h o g0 e
  unfold f_X5_lastTerm at e
  refine g_ald_n d_X5_lastTerm_0 rfl g0 ?_
  replace e := ckd e
  obtain ⟨k1, e⟩ := e
  refine g_getI d_X5_lastTerm_1 (f := 602) k1 fk_4_26 rfl rfl ?_
  refine r_bipush d_X5_lastTerm_4 (v := (16 : Int32)) (by decide +kernel) ?_
  refine r_isub d_X5_lastTerm_6 ?_
  replace e := bhd e
  obtain ⟨_, rfl, e⟩ := e
  refine s_istore_n d_X5_lastTerm_7 rfl (by decide) (fun L g1 gK => ?_)
  replace g0 := gK _ _ (by decide) (Or.inr (zrf_cat _)) g0
  refine r_iload_n d_X5_lastTerm_8 rfl g1 ?_
  refine r_if_ge d_X5_lastTerm_9 (tgt := 16) (by decide) (fun c3 => ?_) (fun c3 => ?_)
  · replace e := (if_pos c3).symm.trans e
    refine g_ald_n d_X5_lastTerm_16 rfl g0 ?_
    refine g_getR d_X5_lastTerm_17 (f := 601) k1 fk_4_9 rfl rfl ?_
    refine r_iload_n d_X5_lastTerm_20 rfl g1 ?_
    refine r_iconst d_X5_lastTerm_21 (v := (1 : Int32)) (by decide +kernel) ?_
    refine r_iadd d_X5_lastTerm_22 ?_
    replace e := ckd e
    obtain ⟨k4, e⟩ := e
    replace e := ckd e
    obtain ⟨k5, e⟩ := e
    refine g_bald d_X5_lastTerm_23 k4 k5 rfl ?_
    refine r_sipush d_X5_lastTerm_24 (v := (255 : Int32)) (by decide +kernel) ?_
    refine r_iand d_X5_lastTerm_27 ?_
    refine r_bipush d_X5_lastTerm_28 (v := (8 : Int32)) (by decide +kernel) ?_
    refine r_ishl d_X5_lastTerm_30 ?_
    refine g_ald_n d_X5_lastTerm_31 rfl g0 ?_
    refine g_getR d_X5_lastTerm_32 (f := 601) k1 fk_4_9 rfl rfl ?_
    refine r_iload_n d_X5_lastTerm_35 rfl g1 ?_
    refine r_iconst d_X5_lastTerm_36 (v := (2 : Int32)) (by decide +kernel) ?_
    refine r_iadd d_X5_lastTerm_37 ?_
    replace e := ckd e
    obtain ⟨k6, e⟩ := e
    refine g_bald d_X5_lastTerm_38 k4 k6 rfl ?_
    refine r_sipush d_X5_lastTerm_39 (v := (255 : Int32)) (by decide +kernel) ?_
    refine r_iand d_X5_lastTerm_42 ?_
    refine r_ior d_X5_lastTerm_43 ?_
    obtain rfl := Option.some.inj e
    exact g_iret d_X5_lastTerm_44 rfl rfl
  · replace e := (if_neg c3).symm.trans e
    refine r_iconst d_X5_lastTerm_12 (v := (0 : Int32)) (by decide +kernel) ?_
    refine r_goto d_X5_lastTerm_13 (tgt := 44) (by decide) ?_
    obtain rfl := Option.some.inj e
    exact g_iret d_X5_lastTerm_44 rfl rfl

theorem c_X5_lastTerm {G : Gd} {j : Nat} (hj : 1 ≤ j) {l0 : Nat} {h : Hp} {o : (Int32 × Hp)} (e : f_X5_lastTerm l0 h = some o) : Cal G j Y_X5_lastTerm [zrf (l0)] h (some (.int o.1)) o.2 := Cal.of (n := 0) (I := false) (by first | exact Or.inl (by decide +kernel) | exact Or.inr (by decide +kernel)) (by decide) (by simp [lg_sl, zrf_cat, cat_int, cat_long]) (f_X5_lastTerm_ok hj _ _ h o (by simp [lv_args, zlk, zrf_cat, cat_int, cat_long]) e)
def f_J7_copyOf_9075b (l0 : Nat) (l1 : Int32) (h : Hp) : Option (Nat × Hp) := ck (isO (h) (l0) 20) (if (l1) = (nI (zL (h) (l0))) then (ck (8 ≤ zn (h)) (ck (∀ i, i < zL (h) (l0) → fits (kA 20) (.int (zE (h) (l0) i)) = true) (bh (pCl (h) 20 (l0)) (fun h13 => ck (isO (h13) (zn (h)) 20) (some (zn (h), h13)))))) else (ck (8 ≤ zn (h)) (ck (¬ (l1) < 0 ∧ (l1).toNatClampNeg ≤ 1000000) (bh (pN (h) 20 (l1).toNatClampNeg) (fun h5 => bh (zn (h)) (fun x6 => ck (isO (h5) (x6) 20) (ck ((¬ ((0 : Int32)) < 0 ∧ ¬ ((0 : Int32)) < 0 ∧ ¬ ((if (l1) < (nI (zL (h5) (l0))) then (l1) else (nI (zL (h5) (l0))))) < 0) ∧ ((0 : Int32)).toNatClampNeg + ((if (l1) < (nI (zL (h5) (l0))) then (l1) else (nI (zL (h5) (l0))))).toNatClampNeg ≤ zL (h5) (l0) ∧ ((0 : Int32)).toNatClampNeg + ((if (l1) < (nI (zL (h5) (l0))) then (l1) else (nI (zL (h5) (l0))))).toNatClampNeg ≤ zL (h5) (x6)) (ck (∀ i, i < ((if (l1) < (nI (zL (h5) (l0))) then (l1) else (nI (zL (h5) (l0))))).toNatClampNeg → fits (kA 20) (.int (zE (h5) (l0) (((0 : Int32)).toNatClampNeg + i))) = true) (bh (pC (h5) (l0) ((0 : Int32)).toNatClampNeg (x6) ((0 : Int32)).toNatClampNeg ((if (l1) < (nI (zL (h5) (l0))) then (l1) else (nI (zL (h5) (l0))))).toNatClampNeg) (fun h10 => some (x6, h10)))))))))))
theorem f_J7_copyOf_9075b_ok {G : Gd} {d : Nat} (hj : 1 ≤ d) : ∀ (l0 : Nat) (l1 : Int32) (L : List (Nat × Value)) (h : Hp) (o : (Nat × Hp)), zlk L 0 = some (zrf (l0)) → zlk L 1 = some (.int (l1)) → f_J7_copyOf_9075b l0 l1 h = some o → Ev G M_J7_copyOf_9075b d 0 L [] h (Ret Y_J7_copyOf_9075b (some (zrf o.1)) o.2) := by
  intro l0 l1 L h o g0 g1 e
  unfold f_J7_copyOf_9075b at e
  refine r_iload_n d_J7_copyOf_9075b_0 rfl g1 ?_
  refine g_ald_n d_J7_copyOf_9075b_1 rfl g0 ?_
  replace e := ckd e
  obtain ⟨k1, e⟩ := e
  refine g_alen d_J7_copyOf_9075b_2 k1 (by decide) (by decide) rfl ?_
  refine r_icmp_ne d_J7_copyOf_9075b_3 (tgt := 14) (by decide) (fun c2 => ?_) (fun c2 => ?_)
  · replace e := (if_neg c2).symm.trans e
    refine r_iload_n d_J7_copyOf_9075b_14 rfl g1 ?_
    replace e := ckd e
    obtain ⟨k3, e⟩ := e
    replace e := ckd e
    obtain ⟨k4, e⟩ := e
    refine g_newa (t := 20) k3 d_J7_copyOf_9075b_15 (by decide) (by decide) rfl k4 (by decide) (by decide +kernel) ?_
    replace e := bhd e
    obtain ⟨_, rfl, e⟩ := e
    replace e := bhd e
    obtain ⟨_, rfl, e⟩ := e
    refine s_ast_n d_J7_copyOf_9075b_17 rfl (by decide) (fun L g2 gK => ?_)
    replace g0 := gK _ _ (by decide) (Or.inr (zrf_cat _)) g0
    replace g1 := gK _ _ (by decide) (Or.inr rfl) g1
    refine g_ald_n d_J7_copyOf_9075b_18 rfl g0 ?_
    refine r_iconst d_J7_copyOf_9075b_19 (v := (0 : Int32)) (by decide +kernel) ?_
    refine g_ald_n d_J7_copyOf_9075b_20 rfl g2 ?_
    refine r_iconst d_J7_copyOf_9075b_21 (v := (0 : Int32)) (by decide +kernel) ?_
    refine g_ald_n d_J7_copyOf_9075b_22 rfl g0 ?_
    refine g_alen d_J7_copyOf_9075b_23 (tO_pN k1) (by decide) (by decide) rfl ?_
    refine r_iload_n d_J7_copyOf_9075b_24 rfl g1 ?_
    refine g_mmin d_J7_copyOf_9075b_25 (by decide +kernel) (by omega) (by simp [zrf_cat, cat_int, cat_long]) ?_
    replace e := ckd e
    obtain ⟨k7, e⟩ := e
    replace e := ckd e
    obtain ⟨k8, e⟩ := e
    replace e := ckd e
    obtain ⟨k9, e⟩ := e
    refine g_copy d_J7_copyOf_9075b_28 (by decide +kernel) (by omega) (by simp [zrf_cat, cat_int, cat_long]) (tO_pN k1) k7 (by decide) (by decide) k8 k9 ?_
    replace e := bhd e
    obtain ⟨_, rfl, e⟩ := e
    refine g_ald_n d_J7_copyOf_9075b_31 rfl g2 ?_
    obtain rfl := Option.some.inj e
    exact g_aret d_J7_copyOf_9075b_32 rfl (Or.inr ⟨_, rfl⟩)
  · replace e := (if_pos c2).symm.trans e
    refine g_ald_n d_J7_copyOf_9075b_6 rfl g0 ?_
    replace e := ckd e
    obtain ⟨k11, e⟩ := e
    replace e := ckd e
    obtain ⟨k12, e⟩ := e
    refine g_clone (t := 20) (ad := "[B") k11 d_J7_copyOf_9075b_7 (by decide) (by decide) (by decide +kernel) (by decide +kernel) (by decide +kernel) (by decide +kernel) (by decide +kernel) (by omega) (by simp [zrf_cat, cat_int, cat_long]) k1 k12 ?_
    replace e := bhd e
    obtain ⟨_, rfl, e⟩ := e
    replace e := ckd e
    obtain ⟨k14, e⟩ := e
    refine g_castA (ad := "[B") d_J7_copyOf_9075b_10 k14 (by decide) (by decide) (by decide +kernel) (by decide +kernel) ?_
    obtain rfl := Option.some.inj e
    exact g_aret d_J7_copyOf_9075b_13 rfl (Or.inr ⟨_, rfl⟩)

theorem c_J7_copyOf_9075b {G : Gd} {j : Nat} (hj : 1 ≤ j) {l0 : Nat} {l1 : Int32} {h : Hp} {o : (Nat × Hp)} (e : f_J7_copyOf_9075b l0 l1 h = some o) : Cal G j Y_J7_copyOf_9075b [zrf (l0), .int (l1)] h (some (zrf o.1)) o.2 := Cal.of (n := 0) (I := false) (by first | exact Or.inl (by decide +kernel) | exact Or.inr (by decide +kernel)) (by decide) (by simp [lg_sl, zrf_cat, cat_int, cat_long]) (f_J7_copyOf_9075b_ok hj _ _ _ h o (by simp [lv_args, zlk, zrf_cat, cat_int, cat_long]) (by simp [lv_args, zlk, zrf_cat, cat_int, cat_long]) e)
theorem sk_4_33 : Sk "TaskWeave$Replica" 33 2 Y_J7_copyOf_9075b := ⟨yk_J7_copyOf_9075b, by decide +kernel, by decide +kernel⟩
def f_X5_write_110 (K3 : Nat → Nat → Int32 → Int32 → Hp → Option Hp) (l0 : Nat) (l1 : Nat) (l3 : Int32) (l4 : Int32) (h : Hp) : Option Hp := bh ((l4) + (1 : Int32)) (fun x20 => K3 (l0) (l1) (l3) (x20) (h))
theorem f_X5_write_110_ok {G : Gd} {d : Nat} (K3 : Nat → Nat → Int32 → Int32 → Hp → Option Hp) (hj : 2 ≤ d) (hK3 : ∀ (l0 : Nat) (l1 : Nat) (l3 : Int32) (l4 : Int32) (L : List (Nat × Value)) (h : Hp) (o : Hp), zlk L 0 = some (zrf (l0)) → zlk L 1 = some (zrf (l1)) → zlk L 3 = some (.int (l3)) → zlk L 4 = some (.int (l4)) → K3 l0 l1 l3 l4 h = some o → Ev G M_X5_write d 3 L [] h (Ret Y_X5_write none o)) : ∀ (l0 : Nat) (l1 : Nat) (l3 : Int32) (l4 : Int32) (L : List (Nat × Value)) (h : Hp) (o : Hp), zlk L 0 = some (zrf (l0)) → zlk L 1 = some (zrf (l1)) → zlk L 3 = some (.int (l3)) → zlk L 4 = some (.int (l4)) → f_X5_write_110 K3 l0 l1 l3 l4 h = some o → Ev G M_X5_write d 110 L [] h (Ret Y_X5_write none o) := by
  intro l0 l1 l3 l4 L h o g0 g1 g3 g4 e
  unfold f_X5_write_110 at e
  replace e := bhd e
  obtain ⟨_, rfl, e⟩ := e
  refine s_iinc d_X5_write_110 g4 (w := (1 : Int32)) (by decide +kernel) (by decide) (fun L g4 gK => ?_)
  replace g0 := gK _ _ (by decide) (Or.inr (zrf_cat _)) g0
  replace g1 := gK _ _ (by decide) (Or.inr (zrf_cat _)) g1
  replace g3 := gK _ _ (by decide) (Or.inr rfl) g3
  refine r_goto d_X5_write_113 (tgt := 3) (by decide) ?_
  exact hK3 _ _ _ _ _ _ _ g0 g1 g3 g4 e

def f_X5_write_107 (K3 : Nat → Nat → Int32 → Int32 → Hp → Option Hp) (s0 : Nat) (s1 : Int32) (l0 : Nat) (l1 : Nat) (l3 : Int32) (l4 : Int32) (h : Hp) : Option Hp := ck (isO (h) (s0) 6) (bh (pI (h) 604 (s0) (s1)) (fun h22 => f_X5_write_110 K3 (l0) (l1) (l3) (l4) (h22)))
theorem f_X5_write_107_ok {G : Gd} {d : Nat} (K3 : Nat → Nat → Int32 → Int32 → Hp → Option Hp) (hj : 2 ≤ d) (hK3 : ∀ (l0 : Nat) (l1 : Nat) (l3 : Int32) (l4 : Int32) (L : List (Nat × Value)) (h : Hp) (o : Hp), zlk L 0 = some (zrf (l0)) → zlk L 1 = some (zrf (l1)) → zlk L 3 = some (.int (l3)) → zlk L 4 = some (.int (l4)) → K3 l0 l1 l3 l4 h = some o → Ev G M_X5_write d 3 L [] h (Ret Y_X5_write none o)) : ∀ (s0 : Nat) (s1 : Int32) (l0 : Nat) (l1 : Nat) (l3 : Int32) (l4 : Int32) (L : List (Nat × Value)) (h : Hp) (o : Hp), zlk L 0 = some (zrf (l0)) → zlk L 1 = some (zrf (l1)) → zlk L 3 = some (.int (l3)) → zlk L 4 = some (.int (l4)) → f_X5_write_107 K3 s0 s1 l0 l1 l3 l4 h = some o → Ev G M_X5_write d 107 L [.int (s1), zrf (s0)] h (Ret Y_X5_write none o) := by
  intro s0 s1 l0 l1 l3 l4 L h o g0 g1 g3 g4 e
  unfold f_X5_write_107 at e
  replace e := ckd e
  obtain ⟨k21, e⟩ := e
  refine g_putI d_X5_write_107 (f := 604) k21 fk_4_19 rfl (Or.inl rfl) ⟨rfl, rfl⟩ ?_
  replace e := bhd e
  obtain ⟨_, rfl, e⟩ := e
  exact f_X5_write_110_ok _ hj hK3 _ _ _ _ _ _ _ g0 g1 g3 g4 e

def f_X5_write_65 (K3 : Nat → Nat → Int32 → Int32 → Hp → Option Hp) (l0 : Nat) (l1 : Nat) (l3 : Int32) (l4 : Int32) (h : Hp) : Option Hp := ck (isO (h) (l0) 6) (ck (isO (h) (l1) 20) (ck (inR (l4) (zL (h) (l1))) (ck (isO (h) (zR (h) 601 (l0)) 20) (ck (inR (zI (h) 602 (l0)) (zL (h) (zR (h) 601 (l0)))) (bh (pE (h) (zR (h) 601 (l0)) (zI (h) 602 (l0)).toNatClampNeg ((zE (h) (l1) (l4).toNatClampNeg).toInt8.toInt32)) (fun h17 => bh (pI (h17) 602 (l0) ((zI (h17) 602 (l0)) + ((1 : Int32)))) (fun h18 => if (zI (h18) 604 (l0)) = ((-1 : Int32)) then (f_X5_write_107 K3 (l0) ((-1 : Int32)) (l0) (l1) (l3) (l4) (h18)) else (f_X5_write_107 K3 (l0) ((zI (h18) 604 (l0)) - ((1 : Int32))) (l0) (l1) (l3) (l4) (h18)))))))))
theorem f_X5_write_65_ok {G : Gd} {d : Nat} (K3 : Nat → Nat → Int32 → Int32 → Hp → Option Hp) (hj : 2 ≤ d) (hK3 : ∀ (l0 : Nat) (l1 : Nat) (l3 : Int32) (l4 : Int32) (L : List (Nat × Value)) (h : Hp) (o : Hp), zlk L 0 = some (zrf (l0)) → zlk L 1 = some (zrf (l1)) → zlk L 3 = some (.int (l3)) → zlk L 4 = some (.int (l4)) → K3 l0 l1 l3 l4 h = some o → Ev G M_X5_write d 3 L [] h (Ret Y_X5_write none o)) : ∀ (l0 : Nat) (l1 : Nat) (l3 : Int32) (l4 : Int32) (L : List (Nat × Value)) (h : Hp) (o : Hp), zlk L 0 = some (zrf (l0)) → zlk L 1 = some (zrf (l1)) → zlk L 3 = some (.int (l3)) → zlk L 4 = some (.int (l4)) → f_X5_write_65 K3 l0 l1 l3 l4 h = some o → Ev G M_X5_write d 65 L [] h (Ret Y_X5_write none o) := by
  intro l0 l1 l3 l4 L h o g0 g1 g3 g4 e
  unfold f_X5_write_65 at e
  refine g_ald_n d_X5_write_65 rfl g0 ?_
  replace e := ckd e
  obtain ⟨k12, e⟩ := e
  refine g_getR d_X5_write_66 (f := 601) k12 fk_4_9 rfl rfl ?_
  refine g_ald_n d_X5_write_69 rfl g0 ?_
  refine g_getI d_X5_write_70 (f := 602) k12 fk_4_26 rfl rfl ?_
  refine g_ald_n d_X5_write_73 rfl g1 ?_
  refine r_iload d_X5_write_74 g4 ?_
  replace e := ckd e
  obtain ⟨k13, e⟩ := e
  replace e := ckd e
  obtain ⟨k14, e⟩ := e
  refine g_bald d_X5_write_76 k13 k14 rfl ?_
  replace e := ckd e
  obtain ⟨k15, e⟩ := e
  replace e := ckd e
  obtain ⟨k16, e⟩ := e
  refine g_bast d_X5_write_77 k15 k16 ?_
  replace e := bhd e
  obtain ⟨_, rfl, e⟩ := e
  refine g_ald_n d_X5_write_78 rfl g0 ?_
  refine r_dup d_X5_write_79 (zrf_cat _) ?_
  refine g_getI d_X5_write_80 (f := 602) (tO_pE k12) fk_4_26 rfl rfl ?_
  refine r_iconst d_X5_write_83 (v := (1 : Int32)) (by decide +kernel) ?_
  refine r_iadd d_X5_write_84 ?_
  refine g_putI d_X5_write_85 (f := 602) (tO_pE k12) fk_4_26 rfl (Or.inl rfl) ⟨rfl, rfl⟩ ?_
  replace e := bhd e
  obtain ⟨_, rfl, e⟩ := e
  refine g_ald_n d_X5_write_88 rfl g0 ?_
  refine g_ald_n d_X5_write_89 rfl g0 ?_
  refine g_getI d_X5_write_90 (f := 604) (tO_pI (tO_pE k12)) fk_4_19 rfl rfl ?_
  refine r_iconst d_X5_write_93 (v := (-1 : Int32)) (by decide +kernel) ?_
  refine r_icmp_ne d_X5_write_94 (tgt := 101) (by decide) (fun c19 => ?_) (fun c19 => ?_)
  · replace e := (if_neg c19).symm.trans e
    refine g_ald_n d_X5_write_101 rfl g0 ?_
    refine g_getI d_X5_write_102 (f := 604) (tO_pI (tO_pE k12)) fk_4_19 rfl rfl ?_
    refine r_iconst d_X5_write_105 (v := (1 : Int32)) (by decide +kernel) ?_
    refine r_isub d_X5_write_106 ?_
    exact f_X5_write_107_ok _ hj hK3 _ _ _ _ _ _ _ _ _ g0 g1 g3 g4 e
  · replace e := (if_pos c19).symm.trans e
    refine r_iconst d_X5_write_97 (v := (-1 : Int32)) (by decide +kernel) ?_
    refine r_goto d_X5_write_98 (tgt := 107) (by decide) ?_
    exact f_X5_write_107_ok _ hj hK3 _ _ _ _ _ _ _ _ _ g0 g1 g3 g4 e

def f_X5_write_3 : Nat → Nat → Nat → Int32 → Int32 → Hp → Option Hp
  | 0, _, _, _, _, _ => none
  | n + 1, l0, l1, l3, l4, h => if (l3) ≤ (l4) then (some (h)) else (ck (isO (h) (l0) 6) (if (zI (h) 603 (l0)) = (0) then (some (h)) else (if (zI (h) 604 (l0)) = (0) then (bh (pI (h) 603 (l0) ((0 : Int32))) (fun h10 => bh (pI (h10) 604 (l0) ((-1 : Int32))) (fun h11 => f_X5_write_110 (f_X5_write_3 n) (l0) (l1) (l3) (l4) (h11)))) else (ck (isO (h) (zR (h) 601 (l0)) 20) (if (zI (h) 602 (l0)) = (nI (zL (h) (zR (h) 601 (l0)))) then ((f_J7_copyOf_9075b (zR (h) 601 (l0)) (((2 : Int32)) * (zI (h) 602 (l0))) (h)).bind (fun q7 => ck (isO (q7.2) (l0) 6) (bh (pR (q7.2) 601 (l0) (q7.1)) (fun h9 => f_X5_write_65 (f_X5_write_3 n) (l0) (l1) (l3) (l4) (h9))))) else (f_X5_write_65 (f_X5_write_3 n) (l0) (l1) (l3) (l4) (h)))))))
theorem f_X5_write_3_ok {G : Gd} {d : Nat} (hj : 2 ≤ d) : ∀ (n : Nat) (l0 : Nat) (l1 : Nat) (l3 : Int32) (l4 : Int32) (L : List (Nat × Value)) (h : Hp) (o : Hp), zlk L 0 = some (zrf (l0)) → zlk L 1 = some (zrf (l1)) → zlk L 3 = some (.int (l3)) → zlk L 4 = some (.int (l4)) → f_X5_write_3 n l0 l1 l3 l4 h = some o → Ev G M_X5_write d 3 L [] h (Ret Y_X5_write none o) := by
  intro n
  induction n with
  | zero =>
    intro l0 l1 l3 l4 L h o g0 g1 g3 g4 e
    cases e
  | succ n ih =>
    intro l0 l1 l3 l4 L h o g0 g1 g3 g4 e
    unfold f_X5_write_3 at e
    refine r_iload d_X5_write_3 g4 ?_
    refine r_iload_n d_X5_write_5 rfl g3 ?_
    refine r_icmp_ge d_X5_write_6 (tgt := 116) (by decide) (fun c1 => ?_) (fun c1 => ?_)
    · replace e := (if_pos c1).symm.trans e
      obtain rfl := Option.some.inj e
      exact g_vret d_X5_write_116 rfl
    · replace e := (if_neg c1).symm.trans e
      refine g_ald_n d_X5_write_9 rfl g0 ?_
      replace e := ckd e
      obtain ⟨k2, e⟩ := e
      refine g_getI d_X5_write_10 (f := 603) k2 fk_4_15 rfl rfl ?_
      refine r_if_eq d_X5_write_13 (tgt := 116) (by decide) (fun c3 => ?_) (fun c3 => ?_)
      · replace e := (if_pos c3).symm.trans e
        obtain rfl := Option.some.inj e
        exact g_vret d_X5_write_116 rfl
      · replace e := (if_neg c3).symm.trans e
        refine g_ald_n d_X5_write_16 rfl g0 ?_
        refine g_getI d_X5_write_17 (f := 604) k2 fk_4_19 rfl rfl ?_
        refine r_if_ne d_X5_write_20 (tgt := 36) (by decide) (fun c4 => ?_) (fun c4 => ?_)
        · replace e := (if_neg c4).symm.trans e
          refine g_ald_n d_X5_write_36 rfl g0 ?_
          refine g_getI d_X5_write_37 (f := 602) k2 fk_4_26 rfl rfl ?_
          refine g_ald_n d_X5_write_40 rfl g0 ?_
          refine g_getR d_X5_write_41 (f := 601) k2 fk_4_9 rfl rfl ?_
          replace e := ckd e
          obtain ⟨k5, e⟩ := e
          refine g_alen d_X5_write_44 k5 (by decide) (by decide) rfl ?_
          refine r_icmp_ne d_X5_write_45 (tgt := 65) (by decide) (fun c6 => ?_) (fun c6 => ?_)
          · replace e := (if_neg c6).symm.trans e
            exact f_X5_write_65_ok _ hj ih _ _ _ _ _ _ _ g0 g1 g3 g4 e
          · replace e := (if_pos c6).symm.trans e
            refine g_ald_n d_X5_write_48 rfl g0 ?_
            refine g_ald_n d_X5_write_49 rfl g0 ?_
            refine g_getR d_X5_write_50 (f := 601) k2 fk_4_9 rfl rfl ?_
            refine r_iconst d_X5_write_53 (v := (2 : Int32)) (by decide +kernel) ?_
            refine g_ald_n d_X5_write_54 rfl g0 ?_
            refine g_getI d_X5_write_55 (f := 602) k2 fk_4_26 rfl rfl ?_
            refine r_imul d_X5_write_58 ?_
            replace e := bd e
            obtain ⟨q7, eq7, e⟩ := e
            refine g_callS d_X5_write_59 sk_4_33 (as := [_, _]) rfl rfl (by simp [zrf_cat, cat_int, cat_long]) (j := 1) (by omega) (c_J7_copyOf_9075b (by omega) eq7) ?_
            replace e := ckd e
            obtain ⟨k8, e⟩ := e
            refine g_putR d_X5_write_62 (f := 601) k8 fk_4_9 rfl (Or.inl rfl) (Or.inr ⟨_, rfl⟩) ?_
            replace e := bhd e
            obtain ⟨_, rfl, e⟩ := e
            exact f_X5_write_65_ok _ hj ih _ _ _ _ _ _ _ g0 g1 g3 g4 e
        · replace e := (if_pos c4).symm.trans e
          refine g_ald_n d_X5_write_23 rfl g0 ?_
          refine r_iconst d_X5_write_24 (v := (0 : Int32)) (by decide +kernel) ?_
          refine g_putI d_X5_write_25 (f := 603) k2 fk_4_15 rfl (Or.inl rfl) ⟨rfl, rfl⟩ ?_
          replace e := bhd e
          obtain ⟨_, rfl, e⟩ := e
          refine g_ald_n d_X5_write_28 rfl g0 ?_
          refine r_iconst d_X5_write_29 (v := (-1 : Int32)) (by decide +kernel) ?_
          refine g_putI d_X5_write_30 (f := 604) (tO_pI k2) fk_4_19 rfl (Or.inl rfl) ⟨rfl, rfl⟩ ?_
          replace e := bhd e
          obtain ⟨_, rfl, e⟩ := e
          refine r_goto d_X5_write_33 (tgt := 110) (by decide) ?_
          exact f_X5_write_110_ok _ hj ih _ _ _ _ _ _ _ g0 g1 g3 g4 e

def f_X5_write (l0 : Nat) (l1 : Nat) (l2 : Int32) (l3 : Int32) (h : Hp) : Option Hp := f_X5_write_3 fz (l0) (l1) (l3) (l2) (h)
theorem f_X5_write_ok {G : Gd} {d : Nat} (hj : 2 ≤ d) : ∀ (l0 : Nat) (l1 : Nat) (l2 : Int32) (l3 : Int32) (L : List (Nat × Value)) (h : Hp) (o : Hp), zlk L 0 = some (zrf (l0)) → zlk L 1 = some (zrf (l1)) → zlk L 2 = some (.int (l2)) → zlk L 3 = some (.int (l3)) → f_X5_write l0 l1 l2 l3 h = some o → Ev G M_X5_write d 0 L [] h (Ret Y_X5_write none o) := by
  intro l0 l1 l2 l3 L h o g0 g1 g2 g3 e
  unfold f_X5_write at e
  refine r_iload_n d_X5_write_0 rfl g2 ?_
  refine s_istore d_X5_write_1 (by decide) (fun L g4 gK => ?_)
  replace g0 := gK _ _ (by decide) (Or.inr (zrf_cat _)) g0
  replace g1 := gK _ _ (by decide) (Or.inr (zrf_cat _)) g1
  replace g3 := gK _ _ (by decide) (Or.inr rfl) g3
  exact f_X5_write_3_ok hj _ _ _ _ _ _ _ _ g0 g1 g3 g4 e

theorem c_X5_write {G : Gd} {j : Nat} (hj : 2 ≤ j) {l0 : Nat} {l1 : Nat} {l2 : Int32} {l3 : Int32} {h : Hp} {o : Hp} (e : f_X5_write l0 l1 l2 l3 h = some o) : Cal G j Y_X5_write [zrf (l0), zrf (l1), .int (l2), .int (l3)] h none o := Cal.of (n := 0) (I := false) (by first | exact Or.inl (by decide +kernel) | exact Or.inr (by decide +kernel)) (by decide) (by simp [lg_sl, zrf_cat, cat_int, cat_long]) (f_X5_write_ok hj _ _ _ _ _ h o (by simp [lv_args, zlk, zrf_cat, cat_int, cat_long]) (by simp [lv_args, zlk, zrf_cat, cat_int, cat_long]) (by simp [lv_args, zlk, zrf_cat, cat_int, cat_long]) (by simp [lv_args, zlk, zrf_cat, cat_int, cat_long]) e)
theorem vk_4_39 : Vk "TaskWeave$Replica" 39 0 6 Y_X5_lastTerm := ⟨yk_X5_lastTerm, by decide +kernel, by decide +kernel, by decide +kernel, by decide⟩
def f_X5_isAheadOf (l0 : Nat) (l1 : Nat) (h : Hp) : Option (Int32 × Hp) := ck (isO (h) (l0) 6) ((f_X5_lastTerm (l0) (h)).bind (fun q1 => ck (isO (q1.2) (l1) 6) ((f_X5_lastTerm (l1) (q1.2)).bind (fun q3 => if (q3.1) < (q1.1) then (some ((1 : Int32), q3.2)) else (if (q1.1) = (q3.1) then (ck (isO (q3.2) (l0) 6) (ck (isO (q3.2) (l1) 6) (if (zI (q3.2) 602 (l0)) ≤ (zI (q3.2) 602 (l1)) then (some ((0 : Int32), q3.2)) else (some ((1 : Int32), q3.2))))) else (some ((0 : Int32), q3.2)))))))
theorem f_X5_isAheadOf_ok {G : Gd} {d : Nat} (hj : 2 ≤ d) : ∀ (l0 : Nat) (l1 : Nat) (L : List (Nat × Value)) (h : Hp) (o : (Int32 × Hp)), zlk L 0 = some (zrf (l0)) → zlk L 1 = some (zrf (l1)) → f_X5_isAheadOf l0 l1 h = some o → Ev G M_X5_isAheadOf d 0 L [] h (Ret Y_X5_isAheadOf (some (.int o.1)) o.2) := by
  intro l0 l1 L h o g0 g1 e
  unfold f_X5_isAheadOf at e
  refine g_ald_n d_X5_isAheadOf_0 rfl g0 ?_
  replace e := ckd e
  obtain ⟨k2, e⟩ := e
  replace e := bd e
  obtain ⟨q1, eq1, e⟩ := e
  refine g_callV d_X5_isAheadOf_1 vk_4_39 (as := []) rfl k2 rfl (by simp [zrf_cat, cat_int, cat_long]) (j := 1) (by omega) (c_X5_lastTerm (by omega) eq1) ?_
  refine s_istore_n d_X5_isAheadOf_4 rfl (by decide) (fun L g2 gK => ?_)
  replace g0 := gK _ _ (by decide) (Or.inr (zrf_cat _)) g0
  replace g1 := gK _ _ (by decide) (Or.inr (zrf_cat _)) g1
  refine g_ald_n d_X5_isAheadOf_5 rfl g1 ?_
  replace e := ckd e
  obtain ⟨k4, e⟩ := e
  replace e := bd e
  obtain ⟨q3, eq3, e⟩ := e
  refine g_callV d_X5_isAheadOf_6 vk_4_39 (as := []) rfl k4 rfl (by simp [zrf_cat, cat_int, cat_long]) (j := 1) (by omega) (c_X5_lastTerm (by omega) eq3) ?_
  refine s_istore_n d_X5_isAheadOf_9 rfl (by decide) (fun L g3 gK => ?_)
  replace g0 := gK _ _ (by decide) (Or.inr (zrf_cat _)) g0
  replace g1 := gK _ _ (by decide) (Or.inr (zrf_cat _)) g1
  replace g2 := gK _ _ (by decide) (Or.inr rfl) g2
  refine r_iload_n d_X5_isAheadOf_10 rfl g2 ?_
  refine r_iload_n d_X5_isAheadOf_11 rfl g3 ?_
  refine r_icmp_gt d_X5_isAheadOf_12 (tgt := 31) (by decide) (fun c5 => ?_) (fun c5 => ?_)
  · replace e := (if_pos c5).symm.trans e
    refine r_iconst d_X5_isAheadOf_31 (v := (1 : Int32)) (by decide +kernel) ?_
    refine r_goto d_X5_isAheadOf_32 (tgt := 36) (by decide) ?_
    obtain rfl := Option.some.inj e
    exact g_iret d_X5_isAheadOf_36 rfl rfl
  · replace e := (if_neg c5).symm.trans e
    refine r_iload_n d_X5_isAheadOf_15 rfl g2 ?_
    refine r_iload_n d_X5_isAheadOf_16 rfl g3 ?_
    refine r_icmp_ne d_X5_isAheadOf_17 (tgt := 35) (by decide) (fun c6 => ?_) (fun c6 => ?_)
    · replace e := (if_neg c6).symm.trans e
      refine r_iconst d_X5_isAheadOf_35 (v := (0 : Int32)) (by decide +kernel) ?_
      obtain rfl := Option.some.inj e
      exact g_iret d_X5_isAheadOf_36 rfl rfl
    · replace e := (if_pos c6).symm.trans e
      refine g_ald_n d_X5_isAheadOf_20 rfl g0 ?_
      replace e := ckd e
      obtain ⟨k7, e⟩ := e
      refine g_getI d_X5_isAheadOf_21 (f := 602) k7 fk_4_26 rfl rfl ?_
      refine g_ald_n d_X5_isAheadOf_24 rfl g1 ?_
      replace e := ckd e
      obtain ⟨k8, e⟩ := e
      refine g_getI d_X5_isAheadOf_25 (f := 602) k8 fk_4_26 rfl rfl ?_
      refine r_icmp_le d_X5_isAheadOf_28 (tgt := 35) (by decide) (fun c9 => ?_) (fun c9 => ?_)
      · replace e := (if_pos c9).symm.trans e
        refine r_iconst d_X5_isAheadOf_35 (v := (0 : Int32)) (by decide +kernel) ?_
        obtain rfl := Option.some.inj e
        exact g_iret d_X5_isAheadOf_36 rfl rfl
      · replace e := (if_neg c9).symm.trans e
        refine r_iconst d_X5_isAheadOf_31 (v := (1 : Int32)) (by decide +kernel) ?_
        refine r_goto d_X5_isAheadOf_32 (tgt := 36) (by decide) ?_
        obtain rfl := Option.some.inj e
        exact g_iret d_X5_isAheadOf_36 rfl rfl

theorem c_X5_isAheadOf {G : Gd} {j : Nat} (hj : 2 ≤ j) {l0 : Nat} {l1 : Nat} {h : Hp} {o : (Int32 × Hp)} (e : f_X5_isAheadOf l0 l1 h = some o) : Cal G j Y_X5_isAheadOf [zrf (l0), zrf (l1)] h (some (.int o.1)) o.2 := Cal.of (n := 0) (I := false) (by first | exact Or.inl (by decide +kernel) | exact Or.inr (by decide +kernel)) (by decide) (by simp [lg_sl, zrf_cat, cat_int, cat_long]) (f_X5_isAheadOf_ok hj _ _ _ h o (by simp [lv_args, zlk, zrf_cat, cat_int, cat_long]) (by simp [lv_args, zlk, zrf_cat, cat_int, cat_long]) e)
def f_X5_sameRecord_5 : Nat → Nat → Nat → Int32 → Int32 → Hp → Option (Int32 × Hp)
  | 0, _, _, _, _, _ => none
  | n + 1, l0, l1, l2, l3, h => if (((l2) + ((1 : Int32))) * ((16 : Int32))) ≤ (l3) then (some ((1 : Int32), h)) else (ck (isO (h) (l0) 6) (if (zI (h) 602 (l0)) ≤ (l3) then (some ((0 : Int32), h)) else (ck (isO (h) (l1) 6) (if (zI (h) 602 (l1)) ≤ (l3) then (some ((0 : Int32), h)) else (ck (isO (h) (zR (h) 601 (l0)) 20) (ck (inR (l3) (zL (h) (zR (h) 601 (l0)))) (ck (isO (h) (zR (h) 601 (l1)) 20) (ck (inR (l3) (zL (h) (zR (h) 601 (l1)))) (if (zE (h) (zR (h) 601 (l0)) (l3).toNatClampNeg) = (zE (h) (zR (h) 601 (l1)) (l3).toNatClampNeg) then (bh ((l3) + (1 : Int32)) (fun x12 => f_X5_sameRecord_5 n (l0) (l1) (l2) (x12) (h))) else (some ((0 : Int32), h)))))))))))
theorem f_X5_sameRecord_5_ok {G : Gd} {d : Nat} (hj : 1 ≤ d) : ∀ (n : Nat) (l0 : Nat) (l1 : Nat) (l2 : Int32) (l3 : Int32) (L : List (Nat × Value)) (h : Hp) (o : (Int32 × Hp)), zlk L 0 = some (zrf (l0)) → zlk L 1 = some (zrf (l1)) → zlk L 2 = some (.int (l2)) → zlk L 3 = some (.int (l3)) → f_X5_sameRecord_5 n l0 l1 l2 l3 h = some o → Ev G M_X5_sameRecord d 5 L [] h (Ret Y_X5_sameRecord (some (.int o.1)) o.2) := by
  intro n
  induction n with
  | zero =>
    intro l0 l1 l2 l3 L h o g0 g1 g2 g3 e
    cases e
  | succ n ih =>
    intro l0 l1 l2 l3 L h o g0 g1 g2 g3 e
    unfold f_X5_sameRecord_5 at e
    refine r_iload_n d_X5_sameRecord_5 rfl g3 ?_
    refine r_iload_n d_X5_sameRecord_6 rfl g2 ?_
    refine r_iconst d_X5_sameRecord_7 (v := (1 : Int32)) (by decide +kernel) ?_
    refine r_iadd d_X5_sameRecord_8 ?_
    refine r_bipush d_X5_sameRecord_9 (v := (16 : Int32)) (by decide +kernel) ?_
    refine r_imul d_X5_sameRecord_11 ?_
    refine r_icmp_ge d_X5_sameRecord_12 (tgt := 54) (by decide) (fun c2 => ?_) (fun c2 => ?_)
    · replace e := (if_pos c2).symm.trans e
      refine r_iconst d_X5_sameRecord_54 (v := (1 : Int32)) (by decide +kernel) ?_
      obtain rfl := Option.some.inj e
      exact g_iret d_X5_sameRecord_55 rfl rfl
    · replace e := (if_neg c2).symm.trans e
      refine r_iload_n d_X5_sameRecord_15 rfl g3 ?_
      refine g_ald_n d_X5_sameRecord_16 rfl g0 ?_
      replace e := ckd e
      obtain ⟨k3, e⟩ := e
      refine g_getI d_X5_sameRecord_17 (f := 602) k3 fk_4_26 rfl rfl ?_
      refine r_icmp_ge d_X5_sameRecord_20 (tgt := 46) (by decide) (fun c4 => ?_) (fun c4 => ?_)
      · replace e := (if_pos c4).symm.trans e
        refine r_iconst d_X5_sameRecord_46 (v := (0 : Int32)) (by decide +kernel) ?_
        obtain rfl := Option.some.inj e
        exact g_iret d_X5_sameRecord_47 rfl rfl
      · replace e := (if_neg c4).symm.trans e
        refine r_iload_n d_X5_sameRecord_23 rfl g3 ?_
        refine g_ald_n d_X5_sameRecord_24 rfl g1 ?_
        replace e := ckd e
        obtain ⟨k5, e⟩ := e
        refine g_getI d_X5_sameRecord_25 (f := 602) k5 fk_4_26 rfl rfl ?_
        refine r_icmp_ge d_X5_sameRecord_28 (tgt := 46) (by decide) (fun c6 => ?_) (fun c6 => ?_)
        · replace e := (if_pos c6).symm.trans e
          refine r_iconst d_X5_sameRecord_46 (v := (0 : Int32)) (by decide +kernel) ?_
          obtain rfl := Option.some.inj e
          exact g_iret d_X5_sameRecord_47 rfl rfl
        · replace e := (if_neg c6).symm.trans e
          refine g_ald_n d_X5_sameRecord_31 rfl g0 ?_
          refine g_getR d_X5_sameRecord_32 (f := 601) k3 fk_4_9 rfl rfl ?_
          refine r_iload_n d_X5_sameRecord_35 rfl g3 ?_
          replace e := ckd e
          obtain ⟨k7, e⟩ := e
          replace e := ckd e
          obtain ⟨k8, e⟩ := e
          refine g_bald d_X5_sameRecord_36 k7 k8 rfl ?_
          refine g_ald_n d_X5_sameRecord_37 rfl g1 ?_
          refine g_getR d_X5_sameRecord_38 (f := 601) k5 fk_4_9 rfl rfl ?_
          refine r_iload_n d_X5_sameRecord_41 rfl g3 ?_
          replace e := ckd e
          obtain ⟨k9, e⟩ := e
          replace e := ckd e
          obtain ⟨k10, e⟩ := e
          refine g_bald d_X5_sameRecord_42 k9 k10 rfl ?_
          refine r_icmp_eq d_X5_sameRecord_43 (tgt := 48) (by decide) (fun c11 => ?_) (fun c11 => ?_)
          · replace e := (if_pos c11).symm.trans e
            replace e := bhd e
            obtain ⟨_, rfl, e⟩ := e
            refine s_iinc d_X5_sameRecord_48 g3 (w := (1 : Int32)) (by decide +kernel) (by decide) (fun L g3 gK => ?_)
            replace g0 := gK _ _ (by decide) (Or.inr (zrf_cat _)) g0
            replace g1 := gK _ _ (by decide) (Or.inr (zrf_cat _)) g1
            replace g2 := gK _ _ (by decide) (Or.inr rfl) g2
            refine r_goto d_X5_sameRecord_51 (tgt := 5) (by decide) ?_
            exact ih _ _ _ _ _ _ _ g0 g1 g2 g3 e
          · replace e := (if_neg c11).symm.trans e
            refine r_iconst d_X5_sameRecord_46 (v := (0 : Int32)) (by decide +kernel) ?_
            obtain rfl := Option.some.inj e
            exact g_iret d_X5_sameRecord_47 rfl rfl

def f_X5_sameRecord (l0 : Nat) (l1 : Nat) (l2 : Int32) (h : Hp) : Option (Int32 × Hp) := bh ((l2) * ((16 : Int32))) (fun x1 => f_X5_sameRecord_5 fz (l0) (l1) (l2) (x1) (h))
theorem f_X5_sameRecord_ok {G : Gd} {d : Nat} (hj : 1 ≤ d) : ∀ (l0 : Nat) (l1 : Nat) (l2 : Int32) (L : List (Nat × Value)) (h : Hp) (o : (Int32 × Hp)), zlk L 0 = some (zrf (l0)) → zlk L 1 = some (zrf (l1)) → zlk L 2 = some (.int (l2)) → f_X5_sameRecord l0 l1 l2 h = some o → Ev G M_X5_sameRecord d 0 L [] h (Ret Y_X5_sameRecord (some (.int o.1)) o.2) := by
  intro l0 l1 l2 L h o g0 g1 g2 e
  unfold f_X5_sameRecord at e
  refine r_iload_n d_X5_sameRecord_0 rfl g2 ?_
  refine r_bipush d_X5_sameRecord_1 (v := (16 : Int32)) (by decide +kernel) ?_
  refine r_imul d_X5_sameRecord_3 ?_
  replace e := bhd e
  obtain ⟨_, rfl, e⟩ := e
  refine s_istore_n d_X5_sameRecord_4 rfl (by decide) (fun L g3 gK => ?_)
  replace g0 := gK _ _ (by decide) (Or.inr (zrf_cat _)) g0
  replace g1 := gK _ _ (by decide) (Or.inr (zrf_cat _)) g1
  replace g2 := gK _ _ (by decide) (Or.inr rfl) g2
  exact f_X5_sameRecord_5_ok hj _ _ _ _ _ _ _ _ g0 g1 g2 g3 e

theorem c_X5_sameRecord {G : Gd} {j : Nat} (hj : 1 ≤ j) {l0 : Nat} {l1 : Nat} {l2 : Int32} {h : Hp} {o : (Int32 × Hp)} (e : f_X5_sameRecord l0 l1 l2 h = some o) : Cal G j Y_X5_sameRecord [zrf (l0), zrf (l1), .int (l2)] h (some (.int o.1)) o.2 := Cal.of (n := 0) (I := false) (by first | exact Or.inl (by decide +kernel) | exact Or.inr (by decide +kernel)) (by decide) (by simp [lg_sl, zrf_cat, cat_int, cat_long]) (f_X5_sameRecord_ok hj _ _ _ _ h o (by simp [lv_args, zlk, zrf_cat, cat_int, cat_long]) (by simp [lv_args, zlk, zrf_cat, cat_int, cat_long]) (by simp [lv_args, zlk, zrf_cat, cat_int, cat_long]) e)
def f_X8_init (l0 : Nat) (h : Hp) : Option Hp := ck (isO (h) (l0) 9) (some (h))
theorem f_X8_init_ok {G : Gd} {d : Nat} (hj : 1 ≤ d) : ∀ (l0 : Nat) (L : List (Nat × Value)) (h : Hp) (o : Hp), zlk L 0 = some (zrf (l0)) → f_X8_init l0 h = some o → Ev G M_X8_init d 0 L [] h (Ret Y_X8_init none o) := by
  intro l0 L h o g0 e
  unfold f_X8_init at e
  refine g_ald_n d_X8_init_0 rfl g0 ?_
  replace e := ckd e
  obtain ⟨k1, e⟩ := e
  refine g_objInit k1 d_X8_init_1 (by decide +kernel) (by omega) (by simp [zrf_cat, cat_int, cat_long]) ?_
  obtain rfl := Option.some.inj e
  exact g_vret d_X8_init_4 rfl

theorem c_X8_init {G : Gd} {j : Nat} (hj : 1 ≤ j) {l0 : Nat} {h : Hp} {o : Hp} (e : f_X8_init l0 h = some o) : Cal G j Y_X8_init [zrf (l0)] h none o := Cal.of (n := 0) (I := true) (by first | exact Or.inl (by decide +kernel) | exact Or.inr (by decide +kernel)) (by decide) (by simp [lg_sl, zrf_cat, cat_int, cat_long]) (f_X8_init_ok hj _ _ h o (by simp [lv_args, zlk, zrf_cat, cat_int, cat_long]) e)
theorem fk_8_9 : Fk "TaskWeave$Workflow" 9 1001 := ⟨by decide, by decide, by decide +kernel⟩
theorem nk_8_17 : Nk "TaskWeave$Workflow" 17 0 Y_X1_init := ⟨yk_X1_init, rfl, by decide +kernel, rfl, by decide +kernel⟩
theorem fk_8_18 : Fk "TaskWeave$Workflow" 18 1002 := ⟨by decide, by decide, by decide +kernel⟩
theorem nk_8_24 : Nk "TaskWeave$Workflow" 24 0 Y_X8_init := ⟨yk_X8_init, rfl, by decide +kernel, rfl, by decide +kernel⟩
theorem fk_8_25 : Fk "TaskWeave$Workflow" 25 1003 := ⟨by decide, by decide, by decide +kernel⟩
theorem fk_8_29 : Fk "TaskWeave$Workflow" 29 1000 := ⟨by decide, by decide, by decide +kernel⟩
def f_X9_init (l0 : Nat) (l1 : Int32) (h : Hp) : Option Hp := ck (isO (h) (l0) 10) (ck (8 ≤ zn (h)) (bh (pN (h) 22 ((8 : Int32)).toNatClampNeg) (fun h3 => bh (pR (h3) 1001 (l0) (zn (h))) (fun h4 => ck (8 ≤ zn (h4)) (bh (pN (h4) 2 (kN 2)) (fun h6 => ck (isO (h6) (zn (h4)) 2) ((f_X1_init (zn (h4)) (h6)).bind (fun q7 => ck (isO (q7) (l0) 10) (bh (pR (q7) 1002 (l0) (zn (h4))) (fun h10 => ck (8 ≤ zn (h10)) (bh (pN (h10) 9 (kN 9)) (fun h12 => ck (isO (h12) (zn (h10)) 9) ((f_X8_init (zn (h10)) (h12)).bind (fun q13 => ck (isO (q13) (l0) 10) (bh (pR (q13) 1003 (l0) (zn (h10))) (fun h16 => bh (pI (h16) 1000 (l0) (l1)) (fun h17 => some (h17))))))))))))))))))
theorem f_X9_init_ok {G : Gd} {d : Nat} (hj : 2 ≤ d) : ∀ (l0 : Nat) (l1 : Int32) (L : List (Nat × Value)) (h : Hp) (o : Hp), zlk L 0 = some (zrf (l0)) → zlk L 1 = some (.int (l1)) → f_X9_init l0 l1 h = some o → Ev G M_X9_init d 0 L [] h (Ret Y_X9_init none o) := by
  intro l0 l1 L h o g0 g1 e
  unfold f_X9_init at e
  refine g_ald_n d_X9_init_0 rfl g0 ?_
  replace e := ckd e
  obtain ⟨k1, e⟩ := e
  refine g_objInit k1 d_X9_init_1 (by decide +kernel) (by omega) (by simp [zrf_cat, cat_int, cat_long]) ?_
  refine g_ald_n d_X9_init_4 rfl g0 ?_
  refine r_bipush d_X9_init_5 (v := (8 : Int32)) (by decide +kernel) ?_
  replace e := ckd e
  obtain ⟨k2, e⟩ := e
  refine g_newa (t := 22) k2 d_X9_init_7 (by decide) (by decide) rfl (by decide +kernel) (by decide) (by decide +kernel) ?_
  replace e := bhd e
  obtain ⟨_, rfl, e⟩ := e
  refine g_putR d_X9_init_9 (f := 1001) (tO_pN k1) fk_8_9 rfl (Or.inr ⟨rfl, rfl⟩) (Or.inr ⟨_, rfl⟩) ?_
  replace e := bhd e
  obtain ⟨_, rfl, e⟩ := e
  refine g_ald_n d_X9_init_12 rfl g0 ?_
  replace e := ckd e
  obtain ⟨k5, e⟩ := e
  refine g_new k5 d_X9_init_13 (i := 2) (by decide) (by decide) (by decide +kernel) ?_
  replace e := bhd e
  obtain ⟨_, rfl, e⟩ := e
  refine r_dup d_X9_init_16 (zrf_cat _) ?_
  replace e := ckd e
  obtain ⟨k8, e⟩ := e
  replace e := bd e
  obtain ⟨q7, eq7, e⟩ := e
  refine g_callN d_X9_init_17 nk_8_17 (as := []) rfl k8 rfl (by simp [zrf_cat, cat_int, cat_long]) (j := 1) (by omega) (c_X1_init (by omega) eq7) ?_
  replace e := ckd e
  obtain ⟨k9, e⟩ := e
  refine g_putR d_X9_init_20 (f := 1002) k9 fk_8_18 rfl (Or.inr ⟨rfl, rfl⟩) (Or.inl ⟨_, rfl⟩) ?_
  replace e := bhd e
  obtain ⟨_, rfl, e⟩ := e
  refine g_ald_n d_X9_init_23 rfl g0 ?_
  replace e := ckd e
  obtain ⟨k11, e⟩ := e
  refine g_new k11 d_X9_init_24 (i := 9) (by decide) (by decide) (by decide +kernel) ?_
  replace e := bhd e
  obtain ⟨_, rfl, e⟩ := e
  refine r_dup d_X9_init_27 (zrf_cat _) ?_
  replace e := ckd e
  obtain ⟨k14, e⟩ := e
  replace e := bd e
  obtain ⟨q13, eq13, e⟩ := e
  refine g_callN d_X9_init_28 nk_8_24 (as := []) rfl k14 rfl (by simp [zrf_cat, cat_int, cat_long]) (j := 1) (by omega) (c_X8_init (by omega) eq13) ?_
  replace e := ckd e
  obtain ⟨k15, e⟩ := e
  refine g_putR d_X9_init_31 (f := 1003) k15 fk_8_25 rfl (Or.inr ⟨rfl, rfl⟩) (Or.inl ⟨_, rfl⟩) ?_
  replace e := bhd e
  obtain ⟨_, rfl, e⟩ := e
  refine g_ald_n d_X9_init_34 rfl g0 ?_
  refine r_iload_n d_X9_init_35 rfl g1 ?_
  refine g_putI d_X9_init_36 (f := 1000) (tO_pR k15) fk_8_29 rfl (Or.inr ⟨rfl, rfl⟩) ⟨rfl, rfl⟩ ?_
  replace e := bhd e
  obtain ⟨_, rfl, e⟩ := e
  obtain rfl := Option.some.inj e
  exact g_vret d_X9_init_39 rfl

theorem c_X9_init {G : Gd} {j : Nat} (hj : 2 ≤ j) {l0 : Nat} {l1 : Int32} {h : Hp} {o : Hp} (e : f_X9_init l0 l1 h = some o) : Cal G j Y_X9_init [zrf (l0), .int (l1)] h none o := Cal.of (n := 0) (I := true) (by first | exact Or.inl (by decide +kernel) | exact Or.inr (by decide +kernel)) (by decide) (by simp [lg_sl, zrf_cat, cat_int, cat_long]) (f_X9_init_ok hj _ _ _ h o (by simp [lv_args, zlk, zrf_cat, cat_int, cat_long]) (by simp [lv_args, zlk, zrf_cat, cat_int, cat_long]) e)
theorem fk_5_11 : Fk "TaskWeave$Shard" 11 703 := ⟨by decide, by decide, by decide +kernel⟩
theorem fk_5_19 : Fk "TaskWeave$Shard" 19 704 := ⟨by decide, by decide, by decide +kernel⟩
theorem fk_5_23 : Fk "TaskWeave$Shard" 23 705 := ⟨by decide, by decide, by decide +kernel⟩
theorem nk_5_29 : Nk "TaskWeave$Shard" 29 0 Y_X2_init := ⟨yk_X2_init, rfl, by decide +kernel, rfl, by decide +kernel⟩
theorem fk_5_30 : Fk "TaskWeave$Shard" 30 706 := ⟨by decide, by decide, by decide +kernel⟩
theorem fk_5_34 : Fk "TaskWeave$Shard" 34 707 := ⟨by decide, by decide, by decide +kernel⟩
theorem fk_5_38 : Fk "TaskWeave$Shard" 38 700 := ⟨by decide, by decide, by decide +kernel⟩
theorem fk_5_41 : Fk "TaskWeave$Shard" 41 701 := ⟨by decide, by decide, by decide +kernel⟩
theorem fk_5_45 : Fk "TaskWeave$Shard" 45 702 := ⟨by decide, by decide, by decide +kernel⟩
theorem ik_5_49 : Ik "TaskWeave$Shard" 49 1 Y_X5_init := ⟨yk_X5_init, rfl, by decide +kernel, rfl, by decide +kernel⟩
theorem ik_5_52 : Ik "TaskWeave$Shard" 52 1 Y_X9_init := ⟨yk_X9_init, rfl, by decide +kernel, rfl, by decide +kernel⟩
def f_X6_init_94 : Nat → Nat → Int32 → Int32 → Hp → Option Hp
  | 0, _, _, _, _ => none
  | n + 1, l0, l1, l4, h => if ((16 : Int32)) ≤ (l4) then (some (h)) else (ck (isO (h) (l0) 7) (ck (8 ≤ zn (h)) (bh (pN (h) 10 (kN 10)) (fun h35 => ck (isO (h35) (zn (h)) 10) ((f_X9_init (zn (h)) ((l1) + (((4 : Int32)) * (l4))) (h35)).bind (fun q36 => ck (isO (q36) (zR (h) 704 (l0)) 28) (ck (inR (l4) (zL (q36) (zR (h) 704 (l0)))) (ck (isO (q36) (zn (h)) 10) (bh (pQ (q36) (zR (h) 704 (l0)) (l4).toNatClampNeg (zn (h))) (fun h41 => bh ((l4) + (1 : Int32)) (fun x42 => f_X6_init_94 n (l0) (l1) (x42) (h41))))))))))))
theorem f_X6_init_94_ok {G : Gd} {d : Nat} (hj : 3 ≤ d) : ∀ (n : Nat) (l0 : Nat) (l1 : Int32) (l4 : Int32) (L : List (Nat × Value)) (h : Hp) (o : Hp), zlk L 0 = some (zrf (l0)) → zlk L 1 = some (.int (l1)) → zlk L 4 = some (.int (l4)) → f_X6_init_94 n l0 l1 l4 h = some o → Ev G M_X6_init d 94 L [] h (Ret Y_X6_init none o) := by
  intro n
  induction n with
  | zero =>
    intro l0 l1 l4 L h o g0 g1 g4 e
    cases e
  | succ n ih =>
    intro l0 l1 l4 L h o g0 g1 g4 e
    unfold f_X6_init_94 at e
    refine r_iload d_X6_init_94 g4 ?_
    refine r_bipush d_X6_init_96 (v := (16 : Int32)) (by decide +kernel) ?_
    refine r_icmp_ge d_X6_init_98 (tgt := 127) (by decide) (fun c32 => ?_) (fun c32 => ?_)
    · replace e := (if_pos c32).symm.trans e
      obtain rfl := Option.some.inj e
      exact g_vret d_X6_init_127 rfl
    · replace e := (if_neg c32).symm.trans e
      refine g_ald_n d_X6_init_101 rfl g0 ?_
      replace e := ckd e
      obtain ⟨k33, e⟩ := e
      refine g_getR d_X6_init_102 (f := 704) k33 fk_5_19 rfl rfl ?_
      refine r_iload d_X6_init_105 g4 ?_
      replace e := ckd e
      obtain ⟨k34, e⟩ := e
      refine g_new k34 d_X6_init_107 (i := 10) (by decide) (by decide) (by decide +kernel) ?_
      replace e := bhd e
      obtain ⟨_, rfl, e⟩ := e
      refine r_dup d_X6_init_110 (zrf_cat _) ?_
      refine r_iload_n d_X6_init_111 rfl g1 ?_
      refine r_iconst d_X6_init_112 (v := (4 : Int32)) (by decide +kernel) ?_
      refine r_iload d_X6_init_113 g4 ?_
      refine r_imul d_X6_init_115 ?_
      refine r_iadd d_X6_init_116 ?_
      replace e := ckd e
      obtain ⟨k37, e⟩ := e
      replace e := bd e
      obtain ⟨q36, eq36, e⟩ := e
      refine g_callI d_X6_init_117 ik_5_52 (as := [_]) rfl k37 rfl (by simp [zrf_cat, cat_int, cat_long]) (j := 2) (by omega) (c_X9_init (by omega) eq36) ?_
      replace e := ckd e
      obtain ⟨k38, e⟩ := e
      replace e := ckd e
      obtain ⟨k39, e⟩ := e
      replace e := ckd e
      obtain ⟨k40, e⟩ := e
      refine g_aast d_X6_init_120 k38 (by decide) (by decide) k40 (by decide) rfl k39 ?_
      replace e := bhd e
      obtain ⟨_, rfl, e⟩ := e
      replace e := bhd e
      obtain ⟨_, rfl, e⟩ := e
      refine s_iinc d_X6_init_121 g4 (w := (1 : Int32)) (by decide +kernel) (by decide) (fun L g4 gK => ?_)
      replace g0 := gK _ _ (by decide) (Or.inr (zrf_cat _)) g0
      replace g1 := gK _ _ (by decide) (Or.inr rfl) g1
      refine r_goto d_X6_init_124 (tgt := 94) (by decide) ?_
      exact ih _ _ _ _ _ _ g0 g1 g4 e

def f_X6_init_63 : Nat → Nat → Int32 → Int32 → Hp → Option Hp
  | 0, _, _, _, _ => none
  | n + 1, l0, l1, l4, h => if ((5 : Int32)) ≤ (l4) then (f_X6_init_94 fz (l0) (l1) ((0 : Int32)) (h)) else (ck (isO (h) (l0) 7) (ck (8 ≤ zn (h)) (bh (pN (h) 6 (kN 6)) (fun h24 => ck (isO (h24) (zn (h)) 6) ((f_X5_init (zn (h)) (l4) (h24)).bind (fun q25 => ck (isO (q25) (zR (h) 703 (l0)) 25) (ck (inR (l4) (zL (q25) (zR (h) 703 (l0)))) (ck (isO (q25) (zn (h)) 6) (bh (pQ (q25) (zR (h) 703 (l0)) (l4).toNatClampNeg (zn (h))) (fun h30 => bh ((l4) + (1 : Int32)) (fun x31 => f_X6_init_63 n (l0) (l1) (x31) (h30))))))))))))
theorem f_X6_init_63_ok {G : Gd} {d : Nat} (hj : 3 ≤ d) : ∀ (n : Nat) (l0 : Nat) (l1 : Int32) (l4 : Int32) (L : List (Nat × Value)) (h : Hp) (o : Hp), zlk L 0 = some (zrf (l0)) → zlk L 1 = some (.int (l1)) → zlk L 4 = some (.int (l4)) → f_X6_init_63 n l0 l1 l4 h = some o → Ev G M_X6_init d 63 L [] h (Ret Y_X6_init none o) := by
  intro n
  induction n with
  | zero =>
    intro l0 l1 l4 L h o g0 g1 g4 e
    cases e
  | succ n ih =>
    intro l0 l1 l4 L h o g0 g1 g4 e
    unfold f_X6_init_63 at e
    refine r_iload d_X6_init_63 g4 ?_
    refine r_iconst d_X6_init_65 (v := (5 : Int32)) (by decide +kernel) ?_
    refine r_icmp_ge d_X6_init_66 (tgt := 91) (by decide) (fun c21 => ?_) (fun c21 => ?_)
    · replace e := (if_pos c21).symm.trans e
      refine r_iconst d_X6_init_91 (v := (0 : Int32)) (by decide +kernel) ?_
      refine s_istore d_X6_init_92 (by decide) (fun L g4 gK => ?_)
      replace g0 := gK _ _ (by decide) (Or.inr (zrf_cat _)) g0
      replace g1 := gK _ _ (by decide) (Or.inr rfl) g1
      exact f_X6_init_94_ok hj _ _ _ _ _ _ _ g0 g1 g4 e
    · replace e := (if_neg c21).symm.trans e
      refine g_ald_n d_X6_init_69 rfl g0 ?_
      replace e := ckd e
      obtain ⟨k22, e⟩ := e
      refine g_getR d_X6_init_70 (f := 703) k22 fk_5_11 rfl rfl ?_
      refine r_iload d_X6_init_73 g4 ?_
      replace e := ckd e
      obtain ⟨k23, e⟩ := e
      refine g_new k23 d_X6_init_75 (i := 6) (by decide) (by decide) (by decide +kernel) ?_
      replace e := bhd e
      obtain ⟨_, rfl, e⟩ := e
      refine r_dup d_X6_init_78 (zrf_cat _) ?_
      refine r_iload d_X6_init_79 g4 ?_
      replace e := ckd e
      obtain ⟨k26, e⟩ := e
      replace e := bd e
      obtain ⟨q25, eq25, e⟩ := e
      refine g_callI d_X6_init_81 ik_5_49 (as := [_]) rfl k26 rfl (by simp [zrf_cat, cat_int, cat_long]) (j := 1) (by omega) (c_X5_init (by omega) eq25) ?_
      replace e := ckd e
      obtain ⟨k27, e⟩ := e
      replace e := ckd e
      obtain ⟨k28, e⟩ := e
      replace e := ckd e
      obtain ⟨k29, e⟩ := e
      refine g_aast d_X6_init_84 k27 (by decide) (by decide) k29 (by decide) rfl k28 ?_
      replace e := bhd e
      obtain ⟨_, rfl, e⟩ := e
      replace e := bhd e
      obtain ⟨_, rfl, e⟩ := e
      refine s_iinc d_X6_init_85 g4 (w := (1 : Int32)) (by decide +kernel) (by decide) (fun L g4 gK => ?_)
      replace g0 := gK _ _ (by decide) (Or.inr (zrf_cat _)) g0
      replace g1 := gK _ _ (by decide) (Or.inr rfl) g1
      refine r_goto d_X6_init_88 (tgt := 63) (by decide) ?_
      exact ih _ _ _ _ _ _ g0 g1 g4 e

def f_X6_init (l0 : Nat) (l1 : Int32) (l2 : Nat) (l3 : Nat) (h : Hp) : Option Hp := ck (isO (h) (l0) 7) (ck (8 ≤ zn (h)) (bh (pN (h) 25 ((5 : Int32)).toNatClampNeg) (fun h3 => bh (pR (h3) 703 (l0) (zn (h))) (fun h4 => ck (8 ≤ zn (h4)) (bh (pN (h4) 28 ((16 : Int32)).toNatClampNeg) (fun h6 => bh (pR (h6) 704 (l0) (zn (h4))) (fun h7 => ck (8 ≤ zn (h7)) (bh (pN (h7) 20 ((16 : Int32)).toNatClampNeg) (fun h9 => bh (pR (h9) 705 (l0) (zn (h7))) (fun h10 => ck (8 ≤ zn (h10)) (bh (pN (h10) 3 (kN 3)) (fun h12 => ck (isO (h12) (zn (h10)) 3) ((f_X2_init (zn (h10)) (h12)).bind (fun q13 => ck (isO (q13) (l0) 7) (bh (pR (q13) 706 (l0) (zn (h10))) (fun h16 => bh (pI (h16) 707 (l0) ((3 : Int32))) (fun h17 => bh (pI (h17) 700 (l0) (l1)) (fun h18 => bh (pR (h18) 701 (l0) (l2)) (fun h19 => bh (pR (h19) 702 (l0) (l3)) (fun h20 => f_X6_init_63 fz (l0) (l1) ((0 : Int32)) (h20)))))))))))))))))))))
theorem f_X6_init_ok {G : Gd} {d : Nat} (hj : 3 ≤ d) : ∀ (l0 : Nat) (l1 : Int32) (l2 : Nat) (l3 : Nat) (L : List (Nat × Value)) (h : Hp) (o : Hp), zlk L 0 = some (zrf (l0)) → zlk L 1 = some (.int (l1)) → zlk L 2 = some (zrf (l2)) → zlk L 3 = some (zrf (l3)) → f_X6_init l0 l1 l2 l3 h = some o → Ev G M_X6_init d 0 L [] h (Ret Y_X6_init none o) := by
  intro l0 l1 l2 l3 L h o g0 g1 g2 g3 e
  unfold f_X6_init at e
  refine g_ald_n d_X6_init_0 rfl g0 ?_
  replace e := ckd e
  obtain ⟨k1, e⟩ := e
  refine g_objInit k1 d_X6_init_1 (by decide +kernel) (by omega) (by simp [zrf_cat, cat_int, cat_long]) ?_
  refine g_ald_n d_X6_init_4 rfl g0 ?_
  refine r_iconst d_X6_init_5 (v := (5 : Int32)) (by decide +kernel) ?_
  replace e := ckd e
  obtain ⟨k2, e⟩ := e
  refine g_newq (t := 25) k2 d_X6_init_6 (by decide) (by decide) rfl (by decide +kernel) (by decide +kernel) (by decide +kernel) ?_
  replace e := bhd e
  obtain ⟨_, rfl, e⟩ := e
  refine g_putR d_X6_init_9 (f := 703) (tO_pN k1) fk_5_11 rfl (Or.inr ⟨rfl, rfl⟩) (Or.inr ⟨_, rfl⟩) ?_
  replace e := bhd e
  obtain ⟨_, rfl, e⟩ := e
  refine g_ald_n d_X6_init_12 rfl g0 ?_
  refine r_bipush d_X6_init_13 (v := (16 : Int32)) (by decide +kernel) ?_
  replace e := ckd e
  obtain ⟨k5, e⟩ := e
  refine g_newq (t := 28) k5 d_X6_init_15 (by decide) (by decide) rfl (by decide +kernel) (by decide +kernel) (by decide +kernel) ?_
  replace e := bhd e
  obtain ⟨_, rfl, e⟩ := e
  refine g_putR d_X6_init_18 (f := 704) (tO_pN (tO_pR (tO_pN k1))) fk_5_19 rfl (Or.inr ⟨rfl, rfl⟩) (Or.inr ⟨_, rfl⟩) ?_
  replace e := bhd e
  obtain ⟨_, rfl, e⟩ := e
  refine g_ald_n d_X6_init_21 rfl g0 ?_
  refine r_bipush d_X6_init_22 (v := (16 : Int32)) (by decide +kernel) ?_
  replace e := ckd e
  obtain ⟨k8, e⟩ := e
  refine g_newa (t := 20) k8 d_X6_init_24 (by decide) (by decide) rfl (by decide +kernel) (by decide) (by decide +kernel) ?_
  replace e := bhd e
  obtain ⟨_, rfl, e⟩ := e
  refine g_putR d_X6_init_26 (f := 705) (tO_pN (tO_pR (tO_pN (tO_pR (tO_pN k1))))) fk_5_23 rfl (Or.inr ⟨rfl, rfl⟩) (Or.inr ⟨_, rfl⟩) ?_
  replace e := bhd e
  obtain ⟨_, rfl, e⟩ := e
  refine g_ald_n d_X6_init_29 rfl g0 ?_
  replace e := ckd e
  obtain ⟨k11, e⟩ := e
  refine g_new k11 d_X6_init_30 (i := 3) (by decide) (by decide) (by decide +kernel) ?_
  replace e := bhd e
  obtain ⟨_, rfl, e⟩ := e
  refine r_dup d_X6_init_33 (zrf_cat _) ?_
  replace e := ckd e
  obtain ⟨k14, e⟩ := e
  replace e := bd e
  obtain ⟨q13, eq13, e⟩ := e
  refine g_callN d_X6_init_34 nk_5_29 (as := []) rfl k14 rfl (by simp [zrf_cat, cat_int, cat_long]) (j := 1) (by omega) (c_X2_init (by omega) eq13) ?_
  replace e := ckd e
  obtain ⟨k15, e⟩ := e
  refine g_putR d_X6_init_37 (f := 706) k15 fk_5_30 rfl (Or.inr ⟨rfl, rfl⟩) (Or.inl ⟨_, rfl⟩) ?_
  replace e := bhd e
  obtain ⟨_, rfl, e⟩ := e
  refine g_ald_n d_X6_init_40 rfl g0 ?_
  refine r_iconst d_X6_init_41 (v := (3 : Int32)) (by decide +kernel) ?_
  refine g_putI d_X6_init_42 (f := 707) (tO_pR k15) fk_5_34 rfl (Or.inl rfl) ⟨rfl, rfl⟩ ?_
  replace e := bhd e
  obtain ⟨_, rfl, e⟩ := e
  refine g_ald_n d_X6_init_45 rfl g0 ?_
  refine r_iload_n d_X6_init_46 rfl g1 ?_
  refine g_putI d_X6_init_47 (f := 700) (tO_pI (tO_pR k15)) fk_5_38 rfl (Or.inr ⟨rfl, rfl⟩) ⟨rfl, rfl⟩ ?_
  replace e := bhd e
  obtain ⟨_, rfl, e⟩ := e
  refine g_ald_n d_X6_init_50 rfl g0 ?_
  refine g_ald_n d_X6_init_51 rfl g2 ?_
  refine g_putR d_X6_init_52 (f := 701) (tO_pI (tO_pI (tO_pR k15))) fk_5_41 rfl (Or.inr ⟨rfl, rfl⟩) (Or.inl ⟨_, rfl⟩) ?_
  replace e := bhd e
  obtain ⟨_, rfl, e⟩ := e
  refine g_ald_n d_X6_init_55 rfl g0 ?_
  refine g_ald_n d_X6_init_56 rfl g3 ?_
  refine g_putR d_X6_init_57 (f := 702) (tO_pR (tO_pI (tO_pI (tO_pR k15)))) fk_5_45 rfl (Or.inr ⟨rfl, rfl⟩) (Or.inr ⟨_, rfl⟩) ?_
  replace e := bhd e
  obtain ⟨_, rfl, e⟩ := e
  refine r_iconst d_X6_init_60 (v := (0 : Int32)) (by decide +kernel) ?_
  refine s_istore d_X6_init_61 (by decide) (fun L g4 gK => ?_)
  replace g0 := gK _ _ (by decide) (Or.inr (zrf_cat _)) g0
  replace g1 := gK _ _ (by decide) (Or.inr rfl) g1
  exact f_X6_init_63_ok hj _ _ _ _ _ _ _ g0 g1 g4 e

theorem c_X6_init {G : Gd} {j : Nat} (hj : 3 ≤ j) {l0 : Nat} {l1 : Int32} {l2 : Nat} {l3 : Nat} {h : Hp} {o : Hp} (e : f_X6_init l0 l1 l2 l3 h = some o) : Cal G j Y_X6_init [zrf (l0), .int (l1), zrf (l2), zrf (l3)] h none o := Cal.of (n := 0) (I := true) (by first | exact Or.inl (by decide +kernel) | exact Or.inr (by decide +kernel)) (by decide) (by simp [lg_sl, zrf_cat, cat_int, cat_long]) (f_X6_init_ok hj _ _ _ _ _ h o (by simp [lv_args, zlk, zrf_cat, cat_int, cat_long]) (by simp [lv_args, zlk, zrf_cat, cat_int, cat_long]) (by simp [lv_args, zlk, zrf_cat, cat_int, cat_long]) (by simp [lv_args, zlk, zrf_cat, cat_int, cat_long]) e)
theorem fk_5_53 : Fk "TaskWeave$Shard" 53 708 := ⟨by decide, by decide, by decide +kernel⟩
def f_X6_works (l0 : Nat) (h : Hp) : Option (Int32 × Hp) := ck (isO (h) (l0) 7) (if (zI (h) 708 (l0)) = ((-1 : Int32)) then (some ((0 : Int32), h)) else (some ((1 : Int32), h)))
theorem f_X6_works_ok {G : Gd} {d : Nat} (hj : 1 ≤ d) : ∀ (l0 : Nat) (L : List (Nat × Value)) (h : Hp) (o : (Int32 × Hp)), zlk L 0 = some (zrf (l0)) → f_X6_works l0 h = some o → Ev G M_X6_works d 0 L [] h (Ret Y_X6_works (some (.int o.1)) o.2) := by
  intro l0 L h o g0 e
  unfold f_X6_works at e
  refine g_ald_n d_X6_works_0 rfl g0 ?_
  replace e := ckd e
  obtain ⟨k1, e⟩ := e
  refine g_getI d_X6_works_1 (f := 708) k1 fk_5_53 rfl rfl ?_
  refine r_iconst d_X6_works_4 (v := (-1 : Int32)) (by decide +kernel) ?_
  refine r_icmp_eq d_X6_works_5 (tgt := 12) (by decide) (fun c2 => ?_) (fun c2 => ?_)
  · replace e := (if_pos c2).symm.trans e
    refine r_iconst d_X6_works_12 (v := (0 : Int32)) (by decide +kernel) ?_
    obtain rfl := Option.some.inj e
    exact g_iret d_X6_works_13 rfl rfl
  · replace e := (if_neg c2).symm.trans e
    refine r_iconst d_X6_works_8 (v := (1 : Int32)) (by decide +kernel) ?_
    refine r_goto d_X6_works_9 (tgt := 13) (by decide) ?_
    obtain rfl := Option.some.inj e
    exact g_iret d_X6_works_13 rfl rfl

theorem c_X6_works {G : Gd} {j : Nat} (hj : 1 ≤ j) {l0 : Nat} {h : Hp} {o : (Int32 × Hp)} (e : f_X6_works l0 h = some o) : Cal G j Y_X6_works [zrf (l0)] h (some (.int o.1)) o.2 := Cal.of (n := 0) (I := false) (by first | exact Or.inl (by decide +kernel) | exact Or.inr (by decide +kernel)) (by decide) (by simp [lg_sl, zrf_cat, cat_int, cat_long]) (f_X6_works_ok hj _ _ h o (by simp [lv_args, zlk, zrf_cat, cat_int, cat_long]) e)
theorem fk_5_56 : Fk "TaskWeave$Shard" 56 710 := ⟨by decide, by decide, by decide +kernel⟩
def f_X6_row (l0 : Nat) (l1 : Int32) (h : Hp) : Option (Nat × Hp) := if (l1) < (0) then (some (0, h)) else (ck (isO (h) (l0) 7) (if (zI (h) 710 (l0)) ≤ (l1) then (some (0, h)) else (ck (isO (h) (zR (h) 704 (l0)) 28) (ck (inR (l1) (zL (h) (zR (h) 704 (l0)))) (some (zQ (h) (zR (h) 704 (l0)) (l1).toNatClampNeg, h))))))
theorem f_X6_row_ok {G : Gd} {d : Nat} (hj : 1 ≤ d) : ∀ (l0 : Nat) (l1 : Int32) (L : List (Nat × Value)) (h : Hp) (o : (Nat × Hp)), zlk L 0 = some (zrf (l0)) → zlk L 1 = some (.int (l1)) → f_X6_row l0 l1 h = some o → Ev G M_X6_row d 0 L [] h (Ret Y_X6_row (some (zrf o.1)) o.2) := by
  intro l0 l1 L h o g0 g1 e
  unfold f_X6_row at e
  refine r_iload_n d_X6_row_0 rfl g1 ?_
  refine r_if_lt d_X6_row_1 (tgt := 21) (by decide) (fun c1 => ?_) (fun c1 => ?_)
  · replace e := (if_pos c1).symm.trans e
    refine g_null d_X6_row_21 ?_
    obtain rfl := Option.some.inj e
    exact g_aret d_X6_row_22 rfl (Or.inl ⟨_, rfl⟩)
  · replace e := (if_neg c1).symm.trans e
    refine r_iload_n d_X6_row_4 rfl g1 ?_
    refine g_ald_n d_X6_row_5 rfl g0 ?_
    replace e := ckd e
    obtain ⟨k2, e⟩ := e
    refine g_getI d_X6_row_6 (f := 710) k2 fk_5_56 rfl rfl ?_
    refine r_icmp_ge d_X6_row_9 (tgt := 21) (by decide) (fun c3 => ?_) (fun c3 => ?_)
    · replace e := (if_pos c3).symm.trans e
      refine g_null d_X6_row_21 ?_
      obtain rfl := Option.some.inj e
      exact g_aret d_X6_row_22 rfl (Or.inl ⟨_, rfl⟩)
    · replace e := (if_neg c3).symm.trans e
      refine g_ald_n d_X6_row_12 rfl g0 ?_
      refine g_getR d_X6_row_13 (f := 704) k2 fk_5_19 rfl rfl ?_
      refine r_iload_n d_X6_row_16 rfl g1 ?_
      replace e := ckd e
      obtain ⟨k4, e⟩ := e
      replace e := ckd e
      obtain ⟨k5, e⟩ := e
      refine g_aald d_X6_row_17 k4 (by decide) (by decide) k5 rfl ?_
      refine r_goto d_X6_row_18 (tgt := 22) (by decide) ?_
      obtain rfl := Option.some.inj e
      exact g_aret d_X6_row_22 rfl (Or.inl ⟨_, rfl⟩)

theorem c_X6_row {G : Gd} {j : Nat} (hj : 1 ≤ j) {l0 : Nat} {l1 : Int32} {h : Hp} {o : (Nat × Hp)} (e : f_X6_row l0 l1 h = some o) : Cal G j Y_X6_row [zrf (l0), .int (l1)] h (some (zrf o.1)) o.2 := Cal.of (n := 0) (I := false) (by first | exact Or.inl (by decide +kernel) | exact Or.inr (by decide +kernel)) (by decide) (by simp [lg_sl, zrf_cat, cat_int, cat_long]) (f_X6_row_ok hj _ _ _ h o (by simp [lv_args, zlk, zrf_cat, cat_int, cat_long]) (by simp [lv_args, zlk, zrf_cat, cat_int, cat_long]) e)
