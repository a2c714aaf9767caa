abbrev Y_X10_sendSignal : Yx := (⟨"TaskWeave", "sendSignal", "(LTaskWeave$Workflow;I)Z"⟩, prog_1_method_31_code, 8, (some .boolean))
abbrev M_X10_sendSignal : Mx := ("TaskWeave", prog_1_method_31_code, 8, false)
theorem yk_X10_sendSignal : Yk Y_X10_sendSignal 2 := ⟨by decide +kernel, by decide +kernel, ⟨by decide, by decide⟩, by decide +kernel, by decide, trivial⟩
theorem d_X10_sendSignal_0 : decode prog_1_method_31_code 0 = .ok (.aload_n 1, 1) := by decide +kernel
theorem d_X10_sendSignal_1 : decode prog_1_method_31_code 1 = .ok (.getfield 114, 3) := by decide +kernel
theorem d_X10_sendSignal_4 : decode prog_1_method_31_code 4 = .ok (.getfield 229, 3) := by decide +kernel
theorem d_X10_sendSignal_7 : decode prog_1_method_31_code 7 = .ok (.iload_n 2, 1) := by decide +kernel
theorem d_X10_sendSignal_8 : decode prog_1_method_31_code 8 = .ok (.iaload, 1) := by decide +kernel
theorem d_X10_sendSignal_9 : decode prog_1_method_31_code 9 = .ok (.istore_n 3, 1) := by decide +kernel
theorem d_X10_sendSignal_10 : decode prog_1_method_31_code 10 = .ok (.aload_n 0, 1) := by decide +kernel
theorem d_X10_sendSignal_11 : decode prog_1_method_31_code 11 = .ok (.getfield 18, 3) := by decide +kernel
theorem d_X10_sendSignal_14 : decode prog_1_method_31_code 14 = .ok (.aload_n 1, 1) := by decide +kernel
theorem d_X10_sendSignal_15 : decode prog_1_method_31_code 15 = .ok (.iload_n 3, 1) := by decide +kernel
theorem d_X10_sendSignal_16 : decode prog_1_method_31_code 16 = .ok (.invokevirtual 343, 3) := by decide +kernel
theorem d_X10_sendSignal_19 : decode prog_1_method_31_code 19 = .ok (.aaload, 1) := by decide +kernel
theorem d_X10_sendSignal_20 : decode prog_1_method_31_code 20 = .ok (.astore 4, 2) := by decide +kernel
theorem d_X10_sendSignal_22 : decode prog_1_method_31_code 22 = .ok (.aload 4, 2) := by decide +kernel
theorem d_X10_sendSignal_24 : decode prog_1_method_31_code 24 = .ok (.invokevirtual 81, 3) := by decide +kernel
theorem d_X10_sendSignal_27 : decode prog_1_method_31_code 27 = .ok (.ifCond .ne 5, 3) := by decide +kernel
theorem d_X10_sendSignal_30 : decode prog_1_method_31_code 30 = .ok (.iconst 0, 1) := by decide +kernel
theorem d_X10_sendSignal_31 : decode prog_1_method_31_code 31 = .ok (.ireturn, 1) := by decide +kernel
theorem d_X10_sendSignal_32 : decode prog_1_method_31_code 32 = .ok (.iload_n 3, 1) := by decide +kernel
theorem d_X10_sendSignal_33 : decode prog_1_method_31_code 33 = .ok (.iconst (-1), 1) := by decide +kernel
theorem d_X10_sendSignal_34 : decode prog_1_method_31_code 34 = .ok (.if_icmp .ne 14, 3) := by decide +kernel
theorem d_X10_sendSignal_37 : decode prog_1_method_31_code 37 = .ok (.aload_n 0, 1) := by decide +kernel
theorem d_X10_sendSignal_38 : decode prog_1_method_31_code 38 = .ok (.aload_n 1, 1) := by decide +kernel
theorem d_X10_sendSignal_39 : decode prog_1_method_31_code 39 = .ok (.invokevirtual 241, 3) := by decide +kernel
theorem d_X10_sendSignal_42 : decode prog_1_method_31_code 42 = .ok (.invokevirtual 111, 3) := by decide +kernel
theorem d_X10_sendSignal_45 : decode prog_1_method_31_code 45 = .ok (.goto 16, 3) := by decide +kernel
theorem d_X10_sendSignal_48 : decode prog_1_method_31_code 48 = .ok (.aload 4, 2) := by decide +kernel
theorem d_X10_sendSignal_50 : decode prog_1_method_31_code 50 = .ok (.aload_n 1, 1) := by decide +kernel
theorem d_X10_sendSignal_51 : decode prog_1_method_31_code 51 = .ok (.getfield 89, 3) := by decide +kernel
theorem d_X10_sendSignal_54 : decode prog_1_method_31_code 54 = .ok (.iload_n 3, 1) := by decide +kernel
theorem d_X10_sendSignal_55 : decode prog_1_method_31_code 55 = .ok (.invokestatic 337, 3) := by decide +kernel
theorem d_X10_sendSignal_58 : decode prog_1_method_31_code 58 = .ok (.invokevirtual 85, 3) := by decide +kernel
theorem d_X10_sendSignal_61 : decode prog_1_method_31_code 61 = .ok (.astore 5, 2) := by decide +kernel
theorem d_X10_sendSignal_63 : decode prog_1_method_31_code 63 = .ok (.aload_n 1, 1) := by decide +kernel
theorem d_X10_sendSignal_64 : decode prog_1_method_31_code 64 = .ok (.getfield 89, 3) := by decide +kernel
theorem d_X10_sendSignal_67 : decode prog_1_method_31_code 67 = .ok (.iload_n 2, 1) := by decide +kernel
theorem d_X10_sendSignal_68 : decode prog_1_method_31_code 68 = .ok (.invokestatic 337, 3) := by decide +kernel
theorem d_X10_sendSignal_71 : decode prog_1_method_31_code 71 = .ok (.istore 6, 2) := by decide +kernel
theorem d_X10_sendSignal_73 : decode prog_1_method_31_code 73 = .ok (.aload 5, 2) := by decide +kernel
theorem d_X10_sendSignal_75 : decode prog_1_method_31_code 75 = .ok (.ifnull 25, 3) := by decide +kernel
theorem d_X10_sendSignal_78 : decode prog_1_method_31_code 78 = .ok (.aload 5, 2) := by decide +kernel
theorem d_X10_sendSignal_80 : decode prog_1_method_31_code 80 = .ok (.getfield 123, 3) := by decide +kernel
theorem d_X10_sendSignal_83 : decode prog_1_method_31_code 83 = .ok (.iconst 4, 1) := by decide +kernel
theorem d_X10_sendSignal_84 : decode prog_1_method_31_code 84 = .ok (.if_icmp .eq 16, 3) := by decide +kernel
theorem d_X10_sendSignal_87 : decode prog_1_method_31_code 87 = .ok (.aload 5, 2) := by decide +kernel
theorem d_X10_sendSignal_89 : decode prog_1_method_31_code 89 = .ok (.getfield 114, 3) := by decide +kernel
theorem d_X10_sendSignal_92 : decode prog_1_method_31_code 92 = .ok (.iload 6, 2) := by decide +kernel
theorem d_X10_sendSignal_94 : decode prog_1_method_31_code 94 = .ok (.invokevirtual 118, 3) := by decide +kernel
theorem d_X10_sendSignal_97 : decode prog_1_method_31_code 97 = .ok (.ifCond .eq 5, 3) := by decide +kernel
theorem d_X10_sendSignal_100 : decode prog_1_method_31_code 100 = .ok (.iconst 1, 1) := by decide +kernel
theorem d_X10_sendSignal_101 : decode prog_1_method_31_code 101 = .ok (.ireturn, 1) := by decide +kernel
theorem d_X10_sendSignal_102 : decode prog_1_method_31_code 102 = .ok (.aload 4, 2) := by decide +kernel
theorem d_X10_sendSignal_104 : decode prog_1_method_31_code 104 = .ok (.aload 5, 2) := by decide +kernel
theorem d_X10_sendSignal_106 : decode prog_1_method_31_code 106 = .ok (.bipush 8, 2) := by decide +kernel
theorem d_X10_sendSignal_108 : decode prog_1_method_31_code 108 = .ok (.aload_n 1, 1) := by decide +kernel
theorem d_X10_sendSignal_109 : decode prog_1_method_31_code 109 = .ok (.getfield 114, 3) := by decide +kernel
theorem d_X10_sendSignal_112 : decode prog_1_method_31_code 112 = .ok (.getfield 250, 3) := by decide +kernel
theorem d_X10_sendSignal_115 : decode prog_1_method_31_code 115 = .ok (.iload_n 2, 1) := by decide +kernel
theorem d_X10_sendSignal_116 : decode prog_1_method_31_code 116 = .ok (.iaload, 1) := by decide +kernel
theorem d_X10_sendSignal_117 : decode prog_1_method_31_code 117 = .ok (.iconst 0, 1) := by decide +kernel
theorem d_X10_sendSignal_118 : decode prog_1_method_31_code 118 = .ok (.iload 6, 2) := by decide +kernel
theorem d_X10_sendSignal_120 : decode prog_1_method_31_code 120 = .ok (.invokevirtual 126, 3) := by decide +kernel
theorem d_X10_sendSignal_123 : decode prog_1_method_31_code 123 = .ok (.istore 7, 2) := by decide +kernel
theorem d_X10_sendSignal_125 : decode prog_1_method_31_code 125 = .ok (.aload 4, 2) := by decide +kernel
theorem d_X10_sendSignal_127 : decode prog_1_method_31_code 127 = .ok (.invokevirtual 108, 3) := by decide +kernel
theorem d_X10_sendSignal_130 : decode prog_1_method_31_code 130 = .ok (.iload 7, 2) := by decide +kernel
theorem d_X10_sendSignal_132 : decode prog_1_method_31_code 132 = .ok (.ireturn, 1) := by decide +kernel
abbrev Y_X10_sendStart : Yx := (⟨"TaskWeave", "sendStart", "(LTaskWeave$Shard;LTaskWeave$Workflow;I)Z"⟩, prog_1_method_30_code, 9, (some .boolean))
abbrev M_X10_sendStart : Mx := ("TaskWeave", prog_1_method_30_code, 9, false)
theorem yk_X10_sendStart : Yk Y_X10_sendStart 3 := ⟨by decide +kernel, by decide +kernel, ⟨by decide, by decide⟩, by decide +kernel, by decide, trivial⟩
theorem d_X10_sendStart_0 : decode prog_1_method_30_code 0 = .ok (.aload_n 2, 1) := by decide +kernel
theorem d_X10_sendStart_1 : decode prog_1_method_30_code 1 = .ok (.getfield 114, 3) := by decide +kernel
theorem d_X10_sendStart_4 : decode prog_1_method_30_code 4 = .ok (.getfield 229, 3) := by decide +kernel
theorem d_X10_sendStart_7 : decode prog_1_method_30_code 7 = .ok (.iload_n 3, 1) := by decide +kernel
theorem d_X10_sendStart_8 : decode prog_1_method_30_code 8 = .ok (.iaload, 1) := by decide +kernel
theorem d_X10_sendStart_9 : decode prog_1_method_30_code 9 = .ok (.istore 4, 2) := by decide +kernel
theorem d_X10_sendStart_11 : decode prog_1_method_30_code 11 = .ok (.aload_n 0, 1) := by decide +kernel
theorem d_X10_sendStart_12 : decode prog_1_method_30_code 12 = .ok (.getfield 18, 3) := by decide +kernel
theorem d_X10_sendStart_15 : decode prog_1_method_30_code 15 = .ok (.aload_n 1, 1) := by decide +kernel
theorem d_X10_sendStart_16 : decode prog_1_method_30_code 16 = .ok (.getfield 98, 3) := by decide +kernel
theorem d_X10_sendStart_19 : decode prog_1_method_30_code 19 = .ok (.iload 4, 2) := by decide +kernel
theorem d_X10_sendStart_21 : decode prog_1_method_30_code 21 = .ok (.iadd, 1) := by decide +kernel
theorem d_X10_sendStart_22 : decode prog_1_method_30_code 22 = .ok (.iconst 4, 1) := by decide +kernel
theorem d_X10_sendStart_23 : decode prog_1_method_30_code 23 = .ok (.invokestatic 334, 3) := by decide +kernel
theorem d_X10_sendStart_26 : decode prog_1_method_30_code 26 = .ok (.aaload, 1) := by decide +kernel
theorem d_X10_sendStart_27 : decode prog_1_method_30_code 27 = .ok (.astore 5, 2) := by decide +kernel
theorem d_X10_sendStart_29 : decode prog_1_method_30_code 29 = .ok (.aload 5, 2) := by decide +kernel
theorem d_X10_sendStart_31 : decode prog_1_method_30_code 31 = .ok (.invokevirtual 81, 3) := by decide +kernel
theorem d_X10_sendStart_34 : decode prog_1_method_30_code 34 = .ok (.ifCond .ne 5, 3) := by decide +kernel
theorem d_X10_sendStart_37 : decode prog_1_method_30_code 37 = .ok (.iconst 0, 1) := by decide +kernel
theorem d_X10_sendStart_38 : decode prog_1_method_30_code 38 = .ok (.ireturn, 1) := by decide +kernel
theorem d_X10_sendStart_39 : decode prog_1_method_30_code 39 = .ok (.aload_n 2, 1) := by decide +kernel
theorem d_X10_sendStart_40 : decode prog_1_method_30_code 40 = .ok (.getfield 114, 3) := by decide +kernel
theorem d_X10_sendStart_43 : decode prog_1_method_30_code 43 = .ok (.bipush 6, 2) := by decide +kernel
theorem d_X10_sendStart_45 : decode prog_1_method_30_code 45 = .ok (.iload_n 3, 1) := by decide +kernel
theorem d_X10_sendStart_46 : decode prog_1_method_30_code 46 = .ok (.invokevirtual 235, 3) := by decide +kernel
theorem d_X10_sendStart_49 : decode prog_1_method_30_code 49 = .ok (.istore 6, 2) := by decide +kernel
theorem d_X10_sendStart_51 : decode prog_1_method_30_code 51 = .ok (.aload_n 2, 1) := by decide +kernel
theorem d_X10_sendStart_52 : decode prog_1_method_30_code 52 = .ok (.getfield 89, 3) := by decide +kernel
theorem d_X10_sendStart_55 : decode prog_1_method_30_code 55 = .ok (.iload 6, 2) := by decide +kernel
theorem d_X10_sendStart_57 : decode prog_1_method_30_code 57 = .ok (.invokestatic 337, 3) := by decide +kernel
theorem d_X10_sendStart_60 : decode prog_1_method_30_code 60 = .ok (.istore 7, 2) := by decide +kernel
theorem d_X10_sendStart_62 : decode prog_1_method_30_code 62 = .ok (.aload 5, 2) := by decide +kernel
theorem d_X10_sendStart_64 : decode prog_1_method_30_code 64 = .ok (.iload 7, 2) := by decide +kernel
theorem d_X10_sendStart_66 : decode prog_1_method_30_code 66 = .ok (.invokevirtual 85, 3) := by decide +kernel
theorem d_X10_sendStart_69 : decode prog_1_method_30_code 69 = .ok (.ifnonnull 16, 3) := by decide +kernel
theorem d_X10_sendStart_72 : decode prog_1_method_30_code 72 = .ok (.aload_n 2, 1) := by decide +kernel
theorem d_X10_sendStart_73 : decode prog_1_method_30_code 73 = .ok (.getfield 114, 3) := by decide +kernel
theorem d_X10_sendStart_76 : decode prog_1_method_30_code 76 = .ok (.iload 6, 2) := by decide +kernel
theorem d_X10_sendStart_78 : decode prog_1_method_30_code 78 = .ok (.invokevirtual 340, 3) := by decide +kernel
theorem d_X10_sendStart_81 : decode prog_1_method_30_code 81 = .ok (.iconst (-1), 1) := by decide +kernel
theorem d_X10_sendStart_82 : decode prog_1_method_30_code 82 = .ok (.if_icmp .eq 5, 3) := by decide +kernel
theorem d_X10_sendStart_85 : decode prog_1_method_30_code 85 = .ok (.iconst 1, 1) := by decide +kernel
theorem d_X10_sendStart_86 : decode prog_1_method_30_code 86 = .ok (.ireturn, 1) := by decide +kernel
theorem d_X10_sendStart_87 : decode prog_1_method_30_code 87 = .ok (.iconst 1, 1) := by decide +kernel
theorem d_X10_sendStart_88 : decode prog_1_method_30_code 88 = .ok (.istore 8, 2) := by decide +kernel
theorem d_X10_sendStart_90 : decode prog_1_method_30_code 90 = .ok (.aload 5, 2) := by decide +kernel
theorem d_X10_sendStart_92 : decode prog_1_method_30_code 92 = .ok (.iload 4, 2) := by decide +kernel
theorem d_X10_sendStart_94 : decode prog_1_method_30_code 94 = .ok (.invokevirtual 94, 3) := by decide +kernel
theorem d_X10_sendStart_97 : decode prog_1_method_30_code 97 = .ok (.ifCond .eq 31, 3) := by decide +kernel
theorem d_X10_sendStart_100 : decode prog_1_method_30_code 100 = .ok (.aload 5, 2) := by decide +kernel
theorem d_X10_sendStart_102 : decode prog_1_method_30_code 102 = .ok (.iload 4, 2) := by decide +kernel
theorem d_X10_sendStart_104 : decode prog_1_method_30_code 104 = .ok (.aload_n 2, 1) := by decide +kernel
theorem d_X10_sendStart_105 : decode prog_1_method_30_code 105 = .ok (.getfield 114, 3) := by decide +kernel
theorem d_X10_sendStart_108 : decode prog_1_method_30_code 108 = .ok (.getfield 250, 3) := by decide +kernel
theorem d_X10_sendStart_111 : decode prog_1_method_30_code 111 = .ok (.iload_n 3, 1) := by decide +kernel
theorem d_X10_sendStart_112 : decode prog_1_method_30_code 112 = .ok (.iaload, 1) := by decide +kernel
theorem d_X10_sendStart_113 : decode prog_1_method_30_code 113 = .ok (.iload 7, 2) := by decide +kernel
theorem d_X10_sendStart_115 : decode prog_1_method_30_code 115 = .ok (.invokevirtual 104, 3) := by decide +kernel
theorem d_X10_sendStart_118 : decode prog_1_method_30_code 118 = .ok (.istore 8, 2) := by decide +kernel
theorem d_X10_sendStart_120 : decode prog_1_method_30_code 120 = .ok (.aload 5, 2) := by decide +kernel
theorem d_X10_sendStart_122 : decode prog_1_method_30_code 122 = .ok (.invokevirtual 108, 3) := by decide +kernel
theorem d_X10_sendStart_125 : decode prog_1_method_30_code 125 = .ok (.goto 29, 3) := by decide +kernel
theorem d_X10_sendStart_128 : decode prog_1_method_30_code 128 = .ok (.aload_n 2, 1) := by decide +kernel
theorem d_X10_sendStart_129 : decode prog_1_method_30_code 129 = .ok (.getfield 123, 3) := by decide +kernel
theorem d_X10_sendStart_132 : decode prog_1_method_30_code 132 = .ok (.iconst 4, 1) := by decide +kernel
theorem d_X10_sendStart_133 : decode prog_1_method_30_code 133 = .ok (.if_icmp .eq 21, 3) := by decide +kernel
theorem d_X10_sendStart_136 : decode prog_1_method_30_code 136 = .ok (.aload_n 1, 1) := by decide +kernel
theorem d_X10_sendStart_137 : decode prog_1_method_30_code 137 = .ok (.aload_n 2, 1) := by decide +kernel
theorem d_X10_sendStart_138 : decode prog_1_method_30_code 138 = .ok (.bipush 7, 2) := by decide +kernel
theorem d_X10_sendStart_140 : decode prog_1_method_30_code 140 = .ok (.iload 6, 2) := by decide +kernel
theorem d_X10_sendStart_142 : decode prog_1_method_30_code 142 = .ok (.bipush (-3), 2) := by decide +kernel
theorem d_X10_sendStart_144 : decode prog_1_method_30_code 144 = .ok (.iconst 0, 1) := by decide +kernel
theorem d_X10_sendStart_145 : decode prog_1_method_30_code 145 = .ok (.invokevirtual 126, 3) := by decide +kernel
theorem d_X10_sendStart_148 : decode prog_1_method_30_code 148 = .ok (.istore 8, 2) := by decide +kernel
theorem d_X10_sendStart_150 : decode prog_1_method_30_code 150 = .ok (.aload_n 1, 1) := by decide +kernel
theorem d_X10_sendStart_151 : decode prog_1_method_30_code 151 = .ok (.invokevirtual 108, 3) := by decide +kernel
theorem d_X10_sendStart_154 : decode prog_1_method_30_code 154 = .ok (.iload 8, 2) := by decide +kernel
theorem d_X10_sendStart_156 : decode prog_1_method_30_code 156 = .ok (.ireturn, 1) := by decide +kernel
abbrev Y_X10_sendAll : Yx := (⟨"TaskWeave", "sendAll", "(LTaskWeave$Shard;)V"⟩, prog_1_method_29_code, 10, none)
abbrev M_X10_sendAll : Mx := ("TaskWeave", prog_1_method_29_code, 10, false)
theorem yk_X10_sendAll : Yk Y_X10_sendAll 1 := ⟨by decide +kernel, by decide +kernel, ⟨by decide, by decide⟩, by decide +kernel, by decide, trivial⟩
theorem d_X10_sendAll_0 : decode prog_1_method_29_code 0 = .ok (.aload_n 1, 1) := by decide +kernel
theorem d_X10_sendAll_1 : decode prog_1_method_29_code 1 = .ok (.invokevirtual 81, 3) := by decide +kernel
theorem d_X10_sendAll_4 : decode prog_1_method_29_code 4 = .ok (.ifCond .eq 10, 3) := by decide +kernel
theorem d_X10_sendAll_7 : decode prog_1_method_29_code 7 = .ok (.aload_n 1, 1) := by decide +kernel
theorem d_X10_sendAll_8 : decode prog_1_method_29_code 8 = .ok (.invokevirtual 304, 3) := by decide +kernel
theorem d_X10_sendAll_11 : decode prog_1_method_29_code 11 = .ok (.goto 4, 3) := by decide +kernel
theorem d_X10_sendAll_14 : decode prog_1_method_29_code 14 = .ok (.iconst 0, 1) := by decide +kernel
theorem d_X10_sendAll_15 : decode prog_1_method_29_code 15 = .ok (.istore_n 2, 1) := by decide +kernel
theorem d_X10_sendAll_16 : decode prog_1_method_29_code 16 = .ok (.iconst (-1), 1) := by decide +kernel
theorem d_X10_sendAll_17 : decode prog_1_method_29_code 17 = .ok (.istore_n 3, 1) := by decide +kernel
theorem d_X10_sendAll_18 : decode prog_1_method_29_code 18 = .ok (.iconst 0, 1) := by decide +kernel
theorem d_X10_sendAll_19 : decode prog_1_method_29_code 19 = .ok (.istore 4, 2) := by decide +kernel
theorem d_X10_sendAll_21 : decode prog_1_method_29_code 21 = .ok (.iload 4, 2) := by decide +kernel
theorem d_X10_sendAll_23 : decode prog_1_method_29_code 23 = .ok (.iload_n 2, 1) := by decide +kernel
theorem d_X10_sendAll_24 : decode prog_1_method_29_code 24 = .ok (.if_icmp .ge 176, 3) := by decide +kernel
theorem d_X10_sendAll_27 : decode prog_1_method_29_code 27 = .ok (.aload_n 1, 1) := by decide +kernel
theorem d_X10_sendAll_28 : decode prog_1_method_29_code 28 = .ok (.invokevirtual 81, 3) := by decide +kernel
theorem d_X10_sendAll_31 : decode prog_1_method_29_code 31 = .ok (.ifCond .eq 169, 3) := by decide +kernel
theorem d_X10_sendAll_34 : decode prog_1_method_29_code 34 = .ok (.aload_n 1, 1) := by decide +kernel
theorem d_X10_sendAll_35 : decode prog_1_method_29_code 35 = .ok (.getfield 265, 3) := by decide +kernel
theorem d_X10_sendAll_38 : decode prog_1_method_29_code 38 = .ok (.iload_n 3, 1) := by decide +kernel
theorem d_X10_sendAll_39 : decode prog_1_method_29_code 39 = .ok (.invokevirtual 307, 3) := by decide +kernel
theorem d_X10_sendAll_42 : decode prog_1_method_29_code 42 = .ok (.istore 5, 2) := by decide +kernel
theorem d_X10_sendAll_44 : decode prog_1_method_29_code 44 = .ok (.iload 5, 2) := by decide +kernel
theorem d_X10_sendAll_46 : decode prog_1_method_29_code 46 = .ok (.iconst (-1), 1) := by decide +kernel
theorem d_X10_sendAll_47 : decode prog_1_method_29_code 47 = .ok (.if_icmp .ne 7, 3) := by decide +kernel
theorem d_X10_sendAll_50 : decode prog_1_method_29_code 50 = .ok (.aconst_null, 1) := by decide +kernel
theorem d_X10_sendAll_51 : decode prog_1_method_29_code 51 = .ok (.goto 17, 3) := by decide +kernel
theorem d_X10_sendAll_54 : decode prog_1_method_29_code 54 = .ok (.aload_n 1, 1) := by decide +kernel
theorem d_X10_sendAll_55 : decode prog_1_method_29_code 55 = .ok (.aload_n 1, 1) := by decide +kernel
theorem d_X10_sendAll_56 : decode prog_1_method_29_code 56 = .ok (.getfield 265, 3) := by decide +kernel
theorem d_X10_sendAll_59 : decode prog_1_method_29_code 59 = .ok (.getfield 310, 3) := by decide +kernel
theorem d_X10_sendAll_62 : decode prog_1_method_29_code 62 = .ok (.iload 5, 2) := by decide +kernel
theorem d_X10_sendAll_64 : decode prog_1_method_29_code 64 = .ok (.iaload, 1) := by decide +kernel
theorem d_X10_sendAll_65 : decode prog_1_method_29_code 65 = .ok (.invokevirtual 280, 3) := by decide +kernel
theorem d_X10_sendAll_68 : decode prog_1_method_29_code 68 = .ok (.astore 6, 2) := by decide +kernel
theorem d_X10_sendAll_70 : decode prog_1_method_29_code 70 = .ok (.aload 6, 2) := by decide +kernel
theorem d_X10_sendAll_72 : decode prog_1_method_29_code 72 = .ok (.ifnull 17, 3) := by decide +kernel
theorem d_X10_sendAll_75 : decode prog_1_method_29_code 75 = .ok (.aload_n 1, 1) := by decide +kernel
theorem d_X10_sendAll_76 : decode prog_1_method_29_code 76 = .ok (.getfield 265, 3) := by decide +kernel
theorem d_X10_sendAll_79 : decode prog_1_method_29_code 79 = .ok (.getfield 313, 3) := by decide +kernel
theorem d_X10_sendAll_82 : decode prog_1_method_29_code 82 = .ok (.iload 5, 2) := by decide +kernel
theorem d_X10_sendAll_84 : decode prog_1_method_29_code 84 = .ok (.iaload, 1) := by decide +kernel
theorem d_X10_sendAll_85 : decode prog_1_method_29_code 85 = .ok (.iload_n 2, 1) := by decide +kernel
theorem d_X10_sendAll_86 : decode prog_1_method_29_code 86 = .ok (.if_icmp .lt 4, 3) := by decide +kernel
theorem d_X10_sendAll_89 : decode prog_1_method_29_code 89 = .ok (.return_, 1) := by decide +kernel
theorem d_X10_sendAll_90 : decode prog_1_method_29_code 90 = .ok (.aload_n 1, 1) := by decide +kernel
theorem d_X10_sendAll_91 : decode prog_1_method_29_code 91 = .ok (.getfield 265, 3) := by decide +kernel
theorem d_X10_sendAll_94 : decode prog_1_method_29_code 94 = .ok (.getfield 313, 3) := by decide +kernel
theorem d_X10_sendAll_97 : decode prog_1_method_29_code 97 = .ok (.iload 5, 2) := by decide +kernel
theorem d_X10_sendAll_99 : decode prog_1_method_29_code 99 = .ok (.iaload, 1) := by decide +kernel
theorem d_X10_sendAll_100 : decode prog_1_method_29_code 100 = .ok (.istore_n 3, 1) := by decide +kernel
theorem d_X10_sendAll_101 : decode prog_1_method_29_code 101 = .ok (.aload_n 1, 1) := by decide +kernel
theorem d_X10_sendAll_102 : decode prog_1_method_29_code 102 = .ok (.getfield 265, 3) := by decide +kernel
theorem d_X10_sendAll_105 : decode prog_1_method_29_code 105 = .ok (.getfield 316, 3) := by decide +kernel
theorem d_X10_sendAll_108 : decode prog_1_method_29_code 108 = .ok (.iload 5, 2) := by decide +kernel
theorem d_X10_sendAll_110 : decode prog_1_method_29_code 110 = .ok (.iaload, 1) := by decide +kernel
theorem d_X10_sendAll_111 : decode prog_1_method_29_code 111 = .ok (.istore 7, 2) := by decide +kernel
theorem d_X10_sendAll_113 : decode prog_1_method_29_code 113 = .ok (.aload 6, 2) := by decide +kernel
theorem d_X10_sendAll_115 : decode prog_1_method_29_code 115 = .ok (.getfield 114, 3) := by decide +kernel
theorem d_X10_sendAll_118 : decode prog_1_method_29_code 118 = .ok (.getfield 247, 3) := by decide +kernel
theorem d_X10_sendAll_121 : decode prog_1_method_29_code 121 = .ok (.iload 7, 2) := by decide +kernel
theorem d_X10_sendAll_123 : decode prog_1_method_29_code 123 = .ok (.iaload, 1) := by decide +kernel
theorem d_X10_sendAll_124 : decode prog_1_method_29_code 124 = .ok (.istore 8, 2) := by decide +kernel
theorem d_X10_sendAll_126 : decode prog_1_method_29_code 126 = .ok (.iload 8, 2) := by decide +kernel
theorem d_X10_sendAll_128 : decode prog_1_method_29_code 128 = .ok (.bipush 6, 2) := by decide +kernel
theorem d_X10_sendAll_130 : decode prog_1_method_29_code 130 = .ok (.if_icmp .ne 15, 3) := by decide +kernel
theorem d_X10_sendAll_133 : decode prog_1_method_29_code 133 = .ok (.aload_n 0, 1) := by decide +kernel
theorem d_X10_sendAll_134 : decode prog_1_method_29_code 134 = .ok (.aload_n 1, 1) := by decide +kernel
theorem d_X10_sendAll_135 : decode prog_1_method_29_code 135 = .ok (.aload 6, 2) := by decide +kernel
theorem d_X10_sendAll_137 : decode prog_1_method_29_code 137 = .ok (.iload 7, 2) := by decide +kernel
theorem d_X10_sendAll_139 : decode prog_1_method_29_code 139 = .ok (.invokevirtual 319, 3) := by decide +kernel
theorem d_X10_sendAll_142 : decode prog_1_method_29_code 142 = .ok (.goto 29, 3) := by decide +kernel
theorem d_X10_sendAll_145 : decode prog_1_method_29_code 145 = .ok (.iload 8, 2) := by decide +kernel
theorem d_X10_sendAll_147 : decode prog_1_method_29_code 147 = .ok (.bipush 9, 2) := by decide +kernel
theorem d_X10_sendAll_149 : decode prog_1_method_29_code 149 = .ok (.if_icmp .ne 14, 3) := by decide +kernel
theorem d_X10_sendAll_152 : decode prog_1_method_29_code 152 = .ok (.aload_n 0, 1) := by decide +kernel
theorem d_X10_sendAll_153 : decode prog_1_method_29_code 153 = .ok (.aload 6, 2) := by decide +kernel
theorem d_X10_sendAll_155 : decode prog_1_method_29_code 155 = .ok (.iload 7, 2) := by decide +kernel
theorem d_X10_sendAll_157 : decode prog_1_method_29_code 157 = .ok (.invokevirtual 323, 3) := by decide +kernel
theorem d_X10_sendAll_160 : decode prog_1_method_29_code 160 = .ok (.goto 11, 3) := by decide +kernel
theorem d_X10_sendAll_163 : decode prog_1_method_29_code 163 = .ok (.aload_n 0, 1) := by decide +kernel
theorem d_X10_sendAll_164 : decode prog_1_method_29_code 164 = .ok (.aload 6, 2) := by decide +kernel
theorem d_X10_sendAll_166 : decode prog_1_method_29_code 166 = .ok (.iload 7, 2) := by decide +kernel
theorem d_X10_sendAll_168 : decode prog_1_method_29_code 168 = .ok (.invokevirtual 327, 3) := by decide +kernel
theorem d_X10_sendAll_171 : decode prog_1_method_29_code 171 = .ok (.istore 9, 2) := by decide +kernel
theorem d_X10_sendAll_173 : decode prog_1_method_29_code 173 = .ok (.iload 9, 2) := by decide +kernel
theorem d_X10_sendAll_175 : decode prog_1_method_29_code 175 = .ok (.ifCond .eq 19, 3) := by decide +kernel
theorem d_X10_sendAll_178 : decode prog_1_method_29_code 178 = .ok (.aload_n 1, 1) := by decide +kernel
theorem d_X10_sendAll_179 : decode prog_1_method_29_code 179 = .ok (.invokevirtual 81, 3) := by decide +kernel
theorem d_X10_sendAll_182 : decode prog_1_method_29_code 182 = .ok (.ifCond .eq 12, 3) := by decide +kernel
theorem d_X10_sendAll_185 : decode prog_1_method_29_code 185 = .ok (.aload_n 1, 1) := by decide +kernel
theorem d_X10_sendAll_186 : decode prog_1_method_29_code 186 = .ok (.iload_n 3, 1) := by decide +kernel
theorem d_X10_sendAll_187 : decode prog_1_method_29_code 187 = .ok (.invokevirtual 330, 3) := by decide +kernel
theorem d_X10_sendAll_190 : decode prog_1_method_29_code 190 = .ok (.aload_n 1, 1) := by decide +kernel
theorem d_X10_sendAll_191 : decode prog_1_method_29_code 191 = .ok (.invokevirtual 108, 3) := by decide +kernel
theorem d_X10_sendAll_194 : decode prog_1_method_29_code 194 = .ok (.iinc 4 1, 3) := by decide +kernel
theorem d_X10_sendAll_197 : decode prog_1_method_29_code 197 = .ok (.goto (-176), 3) := by decide +kernel
theorem d_X10_sendAll_200 : decode prog_1_method_29_code 200 = .ok (.return_, 1) := by decide +kernel
abbrev Y_X11_fresh : Yx := (⟨"TaskWeaveModel", "fresh", "(II)V"⟩, prog_13_method_5_code, 4, none)
abbrev M_X11_fresh : Mx := ("TaskWeaveModel", prog_13_method_5_code, 4, false)
theorem yk_X11_fresh : Yk Y_X11_fresh 2 := ⟨by decide +kernel, by decide +kernel, ⟨by decide, by decide⟩, by decide +kernel, by decide, trivial⟩
theorem d_X11_fresh_0 : decode prog_13_method_5_code 0 = .ok (.aload_n 0, 1) := by decide +kernel
theorem d_X11_fresh_1 : decode prog_13_method_5_code 1 = .ok (.getfield 98, 3) := by decide +kernel
theorem d_X11_fresh_4 : decode prog_13_method_5_code 4 = .ok (.iload_n 1, 1) := by decide +kernel
theorem d_X11_fresh_5 : decode prog_13_method_5_code 5 = .ok (.iload_n 2, 1) := by decide +kernel
theorem d_X11_fresh_6 : decode prog_13_method_5_code 6 = .ok (.iastore, 1) := by decide +kernel
theorem d_X11_fresh_7 : decode prog_13_method_5_code 7 = .ok (.aload_n 0, 1) := by decide +kernel
theorem d_X11_fresh_8 : decode prog_13_method_5_code 8 = .ok (.getfield 101, 3) := by decide +kernel
theorem d_X11_fresh_11 : decode prog_13_method_5_code 11 = .ok (.iload_n 1, 1) := by decide +kernel
theorem d_X11_fresh_12 : decode prog_13_method_5_code 12 = .ok (.iconst 0, 1) := by decide +kernel
theorem d_X11_fresh_13 : decode prog_13_method_5_code 13 = .ok (.iastore, 1) := by decide +kernel
theorem d_X11_fresh_14 : decode prog_13_method_5_code 14 = .ok (.iconst 5, 1) := by decide +kernel
theorem d_X11_fresh_15 : decode prog_13_method_5_code 15 = .ok (.iload_n 1, 1) := by decide +kernel
theorem d_X11_fresh_16 : decode prog_13_method_5_code 16 = .ok (.imul, 1) := by decide +kernel
theorem d_X11_fresh_17 : decode prog_13_method_5_code 17 = .ok (.istore_n 3, 1) := by decide +kernel
theorem d_X11_fresh_18 : decode prog_13_method_5_code 18 = .ok (.iload_n 3, 1) := by decide +kernel
theorem d_X11_fresh_19 : decode prog_13_method_5_code 19 = .ok (.iconst 5, 1) := by decide +kernel
theorem d_X11_fresh_20 : decode prog_13_method_5_code 20 = .ok (.iload_n 1, 1) := by decide +kernel
theorem d_X11_fresh_21 : decode prog_13_method_5_code 21 = .ok (.imul, 1) := by decide +kernel
theorem d_X11_fresh_22 : decode prog_13_method_5_code 22 = .ok (.iconst 5, 1) := by decide +kernel
theorem d_X11_fresh_23 : decode prog_13_method_5_code 23 = .ok (.iadd, 1) := by decide +kernel
theorem d_X11_fresh_24 : decode prog_13_method_5_code 24 = .ok (.if_icmp .ge 43, 3) := by decide +kernel
theorem d_X11_fresh_27 : decode prog_13_method_5_code 27 = .ok (.aload_n 0, 1) := by decide +kernel
theorem d_X11_fresh_28 : decode prog_13_method_5_code 28 = .ok (.getfield 92, 3) := by decide +kernel
theorem d_X11_fresh_31 : decode prog_13_method_5_code 31 = .ok (.iload_n 3, 1) := by decide +kernel
theorem d_X11_fresh_32 : decode prog_13_method_5_code 32 = .ok (.iload_n 3, 1) := by decide +kernel
theorem d_X11_fresh_33 : decode prog_13_method_5_code 33 = .ok (.iconst 5, 1) := by decide +kernel
theorem d_X11_fresh_34 : decode prog_13_method_5_code 34 = .ok (.iload_n 1, 1) := by decide +kernel
theorem d_X11_fresh_35 : decode prog_13_method_5_code 35 = .ok (.imul, 1) := by decide +kernel
theorem d_X11_fresh_36 : decode prog_13_method_5_code 36 = .ok (.iload_n 2, 1) := by decide +kernel
theorem d_X11_fresh_37 : decode prog_13_method_5_code 37 = .ok (.iadd, 1) := by decide +kernel
theorem d_X11_fresh_38 : decode prog_13_method_5_code 38 = .ok (.if_icmp .ge 7, 3) := by decide +kernel
theorem d_X11_fresh_41 : decode prog_13_method_5_code 41 = .ok (.iconst 1, 1) := by decide +kernel
theorem d_X11_fresh_42 : decode prog_13_method_5_code 42 = .ok (.goto 4, 3) := by decide +kernel
theorem d_X11_fresh_45 : decode prog_13_method_5_code 45 = .ok (.iconst 0, 1) := by decide +kernel
theorem d_X11_fresh_46 : decode prog_13_method_5_code 46 = .ok (.bastore, 1) := by decide +kernel
theorem d_X11_fresh_47 : decode prog_13_method_5_code 47 = .ok (.aload_n 0, 1) := by decide +kernel
theorem d_X11_fresh_48 : decode prog_13_method_5_code 48 = .ok (.getfield 95, 3) := by decide +kernel
theorem d_X11_fresh_51 : decode prog_13_method_5_code 51 = .ok (.iload_n 3, 1) := by decide +kernel
theorem d_X11_fresh_52 : decode prog_13_method_5_code 52 = .ok (.iconst (-1), 1) := by decide +kernel
theorem d_X11_fresh_53 : decode prog_13_method_5_code 53 = .ok (.iastore, 1) := by decide +kernel
theorem d_X11_fresh_54 : decode prog_13_method_5_code 54 = .ok (.aload_n 0, 1) := by decide +kernel
theorem d_X11_fresh_55 : decode prog_13_method_5_code 55 = .ok (.getfield 86, 3) := by decide +kernel
theorem d_X11_fresh_58 : decode prog_13_method_5_code 58 = .ok (.iload_n 3, 1) := by decide +kernel
theorem d_X11_fresh_59 : decode prog_13_method_5_code 59 = .ok (.iconst 0, 1) := by decide +kernel
theorem d_X11_fresh_60 : decode prog_13_method_5_code 60 = .ok (.iastore, 1) := by decide +kernel
theorem d_X11_fresh_61 : decode prog_13_method_5_code 61 = .ok (.iinc 3 1, 3) := by decide +kernel
theorem d_X11_fresh_64 : decode prog_13_method_5_code 64 = .ok (.goto (-46), 3) := by decide +kernel
theorem d_X11_fresh_67 : decode prog_13_method_5_code 67 = .ok (.return_, 1) := by decide +kernel
abbrev Y_X11_init : Yx := (⟨"TaskWeaveModel", "<init>", "()V"⟩, prog_13_method_1_code, 2, none)
abbrev M_X11_init : Mx := ("TaskWeaveModel", prog_13_method_1_code, 2, true)
theorem yk_X11_init : Yk Y_X11_init 0 := ⟨by decide +kernel, by decide +kernel, ⟨by decide, by decide⟩, by decide +kernel, by decide, trivial⟩
theorem d_X11_init_0 : decode prog_13_method_1_code 0 = .ok (.aload_n 0, 1) := by decide +kernel
theorem d_X11_init_1 : decode prog_13_method_1_code 1 = .ok (.invokespecial 1, 3) := by decide +kernel
theorem d_X11_init_4 : decode prog_13_method_1_code 4 = .ok (.aload_n 0, 1) := by decide +kernel
theorem d_X11_init_5 : decode prog_13_method_1_code 5 = .ok (.sipush 300, 3) := by decide +kernel
theorem d_X11_init_8 : decode prog_13_method_1_code 8 = .ok (.newarray .int, 2) := by decide +kernel
theorem d_X11_init_10 : decode prog_13_method_1_code 10 = .ok (.putfield 7, 3) := by decide +kernel
theorem d_X11_init_13 : decode prog_13_method_1_code 13 = .ok (.aload_n 0, 1) := by decide +kernel
theorem d_X11_init_14 : decode prog_13_method_1_code 14 = .ok (.iconst (-1), 1) := by decide +kernel
theorem d_X11_init_15 : decode prog_13_method_1_code 15 = .ok (.putfield 13, 3) := by decide +kernel
theorem d_X11_init_18 : decode prog_13_method_1_code 18 = .ok (.aload_n 0, 1) := by decide +kernel
theorem d_X11_init_19 : decode prog_13_method_1_code 19 = .ok (.sipush 4100, 3) := by decide +kernel
theorem d_X11_init_22 : decode prog_13_method_1_code 22 = .ok (.newarray .int, 2) := by decide +kernel
theorem d_X11_init_24 : decode prog_13_method_1_code 24 = .ok (.putfield 17, 3) := by decide +kernel
theorem d_X11_init_27 : decode prog_13_method_1_code 27 = .ok (.aload_n 0, 1) := by decide +kernel
theorem d_X11_init_28 : decode prog_13_method_1_code 28 = .ok (.sipush 4100, 3) := by decide +kernel
theorem d_X11_init_31 : decode prog_13_method_1_code 31 = .ok (.newarray .int, 2) := by decide +kernel
theorem d_X11_init_33 : decode prog_13_method_1_code 33 = .ok (.putfield 20, 3) := by decide +kernel
theorem d_X11_init_36 : decode prog_13_method_1_code 36 = .ok (.aload_n 0, 1) := by decide +kernel
theorem d_X11_init_37 : decode prog_13_method_1_code 37 = .ok (.sipush 4100, 3) := by decide +kernel
theorem d_X11_init_40 : decode prog_13_method_1_code 40 = .ok (.newarray .int, 2) := by decide +kernel
theorem d_X11_init_42 : decode prog_13_method_1_code 42 = .ok (.putfield 23, 3) := by decide +kernel
theorem d_X11_init_45 : decode prog_13_method_1_code 45 = .ok (.aload_n 0, 1) := by decide +kernel
theorem d_X11_init_46 : decode prog_13_method_1_code 46 = .ok (.sipush 4100, 3) := by decide +kernel
theorem d_X11_init_49 : decode prog_13_method_1_code 49 = .ok (.newarray .int, 2) := by decide +kernel
theorem d_X11_init_51 : decode prog_13_method_1_code 51 = .ok (.putfield 26, 3) := by decide +kernel
theorem d_X11_init_54 : decode prog_13_method_1_code 54 = .ok (.aload_n 0, 1) := by decide +kernel
theorem d_X11_init_55 : decode prog_13_method_1_code 55 = .ok (.bipush 8, 2) := by decide +kernel
theorem d_X11_init_57 : decode prog_13_method_1_code 57 = .ok (.newarray .int, 2) := by decide +kernel
theorem d_X11_init_59 : decode prog_13_method_1_code 59 = .ok (.putfield 29, 3) := by decide +kernel
theorem d_X11_init_62 : decode prog_13_method_1_code 62 = .ok (.aload_n 0, 1) := by decide +kernel
theorem d_X11_init_63 : decode prog_13_method_1_code 63 = .ok (.bipush 8, 2) := by decide +kernel
theorem d_X11_init_65 : decode prog_13_method_1_code 65 = .ok (.newarray .int, 2) := by decide +kernel
theorem d_X11_init_67 : decode prog_13_method_1_code 67 = .ok (.putfield 32, 3) := by decide +kernel
theorem d_X11_init_70 : decode prog_13_method_1_code 70 = .ok (.aload_n 0, 1) := by decide +kernel
theorem d_X11_init_71 : decode prog_13_method_1_code 71 = .ok (.sipush 11100, 3) := by decide +kernel
theorem d_X11_init_74 : decode prog_13_method_1_code 74 = .ok (.newarray .int, 2) := by decide +kernel
theorem d_X11_init_76 : decode prog_13_method_1_code 76 = .ok (.putfield 35, 3) := by decide +kernel
theorem d_X11_init_79 : decode prog_13_method_1_code 79 = .ok (.aload_n 0, 1) := by decide +kernel
theorem d_X11_init_80 : decode prog_13_method_1_code 80 = .ok (.sipush 11100, 3) := by decide +kernel
theorem d_X11_init_83 : decode prog_13_method_1_code 83 = .ok (.newarray .int, 2) := by decide +kernel
theorem d_X11_init_85 : decode prog_13_method_1_code 85 = .ok (.putfield 38, 3) := by decide +kernel
theorem d_X11_init_88 : decode prog_13_method_1_code 88 = .ok (.aload_n 0, 1) := by decide +kernel
theorem d_X11_init_89 : decode prog_13_method_1_code 89 = .ok (.sipush 11100, 3) := by decide +kernel
theorem d_X11_init_92 : decode prog_13_method_1_code 92 = .ok (.newarray .boolean, 2) := by decide +kernel
theorem d_X11_init_94 : decode prog_13_method_1_code 94 = .ok (.putfield 41, 3) := by decide +kernel
theorem d_X11_init_97 : decode prog_13_method_1_code 97 = .ok (.aload_n 0, 1) := by decide +kernel
theorem d_X11_init_98 : decode prog_13_method_1_code 98 = .ok (.sipush 11100, 3) := by decide +kernel
theorem d_X11_init_101 : decode prog_13_method_1_code 101 = .ok (.newarray .int, 2) := by decide +kernel
theorem d_X11_init_103 : decode prog_13_method_1_code 103 = .ok (.putfield 45, 3) := by decide +kernel
theorem d_X11_init_106 : decode prog_13_method_1_code 106 = .ok (.aload_n 0, 1) := by decide +kernel
theorem d_X11_init_107 : decode prog_13_method_1_code 107 = .ok (.sipush 11100, 3) := by decide +kernel
theorem d_X11_init_110 : decode prog_13_method_1_code 110 = .ok (.newarray .boolean, 2) := by decide +kernel
theorem d_X11_init_112 : decode prog_13_method_1_code 112 = .ok (.putfield 48, 3) := by decide +kernel
theorem d_X11_init_115 : decode prog_13_method_1_code 115 = .ok (.aload_n 0, 1) := by decide +kernel
theorem d_X11_init_116 : decode prog_13_method_1_code 116 = .ok (.sipush 11100, 3) := by decide +kernel
theorem d_X11_init_119 : decode prog_13_method_1_code 119 = .ok (.newarray .int, 2) := by decide +kernel
theorem d_X11_init_121 : decode prog_13_method_1_code 121 = .ok (.putfield 51, 3) := by decide +kernel
theorem d_X11_init_124 : decode prog_13_method_1_code 124 = .ok (.aload_n 0, 1) := by decide +kernel
theorem d_X11_init_125 : decode prog_13_method_1_code 125 = .ok (.sipush 11100, 3) := by decide +kernel
theorem d_X11_init_128 : decode prog_13_method_1_code 128 = .ok (.newarray .int, 2) := by decide +kernel
theorem d_X11_init_130 : decode prog_13_method_1_code 130 = .ok (.putfield 54, 3) := by decide +kernel
theorem d_X11_init_133 : decode prog_13_method_1_code 133 = .ok (.aload_n 0, 1) := by decide +kernel
theorem d_X11_init_134 : decode prog_13_method_1_code 134 = .ok (.sipush 11100, 3) := by decide +kernel
theorem d_X11_init_137 : decode prog_13_method_1_code 137 = .ok (.newarray .int, 2) := by decide +kernel
theorem d_X11_init_139 : decode prog_13_method_1_code 139 = .ok (.putfield 57, 3) := by decide +kernel
theorem d_X11_init_142 : decode prog_13_method_1_code 142 = .ok (.aload_n 0, 1) := by decide +kernel
theorem d_X11_init_143 : decode prog_13_method_1_code 143 = .ok (.bipush 10, 2) := by decide +kernel
theorem d_X11_init_145 : decode prog_13_method_1_code 145 = .ok (.newarray .int, 2) := by decide +kernel
theorem d_X11_init_147 : decode prog_13_method_1_code 147 = .ok (.putfield 60, 3) := by decide +kernel
theorem d_X11_init_150 : decode prog_13_method_1_code 150 = .ok (.aload_n 0, 1) := by decide +kernel
theorem d_X11_init_151 : decode prog_13_method_1_code 151 = .ok (.ldc 63, 2) := by decide +kernel
theorem d_X11_init_153 : decode prog_13_method_1_code 153 = .ok (.newarray .int, 2) := by decide +kernel
theorem d_X11_init_155 : decode prog_13_method_1_code 155 = .ok (.putfield 64, 3) := by decide +kernel
theorem d_X11_init_158 : decode prog_13_method_1_code 158 = .ok (.aload_n 0, 1) := by decide +kernel
theorem d_X11_init_159 : decode prog_13_method_1_code 159 = .ok (.ldc 63, 2) := by decide +kernel
theorem d_X11_init_161 : decode prog_13_method_1_code 161 = .ok (.newarray .int, 2) := by decide +kernel
theorem d_X11_init_163 : decode prog_13_method_1_code 163 = .ok (.putfield 67, 3) := by decide +kernel
theorem d_X11_init_166 : decode prog_13_method_1_code 166 = .ok (.aload_n 0, 1) := by decide +kernel
theorem d_X11_init_167 : decode prog_13_method_1_code 167 = .ok (.ldc 63, 2) := by decide +kernel
theorem d_X11_init_169 : decode prog_13_method_1_code 169 = .ok (.newarray .int, 2) := by decide +kernel
theorem d_X11_init_171 : decode prog_13_method_1_code 171 = .ok (.putfield 70, 3) := by decide +kernel
theorem d_X11_init_174 : decode prog_13_method_1_code 174 = .ok (.aload_n 0, 1) := by decide +kernel
theorem d_X11_init_175 : decode prog_13_method_1_code 175 = .ok (.ldc 63, 2) := by decide +kernel
theorem d_X11_init_177 : decode prog_13_method_1_code 177 = .ok (.newarray .int, 2) := by decide +kernel
theorem d_X11_init_179 : decode prog_13_method_1_code 179 = .ok (.putfield 73, 3) := by decide +kernel
theorem d_X11_init_182 : decode prog_13_method_1_code 182 = .ok (.aload_n 0, 1) := by decide +kernel
theorem d_X11_init_183 : decode prog_13_method_1_code 183 = .ok (.ldc 63, 2) := by decide +kernel
theorem d_X11_init_185 : decode prog_13_method_1_code 185 = .ok (.newarray .int, 2) := by decide +kernel
theorem d_X11_init_187 : decode prog_13_method_1_code 187 = .ok (.putfield 76, 3) := by decide +kernel
theorem d_X11_init_190 : decode prog_13_method_1_code 190 = .ok (.aload_n 0, 1) := by decide +kernel
theorem d_X11_init_191 : decode prog_13_method_1_code 191 = .ok (.ldc 79, 2) := by decide +kernel
theorem d_X11_init_193 : decode prog_13_method_1_code 193 = .ok (.newarray .int, 2) := by decide +kernel
theorem d_X11_init_195 : decode prog_13_method_1_code 195 = .ok (.putfield 80, 3) := by decide +kernel
theorem d_X11_init_198 : decode prog_13_method_1_code 198 = .ok (.aload_n 0, 1) := by decide +kernel
theorem d_X11_init_199 : decode prog_13_method_1_code 199 = .ok (.bipush 20, 2) := by decide +kernel
theorem d_X11_init_201 : decode prog_13_method_1_code 201 = .ok (.newarray .int, 2) := by decide +kernel
theorem d_X11_init_203 : decode prog_13_method_1_code 203 = .ok (.putfield 83, 3) := by decide +kernel
theorem d_X11_init_206 : decode prog_13_method_1_code 206 = .ok (.aload_n 0, 1) := by decide +kernel
theorem d_X11_init_207 : decode prog_13_method_1_code 207 = .ok (.bipush 20, 2) := by decide +kernel
theorem d_X11_init_209 : decode prog_13_method_1_code 209 = .ok (.newarray .int, 2) := by decide +kernel
theorem d_X11_init_211 : decode prog_13_method_1_code 211 = .ok (.putfield 86, 3) := by decide +kernel
theorem d_X11_init_214 : decode prog_13_method_1_code 214 = .ok (.aload_n 0, 1) := by decide +kernel
theorem d_X11_init_215 : decode prog_13_method_1_code 215 = .ok (.bipush 20, 2) := by decide +kernel
theorem d_X11_init_217 : decode prog_13_method_1_code 217 = .ok (.newarray .int, 2) := by decide +kernel
theorem d_X11_init_219 : decode prog_13_method_1_code 219 = .ok (.putfield 89, 3) := by decide +kernel
theorem d_X11_init_222 : decode prog_13_method_1_code 222 = .ok (.aload_n 0, 1) := by decide +kernel
theorem d_X11_init_223 : decode prog_13_method_1_code 223 = .ok (.bipush 20, 2) := by decide +kernel
theorem d_X11_init_225 : decode prog_13_method_1_code 225 = .ok (.newarray .boolean, 2) := by decide +kernel
theorem d_X11_init_227 : decode prog_13_method_1_code 227 = .ok (.putfield 92, 3) := by decide +kernel
theorem d_X11_init_230 : decode prog_13_method_1_code 230 = .ok (.aload_n 0, 1) := by decide +kernel
theorem d_X11_init_231 : decode prog_13_method_1_code 231 = .ok (.bipush 20, 2) := by decide +kernel
theorem d_X11_init_233 : decode prog_13_method_1_code 233 = .ok (.newarray .int, 2) := by decide +kernel
theorem d_X11_init_235 : decode prog_13_method_1_code 235 = .ok (.putfield 95, 3) := by decide +kernel
theorem d_X11_init_238 : decode prog_13_method_1_code 238 = .ok (.aload_n 0, 1) := by decide +kernel
theorem d_X11_init_239 : decode prog_13_method_1_code 239 = .ok (.iconst 4, 1) := by decide +kernel
theorem d_X11_init_240 : decode prog_13_method_1_code 240 = .ok (.newarray .int, 2) := by decide +kernel
theorem d_X11_init_242 : decode prog_13_method_1_code 242 = .ok (.putfield 98, 3) := by decide +kernel
theorem d_X11_init_245 : decode prog_13_method_1_code 245 = .ok (.aload_n 0, 1) := by decide +kernel
theorem d_X11_init_246 : decode prog_13_method_1_code 246 = .ok (.iconst 4, 1) := by decide +kernel
theorem d_X11_init_247 : decode prog_13_method_1_code 247 = .ok (.newarray .int, 2) := by decide +kernel
theorem d_X11_init_249 : decode prog_13_method_1_code 249 = .ok (.putfield 101, 3) := by decide +kernel
theorem d_X11_init_252 : decode prog_13_method_1_code 252 = .ok (.aload_n 0, 1) := by decide +kernel
theorem d_X11_init_253 : decode prog_13_method_1_code 253 = .ok (.iconst 4, 1) := by decide +kernel
theorem d_X11_init_254 : decode prog_13_method_1_code 254 = .ok (.newarray .int, 2) := by decide +kernel
theorem d_X11_init_256 : decode prog_13_method_1_code 256 = .ok (.putfield 104, 3) := by decide +kernel
theorem d_X11_init_259 : decode prog_13_method_1_code 259 = .ok (.aload_n 0, 1) := by decide +kernel
theorem d_X11_init_260 : decode prog_13_method_1_code 260 = .ok (.iconst 4, 1) := by decide +kernel
theorem d_X11_init_261 : decode prog_13_method_1_code 261 = .ok (.newarray .int, 2) := by decide +kernel
theorem d_X11_init_263 : decode prog_13_method_1_code 263 = .ok (.putfield 107, 3) := by decide +kernel
theorem d_X11_init_266 : decode prog_13_method_1_code 266 = .ok (.aload_n 0, 1) := by decide +kernel
theorem d_X11_init_267 : decode prog_13_method_1_code 267 = .ok (.sipush 3840, 3) := by decide +kernel
theorem d_X11_init_270 : decode prog_13_method_1_code 270 = .ok (.newarray .int, 2) := by decide +kernel
theorem d_X11_init_272 : decode prog_13_method_1_code 272 = .ok (.putfield 110, 3) := by decide +kernel
theorem d_X11_init_275 : decode prog_13_method_1_code 275 = .ok (.aload_n 0, 1) := by decide +kernel
theorem d_X11_init_276 : decode prog_13_method_1_code 276 = .ok (.bipush 64, 2) := by decide +kernel
theorem d_X11_init_278 : decode prog_13_method_1_code 278 = .ok (.newarray .int, 2) := by decide +kernel
theorem d_X11_init_280 : decode prog_13_method_1_code 280 = .ok (.putfield 113, 3) := by decide +kernel
theorem d_X11_init_283 : decode prog_13_method_1_code 283 = .ok (.aload_n 0, 1) := by decide +kernel
theorem d_X11_init_284 : decode prog_13_method_1_code 284 = .ok (.bipush 64, 2) := by decide +kernel
theorem d_X11_init_286 : decode prog_13_method_1_code 286 = .ok (.newarray .int, 2) := by decide +kernel
theorem d_X11_init_288 : decode prog_13_method_1_code 288 = .ok (.putfield 116, 3) := by decide +kernel
theorem d_X11_init_291 : decode prog_13_method_1_code 291 = .ok (.aload_n 0, 1) := by decide +kernel
theorem d_X11_init_292 : decode prog_13_method_1_code 292 = .ok (.bipush 64, 2) := by decide +kernel
theorem d_X11_init_294 : decode prog_13_method_1_code 294 = .ok (.newarray .int, 2) := by decide +kernel
theorem d_X11_init_296 : decode prog_13_method_1_code 296 = .ok (.putfield 119, 3) := by decide +kernel
theorem d_X11_init_299 : decode prog_13_method_1_code 299 = .ok (.aload_n 0, 1) := by decide +kernel
theorem d_X11_init_300 : decode prog_13_method_1_code 300 = .ok (.bipush 64, 2) := by decide +kernel
theorem d_X11_init_302 : decode prog_13_method_1_code 302 = .ok (.newarray .int, 2) := by decide +kernel
theorem d_X11_init_304 : decode prog_13_method_1_code 304 = .ok (.putfield 122, 3) := by decide +kernel
theorem d_X11_init_307 : decode prog_13_method_1_code 307 = .ok (.aload_n 0, 1) := by decide +kernel
theorem d_X11_init_308 : decode prog_13_method_1_code 308 = .ok (.sipush 512, 3) := by decide +kernel
theorem d_X11_init_311 : decode prog_13_method_1_code 311 = .ok (.newarray .int, 2) := by decide +kernel
theorem d_X11_init_313 : decode prog_13_method_1_code 313 = .ok (.putfield 125, 3) := by decide +kernel
theorem d_X11_init_316 : decode prog_13_method_1_code 316 = .ok (.aload_n 0, 1) := by decide +kernel
theorem d_X11_init_317 : decode prog_13_method_1_code 317 = .ok (.bipush 64, 2) := by decide +kernel
theorem d_X11_init_319 : decode prog_13_method_1_code 319 = .ok (.newarray .int, 2) := by decide +kernel
theorem d_X11_init_321 : decode prog_13_method_1_code 321 = .ok (.putfield 128, 3) := by decide +kernel
theorem d_X11_init_324 : decode prog_13_method_1_code 324 = .ok (.aload_n 0, 1) := by decide +kernel
theorem d_X11_init_325 : decode prog_13_method_1_code 325 = .ok (.bipush 64, 2) := by decide +kernel
theorem d_X11_init_327 : decode prog_13_method_1_code 327 = .ok (.newarray .int, 2) := by decide +kernel
theorem d_X11_init_329 : decode prog_13_method_1_code 329 = .ok (.putfield 131, 3) := by decide +kernel
theorem d_X11_init_332 : decode prog_13_method_1_code 332 = .ok (.aload_n 0, 1) := by decide +kernel
theorem d_X11_init_333 : decode prog_13_method_1_code 333 = .ok (.bipush 64, 2) := by decide +kernel
theorem d_X11_init_335 : decode prog_13_method_1_code 335 = .ok (.newarray .int, 2) := by decide +kernel
theorem d_X11_init_337 : decode prog_13_method_1_code 337 = .ok (.putfield 134, 3) := by decide +kernel
theorem d_X11_init_340 : decode prog_13_method_1_code 340 = .ok (.aload_n 0, 1) := by decide +kernel
theorem d_X11_init_341 : decode prog_13_method_1_code 341 = .ok (.bipush 64, 2) := by decide +kernel
theorem d_X11_init_343 : decode prog_13_method_1_code 343 = .ok (.newarray .int, 2) := by decide +kernel
theorem d_X11_init_345 : decode prog_13_method_1_code 345 = .ok (.putfield 137, 3) := by decide +kernel
theorem d_X11_init_348 : decode prog_13_method_1_code 348 = .ok (.aload_n 0, 1) := by decide +kernel
theorem d_X11_init_349 : decode prog_13_method_1_code 349 = .ok (.bipush 64, 2) := by decide +kernel
theorem d_X11_init_351 : decode prog_13_method_1_code 351 = .ok (.newarray .int, 2) := by decide +kernel
theorem d_X11_init_353 : decode prog_13_method_1_code 353 = .ok (.putfield 140, 3) := by decide +kernel
theorem d_X11_init_356 : decode prog_13_method_1_code 356 = .ok (.aload_n 0, 1) := by decide +kernel
theorem d_X11_init_357 : decode prog_13_method_1_code 357 = .ok (.bipush 64, 2) := by decide +kernel
theorem d_X11_init_359 : decode prog_13_method_1_code 359 = .ok (.newarray .int, 2) := by decide +kernel
theorem d_X11_init_361 : decode prog_13_method_1_code 361 = .ok (.putfield 143, 3) := by decide +kernel
theorem d_X11_init_364 : decode prog_13_method_1_code 364 = .ok (.aload_n 0, 1) := by decide +kernel
theorem d_X11_init_365 : decode prog_13_method_1_code 365 = .ok (.bipush 64, 2) := by decide +kernel
theorem d_X11_init_367 : decode prog_13_method_1_code 367 = .ok (.newarray .int, 2) := by decide +kernel
theorem d_X11_init_369 : decode prog_13_method_1_code 369 = .ok (.putfield 146, 3) := by decide +kernel
theorem d_X11_init_372 : decode prog_13_method_1_code 372 = .ok (.aload_n 0, 1) := by decide +kernel
theorem d_X11_init_373 : decode prog_13_method_1_code 373 = .ok (.bipush 64, 2) := by decide +kernel
theorem d_X11_init_375 : decode prog_13_method_1_code 375 = .ok (.newarray .int, 2) := by decide +kernel
theorem d_X11_init_377 : decode prog_13_method_1_code 377 = .ok (.putfield 149, 3) := by decide +kernel
theorem d_X11_init_380 : decode prog_13_method_1_code 380 = .ok (.aload_n 0, 1) := by decide +kernel
theorem d_X11_init_381 : decode prog_13_method_1_code 381 = .ok (.bipush 64, 2) := by decide +kernel
theorem d_X11_init_383 : decode prog_13_method_1_code 383 = .ok (.newarray .int, 2) := by decide +kernel
theorem d_X11_init_385 : decode prog_13_method_1_code 385 = .ok (.putfield 152, 3) := by decide +kernel
theorem d_X11_init_388 : decode prog_13_method_1_code 388 = .ok (.aload_n 0, 1) := by decide +kernel
theorem d_X11_init_389 : decode prog_13_method_1_code 389 = .ok (.bipush 64, 2) := by decide +kernel
theorem d_X11_init_391 : decode prog_13_method_1_code 391 = .ok (.newarray .int, 2) := by decide +kernel
theorem d_X11_init_393 : decode prog_13_method_1_code 393 = .ok (.putfield 155, 3) := by decide +kernel
theorem d_X11_init_396 : decode prog_13_method_1_code 396 = .ok (.aload_n 0, 1) := by decide +kernel
theorem d_X11_init_397 : decode prog_13_method_1_code 397 = .ok (.bipush 64, 2) := by decide +kernel
theorem d_X11_init_399 : decode prog_13_method_1_code 399 = .ok (.newarray .int, 2) := by decide +kernel
theorem d_X11_init_401 : decode prog_13_method_1_code 401 = .ok (.putfield 158, 3) := by decide +kernel
theorem d_X11_init_404 : decode prog_13_method_1_code 404 = .ok (.aload_n 0, 1) := by decide +kernel
theorem d_X11_init_405 : decode prog_13_method_1_code 405 = .ok (.iconst 4, 1) := by decide +kernel
theorem d_X11_init_406 : decode prog_13_method_1_code 406 = .ok (.newarray .int, 2) := by decide +kernel
theorem d_X11_init_408 : decode prog_13_method_1_code 408 = .ok (.putfield 161, 3) := by decide +kernel
theorem d_X11_init_411 : decode prog_13_method_1_code 411 = .ok (.aload_n 0, 1) := by decide +kernel
theorem d_X11_init_412 : decode prog_13_method_1_code 412 = .ok (.sipush 4096, 3) := by decide +kernel
theorem d_X11_init_415 : decode prog_13_method_1_code 415 = .ok (.newarray .int, 2) := by decide +kernel
theorem d_X11_init_417 : decode prog_13_method_1_code 417 = .ok (.putfield 164, 3) := by decide +kernel
theorem d_X11_init_420 : decode prog_13_method_1_code 420 = .ok (.aload_n 0, 1) := by decide +kernel
theorem d_X11_init_421 : decode prog_13_method_1_code 421 = .ok (.sipush 4096, 3) := by decide +kernel
theorem d_X11_init_424 : decode prog_13_method_1_code 424 = .ok (.newarray .int, 2) := by decide +kernel
theorem d_X11_init_426 : decode prog_13_method_1_code 426 = .ok (.putfield 167, 3) := by decide +kernel
theorem d_X11_init_429 : decode prog_13_method_1_code 429 = .ok (.aload_n 0, 1) := by decide +kernel
theorem d_X11_init_430 : decode prog_13_method_1_code 430 = .ok (.sipush 4096, 3) := by decide +kernel
theorem d_X11_init_433 : decode prog_13_method_1_code 433 = .ok (.newarray .int, 2) := by decide +kernel
theorem d_X11_init_435 : decode prog_13_method_1_code 435 = .ok (.putfield 170, 3) := by decide +kernel
theorem d_X11_init_438 : decode prog_13_method_1_code 438 = .ok (.aload_n 0, 1) := by decide +kernel
theorem d_X11_init_439 : decode prog_13_method_1_code 439 = .ok (.sipush 1024, 3) := by decide +kernel
theorem d_X11_init_442 : decode prog_13_method_1_code 442 = .ok (.newarray .int, 2) := by decide +kernel
theorem d_X11_init_444 : decode prog_13_method_1_code 444 = .ok (.putfield 173, 3) := by decide +kernel
theorem d_X11_init_447 : decode prog_13_method_1_code 447 = .ok (.aload_n 0, 1) := by decide +kernel
theorem d_X11_init_448 : decode prog_13_method_1_code 448 = .ok (.sipush 8192, 3) := by decide +kernel
theorem d_X11_init_451 : decode prog_13_method_1_code 451 = .ok (.newarray .boolean, 2) := by decide +kernel
theorem d_X11_init_453 : decode prog_13_method_1_code 453 = .ok (.putfield 176, 3) := by decide +kernel
theorem d_X11_init_456 : decode prog_13_method_1_code 456 = .ok (.iconst 0, 1) := by decide +kernel
theorem d_X11_init_457 : decode prog_13_method_1_code 457 = .ok (.istore_n 1, 1) := by decide +kernel
theorem d_X11_init_458 : decode prog_13_method_1_code 458 = .ok (.iload_n 1, 1) := by decide +kernel
theorem d_X11_init_459 : decode prog_13_method_1_code 459 = .ok (.bipush 8, 2) := by decide +kernel
theorem d_X11_init_461 : decode prog_13_method_1_code 461 = .ok (.if_icmp .ge 16, 3) := by decide +kernel
theorem d_X11_init_464 : decode prog_13_method_1_code 464 = .ok (.aload_n 0, 1) := by decide +kernel
theorem d_X11_init_465 : decode prog_13_method_1_code 465 = .ok (.getfield 29, 3) := by decide +kernel
theorem d_X11_init_468 : decode prog_13_method_1_code 468 = .ok (.iload_n 1, 1) := by decide +kernel
theorem d_X11_init_469 : decode prog_13_method_1_code 469 = .ok (.iconst (-1), 1) := by decide +kernel
theorem d_X11_init_470 : decode prog_13_method_1_code 470 = .ok (.iastore, 1) := by decide +kernel
theorem d_X11_init_471 : decode prog_13_method_1_code 471 = .ok (.iinc 1 1, 3) := by decide +kernel
theorem d_X11_init_474 : decode prog_13_method_1_code 474 = .ok (.goto (-16), 3) := by decide +kernel
theorem d_X11_init_477 : decode prog_13_method_1_code 477 = .ok (.iconst 0, 1) := by decide +kernel
theorem d_X11_init_478 : decode prog_13_method_1_code 478 = .ok (.istore_n 1, 1) := by decide +kernel
theorem d_X11_init_479 : decode prog_13_method_1_code 479 = .ok (.iload_n 1, 1) := by decide +kernel
theorem d_X11_init_480 : decode prog_13_method_1_code 480 = .ok (.iconst 4, 1) := by decide +kernel
theorem d_X11_init_481 : decode prog_13_method_1_code 481 = .ok (.if_icmp .ge 15, 3) := by decide +kernel
theorem d_X11_init_484 : decode prog_13_method_1_code 484 = .ok (.aload_n 0, 1) := by decide +kernel
theorem d_X11_init_485 : decode prog_13_method_1_code 485 = .ok (.iload_n 1, 1) := by decide +kernel
theorem d_X11_init_486 : decode prog_13_method_1_code 486 = .ok (.iconst 3, 1) := by decide +kernel
theorem d_X11_init_487 : decode prog_13_method_1_code 487 = .ok (.invokevirtual 179, 3) := by decide +kernel
theorem d_X11_init_490 : decode prog_13_method_1_code 490 = .ok (.iinc 1 1, 3) := by decide +kernel
theorem d_X11_init_493 : decode prog_13_method_1_code 493 = .ok (.goto (-14), 3) := by decide +kernel
theorem d_X11_init_496 : decode prog_13_method_1_code 496 = .ok (.return_, 1) := by decide +kernel
abbrev Y_X11_thrown : Yx := (⟨"TaskWeaveModel", "thrown", "()I"⟩, prog_13_method_2_code, 1, (some .int))
abbrev M_X11_thrown : Mx := ("TaskWeaveModel", prog_13_method_2_code, 1, false)
theorem yk_X11_thrown : Yk Y_X11_thrown 0 := ⟨by decide +kernel, by decide +kernel, ⟨by decide, by decide⟩, by decide +kernel, by decide, trivial⟩
theorem d_X11_thrown_0 : decode prog_13_method_2_code 0 = .ok (.aload_n 0, 1) := by decide +kernel
theorem d_X11_thrown_1 : decode prog_13_method_2_code 1 = .ok (.getfield 183, 3) := by decide +kernel
theorem d_X11_thrown_4 : decode prog_13_method_2_code 4 = .ok (.ireturn, 1) := by decide +kernel
abbrev Y_X11_raise : Yx := (⟨"TaskWeaveModel", "raise", "(I)I"⟩, prog_13_method_3_code, 2, (some .int))
abbrev M_X11_raise : Mx := ("TaskWeaveModel", prog_13_method_3_code, 2, false)
theorem yk_X11_raise : Yk Y_X11_raise 1 := ⟨by decide +kernel, by decide +kernel, ⟨by decide, by decide⟩, by decide +kernel, by decide, trivial⟩
theorem d_X11_raise_0 : decode prog_13_method_3_code 0 = .ok (.aload_n 0, 1) := by decide +kernel
theorem d_X11_raise_1 : decode prog_13_method_3_code 1 = .ok (.iload_n 1, 1) := by decide +kernel
theorem d_X11_raise_2 : decode prog_13_method_3_code 2 = .ok (.putfield 183, 3) := by decide +kernel
theorem d_X11_raise_5 : decode prog_13_method_3_code 5 = .ok (.iconst 0, 1) := by decide +kernel
theorem d_X11_raise_6 : decode prog_13_method_3_code 6 = .ok (.ireturn, 1) := by decide +kernel
abbrev Y_X11_in : Yx := (⟨"TaskWeaveModel", "in", "(II)Z"⟩, prog_13_method_4_code, 2, (some .boolean))
abbrev M_X11_in : Mx := ("TaskWeaveModel", prog_13_method_4_code, 2, false)
theorem yk_X11_in : Yk Y_X11_in 2 := ⟨by decide +kernel, by decide +kernel, ⟨by decide, by decide⟩, by decide +kernel, by decide, trivial⟩
theorem d_X11_in_0 : decode prog_13_method_4_code 0 = .ok (.iload_n 0, 1) := by decide +kernel
theorem d_X11_in_1 : decode prog_13_method_4_code 1 = .ok (.ifCond .lt 12, 3) := by decide +kernel
theorem d_X11_in_4 : decode prog_13_method_4_code 4 = .ok (.iload_n 0, 1) := by decide +kernel
theorem d_X11_in_5 : decode prog_13_method_4_code 5 = .ok (.iload_n 1, 1) := by decide +kernel
theorem d_X11_in_6 : decode prog_13_method_4_code 6 = .ok (.if_icmp .ge 7, 3) := by decide +kernel
theorem d_X11_in_9 : decode prog_13_method_4_code 9 = .ok (.iconst 1, 1) := by decide +kernel
theorem d_X11_in_10 : decode prog_13_method_4_code 10 = .ok (.goto 4, 3) := by decide +kernel
theorem d_X11_in_13 : decode prog_13_method_4_code 13 = .ok (.iconst 0, 1) := by decide +kernel
theorem d_X11_in_14 : decode prog_13_method_4_code 14 = .ok (.ireturn, 1) := by decide +kernel
abbrev Y_X11_type : Yx := (⟨"TaskWeaveModel", "type", "(JI)Z"⟩, prog_13_method_6_code, 6, (some .boolean))
abbrev M_X11_type : Mx := ("TaskWeaveModel", prog_13_method_6_code, 6, false)
theorem yk_X11_type : Yk Y_X11_type 2 := ⟨by decide +kernel, by decide +kernel, ⟨by decide, by decide⟩, by decide +kernel, by decide, trivial⟩
theorem d_X11_type_0 : decode prog_13_method_6_code 0 = .ok (.aload_n 0, 1) := by decide +kernel
theorem d_X11_type_1 : decode prog_13_method_6_code 1 = .ok (.iconst 0, 1) := by decide +kernel
theorem d_X11_type_2 : decode prog_13_method_6_code 2 = .ok (.putfield 183, 3) := by decide +kernel
theorem d_X11_type_5 : decode prog_13_method_6_code 5 = .ok (.iload_n 3, 1) := by decide +kernel
theorem d_X11_type_6 : decode prog_13_method_6_code 6 = .ok (.iconst 1, 1) := by decide +kernel
theorem d_X11_type_7 : decode prog_13_method_6_code 7 = .ok (.if_icmp .lt 21, 3) := by decide +kernel
theorem d_X11_type_10 : decode prog_13_method_6_code 10 = .ok (.iload_n 3, 1) := by decide +kernel
theorem d_X11_type_11 : decode prog_13_method_6_code 11 = .ok (.bipush 8, 2) := by decide +kernel
theorem d_X11_type_13 : decode prog_13_method_6_code 13 = .ok (.if_icmp .gt 15, 3) := by decide +kernel
theorem d_X11_type_16 : decode prog_13_method_6_code 16 = .ok (.aload_n 0, 1) := by decide +kernel
theorem d_X11_type_17 : decode prog_13_method_6_code 17 = .ok (.getfield 186, 3) := by decide +kernel
theorem d_X11_type_20 : decode prog_13_method_6_code 20 = .ok (.iload_n 3, 1) := by decide +kernel
theorem d_X11_type_21 : decode prog_13_method_6_code 21 = .ok (.iadd, 1) := by decide +kernel
theorem d_X11_type_22 : decode prog_13_method_6_code 22 = .ok (.sipush 300, 3) := by decide +kernel
theorem d_X11_type_25 : decode prog_13_method_6_code 25 = .ok (.if_icmp .le 5, 3) := by decide +kernel
theorem d_X11_type_28 : decode prog_13_method_6_code 28 = .ok (.iconst 0, 1) := by decide +kernel
theorem d_X11_type_29 : decode prog_13_method_6_code 29 = .ok (.ireturn, 1) := by decide +kernel
theorem d_X11_type_30 : decode prog_13_method_6_code 30 = .ok (.iconst 0, 1) := by decide +kernel
theorem d_X11_type_31 : decode prog_13_method_6_code 31 = .ok (.istore 4, 2) := by decide +kernel
theorem d_X11_type_33 : decode prog_13_method_6_code 33 = .ok (.iload 4, 2) := by decide +kernel
theorem d_X11_type_35 : decode prog_13_method_6_code 35 = .ok (.iload_n 3, 1) := by decide +kernel
theorem d_X11_type_36 : decode prog_13_method_6_code 36 = .ok (.if_icmp .ge 39, 3) := by decide +kernel
theorem d_X11_type_39 : decode prog_13_method_6_code 39 = .ok (.lload_n 1, 1) := by decide +kernel
theorem d_X11_type_40 : decode prog_13_method_6_code 40 = .ok (.bipush 8, 2) := by decide +kernel
theorem d_X11_type_42 : decode prog_13_method_6_code 42 = .ok (.iload 4, 2) := by decide +kernel
theorem d_X11_type_44 : decode prog_13_method_6_code 44 = .ok (.imul, 1) := by decide +kernel
theorem d_X11_type_45 : decode prog_13_method_6_code 45 = .ok (.lshr, 1) := by decide +kernel
theorem d_X11_type_46 : decode prog_13_method_6_code 46 = .ok (.ldc2_w 189, 3) := by decide +kernel
theorem d_X11_type_49 : decode prog_13_method_6_code 49 = .ok (.land, 1) := by decide +kernel
theorem d_X11_type_50 : decode prog_13_method_6_code 50 = .ok (.l2i, 1) := by decide +kernel
theorem d_X11_type_51 : decode prog_13_method_6_code 51 = .ok (.istore 5, 2) := by decide +kernel
theorem d_X11_type_53 : decode prog_13_method_6_code 53 = .ok (.iload 5, 2) := by decide +kernel
theorem d_X11_type_55 : decode prog_13_method_6_code 55 = .ok (.bipush 33, 2) := by decide +kernel
theorem d_X11_type_57 : decode prog_13_method_6_code 57 = .ok (.if_icmp .lt 10, 3) := by decide +kernel
theorem d_X11_type_60 : decode prog_13_method_6_code 60 = .ok (.iload 5, 2) := by decide +kernel
theorem d_X11_type_62 : decode prog_13_method_6_code 62 = .ok (.bipush 126, 2) := by decide +kernel
theorem d_X11_type_64 : decode prog_13_method_6_code 64 = .ok (.if_icmp .le 5, 3) := by decide +kernel
theorem d_X11_type_67 : decode prog_13_method_6_code 67 = .ok (.iconst 0, 1) := by decide +kernel
theorem d_X11_type_68 : decode prog_13_method_6_code 68 = .ok (.ireturn, 1) := by decide +kernel
theorem d_X11_type_69 : decode prog_13_method_6_code 69 = .ok (.iinc 4 1, 3) := by decide +kernel
theorem d_X11_type_72 : decode prog_13_method_6_code 72 = .ok (.goto (-39), 3) := by decide +kernel
theorem d_X11_type_75 : decode prog_13_method_6_code 75 = .ok (.iload_n 3, 1) := by decide +kernel
theorem d_X11_type_76 : decode prog_13_method_6_code 76 = .ok (.iconst 1, 1) := by decide +kernel
theorem d_X11_type_77 : decode prog_13_method_6_code 77 = .ok (.isub, 1) := by decide +kernel
theorem d_X11_type_78 : decode prog_13_method_6_code 78 = .ok (.istore 4, 2) := by decide +kernel
theorem d_X11_type_80 : decode prog_13_method_6_code 80 = .ok (.iload 4, 2) := by decide +kernel
theorem d_X11_type_82 : decode prog_13_method_6_code 82 = .ok (.ifCond .lt 40, 3) := by decide +kernel
theorem d_X11_type_85 : decode prog_13_method_6_code 85 = .ok (.aload_n 0, 1) := by decide +kernel
theorem d_X11_type_86 : decode prog_13_method_6_code 86 = .ok (.getfield 7, 3) := by decide +kernel
theorem d_X11_type_89 : decode prog_13_method_6_code 89 = .ok (.aload_n 0, 1) := by decide +kernel
theorem d_X11_type_90 : decode prog_13_method_6_code 90 = .ok (.getfield 186, 3) := by decide +kernel
theorem d_X11_type_93 : decode prog_13_method_6_code 93 = .ok (.lload_n 1, 1) := by decide +kernel
theorem d_X11_type_94 : decode prog_13_method_6_code 94 = .ok (.bipush 8, 2) := by decide +kernel
theorem d_X11_type_96 : decode prog_13_method_6_code 96 = .ok (.iload 4, 2) := by decide +kernel
theorem d_X11_type_98 : decode prog_13_method_6_code 98 = .ok (.imul, 1) := by decide +kernel
theorem d_X11_type_99 : decode prog_13_method_6_code 99 = .ok (.lshr, 1) := by decide +kernel
theorem d_X11_type_100 : decode prog_13_method_6_code 100 = .ok (.ldc2_w 189, 3) := by decide +kernel
theorem d_X11_type_103 : decode prog_13_method_6_code 103 = .ok (.land, 1) := by decide +kernel
theorem d_X11_type_104 : decode prog_13_method_6_code 104 = .ok (.l2i, 1) := by decide +kernel
theorem d_X11_type_105 : decode prog_13_method_6_code 105 = .ok (.iastore, 1) := by decide +kernel
theorem d_X11_type_106 : decode prog_13_method_6_code 106 = .ok (.aload_n 0, 1) := by decide +kernel
theorem d_X11_type_107 : decode prog_13_method_6_code 107 = .ok (.dup, 1) := by decide +kernel
theorem d_X11_type_108 : decode prog_13_method_6_code 108 = .ok (.getfield 186, 3) := by decide +kernel
theorem d_X11_type_111 : decode prog_13_method_6_code 111 = .ok (.iconst 1, 1) := by decide +kernel
theorem d_X11_type_112 : decode prog_13_method_6_code 112 = .ok (.iadd, 1) := by decide +kernel
theorem d_X11_type_113 : decode prog_13_method_6_code 113 = .ok (.putfield 186, 3) := by decide +kernel
theorem d_X11_type_116 : decode prog_13_method_6_code 116 = .ok (.iinc 4 (-1), 3) := by decide +kernel
theorem d_X11_type_119 : decode prog_13_method_6_code 119 = .ok (.goto (-39), 3) := by decide +kernel
theorem d_X11_type_122 : decode prog_13_method_6_code 122 = .ok (.iconst 1, 1) := by decide +kernel
theorem d_X11_type_123 : decode prog_13_method_6_code 123 = .ok (.ireturn, 1) := by decide +kernel
abbrev Y_X11_see : Yx := (⟨"TaskWeaveModel", "see", "()I"⟩, prog_13_method_7_code, 1, (some .int))
abbrev M_X11_see : Mx := ("TaskWeaveModel", prog_13_method_7_code, 1, false)
theorem yk_X11_see : Yk Y_X11_see 0 := ⟨by decide +kernel, by decide +kernel, ⟨by decide, by decide⟩, by decide +kernel, by decide, trivial⟩
theorem d_X11_see_0 : decode prog_13_method_7_code 0 = .ok (.aload_n 0, 1) := by decide +kernel
theorem d_X11_see_1 : decode prog_13_method_7_code 1 = .ok (.getfield 191, 3) := by decide +kernel
theorem d_X11_see_4 : decode prog_13_method_7_code 4 = .ok (.aload_n 0, 1) := by decide +kernel
theorem d_X11_see_5 : decode prog_13_method_7_code 5 = .ok (.getfield 186, 3) := by decide +kernel
theorem d_X11_see_8 : decode prog_13_method_7_code 8 = .ok (.if_icmp .ge 15, 3) := by decide +kernel
theorem d_X11_see_11 : decode prog_13_method_7_code 11 = .ok (.aload_n 0, 1) := by decide +kernel
theorem d_X11_see_12 : decode prog_13_method_7_code 12 = .ok (.getfield 7, 3) := by decide +kernel
theorem d_X11_see_15 : decode prog_13_method_7_code 15 = .ok (.aload_n 0, 1) := by decide +kernel
theorem d_X11_see_16 : decode prog_13_method_7_code 16 = .ok (.getfield 191, 3) := by decide +kernel
theorem d_X11_see_19 : decode prog_13_method_7_code 19 = .ok (.iaload, 1) := by decide +kernel
theorem d_X11_see_20 : decode prog_13_method_7_code 20 = .ok (.goto 4, 3) := by decide +kernel
theorem d_X11_see_23 : decode prog_13_method_7_code 23 = .ok (.iconst 0, 1) := by decide +kernel
theorem d_X11_see_24 : decode prog_13_method_7_code 24 = .ok (.ireturn, 1) := by decide +kernel
abbrev Y_X11_takes : Yx := (⟨"TaskWeaveModel", "takes", "(I)Z"⟩, prog_13_method_8_code, 2, (some .boolean))
abbrev M_X11_takes : Mx := ("TaskWeaveModel", prog_13_method_8_code, 2, false)
theorem yk_X11_takes : Yk Y_X11_takes 1 := ⟨by decide +kernel, by decide +kernel, ⟨by decide, by decide⟩, by decide +kernel, by decide, trivial⟩
theorem d_X11_takes_0 : decode prog_13_method_8_code 0 = .ok (.aload_n 0, 1) := by decide +kernel
theorem d_X11_takes_1 : decode prog_13_method_8_code 1 = .ok (.invokevirtual 194, 3) := by decide +kernel
theorem d_X11_takes_4 : decode prog_13_method_8_code 4 = .ok (.iload_n 1, 1) := by decide +kernel
theorem d_X11_takes_5 : decode prog_13_method_8_code 5 = .ok (.if_icmp .eq 5, 3) := by decide +kernel
theorem d_X11_takes_8 : decode prog_13_method_8_code 8 = .ok (.iconst 0, 1) := by decide +kernel
theorem d_X11_takes_9 : decode prog_13_method_8_code 9 = .ok (.ireturn, 1) := by decide +kernel
theorem d_X11_takes_10 : decode prog_13_method_8_code 10 = .ok (.aload_n 0, 1) := by decide +kernel
theorem d_X11_takes_11 : decode prog_13_method_8_code 11 = .ok (.dup, 1) := by decide +kernel
theorem d_X11_takes_12 : decode prog_13_method_8_code 12 = .ok (.getfield 191, 3) := by decide +kernel
theorem d_X11_takes_15 : decode prog_13_method_8_code 15 = .ok (.iconst 1, 1) := by decide +kernel
theorem d_X11_takes_16 : decode prog_13_method_8_code 16 = .ok (.iadd, 1) := by decide +kernel
theorem d_X11_takes_17 : decode prog_13_method_8_code 17 = .ok (.putfield 191, 3) := by decide +kernel
theorem d_X11_takes_20 : decode prog_13_method_8_code 20 = .ok (.iconst 1, 1) := by decide +kernel
theorem d_X11_takes_21 : decode prog_13_method_8_code 21 = .ok (.ireturn, 1) := by decide +kernel
abbrev Y_X11_isDigit : Yx := (⟨"TaskWeaveModel", "isDigit", "()Z"⟩, prog_13_method_9_code, 1, (some .boolean))
abbrev M_X11_isDigit : Mx := ("TaskWeaveModel", prog_13_method_9_code, 1, false)
theorem yk_X11_isDigit : Yk Y_X11_isDigit 0 := ⟨by decide +kernel, by decide +kernel, ⟨by decide, by decide⟩, by decide +kernel, by decide, trivial⟩
theorem d_X11_isDigit_0 : decode prog_13_method_9_code 0 = .ok (.aload_n 0, 1) := by decide +kernel
theorem d_X11_isDigit_1 : decode prog_13_method_9_code 1 = .ok (.invokevirtual 194, 3) := by decide +kernel
theorem d_X11_isDigit_4 : decode prog_13_method_9_code 4 = .ok (.bipush 48, 2) := by decide +kernel
theorem d_X11_isDigit_6 : decode prog_13_method_9_code 6 = .ok (.if_icmp .lt 16, 3) := by decide +kernel
theorem d_X11_isDigit_9 : decode prog_13_method_9_code 9 = .ok (.aload_n 0, 1) := by decide +kernel
theorem d_X11_isDigit_10 : decode prog_13_method_9_code 10 = .ok (.invokevirtual 194, 3) := by decide +kernel
theorem d_X11_isDigit_13 : decode prog_13_method_9_code 13 = .ok (.bipush 57, 2) := by decide +kernel
theorem d_X11_isDigit_15 : decode prog_13_method_9_code 15 = .ok (.if_icmp .gt 7, 3) := by decide +kernel
theorem d_X11_isDigit_18 : decode prog_13_method_9_code 18 = .ok (.iconst 1, 1) := by decide +kernel
theorem d_X11_isDigit_19 : decode prog_13_method_9_code 19 = .ok (.goto 4, 3) := by decide +kernel
theorem d_X11_isDigit_22 : decode prog_13_method_9_code 22 = .ok (.iconst 0, 1) := by decide +kernel
theorem d_X11_isDigit_23 : decode prog_13_method_9_code 23 = .ok (.ireturn, 1) := by decide +kernel
abbrev Y_X11_isLetter : Yx := (⟨"TaskWeaveModel", "isLetter", "()Z"⟩, prog_13_method_10_code, 1, (some .boolean))
abbrev M_X11_isLetter : Mx := ("TaskWeaveModel", prog_13_method_10_code, 1, false)
theorem yk_X11_isLetter : Yk Y_X11_isLetter 0 := ⟨by decide +kernel, by decide +kernel, ⟨by decide, by decide⟩, by decide +kernel, by decide, trivial⟩
theorem d_X11_isLetter_0 : decode prog_13_method_10_code 0 = .ok (.aload_n 0, 1) := by decide +kernel
theorem d_X11_isLetter_1 : decode prog_13_method_10_code 1 = .ok (.invokevirtual 194, 3) := by decide +kernel
theorem d_X11_isLetter_4 : decode prog_13_method_10_code 4 = .ok (.bipush 97, 2) := by decide +kernel
theorem d_X11_isLetter_6 : decode prog_13_method_10_code 6 = .ok (.if_icmp .lt 16, 3) := by decide +kernel
theorem d_X11_isLetter_9 : decode prog_13_method_10_code 9 = .ok (.aload_n 0, 1) := by decide +kernel
theorem d_X11_isLetter_10 : decode prog_13_method_10_code 10 = .ok (.invokevirtual 194, 3) := by decide +kernel
theorem d_X11_isLetter_13 : decode prog_13_method_10_code 13 = .ok (.bipush 104, 2) := by decide +kernel
theorem d_X11_isLetter_15 : decode prog_13_method_10_code 15 = .ok (.if_icmp .gt 7, 3) := by decide +kernel
theorem d_X11_isLetter_18 : decode prog_13_method_10_code 18 = .ok (.iconst 1, 1) := by decide +kernel
theorem d_X11_isLetter_19 : decode prog_13_method_10_code 19 = .ok (.goto 4, 3) := by decide +kernel
theorem d_X11_isLetter_22 : decode prog_13_method_10_code 22 = .ok (.iconst 0, 1) := by decide +kernel
theorem d_X11_isLetter_23 : decode prog_13_method_10_code 23 = .ok (.ireturn, 1) := by decide +kernel
theorem sk_9_337 : Sk "TaskWeave" 337 2 Y_X10_originOf := ⟨yk_X10_originOf, by decide +kernel, by decide +kernel⟩
theorem fk_9_250 : Fk "TaskWeave" 250 202 := ⟨by decide, by decide, by decide +kernel⟩
def f_X10_sendSignal_61 (s0 : Nat) (l1 : Nat) (l2 : Int32) (l4 : Nat) (h : Hp) : Option (Int32 × Hp) := ck (isO (h) (l1) 10) ((f_X10_originOf (zI (h) 1000 (l1)) (l2) (h)).bind (fun q24 => if (s0) = 0 then (some ((1 : Int32), q24.2)) else (ck (isO (q24.2) (s0) 10) (if (zI (q24.2) 1007 (s0)) = ((4 : Int32)) then (some ((1 : Int32), q24.2)) else (ck (isO (q24.2) (zR (q24.2) 1002 (s0)) 2) ((f_X1_hasSignalFrom (zR (q24.2) 1002 (s0)) (q24.1) (q24.2)).bind (fun q28 => if (q28.1) = (0) then (ck (isO (q28.2) (l1) 10) (ck (isO (q28.2) (zR (q28.2) 1002 (l1)) 2) (ck (isO (q28.2) (zR (q28.2) 202 (zR (q28.2) 1002 (l1))) 22) (ck (inR (l2) (zL (q28.2) (zR (q28.2) 202 (zR (q28.2) 1002 (l1))))) (ck (isO (q28.2) (l4) 7) ((f_X6_bring (l4) (s0) ((8 : Int32)) (zE (q28.2) (zR (q28.2) 202 (zR (q28.2) 1002 (l1))) (l2).toNatClampNeg) ((0 : Int32)) (q24.1) (q28.2)).bind (fun q35 => ck (isO (q35.2) (l4) 7) ((f_X6_settle (l4) (q35.2)).bind (fun q37 => ck (isB (q35.1)) (some (q35.1, q37))))))))))) else (some ((1 : Int32), q28.2)))))))))
theorem f_X10_sendSignal_61_ok {G : Gd} {d : Nat} (hj : 7 ≤ d) : ∀ (s0 : Nat) (l1 : Nat) (l2 : Int32) (l4 : Nat) (L : List (Nat × Value)) (h : Hp) (o : (Int32 × Hp)), zlk L 1 = some (zrf (l1)) → zlk L 2 = some (.int (l2)) → zlk L 4 = some (zrf (l4)) → f_X10_sendSignal_61 s0 l1 l2 l4 h = some o → Ev G M_X10_sendSignal d 61 L [zrf (s0)] h (Ret Y_X10_sendSignal (some (.int o.1)) o.2) := by
  intro s0 l1 l2 l4 L h o g1 g2 g4 e
  unfold f_X10_sendSignal_61 at e
  refine s_ast d_X10_sendSignal_61 (by decide) (fun L g5 gK => ?_)
  replace g1 := gK _ _ (by decide) (Or.inr (zrf_cat _)) g1
  replace g2 := gK _ _ (by decide) (Or.inr rfl) g2
  replace g4 := gK _ _ (by decide) (Or.inr (zrf_cat _)) g4
  refine g_ald_n d_X10_sendSignal_63 rfl g1 ?_
  replace e := ckd e
  obtain ⟨k23, e⟩ := e
  refine g_getI d_X10_sendSignal_64 (f := 1000) k23 fk_9_89 rfl rfl ?_
  refine r_iload_n d_X10_sendSignal_67 rfl g2 ?_
  replace e := bd e
  obtain ⟨q24, eq24, e⟩ := e
  refine g_callS d_X10_sendSignal_68 sk_9_337 (as := [_, _]) rfl rfl (by simp [zrf_cat, cat_int, cat_long]) (j := 1) (by omega) (c_X10_originOf (by omega) eq24) ?_
  refine s_istore d_X10_sendSignal_71 (by decide) (fun L g6 gK => ?_)
  replace g1 := gK _ _ (by decide) (Or.inr (zrf_cat _)) g1
  replace g2 := gK _ _ (by decide) (Or.inr rfl) g2
  replace g4 := gK _ _ (by decide) (Or.inr (zrf_cat _)) g4
  replace g5 := gK _ _ (by decide) (Or.inr (zrf_cat _)) g5
  refine g_ald d_X10_sendSignal_73 g5 ?_
  refine g_ifnull d_X10_sendSignal_75 (tgt := 100) (by decide) (fun c25 => ?_) (fun c25 => ?_)
  · replace e := (if_pos c25).symm.trans e
    refine r_iconst d_X10_sendSignal_100 (v := (1 : Int32)) (by decide +kernel) ?_
    obtain rfl := Option.some.inj e
    exact g_iret d_X10_sendSignal_101 rfl rfl
  · replace e := (if_neg c25).symm.trans e
    refine g_ald d_X10_sendSignal_78 g5 ?_
    replace e := ckd e
    obtain ⟨k26, e⟩ := e
    refine g_getI d_X10_sendSignal_80 (f := 1007) k26 fk_9_123 rfl rfl ?_
    refine r_iconst d_X10_sendSignal_83 (v := (4 : Int32)) (by decide +kernel) ?_
    refine r_icmp_eq d_X10_sendSignal_84 (tgt := 100) (by decide) (fun c27 => ?_) (fun c27 => ?_)
    · replace e := (if_pos c27).symm.trans e
      refine r_iconst d_X10_sendSignal_100 (v := (1 : Int32)) (by decide +kernel) ?_
      obtain rfl := Option.some.inj e
      exact g_iret d_X10_sendSignal_101 rfl rfl
    · replace e := (if_neg c27).symm.trans e
      refine g_ald d_X10_sendSignal_87 g5 ?_
      refine g_getR d_X10_sendSignal_89 (f := 1002) k26 fk_9_114 rfl rfl ?_
      refine r_iload d_X10_sendSignal_92 g6 ?_
      replace e := ckd e
      obtain ⟨k29, e⟩ := e
      replace e := bd e
      obtain ⟨q28, eq28, e⟩ := e
      refine g_callV d_X10_sendSignal_94 vk_9_118 (as := [_]) rfl k29 rfl (by simp [zrf_cat, cat_int, cat_long]) (j := 1) (by omega) (c_X1_hasSignalFrom (by omega) eq28) ?_
      refine r_if_eq d_X10_sendSignal_97 (tgt := 102) (by decide) (fun c30 => ?_) (fun c30 => ?_)
      · replace e := (if_pos c30).symm.trans e
        refine g_ald d_X10_sendSignal_102 g4 ?_
        refine g_ald d_X10_sendSignal_104 g5 ?_
        refine r_bipush d_X10_sendSignal_106 (v := (8 : Int32)) (by decide +kernel) ?_
        refine g_ald_n d_X10_sendSignal_108 rfl g1 ?_
        replace e := ckd e
        obtain ⟨k31, e⟩ := e
        refine g_getR d_X10_sendSignal_109 (f := 1002) k31 fk_9_114 rfl rfl ?_
        replace e := ckd e
        obtain ⟨k32, e⟩ := e
        refine g_getR d_X10_sendSignal_112 (f := 202) k32 fk_9_250 rfl rfl ?_
        refine r_iload_n d_X10_sendSignal_115 rfl g2 ?_
        replace e := ckd e
        obtain ⟨k33, e⟩ := e
        replace e := ckd e
        obtain ⟨k34, e⟩ := e
        refine g_iald d_X10_sendSignal_116 k33 k34 rfl ?_
        refine r_iconst d_X10_sendSignal_117 (v := (0 : Int32)) (by decide +kernel) ?_
        refine r_iload d_X10_sendSignal_118 g6 ?_
        replace e := ckd e
        obtain ⟨k36, e⟩ := e
        replace e := bd e
        obtain ⟨q35, eq35, e⟩ := e
        refine g_callV d_X10_sendSignal_120 vk_9_126 (as := [_, _, _, _, _]) rfl k36 rfl (by simp [zrf_cat, cat_int, cat_long]) (j := 6) (by omega) (c_X6_bring (by omega) eq35) ?_
        refine s_istore d_X10_sendSignal_123 (by decide) (fun L g7 gK => ?_)
        replace g4 := gK _ _ (by decide) (Or.inr (zrf_cat _)) g4
        refine g_ald d_X10_sendSignal_125 g4 ?_
        replace e := ckd e
        obtain ⟨k38, e⟩ := e
        replace e := bd e
        obtain ⟨q37, eq37, e⟩ := e
        refine g_callV d_X10_sendSignal_127 vk_9_108 (as := []) rfl k38 rfl (by simp [zrf_cat, cat_int, cat_long]) (j := 6) (by omega) (c_X6_settle (by omega) eq37) ?_
        refine r_iload d_X10_sendSignal_130 g7 ?_
        replace e := ckd e
        obtain ⟨k39, e⟩ := e
        obtain rfl := Option.some.inj e
        exact g_iret d_X10_sendSignal_132 rfl k39
      · replace e := (if_neg c30).symm.trans e
        refine r_iconst d_X10_sendSignal_100 (v := (1 : Int32)) (by decide +kernel) ?_
        obtain rfl := Option.some.inj e
        exact g_iret d_X10_sendSignal_101 rfl rfl

def f_X10_sendSignal (l0 : Nat) (l1 : Nat) (l2 : Int32) (h : Hp) : Option (Int32 × Hp) := ck (isO (h) (l1) 10) (ck (isO (h) (zR (h) 1002 (l1)) 2) (ck (isO (h) (zR (h) 201 (zR (h) 1002 (l1))) 22) (ck (inR (l2) (zL (h) (zR (h) 201 (zR (h) 1002 (l1))))) (bh (zE (h) (zR (h) 201 (zR (h) 1002 (l1))) (l2).toNatClampNeg) (fun x5 => ck (isO (h) (l0) 11) ((f_X9_shardOf (l1) (x5) (h)).bind (fun q7 => ck (isO (q7.2) (zR (h) 1103 (l0)) 26) (ck (inR (q7.1) (zL (q7.2) (zR (h) 1103 (l0)))) (bh (zQ (q7.2) (zR (h) 1103 (l0)) (q7.1).toNatClampNeg) (fun x10 => ck (isO (q7.2) (x10) 7) ((f_X6_works (x10) (q7.2)).bind (fun q11 => if (q11.1) = (0) then (some ((0 : Int32), q11.2)) else (if (x5) = ((-1 : Int32)) then (ck (isO (q11.2) (l1) 10) ((f_X9_parent (l1) (q11.2)).bind (fun q19 => ck (isO (q19.2) (l0) 11) ((f_X10_find (l0) (q19.1) (q19.2)).bind (fun q21 => f_X10_sendSignal_61 (q21.1) (l1) (l2) (x10) (q21.2)))))) else (ck (isO (q11.2) (l1) 10) ((f_X10_originOf (zI (q11.2) 1000 (l1)) (x5) (q11.2)).bind (fun q16 => ck (isO (q16.2) (x10) 7) ((f_X6_rowWithOrigin (x10) (q16.1) (q16.2)).bind (fun q17 => f_X10_sendSignal_61 (q17.1) (l1) (l2) (x10) (q17.2)))))))))))))))))))
theorem f_X10_sendSignal_ok {G : Gd} {d : Nat} (hj : 7 ≤ d) : ∀ (l0 : Nat) (l1 : Nat) (l2 : Int32) (L : List (Nat × Value)) (h : Hp) (o : (Int32 × Hp)), zlk L 0 = some (zrf (l0)) → zlk L 1 = some (zrf (l1)) → zlk L 2 = some (.int (l2)) → f_X10_sendSignal l0 l1 l2 h = some o → Ev G M_X10_sendSignal d 0 L [] h (Ret Y_X10_sendSignal (some (.int o.1)) o.2) := by
  intro l0 l1 l2 L h o g0 g1 g2 e
  unfold f_X10_sendSignal at e
  refine g_ald_n d_X10_sendSignal_0 rfl g1 ?_
  replace e := ckd e
  obtain ⟨k1, e⟩ := e
  refine g_getR d_X10_sendSignal_1 (f := 1002) k1 fk_9_114 rfl rfl ?_
  replace e := ckd e
  obtain ⟨k2, e⟩ := e
  refine g_getR d_X10_sendSignal_4 (f := 201) k2 fk_9_229 rfl rfl ?_
  refine r_iload_n d_X10_sendSignal_7 rfl g2 ?_
  replace e := ckd e
  obtain ⟨k3, e⟩ := e
  replace e := ckd e
  obtain ⟨k4, e⟩ := e
  refine g_iald d_X10_sendSignal_8 k3 k4 rfl ?_
  replace e := bhd e
  obtain ⟨_, rfl, e⟩ := e
  refine s_istore_n d_X10_sendSignal_9 rfl (by decide) (fun L g3 gK => ?_)
  replace g0 := gK _ _ (by decide) (Or.inr (zrf_cat _)) g0
  replace g1 := gK _ _ (by decide) (Or.inr (zrf_cat _)) g1
  replace g2 := gK _ _ (by decide) (Or.inr rfl) g2
  refine g_ald_n d_X10_sendSignal_10 rfl g0 ?_
  replace e := ckd e
  obtain ⟨k6, e⟩ := e
  refine g_getR d_X10_sendSignal_11 (f := 1103) k6 fk_9_18 rfl rfl ?_
  refine g_ald_n d_X10_sendSignal_14 rfl g1 ?_
  refine r_iload_n d_X10_sendSignal_15 rfl g3 ?_
  replace e := bd e
  obtain ⟨q7, eq7, e⟩ := e
  refine g_callV d_X10_sendSignal_16 vk_9_343 (as := [_]) rfl k1 rfl (by simp [zrf_cat, cat_int, cat_long]) (j := 2) (by omega) (c_X9_shardOf (by omega) eq7) ?_
  replace e := ckd e
  obtain ⟨k8, e⟩ := e
  replace e := ckd e
  obtain ⟨k9, e⟩ := e
  refine g_aald d_X10_sendSignal_19 k8 (by decide) (by decide) k9 rfl ?_
  replace e := bhd e
  obtain ⟨_, rfl, e⟩ := e
  refine s_ast d_X10_sendSignal_20 (by decide) (fun L g4 gK => ?_)
  replace g0 := gK _ _ (by decide) (Or.inr (zrf_cat _)) g0
  replace g1 := gK _ _ (by decide) (Or.inr (zrf_cat _)) g1
  replace g2 := gK _ _ (by decide) (Or.inr rfl) g2
  replace g3 := gK _ _ (by decide) (Or.inr rfl) g3
  refine g_ald d_X10_sendSignal_22 g4 ?_
  replace e := ckd e
  obtain ⟨k12, e⟩ := e
  replace e := bd e
  obtain ⟨q11, eq11, e⟩ := e
  refine g_callV d_X10_sendSignal_24 vk_9_81 (as := []) rfl k12 rfl (by simp [zrf_cat, cat_int, cat_long]) (j := 1) (by omega) (c_X6_works (by omega) eq11) ?_
  refine r_if_ne d_X10_sendSignal_27 (tgt := 32) (by decide) (fun c13 => ?_) (fun c13 => ?_)
  · replace e := (if_neg c13).symm.trans e
    refine r_iload_n d_X10_sendSignal_32 rfl g3 ?_
    refine r_iconst d_X10_sendSignal_33 (v := (-1 : Int32)) (by decide +kernel) ?_
    refine r_icmp_ne d_X10_sendSignal_34 (tgt := 48) (by decide) (fun c14 => ?_) (fun c14 => ?_)
    · replace e := (if_neg c14).symm.trans e
      refine g_ald d_X10_sendSignal_48 g4 ?_
      refine g_ald_n d_X10_sendSignal_50 rfl g1 ?_
      replace e := ckd e
      obtain ⟨k15, e⟩ := e
      refine g_getI d_X10_sendSignal_51 (f := 1000) k15 fk_9_89 rfl rfl ?_
      refine r_iload_n d_X10_sendSignal_54 rfl g3 ?_
      replace e := bd e
      obtain ⟨q16, eq16, e⟩ := e
      refine g_callS d_X10_sendSignal_55 sk_9_337 (as := [_, _]) rfl rfl (by simp [zrf_cat, cat_int, cat_long]) (j := 1) (by omega) (c_X10_originOf (by omega) eq16) ?_
      replace e := ckd e
      obtain ⟨k18, e⟩ := e
      replace e := bd e
      obtain ⟨q17, eq17, e⟩ := e
      refine g_callV d_X10_sendSignal_58 vk_9_85 (as := [_]) rfl k18 rfl (by simp [zrf_cat, cat_int, cat_long]) (j := 1) (by omega) (c_X6_rowWithOrigin (by omega) eq17) ?_
      exact f_X10_sendSignal_61_ok hj _ _ _ _ _ _ _ g1 g2 g4 e
    · replace e := (if_pos c14).symm.trans e
      refine g_ald_n d_X10_sendSignal_37 rfl g0 ?_
      refine g_ald_n d_X10_sendSignal_38 rfl g1 ?_
      replace e := ckd e
      obtain ⟨k20, e⟩ := e
      replace e := bd e
      obtain ⟨q19, eq19, e⟩ := e
      refine g_callV d_X10_sendSignal_39 vk_9_241 (as := []) rfl k20 rfl (by simp [zrf_cat, cat_int, cat_long]) (j := 1) (by omega) (c_X9_parent (by omega) eq19) ?_
      replace e := ckd e
      obtain ⟨k22, e⟩ := e
      replace e := bd e
      obtain ⟨q21, eq21, e⟩ := e
      refine g_callV d_X10_sendSignal_42 vk_9_111 (as := [_]) rfl k22 rfl (by simp [zrf_cat, cat_int, cat_long]) (j := 2) (by omega) (c_X10_find (by omega) eq21) ?_
      refine r_goto d_X10_sendSignal_45 (tgt := 61) (by decide) ?_
      exact f_X10_sendSignal_61_ok hj _ _ _ _ _ _ _ g1 g2 g4 e
  · replace e := (if_pos c13).symm.trans e
    refine r_iconst d_X10_sendSignal_30 (v := (0 : Int32)) (by decide +kernel) ?_
    obtain rfl := Option.some.inj e
    exact g_iret d_X10_sendSignal_31 rfl rfl

theorem c_X10_sendSignal {G : Gd} {j : Nat} (hj : 7 ≤ j) {l0 : Nat} {l1 : Nat} {l2 : Int32} {h : Hp} {o : (Int32 × Hp)} (e : f_X10_sendSignal l0 l1 l2 h = some o) : Cal G j Y_X10_sendSignal [zrf (l0), zrf (l1), .int (l2)] h (some (.int o.1)) o.2 := Cal.of (n := 0) (I := false) (by first | exact Or.inl (by decide +kernel) | exact Or.inr (by decide +kernel)) (by decide) (by simp [lg_sl, zrf_cat, cat_int, cat_long]) (f_X10_sendSignal_ok hj _ _ _ _ h o (by simp [lv_args, zlk, zrf_cat, cat_int, cat_long]) (by simp [lv_args, zlk, zrf_cat, cat_int, cat_long]) (by simp [lv_args, zlk, zrf_cat, cat_int, cat_long]) e)
theorem sk_9_334 : Sk "TaskWeave" 334 2 Y_J9_floorMod_7cf53 := ⟨yk_J9_floorMod_7cf53, by decide +kernel, by decide +kernel⟩
def f_X10_sendStart (l0 : Nat) (l1 : Nat) (l2 : Nat) (l3 : Int32) (h : Hp) : Option (Int32 × Hp) := ck (isO (h) (l2) 10) (ck (isO (h) (zR (h) 1002 (l2)) 2) (ck (isO (h) (zR (h) 201 (zR (h) 1002 (l2))) 22) (ck (inR (l3) (zL (h) (zR (h) 201 (zR (h) 1002 (l2))))) (bh (zE (h) (zR (h) 201 (zR (h) 1002 (l2))) (l3).toNatClampNeg) (fun x5 => ck (isO (h) (l0) 11) (ck (isO (h) (l1) 7) ((f_J9_floorMod_7cf53 ((zI (h) 700 (l1)) + (x5)) ((4 : Int32)) (h)).bind (fun q8 => ck (isO (q8.2) (zR (h) 1103 (l0)) 26) (ck (inR (q8.1) (zL (q8.2) (zR (h) 1103 (l0)))) (bh (zQ (q8.2) (zR (h) 1103 (l0)) (q8.1).toNatClampNeg) (fun x11 => ck (isO (q8.2) (x11) 7) ((f_X6_works (x11) (q8.2)).bind (fun q12 => if (q12.1) = (0) then (some ((0 : Int32), q12.2)) else (ck (isO (q12.2) (l2) 10) (ck (isO (q12.2) (zR (q12.2) 1002 (l2)) 2) ((f_X1_count (zR (q12.2) 1002 (l2)) ((6 : Int32)) (l3) (q12.2)).bind (fun q16 => ck (isO (q16.2) (l2) 10) ((f_X10_originOf (zI (q16.2) 1000 (l2)) (q16.1) (q16.2)).bind (fun q19 => ck (isO (q19.2) (x11) 7) ((f_X6_rowWithOrigin (x11) (q19.1) (q19.2)).bind (fun q20 => if (q20.1) = 0 then (ck (isO (q20.2) (l2) 10) (ck (isO (q20.2) (zR (q20.2) 1002 (l2)) 2) ((f_X1_endOfChild (zR (q20.2) 1002 (l2)) (q16.1) (q20.2)).bind (fun q24 => if (q24.1) = ((-1 : Int32)) then (ck (isO (q24.2) (x11) 7) ((f_X6_hasRoomFor (x11) (x5) (q24.2)).bind (fun q27 => if (q27.1) = (0) then (ck (isO (q27.2) (l2) 10) (if (zI (q27.2) 1007 (l2)) = ((4 : Int32)) then (some ((1 : Int32), q27.2)) else (ck (isO (q27.2) (l1) 7) ((f_X6_bring (l1) (l2) ((7 : Int32)) (q16.1) ((-3 : Int32)) ((0 : Int32)) (q27.2)).bind (fun q32 => ck (isO (q32.2) (l1) 7) ((f_X6_settle (l1) (q32.2)).bind (fun q34 => ck (isB (q32.1)) (some (q32.1, q34))))))))) else (ck (isO (q27.2) (l2) 10) (ck (isO (q27.2) (zR (q27.2) 1002 (l2)) 2) (ck (isO (q27.2) (zR (q27.2) 202 (zR (q27.2) 1002 (l2))) 22) (ck (inR (l3) (zL (q27.2) (zR (q27.2) 202 (zR (q27.2) 1002 (l2))))) (ck (isO (q27.2) (x11) 7) ((f_X6_begin (x11) (x5) (zE (q27.2) (zR (q27.2) 202 (zR (q27.2) 1002 (l2))) (l3).toNatClampNeg) (q19.1) (q27.2)).bind (fun q41 => ck (isO (q41.2) (x11) 7) ((f_X6_settle (x11) (q41.2)).bind (fun q43 => ck (isB (q41.1)) (some (q41.1, q43)))))))))))))) else (some ((1 : Int32), q24.2)))))) else (some ((1 : Int32), q20.2)))))))))))))))))))))))
theorem f_X10_sendStart_ok {G : Gd} {d : Nat} (hj : 7 ≤ d) : ∀ (l0 : Nat) (l1 : Nat) (l2 : Nat) (l3 : Int32) (L : List (Nat × Value)) (h : Hp) (o : (Int32 × Hp)), zlk L 0 = some (zrf (l0)) → zlk L 1 = some (zrf (l1)) → zlk L 2 = some (zrf (l2)) → zlk L 3 = some (.int (l3)) → f_X10_sendStart l0 l1 l2 l3 h = some o → Ev G M_X10_sendStart d 0 L [] h (Ret Y_X10_sendStart (some (.int o.1)) o.2) := by
  intro l0 l1 l2 l3 L h o g0 g1 g2 g3 e
  unfold f_X10_sendStart at e
  refine g_ald_n d_X10_sendStart_0 rfl g2 ?_
  replace e := ckd e
  obtain ⟨k1, e⟩ := e
  refine g_getR d_X10_sendStart_1 (f := 1002) k1 fk_9_114 rfl rfl ?_
  replace e := ckd e
  obtain ⟨k2, e⟩ := e
  refine g_getR d_X10_sendStart_4 (f := 201) k2 fk_9_229 rfl rfl ?_
  refine r_iload_n d_X10_sendStart_7 rfl g3 ?_
  replace e := ckd e
  obtain ⟨k3, e⟩ := e
  replace e := ckd e
  obtain ⟨k4, e⟩ := e
  refine g_iald d_X10_sendStart_8 k3 k4 rfl ?_
  replace e := bhd e
  obtain ⟨_, rfl, e⟩ := e
  refine s_istore d_X10_sendStart_9 (by decide) (fun L g4 gK => ?_)
  replace g0 := gK _ _ (by decide) (Or.inr (zrf_cat _)) g0
  replace g1 := gK _ _ (by decide) (Or.inr (zrf_cat _)) g1
  replace g2 := gK _ _ (by decide) (Or.inr (zrf_cat _)) g2
  replace g3 := gK _ _ (by decide) (Or.inr rfl) g3
  refine g_ald_n d_X10_sendStart_11 rfl g0 ?_
  replace e := ckd e
  obtain ⟨k6, e⟩ := e
  refine g_getR d_X10_sendStart_12 (f := 1103) k6 fk_9_18 rfl rfl ?_
  refine g_ald_n d_X10_sendStart_15 rfl g1 ?_
  replace e := ckd e
  obtain ⟨k7, e⟩ := e
  refine g_getI d_X10_sendStart_16 (f := 700) k7 fk_9_98 rfl rfl ?_
  refine r_iload d_X10_sendStart_19 g4 ?_
  refine r_iadd d_X10_sendStart_21 ?_
  refine r_iconst d_X10_sendStart_22 (v := (4 : Int32)) (by decide +kernel) ?_
  replace e := bd e
  obtain ⟨q8, eq8, e⟩ := e
  refine g_callS d_X10_sendStart_23 sk_9_334 (as := [_, _]) rfl rfl (by simp [zrf_cat, cat_int, cat_long]) (j := 1) (by omega) (c_J9_floorMod_7cf53 (by omega) eq8) ?_
  replace e := ckd e
  obtain ⟨k9, e⟩ := e
  replace e := ckd e
  obtain ⟨k10, e⟩ := e
  refine g_aald d_X10_sendStart_26 k9 (by decide) (by decide) k10 rfl ?_
  replace e := bhd e
  obtain ⟨_, rfl, e⟩ := e
  refine s_ast d_X10_sendStart_27 (by decide) (fun L g5 gK => ?_)
  replace g1 := gK _ _ (by decide) (Or.inr (zrf_cat _)) g1
  replace g2 := gK _ _ (by decide) (Or.inr (zrf_cat _)) g2
  replace g3 := gK _ _ (by decide) (Or.inr rfl) g3
  replace g4 := gK _ _ (by decide) (Or.inr rfl) g4
  refine g_ald d_X10_sendStart_29 g5 ?_
  replace e := ckd e
  obtain ⟨k13, e⟩ := e
  replace e := bd e
  obtain ⟨q12, eq12, e⟩ := e
  refine g_callV d_X10_sendStart_31 vk_9_81 (as := []) rfl k13 rfl (by simp [zrf_cat, cat_int, cat_long]) (j := 1) (by omega) (c_X6_works (by omega) eq12) ?_
  refine r_if_ne d_X10_sendStart_34 (tgt := 39) (by decide) (fun c14 => ?_) (fun c14 => ?_)
  · replace e := (if_neg c14).symm.trans e
    refine g_ald_n d_X10_sendStart_39 rfl g2 ?_
    replace e := ckd e
    obtain ⟨k15, e⟩ := e
    refine g_getR d_X10_sendStart_40 (f := 1002) k15 fk_9_114 rfl rfl ?_
    refine r_bipush d_X10_sendStart_43 (v := (6 : Int32)) (by decide +kernel) ?_
    refine r_iload_n d_X10_sendStart_45 rfl g3 ?_
    replace e := ckd e
    obtain ⟨k17, e⟩ := e
    replace e := bd e
    obtain ⟨q16, eq16, e⟩ := e
    refine g_callV d_X10_sendStart_46 vk_9_235 (as := [_, _]) rfl k17 rfl (by simp [zrf_cat, cat_int, cat_long]) (j := 1) (by omega) (c_X1_count (by omega) eq16) ?_
    refine s_istore d_X10_sendStart_49 (by decide) (fun L g6 gK => ?_)
    replace g1 := gK _ _ (by decide) (Or.inr (zrf_cat _)) g1
    replace g2 := gK _ _ (by decide) (Or.inr (zrf_cat _)) g2
    replace g3 := gK _ _ (by decide) (Or.inr rfl) g3
    replace g4 := gK _ _ (by decide) (Or.inr rfl) g4
    replace g5 := gK _ _ (by decide) (Or.inr (zrf_cat _)) g5
    refine g_ald_n d_X10_sendStart_51 rfl g2 ?_
    replace e := ckd e
    obtain ⟨k18, e⟩ := e
    refine g_getI d_X10_sendStart_52 (f := 1000) k18 fk_9_89 rfl rfl ?_
    refine r_iload d_X10_sendStart_55 g6 ?_
    replace e := bd e
    obtain ⟨q19, eq19, e⟩ := e
    refine g_callS d_X10_sendStart_57 sk_9_337 (as := [_, _]) rfl rfl (by simp [zrf_cat, cat_int, cat_long]) (j := 1) (by omega) (c_X10_originOf (by omega) eq19) ?_
    refine s_istore d_X10_sendStart_60 (by decide) (fun L g7 gK => ?_)
    replace g1 := gK _ _ (by decide) (Or.inr (zrf_cat _)) g1
    replace g2 := gK _ _ (by decide) (Or.inr (zrf_cat _)) g2
    replace g3 := gK _ _ (by decide) (Or.inr rfl) g3
    replace g4 := gK _ _ (by decide) (Or.inr rfl) g4
    replace g5 := gK _ _ (by decide) (Or.inr (zrf_cat _)) g5
    replace g6 := gK _ _ (by decide) (Or.inr rfl) g6
    refine g_ald d_X10_sendStart_62 g5 ?_
    refine r_iload d_X10_sendStart_64 g7 ?_
    replace e := ckd e
    obtain ⟨k21, e⟩ := e
    replace e := bd e
    obtain ⟨q20, eq20, e⟩ := e
    refine g_callV d_X10_sendStart_66 vk_9_85 (as := [_]) rfl k21 rfl (by simp [zrf_cat, cat_int, cat_long]) (j := 1) (by omega) (c_X6_rowWithOrigin (by omega) eq20) ?_
    refine g_ifnonnull d_X10_sendStart_69 (tgt := 85) (by decide) (fun c22 => ?_) (fun c22 => ?_)
    · replace e := (if_neg c22).symm.trans e
      refine r_iconst d_X10_sendStart_85 (v := (1 : Int32)) (by decide +kernel) ?_
      obtain rfl := Option.some.inj e
      exact g_iret d_X10_sendStart_86 rfl rfl
    · replace e := (if_pos c22).symm.trans e
      refine g_ald_n d_X10_sendStart_72 rfl g2 ?_
      replace e := ckd e
      obtain ⟨k23, e⟩ := e
      refine g_getR d_X10_sendStart_73 (f := 1002) k23 fk_9_114 rfl rfl ?_
      refine r_iload d_X10_sendStart_76 g6 ?_
      replace e := ckd e
      obtain ⟨k25, e⟩ := e
      replace e := bd e
      obtain ⟨q24, eq24, e⟩ := e
      refine g_callV d_X10_sendStart_78 vk_9_340 (as := [_]) rfl k25 rfl (by simp [zrf_cat, cat_int, cat_long]) (j := 1) (by omega) (c_X1_endOfChild (by omega) eq24) ?_
      refine r_iconst d_X10_sendStart_81 (v := (-1 : Int32)) (by decide +kernel) ?_
      refine r_icmp_eq d_X10_sendStart_82 (tgt := 87) (by decide) (fun c26 => ?_) (fun c26 => ?_)
      · replace e := (if_pos c26).symm.trans e
        refine r_iconst d_X10_sendStart_87 (v := (1 : Int32)) (by decide +kernel) ?_
        refine s_istore d_X10_sendStart_88 (by decide) (fun L g8 gK => ?_)
        replace g1 := gK _ _ (by decide) (Or.inr (zrf_cat _)) g1
        replace g2 := gK _ _ (by decide) (Or.inr (zrf_cat _)) g2
        replace g3 := gK _ _ (by decide) (Or.inr rfl) g3
        replace g4 := gK _ _ (by decide) (Or.inr rfl) g4
        replace g5 := gK _ _ (by decide) (Or.inr (zrf_cat _)) g5
        replace g6 := gK _ _ (by decide) (Or.inr rfl) g6
        replace g7 := gK _ _ (by decide) (Or.inr rfl) g7
        refine g_ald d_X10_sendStart_90 g5 ?_
        refine r_iload d_X10_sendStart_92 g4 ?_
        replace e := ckd e
        obtain ⟨k28, e⟩ := e
        replace e := bd e
        obtain ⟨q27, eq27, e⟩ := e
        refine g_callV d_X10_sendStart_94 vk_9_94 (as := [_]) rfl k28 rfl (by simp [zrf_cat, cat_int, cat_long]) (j := 2) (by omega) (c_X6_hasRoomFor (by omega) eq27) ?_
        refine r_if_eq d_X10_sendStart_97 (tgt := 128) (by decide) (fun c29 => ?_) (fun c29 => ?_)
        · replace e := (if_pos c29).symm.trans e
          refine g_ald_n d_X10_sendStart_128 rfl g2 ?_
          replace e := ckd e
          obtain ⟨k30, e⟩ := e
          refine g_getI d_X10_sendStart_129 (f := 1007) k30 fk_9_123 rfl rfl ?_
          refine r_iconst d_X10_sendStart_132 (v := (4 : Int32)) (by decide +kernel) ?_
          refine r_icmp_eq d_X10_sendStart_133 (tgt := 154) (by decide) (fun c31 => ?_) (fun c31 => ?_)
          · replace e := (if_pos c31).symm.trans e
            refine r_iload d_X10_sendStart_154 g8 ?_
            obtain rfl := Option.some.inj e
            exact g_iret d_X10_sendStart_156 rfl rfl
          · replace e := (if_neg c31).symm.trans e
            refine g_ald_n d_X10_sendStart_136 rfl g1 ?_
            refine g_ald_n d_X10_sendStart_137 rfl g2 ?_
            refine r_bipush d_X10_sendStart_138 (v := (7 : Int32)) (by decide +kernel) ?_
            refine r_iload d_X10_sendStart_140 g6 ?_
            refine r_bipush d_X10_sendStart_142 (v := (-3 : Int32)) (by decide +kernel) ?_
            refine r_iconst d_X10_sendStart_144 (v := (0 : Int32)) (by decide +kernel) ?_
            replace e := ckd e
            obtain ⟨k33, e⟩ := e
            replace e := bd e
            obtain ⟨q32, eq32, e⟩ := e
            refine g_callV d_X10_sendStart_145 vk_9_126 (as := [_, _, _, _, _]) rfl k33 rfl (by simp [zrf_cat, cat_int, cat_long]) (j := 6) (by omega) (c_X6_bring (by omega) eq32) ?_
            refine s_istore d_X10_sendStart_148 (by decide) (fun L g8 gK => ?_)
            replace g1 := gK _ _ (by decide) (Or.inr (zrf_cat _)) g1
            refine g_ald_n d_X10_sendStart_150 rfl g1 ?_
            replace e := ckd e
            obtain ⟨k35, e⟩ := e
            replace e := bd e
            obtain ⟨q34, eq34, e⟩ := e
            refine g_callV d_X10_sendStart_151 vk_9_108 (as := []) rfl k35 rfl (by simp [zrf_cat, cat_int, cat_long]) (j := 6) (by omega) (c_X6_settle (by omega) eq34) ?_
            refine r_iload d_X10_sendStart_154 g8 ?_
            replace e := ckd e
            obtain ⟨k36, e⟩ := e
            obtain rfl := Option.some.inj e
            exact g_iret d_X10_sendStart_156 rfl k36
        · replace e := (if_neg c29).symm.trans e
          refine g_ald d_X10_sendStart_100 g5 ?_
          refine r_iload d_X10_sendStart_102 g4 ?_
          refine g_ald_n d_X10_sendStart_104 rfl g2 ?_
          replace e := ckd e
          obtain ⟨k37, e⟩ := e
          refine g_getR d_X10_sendStart_105 (f := 1002) k37 fk_9_114 rfl rfl ?_
          replace e := ckd e
          obtain ⟨k38, e⟩ := e
          refine g_getR d_X10_sendStart_108 (f := 202) k38 fk_9_250 rfl rfl ?_
          refine r_iload_n d_X10_sendStart_111 rfl g3 ?_
          replace e := ckd e
          obtain ⟨k39, e⟩ := e
          replace e := ckd e
          obtain ⟨k40, e⟩ := e
          refine g_iald d_X10_sendStart_112 k39 k40 rfl ?_
          refine r_iload d_X10_sendStart_113 g7 ?_
          replace e := ckd e
          obtain ⟨k42, e⟩ := e
          replace e := bd e
          obtain ⟨q41, eq41, e⟩ := e
          refine g_callV d_X10_sendStart_115 vk_9_104 (as := [_, _, _]) rfl k42 rfl (by simp [zrf_cat, cat_int, cat_long]) (j := 6) (by omega) (c_X6_begin (by omega) eq41) ?_
          refine s_istore d_X10_sendStart_118 (by decide) (fun L g8 gK => ?_)
          replace g5 := gK _ _ (by decide) (Or.inr (zrf_cat _)) g5
          refine g_ald d_X10_sendStart_120 g5 ?_
          replace e := ckd e
          obtain ⟨k44, e⟩ := e
          replace e := bd e
          obtain ⟨q43, eq43, e⟩ := e
          refine g_callV d_X10_sendStart_122 vk_9_108 (as := []) rfl k44 rfl (by simp [zrf_cat, cat_int, cat_long]) (j := 6) (by omega) (c_X6_settle (by omega) eq43) ?_
          refine r_goto d_X10_sendStart_125 (tgt := 154) (by decide) ?_
          refine r_iload d_X10_sendStart_154 g8 ?_
          replace e := ckd e
          obtain ⟨k45, e⟩ := e
          obtain rfl := Option.some.inj e
          exact g_iret d_X10_sendStart_156 rfl k45
      · replace e := (if_neg c26).symm.trans e
        refine r_iconst d_X10_sendStart_85 (v := (1 : Int32)) (by decide +kernel) ?_
        obtain rfl := Option.some.inj e
        exact g_iret d_X10_sendStart_86 rfl rfl
  · replace e := (if_pos c14).symm.trans e
    refine r_iconst d_X10_sendStart_37 (v := (0 : Int32)) (by decide +kernel) ?_
    obtain rfl := Option.some.inj e
    exact g_iret d_X10_sendStart_38 rfl rfl

theorem c_X10_sendStart {G : Gd} {j : Nat} (hj : 7 ≤ j) {l0 : Nat} {l1 : Nat} {l2 : Nat} {l3 : Int32} {h : Hp} {o : (Int32 × Hp)} (e : f_X10_sendStart l0 l1 l2 l3 h = some o) : Cal G j Y_X10_sendStart [zrf (l0), zrf (l1), zrf (l2), .int (l3)] h (some (.int o.1)) o.2 := Cal.of (n := 0) (I := false) (by first | exact Or.inl (by decide +kernel) | exact Or.inr (by decide +kernel)) (by decide) (by simp [lg_sl, zrf_cat, cat_int, cat_long]) (f_X10_sendStart_ok hj _ _ _ _ _ h o (by simp [lv_args, zlk, zrf_cat, cat_int, cat_long]) (by simp [lv_args, zlk, zrf_cat, cat_int, cat_long]) (by simp [lv_args, zlk, zrf_cat, cat_int, cat_long]) (by simp [lv_args, zlk, zrf_cat, cat_int, cat_long]) e)
theorem vk_9_304 : Vk "TaskWeave" 304 0 7 Y_X6_records := ⟨yk_X6_records, by decide +kernel, by decide +kernel, by decide +kernel, by decide⟩
theorem vk_9_307 : Vk "TaskWeave" 307 1 3 Y_X2_firstBehind := ⟨yk_X2_firstBehind, by decide +kernel, by decide +kernel, by decide +kernel, by decide⟩
theorem fk_9_310 : Fk "TaskWeave" 310 301 := ⟨by decide, by decide, by decide +kernel⟩
theorem fk_9_313 : Fk "TaskWeave" 313 300 := ⟨by decide, by decide, by decide +kernel⟩
theorem fk_9_316 : Fk "TaskWeave" 316 302 := ⟨by decide, by decide, by decide +kernel⟩
theorem fk_9_247 : Fk "TaskWeave" 247 200 := ⟨by decide, by decide, by decide +kernel⟩
theorem vk_9_327 : Vk "TaskWeave" 327 2 11 Y_X10_sendEnd := ⟨yk_X10_sendEnd, by decide +kernel, by decide +kernel, by decide +kernel, by decide⟩
theorem vk_9_323 : Vk "TaskWeave" 323 2 11 Y_X10_sendSignal := ⟨yk_X10_sendSignal, by decide +kernel, by decide +kernel, by decide +kernel, by decide⟩
theorem vk_9_319 : Vk "TaskWeave" 319 3 11 Y_X10_sendStart := ⟨yk_X10_sendStart, by decide +kernel, by decide +kernel, by decide +kernel, by decide⟩
theorem vk_9_330 : Vk "TaskWeave" 330 1 7 Y_X6_forget := ⟨yk_X6_forget, by decide +kernel, by decide +kernel, by decide +kernel, by decide⟩
def f_X10_sendAll_194 (K21 : Nat → Nat → Int32 → Int32 → Int32 → Hp → Option Hp) (l0 : Nat) (l1 : Nat) (l2 : Int32) (l3 : Int32) (l4 : Int32) (h : Hp) : Option Hp := bh ((l4) + (1 : Int32)) (fun x50 => K21 (l0) (l1) (l2) (l3) (x50) (h))
theorem f_X10_sendAll_194_ok {G : Gd} {d : Nat} (K21 : Nat → Nat → Int32 → Int32 → Int32 → Hp → Option Hp) (hj : 8 ≤ d) (hK21 : ∀ (l0 : Nat) (l1 : Nat) (l2 : Int32) (l3 : Int32) (l4 : Int32) (L : List (Nat × Value)) (h : Hp) (o : Hp), zlk L 0 = some (zrf (l0)) → zlk L 1 = some (zrf (l1)) → zlk L 2 = some (.int (l2)) → zlk L 3 = some (.int (l3)) → zlk L 4 = some (.int (l4)) → K21 l0 l1 l2 l3 l4 h = some o → Ev G M_X10_sendAll d 21 L [] h (Ret Y_X10_sendAll none o)) : ∀ (l0 : Nat) (l1 : Nat) (l2 : Int32) (l3 : Int32) (l4 : Int32) (L : List (Nat × Value)) (h : Hp) (o : Hp), zlk L 0 = some (zrf (l0)) → zlk L 1 = some (zrf (l1)) → zlk L 2 = some (.int (l2)) → zlk L 3 = some (.int (l3)) → zlk L 4 = some (.int (l4)) → f_X10_sendAll_194 K21 l0 l1 l2 l3 l4 h = some o → Ev G M_X10_sendAll d 194 L [] h (Ret Y_X10_sendAll none o) := by
  intro l0 l1 l2 l3 l4 L h o g0 g1 g2 g3 g4 e
  unfold f_X10_sendAll_194 at e
  replace e := bhd e
  obtain ⟨_, rfl, e⟩ := e
  refine s_iinc d_X10_sendAll_194 g4 (w := (1 : Int32)) (by decide +kernel) (by decide) (fun L g4 gK => ?_)
  replace g0 := gK _ _ (by decide) (Or.inr (zrf_cat _)) g0
  replace g1 := gK _ _ (by decide) (Or.inr (zrf_cat _)) g1
  replace g2 := gK _ _ (by decide) (Or.inr rfl) g2
  replace g3 := gK _ _ (by decide) (Or.inr rfl) g3
  refine r_goto d_X10_sendAll_197 (tgt := 21) (by decide) ?_
  exact hK21 _ _ _ _ _ _ _ _ g0 g1 g2 g3 g4 e

def f_X10_sendAll_171 (K21 : Nat → Nat → Int32 → Int32 → Int32 → Hp → Option Hp) (s0 : Int32) (l0 : Nat) (l1 : Nat) (l2 : Int32) (l3 : Int32) (l4 : Int32) (h : Hp) : Option Hp := if (s0) = (0) then (f_X10_sendAll_194 K21 (l0) (l1) (l2) (l3) (l4) (h)) else (ck (isO (h) (l1) 7) ((f_X6_works (l1) (h)).bind (fun q43 => if (q43.1) = (0) then (f_X10_sendAll_194 K21 (l0) (l1) (l2) (l3) (l4) (q43.2)) else (ck (isO (q43.2) (l1) 7) ((f_X6_forget (l1) (l3) (q43.2)).bind (fun q46 => ck (isO (q46) (l1) 7) ((f_X6_settle (l1) (q46)).bind (fun q48 => f_X10_sendAll_194 K21 (l0) (l1) (l2) (l3) (l4) (q48)))))))))
theorem f_X10_sendAll_171_ok {G : Gd} {d : Nat} (K21 : Nat → Nat → Int32 → Int32 → Int32 → Hp → Option Hp) (hj : 8 ≤ d) (hK21 : ∀ (l0 : Nat) (l1 : Nat) (l2 : Int32) (l3 : Int32) (l4 : Int32) (L : List (Nat × Value)) (h : Hp) (o : Hp), zlk L 0 = some (zrf (l0)) → zlk L 1 = some (zrf (l1)) → zlk L 2 = some (.int (l2)) → zlk L 3 = some (.int (l3)) → zlk L 4 = some (.int (l4)) → K21 l0 l1 l2 l3 l4 h = some o → Ev G M_X10_sendAll d 21 L [] h (Ret Y_X10_sendAll none o)) : ∀ (s0 : Int32) (l0 : Nat) (l1 : Nat) (l2 : Int32) (l3 : Int32) (l4 : Int32) (L : List (Nat × Value)) (h : Hp) (o : Hp), zlk L 0 = some (zrf (l0)) → zlk L 1 = some (zrf (l1)) → zlk L 2 = some (.int (l2)) → zlk L 3 = some (.int (l3)) → zlk L 4 = some (.int (l4)) → f_X10_sendAll_171 K21 s0 l0 l1 l2 l3 l4 h = some o → Ev G M_X10_sendAll d 171 L [.int (s0)] h (Ret Y_X10_sendAll none o) := by
  intro s0 l0 l1 l2 l3 l4 L h o g0 g1 g2 g3 g4 e
  unfold f_X10_sendAll_171 at e
  refine s_istore d_X10_sendAll_171 (by decide) (fun L g9 gK => ?_)
  replace g0 := gK _ _ (by decide) (Or.inr (zrf_cat _)) g0
  replace g1 := gK _ _ (by decide) (Or.inr (zrf_cat _)) g1
  replace g2 := gK _ _ (by decide) (Or.inr rfl) g2
  replace g3 := gK _ _ (by decide) (Or.inr rfl) g3
  replace g4 := gK _ _ (by decide) (Or.inr rfl) g4
  refine r_iload d_X10_sendAll_173 g9 ?_
  refine r_if_eq d_X10_sendAll_175 (tgt := 194) (by decide) (fun c42 => ?_) (fun c42 => ?_)
  · replace e := (if_pos c42).symm.trans e
    exact f_X10_sendAll_194_ok _ hj hK21 _ _ _ _ _ _ _ _ g0 g1 g2 g3 g4 e
  · replace e := (if_neg c42).symm.trans e
    refine g_ald_n d_X10_sendAll_178 rfl g1 ?_
    replace e := ckd e
    obtain ⟨k44, e⟩ := e
    replace e := bd e
    obtain ⟨q43, eq43, e⟩ := e
    refine g_callV d_X10_sendAll_179 vk_9_81 (as := []) rfl k44 rfl (by simp [zrf_cat, cat_int, cat_long]) (j := 1) (by omega) (c_X6_works (by omega) eq43) ?_
    refine r_if_eq d_X10_sendAll_182 (tgt := 194) (by decide) (fun c45 => ?_) (fun c45 => ?_)
    · replace e := (if_pos c45).symm.trans e
      exact f_X10_sendAll_194_ok _ hj hK21 _ _ _ _ _ _ _ _ g0 g1 g2 g3 g4 e
    · replace e := (if_neg c45).symm.trans e
      refine g_ald_n d_X10_sendAll_185 rfl g1 ?_
      refine r_iload_n d_X10_sendAll_186 rfl g3 ?_
      replace e := ckd e
      obtain ⟨k47, e⟩ := e
      replace e := bd e
      obtain ⟨q46, eq46, e⟩ := e
      refine g_callV d_X10_sendAll_187 vk_9_330 (as := [_]) rfl k47 rfl (by simp [zrf_cat, cat_int, cat_long]) (j := 4) (by omega) (c_X6_forget (by omega) eq46) ?_
      refine g_ald_n d_X10_sendAll_190 rfl g1 ?_
      replace e := ckd e
      obtain ⟨k49, e⟩ := e
      replace e := bd e
      obtain ⟨q48, eq48, e⟩ := e
      refine g_callV d_X10_sendAll_191 vk_9_108 (as := []) rfl k49 rfl (by simp [zrf_cat, cat_int, cat_long]) (j := 6) (by omega) (c_X6_settle (by omega) eq48) ?_
      exact f_X10_sendAll_194_ok _ hj hK21 _ _ _ _ _ _ _ _ g0 g1 g2 g3 g4 e

def f_X10_sendAll_68 (K21 : Nat → Nat → Int32 → Int32 → Int32 → Hp → Option Hp) (s0 : Nat) (l0 : Nat) (l1 : Nat) (l2 : Int32) (l4 : Int32) (l5 : Int32) (h : Hp) : Option Hp := if (s0) = 0 then (some (h)) else (ck (isO (h) (l1) 7) (ck (isO (h) (zR (h) 706 (l1)) 3) (ck (isO (h) (zR (h) 300 (zR (h) 706 (l1))) 22) (ck (inR (l5) (zL (h) (zR (h) 300 (zR (h) 706 (l1))))) (if (zE (h) (zR (h) 300 (zR (h) 706 (l1))) (l5).toNatClampNeg) < (l2) then (bh (zE (h) (zR (h) 300 (zR (h) 706 (l1))) (l5).toNatClampNeg) (fun x25 => ck (isO (h) (zR (h) 302 (zR (h) 706 (l1))) 22) (ck (inR (l5) (zL (h) (zR (h) 302 (zR (h) 706 (l1))))) (bh (zE (h) (zR (h) 302 (zR (h) 706 (l1))) (l5).toNatClampNeg) (fun x28 => ck (isO (h) (s0) 10) (ck (isO (h) (zR (h) 1002 (s0)) 2) (ck (isO (h) (zR (h) 200 (zR (h) 1002 (s0))) 22) (ck (inR (x28) (zL (h) (zR (h) 200 (zR (h) 1002 (s0))))) (bh (zE (h) (zR (h) 200 (zR (h) 1002 (s0))) (x28).toNatClampNeg) (fun x33 => if (x33) = ((6 : Int32)) then (ck (isO (h) (l0) 11) ((f_X10_sendStart (l0) (l1) (s0) (x28) (h)).bind (fun q40 => f_X10_sendAll_171 K21 (q40.1) (l0) (l1) (l2) (x25) (l4) (q40.2)))) else (if (x33) = ((9 : Int32)) then (ck (isO (h) (l0) 11) ((f_X10_sendSignal (l0) (s0) (x28) (h)).bind (fun q38 => f_X10_sendAll_171 K21 (q38.1) (l0) (l1) (l2) (x25) (l4) (q38.2)))) else (ck (isO (h) (l0) 11) ((f_X10_sendEnd (l0) (s0) (x28) (h)).bind (fun q36 => f_X10_sendAll_171 K21 (q36.1) (l0) (l1) (l2) (x25) (l4) (q36.2))))))))))))))) else (some (h)))))))
theorem f_X10_sendAll_68_ok {G : Gd} {d : Nat} (K21 : Nat → Nat → Int32 → Int32 → Int32 → Hp → Option Hp) (hj : 8 ≤ d) (hK21 : ∀ (l0 : Nat) (l1 : Nat) (l2 : Int32) (l3 : Int32) (l4 : Int32) (L : List (Nat × Value)) (h : Hp) (o : Hp), zlk L 0 = some (zrf (l0)) → zlk L 1 = some (zrf (l1)) → zlk L 2 = some (.int (l2)) → zlk L 3 = some (.int (l3)) → zlk L 4 = some (.int (l4)) → K21 l0 l1 l2 l3 l4 h = some o → Ev G M_X10_sendAll d 21 L [] h (Ret Y_X10_sendAll none o)) : ∀ (s0 : Nat) (l0 : Nat) (l1 : Nat) (l2 : Int32) (l4 : Int32) (l5 : Int32) (L : List (Nat × Value)) (h : Hp) (o : Hp), zlk L 0 = some (zrf (l0)) → zlk L 1 = some (zrf (l1)) → zlk L 2 = some (.int (l2)) → zlk L 4 = some (.int (l4)) → zlk L 5 = some (.int (l5)) → f_X10_sendAll_68 K21 s0 l0 l1 l2 l4 l5 h = some o → Ev G M_X10_sendAll d 68 L [zrf (s0)] h (Ret Y_X10_sendAll none o) := by
  intro s0 l0 l1 l2 l4 l5 L h o g0 g1 g2 g4 g5 e
  unfold f_X10_sendAll_68 at e
  refine s_ast d_X10_sendAll_68 (by decide) (fun L g6 gK => ?_)
  replace g0 := gK _ _ (by decide) (Or.inr (zrf_cat _)) g0
  replace g1 := gK _ _ (by decide) (Or.inr (zrf_cat _)) g1
  replace g2 := gK _ _ (by decide) (Or.inr rfl) g2
  replace g4 := gK _ _ (by decide) (Or.inr rfl) g4
  replace g5 := gK _ _ (by decide) (Or.inr rfl) g5
  refine g_ald d_X10_sendAll_70 g6 ?_
  refine g_ifnull d_X10_sendAll_72 (tgt := 89) (by decide) (fun c19 => ?_) (fun c19 => ?_)
  · replace e := (if_pos c19).symm.trans e
    obtain rfl := Option.some.inj e
    exact g_vret d_X10_sendAll_89 rfl
  · replace e := (if_neg c19).symm.trans e
    refine g_ald_n d_X10_sendAll_75 rfl g1 ?_
    replace e := ckd e
    obtain ⟨k20, e⟩ := e
    refine g_getR d_X10_sendAll_76 (f := 706) k20 fk_9_265 rfl rfl ?_
    replace e := ckd e
    obtain ⟨k21, e⟩ := e
    refine g_getR d_X10_sendAll_79 (f := 300) k21 fk_9_313 rfl rfl ?_
    refine r_iload d_X10_sendAll_82 g5 ?_
    replace e := ckd e
    obtain ⟨k22, e⟩ := e
    replace e := ckd e
    obtain ⟨k23, e⟩ := e
    refine g_iald d_X10_sendAll_84 k22 k23 rfl ?_
    refine r_iload_n d_X10_sendAll_85 rfl g2 ?_
    refine r_icmp_lt d_X10_sendAll_86 (tgt := 90) (by decide) (fun c24 => ?_) (fun c24 => ?_)
    · replace e := (if_pos c24).symm.trans e
      refine g_ald_n d_X10_sendAll_90 rfl g1 ?_
      refine g_getR d_X10_sendAll_91 (f := 706) k20 fk_9_265 rfl rfl ?_
      refine g_getR d_X10_sendAll_94 (f := 300) k21 fk_9_313 rfl rfl ?_
      refine r_iload d_X10_sendAll_97 g5 ?_
      refine g_iald d_X10_sendAll_99 k22 k23 rfl ?_
      replace e := bhd e
      obtain ⟨_, rfl, e⟩ := e
      refine s_istore_n d_X10_sendAll_100 rfl (by decide) (fun L g3 gK => ?_)
      replace g0 := gK _ _ (by decide) (Or.inr (zrf_cat _)) g0
      replace g1 := gK _ _ (by decide) (Or.inr (zrf_cat _)) g1
      replace g2 := gK _ _ (by decide) (Or.inr rfl) g2
      replace g4 := gK _ _ (by decide) (Or.inr rfl) g4
      replace g5 := gK _ _ (by decide) (Or.inr rfl) g5
      replace g6 := gK _ _ (by decide) (Or.inr (zrf_cat _)) g6
      refine g_ald_n d_X10_sendAll_101 rfl g1 ?_
      refine g_getR d_X10_sendAll_102 (f := 706) k20 fk_9_265 rfl rfl ?_
      refine g_getR d_X10_sendAll_105 (f := 302) k21 fk_9_316 rfl rfl ?_
      refine r_iload d_X10_sendAll_108 g5 ?_
      replace e := ckd e
      obtain ⟨k26, e⟩ := e
      replace e := ckd e
      obtain ⟨k27, e⟩ := e
      refine g_iald d_X10_sendAll_110 k26 k27 rfl ?_
      replace e := bhd e
      obtain ⟨_, rfl, e⟩ := e
      refine s_istore d_X10_sendAll_111 (by decide) (fun L g7 gK => ?_)
      replace g0 := gK _ _ (by decide) (Or.inr (zrf_cat _)) g0
      replace g1 := gK _ _ (by decide) (Or.inr (zrf_cat _)) g1
      replace g2 := gK _ _ (by decide) (Or.inr rfl) g2
      replace g3 := gK _ _ (by decide) (Or.inr rfl) g3
      replace g4 := gK _ _ (by decide) (Or.inr rfl) g4
      replace g6 := gK _ _ (by decide) (Or.inr (zrf_cat _)) g6
      refine g_ald d_X10_sendAll_113 g6 ?_
      replace e := ckd e
      obtain ⟨k29, e⟩ := e
      refine g_getR d_X10_sendAll_115 (f := 1002) k29 fk_9_114 rfl rfl ?_
      replace e := ckd e
      obtain ⟨k30, e⟩ := e
      refine g_getR d_X10_sendAll_118 (f := 200) k30 fk_9_247 rfl rfl ?_
      refine r_iload d_X10_sendAll_121 g7 ?_
      replace e := ckd e
      obtain ⟨k31, e⟩ := e
      replace e := ckd e
      obtain ⟨k32, e⟩ := e
      refine g_iald d_X10_sendAll_123 k31 k32 rfl ?_
      replace e := bhd e
      obtain ⟨_, rfl, e⟩ := e
      refine s_istore d_X10_sendAll_124 (by decide) (fun L g8 gK => ?_)
      replace g0 := gK _ _ (by decide) (Or.inr (zrf_cat _)) g0
      replace g1 := gK _ _ (by decide) (Or.inr (zrf_cat _)) g1
      replace g2 := gK _ _ (by decide) (Or.inr rfl) g2
      replace g3 := gK _ _ (by decide) (Or.inr rfl) g3
      replace g4 := gK _ _ (by decide) (Or.inr rfl) g4
      replace g6 := gK _ _ (by decide) (Or.inr (zrf_cat _)) g6
      replace g7 := gK _ _ (by decide) (Or.inr rfl) g7
      refine r_iload d_X10_sendAll_126 g8 ?_
      refine r_bipush d_X10_sendAll_128 (v := (6 : Int32)) (by decide +kernel) ?_
      refine r_icmp_ne d_X10_sendAll_130 (tgt := 145) (by decide) (fun c34 => ?_) (fun c34 => ?_)
      · replace e := (if_neg c34).symm.trans e
        refine r_iload d_X10_sendAll_145 g8 ?_
        refine r_bipush d_X10_sendAll_147 (v := (9 : Int32)) (by decide +kernel) ?_
        refine r_icmp_ne d_X10_sendAll_149 (tgt := 163) (by decide) (fun c35 => ?_) (fun c35 => ?_)
        · replace e := (if_neg c35).symm.trans e
          refine g_ald_n d_X10_sendAll_163 rfl g0 ?_
          refine g_ald d_X10_sendAll_164 g6 ?_
          refine r_iload d_X10_sendAll_166 g7 ?_
          replace e := ckd e
          obtain ⟨k37, e⟩ := e
          replace e := bd e
          obtain ⟨q36, eq36, e⟩ := e
          refine g_callV d_X10_sendAll_168 vk_9_327 (as := [_, _]) rfl k37 rfl (by simp [zrf_cat, cat_int, cat_long]) (j := 7) (by omega) (c_X10_sendEnd (by omega) eq36) ?_
          exact f_X10_sendAll_171_ok _ hj hK21 _ _ _ _ _ _ _ _ _ g0 g1 g2 g3 g4 e
        · replace e := (if_pos c35).symm.trans e
          refine g_ald_n d_X10_sendAll_152 rfl g0 ?_
          refine g_ald d_X10_sendAll_153 g6 ?_
          refine r_iload d_X10_sendAll_155 g7 ?_
          replace e := ckd e
          obtain ⟨k39, e⟩ := e
          replace e := bd e
          obtain ⟨q38, eq38, e⟩ := e
          refine g_callV d_X10_sendAll_157 vk_9_323 (as := [_, _]) rfl k39 rfl (by simp [zrf_cat, cat_int, cat_long]) (j := 7) (by omega) (c_X10_sendSignal (by omega) eq38) ?_
          refine r_goto d_X10_sendAll_160 (tgt := 171) (by decide) ?_
          exact f_X10_sendAll_171_ok _ hj hK21 _ _ _ _ _ _ _ _ _ g0 g1 g2 g3 g4 e
      · replace e := (if_pos c34).symm.trans e
        refine g_ald_n d_X10_sendAll_133 rfl g0 ?_
        refine g_ald_n d_X10_sendAll_134 rfl g1 ?_
        refine g_ald d_X10_sendAll_135 g6 ?_
        refine r_iload d_X10_sendAll_137 g7 ?_
        replace e := ckd e
        obtain ⟨k41, e⟩ := e
        replace e := bd e
        obtain ⟨q40, eq40, e⟩ := e
        refine g_callV d_X10_sendAll_139 vk_9_319 (as := [_, _, _]) rfl k41 rfl (by simp [zrf_cat, cat_int, cat_long]) (j := 7) (by omega) (c_X10_sendStart (by omega) eq40) ?_
        refine r_goto d_X10_sendAll_142 (tgt := 171) (by decide) ?_
        exact f_X10_sendAll_171_ok _ hj hK21 _ _ _ _ _ _ _ _ _ g0 g1 g2 g3 g4 e
    · replace e := (if_neg c24).symm.trans e
      obtain rfl := Option.some.inj e
      exact g_vret d_X10_sendAll_89 rfl

def f_X10_sendAll_21 : Nat → Nat → Nat → Int32 → Int32 → Int32 → Hp → Option Hp
  | 0, _, _, _, _, _, _ => none
  | n + 1, l0, l1, l2, l3, l4, h => if (l2) ≤ (l4) then (some (h)) else (ck (isO (h) (l1) 7) ((f_X6_works (l1) (h)).bind (fun q7 => if (q7.1) = (0) then (some (q7.2)) else (ck (isO (q7.2) (l1) 7) (ck (isO (q7.2) (zR (q7.2) 706 (l1)) 3) ((f_X2_firstBehind (zR (q7.2) 706 (l1)) (l3) (q7.2)).bind (fun q11 => if (q11.1) = ((-1 : Int32)) then (f_X10_sendAll_68 (f_X10_sendAll_21 n) (0) (l0) (l1) (l2) (l4) (q11.1) (q11.2)) else (ck (isO (q11.2) (l1) 7) (ck (isO (q11.2) (zR (q11.2) 706 (l1)) 3) (ck (isO (q11.2) (zR (q11.2) 301 (zR (q11.2) 706 (l1))) 22) (ck (inR (q11.1) (zL (q11.2) (zR (q11.2) 301 (zR (q11.2) 706 (l1))))) ((f_X6_row (l1) (zE (q11.2) (zR (q11.2) 301 (zR (q11.2) 706 (l1))) (q11.1).toNatClampNeg) (q11.2)).bind (fun q18 => f_X10_sendAll_68 (f_X10_sendAll_21 n) (q18.1) (l0) (l1) (l2) (l4) (q11.1) (q18.2))))))))))))))
theorem f_X10_sendAll_21_ok {G : Gd} {d : Nat} (hj : 8 ≤ d) : ∀ (n : Nat) (l0 : Nat) (l1 : Nat) (l2 : Int32) (l3 : Int32) (l4 : Int32) (L : List (Nat × Value)) (h : Hp) (o : Hp), zlk L 0 = some (zrf (l0)) → zlk L 1 = some (zrf (l1)) → zlk L 2 = some (.int (l2)) → zlk L 3 = some (.int (l3)) → zlk L 4 = some (.int (l4)) → f_X10_sendAll_21 n l0 l1 l2 l3 l4 h = some o → Ev G M_X10_sendAll d 21 L [] h (Ret Y_X10_sendAll none o) := by
  intro n
  induction n with
  | zero =>
    intro l0 l1 l2 l3 l4 L h o g0 g1 g2 g3 g4 e
    cases e
  | succ n ih =>
    intro l0 l1 l2 l3 l4 L h o g0 g1 g2 g3 g4 e
    unfold f_X10_sendAll_21 at e
    refine r_iload d_X10_sendAll_21 g4 ?_
    refine r_iload_n d_X10_sendAll_23 rfl g2 ?_
    refine r_icmp_ge d_X10_sendAll_24 (tgt := 200) (by decide) (fun c6 => ?_) (fun c6 => ?_)
    · replace e := (if_pos c6).symm.trans e
      obtain rfl := Option.some.inj e
      exact g_vret d_X10_sendAll_200 rfl
    · replace e := (if_neg c6).symm.trans e
      refine g_ald_n d_X10_sendAll_27 rfl g1 ?_
      replace e := ckd e
      obtain ⟨k8, e⟩ := e
      replace e := bd e
      obtain ⟨q7, eq7, e⟩ := e
      refine g_callV d_X10_sendAll_28 vk_9_81 (as := []) rfl k8 rfl (by simp [zrf_cat, cat_int, cat_long]) (j := 1) (by omega) (c_X6_works (by omega) eq7) ?_
      refine r_if_eq d_X10_sendAll_31 (tgt := 200) (by decide) (fun c9 => ?_) (fun c9 => ?_)
      · replace e := (if_pos c9).symm.trans e
        obtain rfl := Option.some.inj e
        exact g_vret d_X10_sendAll_200 rfl
      · replace e := (if_neg c9).symm.trans e
        refine g_ald_n d_X10_sendAll_34 rfl g1 ?_
        replace e := ckd e
        obtain ⟨k10, e⟩ := e
        refine g_getR d_X10_sendAll_35 (f := 706) k10 fk_9_265 rfl rfl ?_
        refine r_iload_n d_X10_sendAll_38 rfl g3 ?_
        replace e := ckd e
        obtain ⟨k12, e⟩ := e
        replace e := bd e
        obtain ⟨q11, eq11, e⟩ := e
        refine g_callV d_X10_sendAll_39 vk_9_307 (as := [_]) rfl k12 rfl (by simp [zrf_cat, cat_int, cat_long]) (j := 1) (by omega) (c_X2_firstBehind (by omega) eq11) ?_
        refine s_istore d_X10_sendAll_42 (by decide) (fun L g5 gK => ?_)
        replace g0 := gK _ _ (by decide) (Or.inr (zrf_cat _)) g0
        replace g1 := gK _ _ (by decide) (Or.inr (zrf_cat _)) g1
        replace g2 := gK _ _ (by decide) (Or.inr rfl) g2
        replace g4 := gK _ _ (by decide) (Or.inr rfl) g4
        refine r_iload d_X10_sendAll_44 g5 ?_
        refine r_iconst d_X10_sendAll_46 (v := (-1 : Int32)) (by decide +kernel) ?_
        refine r_icmp_ne d_X10_sendAll_47 (tgt := 54) (by decide) (fun c13 => ?_) (fun c13 => ?_)
        · replace e := (if_neg c13).symm.trans e
          refine g_ald_n d_X10_sendAll_54 rfl g1 ?_
          refine g_ald_n d_X10_sendAll_55 rfl g1 ?_
          replace e := ckd e
          obtain ⟨k14, e⟩ := e
          refine g_getR d_X10_sendAll_56 (f := 706) k14 fk_9_265 rfl rfl ?_
          replace e := ckd e
          obtain ⟨k15, e⟩ := e
          refine g_getR d_X10_sendAll_59 (f := 301) k15 fk_9_310 rfl rfl ?_
          refine r_iload d_X10_sendAll_62 g5 ?_
          replace e := ckd e
          obtain ⟨k16, e⟩ := e
          replace e := ckd e
          obtain ⟨k17, e⟩ := e
          refine g_iald d_X10_sendAll_64 k16 k17 rfl ?_
          replace e := bd e
          obtain ⟨q18, eq18, e⟩ := e
          refine g_callV d_X10_sendAll_65 vk_9_280 (as := [_]) rfl k14 rfl (by simp [zrf_cat, cat_int, cat_long]) (j := 1) (by omega) (c_X6_row (by omega) eq18) ?_
          exact f_X10_sendAll_68_ok _ hj ih _ _ _ _ _ _ _ _ _ g0 g1 g2 g4 g5 e
        · replace e := (if_pos c13).symm.trans e
          refine g_null d_X10_sendAll_50 ?_
          refine r_goto d_X10_sendAll_51 (tgt := 68) (by decide) ?_
          exact f_X10_sendAll_68_ok _ hj ih _ _ _ _ _ _ _ _ _ g0 g1 g2 g4 g5 e

def f_X10_sendAll_15 (s0 : Int32) (l0 : Nat) (l1 : Nat) (h : Hp) : Option Hp := f_X10_sendAll_21 fz (l0) (l1) (s0) ((-1 : Int32)) ((0 : Int32)) (h)
theorem f_X10_sendAll_15_ok {G : Gd} {d : Nat} (hj : 8 ≤ d) : ∀ (s0 : Int32) (l0 : Nat) (l1 : Nat) (L : List (Nat × Value)) (h : Hp) (o : Hp), zlk L 0 = some (zrf (l0)) → zlk L 1 = some (zrf (l1)) → f_X10_sendAll_15 s0 l0 l1 h = some o → Ev G M_X10_sendAll d 15 L [.int (s0)] h (Ret Y_X10_sendAll none o) := by
  intro s0 l0 l1 L h o g0 g1 e
  unfold f_X10_sendAll_15 at e
  refine s_istore_n d_X10_sendAll_15 rfl (by decide) (fun L g2 gK => ?_)
  replace g0 := gK _ _ (by decide) (Or.inr (zrf_cat _)) g0
  replace g1 := gK _ _ (by decide) (Or.inr (zrf_cat _)) g1
  refine r_iconst d_X10_sendAll_16 (v := (-1 : Int32)) (by decide +kernel) ?_
  refine s_istore_n d_X10_sendAll_17 rfl (by decide) (fun L g3 gK => ?_)
  replace g0 := gK _ _ (by decide) (Or.inr (zrf_cat _)) g0
  replace g1 := gK _ _ (by decide) (Or.inr (zrf_cat _)) g1
  replace g2 := gK _ _ (by decide) (Or.inr rfl) g2
  refine r_iconst d_X10_sendAll_18 (v := (0 : Int32)) (by decide +kernel) ?_
  refine s_istore d_X10_sendAll_19 (by decide) (fun L g4 gK => ?_)
  replace g0 := gK _ _ (by decide) (Or.inr (zrf_cat _)) g0
  replace g1 := gK _ _ (by decide) (Or.inr (zrf_cat _)) g1
  replace g2 := gK _ _ (by decide) (Or.inr rfl) g2
  replace g3 := gK _ _ (by decide) (Or.inr rfl) g3
  exact f_X10_sendAll_21_ok hj _ _ _ _ _ _ _ _ _ g0 g1 g2 g3 g4 e

def f_X10_sendAll (l0 : Nat) (l1 : Nat) (h : Hp) : Option Hp := ck (isO (h) (l1) 7) ((f_X6_works (l1) (h)).bind (fun q1 => if (q1.1) = (0) then (f_X10_sendAll_15 ((0 : Int32)) (l0) (l1) (q1.2)) else (ck (isO (q1.2) (l1) 7) ((f_X6_records (l1) (q1.2)).bind (fun q4 => f_X10_sendAll_15 (q4.1) (l0) (l1) (q4.2))))))
theorem f_X10_sendAll_ok {G : Gd} {d : Nat} (hj : 8 ≤ d) : ∀ (l0 : Nat) (l1 : Nat) (L : List (Nat × Value)) (h : Hp) (o : Hp), zlk L 0 = some (zrf (l0)) → zlk L 1 = some (zrf (l1)) → f_X10_sendAll l0 l1 h = some o → Ev G M_X10_sendAll d 0 L [] h (Ret Y_X10_sendAll none o) := by
  intro l0 l1 L h o g0 g1 e
  unfold f_X10_sendAll at e
  refine g_ald_n d_X10_sendAll_0 rfl g1 ?_
  replace e := ckd e
  obtain ⟨k2, e⟩ := e
  replace e := bd e
  obtain ⟨q1, eq1, e⟩ := e
  refine g_callV d_X10_sendAll_1 vk_9_81 (as := []) rfl k2 rfl (by simp [zrf_cat, cat_int, cat_long]) (j := 1) (by omega) (c_X6_works (by omega) eq1) ?_
  refine r_if_eq d_X10_sendAll_4 (tgt := 14) (by decide) (fun c3 => ?_) (fun c3 => ?_)
  · replace e := (if_pos c3).symm.trans e
    refine r_iconst d_X10_sendAll_14 (v := (0 : Int32)) (by decide +kernel) ?_
    exact f_X10_sendAll_15_ok hj _ _ _ _ _ _ g0 g1 e
  · replace e := (if_neg c3).symm.trans e
    refine g_ald_n d_X10_sendAll_7 rfl g1 ?_
    replace e := ckd e
    obtain ⟨k5, e⟩ := e
    replace e := bd e
    obtain ⟨q4, eq4, e⟩ := e
    refine g_callV d_X10_sendAll_8 vk_9_304 (as := []) rfl k5 rfl (by simp [zrf_cat, cat_int, cat_long]) (j := 1) (by omega) (c_X6_records (by omega) eq4) ?_
    refine r_goto d_X10_sendAll_11 (tgt := 15) (by decide) ?_
    exact f_X10_sendAll_15_ok hj _ _ _ _ _ _ g0 g1 e

theorem c_X10_sendAll {G : Gd} {j : Nat} (hj : 8 ≤ j) {l0 : Nat} {l1 : Nat} {h : Hp} {o : Hp} (e : f_X10_sendAll l0 l1 h = some o) : Cal G j Y_X10_sendAll [zrf (l0), zrf (l1)] h none o := Cal.of (n := 0) (I := false) (by first | exact Or.inl (by decide +kernel) | exact Or.inr (by decide +kernel)) (by decide) (by simp [lg_sl, zrf_cat, cat_int, cat_long]) (f_X10_sendAll_ok hj _ _ _ h o (by simp [lv_args, zlk, zrf_cat, cat_int, cat_long]) (by simp [lv_args, zlk, zrf_cat, cat_int, cat_long]) e)
theorem fk_10_98 : Fk "TaskWeaveModel" 98 1236 := ⟨by decide, by decide, by decide +kernel⟩
theorem fk_10_101 : Fk "TaskWeaveModel" 101 1237 := ⟨by decide, by decide, by decide +kernel⟩
theorem fk_10_92 : Fk "TaskWeaveModel" 92 1234 := ⟨by decide, by decide, by decide +kernel⟩
theorem fk_10_95 : Fk "TaskWeaveModel" 95 1235 := ⟨by decide, by decide, by decide +kernel⟩
theorem fk_10_86 : Fk "TaskWeaveModel" 86 1232 := ⟨by decide, by decide, by decide +kernel⟩
def f_X11_fresh_46 (K18 : Nat → Int32 → Int32 → Int32 → Hp → Option Hp) (s0 : Nat) (s1 : Int32) (s2 : Int32) (l0 : Nat) (l1 : Int32) (l2 : Int32) (l3 : Int32) (h : Hp) : Option Hp := ck (isO (h) (s0) 23) (ck (inR (s1) (zL (h) (s0))) (bh (pE (h) (s0) (s1).toNatClampNeg (((s2) &&& 1))) (fun h14 => ck (isO (h14) (l0) 12) (ck (isO (h14) (zR (h14) 1235 (l0)) 22) (ck (inR (l3) (zL (h14) (zR (h14) 1235 (l0)))) (bh (pE (h14) (zR (h14) 1235 (l0)) (l3).toNatClampNeg ((-1 : Int32))) (fun h18 => ck (isO (h18) (zR (h18) 1232 (l0)) 22) (ck (inR (l3) (zL (h18) (zR (h18) 1232 (l0)))) (bh (pE (h18) (zR (h18) 1232 (l0)) (l3).toNatClampNeg ((0 : Int32))) (fun h21 => bh ((l3) + (1 : Int32)) (fun x22 => K18 (l0) (l1) (l2) (x22) (h21))))))))))))
theorem f_X11_fresh_46_ok {G : Gd} {d : Nat} (K18 : Nat → Int32 → Int32 → Int32 → Hp → Option Hp) (hj : 1 ≤ d) (hK18 : ∀ (l0 : Nat) (l1 : Int32) (l2 : Int32) (l3 : Int32) (L : List (Nat × Value)) (h : Hp) (o : Hp), zlk L 0 = some (zrf (l0)) → zlk L 1 = some (.int (l1)) → zlk L 2 = some (.int (l2)) → zlk L 3 = some (.int (l3)) → K18 l0 l1 l2 l3 h = some o → Ev G M_X11_fresh d 18 L [] h (Ret Y_X11_fresh none o)) : ∀ (s0 : Nat) (s1 : Int32) (s2 : Int32) (l0 : Nat) (l1 : Int32) (l2 : Int32) (l3 : Int32) (L : List (Nat × Value)) (h : Hp) (o : Hp), zlk L 0 = some (zrf (l0)) → zlk L 1 = some (.int (l1)) → zlk L 2 = some (.int (l2)) → zlk L 3 = some (.int (l3)) → f_X11_fresh_46 K18 s0 s1 s2 l0 l1 l2 l3 h = some o → Ev G M_X11_fresh d 46 L [.int (s2), .int (s1), zrf (s0)] h (Ret Y_X11_fresh none o) := by
  intro s0 s1 s2 l0 l1 l2 l3 L h o g0 g1 g2 g3 e
  unfold f_X11_fresh_46 at e
  replace e := ckd e
  obtain ⟨k12, e⟩ := e
  replace e := ckd e
  obtain ⟨k13, e⟩ := e
  refine g_zast d_X11_fresh_46 k12 k13 ?_
  replace e := bhd e
  obtain ⟨_, rfl, e⟩ := e
  refine g_ald_n d_X11_fresh_47 rfl g0 ?_
  replace e := ckd e
  obtain ⟨k15, e⟩ := e
  refine g_getR d_X11_fresh_48 (f := 1235) k15 fk_10_95 rfl rfl ?_
  refine r_iload_n d_X11_fresh_51 rfl g3 ?_
  refine r_iconst d_X11_fresh_52 (v := (-1 : Int32)) (by decide +kernel) ?_
  replace e := ckd e
  obtain ⟨k16, e⟩ := e
  replace e := ckd e
  obtain ⟨k17, e⟩ := e
  refine g_iast d_X11_fresh_53 k16 k17 ?_
  replace e := bhd e
  obtain ⟨_, rfl, e⟩ := e
  refine g_ald_n d_X11_fresh_54 rfl g0 ?_
  refine g_getR d_X11_fresh_55 (f := 1232) (tO_pE k15) fk_10_86 rfl rfl ?_
  refine r_iload_n d_X11_fresh_58 rfl g3 ?_
  refine r_iconst d_X11_fresh_59 (v := (0 : Int32)) (by decide +kernel) ?_
  replace e := ckd e
  obtain ⟨k19, e⟩ := e
  replace e := ckd e
  obtain ⟨k20, e⟩ := e
  refine g_iast d_X11_fresh_60 k19 k20 ?_
  replace e := bhd e
  obtain ⟨_, rfl, e⟩ := e
  replace e := bhd e
  obtain ⟨_, rfl, e⟩ := e
  refine s_iinc d_X11_fresh_61 g3 (w := (1 : Int32)) (by decide +kernel) (by decide) (fun L g3 gK => ?_)
  replace g0 := gK _ _ (by decide) (Or.inr (zrf_cat _)) g0
  replace g1 := gK _ _ (by decide) (Or.inr rfl) g1
  replace g2 := gK _ _ (by decide) (Or.inr rfl) g2
  refine r_goto d_X11_fresh_64 (tgt := 18) (by decide) ?_
  exact hK18 _ _ _ _ _ _ _ g0 g1 g2 g3 e

def f_X11_fresh_18 : Nat → Nat → Int32 → Int32 → Int32 → Hp → Option Hp
  | 0, _, _, _, _, _ => none
  | n + 1, l0, l1, l2, l3, h => if ((((5 : Int32)) * (l1)) + ((5 : Int32))) ≤ (l3) then (some (h)) else (ck (isO (h) (l0) 12) (if ((((5 : Int32)) * (l1)) + (l2)) ≤ (l3) then (f_X11_fresh_46 (f_X11_fresh_18 n) (zR (h) 1234 (l0)) (l3) ((0 : Int32)) (l0) (l1) (l2) (l3) (h)) else (f_X11_fresh_46 (f_X11_fresh_18 n) (zR (h) 1234 (l0)) (l3) ((1 : Int32)) (l0) (l1) (l2) (l3) (h))))
theorem f_X11_fresh_18_ok {G : Gd} {d : Nat} (hj : 1 ≤ d) : ∀ (n : Nat) (l0 : Nat) (l1 : Int32) (l2 : Int32) (l3 : Int32) (L : List (Nat × Value)) (h : Hp) (o : Hp), zlk L 0 = some (zrf (l0)) → zlk L 1 = some (.int (l1)) → zlk L 2 = some (.int (l2)) → zlk L 3 = some (.int (l3)) → f_X11_fresh_18 n l0 l1 l2 l3 h = some o → Ev G M_X11_fresh d 18 L [] h (Ret Y_X11_fresh none o) := by
  intro n
  induction n with
  | zero =>
    intro l0 l1 l2 l3 L h o g0 g1 g2 g3 e
    cases e
  | succ n ih =>
    intro l0 l1 l2 l3 L h o g0 g1 g2 g3 e
    unfold f_X11_fresh_18 at e
    refine r_iload_n d_X11_fresh_18 rfl g3 ?_
    refine r_iconst d_X11_fresh_19 (v := (5 : Int32)) (by decide +kernel) ?_
    refine r_iload_n d_X11_fresh_20 rfl g1 ?_
    refine r_imul d_X11_fresh_21 ?_
    refine r_iconst d_X11_fresh_22 (v := (5 : Int32)) (by decide +kernel) ?_
    refine r_iadd d_X11_fresh_23 ?_
    refine r_icmp_ge d_X11_fresh_24 (tgt := 67) (by decide) (fun c9 => ?_) (fun c9 => ?_)
    · replace e := (if_pos c9).symm.trans e
      obtain rfl := Option.some.inj e
      exact g_vret d_X11_fresh_67 rfl
    · replace e := (if_neg c9).symm.trans e
      refine g_ald_n d_X11_fresh_27 rfl g0 ?_
      replace e := ckd e
      obtain ⟨k10, e⟩ := e
      refine g_getR d_X11_fresh_28 (f := 1234) k10 fk_10_92 rfl rfl ?_
      refine r_iload_n d_X11_fresh_31 rfl g3 ?_
      refine r_iload_n d_X11_fresh_32 rfl g3 ?_
      refine r_iconst d_X11_fresh_33 (v := (5 : Int32)) (by decide +kernel) ?_
      refine r_iload_n d_X11_fresh_34 rfl g1 ?_
      refine r_imul d_X11_fresh_35 ?_
      refine r_iload_n d_X11_fresh_36 rfl g2 ?_
      refine r_iadd d_X11_fresh_37 ?_
      refine r_icmp_ge d_X11_fresh_38 (tgt := 45) (by decide) (fun c11 => ?_) (fun c11 => ?_)
      · replace e := (if_pos c11).symm.trans e
        refine r_iconst d_X11_fresh_45 (v := (0 : Int32)) (by decide +kernel) ?_
        exact f_X11_fresh_46_ok _ hj ih _ _ _ _ _ _ _ _ _ _ g0 g1 g2 g3 e
      · replace e := (if_neg c11).symm.trans e
        refine r_iconst d_X11_fresh_41 (v := (1 : Int32)) (by decide +kernel) ?_
        refine r_goto d_X11_fresh_42 (tgt := 46) (by decide) ?_
        exact f_X11_fresh_46_ok _ hj ih _ _ _ _ _ _ _ _ _ _ g0 g1 g2 g3 e

def f_X11_fresh (l0 : Nat) (l1 : Int32) (l2 : Int32) (h : Hp) : Option Hp := ck (isO (h) (l0) 12) (ck (isO (h) (zR (h) 1236 (l0)) 22) (ck (inR (l1) (zL (h) (zR (h) 1236 (l0)))) (bh (pE (h) (zR (h) 1236 (l0)) (l1).toNatClampNeg (l2)) (fun h4 => ck (isO (h4) (zR (h4) 1237 (l0)) 22) (ck (inR (l1) (zL (h4) (zR (h4) 1237 (l0)))) (bh (pE (h4) (zR (h4) 1237 (l0)) (l1).toNatClampNeg ((0 : Int32))) (fun h7 => bh (((5 : Int32)) * (l1)) (fun x8 => f_X11_fresh_18 fz (l0) (l1) (l2) (x8) (h7)))))))))
theorem f_X11_fresh_ok {G : Gd} {d : Nat} (hj : 1 ≤ d) : ∀ (l0 : Nat) (l1 : Int32) (l2 : Int32) (L : List (Nat × Value)) (h : Hp) (o : Hp), zlk L 0 = some (zrf (l0)) → zlk L 1 = some (.int (l1)) → zlk L 2 = some (.int (l2)) → f_X11_fresh l0 l1 l2 h = some o → Ev G M_X11_fresh d 0 L [] h (Ret Y_X11_fresh none o) := by
  intro l0 l1 l2 L h o g0 g1 g2 e
  unfold f_X11_fresh at e
  refine g_ald_n d_X11_fresh_0 rfl g0 ?_
  replace e := ckd e
  obtain ⟨k1, e⟩ := e
  refine g_getR d_X11_fresh_1 (f := 1236) k1 fk_10_98 rfl rfl ?_
  refine r_iload_n d_X11_fresh_4 rfl g1 ?_
  refine r_iload_n d_X11_fresh_5 rfl g2 ?_
  replace e := ckd e
  obtain ⟨k2, e⟩ := e
  replace e := ckd e
  obtain ⟨k3, e⟩ := e
  refine g_iast d_X11_fresh_6 k2 k3 ?_
  replace e := bhd e
  obtain ⟨_, rfl, e⟩ := e
  refine g_ald_n d_X11_fresh_7 rfl g0 ?_
  refine g_getR d_X11_fresh_8 (f := 1237) (tO_pE k1) fk_10_101 rfl rfl ?_
  refine r_iload_n d_X11_fresh_11 rfl g1 ?_
  refine r_iconst d_X11_fresh_12 (v := (0 : Int32)) (by decide +kernel) ?_
  replace e := ckd e
  obtain ⟨k5, e⟩ := e
  replace e := ckd e
  obtain ⟨k6, e⟩ := e
  refine g_iast d_X11_fresh_13 k5 k6 ?_
  replace e := bhd e
  obtain ⟨_, rfl, e⟩ := e
  refine r_iconst d_X11_fresh_14 (v := (5 : Int32)) (by decide +kernel) ?_
  refine r_iload_n d_X11_fresh_15 rfl g1 ?_
  refine r_imul d_X11_fresh_16 ?_
  replace e := bhd e
  obtain ⟨_, rfl, e⟩ := e
  refine s_istore_n d_X11_fresh_17 rfl (by decide) (fun L g3 gK => ?_)
  replace g0 := gK _ _ (by decide) (Or.inr (zrf_cat _)) g0
  replace g1 := gK _ _ (by decide) (Or.inr rfl) g1
  replace g2 := gK _ _ (by decide) (Or.inr rfl) g2
  exact f_X11_fresh_18_ok hj _ _ _ _ _ _ _ _ g0 g1 g2 g3 e

theorem c_X11_fresh {G : Gd} {j : Nat} (hj : 1 ≤ j) {l0 : Nat} {l1 : Int32} {l2 : Int32} {h : Hp} {o : Hp} (e : f_X11_fresh l0 l1 l2 h = some o) : Cal G j Y_X11_fresh [zrf (l0), .int (l1), .int (l2)] h none o := Cal.of (n := 0) (I := false) (by first | exact Or.inl (by decide +kernel) | exact Or.inr (by decide +kernel)) (by decide) (by simp [lg_sl, zrf_cat, cat_int, cat_long]) (f_X11_fresh_ok hj _ _ _ _ h o (by simp [lv_args, zlk, zrf_cat, cat_int, cat_long]) (by simp [lv_args, zlk, zrf_cat, cat_int, cat_long]) (by simp [lv_args, zlk, zrf_cat, cat_int, cat_long]) e)
theorem fk_10_7 : Fk "TaskWeaveModel" 7 1203 := ⟨by decide, by decide, by decide +kernel⟩
theorem fk_10_13 : Fk "TaskWeaveModel" 13 1205 := ⟨by decide, by decide, by decide +kernel⟩
theorem fk_10_17 : Fk "TaskWeaveModel" 17 1207 := ⟨by decide, by decide, by decide +kernel⟩
theorem fk_10_20 : Fk "TaskWeaveModel" 20 1208 := ⟨by decide, by decide, by decide +kernel⟩
theorem fk_10_23 : Fk "TaskWeaveModel" 23 1209 := ⟨by decide, by decide, by decide +kernel⟩
theorem fk_10_26 : Fk "TaskWeaveModel" 26 1210 := ⟨by decide, by decide, by decide +kernel⟩
theorem fk_10_29 : Fk "TaskWeaveModel" 29 1211 := ⟨by decide, by decide, by decide +kernel⟩
theorem fk_10_32 : Fk "TaskWeaveModel" 32 1212 := ⟨by decide, by decide, by decide +kernel⟩
theorem fk_10_35 : Fk "TaskWeaveModel" 35 1214 := ⟨by decide, by decide, by decide +kernel⟩
theorem fk_10_38 : Fk "TaskWeaveModel" 38 1215 := ⟨by decide, by decide, by decide +kernel⟩
theorem fk_10_41 : Fk "TaskWeaveModel" 41 1216 := ⟨by decide, by decide, by decide +kernel⟩
theorem fk_10_45 : Fk "TaskWeaveModel" 45 1217 := ⟨by decide, by decide, by decide +kernel⟩
theorem fk_10_48 : Fk "TaskWeaveModel" 48 1218 := ⟨by decide, by decide, by decide +kernel⟩
theorem fk_10_51 : Fk "TaskWeaveModel" 51 1219 := ⟨by decide, by decide, by decide +kernel⟩
theorem fk_10_54 : Fk "TaskWeaveModel" 54 1220 := ⟨by decide, by decide, by decide +kernel⟩
theorem fk_10_57 : Fk "TaskWeaveModel" 57 1221 := ⟨by decide, by decide, by decide +kernel⟩
theorem fk_10_60 : Fk "TaskWeaveModel" 60 1222 := ⟨by decide, by decide, by decide +kernel⟩
theorem fk_10_64 : Fk "TaskWeaveModel" 64 1225 := ⟨by decide, by decide, by decide +kernel⟩
theorem fk_10_67 : Fk "TaskWeaveModel" 67 1226 := ⟨by decide, by decide, by decide +kernel⟩
theorem fk_10_70 : Fk "TaskWeaveModel" 70 1227 := ⟨by decide, by decide, by decide +kernel⟩
theorem fk_10_73 : Fk "TaskWeaveModel" 73 1228 := ⟨by decide, by decide, by decide +kernel⟩
theorem fk_10_76 : Fk "TaskWeaveModel" 76 1229 := ⟨by decide, by decide, by decide +kernel⟩
theorem fk_10_80 : Fk "TaskWeaveModel" 80 1230 := ⟨by decide, by decide, by decide +kernel⟩
theorem fk_10_83 : Fk "TaskWeaveModel" 83 1231 := ⟨by decide, by decide, by decide +kernel⟩
theorem fk_10_89 : Fk "TaskWeaveModel" 89 1233 := ⟨by decide, by decide, by decide +kernel⟩
theorem fk_10_104 : Fk "TaskWeaveModel" 104 1238 := ⟨by decide, by decide, by decide +kernel⟩
theorem fk_10_107 : Fk "TaskWeaveModel" 107 1239 := ⟨by decide, by decide, by decide +kernel⟩
theorem fk_10_110 : Fk "TaskWeaveModel" 110 1240 := ⟨by decide, by decide, by decide +kernel⟩
theorem fk_10_113 : Fk "TaskWeaveModel" 113 1241 := ⟨by decide, by decide, by decide +kernel⟩
theorem fk_10_116 : Fk "TaskWeaveModel" 116 1242 := ⟨by decide, by decide, by decide +kernel⟩
theorem fk_10_119 : Fk "TaskWeaveModel" 119 1243 := ⟨by decide, by decide, by decide +kernel⟩
theorem fk_10_122 : Fk "TaskWeaveModel" 122 1244 := ⟨by decide, by decide, by decide +kernel⟩
theorem fk_10_125 : Fk "TaskWeaveModel" 125 1245 := ⟨by decide, by decide, by decide +kernel⟩
theorem fk_10_128 : Fk "TaskWeaveModel" 128 1246 := ⟨by decide, by decide, by decide +kernel⟩
theorem fk_10_131 : Fk "TaskWeaveModel" 131 1247 := ⟨by decide, by decide, by decide +kernel⟩
theorem fk_10_134 : Fk "TaskWeaveModel" 134 1248 := ⟨by decide, by decide, by decide +kernel⟩
theorem fk_10_137 : Fk "TaskWeaveModel" 137 1249 := ⟨by decide, by decide, by decide +kernel⟩
theorem fk_10_140 : Fk "TaskWeaveModel" 140 1250 := ⟨by decide, by decide, by decide +kernel⟩
theorem fk_10_143 : Fk "TaskWeaveModel" 143 1251 := ⟨by decide, by decide, by decide +kernel⟩
theorem fk_10_146 : Fk "TaskWeaveModel" 146 1252 := ⟨by decide, by decide, by decide +kernel⟩
theorem fk_10_149 : Fk "TaskWeaveModel" 149 1253 := ⟨by decide, by decide, by decide +kernel⟩
theorem fk_10_152 : Fk "TaskWeaveModel" 152 1254 := ⟨by decide, by decide, by decide +kernel⟩
theorem fk_10_155 : Fk "TaskWeaveModel" 155 1255 := ⟨by decide, by decide, by decide +kernel⟩
theorem fk_10_158 : Fk "TaskWeaveModel" 158 1256 := ⟨by decide, by decide, by decide +kernel⟩
theorem fk_10_161 : Fk "TaskWeaveModel" 161 1257 := ⟨by decide, by decide, by decide +kernel⟩
theorem fk_10_164 : Fk "TaskWeaveModel" 164 1258 := ⟨by decide, by decide, by decide +kernel⟩
theorem fk_10_167 : Fk "TaskWeaveModel" 167 1259 := ⟨by decide, by decide, by decide +kernel⟩
theorem fk_10_170 : Fk "TaskWeaveModel" 170 1260 := ⟨by decide, by decide, by decide +kernel⟩
theorem fk_10_173 : Fk "TaskWeaveModel" 173 1261 := ⟨by decide, by decide, by decide +kernel⟩
theorem fk_10_176 : Fk "TaskWeaveModel" 176 1262 := ⟨by decide, by decide, by decide +kernel⟩
theorem vk_10_179 : Vk "TaskWeaveModel" 179 2 12 Y_X11_fresh := ⟨yk_X11_fresh, by decide +kernel, by decide +kernel, by decide +kernel, by decide⟩
def f_X11_init_479 : Nat → Nat → Int32 → Hp → Option Hp
  | 0, _, _, _ => none
  | n + 1, l0, l1, h => if ((4 : Int32)) ≤ (l1) then (some (h)) else (ck (isO (h) (l0) 12) ((f_X11_fresh (l0) (l1) ((3 : Int32)) (h)).bind (fun q172 => bh ((l1) + (1 : Int32)) (fun x174 => f_X11_init_479 n (l0) (x174) (q172)))))
theorem f_X11_init_479_ok {G : Gd} {d : Nat} (hj : 2 ≤ d) : ∀ (n : Nat) (l0 : Nat) (l1 : Int32) (L : List (Nat × Value)) (h : Hp) (o : Hp), zlk L 0 = some (zrf (l0)) → zlk L 1 = some (.int (l1)) → f_X11_init_479 n l0 l1 h = some o → Ev G M_X11_init d 479 L [] h (Ret Y_X11_init none o) := by
  intro n
  induction n with
  | zero =>
    intro l0 l1 L h o g0 g1 e
    cases e
  | succ n ih =>
    intro l0 l1 L h o g0 g1 e
    unfold f_X11_init_479 at e
    refine r_iload_n d_X11_init_479 rfl g1 ?_
    refine r_iconst d_X11_init_480 (v := (4 : Int32)) (by decide +kernel) ?_
    refine r_icmp_ge d_X11_init_481 (tgt := 496) (by decide) (fun c171 => ?_) (fun c171 => ?_)
    · replace e := (if_pos c171).symm.trans e
      obtain rfl := Option.some.inj e
      exact g_vret d_X11_init_496 rfl
    · replace e := (if_neg c171).symm.trans e
      refine g_ald_n d_X11_init_484 rfl g0 ?_
      refine r_iload_n d_X11_init_485 rfl g1 ?_
      refine r_iconst d_X11_init_486 (v := (3 : Int32)) (by decide +kernel) ?_
      replace e := ckd e
      obtain ⟨k173, e⟩ := e
      replace e := bd e
      obtain ⟨q172, eq172, e⟩ := e
      refine g_callV d_X11_init_487 vk_10_179 (as := [_, _]) rfl k173 rfl (by simp [zrf_cat, cat_int, cat_long]) (j := 1) (by omega) (c_X11_fresh (by omega) eq172) ?_
      replace e := bhd e
      obtain ⟨_, rfl, e⟩ := e
      refine s_iinc d_X11_init_490 g1 (w := (1 : Int32)) (by decide +kernel) (by decide) (fun L g1 gK => ?_)
      replace g0 := gK _ _ (by decide) (Or.inr (zrf_cat _)) g0
      refine r_goto d_X11_init_493 (tgt := 479) (by decide) ?_
      exact ih _ _ _ _ _ g0 g1 e

def f_X11_init_458 : Nat → Nat → Int32 → Hp → Option Hp
  | 0, _, _, _ => none
  | n + 1, l0, l1, h => if ((8 : Int32)) ≤ (l1) then (f_X11_init_479 fz (l0) ((0 : Int32)) (h)) else (ck (isO (h) (l0) 12) (ck (isO (h) (zR (h) 1211 (l0)) 22) (ck (inR (l1) (zL (h) (zR (h) 1211 (l0)))) (bh (pE (h) (zR (h) 1211 (l0)) (l1).toNatClampNeg ((-1 : Int32))) (fun h169 => bh ((l1) + (1 : Int32)) (fun x170 => f_X11_init_458 n (l0) (x170) (h169)))))))
theorem f_X11_init_458_ok {G : Gd} {d : Nat} (hj : 2 ≤ d) : ∀ (n : Nat) (l0 : Nat) (l1 : Int32) (L : List (Nat × Value)) (h : Hp) (o : Hp), zlk L 0 = some (zrf (l0)) → zlk L 1 = some (.int (l1)) → f_X11_init_458 n l0 l1 h = some o → Ev G M_X11_init d 458 L [] h (Ret Y_X11_init none o) := by
  intro n
  induction n with
  | zero =>
    intro l0 l1 L h o g0 g1 e
    cases e
  | succ n ih =>
    intro l0 l1 L h o g0 g1 e
    unfold f_X11_init_458 at e
    refine r_iload_n d_X11_init_458 rfl g1 ?_
    refine r_bipush d_X11_init_459 (v := (8 : Int32)) (by decide +kernel) ?_
    refine r_icmp_ge d_X11_init_461 (tgt := 477) (by decide) (fun c165 => ?_) (fun c165 => ?_)
    · replace e := (if_pos c165).symm.trans e
      refine r_iconst d_X11_init_477 (v := (0 : Int32)) (by decide +kernel) ?_
      refine s_istore_n d_X11_init_478 rfl (by decide) (fun L g1 gK => ?_)
      replace g0 := gK _ _ (by decide) (Or.inr (zrf_cat _)) g0
      exact f_X11_init_479_ok hj _ _ _ _ _ _ g0 g1 e
    · replace e := (if_neg c165).symm.trans e
      refine g_ald_n d_X11_init_464 rfl g0 ?_
      replace e := ckd e
      obtain ⟨k166, e⟩ := e
      refine g_getR d_X11_init_465 (f := 1211) k166 fk_10_29 rfl rfl ?_
      refine r_iload_n d_X11_init_468 rfl g1 ?_
      refine r_iconst d_X11_init_469 (v := (-1 : Int32)) (by decide +kernel) ?_
      replace e := ckd e
      obtain ⟨k167, e⟩ := e
      replace e := ckd e
      obtain ⟨k168, e⟩ := e
      refine g_iast d_X11_init_470 k167 k168 ?_
      replace e := bhd e
      obtain ⟨_, rfl, e⟩ := e
      replace e := bhd e
      obtain ⟨_, rfl, e⟩ := e
      refine s_iinc d_X11_init_471 g1 (w := (1 : Int32)) (by decide +kernel) (by decide) (fun L g1 gK => ?_)
      replace g0 := gK _ _ (by decide) (Or.inr (zrf_cat _)) g0
      refine r_goto d_X11_init_474 (tgt := 458) (by decide) ?_
      exact ih _ _ _ _ _ g0 g1 e

def f_X11_init (l0 : Nat) (h : Hp) : Option Hp := ck (isO (h) (l0) 12) (ck (8 ≤ zn (h)) (bh (pN (h) 22 ((300 : Int32)).toNatClampNeg) (fun h3 => bh (pR (h3) 1203 (l0) (zn (h))) (fun h4 => bh (pI (h4) 1205 (l0) ((-1 : Int32))) (fun h5 => ck (8 ≤ zn (h5)) (bh (pN (h5) 22 ((4100 : Int32)).toNatClampNeg) (fun h7 => bh (pR (h7) 1207 (l0) (zn (h5))) (fun h8 => ck (8 ≤ zn (h8)) (bh (pN (h8) 22 ((4100 : Int32)).toNatClampNeg) (fun h10 => bh (pR (h10) 1208 (l0) (zn (h8))) (fun h11 => ck (8 ≤ zn (h11)) (bh (pN (h11) 22 ((4100 : Int32)).toNatClampNeg) (fun h13 => bh (pR (h13) 1209 (l0) (zn (h11))) (fun h14 => ck (8 ≤ zn (h14)) (bh (pN (h14) 22 ((4100 : Int32)).toNatClampNeg) (fun h16 => bh (pR (h16) 1210 (l0) (zn (h14))) (fun h17 => ck (8 ≤ zn (h17)) (bh (pN (h17) 22 ((8 : Int32)).toNatClampNeg) (fun h19 => bh (pR (h19) 1211 (l0) (zn (h17))) (fun h20 => ck (8 ≤ zn (h20)) (bh (pN (h20) 22 ((8 : Int32)).toNatClampNeg) (fun h22 => bh (pR (h22) 1212 (l0) (zn (h20))) (fun h23 => ck (8 ≤ zn (h23)) (bh (pN (h23) 22 ((11100 : Int32)).toNatClampNeg) (fun h25 => bh (pR (h25) 1214 (l0) (zn (h23))) (fun h26 => ck (8 ≤ zn (h26)) (bh (pN (h26) 22 ((11100 : Int32)).toNatClampNeg) (fun h28 => bh (pR (h28) 1215 (l0) (zn (h26))) (fun h29 => ck (8 ≤ zn (h29)) (bh (pN (h29) 23 ((11100 : Int32)).toNatClampNeg) (fun h31 => bh (pR (h31) 1216 (l0) (zn (h29))) (fun h32 => ck (8 ≤ zn (h32)) (bh (pN (h32) 22 ((11100 : Int32)).toNatClampNeg) (fun h34 => bh (pR (h34) 1217 (l0) (zn (h32))) (fun h35 => ck (8 ≤ zn (h35)) (bh (pN (h35) 23 ((11100 : Int32)).toNatClampNeg) (fun h37 => bh (pR (h37) 1218 (l0) (zn (h35))) (fun h38 => ck (8 ≤ zn (h38)) (bh (pN (h38) 22 ((11100 : Int32)).toNatClampNeg) (fun h40 => bh (pR (h40) 1219 (l0) (zn (h38))) (fun h41 => ck (8 ≤ zn (h41)) (bh (pN (h41) 22 ((11100 : Int32)).toNatClampNeg) (fun h43 => bh (pR (h43) 1220 (l0) (zn (h41))) (fun h44 => ck (8 ≤ zn (h44)) (bh (pN (h44) 22 ((11100 : Int32)).toNatClampNeg) (fun h46 => bh (pR (h46) 1221 (l0) (zn (h44))) (fun h47 => ck (8 ≤ zn (h47)) (bh (pN (h47) 22 ((10 : Int32)).toNatClampNeg) (fun h49 => bh (pR (h49) 1222 (l0) (zn (h47))) (fun h50 => ck (8 ≤ zn (h50)) (bh (pN (h50) 22 ((60000 : Int32)).toNatClampNeg) (fun h52 => bh (pR (h52) 1225 (l0) (zn (h50))) (fun h53 => ck (8 ≤ zn (h53)) (bh (pN (h53) 22 ((60000 : Int32)).toNatClampNeg) (fun h55 => bh (pR (h55) 1226 (l0) (zn (h53))) (fun h56 => ck (8 ≤ zn (h56)) (bh (pN (h56) 22 ((60000 : Int32)).toNatClampNeg) (fun h58 => bh (pR (h58) 1227 (l0) (zn (h56))) (fun h59 => ck (8 ≤ zn (h59)) (bh (pN (h59) 22 ((60000 : Int32)).toNatClampNeg) (fun h61 => bh (pR (h61) 1228 (l0) (zn (h59))) (fun h62 => ck (8 ≤ zn (h62)) (bh (pN (h62) 22 ((60000 : Int32)).toNatClampNeg) (fun h64 => bh (pR (h64) 1229 (l0) (zn (h62))) (fun h65 => ck (8 ≤ zn (h65)) (bh (pN (h65) 22 ((163840 : Int32)).toNatClampNeg) (fun h67 => bh (pR (h67) 1230 (l0) (zn (h65))) (fun h68 => ck (8 ≤ zn (h68)) (bh (pN (h68) 22 ((20 : Int32)).toNatClampNeg) (fun h70 => bh (pR (h70) 1231 (l0) (zn (h68))) (fun h71 => ck (8 ≤ zn (h71)) (bh (pN (h71) 22 ((20 : Int32)).toNatClampNeg) (fun h73 => bh (pR (h73) 1232 (l0) (zn (h71))) (fun h74 => ck (8 ≤ zn (h74)) (bh (pN (h74) 22 ((20 : Int32)).toNatClampNeg) (fun h76 => bh (pR (h76) 1233 (l0) (zn (h74))) (fun h77 => ck (8 ≤ zn (h77)) (bh (pN (h77) 23 ((20 : Int32)).toNatClampNeg) (fun h79 => bh (pR (h79) 1234 (l0) (zn (h77))) (fun h80 => ck (8 ≤ zn (h80)) (bh (pN (h80) 22 ((20 : Int32)).toNatClampNeg) (fun h82 => bh (pR (h82) 1235 (l0) (zn (h80))) (fun h83 => ck (8 ≤ zn (h83)) (bh (pN (h83) 22 ((4 : Int32)).toNatClampNeg) (fun h85 => bh (pR (h85) 1236 (l0) (zn (h83))) (fun h86 => ck (8 ≤ zn (h86)) (bh (pN (h86) 22 ((4 : Int32)).toNatClampNeg) (fun h88 => bh (pR (h88) 1237 (l0) (zn (h86))) (fun h89 => ck (8 ≤ zn (h89)) (bh (pN (h89) 22 ((4 : Int32)).toNatClampNeg) (fun h91 => bh (pR (h91) 1238 (l0) (zn (h89))) (fun h92 => ck (8 ≤ zn (h92)) (bh (pN (h92) 22 ((4 : Int32)).toNatClampNeg) (fun h94 => bh (pR (h94) 1239 (l0) (zn (h92))) (fun h95 => ck (8 ≤ zn (h95)) (bh (pN (h95) 22 ((3840 : Int32)).toNatClampNeg) (fun h97 => bh (pR (h97) 1240 (l0) (zn (h95))) (fun h98 => ck (8 ≤ zn (h98)) (bh (pN (h98) 22 ((64 : Int32)).toNatClampNeg) (fun h100 => bh (pR (h100) 1241 (l0) (zn (h98))) (fun h101 => ck (8 ≤ zn (h101)) (bh (pN (h101) 22 ((64 : Int32)).toNatClampNeg) (fun h103 => bh (pR (h103) 1242 (l0) (zn (h101))) (fun h104 => ck (8 ≤ zn (h104)) (bh (pN (h104) 22 ((64 : Int32)).toNatClampNeg) (fun h106 => bh (pR (h106) 1243 (l0) (zn (h104))) (fun h107 => ck (8 ≤ zn (h107)) (bh (pN (h107) 22 ((64 : Int32)).toNatClampNeg) (fun h109 => bh (pR (h109) 1244 (l0) (zn (h107))) (fun h110 => ck (8 ≤ zn (h110)) (bh (pN (h110) 22 ((512 : Int32)).toNatClampNeg) (fun h112 => bh (pR (h112) 1245 (l0) (zn (h110))) (fun h113 => ck (8 ≤ zn (h113)) (bh (pN (h113) 22 ((64 : Int32)).toNatClampNeg) (fun h115 => bh (pR (h115) 1246 (l0) (zn (h113))) (fun h116 => ck (8 ≤ zn (h116)) (bh (pN (h116) 22 ((64 : Int32)).toNatClampNeg) (fun h118 => bh (pR (h118) 1247 (l0) (zn (h116))) (fun h119 => ck (8 ≤ zn (h119)) (bh (pN (h119) 22 ((64 : Int32)).toNatClampNeg) (fun h121 => bh (pR (h121) 1248 (l0) (zn (h119))) (fun h122 => ck (8 ≤ zn (h122)) (bh (pN (h122) 22 ((64 : Int32)).toNatClampNeg) (fun h124 => bh (pR (h124) 1249 (l0) (zn (h122))) (fun h125 => ck (8 ≤ zn (h125)) (bh (pN (h125) 22 ((64 : Int32)).toNatClampNeg) (fun h127 => bh (pR (h127) 1250 (l0) (zn (h125))) (fun h128 => ck (8 ≤ zn (h128)) (bh (pN (h128) 22 ((64 : Int32)).toNatClampNeg) (fun h130 => bh (pR (h130) 1251 (l0) (zn (h128))) (fun h131 => ck (8 ≤ zn (h131)) (bh (pN (h131) 22 ((64 : Int32)).toNatClampNeg) (fun h133 => bh (pR (h133) 1252 (l0) (zn (h131))) (fun h134 => ck (8 ≤ zn (h134)) (bh (pN (h134) 22 ((64 : Int32)).toNatClampNeg) (fun h136 => bh (pR (h136) 1253 (l0) (zn (h134))) (fun h137 => ck (8 ≤ zn (h137)) (bh (pN (h137) 22 ((64 : Int32)).toNatClampNeg) (fun h139 => bh (pR (h139) 1254 (l0) (zn (h137))) (fun h140 => ck (8 ≤ zn (h140)) (bh (pN (h140) 22 ((64 : Int32)).toNatClampNeg) (fun h142 => bh (pR (h142) 1255 (l0) (zn (h140))) (fun h143 => ck (8 ≤ zn (h143)) (bh (pN (h143) 22 ((64 : Int32)).toNatClampNeg) (fun h145 => bh (pR (h145) 1256 (l0) (zn (h143))) (fun h146 => ck (8 ≤ zn (h146)) (bh (pN (h146) 22 ((4 : Int32)).toNatClampNeg) (fun h148 => bh (pR (h148) 1257 (l0) (zn (h146))) (fun h149 => ck (8 ≤ zn (h149)) (bh (pN (h149) 22 ((4096 : Int32)).toNatClampNeg) (fun h151 => bh (pR (h151) 1258 (l0) (zn (h149))) (fun h152 => ck (8 ≤ zn (h152)) (bh (pN (h152) 22 ((4096 : Int32)).toNatClampNeg) (fun h154 => bh (pR (h154) 1259 (l0) (zn (h152))) (fun h155 => ck (8 ≤ zn (h155)) (bh (pN (h155) 22 ((4096 : Int32)).toNatClampNeg) (fun h157 => bh (pR (h157) 1260 (l0) (zn (h155))) (fun h158 => ck (8 ≤ zn (h158)) (bh (pN (h158) 22 ((1024 : Int32)).toNatClampNeg) (fun h160 => bh (pR (h160) 1261 (l0) (zn (h158))) (fun h161 => ck (8 ≤ zn (h161)) (bh (pN (h161) 23 ((8192 : Int32)).toNatClampNeg) (fun h163 => bh (pR (h163) 1262 (l0) (zn (h161))) (fun h164 => f_X11_init_458 fz (l0) ((0 : Int32)) (h164)))))))))))))))))))))))))))))))))))))))))))))))))))))))))))))))))))))))))))))))))))))))))))))))))))))))))))))))))))))))))))))))))))))))))))))))))))))))))))))))))))))
theorem f_X11_init_ok {G : Gd} {d : Nat} (hj : 2 ≤ d) : ∀ (l0 : Nat) (L : List (Nat × Value)) (h : Hp) (o : Hp), zlk L 0 = some (zrf (l0)) → f_X11_init l0 h = some o → Ev G M_X11_init d 0 L [] h (Ret Y_X11_init none o) := by
  intro l0 L h o g0 e
  unfold f_X11_init at e
  refine g_ald_n d_X11_init_0 rfl g0 ?_
  replace e := ckd e
  obtain ⟨k1, e⟩ := e
  refine g_objInit k1 d_X11_init_1 (by decide +kernel) (by omega) (by simp [zrf_cat, cat_int, cat_long]) ?_
  refine g_ald_n d_X11_init_4 rfl g0 ?_
  refine r_sipush d_X11_init_5 (v := (300 : Int32)) (by decide +kernel) ?_
  replace e := ckd e
  obtain ⟨k2, e⟩ := e
  refine g_newa (t := 22) k2 d_X11_init_8 (by decide) (by decide) rfl (by decide +kernel) (by decide) (by decide +kernel) ?_
  replace e := bhd e
  obtain ⟨_, rfl, e⟩ := e
  refine g_putR d_X11_init_10 (f := 1203) (tO_pN k1) fk_10_7 rfl (Or.inr ⟨rfl, rfl⟩) (Or.inr ⟨_, rfl⟩) ?_
  replace e := bhd e
  obtain ⟨_, rfl, e⟩ := e
  refine g_ald_n d_X11_init_13 rfl g0 ?_
  refine r_iconst d_X11_init_14 (v := (-1 : Int32)) (by decide +kernel) ?_
  refine g_putI d_X11_init_15 (f := 1205) (tO_pR (tO_pN k1)) fk_10_13 rfl (Or.inl rfl) ⟨rfl, rfl⟩ ?_
  replace e := bhd e
  obtain ⟨_, rfl, e⟩ := e
  refine g_ald_n d_X11_init_18 rfl g0 ?_
  refine r_sipush d_X11_init_19 (v := (4100 : Int32)) (by decide +kernel) ?_
  replace e := ckd e
  obtain ⟨k6, e⟩ := e
  refine g_newa (t := 22) k6 d_X11_init_22 (by decide) (by decide) rfl (by decide +kernel) (by decide) (by decide +kernel) ?_
  replace e := bhd e
  obtain ⟨_, rfl, e⟩ := e
  refine g_putR d_X11_init_24 (f := 1207) (tO_pN (tO_pI (tO_pR (tO_pN k1)))) fk_10_17 rfl (Or.inr ⟨rfl, rfl⟩) (Or.inr ⟨_, rfl⟩) ?_
  replace e := bhd e
  obtain ⟨_, rfl, e⟩ := e
  refine g_ald_n d_X11_init_27 rfl g0 ?_
  refine r_sipush d_X11_init_28 (v := (4100 : Int32)) (by decide +kernel) ?_
  replace e := ckd e
  obtain ⟨k9, e⟩ := e
  refine g_newa (t := 22) k9 d_X11_init_31 (by decide) (by decide) rfl (by decide +kernel) (by decide) (by decide +kernel) ?_
  replace e := bhd e
  obtain ⟨_, rfl, e⟩ := e
  refine g_putR d_X11_init_33 (f := 1208) (tO_pN (tO_pR (tO_pN (tO_pI (tO_pR (tO_pN k1)))))) fk_10_20 rfl (Or.inr ⟨rfl, rfl⟩) (Or.inr ⟨_, rfl⟩) ?_
  replace e := bhd e
  obtain ⟨_, rfl, e⟩ := e
  refine g_ald_n d_X11_init_36 rfl g0 ?_
  refine r_sipush d_X11_init_37 (v := (4100 : Int32)) (by decide +kernel) ?_
  replace e := ckd e
  obtain ⟨k12, e⟩ := e
  refine g_newa (t := 22) k12 d_X11_init_40 (by decide) (by decide) rfl (by decide +kernel) (by decide) (by decide +kernel) ?_
  replace e := bhd e
  obtain ⟨_, rfl, e⟩ := e
  refine g_putR d_X11_init_42 (f := 1209) (tO_pN (tO_pR (tO_pN (tO_pR (tO_pN (tO_pI (tO_pR (tO_pN k1)))))))) fk_10_23 rfl (Or.inr ⟨rfl, rfl⟩) (Or.inr ⟨_, rfl⟩) ?_
  replace e := bhd e
  obtain ⟨_, rfl, e⟩ := e
  refine g_ald_n d_X11_init_45 rfl g0 ?_
  refine r_sipush d_X11_init_46 (v := (4100 : Int32)) (by decide +kernel) ?_
  replace e := ckd e
  obtain ⟨k15, e⟩ := e
  refine g_newa (t := 22) k15 d_X11_init_49 (by decide) (by decide) rfl (by decide +kernel) (by decide) (by decide +kernel) ?_
  replace e := bhd e
  obtain ⟨_, rfl, e⟩ := e
  refine g_putR d_X11_init_51 (f := 1210) (tO_pN (tO_pR (tO_pN (tO_pR (tO_pN (tO_pR (tO_pN (tO_pI (tO_pR (tO_pN k1)))))))))) fk_10_26 rfl (Or.inr ⟨rfl, rfl⟩) (Or.inr ⟨_, rfl⟩) ?_
  replace e := bhd e
  obtain ⟨_, rfl, e⟩ := e
  refine g_ald_n d_X11_init_54 rfl g0 ?_
  refine r_bipush d_X11_init_55 (v := (8 : Int32)) (by decide +kernel) ?_
  replace e := ckd e
  obtain ⟨k18, e⟩ := e
  refine g_newa (t := 22) k18 d_X11_init_57 (by decide) (by decide) rfl (by decide +kernel) (by decide) (by decide +kernel) ?_
  replace e := bhd e
  obtain ⟨_, rfl, e⟩ := e
  refine g_putR d_X11_init_59 (f := 1211) (tO_pN (tO_pR (tO_pN (tO_pR (tO_pN (tO_pR (tO_pN (tO_pR (tO_pN (tO_pI (tO_pR (tO_pN k1)))))))))))) fk_10_29 rfl (Or.inr ⟨rfl, rfl⟩) (Or.inr ⟨_, rfl⟩) ?_
  replace e := bhd e
  obtain ⟨_, rfl, e⟩ := e
  refine g_ald_n d_X11_init_62 rfl g0 ?_
  refine r_bipush d_X11_init_63 (v := (8 : Int32)) (by decide +kernel) ?_
  replace e := ckd e
  obtain ⟨k21, e⟩ := e
  refine g_newa (t := 22) k21 d_X11_init_65 (by decide) (by decide) rfl (by decide +kernel) (by decide) (by decide +kernel) ?_
  replace e := bhd e
  obtain ⟨_, rfl, e⟩ := e
  refine g_putR d_X11_init_67 (f := 1212) (tO_pN (tO_pR (tO_pN (tO_pR (tO_pN (tO_pR (tO_pN (tO_pR (tO_pN (tO_pR (tO_pN (tO_pI (tO_pR (tO_pN k1)))))))))))))) fk_10_32 rfl (Or.inr ⟨rfl, rfl⟩) (Or.inr ⟨_, rfl⟩) ?_
  replace e := bhd e
  obtain ⟨_, rfl, e⟩ := e
  refine g_ald_n d_X11_init_70 rfl g0 ?_
  refine r_sipush d_X11_init_71 (v := (11100 : Int32)) (by decide +kernel) ?_
  replace e := ckd e
  obtain ⟨k24, e⟩ := e
  refine g_newa (t := 22) k24 d_X11_init_74 (by decide) (by decide) rfl (by decide +kernel) (by decide) (by decide +kernel) ?_
  replace e := bhd e
  obtain ⟨_, rfl, e⟩ := e
  refine g_putR d_X11_init_76 (f := 1214) (tO_pN (tO_pR (tO_pN (tO_pR (tO_pN (tO_pR (tO_pN (tO_pR (tO_pN (tO_pR (tO_pN (tO_pR (tO_pN (tO_pI (tO_pR (tO_pN k1)))))))))))))))) fk_10_35 rfl (Or.inr ⟨rfl, rfl⟩) (Or.inr ⟨_, rfl⟩) ?_
  replace e := bhd e
  obtain ⟨_, rfl, e⟩ := e
  refine g_ald_n d_X11_init_79 rfl g0 ?_
  refine r_sipush d_X11_init_80 (v := (11100 : Int32)) (by decide +kernel) ?_
  replace e := ckd e
  obtain ⟨k27, e⟩ := e
  refine g_newa (t := 22) k27 d_X11_init_83 (by decide) (by decide) rfl (by decide +kernel) (by decide) (by decide +kernel) ?_
  replace e := bhd e
  obtain ⟨_, rfl, e⟩ := e
  refine g_putR d_X11_init_85 (f := 1215) (tO_pN (tO_pR (tO_pN (tO_pR (tO_pN (tO_pR (tO_pN (tO_pR (tO_pN (tO_pR (tO_pN (tO_pR (tO_pN (tO_pR (tO_pN (tO_pI (tO_pR (tO_pN k1)))))))))))))))))) fk_10_38 rfl (Or.inr ⟨rfl, rfl⟩) (Or.inr ⟨_, rfl⟩) ?_
  replace e := bhd e
  obtain ⟨_, rfl, e⟩ := e
  refine g_ald_n d_X11_init_88 rfl g0 ?_
  refine r_sipush d_X11_init_89 (v := (11100 : Int32)) (by decide +kernel) ?_
  replace e := ckd e
  obtain ⟨k30, e⟩ := e
  refine g_newa (t := 23) k30 d_X11_init_92 (by decide) (by decide) rfl (by decide +kernel) (by decide) (by decide +kernel) ?_
  replace e := bhd e
  obtain ⟨_, rfl, e⟩ := e
  refine g_putR d_X11_init_94 (f := 1216) (tO_pN (tO_pR (tO_pN (tO_pR (tO_pN (tO_pR (tO_pN (tO_pR (tO_pN (tO_pR (tO_pN (tO_pR (tO_pN (tO_pR (tO_pN (tO_pR (tO_pN (tO_pI (tO_pR (tO_pN k1)))))))))))))))))))) fk_10_41 rfl (Or.inr ⟨rfl, rfl⟩) (Or.inr ⟨_, rfl⟩) ?_
  replace e := bhd e
  obtain ⟨_, rfl, e⟩ := e
  refine g_ald_n d_X11_init_97 rfl g0 ?_
  refine r_sipush d_X11_init_98 (v := (11100 : Int32)) (by decide +kernel) ?_
  replace e := ckd e
  obtain ⟨k33, e⟩ := e
  refine g_newa (t := 22) k33 d_X11_init_101 (by decide) (by decide) rfl (by decide +kernel) (by decide) (by decide +kernel) ?_
  replace e := bhd e
  obtain ⟨_, rfl, e⟩ := e
  refine g_putR d_X11_init_103 (f := 1217) (tO_pN (tO_pR (tO_pN (tO_pR (tO_pN (tO_pR (tO_pN (tO_pR (tO_pN (tO_pR (tO_pN (tO_pR (tO_pN (tO_pR (tO_pN (tO_pR (tO_pN (tO_pR (tO_pN (tO_pI (tO_pR (tO_pN k1)))))))))))))))))))))) fk_10_45 rfl (Or.inr ⟨rfl, rfl⟩) (Or.inr ⟨_, rfl⟩) ?_
  replace e := bhd e
  obtain ⟨_, rfl, e⟩ := e
  refine g_ald_n d_X11_init_106 rfl g0 ?_
  refine r_sipush d_X11_init_107 (v := (11100 : Int32)) (by decide +kernel) ?_
  replace e := ckd e
  obtain ⟨k36, e⟩ := e
  refine g_newa (t := 23) k36 d_X11_init_110 (by decide) (by decide) rfl (by decide +kernel) (by decide) (by decide +kernel) ?_
  replace e := bhd e
  obtain ⟨_, rfl, e⟩ := e
  refine g_putR d_X11_init_112 (f := 1218) (tO_pN (tO_pR (tO_pN (tO_pR (tO_pN (tO_pR (tO_pN (tO_pR (tO_pN (tO_pR (tO_pN (tO_pR (tO_pN (tO_pR (tO_pN (tO_pR (tO_pN (tO_pR (tO_pN (tO_pR (tO_pN (tO_pI (tO_pR (tO_pN k1)))))))))))))))))))))))) fk_10_48 rfl (Or.inr ⟨rfl, rfl⟩) (Or.inr ⟨_, rfl⟩) ?_
  replace e := bhd e
  obtain ⟨_, rfl, e⟩ := e
  refine g_ald_n d_X11_init_115 rfl g0 ?_
  refine r_sipush d_X11_init_116 (v := (11100 : Int32)) (by decide +kernel) ?_
  replace e := ckd e
  obtain ⟨k39, e⟩ := e
  refine g_newa (t := 22) k39 d_X11_init_119 (by decide) (by decide) rfl (by decide +kernel) (by decide) (by decide +kernel) ?_
  replace e := bhd e
  obtain ⟨_, rfl, e⟩ := e
  refine g_putR d_X11_init_121 (f := 1219) (tO_pN (tO_pR (tO_pN (tO_pR (tO_pN (tO_pR (tO_pN (tO_pR (tO_pN (tO_pR (tO_pN (tO_pR (tO_pN (tO_pR (tO_pN (tO_pR (tO_pN (tO_pR (tO_pN (tO_pR (tO_pN (tO_pR (tO_pN (tO_pI (tO_pR (tO_pN k1)))))))))))))))))))))))))) fk_10_51 rfl (Or.inr ⟨rfl, rfl⟩) (Or.inr ⟨_, rfl⟩) ?_
  replace e := bhd e
  obtain ⟨_, rfl, e⟩ := e
  refine g_ald_n d_X11_init_124 rfl g0 ?_
  refine r_sipush d_X11_init_125 (v := (11100 : Int32)) (by decide +kernel) ?_
  replace e := ckd e
  obtain ⟨k42, e⟩ := e
  refine g_newa (t := 22) k42 d_X11_init_128 (by decide) (by decide) rfl (by decide +kernel) (by decide) (by decide +kernel) ?_
  replace e := bhd e
  obtain ⟨_, rfl, e⟩ := e
  refine g_putR d_X11_init_130 (f := 1220) (tO_pN (tO_pR (tO_pN (tO_pR (tO_pN (tO_pR (tO_pN (tO_pR (tO_pN (tO_pR (tO_pN (tO_pR (tO_pN (tO_pR (tO_pN (tO_pR (tO_pN (tO_pR (tO_pN (tO_pR (tO_pN (tO_pR (tO_pN (tO_pR (tO_pN (tO_pI (tO_pR (tO_pN k1)))))))))))))))))))))))))))) fk_10_54 rfl (Or.inr ⟨rfl, rfl⟩) (Or.inr ⟨_, rfl⟩) ?_
  replace e := bhd e
  obtain ⟨_, rfl, e⟩ := e
  refine g_ald_n d_X11_init_133 rfl g0 ?_
  refine r_sipush d_X11_init_134 (v := (11100 : Int32)) (by decide +kernel) ?_
  replace e := ckd e
  obtain ⟨k45, e⟩ := e
  refine g_newa (t := 22) k45 d_X11_init_137 (by decide) (by decide) rfl (by decide +kernel) (by decide) (by decide +kernel) ?_
  replace e := bhd e
  obtain ⟨_, rfl, e⟩ := e
  refine g_putR d_X11_init_139 (f := 1221) (tO_pN (tO_pR (tO_pN (tO_pR (tO_pN (tO_pR (tO_pN (tO_pR (tO_pN (tO_pR (tO_pN (tO_pR (tO_pN (tO_pR (tO_pN (tO_pR (tO_pN (tO_pR (tO_pN (tO_pR (tO_pN (tO_pR (tO_pN (tO_pR (tO_pN (tO_pR (tO_pN (tO_pI (tO_pR (tO_pN k1)))))))))))))))))))))))))))))) fk_10_57 rfl (Or.inr ⟨rfl, rfl⟩) (Or.inr ⟨_, rfl⟩) ?_
  replace e := bhd e
  obtain ⟨_, rfl, e⟩ := e
  refine g_ald_n d_X11_init_142 rfl g0 ?_
  refine r_bipush d_X11_init_143 (v := (10 : Int32)) (by decide +kernel) ?_
  replace e := ckd e
  obtain ⟨k48, e⟩ := e
  refine g_newa (t := 22) k48 d_X11_init_145 (by decide) (by decide) rfl (by decide +kernel) (by decide) (by decide +kernel) ?_
  replace e := bhd e
  obtain ⟨_, rfl, e⟩ := e
  refine g_putR d_X11_init_147 (f := 1222) (tO_pN (tO_pR (tO_pN (tO_pR (tO_pN (tO_pR (tO_pN (tO_pR (tO_pN (tO_pR (tO_pN (tO_pR (tO_pN (tO_pR (tO_pN (tO_pR (tO_pN (tO_pR (tO_pN (tO_pR (tO_pN (tO_pR (tO_pN (tO_pR (tO_pN (tO_pR (tO_pN (tO_pR (tO_pN (tO_pI (tO_pR (tO_pN k1)))))))))))))))))))))))))))))))) fk_10_60 rfl (Or.inr ⟨rfl, rfl⟩) (Or.inr ⟨_, rfl⟩) ?_
  replace e := bhd e
  obtain ⟨_, rfl, e⟩ := e
  refine g_ald_n d_X11_init_150 rfl g0 ?_
  refine r_ldc d_X11_init_151 (v := (60000 : Int32)) (by decide +kernel) ?_
  replace e := ckd e
  obtain ⟨k51, e⟩ := e
  refine g_newa (t := 22) k51 d_X11_init_153 (by decide) (by decide) rfl (by decide +kernel) (by decide) (by decide +kernel) ?_
  replace e := bhd e
  obtain ⟨_, rfl, e⟩ := e
  refine g_putR d_X11_init_155 (f := 1225) (tO_pN (tO_pR (tO_pN (tO_pR (tO_pN (tO_pR (tO_pN (tO_pR (tO_pN (tO_pR (tO_pN (tO_pR (tO_pN (tO_pR (tO_pN (tO_pR (tO_pN (tO_pR (tO_pN (tO_pR (tO_pN (tO_pR (tO_pN (tO_pR (tO_pN (tO_pR (tO_pN (tO_pR (tO_pN (tO_pR (tO_pN (tO_pI (tO_pR (tO_pN k1)))))))))))))))))))))))))))))))))) fk_10_64 rfl (Or.inr ⟨rfl, rfl⟩) (Or.inr ⟨_, rfl⟩) ?_
  replace e := bhd e
  obtain ⟨_, rfl, e⟩ := e
  refine g_ald_n d_X11_init_158 rfl g0 ?_
  refine r_ldc d_X11_init_159 (v := (60000 : Int32)) (by decide +kernel) ?_
  replace e := ckd e
  obtain ⟨k54, e⟩ := e
  refine g_newa (t := 22) k54 d_X11_init_161 (by decide) (by decide) rfl (by decide +kernel) (by decide) (by decide +kernel) ?_
  replace e := bhd e
  obtain ⟨_, rfl, e⟩ := e
  refine g_putR d_X11_init_163 (f := 1226) (tO_pN (tO_pR (tO_pN (tO_pR (tO_pN (tO_pR (tO_pN (tO_pR (tO_pN (tO_pR (tO_pN (tO_pR (tO_pN (tO_pR (tO_pN (tO_pR (tO_pN (tO_pR (tO_pN (tO_pR (tO_pN (tO_pR (tO_pN (tO_pR (tO_pN (tO_pR (tO_pN (tO_pR (tO_pN (tO_pR (tO_pN (tO_pR (tO_pN (tO_pI (tO_pR (tO_pN k1)))))))))))))))))))))))))))))))))))) fk_10_67 rfl (Or.inr ⟨rfl, rfl⟩) (Or.inr ⟨_, rfl⟩) ?_
  replace e := bhd e
  obtain ⟨_, rfl, e⟩ := e
  refine g_ald_n d_X11_init_166 rfl g0 ?_
  refine r_ldc d_X11_init_167 (v := (60000 : Int32)) (by decide +kernel) ?_
  replace e := ckd e
  obtain ⟨k57, e⟩ := e
  refine g_newa (t := 22) k57 d_X11_init_169 (by decide) (by decide) rfl (by decide +kernel) (by decide) (by decide +kernel) ?_
  replace e := bhd e
  obtain ⟨_, rfl, e⟩ := e
  refine g_putR d_X11_init_171 (f := 1227) (tO_pN (tO_pR (tO_pN (tO_pR (tO_pN (tO_pR (tO_pN (tO_pR (tO_pN (tO_pR (tO_pN (tO_pR (tO_pN (tO_pR (tO_pN (tO_pR (tO_pN (tO_pR (tO_pN (tO_pR (tO_pN (tO_pR (tO_pN (tO_pR (tO_pN (tO_pR (tO_pN (tO_pR (tO_pN (tO_pR (tO_pN (tO_pR (tO_pN (tO_pR (tO_pN (tO_pI (tO_pR (tO_pN k1)))))))))))))))))))))))))))))))))))))) fk_10_70 rfl (Or.inr ⟨rfl, rfl⟩) (Or.inr ⟨_, rfl⟩) ?_
  replace e := bhd e
  obtain ⟨_, rfl, e⟩ := e
  refine g_ald_n d_X11_init_174 rfl g0 ?_
  refine r_ldc d_X11_init_175 (v := (60000 : Int32)) (by decide +kernel) ?_
  replace e := ckd e
  obtain ⟨k60, e⟩ := e
  refine g_newa (t := 22) k60 d_X11_init_177 (by decide) (by decide) rfl (by decide +kernel) (by decide) (by decide +kernel) ?_
  replace e := bhd e
  obtain ⟨_, rfl, e⟩ := e
  refine g_putR d_X11_init_179 (f := 1228) (tO_pN (tO_pR (tO_pN (tO_pR (tO_pN (tO_pR (tO_pN (tO_pR (tO_pN (tO_pR (tO_pN (tO_pR (tO_pN (tO_pR (tO_pN (tO_pR (tO_pN (tO_pR (tO_pN (tO_pR (tO_pN (tO_pR (tO_pN (tO_pR (tO_pN (tO_pR (tO_pN (tO_pR (tO_pN (tO_pR (tO_pN (tO_pR (tO_pN (tO_pR (tO_pN (tO_pR (tO_pN (tO_pI (tO_pR (tO_pN k1)))))))))))))))))))))))))))))))))))))))) fk_10_73 rfl (Or.inr ⟨rfl, rfl⟩) (Or.inr ⟨_, rfl⟩) ?_
  replace e := bhd e
  obtain ⟨_, rfl, e⟩ := e
  refine g_ald_n d_X11_init_182 rfl g0 ?_
  refine r_ldc d_X11_init_183 (v := (60000 : Int32)) (by decide +kernel) ?_
  replace e := ckd e
  obtain ⟨k63, e⟩ := e
  refine g_newa (t := 22) k63 d_X11_init_185 (by decide) (by decide) rfl (by decide +kernel) (by decide) (by decide +kernel) ?_
  replace e := bhd e
  obtain ⟨_, rfl, e⟩ := e
  refine g_putR d_X11_init_187 (f := 1229) (tO_pN (tO_pR (tO_pN (tO_pR (tO_pN (tO_pR (tO_pN (tO_pR (tO_pN (tO_pR (tO_pN (tO_pR (tO_pN (tO_pR (tO_pN (tO_pR (tO_pN (tO_pR (tO_pN (tO_pR (tO_pN (tO_pR (tO_pN (tO_pR (tO_pN (tO_pR (tO_pN (tO_pR (tO_pN (tO_pR (tO_pN (tO_pR (tO_pN (tO_pR (tO_pN (tO_pR (tO_pN (tO_pR (tO_pN (tO_pI (tO_pR (tO_pN k1)))))))))))))))))))))))))))))))))))))))))) fk_10_76 rfl (Or.inr ⟨rfl, rfl⟩) (Or.inr ⟨_, rfl⟩) ?_
  replace e := bhd e
  obtain ⟨_, rfl, e⟩ := e
  refine g_ald_n d_X11_init_190 rfl g0 ?_
  refine r_ldc d_X11_init_191 (v := (163840 : Int32)) (by decide +kernel) ?_
  replace e := ckd e
  obtain ⟨k66, e⟩ := e
  refine g_newa (t := 22) k66 d_X11_init_193 (by decide) (by decide) rfl (by decide +kernel) (by decide) (by decide +kernel) ?_
  replace e := bhd e
  obtain ⟨_, rfl, e⟩ := e
  refine g_putR d_X11_init_195 (f := 1230) (tO_pN (tO_pR (tO_pN (tO_pR (tO_pN (tO_pR (tO_pN (tO_pR (tO_pN (tO_pR (tO_pN (tO_pR (tO_pN (tO_pR (tO_pN (tO_pR (tO_pN (tO_pR (tO_pN (tO_pR (tO_pN (tO_pR (tO_pN (tO_pR (tO_pN (tO_pR (tO_pN (tO_pR (tO_pN (tO_pR (tO_pN (tO_pR (tO_pN (tO_pR (tO_pN (tO_pR (tO_pN (tO_pR (tO_pN (tO_pR (tO_pN (tO_pI (tO_pR (tO_pN k1)))))))))))))))))))))))))))))))))))))))))))) fk_10_80 rfl (Or.inr ⟨rfl, rfl⟩) (Or.inr ⟨_, rfl⟩) ?_
  replace e := bhd e
  obtain ⟨_, rfl, e⟩ := e
  refine g_ald_n d_X11_init_198 rfl g0 ?_
  refine r_bipush d_X11_init_199 (v := (20 : Int32)) (by decide +kernel) ?_
  replace e := ckd e
  obtain ⟨k69, e⟩ := e
  refine g_newa (t := 22) k69 d_X11_init_201 (by decide) (by decide) rfl (by decide +kernel) (by decide) (by decide +kernel) ?_
  replace e := bhd e
  obtain ⟨_, rfl, e⟩ := e
  refine g_putR d_X11_init_203 (f := 1231) (tO_pN (tO_pR (tO_pN (tO_pR (tO_pN (tO_pR (tO_pN (tO_pR (tO_pN (tO_pR (tO_pN (tO_pR (tO_pN (tO_pR (tO_pN (tO_pR (tO_pN (tO_pR (tO_pN (tO_pR (tO_pN (tO_pR (tO_pN (tO_pR (tO_pN (tO_pR (tO_pN (tO_pR (tO_pN (tO_pR (tO_pN (tO_pR (tO_pN (tO_pR (tO_pN (tO_pR (tO_pN (tO_pR (tO_pN (tO_pR (tO_pN (tO_pR (tO_pN (tO_pI (tO_pR (tO_pN k1)))))))))))))))))))))))))))))))))))))))))))))) fk_10_83 rfl (Or.inr ⟨rfl, rfl⟩) (Or.inr ⟨_, rfl⟩) ?_
  replace e := bhd e
  obtain ⟨_, rfl, e⟩ := e
  refine g_ald_n d_X11_init_206 rfl g0 ?_
  refine r_bipush d_X11_init_207 (v := (20 : Int32)) (by decide +kernel) ?_
  replace e := ckd e
  obtain ⟨k72, e⟩ := e
  refine g_newa (t := 22) k72 d_X11_init_209 (by decide) (by decide) rfl (by decide +kernel) (by decide) (by decide +kernel) ?_
  replace e := bhd e
  obtain ⟨_, rfl, e⟩ := e
  refine g_putR d_X11_init_211 (f := 1232) (tO_pN (tO_pR (tO_pN (tO_pR (tO_pN (tO_pR (tO_pN (tO_pR (tO_pN (tO_pR (tO_pN (tO_pR (tO_pN (tO_pR (tO_pN (tO_pR (tO_pN (tO_pR (tO_pN (tO_pR (tO_pN (tO_pR (tO_pN (tO_pR (tO_pN (tO_pR (tO_pN (tO_pR (tO_pN (tO_pR (tO_pN (tO_pR (tO_pN (tO_pR (tO_pN (tO_pR (tO_pN (tO_pR (tO_pN (tO_pR (tO_pN (tO_pR (tO_pN (tO_pR (tO_pN (tO_pI (tO_pR (tO_pN k1)))))))))))))))))))))))))))))))))))))))))))))))) fk_10_86 rfl (Or.inr ⟨rfl, rfl⟩) (Or.inr ⟨_, rfl⟩) ?_
  replace e := bhd e
  obtain ⟨_, rfl, e⟩ := e
  refine g_ald_n d_X11_init_214 rfl g0 ?_
  refine r_bipush d_X11_init_215 (v := (20 : Int32)) (by decide +kernel) ?_
  replace e := ckd e
  obtain ⟨k75, e⟩ := e
  refine g_newa (t := 22) k75 d_X11_init_217 (by decide) (by decide) rfl (by decide +kernel) (by decide) (by decide +kernel) ?_
  replace e := bhd e
  obtain ⟨_, rfl, e⟩ := e
  refine g_putR d_X11_init_219 (f := 1233) (tO_pN (tO_pR (tO_pN (tO_pR (tO_pN (tO_pR (tO_pN (tO_pR (tO_pN (tO_pR (tO_pN (tO_pR (tO_pN (tO_pR (tO_pN (tO_pR (tO_pN (tO_pR (tO_pN (tO_pR (tO_pN (tO_pR (tO_pN (tO_pR (tO_pN (tO_pR (tO_pN (tO_pR (tO_pN (tO_pR (tO_pN (tO_pR (tO_pN (tO_pR (tO_pN (tO_pR (tO_pN (tO_pR (tO_pN (tO_pR (tO_pN (tO_pR (tO_pN (tO_pR (tO_pN (tO_pR (tO_pN (tO_pI (tO_pR (tO_pN k1)))))))))))))))))))))))))))))))))))))))))))))))))) fk_10_89 rfl (Or.inr ⟨rfl, rfl⟩) (Or.inr ⟨_, rfl⟩) ?_
  replace e := bhd e
  obtain ⟨_, rfl, e⟩ := e
  refine g_ald_n d_X11_init_222 rfl g0 ?_
  refine r_bipush d_X11_init_223 (v := (20 : Int32)) (by decide +kernel) ?_
  replace e := ckd e
  obtain ⟨k78, e⟩ := e
  refine g_newa (t := 23) k78 d_X11_init_225 (by decide) (by decide) rfl (by decide +kernel) (by decide) (by decide +kernel) ?_
  replace e := bhd e
  obtain ⟨_, rfl, e⟩ := e
  refine g_putR d_X11_init_227 (f := 1234) (tO_pN (tO_pR (tO_pN (tO_pR (tO_pN (tO_pR (tO_pN (tO_pR (tO_pN (tO_pR (tO_pN (tO_pR (tO_pN (tO_pR (tO_pN (tO_pR (tO_pN (tO_pR (tO_pN (tO_pR (tO_pN (tO_pR (tO_pN (tO_pR (tO_pN (tO_pR (tO_pN (tO_pR (tO_pN (tO_pR (tO_pN (tO_pR (tO_pN (tO_pR (tO_pN (tO_pR (tO_pN (tO_pR (tO_pN (tO_pR (tO_pN (tO_pR (tO_pN (tO_pR (tO_pN (tO_pR (tO_pN (tO_pR (tO_pN (tO_pI (tO_pR (tO_pN k1)))))))))))))))))))))))))))))))))))))))))))))))))))) fk_10_92 rfl (Or.inr ⟨rfl, rfl⟩) (Or.inr ⟨_, rfl⟩) ?_
  replace e := bhd e
  obtain ⟨_, rfl, e⟩ := e
  refine g_ald_n d_X11_init_230 rfl g0 ?_
  refine r_bipush d_X11_init_231 (v := (20 : Int32)) (by decide +kernel) ?_
  replace e := ckd e
  obtain ⟨k81, e⟩ := e
  refine g_newa (t := 22) k81 d_X11_init_233 (by decide) (by decide) rfl (by decide +kernel) (by decide) (by decide +kernel) ?_
  replace e := bhd e
  obtain ⟨_, rfl, e⟩ := e
  refine g_putR d_X11_init_235 (f := 1235) (tO_pN (tO_pR (tO_pN (tO_pR (tO_pN (tO_pR (tO_pN (tO_pR (tO_pN (tO_pR (tO_pN (tO_pR (tO_pN (tO_pR (tO_pN (tO_pR (tO_pN (tO_pR (tO_pN (tO_pR (tO_pN (tO_pR (tO_pN (tO_pR (tO_pN (tO_pR (tO_pN (tO_pR (tO_pN (tO_pR (tO_pN (tO_pR (tO_pN (tO_pR (tO_pN (tO_pR (tO_pN (tO_pR (tO_pN (tO_pR (tO_pN (tO_pR (tO_pN (tO_pR (tO_pN (tO_pR (tO_pN (tO_pR (tO_pN (tO_pR (tO_pN (tO_pI (tO_pR (tO_pN k1)))))))))))))))))))))))))))))))))))))))))))))))))))))) fk_10_95 rfl (Or.inr ⟨rfl, rfl⟩) (Or.inr ⟨_, rfl⟩) ?_
  replace e := bhd e
  obtain ⟨_, rfl, e⟩ := e
  refine g_ald_n d_X11_init_238 rfl g0 ?_
  refine r_iconst d_X11_init_239 (v := (4 : Int32)) (by decide +kernel) ?_
  replace e := ckd e
  obtain ⟨k84, e⟩ := e
  refine g_newa (t := 22) k84 d_X11_init_240 (by decide) (by decide) rfl (by decide +kernel) (by decide) (by decide +kernel) ?_
  replace e := bhd e
  obtain ⟨_, rfl, e⟩ := e
  refine g_putR d_X11_init_242 (f := 1236) (tO_pN (tO_pR (tO_pN (tO_pR (tO_pN (tO_pR (tO_pN (tO_pR (tO_pN (tO_pR (tO_pN (tO_pR (tO_pN (tO_pR (tO_pN (tO_pR (tO_pN (tO_pR (tO_pN (tO_pR (tO_pN (tO_pR (tO_pN (tO_pR (tO_pN (tO_pR (tO_pN (tO_pR (tO_pN (tO_pR (tO_pN (tO_pR (tO_pN (tO_pR (tO_pN (tO_pR (tO_pN (tO_pR (tO_pN (tO_pR (tO_pN (tO_pR (tO_pN (tO_pR (tO_pN (tO_pR (tO_pN (tO_pR (tO_pN (tO_pR (tO_pN (tO_pR (tO_pN (tO_pI (tO_pR (tO_pN k1)))))))))))))))))))))))))))))))))))))))))))))))))))))))) fk_10_98 rfl (Or.inr ⟨rfl, rfl⟩) (Or.inr ⟨_, rfl⟩) ?_
  replace e := bhd e
  obtain ⟨_, rfl, e⟩ := e
  refine g_ald_n d_X11_init_245 rfl g0 ?_
  refine r_iconst d_X11_init_246 (v := (4 : Int32)) (by decide +kernel) ?_
  replace e := ckd e
  obtain ⟨k87, e⟩ := e
  refine g_newa (t := 22) k87 d_X11_init_247 (by decide) (by decide) rfl (by decide +kernel) (by decide) (by decide +kernel) ?_
  replace e := bhd e
  obtain ⟨_, rfl, e⟩ := e
  refine g_putR d_X11_init_249 (f := 1237) (tO_pN (tO_pR (tO_pN (tO_pR (tO_pN (tO_pR (tO_pN (tO_pR (tO_pN (tO_pR (tO_pN (tO_pR (tO_pN (tO_pR (tO_pN (tO_pR (tO_pN (tO_pR (tO_pN (tO_pR (tO_pN (tO_pR (tO_pN (tO_pR (tO_pN (tO_pR (tO_pN (tO_pR (tO_pN (tO_pR (tO_pN (tO_pR (tO_pN (tO_pR (tO_pN (tO_pR (tO_pN (tO_pR (tO_pN (tO_pR (tO_pN (tO_pR (tO_pN (tO_pR (tO_pN (tO_pR (tO_pN (tO_pR (tO_pN (tO_pR (tO_pN (tO_pR (tO_pN (tO_pR (tO_pN (tO_pI (tO_pR (tO_pN k1)))))))))))))))))))))))))))))))))))))))))))))))))))))))))) fk_10_101 rfl (Or.inr ⟨rfl, rfl⟩) (Or.inr ⟨_, rfl⟩) ?_
  replace e := bhd e
  obtain ⟨_, rfl, e⟩ := e
  refine g_ald_n d_X11_init_252 rfl g0 ?_
  refine r_iconst d_X11_init_253 (v := (4 : Int32)) (by decide +kernel) ?_
  replace e := ckd e
  obtain ⟨k90, e⟩ := e
  refine g_newa (t := 22) k90 d_X11_init_254 (by decide) (by decide) rfl (by decide +kernel) (by decide) (by decide +kernel) ?_
  replace e := bhd e
  obtain ⟨_, rfl, e⟩ := e
  refine g_putR d_X11_init_256 (f := 1238) (tO_pN (tO_pR (tO_pN (tO_pR (tO_pN (tO_pR (tO_pN (tO_pR (tO_pN (tO_pR (tO_pN (tO_pR (tO_pN (tO_pR (tO_pN (tO_pR (tO_pN (tO_pR (tO_pN (tO_pR (tO_pN (tO_pR (tO_pN (tO_pR (tO_pN (tO_pR (tO_pN (tO_pR (tO_pN (tO_pR (tO_pN (tO_pR (tO_pN (tO_pR (tO_pN (tO_pR (tO_pN (tO_pR (tO_pN (tO_pR (tO_pN (tO_pR (tO_pN (tO_pR (tO_pN (tO_pR (tO_pN (tO_pR (tO_pN (tO_pR (tO_pN (tO_pR (tO_pN (tO_pR (tO_pN (tO_pR (tO_pN (tO_pI (tO_pR (tO_pN k1)))))))))))))))))))))))))))))))))))))))))))))))))))))))))))) fk_10_104 rfl (Or.inr ⟨rfl, rfl⟩) (Or.inr ⟨_, rfl⟩) ?_
  replace e := bhd e
  obtain ⟨_, rfl, e⟩ := e
  refine g_ald_n d_X11_init_259 rfl g0 ?_
  refine r_iconst d_X11_init_260 (v := (4 : Int32)) (by decide +kernel) ?_
  replace e := ckd e
  obtain ⟨k93, e⟩ := e
  refine g_newa (t := 22) k93 d_X11_init_261 (by decide) (by decide) rfl (by decide +kernel) (by decide) (by decide +kernel) ?_
  replace e := bhd e
  obtain ⟨_, rfl, e⟩ := e
  refine g_putR d_X11_init_263 (f := 1239) (tO_pN (tO_pR (tO_pN (tO_pR (tO_pN (tO_pR (tO_pN (tO_pR (tO_pN (tO_pR (tO_pN (tO_pR (tO_pN (tO_pR (tO_pN (tO_pR (tO_pN (tO_pR (tO_pN (tO_pR (tO_pN (tO_pR (tO_pN (tO_pR (tO_pN (tO_pR (tO_pN (tO_pR (tO_pN (tO_pR (tO_pN (tO_pR (tO_pN (tO_pR (tO_pN (tO_pR (tO_pN (tO_pR (tO_pN (tO_pR (tO_pN (tO_pR (tO_pN (tO_pR (tO_pN (tO_pR (tO_pN (tO_pR (tO_pN (tO_pR (tO_pN (tO_pR (tO_pN (tO_pR (tO_pN (tO_pR (tO_pN (tO_pR (tO_pN (tO_pI (tO_pR (tO_pN k1)))))))))))))))))))))))))))))))))))))))))))))))))))))))))))))) fk_10_107 rfl (Or.inr ⟨rfl, rfl⟩) (Or.inr ⟨_, rfl⟩) ?_
  replace e := bhd e
  obtain ⟨_, rfl, e⟩ := e
  refine g_ald_n d_X11_init_266 rfl g0 ?_
  refine r_sipush d_X11_init_267 (v := (3840 : Int32)) (by decide +kernel) ?_
  replace e := ckd e
  obtain ⟨k96, e⟩ := e
  refine g_newa (t := 22) k96 d_X11_init_270 (by decide) (by decide) rfl (by decide +kernel) (by decide) (by decide +kernel) ?_
  replace e := bhd e
  obtain ⟨_, rfl, e⟩ := e
  refine g_putR d_X11_init_272 (f := 1240) (tO_pN (tO_pR (tO_pN (tO_pR (tO_pN (tO_pR (tO_pN (tO_pR (tO_pN (tO_pR (tO_pN (tO_pR (tO_pN (tO_pR (tO_pN (tO_pR (tO_pN (tO_pR (tO_pN (tO_pR (tO_pN (tO_pR (tO_pN (tO_pR (tO_pN (tO_pR (tO_pN (tO_pR (tO_pN (tO_pR (tO_pN (tO_pR (tO_pN (tO_pR (tO_pN (tO_pR (tO_pN (tO_pR (tO_pN (tO_pR (tO_pN (tO_pR (tO_pN (tO_pR (tO_pN (tO_pR (tO_pN (tO_pR (tO_pN (tO_pR (tO_pN (tO_pR (tO_pN (tO_pR (tO_pN (tO_pR (tO_pN (tO_pR (tO_pN (tO_pR (tO_pN (tO_pI (tO_pR (tO_pN k1)))))))))))))))))))))))))))))))))))))))))))))))))))))))))))))))) fk_10_110 rfl (Or.inr ⟨rfl, rfl⟩) (Or.inr ⟨_, rfl⟩) ?_
  replace e := bhd e
  obtain ⟨_, rfl, e⟩ := e
  refine g_ald_n d_X11_init_275 rfl g0 ?_
  refine r_bipush d_X11_init_276 (v := (64 : Int32)) (by decide +kernel) ?_
  replace e := ckd e
  obtain ⟨k99, e⟩ := e
  refine g_newa (t := 22) k99 d_X11_init_278 (by decide) (by decide) rfl (by decide +kernel) (by decide) (by decide +kernel) ?_
  replace e := bhd e
  obtain ⟨_, rfl, e⟩ := e
  refine g_putR d_X11_init_280 (f := 1241) (tO_pN (tO_pR (tO_pN (tO_pR (tO_pN (tO_pR (tO_pN (tO_pR (tO_pN (tO_pR (tO_pN (tO_pR (tO_pN (tO_pR (tO_pN (tO_pR (tO_pN (tO_pR (tO_pN (tO_pR (tO_pN (tO_pR (tO_pN (tO_pR (tO_pN (tO_pR (tO_pN (tO_pR (tO_pN (tO_pR (tO_pN (tO_pR (tO_pN (tO_pR (tO_pN (tO_pR (tO_pN (tO_pR (tO_pN (tO_pR (tO_pN (tO_pR (tO_pN (tO_pR (tO_pN (tO_pR (tO_pN (tO_pR (tO_pN (tO_pR (tO_pN (tO_pR (tO_pN (tO_pR (tO_pN (tO_pR (tO_pN (tO_pR (tO_pN (tO_pR (tO_pN (tO_pR (tO_pN (tO_pI (tO_pR (tO_pN k1)))))))))))))))))))))))))))))))))))))))))))))))))))))))))))))))))) fk_10_113 rfl (Or.inr ⟨rfl, rfl⟩) (Or.inr ⟨_, rfl⟩) ?_
  replace e := bhd e
  obtain ⟨_, rfl, e⟩ := e
  refine g_ald_n d_X11_init_283 rfl g0 ?_
  refine r_bipush d_X11_init_284 (v := (64 : Int32)) (by decide +kernel) ?_
  replace e := ckd e
  obtain ⟨k102, e⟩ := e
  refine g_newa (t := 22) k102 d_X11_init_286 (by decide) (by decide) rfl (by decide +kernel) (by decide) (by decide +kernel) ?_
  replace e := bhd e
  obtain ⟨_, rfl, e⟩ := e
  refine g_putR d_X11_init_288 (f := 1242) (tO_pN (tO_pR (tO_pN (tO_pR (tO_pN (tO_pR (tO_pN (tO_pR (tO_pN (tO_pR (tO_pN (tO_pR (tO_pN (tO_pR (tO_pN (tO_pR (tO_pN (tO_pR (tO_pN (tO_pR (tO_pN (tO_pR (tO_pN (tO_pR (tO_pN (tO_pR (tO_pN (tO_pR (tO_pN (tO_pR (tO_pN (tO_pR (tO_pN (tO_pR (tO_pN (tO_pR (tO_pN (tO_pR (tO_pN (tO_pR (tO_pN (tO_pR (tO_pN (tO_pR (tO_pN (tO_pR (tO_pN (tO_pR (tO_pN (tO_pR (tO_pN (tO_pR (tO_pN (tO_pR (tO_pN (tO_pR (tO_pN (tO_pR (tO_pN (tO_pR (tO_pN (tO_pR (tO_pN (tO_pR (tO_pN (tO_pI (tO_pR (tO_pN k1)))))))))))))))))))))))))))))))))))))))))))))))))))))))))))))))))))) fk_10_116 rfl (Or.inr ⟨rfl, rfl⟩) (Or.inr ⟨_, rfl⟩) ?_
  replace e := bhd e
  obtain ⟨_, rfl, e⟩ := e
  refine g_ald_n d_X11_init_291 rfl g0 ?_
  refine r_bipush d_X11_init_292 (v := (64 : Int32)) (by decide +kernel) ?_
  replace e := ckd e
  obtain ⟨k105, e⟩ := e
  refine g_newa (t := 22) k105 d_X11_init_294 (by decide) (by decide) rfl (by decide +kernel) (by decide) (by decide +kernel) ?_
  replace e := bhd e
  obtain ⟨_, rfl, e⟩ := e
  refine g_putR d_X11_init_296 (f := 1243) (tO_pN (tO_pR (tO_pN (tO_pR (tO_pN (tO_pR (tO_pN (tO_pR (tO_pN (tO_pR (tO_pN (tO_pR (tO_pN (tO_pR (tO_pN (tO_pR (tO_pN (tO_pR (tO_pN (tO_pR (tO_pN (tO_pR (tO_pN (tO_pR (tO_pN (tO_pR (tO_pN (tO_pR (tO_pN (tO_pR (tO_pN (tO_pR (tO_pN (tO_pR (tO_pN (tO_pR (tO_pN (tO_pR (tO_pN (tO_pR (tO_pN (tO_pR (tO_pN (tO_pR (tO_pN (tO_pR (tO_pN (tO_pR (tO_pN (tO_pR (tO_pN (tO_pR (tO_pN (tO_pR (tO_pN (tO_pR (tO_pN (tO_pR (tO_pN (tO_pR (tO_pN (tO_pR (tO_pN (tO_pR (tO_pN (tO_pR (tO_pN (tO_pI (tO_pR (tO_pN k1)))))))))))))))))))))))))))))))))))))))))))))))))))))))))))))))))))))) fk_10_119 rfl (Or.inr ⟨rfl, rfl⟩) (Or.inr ⟨_, rfl⟩) ?_
  replace e := bhd e
  obtain ⟨_, rfl, e⟩ := e
  refine g_ald_n d_X11_init_299 rfl g0 ?_
  refine r_bipush d_X11_init_300 (v := (64 : Int32)) (by decide +kernel) ?_
  replace e := ckd e
  obtain ⟨k108, e⟩ := e
  refine g_newa (t := 22) k108 d_X11_init_302 (by decide) (by decide) rfl (by decide +kernel) (by decide) (by decide +kernel) ?_
  replace e := bhd e
  obtain ⟨_, rfl, e⟩ := e
  refine g_putR d_X11_init_304 (f := 1244) (tO_pN (tO_pR (tO_pN (tO_pR (tO_pN (tO_pR (tO_pN (tO_pR (tO_pN (tO_pR (tO_pN (tO_pR (tO_pN (tO_pR (tO_pN (tO_pR (tO_pN (tO_pR (tO_pN (tO_pR (tO_pN (tO_pR (tO_pN (tO_pR (tO_pN (tO_pR (tO_pN (tO_pR (tO_pN (tO_pR (tO_pN (tO_pR (tO_pN (tO_pR (tO_pN (tO_pR (tO_pN (tO_pR (tO_pN (tO_pR (tO_pN (tO_pR (tO_pN (tO_pR (tO_pN (tO_pR (tO_pN (tO_pR (tO_pN (tO_pR (tO_pN (tO_pR (tO_pN (tO_pR (tO_pN (tO_pR (tO_pN (tO_pR (tO_pN (tO_pR (tO_pN (tO_pR (tO_pN (tO_pR (tO_pN (tO_pR (tO_pN (tO_pR (tO_pN (tO_pI (tO_pR (tO_pN k1)))))))))))))))))))))))))))))))))))))))))))))))))))))))))))))))))))))))) fk_10_122 rfl (Or.inr ⟨rfl, rfl⟩) (Or.inr ⟨_, rfl⟩) ?_
  replace e := bhd e
  obtain ⟨_, rfl, e⟩ := e
  refine g_ald_n d_X11_init_307 rfl g0 ?_
  refine r_sipush d_X11_init_308 (v := (512 : Int32)) (by decide +kernel) ?_
  replace e := ckd e
  obtain ⟨k111, e⟩ := e
  refine g_newa (t := 22) k111 d_X11_init_311 (by decide) (by decide) rfl (by decide +kernel) (by decide) (by decide +kernel) ?_
  replace e := bhd e
  obtain ⟨_, rfl, e⟩ := e
  refine g_putR d_X11_init_313 (f := 1245) (tO_pN (tO_pR (tO_pN (tO_pR (tO_pN (tO_pR (tO_pN (tO_pR (tO_pN (tO_pR (tO_pN (tO_pR (tO_pN (tO_pR (tO_pN (tO_pR (tO_pN (tO_pR (tO_pN (tO_pR (tO_pN (tO_pR (tO_pN (tO_pR (tO_pN (tO_pR (tO_pN (tO_pR (tO_pN (tO_pR (tO_pN (tO_pR (tO_pN (tO_pR (tO_pN (tO_pR (tO_pN (tO_pR (tO_pN (tO_pR (tO_pN (tO_pR (tO_pN (tO_pR (tO_pN (tO_pR (tO_pN (tO_pR (tO_pN (tO_pR (tO_pN (tO_pR (tO_pN (tO_pR (tO_pN (tO_pR (tO_pN (tO_pR (tO_pN (tO_pR (tO_pN (tO_pR (tO_pN (tO_pR (tO_pN (tO_pR (tO_pN (tO_pR (tO_pN (tO_pR (tO_pN (tO_pI (tO_pR (tO_pN k1)))))))))))))))))))))))))))))))))))))))))))))))))))))))))))))))))))))))))) fk_10_125 rfl (Or.inr ⟨rfl, rfl⟩) (Or.inr ⟨_, rfl⟩) ?_
  replace e := bhd e
  obtain ⟨_, rfl, e⟩ := e
  refine g_ald_n d_X11_init_316 rfl g0 ?_
  refine r_bipush d_X11_init_317 (v := (64 : Int32)) (by decide +kernel) ?_
  replace e := ckd e
  obtain ⟨k114, e⟩ := e
  refine g_newa (t := 22) k114 d_X11_init_319 (by decide) (by decide) rfl (by decide +kernel) (by decide) (by decide +kernel) ?_
  replace e := bhd e
  obtain ⟨_, rfl, e⟩ := e
  refine g_putR d_X11_init_321 (f := 1246) (tO_pN (tO_pR (tO_pN (tO_pR (tO_pN (tO_pR (tO_pN (tO_pR (tO_pN (tO_pR (tO_pN (tO_pR (tO_pN (tO_pR (tO_pN (tO_pR (tO_pN (tO_pR (tO_pN (tO_pR (tO_pN (tO_pR (tO_pN (tO_pR (tO_pN (tO_pR (tO_pN (tO_pR (tO_pN (tO_pR (tO_pN (tO_pR (tO_pN (tO_pR (tO_pN (tO_pR (tO_pN (tO_pR (tO_pN (tO_pR (tO_pN (tO_pR (tO_pN (tO_pR (tO_pN (tO_pR (tO_pN (tO_pR (tO_pN (tO_pR (tO_pN (tO_pR (tO_pN (tO_pR (tO_pN (tO_pR (tO_pN (tO_pR (tO_pN (tO_pR (tO_pN (tO_pR (tO_pN (tO_pR (tO_pN (tO_pR (tO_pN (tO_pR (tO_pN (tO_pR (tO_pN (tO_pR (tO_pN (tO_pI (tO_pR (tO_pN k1)))))))))))))))))))))))))))))))))))))))))))))))))))))))))))))))))))))))))))) fk_10_128 rfl (Or.inr ⟨rfl, rfl⟩) (Or.inr ⟨_, rfl⟩) ?_
  replace e := bhd e
  obtain ⟨_, rfl, e⟩ := e
  refine g_ald_n d_X11_init_324 rfl g0 ?_
  refine r_bipush d_X11_init_325 (v := (64 : Int32)) (by decide +kernel) ?_
  replace e := ckd e
  obtain ⟨k117, e⟩ := e
  refine g_newa (t := 22) k117 d_X11_init_327 (by decide) (by decide) rfl (by decide +kernel) (by decide) (by decide +kernel) ?_
  replace e := bhd e
  obtain ⟨_, rfl, e⟩ := e
  refine g_putR d_X11_init_329 (f := 1247) (tO_pN (tO_pR (tO_pN (tO_pR (tO_pN (tO_pR (tO_pN (tO_pR (tO_pN (tO_pR (tO_pN (tO_pR (tO_pN (tO_pR (tO_pN (tO_pR (tO_pN (tO_pR (tO_pN (tO_pR (tO_pN (tO_pR (tO_pN (tO_pR (tO_pN (tO_pR (tO_pN (tO_pR (tO_pN (tO_pR (tO_pN (tO_pR (tO_pN (tO_pR (tO_pN (tO_pR (tO_pN (tO_pR (tO_pN (tO_pR (tO_pN (tO_pR (tO_pN (tO_pR (tO_pN (tO_pR (tO_pN (tO_pR (tO_pN (tO_pR (tO_pN (tO_pR (tO_pN (tO_pR (tO_pN (tO_pR (tO_pN (tO_pR (tO_pN (tO_pR (tO_pN (tO_pR (tO_pN (tO_pR (tO_pN (tO_pR (tO_pN (tO_pR (tO_pN (tO_pR (tO_pN (tO_pR (tO_pN (tO_pR (tO_pN (tO_pI (tO_pR (tO_pN k1)))))))))))))))))))))))))))))))))))))))))))))))))))))))))))))))))))))))))))))) fk_10_131 rfl (Or.inr ⟨rfl, rfl⟩) (Or.inr ⟨_, rfl⟩) ?_
  replace e := bhd e
  obtain ⟨_, rfl, e⟩ := e
  refine g_ald_n d_X11_init_332 rfl g0 ?_
  refine r_bipush d_X11_init_333 (v := (64 : Int32)) (by decide +kernel) ?_
  replace e := ckd e
  obtain ⟨k120, e⟩ := e
  refine g_newa (t := 22) k120 d_X11_init_335 (by decide) (by decide) rfl (by decide +kernel) (by decide) (by decide +kernel) ?_
  replace e := bhd e
  obtain ⟨_, rfl, e⟩ := e
  refine g_putR d_X11_init_337 (f := 1248) (tO_pN (tO_pR (tO_pN (tO_pR (tO_pN (tO_pR (tO_pN (tO_pR (tO_pN (tO_pR (tO_pN (tO_pR (tO_pN (tO_pR (tO_pN (tO_pR (tO_pN (tO_pR (tO_pN (tO_pR (tO_pN (tO_pR (tO_pN (tO_pR (tO_pN (tO_pR (tO_pN (tO_pR (tO_pN (tO_pR (tO_pN (tO_pR (tO_pN (tO_pR (tO_pN (tO_pR (tO_pN (tO_pR (tO_pN (tO_pR (tO_pN (tO_pR (tO_pN (tO_pR (tO_pN (tO_pR (tO_pN (tO_pR (tO_pN (tO_pR (tO_pN (tO_pR (tO_pN (tO_pR (tO_pN (tO_pR (tO_pN (tO_pR (tO_pN (tO_pR (tO_pN (tO_pR (tO_pN (tO_pR (tO_pN (tO_pR (tO_pN (tO_pR (tO_pN (tO_pR (tO_pN (tO_pR (tO_pN (tO_pR (tO_pN (tO_pR (tO_pN (tO_pI (tO_pR (tO_pN k1)))))))))))))))))))))))))))))))))))))))))))))))))))))))))))))))))))))))))))))))) fk_10_134 rfl (Or.inr ⟨rfl, rfl⟩) (Or.inr ⟨_, rfl⟩) ?_
  replace e := bhd e
  obtain ⟨_, rfl, e⟩ := e
  refine g_ald_n d_X11_init_340 rfl g0 ?_
  refine r_bipush d_X11_init_341 (v := (64 : Int32)) (by decide +kernel) ?_
  replace e := ckd e
  obtain ⟨k123, e⟩ := e
  refine g_newa (t := 22) k123 d_X11_init_343 (by decide) (by decide) rfl (by decide +kernel) (by decide) (by decide +kernel) ?_
  replace e := bhd e
  obtain ⟨_, rfl, e⟩ := e
  refine g_putR d_X11_init_345 (f := 1249) (tO_pN (tO_pR (tO_pN (tO_pR (tO_pN (tO_pR (tO_pN (tO_pR (tO_pN (tO_pR (tO_pN (tO_pR (tO_pN (tO_pR (tO_pN (tO_pR (tO_pN (tO_pR (tO_pN (tO_pR (tO_pN (tO_pR (tO_pN (tO_pR (tO_pN (tO_pR (tO_pN (tO_pR (tO_pN (tO_pR (tO_pN (tO_pR (tO_pN (tO_pR (tO_pN (tO_pR (tO_pN (tO_pR (tO_pN (tO_pR (tO_pN (tO_pR (tO_pN (tO_pR (tO_pN (tO_pR (tO_pN (tO_pR (tO_pN (tO_pR (tO_pN (tO_pR (tO_pN (tO_pR (tO_pN (tO_pR (tO_pN (tO_pR (tO_pN (tO_pR (tO_pN (tO_pR (tO_pN (tO_pR (tO_pN (tO_pR (tO_pN (tO_pR (tO_pN (tO_pR (tO_pN (tO_pR (tO_pN (tO_pR (tO_pN (tO_pR (tO_pN (tO_pR (tO_pN (tO_pI (tO_pR (tO_pN k1)))))))))))))))))))))))))))))))))))))))))))))))))))))))))))))))))))))))))))))))))) fk_10_137 rfl (Or.inr ⟨rfl, rfl⟩) (Or.inr ⟨_, rfl⟩) ?_
  replace e := bhd e
  obtain ⟨_, rfl, e⟩ := e
  refine g_ald_n d_X11_init_348 rfl g0 ?_
  refine r_bipush d_X11_init_349 (v := (64 : Int32)) (by decide +kernel) ?_
  replace e := ckd e
  obtain ⟨k126, e⟩ := e
  refine g_newa (t := 22) k126 d_X11_init_351 (by decide) (by decide) rfl (by decide +kernel) (by decide) (by decide +kernel) ?_
  replace e := bhd e
  obtain ⟨_, rfl, e⟩ := e
  refine g_putR d_X11_init_353 (f := 1250) (tO_pN (tO_pR (tO_pN (tO_pR (tO_pN (tO_pR (tO_pN (tO_pR (tO_pN (tO_pR (tO_pN (tO_pR (tO_pN (tO_pR (tO_pN (tO_pR (tO_pN (tO_pR (tO_pN (tO_pR (tO_pN (tO_pR (tO_pN (tO_pR (tO_pN (tO_pR (tO_pN (tO_pR (tO_pN (tO_pR (tO_pN (tO_pR (tO_pN (tO_pR (tO_pN (tO_pR (tO_pN (tO_pR (tO_pN (tO_pR (tO_pN (tO_pR (tO_pN (tO_pR (tO_pN (tO_pR (tO_pN (tO_pR (tO_pN (tO_pR (tO_pN (tO_pR (tO_pN (tO_pR (tO_pN (tO_pR (tO_pN (tO_pR (tO_pN (tO_pR (tO_pN (tO_pR (tO_pN (tO_pR (tO_pN (tO_pR (tO_pN (tO_pR (tO_pN (tO_pR (tO_pN (tO_pR (tO_pN (tO_pR (tO_pN (tO_pR (tO_pN (tO_pR (tO_pN (tO_pR (tO_pN (tO_pI (tO_pR (tO_pN k1)))))))))))))))))))))))))))))))))))))))))))))))))))))))))))))))))))))))))))))))))))) fk_10_140 rfl (Or.inr ⟨rfl, rfl⟩) (Or.inr ⟨_, rfl⟩) ?_
  replace e := bhd e
  obtain ⟨_, rfl, e⟩ := e
  refine g_ald_n d_X11_init_356 rfl g0 ?_
  refine r_bipush d_X11_init_357 (v := (64 : Int32)) (by decide +kernel) ?_
  replace e := ckd e
  obtain ⟨k129, e⟩ := e
  refine g_newa (t := 22) k129 d_X11_init_359 (by decide) (by decide) rfl (by decide +kernel) (by decide) (by decide +kernel) ?_
  replace e := bhd e
  obtain ⟨_, rfl, e⟩ := e
  refine g_putR d_X11_init_361 (f := 1251) (tO_pN (tO_pR (tO_pN (tO_pR (tO_pN (tO_pR (tO_pN (tO_pR (tO_pN (tO_pR (tO_pN (tO_pR (tO_pN (tO_pR (tO_pN (tO_pR (tO_pN (tO_pR (tO_pN (tO_pR (tO_pN (tO_pR (tO_pN (tO_pR (tO_pN (tO_pR (tO_pN (tO_pR (tO_pN (tO_pR (tO_pN (tO_pR (tO_pN (tO_pR (tO_pN (tO_pR (tO_pN (tO_pR (tO_pN (tO_pR (tO_pN (tO_pR (tO_pN (tO_pR (tO_pN (tO_pR (tO_pN (tO_pR (tO_pN (tO_pR (tO_pN (tO_pR (tO_pN (tO_pR (tO_pN (tO_pR (tO_pN (tO_pR (tO_pN (tO_pR (tO_pN (tO_pR (tO_pN (tO_pR (tO_pN (tO_pR (tO_pN (tO_pR (tO_pN (tO_pR (tO_pN (tO_pR (tO_pN (tO_pR (tO_pN (tO_pR (tO_pN (tO_pR (tO_pN (tO_pR (tO_pN (tO_pR (tO_pN (tO_pI (tO_pR (tO_pN k1)))))))))))))))))))))))))))))))))))))))))))))))))))))))))))))))))))))))))))))))))))))) fk_10_143 rfl (Or.inr ⟨rfl, rfl⟩) (Or.inr ⟨_, rfl⟩) ?_
  replace e := bhd e
  obtain ⟨_, rfl, e⟩ := e
  refine g_ald_n d_X11_init_364 rfl g0 ?_
  refine r_bipush d_X11_init_365 (v := (64 : Int32)) (by decide +kernel) ?_
  replace e := ckd e
  obtain ⟨k132, e⟩ := e
  refine g_newa (t := 22) k132 d_X11_init_367 (by decide) (by decide) rfl (by decide +kernel) (by decide) (by decide +kernel) ?_
  replace e := bhd e
  obtain ⟨_, rfl, e⟩ := e
  refine g_putR d_X11_init_369 (f := 1252) (tO_pN (tO_pR (tO_pN (tO_pR (tO_pN (tO_pR (tO_pN (tO_pR (tO_pN (tO_pR (tO_pN (tO_pR (tO_pN (tO_pR (tO_pN (tO_pR (tO_pN (tO_pR (tO_pN (tO_pR (tO_pN (tO_pR (tO_pN (tO_pR (tO_pN (tO_pR (tO_pN (tO_pR (tO_pN (tO_pR (tO_pN (tO_pR (tO_pN (tO_pR (tO_pN (tO_pR (tO_pN (tO_pR (tO_pN (tO_pR (tO_pN (tO_pR (tO_pN (tO_pR (tO_pN (tO_pR (tO_pN (tO_pR (tO_pN (tO_pR (tO_pN (tO_pR (tO_pN (tO_pR (tO_pN (tO_pR (tO_pN (tO_pR (tO_pN (tO_pR (tO_pN (tO_pR (tO_pN (tO_pR (tO_pN (tO_pR (tO_pN (tO_pR (tO_pN (tO_pR (tO_pN (tO_pR (tO_pN (tO_pR (tO_pN (tO_pR (tO_pN (tO_pR (tO_pN (tO_pR (tO_pN (tO_pR (tO_pN (tO_pR (tO_pN (tO_pI (tO_pR (tO_pN k1)))))))))))))))))))))))))))))))))))))))))))))))))))))))))))))))))))))))))))))))))))))))) fk_10_146 rfl (Or.inr ⟨rfl, rfl⟩) (Or.inr ⟨_, rfl⟩) ?_
  replace e := bhd e
  obtain ⟨_, rfl, e⟩ := e
  refine g_ald_n d_X11_init_372 rfl g0 ?_
  refine r_bipush d_X11_init_373 (v := (64 : Int32)) (by decide +kernel) ?_
  replace e := ckd e
  obtain ⟨k135, e⟩ := e
  refine g_newa (t := 22) k135 d_X11_init_375 (by decide) (by decide) rfl (by decide +kernel) (by decide) (by decide +kernel) ?_
  replace e := bhd e
  obtain ⟨_, rfl, e⟩ := e
  refine g_putR d_X11_init_377 (f := 1253) (tO_pN (tO_pR (tO_pN (tO_pR (tO_pN (tO_pR (tO_pN (tO_pR (tO_pN (tO_pR (tO_pN (tO_pR (tO_pN (tO_pR (tO_pN (tO_pR (tO_pN (tO_pR (tO_pN (tO_pR (tO_pN (tO_pR (tO_pN (tO_pR (tO_pN (tO_pR (tO_pN (tO_pR (tO_pN (tO_pR (tO_pN (tO_pR (tO_pN (tO_pR (tO_pN (tO_pR (tO_pN (tO_pR (tO_pN (tO_pR (tO_pN (tO_pR (tO_pN (tO_pR (tO_pN (tO_pR (tO_pN (tO_pR (tO_pN (tO_pR (tO_pN (tO_pR (tO_pN (tO_pR (tO_pN (tO_pR (tO_pN (tO_pR (tO_pN (tO_pR (tO_pN (tO_pR (tO_pN (tO_pR (tO_pN (tO_pR (tO_pN (tO_pR (tO_pN (tO_pR (tO_pN (tO_pR (tO_pN (tO_pR (tO_pN (tO_pR (tO_pN (tO_pR (tO_pN (tO_pR (tO_pN (tO_pR (tO_pN (tO_pR (tO_pN (tO_pR (tO_pN (tO_pI (tO_pR (tO_pN k1)))))))))))))))))))))))))))))))))))))))))))))))))))))))))))))))))))))))))))))))))))))))))) fk_10_149 rfl (Or.inr ⟨rfl, rfl⟩) (Or.inr ⟨_, rfl⟩) ?_
  replace e := bhd e
  obtain ⟨_, rfl, e⟩ := e
  refine g_ald_n d_X11_init_380 rfl g0 ?_
  refine r_bipush d_X11_init_381 (v := (64 : Int32)) (by decide +kernel) ?_
  replace e := ckd e
  obtain ⟨k138, e⟩ := e
  refine g_newa (t := 22) k138 d_X11_init_383 (by decide) (by decide) rfl (by decide +kernel) (by decide) (by decide +kernel) ?_
  replace e := bhd e
  obtain ⟨_, rfl, e⟩ := e
  refine g_putR d_X11_init_385 (f := 1254) (tO_pN (tO_pR (tO_pN (tO_pR (tO_pN (tO_pR (tO_pN (tO_pR (tO_pN (tO_pR (tO_pN (tO_pR (tO_pN (tO_pR (tO_pN (tO_pR (tO_pN (tO_pR (tO_pN (tO_pR (tO_pN (tO_pR (tO_pN (tO_pR (tO_pN (tO_pR (tO_pN (tO_pR (tO_pN (tO_pR (tO_pN (tO_pR (tO_pN (tO_pR (tO_pN (tO_pR (tO_pN (tO_pR (tO_pN (tO_pR (tO_pN (tO_pR (tO_pN (tO_pR (tO_pN (tO_pR (tO_pN (tO_pR (tO_pN (tO_pR (tO_pN (tO_pR (tO_pN (tO_pR (tO_pN (tO_pR (tO_pN (tO_pR (tO_pN (tO_pR (tO_pN (tO_pR (tO_pN (tO_pR (tO_pN (tO_pR (tO_pN (tO_pR (tO_pN (tO_pR (tO_pN (tO_pR (tO_pN (tO_pR (tO_pN (tO_pR (tO_pN (tO_pR (tO_pN (tO_pR (tO_pN (tO_pR (tO_pN (tO_pR (tO_pN (tO_pR (tO_pN (tO_pR (tO_pN (tO_pI (tO_pR (tO_pN k1)))))))))))))))))))))))))))))))))))))))))))))))))))))))))))))))))))))))))))))))))))))))))))) fk_10_152 rfl (Or.inr ⟨rfl, rfl⟩) (Or.inr ⟨_, rfl⟩) ?_
  replace e := bhd e
  obtain ⟨_, rfl, e⟩ := e
  refine g_ald_n d_X11_init_388 rfl g0 ?_
  refine r_bipush d_X11_init_389 (v := (64 : Int32)) (by decide +kernel) ?_
  replace e := ckd e
  obtain ⟨k141, e⟩ := e
  refine g_newa (t := 22) k141 d_X11_init_391 (by decide) (by decide) rfl (by decide +kernel) (by decide) (by decide +kernel) ?_
  replace e := bhd e
  obtain ⟨_, rfl, e⟩ := e
  refine g_putR d_X11_init_393 (f := 1255) (tO_pN (tO_pR (tO_pN (tO_pR (tO_pN (tO_pR (tO_pN (tO_pR (tO_pN (tO_pR (tO_pN (tO_pR (tO_pN (tO_pR (tO_pN (tO_pR (tO_pN (tO_pR (tO_pN (tO_pR (tO_pN (tO_pR (tO_pN (tO_pR (tO_pN (tO_pR (tO_pN (tO_pR (tO_pN (tO_pR (tO_pN (tO_pR (tO_pN (tO_pR (tO_pN (tO_pR (tO_pN (tO_pR (tO_pN (tO_pR (tO_pN (tO_pR (tO_pN (tO_pR (tO_pN (tO_pR (tO_pN (tO_pR (tO_pN (tO_pR (tO_pN (tO_pR (tO_pN (tO_pR (tO_pN (tO_pR (tO_pN (tO_pR (tO_pN (tO_pR (tO_pN (tO_pR (tO_pN (tO_pR (tO_pN (tO_pR (tO_pN (tO_pR (tO_pN (tO_pR (tO_pN (tO_pR (tO_pN (tO_pR (tO_pN (tO_pR (tO_pN (tO_pR (tO_pN (tO_pR (tO_pN (tO_pR (tO_pN (tO_pR (tO_pN (tO_pR (tO_pN (tO_pR (tO_pN (tO_pR (tO_pN (tO_pI (tO_pR (tO_pN k1)))))))))))))))))))))))))))))))))))))))))))))))))))))))))))))))))))))))))))))))))))))))))))))) fk_10_155 rfl (Or.inr ⟨rfl, rfl⟩) (Or.inr ⟨_, rfl⟩) ?_
  replace e := bhd e
  obtain ⟨_, rfl, e⟩ := e
  refine g_ald_n d_X11_init_396 rfl g0 ?_
  refine r_bipush d_X11_init_397 (v := (64 : Int32)) (by decide +kernel) ?_
  replace e := ckd e
  obtain ⟨k144, e⟩ := e
  refine g_newa (t := 22) k144 d_X11_init_399 (by decide) (by decide) rfl (by decide +kernel) (by decide) (by decide +kernel) ?_
  replace e := bhd e
  obtain ⟨_, rfl, e⟩ := e
  refine g_putR d_X11_init_401 (f := 1256) (tO_pN (tO_pR (tO_pN (tO_pR (tO_pN (tO_pR (tO_pN (tO_pR (tO_pN (tO_pR (tO_pN (tO_pR (tO_pN (tO_pR (tO_pN (tO_pR (tO_pN (tO_pR (tO_pN (tO_pR (tO_pN (tO_pR (tO_pN (tO_pR (tO_pN (tO_pR (tO_pN (tO_pR (tO_pN (tO_pR (tO_pN (tO_pR (tO_pN (tO_pR (tO_pN (tO_pR (tO_pN (tO_pR (tO_pN (tO_pR (tO_pN (tO_pR (tO_pN (tO_pR (tO_pN (tO_pR (tO_pN (tO_pR (tO_pN (tO_pR (tO_pN (tO_pR (tO_pN (tO_pR (tO_pN (tO_pR (tO_pN (tO_pR (tO_pN (tO_pR (tO_pN (tO_pR (tO_pN (tO_pR (tO_pN (tO_pR (tO_pN (tO_pR (tO_pN (tO_pR (tO_pN (tO_pR (tO_pN (tO_pR (tO_pN (tO_pR (tO_pN (tO_pR (tO_pN (tO_pR (tO_pN (tO_pR (tO_pN (tO_pR (tO_pN (tO_pR (tO_pN (tO_pR (tO_pN (tO_pR (tO_pN (tO_pR (tO_pN (tO_pI (tO_pR (tO_pN k1)))))))))))))))))))))))))))))))))))))))))))))))))))))))))))))))))))))))))))))))))))))))))))))))) fk_10_158 rfl (Or.inr ⟨rfl, rfl⟩) (Or.inr ⟨_, rfl⟩) ?_
  replace e := bhd e
  obtain ⟨_, rfl, e⟩ := e
  refine g_ald_n d_X11_init_404 rfl g0 ?_
  refine r_iconst d_X11_init_405 (v := (4 : Int32)) (by decide +kernel) ?_
  replace e := ckd e
  obtain ⟨k147, e⟩ := e
  refine g_newa (t := 22) k147 d_X11_init_406 (by decide) (by decide) rfl (by decide +kernel) (by decide) (by decide +kernel) ?_
  replace e := bhd e
  obtain ⟨_, rfl, e⟩ := e
  refine g_putR d_X11_init_408 (f := 1257) (tO_pN (tO_pR (tO_pN (tO_pR (tO_pN (tO_pR (tO_pN (tO_pR (tO_pN (tO_pR (tO_pN (tO_pR (tO_pN (tO_pR (tO_pN (tO_pR (tO_pN (tO_pR (tO_pN (tO_pR (tO_pN (tO_pR (tO_pN (tO_pR (tO_pN (tO_pR (tO_pN (tO_pR (tO_pN (tO_pR (tO_pN (tO_pR (tO_pN (tO_pR (tO_pN (tO_pR (tO_pN (tO_pR (tO_pN (tO_pR (tO_pN (tO_pR (tO_pN (tO_pR (tO_pN (tO_pR (tO_pN (tO_pR (tO_pN (tO_pR (tO_pN (tO_pR (tO_pN (tO_pR (tO_pN (tO_pR (tO_pN (tO_pR (tO_pN (tO_pR (tO_pN (tO_pR (tO_pN (tO_pR (tO_pN (tO_pR (tO_pN (tO_pR (tO_pN (tO_pR (tO_pN (tO_pR (tO_pN (tO_pR (tO_pN (tO_pR (tO_pN (tO_pR (tO_pN (tO_pR (tO_pN (tO_pR (tO_pN (tO_pR (tO_pN (tO_pR (tO_pN (tO_pR (tO_pN (tO_pR (tO_pN (tO_pR (tO_pN (tO_pR (tO_pN (tO_pI (tO_pR (tO_pN k1)))))))))))))))))))))))))))))))))))))))))))))))))))))))))))))))))))))))))))))))))))))))))))))))))) fk_10_161 rfl (Or.inr ⟨rfl, rfl⟩) (Or.inr ⟨_, rfl⟩) ?_
  replace e := bhd e
  obtain ⟨_, rfl, e⟩ := e
  refine g_ald_n d_X11_init_411 rfl g0 ?_
  refine r_sipush d_X11_init_412 (v := (4096 : Int32)) (by decide +kernel) ?_
  replace e := ckd e
  obtain ⟨k150, e⟩ := e
  refine g_newa (t := 22) k150 d_X11_init_415 (by decide) (by decide) rfl (by decide +kernel) (by decide) (by decide +kernel) ?_
  replace e := bhd e
  obtain ⟨_, rfl, e⟩ := e
  refine g_putR d_X11_init_417 (f := 1258) (tO_pN (tO_pR (tO_pN (tO_pR (tO_pN (tO_pR (tO_pN (tO_pR (tO_pN (tO_pR (tO_pN (tO_pR (tO_pN (tO_pR (tO_pN (tO_pR (tO_pN (tO_pR (tO_pN (tO_pR (tO_pN (tO_pR (tO_pN (tO_pR (tO_pN (tO_pR (tO_pN (tO_pR (tO_pN (tO_pR (tO_pN (tO_pR (tO_pN (tO_pR (tO_pN (tO_pR (tO_pN (tO_pR (tO_pN (tO_pR (tO_pN (tO_pR (tO_pN (tO_pR (tO_pN (tO_pR (tO_pN (tO_pR (tO_pN (tO_pR (tO_pN (tO_pR (tO_pN (tO_pR (tO_pN (tO_pR (tO_pN (tO_pR (tO_pN (tO_pR (tO_pN (tO_pR (tO_pN (tO_pR (tO_pN (tO_pR (tO_pN (tO_pR (tO_pN (tO_pR (tO_pN (tO_pR (tO_pN (tO_pR (tO_pN (tO_pR (tO_pN (tO_pR (tO_pN (tO_pR (tO_pN (tO_pR (tO_pN (tO_pR (tO_pN (tO_pR (tO_pN (tO_pR (tO_pN (tO_pR (tO_pN (tO_pR (tO_pN (tO_pR (tO_pN (tO_pR (tO_pN (tO_pI (tO_pR (tO_pN k1)))))))))))))))))))))))))))))))))))))))))))))))))))))))))))))))))))))))))))))))))))))))))))))))))))) fk_10_164 rfl (Or.inr ⟨rfl, rfl⟩) (Or.inr ⟨_, rfl⟩) ?_
  replace e := bhd e
  obtain ⟨_, rfl, e⟩ := e
  refine g_ald_n d_X11_init_420 rfl g0 ?_
  refine r_sipush d_X11_init_421 (v := (4096 : Int32)) (by decide +kernel) ?_
  replace e := ckd e
  obtain ⟨k153, e⟩ := e
  refine g_newa (t := 22) k153 d_X11_init_424 (by decide) (by decide) rfl (by decide +kernel) (by decide) (by decide +kernel) ?_
  replace e := bhd e
  obtain ⟨_, rfl, e⟩ := e
  refine g_putR d_X11_init_426 (f := 1259) (tO_pN (tO_pR (tO_pN (tO_pR (tO_pN (tO_pR (tO_pN (tO_pR (tO_pN (tO_pR (tO_pN (tO_pR (tO_pN (tO_pR (tO_pN (tO_pR (tO_pN (tO_pR (tO_pN (tO_pR (tO_pN (tO_pR (tO_pN (tO_pR (tO_pN (tO_pR (tO_pN (tO_pR (tO_pN (tO_pR (tO_pN (tO_pR (tO_pN (tO_pR (tO_pN (tO_pR (tO_pN (tO_pR (tO_pN (tO_pR (tO_pN (tO_pR (tO_pN (tO_pR (tO_pN (tO_pR (tO_pN (tO_pR (tO_pN (tO_pR (tO_pN (tO_pR (tO_pN (tO_pR (tO_pN (tO_pR (tO_pN (tO_pR (tO_pN (tO_pR (tO_pN (tO_pR (tO_pN (tO_pR (tO_pN (tO_pR (tO_pN (tO_pR (tO_pN (tO_pR (tO_pN (tO_pR (tO_pN (tO_pR (tO_pN (tO_pR (tO_pN (tO_pR (tO_pN (tO_pR (tO_pN (tO_pR (tO_pN (tO_pR (tO_pN (tO_pR (tO_pN (tO_pR (tO_pN (tO_pR (tO_pN (tO_pR (tO_pN (tO_pR (tO_pN (tO_pR (tO_pN (tO_pR (tO_pN (tO_pI (tO_pR (tO_pN k1)))))))))))))))))))))))))))))))))))))))))))))))))))))))))))))))))))))))))))))))))))))))))))))))))))))) fk_10_167 rfl (Or.inr ⟨rfl, rfl⟩) (Or.inr ⟨_, rfl⟩) ?_
  replace e := bhd e
  obtain ⟨_, rfl, e⟩ := e
  refine g_ald_n d_X11_init_429 rfl g0 ?_
  refine r_sipush d_X11_init_430 (v := (4096 : Int32)) (by decide +kernel) ?_
  replace e := ckd e
  obtain ⟨k156, e⟩ := e
  refine g_newa (t := 22) k156 d_X11_init_433 (by decide) (by decide) rfl (by decide +kernel) (by decide) (by decide +kernel) ?_
  replace e := bhd e
  obtain ⟨_, rfl, e⟩ := e
  refine g_putR d_X11_init_435 (f := 1260) (tO_pN (tO_pR (tO_pN (tO_pR (tO_pN (tO_pR (tO_pN (tO_pR (tO_pN (tO_pR (tO_pN (tO_pR (tO_pN (tO_pR (tO_pN (tO_pR (tO_pN (tO_pR (tO_pN (tO_pR (tO_pN (tO_pR (tO_pN (tO_pR (tO_pN (tO_pR (tO_pN (tO_pR (tO_pN (tO_pR (tO_pN (tO_pR (tO_pN (tO_pR (tO_pN (tO_pR (tO_pN (tO_pR (tO_pN (tO_pR (tO_pN (tO_pR (tO_pN (tO_pR (tO_pN (tO_pR (tO_pN (tO_pR (tO_pN (tO_pR (tO_pN (tO_pR (tO_pN (tO_pR (tO_pN (tO_pR (tO_pN (tO_pR (tO_pN (tO_pR (tO_pN (tO_pR (tO_pN (tO_pR (tO_pN (tO_pR (tO_pN (tO_pR (tO_pN (tO_pR (tO_pN (tO_pR (tO_pN (tO_pR (tO_pN (tO_pR (tO_pN (tO_pR (tO_pN (tO_pR (tO_pN (tO_pR (tO_pN (tO_pR (tO_pN (tO_pR (tO_pN (tO_pR (tO_pN (tO_pR (tO_pN (tO_pR (tO_pN (tO_pR (tO_pN (tO_pR (tO_pN (tO_pR (tO_pN (tO_pR (tO_pN (tO_pI (tO_pR (tO_pN k1)))))))))))))))))))))))))))))))))))))))))))))))))))))))))))))))))))))))))))))))))))))))))))))))))))))))) fk_10_170 rfl (Or.inr ⟨rfl, rfl⟩) (Or.inr ⟨_, rfl⟩) ?_
  replace e := bhd e
  obtain ⟨_, rfl, e⟩ := e
  refine g_ald_n d_X11_init_438 rfl g0 ?_
  refine r_sipush d_X11_init_439 (v := (1024 : Int32)) (by decide +kernel) ?_
  replace e := ckd e
  obtain ⟨k159, e⟩ := e
  refine g_newa (t := 22) k159 d_X11_init_442 (by decide) (by decide) rfl (by decide +kernel) (by decide) (by decide +kernel) ?_
  replace e := bhd e
  obtain ⟨_, rfl, e⟩ := e
  refine g_putR d_X11_init_444 (f := 1261) (tO_pN (tO_pR (tO_pN (tO_pR (tO_pN (tO_pR (tO_pN (tO_pR (tO_pN (tO_pR (tO_pN (tO_pR (tO_pN (tO_pR (tO_pN (tO_pR (tO_pN (tO_pR (tO_pN (tO_pR (tO_pN (tO_pR (tO_pN (tO_pR (tO_pN (tO_pR (tO_pN (tO_pR (tO_pN (tO_pR (tO_pN (tO_pR (tO_pN (tO_pR (tO_pN (tO_pR (tO_pN (tO_pR (tO_pN (tO_pR (tO_pN (tO_pR (tO_pN (tO_pR (tO_pN (tO_pR (tO_pN (tO_pR (tO_pN (tO_pR (tO_pN (tO_pR (tO_pN (tO_pR (tO_pN (tO_pR (tO_pN (tO_pR (tO_pN (tO_pR (tO_pN (tO_pR (tO_pN (tO_pR (tO_pN (tO_pR (tO_pN (tO_pR (tO_pN (tO_pR (tO_pN (tO_pR (tO_pN (tO_pR (tO_pN (tO_pR (tO_pN (tO_pR (tO_pN (tO_pR (tO_pN (tO_pR (tO_pN (tO_pR (tO_pN (tO_pR (tO_pN (tO_pR (tO_pN (tO_pR (tO_pN (tO_pR (tO_pN (tO_pR (tO_pN (tO_pR (tO_pN (tO_pR (tO_pN (tO_pR (tO_pN (tO_pR (tO_pN (tO_pI (tO_pR (tO_pN k1)))))))))))))))))))))))))))))))))))))))))))))))))))))))))))))))))))))))))))))))))))))))))))))))))))))))))) fk_10_173 rfl (Or.inr ⟨rfl, rfl⟩) (Or.inr ⟨_, rfl⟩) ?_
  replace e := bhd e
  obtain ⟨_, rfl, e⟩ := e
  refine g_ald_n d_X11_init_447 rfl g0 ?_
  refine r_sipush d_X11_init_448 (v := (8192 : Int32)) (by decide +kernel) ?_
  replace e := ckd e
  obtain ⟨k162, e⟩ := e
  refine g_newa (t := 23) k162 d_X11_init_451 (by decide) (by decide) rfl (by decide +kernel) (by decide) (by decide +kernel) ?_
  replace e := bhd e
  obtain ⟨_, rfl, e⟩ := e
  refine g_putR d_X11_init_453 (f := 1262) (tO_pN (tO_pR (tO_pN (tO_pR (tO_pN (tO_pR (tO_pN (tO_pR (tO_pN (tO_pR (tO_pN (tO_pR (tO_pN (tO_pR (tO_pN (tO_pR (tO_pN (tO_pR (tO_pN (tO_pR (tO_pN (tO_pR (tO_pN (tO_pR (tO_pN (tO_pR (tO_pN (tO_pR (tO_pN (tO_pR (tO_pN (tO_pR (tO_pN (tO_pR (tO_pN (tO_pR (tO_pN (tO_pR (tO_pN (tO_pR (tO_pN (tO_pR (tO_pN (tO_pR (tO_pN (tO_pR (tO_pN (tO_pR (tO_pN (tO_pR (tO_pN (tO_pR (tO_pN (tO_pR (tO_pN (tO_pR (tO_pN (tO_pR (tO_pN (tO_pR (tO_pN (tO_pR (tO_pN (tO_pR (tO_pN (tO_pR (tO_pN (tO_pR (tO_pN (tO_pR (tO_pN (tO_pR (tO_pN (tO_pR (tO_pN (tO_pR (tO_pN (tO_pR (tO_pN (tO_pR (tO_pN (tO_pR (tO_pN (tO_pR (tO_pN (tO_pR (tO_pN (tO_pR (tO_pN (tO_pR (tO_pN (tO_pR (tO_pN (tO_pR (tO_pN (tO_pR (tO_pN (tO_pR (tO_pN (tO_pR (tO_pN (tO_pR (tO_pN (tO_pR (tO_pN (tO_pI (tO_pR (tO_pN k1)))))))))))))))))))))))))))))))))))))))))))))))))))))))))))))))))))))))))))))))))))))))))))))))))))))))))))) fk_10_176 rfl (Or.inr ⟨rfl, rfl⟩) (Or.inr ⟨_, rfl⟩) ?_
  replace e := bhd e
  obtain ⟨_, rfl, e⟩ := e
  refine r_iconst d_X11_init_456 (v := (0 : Int32)) (by decide +kernel) ?_
  refine s_istore_n d_X11_init_457 rfl (by decide) (fun L g1 gK => ?_)
  replace g0 := gK _ _ (by decide) (Or.inr (zrf_cat _)) g0
  exact f_X11_init_458_ok hj _ _ _ _ _ _ g0 g1 e

theorem c_X11_init {G : Gd} {j : Nat} (hj : 2 ≤ j) {l0 : Nat} {h : Hp} {o : Hp} (e : f_X11_init l0 h = some o) : Cal G j Y_X11_init [zrf (l0)] h none o := Cal.of (n := 0) (I := true) (by first | exact Or.inl (by decide +kernel) | exact Or.inr (by decide +kernel)) (by decide) (by simp [lg_sl, zrf_cat, cat_int, cat_long]) (f_X11_init_ok hj _ _ h o (by simp [lv_args, zlk, zrf_cat, cat_int, cat_long]) e)
theorem fk_10_183 : Fk "TaskWeaveModel" 183 1200 := ⟨by decide, by decide, by decide +kernel⟩
def f_X11_thrown (l0 : Nat) (h : Hp) : Option (Int32 × Hp) := ck (isO (h) (l0) 12) (some (zI (h) 1200 (l0), h))
theorem f_X11_thrown_ok {G : Gd} {d : Nat} (hj : 1 ≤ d) : ∀ (l0 : Nat) (L : List (Nat × Value)) (h : Hp) (o : (Int32 × Hp)), zlk L 0 = some (zrf (l0)) → f_X11_thrown l0 h = some o → Ev G M_X11_thrown d 0 L [] h (Ret Y_X11_thrown (some (.int o.1)) o.2) := by
  intro l0 L h o g0 e
  unfold f_X11_thrown at e
  refine g_ald_n d_X11_thrown_0 rfl g0 ?_
  replace e := ckd e
  obtain ⟨k1, e⟩ := e
  refine g_getI d_X11_thrown_1 (f := 1200) k1 fk_10_183 rfl rfl ?_
  obtain rfl := Option.some.inj e
  exact g_iret d_X11_thrown_4 rfl rfl

theorem c_X11_thrown {G : Gd} {j : Nat} (hj : 1 ≤ j) {l0 : Nat} {h : Hp} {o : (Int32 × Hp)} (e : f_X11_thrown l0 h = some o) : Cal G j Y_X11_thrown [zrf (l0)] h (some (.int o.1)) o.2 := Cal.of (n := 0) (I := false) (by first | exact Or.inl (by decide +kernel) | exact Or.inr (by decide +kernel)) (by decide) (by simp [lg_sl, zrf_cat, cat_int, cat_long]) (f_X11_thrown_ok hj _ _ h o (by simp [lv_args, zlk, zrf_cat, cat_int, cat_long]) e)
def f_X11_raise (l0 : Nat) (l1 : Int32) (h : Hp) : Option (Int32 × Hp) := ck (isO (h) (l0) 12) (bh (pI (h) 1200 (l0) (l1)) (fun h2 => some ((0 : Int32), h2)))
theorem f_X11_raise_ok {G : Gd} {d : Nat} (hj : 1 ≤ d) : ∀ (l0 : Nat) (l1 : Int32) (L : List (Nat × Value)) (h : Hp) (o : (Int32 × Hp)), zlk L 0 = some (zrf (l0)) → zlk L 1 = some (.int (l1)) → f_X11_raise l0 l1 h = some o → Ev G M_X11_raise d 0 L [] h (Ret Y_X11_raise (some (.int o.1)) o.2) := by
  intro l0 l1 L h o g0 g1 e
  unfold f_X11_raise at e
  refine g_ald_n d_X11_raise_0 rfl g0 ?_
  refine r_iload_n d_X11_raise_1 rfl g1 ?_
  replace e := ckd e
  obtain ⟨k1, e⟩ := e
  refine g_putI d_X11_raise_2 (f := 1200) k1 fk_10_183 rfl (Or.inl rfl) ⟨rfl, rfl⟩ ?_
  replace e := bhd e
  obtain ⟨_, rfl, e⟩ := e
  refine r_iconst d_X11_raise_5 (v := (0 : Int32)) (by decide +kernel) ?_
  obtain rfl := Option.some.inj e
  exact g_iret d_X11_raise_6 rfl rfl

theorem c_X11_raise {G : Gd} {j : Nat} (hj : 1 ≤ j) {l0 : Nat} {l1 : Int32} {h : Hp} {o : (Int32 × Hp)} (e : f_X11_raise l0 l1 h = some o) : Cal G j Y_X11_raise [zrf (l0), .int (l1)] h (some (.int o.1)) o.2 := Cal.of (n := 0) (I := false) (by first | exact Or.inl (by decide +kernel) | exact Or.inr (by decide +kernel)) (by decide) (by simp [lg_sl, zrf_cat, cat_int, cat_long]) (f_X11_raise_ok hj _ _ _ h o (by simp [lv_args, zlk, zrf_cat, cat_int, cat_long]) (by simp [lv_args, zlk, zrf_cat, cat_int, cat_long]) e)
def f_X11_in (l0 : Int32) (l1 : Int32) (h : Hp) : Option (Int32 × Hp) := if (l0) < (0) then (some ((0 : Int32), h)) else (if (l1) ≤ (l0) then (some ((0 : Int32), h)) else (some ((1 : Int32), h)))
theorem f_X11_in_ok {G : Gd} {d : Nat} (hj : 1 ≤ d) : ∀ (l0 : Int32) (l1 : Int32) (L : List (Nat × Value)) (h : Hp) (o : (Int32 × Hp)), zlk L 0 = some (.int (l0)) → zlk L 1 = some (.int (l1)) → f_X11_in l0 l1 h = some o → Ev G M_X11_in d 0 L [] h (Ret Y_X11_in (some (.int o.1)) o.2) := by
  intro l0 l1 L h o g0 g1 e
  unfold f_X11_in at e
  refine r_iload_n d_X11_in_0 rfl g0 ?_
  refine r_if_lt d_X11_in_1 (tgt := 13) (by decide) (fun c1 => ?_) (fun c1 => ?_)
  · replace e := (if_pos c1).symm.trans e
    refine r_iconst d_X11_in_13 (v := (0 : Int32)) (by decide +kernel) ?_
    obtain rfl := Option.some.inj e
    exact g_iret d_X11_in_14 rfl rfl
  · replace e := (if_neg c1).symm.trans e
    refine r_iload_n d_X11_in_4 rfl g0 ?_
    refine r_iload_n d_X11_in_5 rfl g1 ?_
    refine r_icmp_ge d_X11_in_6 (tgt := 13) (by decide) (fun c2 => ?_) (fun c2 => ?_)
    · replace e := (if_pos c2).symm.trans e
      refine r_iconst d_X11_in_13 (v := (0 : Int32)) (by decide +kernel) ?_
      obtain rfl := Option.some.inj e
      exact g_iret d_X11_in_14 rfl rfl
    · replace e := (if_neg c2).symm.trans e
      refine r_iconst d_X11_in_9 (v := (1 : Int32)) (by decide +kernel) ?_
      refine r_goto d_X11_in_10 (tgt := 14) (by decide) ?_
      obtain rfl := Option.some.inj e
      exact g_iret d_X11_in_14 rfl rfl

theorem c_X11_in {G : Gd} {j : Nat} (hj : 1 ≤ j) {l0 : Int32} {l1 : Int32} {h : Hp} {o : (Int32 × Hp)} (e : f_X11_in l0 l1 h = some o) : Cal G j Y_X11_in [.int (l0), .int (l1)] h (some (.int o.1)) o.2 := Cal.of (n := 0) (I := false) (by first | exact Or.inl (by decide +kernel) | exact Or.inr (by decide +kernel)) (by decide) (by simp [lg_sl, zrf_cat, cat_int, cat_long]) (f_X11_in_ok hj _ _ _ h o (by simp [lv_args, zlk, zrf_cat, cat_int, cat_long]) (by simp [lv_args, zlk, zrf_cat, cat_int, cat_long]) e)
theorem fk_10_186 : Fk "TaskWeaveModel" 186 1204 := ⟨by decide, by decide, by decide +kernel⟩
def f_X11_type_80 : Nat → Nat → Int64 → Int32 → Hp → Option (Int32 × Hp)
  | 0, _, _, _, _ => none
  | n + 1, l0, l1, l4, h => if (l4) < (0) then (some ((1 : Int32), h)) else (ck (isO (h) (l0) 12) (ck (isO (h) (zR (h) 1203 (l0)) 22) (ck (inR (zI (h) 1204 (l0)) (zL (h) (zR (h) 1203 (l0)))) (bh (pE (h) (zR (h) 1203 (l0)) (zI (h) 1204 (l0)).toNatClampNeg ((((l1) >>> ((((8 : Int32)) * (l4)).toInt64 &&& 63)) &&& ((255 : Int64))).toInt32)) (fun h16 => bh (pI (h16) 1204 (l0) ((zI (h16) 1204 (l0)) + ((1 : Int32)))) (fun h17 => bh ((l4) + (-1 : Int32)) (fun x18 => f_X11_type_80 n (l0) (l1) (x18) (h17))))))))
theorem f_X11_type_80_ok {G : Gd} {d : Nat} (hj : 1 ≤ d) : ∀ (n : Nat) (l0 : Nat) (l1 : Int64) (l4 : Int32) (L : List (Nat × Value)) (h : Hp) (o : (Int32 × Hp)), zlk L 0 = some (zrf (l0)) → zlk L 1 = some (.long (l1)) → zlk L 4 = some (.int (l4)) → f_X11_type_80 n l0 l1 l4 h = some o → Ev G M_X11_type d 80 L [] h (Ret Y_X11_type (some (.int o.1)) o.2) := by
  intro n
  induction n with
  | zero =>
    intro l0 l1 l4 L h o g0 g1 g4 e
    cases e
  | succ n ih =>
    intro l0 l1 l4 L h o g0 g1 g4 e
    unfold f_X11_type_80 at e
    refine r_iload d_X11_type_80 g4 ?_
    refine r_if_lt d_X11_type_82 (tgt := 122) (by decide) (fun c12 => ?_) (fun c12 => ?_)
    · replace e := (if_pos c12).symm.trans e
      refine r_iconst d_X11_type_122 (v := (1 : Int32)) (by decide +kernel) ?_
      obtain rfl := Option.some.inj e
      exact g_iret d_X11_type_123 rfl rfl
    · replace e := (if_neg c12).symm.trans e
      refine g_ald_n d_X11_type_85 rfl g0 ?_
      replace e := ckd e
      obtain ⟨k13, e⟩ := e
      refine g_getR d_X11_type_86 (f := 1203) k13 fk_10_7 rfl rfl ?_
      refine g_ald_n d_X11_type_89 rfl g0 ?_
      refine g_getI d_X11_type_90 (f := 1204) k13 fk_10_186 rfl rfl ?_
      refine r_lload_n d_X11_type_93 rfl g1 ?_
      refine r_bipush d_X11_type_94 (v := (8 : Int32)) (by decide +kernel) ?_
      refine r_iload d_X11_type_96 g4 ?_
      refine r_imul d_X11_type_98 ?_
      refine r_lshr d_X11_type_99 ?_
      refine r_ldc2 d_X11_type_100 (v := (255 : Int64)) (by decide +kernel) ?_
      refine r_land d_X11_type_103 ?_
      refine r_l2i d_X11_type_104 ?_
      replace e := ckd e
      obtain ⟨k14, e⟩ := e
      replace e := ckd e
      obtain ⟨k15, e⟩ := e
      refine g_iast d_X11_type_105 k14 k15 ?_
      replace e := bhd e
      obtain ⟨_, rfl, e⟩ := e
      refine g_ald_n d_X11_type_106 rfl g0 ?_
      refine r_dup d_X11_type_107 (zrf_cat _) ?_
      refine g_getI d_X11_type_108 (f := 1204) (tO_pE k13) fk_10_186 rfl rfl ?_
      refine r_iconst d_X11_type_111 (v := (1 : Int32)) (by decide +kernel) ?_
      refine r_iadd d_X11_type_112 ?_
      refine g_putI d_X11_type_113 (f := 1204) (tO_pE k13) fk_10_186 rfl (Or.inl rfl) ⟨rfl, rfl⟩ ?_
      replace e := bhd e
      obtain ⟨_, rfl, e⟩ := e
      replace e := bhd e
      obtain ⟨_, rfl, e⟩ := e
      refine s_iinc d_X11_type_116 g4 (w := (-1 : Int32)) (by decide +kernel) (by decide) (fun L g4 gK => ?_)
      replace g0 := gK _ _ (by decide) (Or.inr (zrf_cat _)) g0
      replace g1 := gK _ _ (by decide) (Or.inl (by decide)) g1
      refine r_goto d_X11_type_119 (tgt := 80) (by decide) ?_
      exact ih _ _ _ _ _ _ g0 g1 g4 e

def f_X11_type_33 : Nat → Nat → Int64 → Int32 → Int32 → Hp → Option (Int32 × Hp)
  | 0, _, _, _, _, _ => none
  | n + 1, l0, l1, l3, l4, h => if (l3) ≤ (l4) then (bh ((l3) - ((1 : Int32))) (fun x7 => f_X11_type_80 fz (l0) (l1) (x7) (h))) else (bh ((((l1) >>> ((((8 : Int32)) * (l4)).toInt64 &&& 63)) &&& ((255 : Int64))).toInt32) (fun x8 => if (x8) < ((33 : Int32)) then (some ((0 : Int32), h)) else (if (x8) ≤ ((126 : Int32)) then (bh ((l4) + (1 : Int32)) (fun x11 => f_X11_type_33 n (l0) (l1) (l3) (x11) (h))) else (some ((0 : Int32), h)))))
theorem f_X11_type_33_ok {G : Gd} {d : Nat} (hj : 1 ≤ d) : ∀ (n : Nat) (l0 : Nat) (l1 : Int64) (l3 : Int32) (l4 : Int32) (L : List (Nat × Value)) (h : Hp) (o : (Int32 × Hp)), zlk L 0 = some (zrf (l0)) → zlk L 1 = some (.long (l1)) → zlk L 3 = some (.int (l3)) → zlk L 4 = some (.int (l4)) → f_X11_type_33 n l0 l1 l3 l4 h = some o → Ev G M_X11_type d 33 L [] h (Ret Y_X11_type (some (.int o.1)) o.2) := by
  intro n
  induction n with
  | zero =>
    intro l0 l1 l3 l4 L h o g0 g1 g3 g4 e
    cases e
  | succ n ih =>
    intro l0 l1 l3 l4 L h o g0 g1 g3 g4 e
    unfold f_X11_type_33 at e
    refine r_iload d_X11_type_33 g4 ?_
    refine r_iload_n d_X11_type_35 rfl g3 ?_
    refine r_icmp_ge d_X11_type_36 (tgt := 75) (by decide) (fun c6 => ?_) (fun c6 => ?_)
    · replace e := (if_pos c6).symm.trans e
      refine r_iload_n d_X11_type_75 rfl g3 ?_
      refine r_iconst d_X11_type_76 (v := (1 : Int32)) (by decide +kernel) ?_
      refine r_isub d_X11_type_77 ?_
      replace e := bhd e
      obtain ⟨_, rfl, e⟩ := e
      refine s_istore d_X11_type_78 (by decide) (fun L g4 gK => ?_)
      replace g0 := gK _ _ (by decide) (Or.inr (zrf_cat _)) g0
      replace g1 := gK _ _ (by decide) (Or.inl (by decide)) g1
      exact f_X11_type_80_ok hj _ _ _ _ _ _ _ g0 g1 g4 e
    · replace e := (if_neg c6).symm.trans e
      refine r_lload_n d_X11_type_39 rfl g1 ?_
      refine r_bipush d_X11_type_40 (v := (8 : Int32)) (by decide +kernel) ?_
      refine r_iload d_X11_type_42 g4 ?_
      refine r_imul d_X11_type_44 ?_
      refine r_lshr d_X11_type_45 ?_
      refine r_ldc2 d_X11_type_46 (v := (255 : Int64)) (by decide +kernel) ?_
      refine r_land d_X11_type_49 ?_
      refine r_l2i d_X11_type_50 ?_
      replace e := bhd e
      obtain ⟨_, rfl, e⟩ := e
      refine s_istore d_X11_type_51 (by decide) (fun L g5 gK => ?_)
      replace g0 := gK _ _ (by decide) (Or.inr (zrf_cat _)) g0
      replace g1 := gK _ _ (by decide) (Or.inl (by decide)) g1
      replace g3 := gK _ _ (by decide) (Or.inr rfl) g3
      replace g4 := gK _ _ (by decide) (Or.inr rfl) g4
      refine r_iload d_X11_type_53 g5 ?_
      refine r_bipush d_X11_type_55 (v := (33 : Int32)) (by decide +kernel) ?_
      refine r_icmp_lt d_X11_type_57 (tgt := 67) (by decide) (fun c9 => ?_) (fun c9 => ?_)
      · replace e := (if_pos c9).symm.trans e
        refine r_iconst d_X11_type_67 (v := (0 : Int32)) (by decide +kernel) ?_
        obtain rfl := Option.some.inj e
        exact g_iret d_X11_type_68 rfl rfl
      · replace e := (if_neg c9).symm.trans e
        refine r_iload d_X11_type_60 g5 ?_
        refine r_bipush d_X11_type_62 (v := (126 : Int32)) (by decide +kernel) ?_
        refine r_icmp_le d_X11_type_64 (tgt := 69) (by decide) (fun c10 => ?_) (fun c10 => ?_)
        · replace e := (if_pos c10).symm.trans e
          replace e := bhd e
          obtain ⟨_, rfl, e⟩ := e
          refine s_iinc d_X11_type_69 g4 (w := (1 : Int32)) (by decide +kernel) (by decide) (fun L g4 gK => ?_)
          replace g0 := gK _ _ (by decide) (Or.inr (zrf_cat _)) g0
          replace g1 := gK _ _ (by decide) (Or.inl (by decide)) g1
          replace g3 := gK _ _ (by decide) (Or.inr rfl) g3
          refine r_goto d_X11_type_72 (tgt := 33) (by decide) ?_
          exact ih _ _ _ _ _ _ _ g0 g1 g3 g4 e
        · replace e := (if_neg c10).symm.trans e
          refine r_iconst d_X11_type_67 (v := (0 : Int32)) (by decide +kernel) ?_
          obtain rfl := Option.some.inj e
          exact g_iret d_X11_type_68 rfl rfl

def f_X11_type (l0 : Nat) (l1 : Int64) (l3 : Int32) (h : Hp) : Option (Int32 × Hp) := ck (isO (h) (l0) 12) (bh (pI (h) 1200 (l0) ((0 : Int32))) (fun h2 => if (l3) < ((1 : Int32)) then (some ((0 : Int32), h2)) else (if ((8 : Int32)) < (l3) then (some ((0 : Int32), h2)) else (if ((zI (h2) 1204 (l0)) + (l3)) ≤ ((300 : Int32)) then (f_X11_type_33 fz (l0) (l1) (l3) ((0 : Int32)) (h2)) else (some ((0 : Int32), h2))))))
theorem f_X11_type_ok {G : Gd} {d : Nat} (hj : 1 ≤ d) : ∀ (l0 : Nat) (l1 : Int64) (l3 : Int32) (L : List (Nat × Value)) (h : Hp) (o : (Int32 × Hp)), zlk L 0 = some (zrf (l0)) → zlk L 1 = some (.long (l1)) → zlk L 3 = some (.int (l3)) → f_X11_type l0 l1 l3 h = some o → Ev G M_X11_type d 0 L [] h (Ret Y_X11_type (some (.int o.1)) o.2) := by
  intro l0 l1 l3 L h o g0 g1 g3 e
  unfold f_X11_type at e
  refine g_ald_n d_X11_type_0 rfl g0 ?_
  refine r_iconst d_X11_type_1 (v := (0 : Int32)) (by decide +kernel) ?_
  replace e := ckd e
  obtain ⟨k1, e⟩ := e
  refine g_putI d_X11_type_2 (f := 1200) k1 fk_10_183 rfl (Or.inl rfl) ⟨rfl, rfl⟩ ?_
  replace e := bhd e
  obtain ⟨_, rfl, e⟩ := e
  refine r_iload_n d_X11_type_5 rfl g3 ?_
  refine r_iconst d_X11_type_6 (v := (1 : Int32)) (by decide +kernel) ?_
  refine r_icmp_lt d_X11_type_7 (tgt := 28) (by decide) (fun c3 => ?_) (fun c3 => ?_)
  · replace e := (if_pos c3).symm.trans e
    refine r_iconst d_X11_type_28 (v := (0 : Int32)) (by decide +kernel) ?_
    obtain rfl := Option.some.inj e
    exact g_iret d_X11_type_29 rfl rfl
  · replace e := (if_neg c3).symm.trans e
    refine r_iload_n d_X11_type_10 rfl g3 ?_
    refine r_bipush d_X11_type_11 (v := (8 : Int32)) (by decide +kernel) ?_
    refine r_icmp_gt d_X11_type_13 (tgt := 28) (by decide) (fun c4 => ?_) (fun c4 => ?_)
    · replace e := (if_pos c4).symm.trans e
      refine r_iconst d_X11_type_28 (v := (0 : Int32)) (by decide +kernel) ?_
      obtain rfl := Option.some.inj e
      exact g_iret d_X11_type_29 rfl rfl
    · replace e := (if_neg c4).symm.trans e
      refine g_ald_n d_X11_type_16 rfl g0 ?_
      refine g_getI d_X11_type_17 (f := 1204) (tO_pI k1) fk_10_186 rfl rfl ?_
      refine r_iload_n d_X11_type_20 rfl g3 ?_
      refine r_iadd d_X11_type_21 ?_
      refine r_sipush d_X11_type_22 (v := (300 : Int32)) (by decide +kernel) ?_
      refine r_icmp_le d_X11_type_25 (tgt := 30) (by decide) (fun c5 => ?_) (fun c5 => ?_)
      · replace e := (if_pos c5).symm.trans e
        refine r_iconst d_X11_type_30 (v := (0 : Int32)) (by decide +kernel) ?_
        refine s_istore d_X11_type_31 (by decide) (fun L g4 gK => ?_)
        replace g0 := gK _ _ (by decide) (Or.inr (zrf_cat _)) g0
        replace g1 := gK _ _ (by decide) (Or.inl (by decide)) g1
        replace g3 := gK _ _ (by decide) (Or.inr rfl) g3
        exact f_X11_type_33_ok hj _ _ _ _ _ _ _ _ g0 g1 g3 g4 e
      · replace e := (if_neg c5).symm.trans e
        refine r_iconst d_X11_type_28 (v := (0 : Int32)) (by decide +kernel) ?_
        obtain rfl := Option.some.inj e
        exact g_iret d_X11_type_29 rfl rfl

theorem c_X11_type {G : Gd} {j : Nat} (hj : 1 ≤ j) {l0 : Nat} {l1 : Int64} {l3 : Int32} {h : Hp} {o : (Int32 × Hp)} (e : f_X11_type l0 l1 l3 h = some o) : Cal G j Y_X11_type [zrf (l0), .long (l1), .int (l3)] h (some (.int o.1)) o.2 := Cal.of (n := 0) (I := false) (by first | exact Or.inl (by decide +kernel) | exact Or.inr (by decide +kernel)) (by decide) (by simp [lg_sl, zrf_cat, cat_int, cat_long]) (f_X11_type_ok hj _ _ _ _ h o (by simp [lv_args, zlk, zrf_cat, cat_int, cat_long]) (by simp [lv_args, zlk, zrf_cat, cat_int, cat_long]) (by simp [lv_args, zlk, zrf_cat, cat_int, cat_long]) e)
theorem fk_10_191 : Fk "TaskWeaveModel" 191 1223 := ⟨by decide, by decide, by decide +kernel⟩
def f_X11_see (l0 : Nat) (h : Hp) : Option (Int32 × Hp) := ck (isO (h) (l0) 12) (if (zI (h) 1204 (l0)) ≤ (zI (h) 1223 (l0)) then (some ((0 : Int32), h)) else (ck (isO (h) (zR (h) 1203 (l0)) 22) (ck (inR (zI (h) 1223 (l0)) (zL (h) (zR (h) 1203 (l0)))) (some (zE (h) (zR (h) 1203 (l0)) (zI (h) 1223 (l0)).toNatClampNeg, h)))))
theorem f_X11_see_ok {G : Gd} {d : Nat} (hj : 1 ≤ d) : ∀ (l0 : Nat) (L : List (Nat × Value)) (h : Hp) (o : (Int32 × Hp)), zlk L 0 = some (zrf (l0)) → f_X11_see l0 h = some o → Ev G M_X11_see d 0 L [] h (Ret Y_X11_see (some (.int o.1)) o.2) := by
  intro l0 L h o g0 e
  unfold f_X11_see at e
  refine g_ald_n d_X11_see_0 rfl g0 ?_
  replace e := ckd e
  obtain ⟨k1, e⟩ := e
  refine g_getI d_X11_see_1 (f := 1223) k1 fk_10_191 rfl rfl ?_
  refine g_ald_n d_X11_see_4 rfl g0 ?_
  refine g_getI d_X11_see_5 (f := 1204) k1 fk_10_186 rfl rfl ?_
  refine r_icmp_ge d_X11_see_8 (tgt := 23) (by decide) (fun c2 => ?_) (fun c2 => ?_)
  · replace e := (if_pos c2).symm.trans e
    refine r_iconst d_X11_see_23 (v := (0 : Int32)) (by decide +kernel) ?_
    obtain rfl := Option.some.inj e
    exact g_iret d_X11_see_24 rfl rfl
  · replace e := (if_neg c2).symm.trans e
    refine g_ald_n d_X11_see_11 rfl g0 ?_
    refine g_getR d_X11_see_12 (f := 1203) k1 fk_10_7 rfl rfl ?_
    refine g_ald_n d_X11_see_15 rfl g0 ?_
    refine g_getI d_X11_see_16 (f := 1223) k1 fk_10_191 rfl rfl ?_
    replace e := ckd e
    obtain ⟨k3, e⟩ := e
    replace e := ckd e
    obtain ⟨k4, e⟩ := e
    refine g_iald d_X11_see_19 k3 k4 rfl ?_
    refine r_goto d_X11_see_20 (tgt := 24) (by decide) ?_
    obtain rfl := Option.some.inj e
    exact g_iret d_X11_see_24 rfl rfl

theorem c_X11_see {G : Gd} {j : Nat} (hj : 1 ≤ j) {l0 : Nat} {h : Hp} {o : (Int32 × Hp)} (e : f_X11_see l0 h = some o) : Cal G j Y_X11_see [zrf (l0)] h (some (.int o.1)) o.2 := Cal.of (n := 0) (I := false) (by first | exact Or.inl (by decide +kernel) | exact Or.inr (by decide +kernel)) (by decide) (by simp [lg_sl, zrf_cat, cat_int, cat_long]) (f_X11_see_ok hj _ _ h o (by simp [lv_args, zlk, zrf_cat, cat_int, cat_long]) e)
theorem vk_10_194 : Vk "TaskWeaveModel" 194 0 12 Y_X11_see := ⟨yk_X11_see, by decide +kernel, by decide +kernel, by decide +kernel, by decide⟩
def f_X11_takes (l0 : Nat) (l1 : Int32) (h : Hp) : Option (Int32 × Hp) := ck (isO (h) (l0) 12) ((f_X11_see (l0) (h)).bind (fun q1 => if (q1.1) = (l1) then (ck (isO (q1.2) (l0) 12) (bh (pI (q1.2) 1223 (l0) ((zI (q1.2) 1223 (l0)) + ((1 : Int32)))) (fun h5 => some ((1 : Int32), h5)))) else (some ((0 : Int32), q1.2))))
theorem f_X11_takes_ok {G : Gd} {d : Nat} (hj : 2 ≤ d) : ∀ (l0 : Nat) (l1 : Int32) (L : List (Nat × Value)) (h : Hp) (o : (Int32 × Hp)), zlk L 0 = some (zrf (l0)) → zlk L 1 = some (.int (l1)) → f_X11_takes l0 l1 h = some o → Ev G M_X11_takes d 0 L [] h (Ret Y_X11_takes (some (.int o.1)) o.2) := by
  intro l0 l1 L h o g0 g1 e
  unfold f_X11_takes at e
  refine g_ald_n d_X11_takes_0 rfl g0 ?_
  replace e := ckd e
  obtain ⟨k2, e⟩ := e
  replace e := bd e
  obtain ⟨q1, eq1, e⟩ := e
  refine g_callV d_X11_takes_1 vk_10_194 (as := []) rfl k2 rfl (by simp [zrf_cat, cat_int, cat_long]) (j := 1) (by omega) (c_X11_see (by omega) eq1) ?_
  refine r_iload_n d_X11_takes_4 rfl g1 ?_
  refine r_icmp_eq d_X11_takes_5 (tgt := 10) (by decide) (fun c3 => ?_) (fun c3 => ?_)
  · replace e := (if_pos c3).symm.trans e
    refine g_ald_n d_X11_takes_10 rfl g0 ?_
    refine r_dup d_X11_takes_11 (zrf_cat _) ?_
    replace e := ckd e
    obtain ⟨k4, e⟩ := e
    refine g_getI d_X11_takes_12 (f := 1223) k4 fk_10_191 rfl rfl ?_
    refine r_iconst d_X11_takes_15 (v := (1 : Int32)) (by decide +kernel) ?_
    refine r_iadd d_X11_takes_16 ?_
    refine g_putI d_X11_takes_17 (f := 1223) k4 fk_10_191 rfl (Or.inl rfl) ⟨rfl, rfl⟩ ?_
    replace e := bhd e
    obtain ⟨_, rfl, e⟩ := e
    refine r_iconst d_X11_takes_20 (v := (1 : Int32)) (by decide +kernel) ?_
    obtain rfl := Option.some.inj e
    exact g_iret d_X11_takes_21 rfl rfl
  · replace e := (if_neg c3).symm.trans e
    refine r_iconst d_X11_takes_8 (v := (0 : Int32)) (by decide +kernel) ?_
    obtain rfl := Option.some.inj e
    exact g_iret d_X11_takes_9 rfl rfl

theorem c_X11_takes {G : Gd} {j : Nat} (hj : 2 ≤ j) {l0 : Nat} {l1 : Int32} {h : Hp} {o : (Int32 × Hp)} (e : f_X11_takes l0 l1 h = some o) : Cal G j Y_X11_takes [zrf (l0), .int (l1)] h (some (.int o.1)) o.2 := Cal.of (n := 0) (I := false) (by first | exact Or.inl (by decide +kernel) | exact Or.inr (by decide +kernel)) (by decide) (by simp [lg_sl, zrf_cat, cat_int, cat_long]) (f_X11_takes_ok hj _ _ _ h o (by simp [lv_args, zlk, zrf_cat, cat_int, cat_long]) (by simp [lv_args, zlk, zrf_cat, cat_int, cat_long]) e)
def f_X11_isDigit (l0 : Nat) (h : Hp) : Option (Int32 × Hp) := ck (isO (h) (l0) 12) ((f_X11_see (l0) (h)).bind (fun q1 => if (q1.1) < ((48 : Int32)) then (some ((0 : Int32), q1.2)) else (ck (isO (q1.2) (l0) 12) ((f_X11_see (l0) (q1.2)).bind (fun q4 => if ((57 : Int32)) < (q4.1) then (some ((0 : Int32), q4.2)) else (some ((1 : Int32), q4.2)))))))
theorem f_X11_isDigit_ok {G : Gd} {d : Nat} (hj : 2 ≤ d) : ∀ (l0 : Nat) (L : List (Nat × Value)) (h : Hp) (o : (Int32 × Hp)), zlk L 0 = some (zrf (l0)) → f_X11_isDigit l0 h = some o → Ev G M_X11_isDigit d 0 L [] h (Ret Y_X11_isDigit (some (.int o.1)) o.2) := by
  intro l0 L h o g0 e
  unfold f_X11_isDigit at e
  refine g_ald_n d_X11_isDigit_0 rfl g0 ?_
  replace e := ckd e
  obtain ⟨k2, e⟩ := e
  replace e := bd e
  obtain ⟨q1, eq1, e⟩ := e
  refine g_callV d_X11_isDigit_1 vk_10_194 (as := []) rfl k2 rfl (by simp [zrf_cat, cat_int, cat_long]) (j := 1) (by omega) (c_X11_see (by omega) eq1) ?_
  refine r_bipush d_X11_isDigit_4 (v := (48 : Int32)) (by decide +kernel) ?_
  refine r_icmp_lt d_X11_isDigit_6 (tgt := 22) (by decide) (fun c3 => ?_) (fun c3 => ?_)
  · replace e := (if_pos c3).symm.trans e
    refine r_iconst d_X11_isDigit_22 (v := (0 : Int32)) (by decide +kernel) ?_
    obtain rfl := Option.some.inj e
    exact g_iret d_X11_isDigit_23 rfl rfl
  · replace e := (if_neg c3).symm.trans e
    refine g_ald_n d_X11_isDigit_9 rfl g0 ?_
    replace e := ckd e
    obtain ⟨k5, e⟩ := e
    replace e := bd e
    obtain ⟨q4, eq4, e⟩ := e
    refine g_callV d_X11_isDigit_10 vk_10_194 (as := []) rfl k5 rfl (by simp [zrf_cat, cat_int, cat_long]) (j := 1) (by omega) (c_X11_see (by omega) eq4) ?_
    refine r_bipush d_X11_isDigit_13 (v := (57 : Int32)) (by decide +kernel) ?_
    refine r_icmp_gt d_X11_isDigit_15 (tgt := 22) (by decide) (fun c6 => ?_) (fun c6 => ?_)
    · replace e := (if_pos c6).symm.trans e
      refine r_iconst d_X11_isDigit_22 (v := (0 : Int32)) (by decide +kernel) ?_
      obtain rfl := Option.some.inj e
      exact g_iret d_X11_isDigit_23 rfl rfl
    · replace e := (if_neg c6).symm.trans e
      refine r_iconst d_X11_isDigit_18 (v := (1 : Int32)) (by decide +kernel) ?_
      refine r_goto d_X11_isDigit_19 (tgt := 23) (by decide) ?_
      obtain rfl := Option.some.inj e
      exact g_iret d_X11_isDigit_23 rfl rfl

theorem c_X11_isDigit {G : Gd} {j : Nat} (hj : 2 ≤ j) {l0 : Nat} {h : Hp} {o : (Int32 × Hp)} (e : f_X11_isDigit l0 h = some o) : Cal G j Y_X11_isDigit [zrf (l0)] h (some (.int o.1)) o.2 := Cal.of (n := 0) (I := false) (by first | exact Or.inl (by decide +kernel) | exact Or.inr (by decide +kernel)) (by decide) (by simp [lg_sl, zrf_cat, cat_int, cat_long]) (f_X11_isDigit_ok hj _ _ h o (by simp [lv_args, zlk, zrf_cat, cat_int, cat_long]) e)
def f_X11_isLetter (l0 : Nat) (h : Hp) : Option (Int32 × Hp) := ck (isO (h) (l0) 12) ((f_X11_see (l0) (h)).bind (fun q1 => if (q1.1) < ((97 : Int32)) then (some ((0 : Int32), q1.2)) else (ck (isO (q1.2) (l0) 12) ((f_X11_see (l0) (q1.2)).bind (fun q4 => if ((104 : Int32)) < (q4.1) then (some ((0 : Int32), q4.2)) else (some ((1 : Int32), q4.2)))))))
theorem f_X11_isLetter_ok {G : Gd} {d : Nat} (hj : 2 ≤ d) : ∀ (l0 : Nat) (L : List (Nat × Value)) (h : Hp) (o : (Int32 × Hp)), zlk L 0 = some (zrf (l0)) → f_X11_isLetter l0 h = some o → Ev G M_X11_isLetter d 0 L [] h (Ret Y_X11_isLetter (some (.int o.1)) o.2) := by
  intro l0 L h o g0 e
  unfold f_X11_isLetter at e
  refine g_ald_n d_X11_isLetter_0 rfl g0 ?_
  replace e := ckd e
  obtain ⟨k2, e⟩ := e
  replace e := bd e
  obtain ⟨q1, eq1, e⟩ := e
  refine g_callV d_X11_isLetter_1 vk_10_194 (as := []) rfl k2 rfl (by simp [zrf_cat, cat_int, cat_long]) (j := 1) (by omega) (c_X11_see (by omega) eq1) ?_
  refine r_bipush d_X11_isLetter_4 (v := (97 : Int32)) (by decide +kernel) ?_
  refine r_icmp_lt d_X11_isLetter_6 (tgt := 22) (by decide) (fun c3 => ?_) (fun c3 => ?_)
  · replace e := (if_pos c3).symm.trans e
    refine r_iconst d_X11_isLetter_22 (v := (0 : Int32)) (by decide +kernel) ?_
    obtain rfl := Option.some.inj e
    exact g_iret d_X11_isLetter_23 rfl rfl
  · replace e := (if_neg c3).symm.trans e
    refine g_ald_n d_X11_isLetter_9 rfl g0 ?_
    replace e := ckd e
    obtain ⟨k5, e⟩ := e
    replace e := bd e
    obtain ⟨q4, eq4, e⟩ := e
    refine g_callV d_X11_isLetter_10 vk_10_194 (as := []) rfl k5 rfl (by simp [zrf_cat, cat_int, cat_long]) (j := 1) (by omega) (c_X11_see (by omega) eq4) ?_
    refine r_bipush d_X11_isLetter_13 (v := (104 : Int32)) (by decide +kernel) ?_
    refine r_icmp_gt d_X11_isLetter_15 (tgt := 22) (by decide) (fun c6 => ?_) (fun c6 => ?_)
    · replace e := (if_pos c6).symm.trans e
      refine r_iconst d_X11_isLetter_22 (v := (0 : Int32)) (by decide +kernel) ?_
      obtain rfl := Option.some.inj e
      exact g_iret d_X11_isLetter_23 rfl rfl
    · replace e := (if_neg c6).symm.trans e
      refine r_iconst d_X11_isLetter_18 (v := (1 : Int32)) (by decide +kernel) ?_
      refine r_goto d_X11_isLetter_19 (tgt := 23) (by decide) ?_
      obtain rfl := Option.some.inj e
      exact g_iret d_X11_isLetter_23 rfl rfl

theorem c_X11_isLetter {G : Gd} {j : Nat} (hj : 2 ≤ j) {l0 : Nat} {h : Hp} {o : (Int32 × Hp)} (e : f_X11_isLetter l0 h = some o) : Cal G j Y_X11_isLetter [zrf (l0)] h (some (.int o.1)) o.2 := Cal.of (n := 0) (I := false) (by first | exact Or.inl (by decide +kernel) | exact Or.inr (by decide +kernel)) (by decide) (by simp [lg_sl, zrf_cat, cat_int, cat_long]) (f_X11_isLetter_ok hj _ _ h o (by simp [lv_args, zlk, zrf_cat, cat_int, cat_long]) e)
