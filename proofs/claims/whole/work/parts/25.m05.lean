abbrev Y_X10_signal : Yx := (⟨"TaskWeave", "signal", "(III)Z"⟩, prog_1_method_6_code, 7, (some .boolean))
abbrev M_X10_signal : Mx := ("TaskWeave", prog_1_method_6_code, 7, false)
theorem yk_X10_signal : Yk Y_X10_signal 3 := ⟨by decide +kernel, by decide +kernel, ⟨by decide, by decide⟩, by decide +kernel, by decide, trivial⟩
theorem d_X10_signal_0 : decode prog_1_method_6_code 0 = .ok (.aload_n 0, 1) := by decide +kernel
theorem d_X10_signal_1 : decode prog_1_method_6_code 1 = .ok (.iload_n 2, 1) := by decide +kernel
theorem d_X10_signal_2 : decode prog_1_method_6_code 2 = .ok (.invokevirtual 111, 3) := by decide +kernel
theorem d_X10_signal_5 : decode prog_1_method_6_code 5 = .ok (.astore 4, 2) := by decide +kernel
theorem d_X10_signal_7 : decode prog_1_method_6_code 7 = .ok (.iload_n 1, 1) := by decide +kernel
theorem d_X10_signal_8 : decode prog_1_method_6_code 8 = .ok (.ifCond .lt 8, 3) := by decide +kernel
theorem d_X10_signal_11 : decode prog_1_method_6_code 11 = .ok (.aload 4, 2) := by decide +kernel
theorem d_X10_signal_13 : decode prog_1_method_6_code 13 = .ok (.ifnonnull 5, 3) := by decide +kernel
theorem d_X10_signal_16 : decode prog_1_method_6_code 16 = .ok (.iconst 0, 1) := by decide +kernel
theorem d_X10_signal_17 : decode prog_1_method_6_code 17 = .ok (.ireturn, 1) := by decide +kernel
theorem d_X10_signal_18 : decode prog_1_method_6_code 18 = .ok (.aload_n 0, 1) := by decide +kernel
theorem d_X10_signal_19 : decode prog_1_method_6_code 19 = .ok (.getfield 18, 3) := by decide +kernel
theorem d_X10_signal_22 : decode prog_1_method_6_code 22 = .ok (.iload_n 2, 1) := by decide +kernel
theorem d_X10_signal_23 : decode prog_1_method_6_code 23 = .ok (.iconst 4, 1) := by decide +kernel
theorem d_X10_signal_24 : decode prog_1_method_6_code 24 = .ok (.irem, 1) := by decide +kernel
theorem d_X10_signal_25 : decode prog_1_method_6_code 25 = .ok (.aaload, 1) := by decide +kernel
theorem d_X10_signal_26 : decode prog_1_method_6_code 26 = .ok (.astore 5, 2) := by decide +kernel
theorem d_X10_signal_28 : decode prog_1_method_6_code 28 = .ok (.aload 5, 2) := by decide +kernel
theorem d_X10_signal_30 : decode prog_1_method_6_code 30 = .ok (.invokevirtual 81, 3) := by decide +kernel
theorem d_X10_signal_33 : decode prog_1_method_6_code 33 = .ok (.ifCond .ne 5, 3) := by decide +kernel
theorem d_X10_signal_36 : decode prog_1_method_6_code 36 = .ok (.iconst 0, 1) := by decide +kernel
theorem d_X10_signal_37 : decode prog_1_method_6_code 37 = .ok (.ireturn, 1) := by decide +kernel
theorem d_X10_signal_38 : decode prog_1_method_6_code 38 = .ok (.aload 4, 2) := by decide +kernel
theorem d_X10_signal_40 : decode prog_1_method_6_code 40 = .ok (.getfield 114, 3) := by decide +kernel
theorem d_X10_signal_43 : decode prog_1_method_6_code 43 = .ok (.iload_n 1, 1) := by decide +kernel
theorem d_X10_signal_44 : decode prog_1_method_6_code 44 = .ok (.invokevirtual 118, 3) := by decide +kernel
theorem d_X10_signal_47 : decode prog_1_method_6_code 47 = .ok (.ifCond .eq 5, 3) := by decide +kernel
theorem d_X10_signal_50 : decode prog_1_method_6_code 50 = .ok (.iconst 1, 1) := by decide +kernel
theorem d_X10_signal_51 : decode prog_1_method_6_code 51 = .ok (.ireturn, 1) := by decide +kernel
theorem d_X10_signal_52 : decode prog_1_method_6_code 52 = .ok (.aload 4, 2) := by decide +kernel
theorem d_X10_signal_54 : decode prog_1_method_6_code 54 = .ok (.getfield 123, 3) := by decide +kernel
theorem d_X10_signal_57 : decode prog_1_method_6_code 57 = .ok (.iconst 4, 1) := by decide +kernel
theorem d_X10_signal_58 : decode prog_1_method_6_code 58 = .ok (.if_icmp .ne 5, 3) := by decide +kernel
theorem d_X10_signal_61 : decode prog_1_method_6_code 61 = .ok (.iconst 0, 1) := by decide +kernel
theorem d_X10_signal_62 : decode prog_1_method_6_code 62 = .ok (.ireturn, 1) := by decide +kernel
theorem d_X10_signal_63 : decode prog_1_method_6_code 63 = .ok (.aload 5, 2) := by decide +kernel
theorem d_X10_signal_65 : decode prog_1_method_6_code 65 = .ok (.aload 4, 2) := by decide +kernel
theorem d_X10_signal_67 : decode prog_1_method_6_code 67 = .ok (.bipush 8, 2) := by decide +kernel
theorem d_X10_signal_69 : decode prog_1_method_6_code 69 = .ok (.iload_n 3, 1) := by decide +kernel
theorem d_X10_signal_70 : decode prog_1_method_6_code 70 = .ok (.iconst 0, 1) := by decide +kernel
theorem d_X10_signal_71 : decode prog_1_method_6_code 71 = .ok (.iload_n 1, 1) := by decide +kernel
theorem d_X10_signal_72 : decode prog_1_method_6_code 72 = .ok (.invokevirtual 126, 3) := by decide +kernel
theorem d_X10_signal_75 : decode prog_1_method_6_code 75 = .ok (.istore 6, 2) := by decide +kernel
theorem d_X10_signal_77 : decode prog_1_method_6_code 77 = .ok (.aload 5, 2) := by decide +kernel
theorem d_X10_signal_79 : decode prog_1_method_6_code 79 = .ok (.invokevirtual 108, 3) := by decide +kernel
theorem d_X10_signal_82 : decode prog_1_method_6_code 82 = .ok (.iload 6, 2) := by decide +kernel
theorem d_X10_signal_84 : decode prog_1_method_6_code 84 = .ok (.ireturn, 1) := by decide +kernel
abbrev Y_X10_cancel : Yx := (⟨"TaskWeave", "cancel", "(I)Z"⟩, prog_1_method_7_code, 5, (some .boolean))
abbrev M_X10_cancel : Mx := ("TaskWeave", prog_1_method_7_code, 5, false)
theorem yk_X10_cancel : Yk Y_X10_cancel 1 := ⟨by decide +kernel, by decide +kernel, ⟨by decide, by decide⟩, by decide +kernel, by decide, trivial⟩
theorem d_X10_cancel_0 : decode prog_1_method_7_code 0 = .ok (.aload_n 0, 1) := by decide +kernel
theorem d_X10_cancel_1 : decode prog_1_method_7_code 1 = .ok (.iload_n 1, 1) := by decide +kernel
theorem d_X10_cancel_2 : decode prog_1_method_7_code 2 = .ok (.invokevirtual 111, 3) := by decide +kernel
theorem d_X10_cancel_5 : decode prog_1_method_7_code 5 = .ok (.astore_n 2, 1) := by decide +kernel
theorem d_X10_cancel_6 : decode prog_1_method_7_code 6 = .ok (.aload_n 2, 1) := by decide +kernel
theorem d_X10_cancel_7 : decode prog_1_method_7_code 7 = .ok (.ifnull 11, 3) := by decide +kernel
theorem d_X10_cancel_10 : decode prog_1_method_7_code 10 = .ok (.aload_n 2, 1) := by decide +kernel
theorem d_X10_cancel_11 : decode prog_1_method_7_code 11 = .ok (.getfield 123, 3) := by decide +kernel
theorem d_X10_cancel_14 : decode prog_1_method_7_code 14 = .ok (.iconst 4, 1) := by decide +kernel
theorem d_X10_cancel_15 : decode prog_1_method_7_code 15 = .ok (.if_icmp .ne 5, 3) := by decide +kernel
theorem d_X10_cancel_18 : decode prog_1_method_7_code 18 = .ok (.iconst 0, 1) := by decide +kernel
theorem d_X10_cancel_19 : decode prog_1_method_7_code 19 = .ok (.ireturn, 1) := by decide +kernel
theorem d_X10_cancel_20 : decode prog_1_method_7_code 20 = .ok (.aload_n 0, 1) := by decide +kernel
theorem d_X10_cancel_21 : decode prog_1_method_7_code 21 = .ok (.getfield 18, 3) := by decide +kernel
theorem d_X10_cancel_24 : decode prog_1_method_7_code 24 = .ok (.iload_n 1, 1) := by decide +kernel
theorem d_X10_cancel_25 : decode prog_1_method_7_code 25 = .ok (.iconst 4, 1) := by decide +kernel
theorem d_X10_cancel_26 : decode prog_1_method_7_code 26 = .ok (.irem, 1) := by decide +kernel
theorem d_X10_cancel_27 : decode prog_1_method_7_code 27 = .ok (.aaload, 1) := by decide +kernel
theorem d_X10_cancel_28 : decode prog_1_method_7_code 28 = .ok (.astore_n 3, 1) := by decide +kernel
theorem d_X10_cancel_29 : decode prog_1_method_7_code 29 = .ok (.aload_n 3, 1) := by decide +kernel
theorem d_X10_cancel_30 : decode prog_1_method_7_code 30 = .ok (.invokevirtual 81, 3) := by decide +kernel
theorem d_X10_cancel_33 : decode prog_1_method_7_code 33 = .ok (.ifCond .eq 21, 3) := by decide +kernel
theorem d_X10_cancel_36 : decode prog_1_method_7_code 36 = .ok (.aload_n 3, 1) := by decide +kernel
theorem d_X10_cancel_37 : decode prog_1_method_7_code 37 = .ok (.aload_n 2, 1) := by decide +kernel
theorem d_X10_cancel_38 : decode prog_1_method_7_code 38 = .ok (.bipush 11, 2) := by decide +kernel
theorem d_X10_cancel_40 : decode prog_1_method_7_code 40 = .ok (.bipush (-2), 2) := by decide +kernel
theorem d_X10_cancel_42 : decode prog_1_method_7_code 42 = .ok (.iconst 0, 1) := by decide +kernel
theorem d_X10_cancel_43 : decode prog_1_method_7_code 43 = .ok (.iconst 0, 1) := by decide +kernel
theorem d_X10_cancel_44 : decode prog_1_method_7_code 44 = .ok (.invokevirtual 126, 3) := by decide +kernel
theorem d_X10_cancel_47 : decode prog_1_method_7_code 47 = .ok (.ifCond .eq 7, 3) := by decide +kernel
theorem d_X10_cancel_50 : decode prog_1_method_7_code 50 = .ok (.iconst 1, 1) := by decide +kernel
theorem d_X10_cancel_51 : decode prog_1_method_7_code 51 = .ok (.goto 4, 3) := by decide +kernel
theorem d_X10_cancel_54 : decode prog_1_method_7_code 54 = .ok (.iconst 0, 1) := by decide +kernel
theorem d_X10_cancel_55 : decode prog_1_method_7_code 55 = .ok (.istore 4, 2) := by decide +kernel
theorem d_X10_cancel_57 : decode prog_1_method_7_code 57 = .ok (.aload_n 3, 1) := by decide +kernel
theorem d_X10_cancel_58 : decode prog_1_method_7_code 58 = .ok (.invokevirtual 108, 3) := by decide +kernel
theorem d_X10_cancel_61 : decode prog_1_method_7_code 61 = .ok (.iload 4, 2) := by decide +kernel
theorem d_X10_cancel_63 : decode prog_1_method_7_code 63 = .ok (.ireturn, 1) := by decide +kernel
abbrev Y_X10_poll : Yx := (⟨"TaskWeave", "poll", "(I)I"⟩, prog_1_method_9_code, 6, (some .int))
abbrev M_X10_poll : Mx := ("TaskWeave", prog_1_method_9_code, 6, false)
theorem yk_X10_poll : Yk Y_X10_poll 1 := ⟨by decide +kernel, by decide +kernel, ⟨by decide, by decide⟩, by decide +kernel, by decide, trivial⟩
theorem d_X10_poll_0 : decode prog_1_method_9_code 0 = .ok (.aconst_null, 1) := by decide +kernel
theorem d_X10_poll_1 : decode prog_1_method_9_code 1 = .ok (.astore_n 2, 1) := by decide +kernel
theorem d_X10_poll_2 : decode prog_1_method_9_code 2 = .ok (.iconst 0, 1) := by decide +kernel
theorem d_X10_poll_3 : decode prog_1_method_9_code 3 = .ok (.istore_n 3, 1) := by decide +kernel
theorem d_X10_poll_4 : decode prog_1_method_9_code 4 = .ok (.iload_n 3, 1) := by decide +kernel
theorem d_X10_poll_5 : decode prog_1_method_9_code 5 = .ok (.bipush 64, 2) := by decide +kernel
theorem d_X10_poll_7 : decode prog_1_method_9_code 7 = .ok (.if_icmp .ge 88, 3) := by decide +kernel
theorem d_X10_poll_10 : decode prog_1_method_9_code 10 = .ok (.aload_n 0, 1) := by decide +kernel
theorem d_X10_poll_11 : decode prog_1_method_9_code 11 = .ok (.iload_n 3, 1) := by decide +kernel
theorem d_X10_poll_12 : decode prog_1_method_9_code 12 = .ok (.invokevirtual 111, 3) := by decide +kernel
theorem d_X10_poll_15 : decode prog_1_method_9_code 15 = .ok (.astore 4, 2) := by decide +kernel
theorem d_X10_poll_17 : decode prog_1_method_9_code 17 = .ok (.aload 4, 2) := by decide +kernel
theorem d_X10_poll_19 : decode prog_1_method_9_code 19 = .ok (.ifnull 37, 3) := by decide +kernel
theorem d_X10_poll_22 : decode prog_1_method_9_code 22 = .ok (.aload_n 0, 1) := by decide +kernel
theorem d_X10_poll_23 : decode prog_1_method_9_code 23 = .ok (.getfield 18, 3) := by decide +kernel
theorem d_X10_poll_26 : decode prog_1_method_9_code 26 = .ok (.iload_n 3, 1) := by decide +kernel
theorem d_X10_poll_27 : decode prog_1_method_9_code 27 = .ok (.iconst 4, 1) := by decide +kernel
theorem d_X10_poll_28 : decode prog_1_method_9_code 28 = .ok (.irem, 1) := by decide +kernel
theorem d_X10_poll_29 : decode prog_1_method_9_code 29 = .ok (.aaload, 1) := by decide +kernel
theorem d_X10_poll_30 : decode prog_1_method_9_code 30 = .ok (.invokevirtual 81, 3) := by decide +kernel
theorem d_X10_poll_33 : decode prog_1_method_9_code 33 = .ok (.ifCond .eq 23, 3) := by decide +kernel
theorem d_X10_poll_36 : decode prog_1_method_9_code 36 = .ok (.aload 4, 2) := by decide +kernel
theorem d_X10_poll_38 : decode prog_1_method_9_code 38 = .ok (.iload_n 1, 1) := by decide +kernel
theorem d_X10_poll_39 : decode prog_1_method_9_code 39 = .ok (.aload_n 0, 1) := by decide +kernel
theorem d_X10_poll_40 : decode prog_1_method_9_code 40 = .ok (.getfield 31, 3) := by decide +kernel
theorem d_X10_poll_43 : decode prog_1_method_9_code 43 = .ok (.getfield 144, 3) := by decide +kernel
theorem d_X10_poll_46 : decode prog_1_method_9_code 46 = .ok (.invokevirtual 147, 3) := by decide +kernel
theorem d_X10_poll_49 : decode prog_1_method_9_code 49 = .ok (.ifCond .eq 7, 3) := by decide +kernel
theorem d_X10_poll_52 : decode prog_1_method_9_code 52 = .ok (.iconst 1, 1) := by decide +kernel
theorem d_X10_poll_53 : decode prog_1_method_9_code 53 = .ok (.goto 4, 3) := by decide +kernel
theorem d_X10_poll_56 : decode prog_1_method_9_code 56 = .ok (.iconst 0, 1) := by decide +kernel
theorem d_X10_poll_57 : decode prog_1_method_9_code 57 = .ok (.istore 5, 2) := by decide +kernel
theorem d_X10_poll_59 : decode prog_1_method_9_code 59 = .ok (.iload 5, 2) := by decide +kernel
theorem d_X10_poll_61 : decode prog_1_method_9_code 61 = .ok (.ifCond .eq 28, 3) := by decide +kernel
theorem d_X10_poll_64 : decode prog_1_method_9_code 64 = .ok (.aload_n 2, 1) := by decide +kernel
theorem d_X10_poll_65 : decode prog_1_method_9_code 65 = .ok (.ifnull 21, 3) := by decide +kernel
theorem d_X10_poll_68 : decode prog_1_method_9_code 68 = .ok (.aload 4, 2) := by decide +kernel
theorem d_X10_poll_70 : decode prog_1_method_9_code 70 = .ok (.getfield 151, 3) := by decide +kernel
theorem d_X10_poll_73 : decode prog_1_method_9_code 73 = .ok (.getfield 155, 3) := by decide +kernel
theorem d_X10_poll_76 : decode prog_1_method_9_code 76 = .ok (.aload_n 2, 1) := by decide +kernel
theorem d_X10_poll_77 : decode prog_1_method_9_code 77 = .ok (.getfield 151, 3) := by decide +kernel
theorem d_X10_poll_80 : decode prog_1_method_9_code 80 = .ok (.getfield 155, 3) := by decide +kernel
theorem d_X10_poll_83 : decode prog_1_method_9_code 83 = .ok (.if_icmp .ge 6, 3) := by decide +kernel
theorem d_X10_poll_86 : decode prog_1_method_9_code 86 = .ok (.aload 4, 2) := by decide +kernel
theorem d_X10_poll_88 : decode prog_1_method_9_code 88 = .ok (.astore_n 2, 1) := by decide +kernel
theorem d_X10_poll_89 : decode prog_1_method_9_code 89 = .ok (.iinc 3 1, 3) := by decide +kernel
theorem d_X10_poll_92 : decode prog_1_method_9_code 92 = .ok (.goto (-88), 3) := by decide +kernel
theorem d_X10_poll_95 : decode prog_1_method_9_code 95 = .ok (.aload_n 2, 1) := by decide +kernel
theorem d_X10_poll_96 : decode prog_1_method_9_code 96 = .ok (.ifnonnull 5, 3) := by decide +kernel
theorem d_X10_poll_99 : decode prog_1_method_9_code 99 = .ok (.iconst (-1), 1) := by decide +kernel
theorem d_X10_poll_100 : decode prog_1_method_9_code 100 = .ok (.ireturn, 1) := by decide +kernel
theorem d_X10_poll_101 : decode prog_1_method_9_code 101 = .ok (.aload_n 0, 1) := by decide +kernel
theorem d_X10_poll_102 : decode prog_1_method_9_code 102 = .ok (.dup, 1) := by decide +kernel
theorem d_X10_poll_103 : decode prog_1_method_9_code 103 = .ok (.getfield 160, 3) := by decide +kernel
theorem d_X10_poll_106 : decode prog_1_method_9_code 106 = .ok (.iconst 1, 1) := by decide +kernel
theorem d_X10_poll_107 : decode prog_1_method_9_code 107 = .ok (.iadd, 1) := by decide +kernel
theorem d_X10_poll_108 : decode prog_1_method_9_code 108 = .ok (.putfield 160, 3) := by decide +kernel
theorem d_X10_poll_111 : decode prog_1_method_9_code 111 = .ok (.aload_n 2, 1) := by decide +kernel
theorem d_X10_poll_112 : decode prog_1_method_9_code 112 = .ok (.getfield 151, 3) := by decide +kernel
theorem d_X10_poll_115 : decode prog_1_method_9_code 115 = .ok (.aload_n 0, 1) := by decide +kernel
theorem d_X10_poll_116 : decode prog_1_method_9_code 116 = .ok (.getfield 160, 3) := by decide +kernel
theorem d_X10_poll_119 : decode prog_1_method_9_code 119 = .ok (.putfield 163, 3) := by decide +kernel
theorem d_X10_poll_122 : decode prog_1_method_9_code 122 = .ok (.aload_n 2, 1) := by decide +kernel
theorem d_X10_poll_123 : decode prog_1_method_9_code 123 = .ok (.getfield 151, 3) := by decide +kernel
theorem d_X10_poll_126 : decode prog_1_method_9_code 126 = .ok (.aload_n 0, 1) := by decide +kernel
theorem d_X10_poll_127 : decode prog_1_method_9_code 127 = .ok (.getfield 31, 3) := by decide +kernel
theorem d_X10_poll_130 : decode prog_1_method_9_code 130 = .ok (.getfield 144, 3) := by decide +kernel
theorem d_X10_poll_133 : decode prog_1_method_9_code 133 = .ok (.bipush 10, 2) := by decide +kernel
theorem d_X10_poll_135 : decode prog_1_method_9_code 135 = .ok (.iadd, 1) := by decide +kernel
theorem d_X10_poll_136 : decode prog_1_method_9_code 136 = .ok (.putfield 166, 3) := by decide +kernel
theorem d_X10_poll_139 : decode prog_1_method_9_code 139 = .ok (.aload_n 0, 1) := by decide +kernel
theorem d_X10_poll_140 : decode prog_1_method_9_code 140 = .ok (.getfield 160, 3) := by decide +kernel
theorem d_X10_poll_143 : decode prog_1_method_9_code 143 = .ok (.ireturn, 1) := by decide +kernel
abbrev Y_X10_leased : Yx := (⟨"TaskWeave", "leased", "(I)LTaskWeave$Workflow;"⟩, prog_1_method_25_code, 4, (some (.object "TaskWeave$Workflow")))
abbrev M_X10_leased : Mx := ("TaskWeave", prog_1_method_25_code, 4, false)
theorem yk_X10_leased : Yk Y_X10_leased 1 := ⟨by decide +kernel, by decide +kernel, ⟨by decide, by decide⟩, by decide +kernel, by decide, trivial⟩
theorem d_X10_leased_0 : decode prog_1_method_25_code 0 = .ok (.iconst 0, 1) := by decide +kernel
theorem d_X10_leased_1 : decode prog_1_method_25_code 1 = .ok (.istore_n 2, 1) := by decide +kernel
theorem d_X10_leased_2 : decode prog_1_method_25_code 2 = .ok (.iload_n 2, 1) := by decide +kernel
theorem d_X10_leased_3 : decode prog_1_method_25_code 3 = .ok (.bipush 64, 2) := by decide +kernel
theorem d_X10_leased_5 : decode prog_1_method_25_code 5 = .ok (.if_icmp .ge 36, 3) := by decide +kernel
theorem d_X10_leased_8 : decode prog_1_method_25_code 8 = .ok (.iload_n 1, 1) := by decide +kernel
theorem d_X10_leased_9 : decode prog_1_method_25_code 9 = .ok (.ifCond .le 32, 3) := by decide +kernel
theorem d_X10_leased_12 : decode prog_1_method_25_code 12 = .ok (.aload_n 0, 1) := by decide +kernel
theorem d_X10_leased_13 : decode prog_1_method_25_code 13 = .ok (.iload_n 2, 1) := by decide +kernel
theorem d_X10_leased_14 : decode prog_1_method_25_code 14 = .ok (.invokevirtual 111, 3) := by decide +kernel
theorem d_X10_leased_17 : decode prog_1_method_25_code 17 = .ok (.astore_n 3, 1) := by decide +kernel
theorem d_X10_leased_18 : decode prog_1_method_25_code 18 = .ok (.aload_n 3, 1) := by decide +kernel
theorem d_X10_leased_19 : decode prog_1_method_25_code 19 = .ok (.ifnull 16, 3) := by decide +kernel
theorem d_X10_leased_22 : decode prog_1_method_25_code 22 = .ok (.aload_n 3, 1) := by decide +kernel
theorem d_X10_leased_23 : decode prog_1_method_25_code 23 = .ok (.getfield 151, 3) := by decide +kernel
theorem d_X10_leased_26 : decode prog_1_method_25_code 26 = .ok (.getfield 163, 3) := by decide +kernel
theorem d_X10_leased_29 : decode prog_1_method_25_code 29 = .ok (.iload_n 1, 1) := by decide +kernel
theorem d_X10_leased_30 : decode prog_1_method_25_code 30 = .ok (.if_icmp .ne 5, 3) := by decide +kernel
theorem d_X10_leased_33 : decode prog_1_method_25_code 33 = .ok (.aload_n 3, 1) := by decide +kernel
theorem d_X10_leased_34 : decode prog_1_method_25_code 34 = .ok (.areturn, 1) := by decide +kernel
theorem d_X10_leased_35 : decode prog_1_method_25_code 35 = .ok (.iinc 2 1, 3) := by decide +kernel
theorem d_X10_leased_38 : decode prog_1_method_25_code 38 = .ok (.goto (-36), 3) := by decide +kernel
theorem d_X10_leased_41 : decode prog_1_method_25_code 41 = .ok (.aconst_null, 1) := by decide +kernel
theorem d_X10_leased_42 : decode prog_1_method_25_code 42 = .ok (.areturn, 1) := by decide +kernel
abbrev Y_X10_beat : Yx := (⟨"TaskWeave", "beat", "(I)Z"⟩, prog_1_method_10_code, 3, (some .boolean))
abbrev M_X10_beat : Mx := ("TaskWeave", prog_1_method_10_code, 3, false)
theorem yk_X10_beat : Yk Y_X10_beat 1 := ⟨by decide +kernel, by decide +kernel, ⟨by decide, by decide⟩, by decide +kernel, by decide, trivial⟩
theorem d_X10_beat_0 : decode prog_1_method_10_code 0 = .ok (.aload_n 0, 1) := by decide +kernel
theorem d_X10_beat_1 : decode prog_1_method_10_code 1 = .ok (.iload_n 1, 1) := by decide +kernel
theorem d_X10_beat_2 : decode prog_1_method_10_code 2 = .ok (.invokevirtual 169, 3) := by decide +kernel
theorem d_X10_beat_5 : decode prog_1_method_10_code 5 = .ok (.astore_n 2, 1) := by decide +kernel
theorem d_X10_beat_6 : decode prog_1_method_10_code 6 = .ok (.aload_n 2, 1) := by decide +kernel
theorem d_X10_beat_7 : decode prog_1_method_10_code 7 = .ok (.ifnonnull 5, 3) := by decide +kernel
theorem d_X10_beat_10 : decode prog_1_method_10_code 10 = .ok (.iconst 0, 1) := by decide +kernel
theorem d_X10_beat_11 : decode prog_1_method_10_code 11 = .ok (.ireturn, 1) := by decide +kernel
theorem d_X10_beat_12 : decode prog_1_method_10_code 12 = .ok (.aload_n 2, 1) := by decide +kernel
theorem d_X10_beat_13 : decode prog_1_method_10_code 13 = .ok (.getfield 151, 3) := by decide +kernel
theorem d_X10_beat_16 : decode prog_1_method_10_code 16 = .ok (.aload_n 0, 1) := by decide +kernel
theorem d_X10_beat_17 : decode prog_1_method_10_code 17 = .ok (.getfield 31, 3) := by decide +kernel
theorem d_X10_beat_20 : decode prog_1_method_10_code 20 = .ok (.getfield 144, 3) := by decide +kernel
theorem d_X10_beat_23 : decode prog_1_method_10_code 23 = .ok (.bipush 10, 2) := by decide +kernel
theorem d_X10_beat_25 : decode prog_1_method_10_code 25 = .ok (.iadd, 1) := by decide +kernel
theorem d_X10_beat_26 : decode prog_1_method_10_code 26 = .ok (.putfield 166, 3) := by decide +kernel
theorem d_X10_beat_29 : decode prog_1_method_10_code 29 = .ok (.iconst 1, 1) := by decide +kernel
theorem d_X10_beat_30 : decode prog_1_method_10_code 30 = .ok (.ireturn, 1) := by decide +kernel
abbrev Y_X10_finish : Yx := (⟨"TaskWeave", "finish", "(II)Z"⟩, prog_1_method_11_code, 6, (some .boolean))
abbrev M_X10_finish : Mx := ("TaskWeave", prog_1_method_11_code, 6, false)
theorem yk_X10_finish : Yk Y_X10_finish 2 := ⟨by decide +kernel, by decide +kernel, ⟨by decide, by decide⟩, by decide +kernel, by decide, trivial⟩
theorem d_X10_finish_0 : decode prog_1_method_11_code 0 = .ok (.aload_n 0, 1) := by decide +kernel
theorem d_X10_finish_1 : decode prog_1_method_11_code 1 = .ok (.iload_n 1, 1) := by decide +kernel
theorem d_X10_finish_2 : decode prog_1_method_11_code 2 = .ok (.invokevirtual 169, 3) := by decide +kernel
theorem d_X10_finish_5 : decode prog_1_method_11_code 5 = .ok (.astore_n 3, 1) := by decide +kernel
theorem d_X10_finish_6 : decode prog_1_method_11_code 6 = .ok (.aload_n 3, 1) := by decide +kernel
theorem d_X10_finish_7 : decode prog_1_method_11_code 7 = .ok (.ifnonnull 5, 3) := by decide +kernel
theorem d_X10_finish_10 : decode prog_1_method_11_code 10 = .ok (.iconst 0, 1) := by decide +kernel
theorem d_X10_finish_11 : decode prog_1_method_11_code 11 = .ok (.ireturn, 1) := by decide +kernel
theorem d_X10_finish_12 : decode prog_1_method_11_code 12 = .ok (.aload_n 0, 1) := by decide +kernel
theorem d_X10_finish_13 : decode prog_1_method_11_code 13 = .ok (.getfield 18, 3) := by decide +kernel
theorem d_X10_finish_16 : decode prog_1_method_11_code 16 = .ok (.aload_n 3, 1) := by decide +kernel
theorem d_X10_finish_17 : decode prog_1_method_11_code 17 = .ok (.getfield 89, 3) := by decide +kernel
theorem d_X10_finish_20 : decode prog_1_method_11_code 20 = .ok (.iconst 4, 1) := by decide +kernel
theorem d_X10_finish_21 : decode prog_1_method_11_code 21 = .ok (.irem, 1) := by decide +kernel
theorem d_X10_finish_22 : decode prog_1_method_11_code 22 = .ok (.aaload, 1) := by decide +kernel
theorem d_X10_finish_23 : decode prog_1_method_11_code 23 = .ok (.astore 4, 2) := by decide +kernel
theorem d_X10_finish_25 : decode prog_1_method_11_code 25 = .ok (.aload 4, 2) := by decide +kernel
theorem d_X10_finish_27 : decode prog_1_method_11_code 27 = .ok (.aload_n 3, 1) := by decide +kernel
theorem d_X10_finish_28 : decode prog_1_method_11_code 28 = .ok (.iconst 2, 1) := by decide +kernel
theorem d_X10_finish_29 : decode prog_1_method_11_code 29 = .ok (.iload_n 2, 1) := by decide +kernel
theorem d_X10_finish_30 : decode prog_1_method_11_code 30 = .ok (.iconst 0, 1) := by decide +kernel
theorem d_X10_finish_31 : decode prog_1_method_11_code 31 = .ok (.iconst 0, 1) := by decide +kernel
theorem d_X10_finish_32 : decode prog_1_method_11_code 32 = .ok (.invokevirtual 126, 3) := by decide +kernel
theorem d_X10_finish_35 : decode prog_1_method_11_code 35 = .ok (.istore 5, 2) := by decide +kernel
theorem d_X10_finish_37 : decode prog_1_method_11_code 37 = .ok (.aload 4, 2) := by decide +kernel
theorem d_X10_finish_39 : decode prog_1_method_11_code 39 = .ok (.invokevirtual 108, 3) := by decide +kernel
theorem d_X10_finish_42 : decode prog_1_method_11_code 42 = .ok (.iload 5, 2) := by decide +kernel
theorem d_X10_finish_44 : decode prog_1_method_11_code 44 = .ok (.ireturn, 1) := by decide +kernel
abbrev Y_X10_fail : Yx := (⟨"TaskWeave", "fail", "(I)Z"⟩, prog_1_method_12_code, 5, (some .boolean))
abbrev M_X10_fail : Mx := ("TaskWeave", prog_1_method_12_code, 5, false)
theorem yk_X10_fail : Yk Y_X10_fail 1 := ⟨by decide +kernel, by decide +kernel, ⟨by decide, by decide⟩, by decide +kernel, by decide, trivial⟩
theorem d_X10_fail_0 : decode prog_1_method_12_code 0 = .ok (.aload_n 0, 1) := by decide +kernel
theorem d_X10_fail_1 : decode prog_1_method_12_code 1 = .ok (.iload_n 1, 1) := by decide +kernel
theorem d_X10_fail_2 : decode prog_1_method_12_code 2 = .ok (.invokevirtual 169, 3) := by decide +kernel
theorem d_X10_fail_5 : decode prog_1_method_12_code 5 = .ok (.astore_n 2, 1) := by decide +kernel
theorem d_X10_fail_6 : decode prog_1_method_12_code 6 = .ok (.aload_n 2, 1) := by decide +kernel
theorem d_X10_fail_7 : decode prog_1_method_12_code 7 = .ok (.ifnonnull 5, 3) := by decide +kernel
theorem d_X10_fail_10 : decode prog_1_method_12_code 10 = .ok (.iconst 0, 1) := by decide +kernel
theorem d_X10_fail_11 : decode prog_1_method_12_code 11 = .ok (.ireturn, 1) := by decide +kernel
theorem d_X10_fail_12 : decode prog_1_method_12_code 12 = .ok (.aload_n 0, 1) := by decide +kernel
theorem d_X10_fail_13 : decode prog_1_method_12_code 13 = .ok (.getfield 18, 3) := by decide +kernel
theorem d_X10_fail_16 : decode prog_1_method_12_code 16 = .ok (.aload_n 2, 1) := by decide +kernel
theorem d_X10_fail_17 : decode prog_1_method_12_code 17 = .ok (.getfield 89, 3) := by decide +kernel
theorem d_X10_fail_20 : decode prog_1_method_12_code 20 = .ok (.iconst 4, 1) := by decide +kernel
theorem d_X10_fail_21 : decode prog_1_method_12_code 21 = .ok (.irem, 1) := by decide +kernel
theorem d_X10_fail_22 : decode prog_1_method_12_code 22 = .ok (.aaload, 1) := by decide +kernel
theorem d_X10_fail_23 : decode prog_1_method_12_code 23 = .ok (.astore_n 3, 1) := by decide +kernel
theorem d_X10_fail_24 : decode prog_1_method_12_code 24 = .ok (.aload_n 3, 1) := by decide +kernel
theorem d_X10_fail_25 : decode prog_1_method_12_code 25 = .ok (.aload_n 2, 1) := by decide +kernel
theorem d_X10_fail_26 : decode prog_1_method_12_code 26 = .ok (.invokevirtual 172, 3) := by decide +kernel
theorem d_X10_fail_29 : decode prog_1_method_12_code 29 = .ok (.istore 4, 2) := by decide +kernel
theorem d_X10_fail_31 : decode prog_1_method_12_code 31 = .ok (.aload_n 3, 1) := by decide +kernel
theorem d_X10_fail_32 : decode prog_1_method_12_code 32 = .ok (.invokevirtual 108, 3) := by decide +kernel
theorem d_X10_fail_35 : decode prog_1_method_12_code 35 = .ok (.iload 4, 2) := by decide +kernel
theorem d_X10_fail_37 : decode prog_1_method_12_code 37 = .ok (.ireturn, 1) := by decide +kernel
abbrev Y_X10_task : Yx := (⟨"TaskWeave", "task", "(II)I"⟩, prog_1_method_13_code, 4, (some .int))
abbrev M_X10_task : Mx := ("TaskWeave", prog_1_method_13_code, 4, false)
theorem yk_X10_task : Yk Y_X10_task 2 := ⟨by decide +kernel, by decide +kernel, ⟨by decide, by decide⟩, by decide +kernel, by decide, trivial⟩
theorem d_X10_task_0 : decode prog_1_method_13_code 0 = .ok (.aload_n 0, 1) := by decide +kernel
theorem d_X10_task_1 : decode prog_1_method_13_code 1 = .ok (.iload_n 1, 1) := by decide +kernel
theorem d_X10_task_2 : decode prog_1_method_13_code 2 = .ok (.invokevirtual 169, 3) := by decide +kernel
theorem d_X10_task_5 : decode prog_1_method_13_code 5 = .ok (.astore_n 3, 1) := by decide +kernel
theorem d_X10_task_6 : decode prog_1_method_13_code 6 = .ok (.aload_n 3, 1) := by decide +kernel
theorem d_X10_task_7 : decode prog_1_method_13_code 7 = .ok (.ifnonnull 5, 3) := by decide +kernel
theorem d_X10_task_10 : decode prog_1_method_13_code 10 = .ok (.iconst (-1), 1) := by decide +kernel
theorem d_X10_task_11 : decode prog_1_method_13_code 11 = .ok (.ireturn, 1) := by decide +kernel
theorem d_X10_task_12 : decode prog_1_method_13_code 12 = .ok (.iload_n 2, 1) := by decide +kernel
theorem d_X10_task_13 : decode prog_1_method_13_code 13 = .ok (.tableswitch 60 0 3 #[31, 36, 44, 52], 31) := by decide +kernel
theorem d_X10_task_44 : decode prog_1_method_13_code 44 = .ok (.aload_n 3, 1) := by decide +kernel
theorem d_X10_task_45 : decode prog_1_method_13_code 45 = .ok (.getfield 89, 3) := by decide +kernel
theorem d_X10_task_48 : decode prog_1_method_13_code 48 = .ok (.ireturn, 1) := by decide +kernel
theorem d_X10_task_49 : decode prog_1_method_13_code 49 = .ok (.aload_n 3, 1) := by decide +kernel
theorem d_X10_task_50 : decode prog_1_method_13_code 50 = .ok (.getfield 151, 3) := by decide +kernel
theorem d_X10_task_53 : decode prog_1_method_13_code 53 = .ok (.getfield 176, 3) := by decide +kernel
theorem d_X10_task_56 : decode prog_1_method_13_code 56 = .ok (.ireturn, 1) := by decide +kernel
theorem d_X10_task_57 : decode prog_1_method_13_code 57 = .ok (.aload_n 3, 1) := by decide +kernel
theorem d_X10_task_58 : decode prog_1_method_13_code 58 = .ok (.getfield 151, 3) := by decide +kernel
theorem d_X10_task_61 : decode prog_1_method_13_code 61 = .ok (.getfield 179, 3) := by decide +kernel
theorem d_X10_task_64 : decode prog_1_method_13_code 64 = .ok (.ireturn, 1) := by decide +kernel
theorem d_X10_task_65 : decode prog_1_method_13_code 65 = .ok (.aload_n 3, 1) := by decide +kernel
theorem d_X10_task_66 : decode prog_1_method_13_code 66 = .ok (.getfield 151, 3) := by decide +kernel
theorem d_X10_task_69 : decode prog_1_method_13_code 69 = .ok (.getfield 166, 3) := by decide +kernel
theorem d_X10_task_72 : decode prog_1_method_13_code 72 = .ok (.ireturn, 1) := by decide +kernel
theorem d_X10_task_73 : decode prog_1_method_13_code 73 = .ok (.iconst (-1), 1) := by decide +kernel
theorem d_X10_task_74 : decode prog_1_method_13_code 74 = .ok (.ireturn, 1) := by decide +kernel
abbrev Y_X10_replicas : Yx := (⟨"TaskWeave", "replicas", "(II)Z"⟩, prog_1_method_15_code, 3, (some .boolean))
abbrev M_X10_replicas : Mx := ("TaskWeave", prog_1_method_15_code, 3, false)
theorem yk_X10_replicas : Yk Y_X10_replicas 2 := ⟨by decide +kernel, by decide +kernel, ⟨by decide, by decide⟩, by decide +kernel, by decide, trivial⟩
theorem d_X10_replicas_0 : decode prog_1_method_15_code 0 = .ok (.iload_n 1, 1) := by decide +kernel
theorem d_X10_replicas_1 : decode prog_1_method_15_code 1 = .ok (.ifCond .lt 18, 3) := by decide +kernel
theorem d_X10_replicas_4 : decode prog_1_method_15_code 4 = .ok (.iload_n 1, 1) := by decide +kernel
theorem d_X10_replicas_5 : decode prog_1_method_15_code 5 = .ok (.iconst 4, 1) := by decide +kernel
theorem d_X10_replicas_6 : decode prog_1_method_15_code 6 = .ok (.if_icmp .ge 13, 3) := by decide +kernel
theorem d_X10_replicas_9 : decode prog_1_method_15_code 9 = .ok (.iload_n 2, 1) := by decide +kernel
theorem d_X10_replicas_10 : decode prog_1_method_15_code 10 = .ok (.iconst 3, 1) := by decide +kernel
theorem d_X10_replicas_11 : decode prog_1_method_15_code 11 = .ok (.if_icmp .lt 8, 3) := by decide +kernel
theorem d_X10_replicas_14 : decode prog_1_method_15_code 14 = .ok (.iload_n 2, 1) := by decide +kernel
theorem d_X10_replicas_15 : decode prog_1_method_15_code 15 = .ok (.iconst 5, 1) := by decide +kernel
theorem d_X10_replicas_16 : decode prog_1_method_15_code 16 = .ok (.if_icmp .le 5, 3) := by decide +kernel
theorem d_X10_replicas_19 : decode prog_1_method_15_code 19 = .ok (.iconst 0, 1) := by decide +kernel
theorem d_X10_replicas_20 : decode prog_1_method_15_code 20 = .ok (.ireturn, 1) := by decide +kernel
theorem d_X10_replicas_21 : decode prog_1_method_15_code 21 = .ok (.aload_n 0, 1) := by decide +kernel
theorem d_X10_replicas_22 : decode prog_1_method_15_code 22 = .ok (.getfield 18, 3) := by decide +kernel
theorem d_X10_replicas_25 : decode prog_1_method_15_code 25 = .ok (.iload_n 1, 1) := by decide +kernel
theorem d_X10_replicas_26 : decode prog_1_method_15_code 26 = .ok (.aaload, 1) := by decide +kernel
theorem d_X10_replicas_27 : decode prog_1_method_15_code 27 = .ok (.iload_n 2, 1) := by decide +kernel
theorem d_X10_replicas_28 : decode prog_1_method_15_code 28 = .ok (.invokevirtual 199, 3) := by decide +kernel
theorem d_X10_replicas_31 : decode prog_1_method_15_code 31 = .ok (.ireturn, 1) := by decide +kernel
abbrev Y_X10_findReplica : Yx := (⟨"TaskWeave", "findReplica", "(II)LTaskWeave$Replica;"⟩, prog_1_method_24_code, 3, (some (.object "TaskWeave$Replica")))
abbrev M_X10_findReplica : Mx := ("TaskWeave", prog_1_method_24_code, 3, false)
theorem yk_X10_findReplica : Yk Y_X10_findReplica 2 := ⟨by decide +kernel, by decide +kernel, ⟨by decide, by decide⟩, by decide +kernel, by decide, trivial⟩
theorem d_X10_findReplica_0 : decode prog_1_method_24_code 0 = .ok (.iload_n 1, 1) := by decide +kernel
theorem d_X10_findReplica_1 : decode prog_1_method_24_code 1 = .ok (.ifCond .lt 25, 3) := by decide +kernel
theorem d_X10_findReplica_4 : decode prog_1_method_24_code 4 = .ok (.iload_n 1, 1) := by decide +kernel
theorem d_X10_findReplica_5 : decode prog_1_method_24_code 5 = .ok (.iconst 4, 1) := by decide +kernel
theorem d_X10_findReplica_6 : decode prog_1_method_24_code 6 = .ok (.if_icmp .ge 20, 3) := by decide +kernel
theorem d_X10_findReplica_9 : decode prog_1_method_24_code 9 = .ok (.iload_n 2, 1) := by decide +kernel
theorem d_X10_findReplica_10 : decode prog_1_method_24_code 10 = .ok (.ifCond .lt 16, 3) := by decide +kernel
theorem d_X10_findReplica_13 : decode prog_1_method_24_code 13 = .ok (.iload_n 2, 1) := by decide +kernel
theorem d_X10_findReplica_14 : decode prog_1_method_24_code 14 = .ok (.aload_n 0, 1) := by decide +kernel
theorem d_X10_findReplica_15 : decode prog_1_method_24_code 15 = .ok (.getfield 18, 3) := by decide +kernel
theorem d_X10_findReplica_18 : decode prog_1_method_24_code 18 = .ok (.iload_n 1, 1) := by decide +kernel
theorem d_X10_findReplica_19 : decode prog_1_method_24_code 19 = .ok (.aaload, 1) := by decide +kernel
theorem d_X10_findReplica_20 : decode prog_1_method_24_code 20 = .ok (.getfield 264, 3) := by decide +kernel
theorem d_X10_findReplica_23 : decode prog_1_method_24_code 23 = .ok (.if_icmp .lt 7, 3) := by decide +kernel
theorem d_X10_findReplica_26 : decode prog_1_method_24_code 26 = .ok (.aconst_null, 1) := by decide +kernel
theorem d_X10_findReplica_27 : decode prog_1_method_24_code 27 = .ok (.goto 14, 3) := by decide +kernel
theorem d_X10_findReplica_30 : decode prog_1_method_24_code 30 = .ok (.aload_n 0, 1) := by decide +kernel
theorem d_X10_findReplica_31 : decode prog_1_method_24_code 31 = .ok (.getfield 18, 3) := by decide +kernel
theorem d_X10_findReplica_34 : decode prog_1_method_24_code 34 = .ok (.iload_n 1, 1) := by decide +kernel
theorem d_X10_findReplica_35 : decode prog_1_method_24_code 35 = .ok (.aaload, 1) := by decide +kernel
theorem d_X10_findReplica_36 : decode prog_1_method_24_code 36 = .ok (.getfield 283, 3) := by decide +kernel
theorem d_X10_findReplica_39 : decode prog_1_method_24_code 39 = .ok (.iload_n 2, 1) := by decide +kernel
theorem d_X10_findReplica_40 : decode prog_1_method_24_code 40 = .ok (.aaload, 1) := by decide +kernel
theorem d_X10_findReplica_41 : decode prog_1_method_24_code 41 = .ok (.areturn, 1) := by decide +kernel
abbrev Y_X10_power : Yx := (⟨"TaskWeave", "power", "(IIZ)Z"⟩, prog_1_method_16_code, 5, (some .boolean))
abbrev M_X10_power : Mx := ("TaskWeave", prog_1_method_16_code, 5, false)
theorem yk_X10_power : Yk Y_X10_power 3 := ⟨by decide +kernel, by decide +kernel, ⟨by decide, by decide⟩, by decide +kernel, by decide, trivial⟩
theorem d_X10_power_0 : decode prog_1_method_16_code 0 = .ok (.aload_n 0, 1) := by decide +kernel
theorem d_X10_power_1 : decode prog_1_method_16_code 1 = .ok (.iload_n 1, 1) := by decide +kernel
theorem d_X10_power_2 : decode prog_1_method_16_code 2 = .ok (.iload_n 2, 1) := by decide +kernel
theorem d_X10_power_3 : decode prog_1_method_16_code 3 = .ok (.invokevirtual 202, 3) := by decide +kernel
theorem d_X10_power_6 : decode prog_1_method_16_code 6 = .ok (.astore 4, 2) := by decide +kernel
theorem d_X10_power_8 : decode prog_1_method_16_code 8 = .ok (.aload 4, 2) := by decide +kernel
theorem d_X10_power_10 : decode prog_1_method_16_code 10 = .ok (.ifnull 12, 3) := by decide +kernel
theorem d_X10_power_13 : decode prog_1_method_16_code 13 = .ok (.aload 4, 2) := by decide +kernel
theorem d_X10_power_15 : decode prog_1_method_16_code 15 = .ok (.getfield 206, 3) := by decide +kernel
theorem d_X10_power_18 : decode prog_1_method_16_code 18 = .ok (.iload_n 3, 1) := by decide +kernel
theorem d_X10_power_19 : decode prog_1_method_16_code 19 = .ok (.if_icmp .ne 5, 3) := by decide +kernel
theorem d_X10_power_22 : decode prog_1_method_16_code 22 = .ok (.iconst 0, 1) := by decide +kernel
theorem d_X10_power_23 : decode prog_1_method_16_code 23 = .ok (.ireturn, 1) := by decide +kernel
theorem d_X10_power_24 : decode prog_1_method_16_code 24 = .ok (.iload_n 3, 1) := by decide +kernel
theorem d_X10_power_25 : decode prog_1_method_16_code 25 = .ok (.ifCond .eq 17, 3) := by decide +kernel
theorem d_X10_power_28 : decode prog_1_method_16_code 28 = .ok (.aload_n 0, 1) := by decide +kernel
theorem d_X10_power_29 : decode prog_1_method_16_code 29 = .ok (.getfield 18, 3) := by decide +kernel
theorem d_X10_power_32 : decode prog_1_method_16_code 32 = .ok (.iload_n 1, 1) := by decide +kernel
theorem d_X10_power_33 : decode prog_1_method_16_code 33 = .ok (.aaload, 1) := by decide +kernel
theorem d_X10_power_34 : decode prog_1_method_16_code 34 = .ok (.aload 4, 2) := by decide +kernel
theorem d_X10_power_36 : decode prog_1_method_16_code 36 = .ok (.invokevirtual 212, 3) := by decide +kernel
theorem d_X10_power_39 : decode prog_1_method_16_code 39 = .ok (.goto 14, 3) := by decide +kernel
theorem d_X10_power_42 : decode prog_1_method_16_code 42 = .ok (.aload_n 0, 1) := by decide +kernel
theorem d_X10_power_43 : decode prog_1_method_16_code 43 = .ok (.getfield 18, 3) := by decide +kernel
theorem d_X10_power_46 : decode prog_1_method_16_code 46 = .ok (.iload_n 1, 1) := by decide +kernel
theorem d_X10_power_47 : decode prog_1_method_16_code 47 = .ok (.aaload, 1) := by decide +kernel
theorem d_X10_power_48 : decode prog_1_method_16_code 48 = .ok (.aload 4, 2) := by decide +kernel
theorem d_X10_power_50 : decode prog_1_method_16_code 50 = .ok (.invokevirtual 216, 3) := by decide +kernel
theorem d_X10_power_53 : decode prog_1_method_16_code 53 = .ok (.aload_n 0, 1) := by decide +kernel
theorem d_X10_power_54 : decode prog_1_method_16_code 54 = .ok (.getfield 18, 3) := by decide +kernel
theorem d_X10_power_57 : decode prog_1_method_16_code 57 = .ok (.iload_n 1, 1) := by decide +kernel
theorem d_X10_power_58 : decode prog_1_method_16_code 58 = .ok (.aaload, 1) := by decide +kernel
theorem d_X10_power_59 : decode prog_1_method_16_code 59 = .ok (.invokevirtual 108, 3) := by decide +kernel
theorem d_X10_power_62 : decode prog_1_method_16_code 62 = .ok (.iconst 1, 1) := by decide +kernel
theorem d_X10_power_63 : decode prog_1_method_16_code 63 = .ok (.ireturn, 1) := by decide +kernel
abbrev Y_X10_fuse : Yx := (⟨"TaskWeave", "fuse", "(III)Z"⟩, prog_1_method_17_code, 5, (some .boolean))
abbrev M_X10_fuse : Mx := ("TaskWeave", prog_1_method_17_code, 5, false)
theorem yk_X10_fuse : Yk Y_X10_fuse 3 := ⟨by decide +kernel, by decide +kernel, ⟨by decide, by decide⟩, by decide +kernel, by decide, trivial⟩
theorem d_X10_fuse_0 : decode prog_1_method_17_code 0 = .ok (.aload_n 0, 1) := by decide +kernel
theorem d_X10_fuse_1 : decode prog_1_method_17_code 1 = .ok (.iload_n 1, 1) := by decide +kernel
theorem d_X10_fuse_2 : decode prog_1_method_17_code 2 = .ok (.iload_n 2, 1) := by decide +kernel
theorem d_X10_fuse_3 : decode prog_1_method_17_code 3 = .ok (.invokevirtual 202, 3) := by decide +kernel
theorem d_X10_fuse_6 : decode prog_1_method_17_code 6 = .ok (.astore 4, 2) := by decide +kernel
theorem d_X10_fuse_8 : decode prog_1_method_17_code 8 = .ok (.aload 4, 2) := by decide +kernel
theorem d_X10_fuse_10 : decode prog_1_method_17_code 10 = .ok (.ifnull 21, 3) := by decide +kernel
theorem d_X10_fuse_13 : decode prog_1_method_17_code 13 = .ok (.aload 4, 2) := by decide +kernel
theorem d_X10_fuse_15 : decode prog_1_method_17_code 15 = .ok (.getfield 206, 3) := by decide +kernel
theorem d_X10_fuse_18 : decode prog_1_method_17_code 18 = .ok (.ifCond .eq 13, 3) := by decide +kernel
theorem d_X10_fuse_21 : decode prog_1_method_17_code 21 = .ok (.iload_n 3, 1) := by decide +kernel
theorem d_X10_fuse_22 : decode prog_1_method_17_code 22 = .ok (.ifCond .lt 9, 3) := by decide +kernel
theorem d_X10_fuse_25 : decode prog_1_method_17_code 25 = .ok (.iload_n 3, 1) := by decide +kernel
theorem d_X10_fuse_26 : decode prog_1_method_17_code 26 = .ok (.ldc 219, 2) := by decide +kernel
theorem d_X10_fuse_28 : decode prog_1_method_17_code 28 = .ok (.if_icmp .le 5, 3) := by decide +kernel
theorem d_X10_fuse_31 : decode prog_1_method_17_code 31 = .ok (.iconst 0, 1) := by decide +kernel
theorem d_X10_fuse_32 : decode prog_1_method_17_code 32 = .ok (.ireturn, 1) := by decide +kernel
theorem d_X10_fuse_33 : decode prog_1_method_17_code 33 = .ok (.aload 4, 2) := by decide +kernel
theorem d_X10_fuse_35 : decode prog_1_method_17_code 35 = .ok (.iload_n 3, 1) := by decide +kernel
theorem d_X10_fuse_36 : decode prog_1_method_17_code 36 = .ok (.putfield 220, 3) := by decide +kernel
theorem d_X10_fuse_39 : decode prog_1_method_17_code 39 = .ok (.iconst 1, 1) := by decide +kernel
theorem d_X10_fuse_40 : decode prog_1_method_17_code 40 = .ok (.ireturn, 1) := by decide +kernel
abbrev Y_X10_workflow : Yx := (⟨"TaskWeave", "workflow", "(II)I"⟩, prog_1_method_18_code, 4, (some .int))
abbrev M_X10_workflow : Mx := ("TaskWeave", prog_1_method_18_code, 4, false)
theorem yk_X10_workflow : Yk Y_X10_workflow 2 := ⟨by decide +kernel, by decide +kernel, ⟨by decide, by decide⟩, by decide +kernel, by decide, trivial⟩
theorem d_X10_workflow_0 : decode prog_1_method_18_code 0 = .ok (.aload_n 0, 1) := by decide +kernel
theorem d_X10_workflow_1 : decode prog_1_method_18_code 1 = .ok (.iload_n 1, 1) := by decide +kernel
theorem d_X10_workflow_2 : decode prog_1_method_18_code 2 = .ok (.invokevirtual 111, 3) := by decide +kernel
theorem d_X10_workflow_5 : decode prog_1_method_18_code 5 = .ok (.astore_n 3, 1) := by decide +kernel
theorem d_X10_workflow_6 : decode prog_1_method_18_code 6 = .ok (.aload_n 3, 1) := by decide +kernel
theorem d_X10_workflow_7 : decode prog_1_method_18_code 7 = .ok (.ifnonnull 5, 3) := by decide +kernel
theorem d_X10_workflow_10 : decode prog_1_method_18_code 10 = .ok (.iconst (-1), 1) := by decide +kernel
theorem d_X10_workflow_11 : decode prog_1_method_18_code 11 = .ok (.ireturn, 1) := by decide +kernel
theorem d_X10_workflow_12 : decode prog_1_method_18_code 12 = .ok (.iload_n 2, 1) := by decide +kernel
theorem d_X10_workflow_13 : decode prog_1_method_18_code 13 = .ok (.tableswitch 106 0 6 #[43, 48, 53, 61, 74, 79, 101], 43) := by decide +kernel
theorem d_X10_workflow_56 : decode prog_1_method_18_code 56 = .ok (.aload_n 3, 1) := by decide +kernel
theorem d_X10_workflow_57 : decode prog_1_method_18_code 57 = .ok (.getfield 123, 3) := by decide +kernel
theorem d_X10_workflow_60 : decode prog_1_method_18_code 60 = .ok (.ireturn, 1) := by decide +kernel
theorem d_X10_workflow_61 : decode prog_1_method_18_code 61 = .ok (.aload_n 3, 1) := by decide +kernel
theorem d_X10_workflow_62 : decode prog_1_method_18_code 62 = .ok (.getfield 223, 3) := by decide +kernel
theorem d_X10_workflow_65 : decode prog_1_method_18_code 65 = .ok (.ireturn, 1) := by decide +kernel
theorem d_X10_workflow_66 : decode prog_1_method_18_code 66 = .ok (.aload_n 3, 1) := by decide +kernel
theorem d_X10_workflow_67 : decode prog_1_method_18_code 67 = .ok (.getfield 114, 3) := by decide +kernel
theorem d_X10_workflow_70 : decode prog_1_method_18_code 70 = .ok (.getfield 226, 3) := by decide +kernel
theorem d_X10_workflow_73 : decode prog_1_method_18_code 73 = .ok (.ireturn, 1) := by decide +kernel
theorem d_X10_workflow_74 : decode prog_1_method_18_code 74 = .ok (.aload_n 3, 1) := by decide +kernel
theorem d_X10_workflow_75 : decode prog_1_method_18_code 75 = .ok (.getfield 114, 3) := by decide +kernel
theorem d_X10_workflow_78 : decode prog_1_method_18_code 78 = .ok (.getfield 229, 3) := by decide +kernel
theorem d_X10_workflow_81 : decode prog_1_method_18_code 81 = .ok (.iconst 0, 1) := by decide +kernel
theorem d_X10_workflow_82 : decode prog_1_method_18_code 82 = .ok (.iaload, 1) := by decide +kernel
theorem d_X10_workflow_83 : decode prog_1_method_18_code 83 = .ok (.bipush 8, 2) := by decide +kernel
theorem d_X10_workflow_85 : decode prog_1_method_18_code 85 = .ok (.irem, 1) := by decide +kernel
theorem d_X10_workflow_86 : decode prog_1_method_18_code 86 = .ok (.ireturn, 1) := by decide +kernel
theorem d_X10_workflow_87 : decode prog_1_method_18_code 87 = .ok (.aload_n 3, 1) := by decide +kernel
theorem d_X10_workflow_88 : decode prog_1_method_18_code 88 = .ok (.getfield 232, 3) := by decide +kernel
theorem d_X10_workflow_91 : decode prog_1_method_18_code 91 = .ok (.ireturn, 1) := by decide +kernel
theorem d_X10_workflow_92 : decode prog_1_method_18_code 92 = .ok (.aload_n 3, 1) := by decide +kernel
theorem d_X10_workflow_93 : decode prog_1_method_18_code 93 = .ok (.getfield 114, 3) := by decide +kernel
theorem d_X10_workflow_96 : decode prog_1_method_18_code 96 = .ok (.bipush 8, 2) := by decide +kernel
theorem d_X10_workflow_98 : decode prog_1_method_18_code 98 = .ok (.aload_n 3, 1) := by decide +kernel
theorem d_X10_workflow_99 : decode prog_1_method_18_code 99 = .ok (.getfield 114, 3) := by decide +kernel
theorem d_X10_workflow_102 : decode prog_1_method_18_code 102 = .ok (.getfield 226, 3) := by decide +kernel
theorem d_X10_workflow_105 : decode prog_1_method_18_code 105 = .ok (.invokevirtual 235, 3) := by decide +kernel
theorem d_X10_workflow_108 : decode prog_1_method_18_code 108 = .ok (.aload_n 3, 1) := by decide +kernel
theorem d_X10_workflow_109 : decode prog_1_method_18_code 109 = .ok (.getfield 238, 3) := by decide +kernel
theorem d_X10_workflow_112 : decode prog_1_method_18_code 112 = .ok (.isub, 1) := by decide +kernel
theorem d_X10_workflow_113 : decode prog_1_method_18_code 113 = .ok (.ireturn, 1) := by decide +kernel
theorem d_X10_workflow_114 : decode prog_1_method_18_code 114 = .ok (.aload_n 3, 1) := by decide +kernel
theorem d_X10_workflow_115 : decode prog_1_method_18_code 115 = .ok (.invokevirtual 241, 3) := by decide +kernel
theorem d_X10_workflow_118 : decode prog_1_method_18_code 118 = .ok (.ireturn, 1) := by decide +kernel
theorem d_X10_workflow_119 : decode prog_1_method_18_code 119 = .ok (.iconst (-1), 1) := by decide +kernel
theorem d_X10_workflow_120 : decode prog_1_method_18_code 120 = .ok (.ireturn, 1) := by decide +kernel
abbrev Y_X10_shard : Yx := (⟨"TaskWeave", "shard", "(II)I"⟩, prog_1_method_20_code, 3, (some .int))
abbrev M_X10_shard : Mx := ("TaskWeave", prog_1_method_20_code, 3, false)
theorem yk_X10_shard : Yk Y_X10_shard 2 := ⟨by decide +kernel, by decide +kernel, ⟨by decide, by decide⟩, by decide +kernel, by decide, trivial⟩
theorem d_X10_shard_0 : decode prog_1_method_20_code 0 = .ok (.iload_n 1, 1) := by decide +kernel
theorem d_X10_shard_1 : decode prog_1_method_20_code 1 = .ok (.ifCond .lt 8, 3) := by decide +kernel
theorem d_X10_shard_4 : decode prog_1_method_20_code 4 = .ok (.iload_n 1, 1) := by decide +kernel
theorem d_X10_shard_5 : decode prog_1_method_20_code 5 = .ok (.iconst 4, 1) := by decide +kernel
theorem d_X10_shard_6 : decode prog_1_method_20_code 6 = .ok (.if_icmp .lt 5, 3) := by decide +kernel
theorem d_X10_shard_9 : decode prog_1_method_20_code 9 = .ok (.iconst (-1), 1) := by decide +kernel
theorem d_X10_shard_10 : decode prog_1_method_20_code 10 = .ok (.ireturn, 1) := by decide +kernel
theorem d_X10_shard_11 : decode prog_1_method_20_code 11 = .ok (.iload_n 2, 1) := by decide +kernel
theorem d_X10_shard_12 : decode prog_1_method_20_code 12 = .ok (.tableswitch 119 0 6 #[44, 54, 64, 74, 84, 97, 108], 44) := by decide +kernel
theorem d_X10_shard_56 : decode prog_1_method_20_code 56 = .ok (.aload_n 0, 1) := by decide +kernel
theorem d_X10_shard_57 : decode prog_1_method_20_code 57 = .ok (.getfield 18, 3) := by decide +kernel
theorem d_X10_shard_60 : decode prog_1_method_20_code 60 = .ok (.iload_n 1, 1) := by decide +kernel
theorem d_X10_shard_61 : decode prog_1_method_20_code 61 = .ok (.aaload, 1) := by decide +kernel
theorem d_X10_shard_62 : decode prog_1_method_20_code 62 = .ok (.getfield 258, 3) := by decide +kernel
theorem d_X10_shard_65 : decode prog_1_method_20_code 65 = .ok (.ireturn, 1) := by decide +kernel
theorem d_X10_shard_66 : decode prog_1_method_20_code 66 = .ok (.aload_n 0, 1) := by decide +kernel
theorem d_X10_shard_67 : decode prog_1_method_20_code 67 = .ok (.getfield 18, 3) := by decide +kernel
theorem d_X10_shard_70 : decode prog_1_method_20_code 70 = .ok (.iload_n 1, 1) := by decide +kernel
theorem d_X10_shard_71 : decode prog_1_method_20_code 71 = .ok (.aaload, 1) := by decide +kernel
theorem d_X10_shard_72 : decode prog_1_method_20_code 72 = .ok (.getfield 261, 3) := by decide +kernel
theorem d_X10_shard_75 : decode prog_1_method_20_code 75 = .ok (.ireturn, 1) := by decide +kernel
theorem d_X10_shard_76 : decode prog_1_method_20_code 76 = .ok (.aload_n 0, 1) := by decide +kernel
theorem d_X10_shard_77 : decode prog_1_method_20_code 77 = .ok (.getfield 18, 3) := by decide +kernel
theorem d_X10_shard_80 : decode prog_1_method_20_code 80 = .ok (.iload_n 1, 1) := by decide +kernel
theorem d_X10_shard_81 : decode prog_1_method_20_code 81 = .ok (.aaload, 1) := by decide +kernel
theorem d_X10_shard_82 : decode prog_1_method_20_code 82 = .ok (.getfield 264, 3) := by decide +kernel
theorem d_X10_shard_85 : decode prog_1_method_20_code 85 = .ok (.ireturn, 1) := by decide +kernel
theorem d_X10_shard_86 : decode prog_1_method_20_code 86 = .ok (.aload_n 0, 1) := by decide +kernel
theorem d_X10_shard_87 : decode prog_1_method_20_code 87 = .ok (.getfield 18, 3) := by decide +kernel
theorem d_X10_shard_90 : decode prog_1_method_20_code 90 = .ok (.iload_n 1, 1) := by decide +kernel
theorem d_X10_shard_91 : decode prog_1_method_20_code 91 = .ok (.aaload, 1) := by decide +kernel
theorem d_X10_shard_92 : decode prog_1_method_20_code 92 = .ok (.getfield 101, 3) := by decide +kernel
theorem d_X10_shard_95 : decode prog_1_method_20_code 95 = .ok (.ireturn, 1) := by decide +kernel
theorem d_X10_shard_96 : decode prog_1_method_20_code 96 = .ok (.aload_n 0, 1) := by decide +kernel
theorem d_X10_shard_97 : decode prog_1_method_20_code 97 = .ok (.getfield 18, 3) := by decide +kernel
theorem d_X10_shard_100 : decode prog_1_method_20_code 100 = .ok (.iload_n 1, 1) := by decide +kernel
theorem d_X10_shard_101 : decode prog_1_method_20_code 101 = .ok (.aaload, 1) := by decide +kernel
theorem d_X10_shard_102 : decode prog_1_method_20_code 102 = .ok (.getfield 265, 3) := by decide +kernel
theorem d_X10_shard_105 : decode prog_1_method_20_code 105 = .ok (.getfield 269, 3) := by decide +kernel
theorem d_X10_shard_108 : decode prog_1_method_20_code 108 = .ok (.ireturn, 1) := by decide +kernel
theorem d_X10_shard_109 : decode prog_1_method_20_code 109 = .ok (.aload_n 0, 1) := by decide +kernel
theorem d_X10_shard_110 : decode prog_1_method_20_code 110 = .ok (.getfield 18, 3) := by decide +kernel
theorem d_X10_shard_113 : decode prog_1_method_20_code 113 = .ok (.iload_n 1, 1) := by decide +kernel
theorem d_X10_shard_114 : decode prog_1_method_20_code 114 = .ok (.aaload, 1) := by decide +kernel
theorem d_X10_shard_115 : decode prog_1_method_20_code 115 = .ok (.iconst 0, 1) := by decide +kernel
theorem d_X10_shard_116 : decode prog_1_method_20_code 116 = .ok (.invokevirtual 272, 3) := by decide +kernel
theorem d_X10_shard_119 : decode prog_1_method_20_code 119 = .ok (.ireturn, 1) := by decide +kernel
theorem d_X10_shard_120 : decode prog_1_method_20_code 120 = .ok (.aload_n 0, 1) := by decide +kernel
theorem d_X10_shard_121 : decode prog_1_method_20_code 121 = .ok (.getfield 18, 3) := by decide +kernel
theorem d_X10_shard_124 : decode prog_1_method_20_code 124 = .ok (.iload_n 1, 1) := by decide +kernel
theorem d_X10_shard_125 : decode prog_1_method_20_code 125 = .ok (.aaload, 1) := by decide +kernel
theorem d_X10_shard_126 : decode prog_1_method_20_code 126 = .ok (.iconst 1, 1) := by decide +kernel
theorem d_X10_shard_127 : decode prog_1_method_20_code 127 = .ok (.invokevirtual 272, 3) := by decide +kernel
theorem d_X10_shard_130 : decode prog_1_method_20_code 130 = .ok (.ireturn, 1) := by decide +kernel
theorem d_X10_shard_131 : decode prog_1_method_20_code 131 = .ok (.iconst (-1), 1) := by decide +kernel
theorem d_X10_shard_132 : decode prog_1_method_20_code 132 = .ok (.ireturn, 1) := by decide +kernel
abbrev Y_X10_replica : Yx := (⟨"TaskWeave", "replica", "(III)I"⟩, prog_1_method_21_code, 5, (some .int))
abbrev M_X10_replica : Mx := ("TaskWeave", prog_1_method_21_code, 5, false)
theorem yk_X10_replica : Yk Y_X10_replica 3 := ⟨by decide +kernel, by decide +kernel, ⟨by decide, by decide⟩, by decide +kernel, by decide, trivial⟩
theorem d_X10_replica_0 : decode prog_1_method_21_code 0 = .ok (.aload_n 0, 1) := by decide +kernel
theorem d_X10_replica_1 : decode prog_1_method_21_code 1 = .ok (.iload_n 1, 1) := by decide +kernel
theorem d_X10_replica_2 : decode prog_1_method_21_code 2 = .ok (.iload_n 2, 1) := by decide +kernel
theorem d_X10_replica_3 : decode prog_1_method_21_code 3 = .ok (.invokevirtual 202, 3) := by decide +kernel
theorem d_X10_replica_6 : decode prog_1_method_21_code 6 = .ok (.astore 4, 2) := by decide +kernel
theorem d_X10_replica_8 : decode prog_1_method_21_code 8 = .ok (.aload 4, 2) := by decide +kernel
theorem d_X10_replica_10 : decode prog_1_method_21_code 10 = .ok (.ifnonnull 5, 3) := by decide +kernel
theorem d_X10_replica_13 : decode prog_1_method_21_code 13 = .ok (.iconst (-1), 1) := by decide +kernel
theorem d_X10_replica_14 : decode prog_1_method_21_code 14 = .ok (.ireturn, 1) := by decide +kernel
theorem d_X10_replica_15 : decode prog_1_method_21_code 15 = .ok (.iload_n 3, 1) := by decide +kernel
theorem d_X10_replica_16 : decode prog_1_method_21_code 16 = .ok (.tableswitch 70 0 3 #[32, 46, 55, 64], 32) := by decide +kernel
theorem d_X10_replica_48 : decode prog_1_method_21_code 48 = .ok (.aload 4, 2) := by decide +kernel
theorem d_X10_replica_50 : decode prog_1_method_21_code 50 = .ok (.getfield 206, 3) := by decide +kernel
theorem d_X10_replica_53 : decode prog_1_method_21_code 53 = .ok (.ifCond .eq 7, 3) := by decide +kernel
theorem d_X10_replica_56 : decode prog_1_method_21_code 56 = .ok (.iconst 1, 1) := by decide +kernel
theorem d_X10_replica_57 : decode prog_1_method_21_code 57 = .ok (.goto 4, 3) := by decide +kernel
theorem d_X10_replica_60 : decode prog_1_method_21_code 60 = .ok (.iconst 0, 1) := by decide +kernel
theorem d_X10_replica_61 : decode prog_1_method_21_code 61 = .ok (.ireturn, 1) := by decide +kernel
theorem d_X10_replica_62 : decode prog_1_method_21_code 62 = .ok (.aload 4, 2) := by decide +kernel
theorem d_X10_replica_64 : decode prog_1_method_21_code 64 = .ok (.getfield 276, 3) := by decide +kernel
theorem d_X10_replica_67 : decode prog_1_method_21_code 67 = .ok (.bipush 16, 2) := by decide +kernel
theorem d_X10_replica_69 : decode prog_1_method_21_code 69 = .ok (.idiv, 1) := by decide +kernel
theorem d_X10_replica_70 : decode prog_1_method_21_code 70 = .ok (.ireturn, 1) := by decide +kernel
theorem d_X10_replica_71 : decode prog_1_method_21_code 71 = .ok (.aload 4, 2) := by decide +kernel
theorem d_X10_replica_73 : decode prog_1_method_21_code 73 = .ok (.getfield 276, 3) := by decide +kernel
theorem d_X10_replica_76 : decode prog_1_method_21_code 76 = .ok (.bipush 16, 2) := by decide +kernel
theorem d_X10_replica_78 : decode prog_1_method_21_code 78 = .ok (.irem, 1) := by decide +kernel
theorem d_X10_replica_79 : decode prog_1_method_21_code 79 = .ok (.ireturn, 1) := by decide +kernel
theorem d_X10_replica_80 : decode prog_1_method_21_code 80 = .ok (.aload 4, 2) := by decide +kernel
theorem d_X10_replica_82 : decode prog_1_method_21_code 82 = .ok (.getfield 220, 3) := by decide +kernel
theorem d_X10_replica_85 : decode prog_1_method_21_code 85 = .ok (.ireturn, 1) := by decide +kernel
theorem d_X10_replica_86 : decode prog_1_method_21_code 86 = .ok (.iconst (-1), 1) := by decide +kernel
theorem d_X10_replica_87 : decode prog_1_method_21_code 87 = .ok (.ireturn, 1) := by decide +kernel
abbrev Y_X10_disk : Yx := (⟨"TaskWeave", "disk", "(IIII)I"⟩, prog_1_method_22_code, 7, (some .int))
abbrev M_X10_disk : Mx := ("TaskWeave", prog_1_method_22_code, 7, false)
theorem yk_X10_disk : Yk Y_X10_disk 4 := ⟨by decide +kernel, by decide +kernel, ⟨by decide, by decide⟩, by decide +kernel, by decide, trivial⟩
theorem d_X10_disk_0 : decode prog_1_method_22_code 0 = .ok (.aload_n 0, 1) := by decide +kernel
theorem d_X10_disk_1 : decode prog_1_method_22_code 1 = .ok (.iload_n 1, 1) := by decide +kernel
theorem d_X10_disk_2 : decode prog_1_method_22_code 2 = .ok (.iload_n 2, 1) := by decide +kernel
theorem d_X10_disk_3 : decode prog_1_method_22_code 3 = .ok (.invokevirtual 202, 3) := by decide +kernel
theorem d_X10_disk_6 : decode prog_1_method_22_code 6 = .ok (.astore 5, 2) := by decide +kernel
theorem d_X10_disk_8 : decode prog_1_method_22_code 8 = .ok (.aload 5, 2) := by decide +kernel
theorem d_X10_disk_10 : decode prog_1_method_22_code 10 = .ok (.ifnull 20, 3) := by decide +kernel
theorem d_X10_disk_13 : decode prog_1_method_22_code 13 = .ok (.iload_n 3, 1) := by decide +kernel
theorem d_X10_disk_14 : decode prog_1_method_22_code 14 = .ok (.ifCond .lt 16, 3) := by decide +kernel
theorem d_X10_disk_17 : decode prog_1_method_22_code 17 = .ok (.iload 4, 2) := by decide +kernel
theorem d_X10_disk_19 : decode prog_1_method_22_code 19 = .ok (.ifCond .lt 11, 3) := by decide +kernel
theorem d_X10_disk_22 : decode prog_1_method_22_code 22 = .ok (.iload 4, 2) := by decide +kernel
theorem d_X10_disk_24 : decode prog_1_method_22_code 24 = .ok (.sipush 512, 3) := by decide +kernel
theorem d_X10_disk_27 : decode prog_1_method_22_code 27 = .ok (.if_icmp .lt 5, 3) := by decide +kernel
theorem d_X10_disk_30 : decode prog_1_method_22_code 30 = .ok (.iconst (-1), 1) := by decide +kernel
theorem d_X10_disk_31 : decode prog_1_method_22_code 31 = .ok (.ireturn, 1) := by decide +kernel
theorem d_X10_disk_32 : decode prog_1_method_22_code 32 = .ok (.aload 5, 2) := by decide +kernel
theorem d_X10_disk_34 : decode prog_1_method_22_code 34 = .ok (.getfield 276, 3) := by decide +kernel
theorem d_X10_disk_37 : decode prog_1_method_22_code 37 = .ok (.sipush 512, 3) := by decide +kernel
theorem d_X10_disk_40 : decode prog_1_method_22_code 40 = .ok (.iadd, 1) := by decide +kernel
theorem d_X10_disk_41 : decode prog_1_method_22_code 41 = .ok (.iconst 1, 1) := by decide +kernel
theorem d_X10_disk_42 : decode prog_1_method_22_code 42 = .ok (.isub, 1) := by decide +kernel
theorem d_X10_disk_43 : decode prog_1_method_22_code 43 = .ok (.sipush 512, 3) := by decide +kernel
theorem d_X10_disk_46 : decode prog_1_method_22_code 46 = .ok (.idiv, 1) := by decide +kernel
theorem d_X10_disk_47 : decode prog_1_method_22_code 47 = .ok (.istore 6, 2) := by decide +kernel
theorem d_X10_disk_49 : decode prog_1_method_22_code 49 = .ok (.iload_n 3, 1) := by decide +kernel
theorem d_X10_disk_50 : decode prog_1_method_22_code 50 = .ok (.iload 6, 2) := by decide +kernel
theorem d_X10_disk_52 : decode prog_1_method_22_code 52 = .ok (.if_icmp .ge 19, 3) := by decide +kernel
theorem d_X10_disk_55 : decode prog_1_method_22_code 55 = .ok (.aload 5, 2) := by decide +kernel
theorem d_X10_disk_57 : decode prog_1_method_22_code 57 = .ok (.iload_n 3, 1) := by decide +kernel
theorem d_X10_disk_58 : decode prog_1_method_22_code 58 = .ok (.sipush 512, 3) := by decide +kernel
theorem d_X10_disk_61 : decode prog_1_method_22_code 61 = .ok (.imul, 1) := by decide +kernel
theorem d_X10_disk_62 : decode prog_1_method_22_code 62 = .ok (.iload 4, 2) := by decide +kernel
theorem d_X10_disk_64 : decode prog_1_method_22_code 64 = .ok (.iadd, 1) := by decide +kernel
theorem d_X10_disk_65 : decode prog_1_method_22_code 65 = .ok (.invokevirtual 277, 3) := by decide +kernel
theorem d_X10_disk_68 : decode prog_1_method_22_code 68 = .ok (.goto 4, 3) := by decide +kernel
theorem d_X10_disk_71 : decode prog_1_method_22_code 71 = .ok (.iconst (-1), 1) := by decide +kernel
theorem d_X10_disk_72 : decode prog_1_method_22_code 72 = .ok (.ireturn, 1) := by decide +kernel
abbrev Y_X10_originOf : Yx := (⟨"TaskWeave", "originOf", "(II)I"⟩, prog_1_method_26_code, 2, (some .int))
abbrev M_X10_originOf : Mx := ("TaskWeave", prog_1_method_26_code, 2, false)
theorem yk_X10_originOf : Yk Y_X10_originOf 2 := ⟨by decide +kernel, by decide +kernel, ⟨by decide, by decide⟩, by decide +kernel, by decide, trivial⟩
theorem d_X10_originOf_0 : decode prog_1_method_26_code 0 = .ok (.iconst (-1), 1) := by decide +kernel
theorem d_X10_originOf_1 : decode prog_1_method_26_code 1 = .ok (.bipush 64, 2) := by decide +kernel
theorem d_X10_originOf_3 : decode prog_1_method_26_code 3 = .ok (.iload_n 0, 1) := by decide +kernel
theorem d_X10_originOf_4 : decode prog_1_method_26_code 4 = .ok (.imul, 1) := by decide +kernel
theorem d_X10_originOf_5 : decode prog_1_method_26_code 5 = .ok (.iload_n 1, 1) := by decide +kernel
theorem d_X10_originOf_6 : decode prog_1_method_26_code 6 = .ok (.iadd, 1) := by decide +kernel
theorem d_X10_originOf_7 : decode prog_1_method_26_code 7 = .ok (.isub, 1) := by decide +kernel
theorem d_X10_originOf_8 : decode prog_1_method_26_code 8 = .ok (.ireturn, 1) := by decide +kernel
abbrev Y_X10_recordsTried : Yx := (⟨"TaskWeave", "recordsTried", "()J"⟩, prog_1_method_27_code, 4, (some .long))
abbrev M_X10_recordsTried : Mx := ("TaskWeave", prog_1_method_27_code, 4, false)
theorem yk_X10_recordsTried : Yk Y_X10_recordsTried 0 := ⟨by decide +kernel, by decide +kernel, ⟨by decide, by decide⟩, by decide +kernel, by decide, trivial⟩
theorem d_X10_recordsTried_0 : decode prog_1_method_27_code 0 = .ok (.lconst 0, 1) := by decide +kernel
theorem d_X10_recordsTried_1 : decode prog_1_method_27_code 1 = .ok (.lstore_n 1, 1) := by decide +kernel
theorem d_X10_recordsTried_2 : decode prog_1_method_27_code 2 = .ok (.iconst 0, 1) := by decide +kernel
theorem d_X10_recordsTried_3 : decode prog_1_method_27_code 3 = .ok (.istore_n 3, 1) := by decide +kernel
theorem d_X10_recordsTried_4 : decode prog_1_method_27_code 4 = .ok (.iload_n 3, 1) := by decide +kernel
theorem d_X10_recordsTried_5 : decode prog_1_method_27_code 5 = .ok (.iconst 4, 1) := by decide +kernel
theorem d_X10_recordsTried_6 : decode prog_1_method_27_code 6 = .ok (.if_icmp .ge 21, 3) := by decide +kernel
theorem d_X10_recordsTried_9 : decode prog_1_method_27_code 9 = .ok (.lload_n 1, 1) := by decide +kernel
theorem d_X10_recordsTried_10 : decode prog_1_method_27_code 10 = .ok (.aload_n 0, 1) := by decide +kernel
theorem d_X10_recordsTried_11 : decode prog_1_method_27_code 11 = .ok (.getfield 18, 3) := by decide +kernel
theorem d_X10_recordsTried_14 : decode prog_1_method_27_code 14 = .ok (.iload_n 3, 1) := by decide +kernel
theorem d_X10_recordsTried_15 : decode prog_1_method_27_code 15 = .ok (.aaload, 1) := by decide +kernel
theorem d_X10_recordsTried_16 : decode prog_1_method_27_code 16 = .ok (.getfield 287, 3) := by decide +kernel
theorem d_X10_recordsTried_19 : decode prog_1_method_27_code 19 = .ok (.ladd, 1) := by decide +kernel
theorem d_X10_recordsTried_20 : decode prog_1_method_27_code 20 = .ok (.lstore_n 1, 1) := by decide +kernel
theorem d_X10_recordsTried_21 : decode prog_1_method_27_code 21 = .ok (.iinc 3 1, 3) := by decide +kernel
theorem d_X10_recordsTried_24 : decode prog_1_method_27_code 24 = .ok (.goto (-20), 3) := by decide +kernel
theorem d_X10_recordsTried_27 : decode prog_1_method_27_code 27 = .ok (.lload_n 1, 1) := by decide +kernel
theorem d_X10_recordsTried_28 : decode prog_1_method_27_code 28 = .ok (.lreturn, 1) := by decide +kernel
abbrev Y_X10_lastQuietTick : Yx := (⟨"TaskWeave", "lastQuietTick", "(I)I"⟩, prog_1_method_28_code, 5, (some .int))
abbrev M_X10_lastQuietTick : Mx := ("TaskWeave", prog_1_method_28_code, 5, false)
theorem yk_X10_lastQuietTick : Yk Y_X10_lastQuietTick 1 := ⟨by decide +kernel, by decide +kernel, ⟨by decide, by decide⟩, by decide +kernel, by decide, trivial⟩
theorem d_X10_lastQuietTick_0 : decode prog_1_method_28_code 0 = .ok (.iload_n 1, 1) := by decide +kernel
theorem d_X10_lastQuietTick_1 : decode prog_1_method_28_code 1 = .ok (.istore_n 2, 1) := by decide +kernel
theorem d_X10_lastQuietTick_2 : decode prog_1_method_28_code 2 = .ok (.iconst 0, 1) := by decide +kernel
theorem d_X10_lastQuietTick_3 : decode prog_1_method_28_code 3 = .ok (.istore_n 3, 1) := by decide +kernel
theorem d_X10_lastQuietTick_4 : decode prog_1_method_28_code 4 = .ok (.iload_n 3, 1) := by decide +kernel
theorem d_X10_lastQuietTick_5 : decode prog_1_method_28_code 5 = .ok (.bipush 64, 2) := by decide +kernel
theorem d_X10_lastQuietTick_7 : decode prog_1_method_28_code 7 = .ok (.if_icmp .ge 55, 3) := by decide +kernel
theorem d_X10_lastQuietTick_10 : decode prog_1_method_28_code 10 = .ok (.aload_n 0, 1) := by decide +kernel
theorem d_X10_lastQuietTick_11 : decode prog_1_method_28_code 11 = .ok (.iload_n 3, 1) := by decide +kernel
theorem d_X10_lastQuietTick_12 : decode prog_1_method_28_code 12 = .ok (.invokevirtual 111, 3) := by decide +kernel
theorem d_X10_lastQuietTick_15 : decode prog_1_method_28_code 15 = .ok (.astore 4, 2) := by decide +kernel
theorem d_X10_lastQuietTick_17 : decode prog_1_method_28_code 17 = .ok (.aload 4, 2) := by decide +kernel
theorem d_X10_lastQuietTick_19 : decode prog_1_method_28_code 19 = .ok (.ifnull 37, 3) := by decide +kernel
theorem d_X10_lastQuietTick_22 : decode prog_1_method_28_code 22 = .ok (.aload_n 0, 1) := by decide +kernel
theorem d_X10_lastQuietTick_23 : decode prog_1_method_28_code 23 = .ok (.getfield 18, 3) := by decide +kernel
theorem d_X10_lastQuietTick_26 : decode prog_1_method_28_code 26 = .ok (.iload_n 3, 1) := by decide +kernel
theorem d_X10_lastQuietTick_27 : decode prog_1_method_28_code 27 = .ok (.iconst 4, 1) := by decide +kernel
theorem d_X10_lastQuietTick_28 : decode prog_1_method_28_code 28 = .ok (.irem, 1) := by decide +kernel
theorem d_X10_lastQuietTick_29 : decode prog_1_method_28_code 29 = .ok (.aaload, 1) := by decide +kernel
theorem d_X10_lastQuietTick_30 : decode prog_1_method_28_code 30 = .ok (.invokevirtual 81, 3) := by decide +kernel
theorem d_X10_lastQuietTick_33 : decode prog_1_method_28_code 33 = .ok (.ifCond .eq 23, 3) := by decide +kernel
theorem d_X10_lastQuietTick_36 : decode prog_1_method_28_code 36 = .ok (.aload 4, 2) := by decide +kernel
theorem d_X10_lastQuietTick_38 : decode prog_1_method_28_code 38 = .ok (.invokevirtual 290, 3) := by decide +kernel
theorem d_X10_lastQuietTick_41 : decode prog_1_method_28_code 41 = .ok (.ifCond .eq 15, 3) := by decide +kernel
theorem d_X10_lastQuietTick_44 : decode prog_1_method_28_code 44 = .ok (.iload_n 2, 1) := by decide +kernel
theorem d_X10_lastQuietTick_45 : decode prog_1_method_28_code 45 = .ok (.aload 4, 2) := by decide +kernel
theorem d_X10_lastQuietTick_47 : decode prog_1_method_28_code 47 = .ok (.invokevirtual 293, 3) := by decide +kernel
theorem d_X10_lastQuietTick_50 : decode prog_1_method_28_code 50 = .ok (.iconst 1, 1) := by decide +kernel
theorem d_X10_lastQuietTick_51 : decode prog_1_method_28_code 51 = .ok (.isub, 1) := by decide +kernel
theorem d_X10_lastQuietTick_52 : decode prog_1_method_28_code 52 = .ok (.invokestatic 296, 3) := by decide +kernel
theorem d_X10_lastQuietTick_55 : decode prog_1_method_28_code 55 = .ok (.istore_n 2, 1) := by decide +kernel
theorem d_X10_lastQuietTick_56 : decode prog_1_method_28_code 56 = .ok (.iinc 3 1, 3) := by decide +kernel
theorem d_X10_lastQuietTick_59 : decode prog_1_method_28_code 59 = .ok (.goto (-55), 3) := by decide +kernel
theorem d_X10_lastQuietTick_62 : decode prog_1_method_28_code 62 = .ok (.iload_n 2, 1) := by decide +kernel
theorem d_X10_lastQuietTick_63 : decode prog_1_method_28_code 63 = .ok (.aload_n 0, 1) := by decide +kernel
theorem d_X10_lastQuietTick_64 : decode prog_1_method_28_code 64 = .ok (.getfield 31, 3) := by decide +kernel
theorem d_X10_lastQuietTick_67 : decode prog_1_method_28_code 67 = .ok (.getfield 144, 3) := by decide +kernel
theorem d_X10_lastQuietTick_70 : decode prog_1_method_28_code 70 = .ok (.invokestatic 301, 3) := by decide +kernel
theorem d_X10_lastQuietTick_73 : decode prog_1_method_28_code 73 = .ok (.ireturn, 1) := by decide +kernel
abbrev Y_X10_sendEnd : Yx := (⟨"TaskWeave", "sendEnd", "(LTaskWeave$Workflow;I)Z"⟩, prog_1_method_32_code, 7, (some .boolean))
abbrev M_X10_sendEnd : Mx := ("TaskWeave", prog_1_method_32_code, 7, false)
theorem yk_X10_sendEnd : Yk Y_X10_sendEnd 2 := ⟨by decide +kernel, by decide +kernel, ⟨by decide, by decide⟩, by decide +kernel, by decide, trivial⟩
theorem d_X10_sendEnd_0 : decode prog_1_method_32_code 0 = .ok (.aload_n 0, 1) := by decide +kernel
theorem d_X10_sendEnd_1 : decode prog_1_method_32_code 1 = .ok (.getfield 18, 3) := by decide +kernel
theorem d_X10_sendEnd_4 : decode prog_1_method_32_code 4 = .ok (.aload_n 1, 1) := by decide +kernel
theorem d_X10_sendEnd_5 : decode prog_1_method_32_code 5 = .ok (.iconst (-1), 1) := by decide +kernel
theorem d_X10_sendEnd_6 : decode prog_1_method_32_code 6 = .ok (.invokevirtual 343, 3) := by decide +kernel
theorem d_X10_sendEnd_9 : decode prog_1_method_32_code 9 = .ok (.aaload, 1) := by decide +kernel
theorem d_X10_sendEnd_10 : decode prog_1_method_32_code 10 = .ok (.astore_n 3, 1) := by decide +kernel
theorem d_X10_sendEnd_11 : decode prog_1_method_32_code 11 = .ok (.aload_n 3, 1) := by decide +kernel
theorem d_X10_sendEnd_12 : decode prog_1_method_32_code 12 = .ok (.invokevirtual 81, 3) := by decide +kernel
theorem d_X10_sendEnd_15 : decode prog_1_method_32_code 15 = .ok (.ifCond .ne 5, 3) := by decide +kernel
theorem d_X10_sendEnd_18 : decode prog_1_method_32_code 18 = .ok (.iconst 0, 1) := by decide +kernel
theorem d_X10_sendEnd_19 : decode prog_1_method_32_code 19 = .ok (.ireturn, 1) := by decide +kernel
theorem d_X10_sendEnd_20 : decode prog_1_method_32_code 20 = .ok (.aload_n 0, 1) := by decide +kernel
theorem d_X10_sendEnd_21 : decode prog_1_method_32_code 21 = .ok (.aload_n 1, 1) := by decide +kernel
theorem d_X10_sendEnd_22 : decode prog_1_method_32_code 22 = .ok (.invokevirtual 241, 3) := by decide +kernel
theorem d_X10_sendEnd_25 : decode prog_1_method_32_code 25 = .ok (.invokevirtual 111, 3) := by decide +kernel
theorem d_X10_sendEnd_28 : decode prog_1_method_32_code 28 = .ok (.astore 4, 2) := by decide +kernel
theorem d_X10_sendEnd_30 : decode prog_1_method_32_code 30 = .ok (.aload_n 1, 1) := by decide +kernel
theorem d_X10_sendEnd_31 : decode prog_1_method_32_code 31 = .ok (.invokevirtual 346, 3) := by decide +kernel
theorem d_X10_sendEnd_34 : decode prog_1_method_32_code 34 = .ok (.istore 5, 2) := by decide +kernel
theorem d_X10_sendEnd_36 : decode prog_1_method_32_code 36 = .ok (.aload 4, 2) := by decide +kernel
theorem d_X10_sendEnd_38 : decode prog_1_method_32_code 38 = .ok (.ifnull 26, 3) := by decide +kernel
theorem d_X10_sendEnd_41 : decode prog_1_method_32_code 41 = .ok (.aload 4, 2) := by decide +kernel
theorem d_X10_sendEnd_43 : decode prog_1_method_32_code 43 = .ok (.getfield 123, 3) := by decide +kernel
theorem d_X10_sendEnd_46 : decode prog_1_method_32_code 46 = .ok (.iconst 4, 1) := by decide +kernel
theorem d_X10_sendEnd_47 : decode prog_1_method_32_code 47 = .ok (.if_icmp .eq 17, 3) := by decide +kernel
theorem d_X10_sendEnd_50 : decode prog_1_method_32_code 50 = .ok (.aload 4, 2) := by decide +kernel
theorem d_X10_sendEnd_52 : decode prog_1_method_32_code 52 = .ok (.getfield 114, 3) := by decide +kernel
theorem d_X10_sendEnd_55 : decode prog_1_method_32_code 55 = .ok (.iload 5, 2) := by decide +kernel
theorem d_X10_sendEnd_57 : decode prog_1_method_32_code 57 = .ok (.invokevirtual 340, 3) := by decide +kernel
theorem d_X10_sendEnd_60 : decode prog_1_method_32_code 60 = .ok (.iconst (-1), 1) := by decide +kernel
theorem d_X10_sendEnd_61 : decode prog_1_method_32_code 61 = .ok (.if_icmp .eq 5, 3) := by decide +kernel
theorem d_X10_sendEnd_64 : decode prog_1_method_32_code 64 = .ok (.iconst 1, 1) := by decide +kernel
theorem d_X10_sendEnd_65 : decode prog_1_method_32_code 65 = .ok (.ireturn, 1) := by decide +kernel
theorem d_X10_sendEnd_66 : decode prog_1_method_32_code 66 = .ok (.aload_n 3, 1) := by decide +kernel
theorem d_X10_sendEnd_67 : decode prog_1_method_32_code 67 = .ok (.aload 4, 2) := by decide +kernel
theorem d_X10_sendEnd_69 : decode prog_1_method_32_code 69 = .ok (.bipush 7, 2) := by decide +kernel
theorem d_X10_sendEnd_71 : decode prog_1_method_32_code 71 = .ok (.iload 5, 2) := by decide +kernel
theorem d_X10_sendEnd_73 : decode prog_1_method_32_code 73 = .ok (.aload_n 1, 1) := by decide +kernel
theorem d_X10_sendEnd_74 : decode prog_1_method_32_code 74 = .ok (.getfield 114, 3) := by decide +kernel
theorem d_X10_sendEnd_77 : decode prog_1_method_32_code 77 = .ok (.getfield 229, 3) := by decide +kernel
theorem d_X10_sendEnd_80 : decode prog_1_method_32_code 80 = .ok (.iload_n 2, 1) := by decide +kernel
theorem d_X10_sendEnd_81 : decode prog_1_method_32_code 81 = .ok (.iaload, 1) := by decide +kernel
theorem d_X10_sendEnd_82 : decode prog_1_method_32_code 82 = .ok (.iconst 0, 1) := by decide +kernel
theorem d_X10_sendEnd_83 : decode prog_1_method_32_code 83 = .ok (.invokevirtual 126, 3) := by decide +kernel
theorem d_X10_sendEnd_86 : decode prog_1_method_32_code 86 = .ok (.istore 6, 2) := by decide +kernel
theorem d_X10_sendEnd_88 : decode prog_1_method_32_code 88 = .ok (.aload_n 3, 1) := by decide +kernel
theorem d_X10_sendEnd_89 : decode prog_1_method_32_code 89 = .ok (.invokevirtual 108, 3) := by decide +kernel
theorem d_X10_sendEnd_92 : decode prog_1_method_32_code 92 = .ok (.iload 6, 2) := by decide +kernel
theorem d_X10_sendEnd_94 : decode prog_1_method_32_code 94 = .ok (.ireturn, 1) := by decide +kernel
theorem vk_9_111 : Vk "TaskWeave" 111 1 11 Y_X10_find := ⟨yk_X10_find, by decide +kernel, by decide +kernel, by decide +kernel, by decide⟩
theorem fk_9_114 : Fk "TaskWeave" 114 1002 := ⟨by decide, by decide, by decide +kernel⟩
theorem vk_9_118 : Vk "TaskWeave" 118 1 2 Y_X1_hasSignalFrom := ⟨yk_X1_hasSignalFrom, by decide +kernel, by decide +kernel, by decide +kernel, by decide⟩
theorem fk_9_123 : Fk "TaskWeave" 123 1007 := ⟨by decide, by decide, by decide +kernel⟩
theorem vk_9_126 : Vk "TaskWeave" 126 5 7 Y_X6_bring := ⟨yk_X6_bring, by decide +kernel, by decide +kernel, by decide +kernel, by decide⟩
def f_X10_signal (l0 : Nat) (l1 : Int32) (l2 : Int32) (l3 : Int32) (h : Hp) : Option (Int32 × Hp) := ck (isO (h) (l0) 11) ((f_X10_find (l0) (l2) (h)).bind (fun q1 => if (l1) < (0) then (some ((0 : Int32), q1.2)) else (if (q1.1) = 0 then (some ((0 : Int32), q1.2)) else (ck (isO (q1.2) (l0) 11) (ck (isO (q1.2) (zR (q1.2) 1103 (l0)) 26) (ck (inR ((l2) - (l2) / ((4 : Int32)) * ((4 : Int32))) (zL (q1.2) (zR (q1.2) 1103 (l0)))) (bh (zQ (q1.2) (zR (q1.2) 1103 (l0)) ((l2) - (l2) / ((4 : Int32)) * ((4 : Int32))).toNatClampNeg) (fun x8 => ck (isO (q1.2) (x8) 7) ((f_X6_works (x8) (q1.2)).bind (fun q9 => if (q9.1) = (0) then (some ((0 : Int32), q9.2)) else (ck (isO (q9.2) (q1.1) 10) (ck (isO (q9.2) (zR (q9.2) 1002 (q1.1)) 2) ((f_X1_hasSignalFrom (zR (q9.2) 1002 (q1.1)) (l1) (q9.2)).bind (fun q13 => if (q13.1) = (0) then (ck (isO (q13.2) (q1.1) 10) (if (zI (q13.2) 1007 (q1.1)) = ((4 : Int32)) then (some ((0 : Int32), q13.2)) else (ck (isO (q13.2) (x8) 7) ((f_X6_bring (x8) (q1.1) ((8 : Int32)) (l3) ((0 : Int32)) (l1) (q13.2)).bind (fun q18 => ck (isO (q18.2) (x8) 7) ((f_X6_settle (x8) (q18.2)).bind (fun q20 => ck (isB (q18.1)) (some (q18.1, q20))))))))) else (some ((1 : Int32), q13.2))))))))))))))))
theorem f_X10_signal_ok {G : Gd} {d : Nat} (hj : 7 ≤ d) : ∀ (l0 : Nat) (l1 : Int32) (l2 : Int32) (l3 : Int32) (L : List (Nat × Value)) (h : Hp) (o : (Int32 × Hp)), zlk L 0 = some (zrf (l0)) → zlk L 1 = some (.int (l1)) → zlk L 2 = some (.int (l2)) → zlk L 3 = some (.int (l3)) → f_X10_signal l0 l1 l2 l3 h = some o → Ev G M_X10_signal d 0 L [] h (Ret Y_X10_signal (some (.int o.1)) o.2) := by
  intro l0 l1 l2 l3 L h o g0 g1 g2 g3 e
  unfold f_X10_signal at e
  refine g_ald_n d_X10_signal_0 rfl g0 ?_
  refine r_iload_n d_X10_signal_1 rfl g2 ?_
  replace e := ckd e
  obtain ⟨k2, e⟩ := e
  replace e := bd e
  obtain ⟨q1, eq1, e⟩ := e
  refine g_callV d_X10_signal_2 vk_9_111 (as := [_]) rfl k2 rfl (by simp [zrf_cat, cat_int, cat_long]) (j := 2) (by omega) (c_X10_find (by omega) eq1) ?_
  refine s_ast d_X10_signal_5 (by decide) (fun L g4 gK => ?_)
  replace g0 := gK _ _ (by decide) (Or.inr (zrf_cat _)) g0
  replace g1 := gK _ _ (by decide) (Or.inr rfl) g1
  replace g2 := gK _ _ (by decide) (Or.inr rfl) g2
  replace g3 := gK _ _ (by decide) (Or.inr rfl) g3
  refine r_iload_n d_X10_signal_7 rfl g1 ?_
  refine r_if_lt d_X10_signal_8 (tgt := 16) (by decide) (fun c3 => ?_) (fun c3 => ?_)
  · replace e := (if_pos c3).symm.trans e
    refine r_iconst d_X10_signal_16 (v := (0 : Int32)) (by decide +kernel) ?_
    obtain rfl := Option.some.inj e
    exact g_iret d_X10_signal_17 rfl rfl
  · replace e := (if_neg c3).symm.trans e
    refine g_ald d_X10_signal_11 g4 ?_
    refine g_ifnonnull d_X10_signal_13 (tgt := 18) (by decide) (fun c4 => ?_) (fun c4 => ?_)
    · replace e := (if_neg c4).symm.trans e
      refine g_ald_n d_X10_signal_18 rfl g0 ?_
      replace e := ckd e
      obtain ⟨k5, e⟩ := e
      refine g_getR d_X10_signal_19 (f := 1103) k5 fk_9_18 rfl rfl ?_
      refine r_iload_n d_X10_signal_22 rfl g2 ?_
      refine r_iconst d_X10_signal_23 (v := (4 : Int32)) (by decide +kernel) ?_
      refine r_irem d_X10_signal_24 (by decide +kernel) ?_
      replace e := ckd e
      obtain ⟨k6, e⟩ := e
      replace e := ckd e
      obtain ⟨k7, e⟩ := e
      refine g_aald d_X10_signal_25 k6 (by decide) (by decide) k7 rfl ?_
      replace e := bhd e
      obtain ⟨_, rfl, e⟩ := e
      refine s_ast d_X10_signal_26 (by decide) (fun L g5 gK => ?_)
      replace g1 := gK _ _ (by decide) (Or.inr rfl) g1
      replace g3 := gK _ _ (by decide) (Or.inr rfl) g3
      replace g4 := gK _ _ (by decide) (Or.inr (zrf_cat _)) g4
      refine g_ald d_X10_signal_28 g5 ?_
      replace e := ckd e
      obtain ⟨k10, e⟩ := e
      replace e := bd e
      obtain ⟨q9, eq9, e⟩ := e
      refine g_callV d_X10_signal_30 vk_9_81 (as := []) rfl k10 rfl (by simp [zrf_cat, cat_int, cat_long]) (j := 1) (by omega) (c_X6_works (by omega) eq9) ?_
      refine r_if_ne d_X10_signal_33 (tgt := 38) (by decide) (fun c11 => ?_) (fun c11 => ?_)
      · replace e := (if_neg c11).symm.trans e
        refine g_ald d_X10_signal_38 g4 ?_
        replace e := ckd e
        obtain ⟨k12, e⟩ := e
        refine g_getR d_X10_signal_40 (f := 1002) k12 fk_9_114 rfl rfl ?_
        refine r_iload_n d_X10_signal_43 rfl g1 ?_
        replace e := ckd e
        obtain ⟨k14, e⟩ := e
        replace e := bd e
        obtain ⟨q13, eq13, e⟩ := e
        refine g_callV d_X10_signal_44 vk_9_118 (as := [_]) rfl k14 rfl (by simp [zrf_cat, cat_int, cat_long]) (j := 1) (by omega) (c_X1_hasSignalFrom (by omega) eq13) ?_
        refine r_if_eq d_X10_signal_47 (tgt := 52) (by decide) (fun c15 => ?_) (fun c15 => ?_)
        · replace e := (if_pos c15).symm.trans e
          refine g_ald d_X10_signal_52 g4 ?_
          replace e := ckd e
          obtain ⟨k16, e⟩ := e
          refine g_getI d_X10_signal_54 (f := 1007) k16 fk_9_123 rfl rfl ?_
          refine r_iconst d_X10_signal_57 (v := (4 : Int32)) (by decide +kernel) ?_
          refine r_icmp_ne d_X10_signal_58 (tgt := 63) (by decide) (fun c17 => ?_) (fun c17 => ?_)
          · replace e := (if_neg c17).symm.trans e
            refine g_ald d_X10_signal_63 g5 ?_
            refine g_ald d_X10_signal_65 g4 ?_
            refine r_bipush d_X10_signal_67 (v := (8 : Int32)) (by decide +kernel) ?_
            refine r_iload_n d_X10_signal_69 rfl g3 ?_
            refine r_iconst d_X10_signal_70 (v := (0 : Int32)) (by decide +kernel) ?_
            refine r_iload_n d_X10_signal_71 rfl g1 ?_
            replace e := ckd e
            obtain ⟨k19, e⟩ := e
            replace e := bd e
            obtain ⟨q18, eq18, e⟩ := e
            refine g_callV d_X10_signal_72 vk_9_126 (as := [_, _, _, _, _]) rfl k19 rfl (by simp [zrf_cat, cat_int, cat_long]) (j := 6) (by omega) (c_X6_bring (by omega) eq18) ?_
            refine s_istore d_X10_signal_75 (by decide) (fun L g6 gK => ?_)
            replace g5 := gK _ _ (by decide) (Or.inr (zrf_cat _)) g5
            refine g_ald d_X10_signal_77 g5 ?_
            replace e := ckd e
            obtain ⟨k21, e⟩ := e
            replace e := bd e
            obtain ⟨q20, eq20, e⟩ := e
            refine g_callV d_X10_signal_79 vk_9_108 (as := []) rfl k21 rfl (by simp [zrf_cat, cat_int, cat_long]) (j := 6) (by omega) (c_X6_settle (by omega) eq20) ?_
            refine r_iload d_X10_signal_82 g6 ?_
            replace e := ckd e
            obtain ⟨k22, e⟩ := e
            obtain rfl := Option.some.inj e
            exact g_iret d_X10_signal_84 rfl k22
          · replace e := (if_pos c17).symm.trans e
            refine r_iconst d_X10_signal_61 (v := (0 : Int32)) (by decide +kernel) ?_
            obtain rfl := Option.some.inj e
            exact g_iret d_X10_signal_62 rfl rfl
        · replace e := (if_neg c15).symm.trans e
          refine r_iconst d_X10_signal_50 (v := (1 : Int32)) (by decide +kernel) ?_
          obtain rfl := Option.some.inj e
          exact g_iret d_X10_signal_51 rfl rfl
      · replace e := (if_pos c11).symm.trans e
        refine r_iconst d_X10_signal_36 (v := (0 : Int32)) (by decide +kernel) ?_
        obtain rfl := Option.some.inj e
        exact g_iret d_X10_signal_37 rfl rfl
    · replace e := (if_pos c4).symm.trans e
      refine r_iconst d_X10_signal_16 (v := (0 : Int32)) (by decide +kernel) ?_
      obtain rfl := Option.some.inj e
      exact g_iret d_X10_signal_17 rfl rfl

theorem c_X10_signal {G : Gd} {j : Nat} (hj : 7 ≤ j) {l0 : Nat} {l1 : Int32} {l2 : Int32} {l3 : Int32} {h : Hp} {o : (Int32 × Hp)} (e : f_X10_signal l0 l1 l2 l3 h = some o) : Cal G j Y_X10_signal [zrf (l0), .int (l1), .int (l2), .int (l3)] h (some (.int o.1)) o.2 := Cal.of (n := 0) (I := false) (by first | exact Or.inl (by decide +kernel) | exact Or.inr (by decide +kernel)) (by decide) (by simp [lg_sl, zrf_cat, cat_int, cat_long]) (f_X10_signal_ok hj _ _ _ _ _ h o (by simp [lv_args, zlk, zrf_cat, cat_int, cat_long]) (by simp [lv_args, zlk, zrf_cat, cat_int, cat_long]) (by simp [lv_args, zlk, zrf_cat, cat_int, cat_long]) (by simp [lv_args, zlk, zrf_cat, cat_int, cat_long]) e)
def f_X10_cancel (l0 : Nat) (l1 : Int32) (h : Hp) : Option (Int32 × Hp) := ck (isO (h) (l0) 11) ((f_X10_find (l0) (l1) (h)).bind (fun q1 => if (q1.1) = 0 then (some ((0 : Int32), q1.2)) else (ck (isO (q1.2) (q1.1) 10) (if (zI (q1.2) 1007 (q1.1)) = ((4 : Int32)) then (some ((0 : Int32), q1.2)) else (ck (isO (q1.2) (l0) 11) (ck (isO (q1.2) (zR (q1.2) 1103 (l0)) 26) (ck (inR ((l1) - (l1) / ((4 : Int32)) * ((4 : Int32))) (zL (q1.2) (zR (q1.2) 1103 (l0)))) (bh (zQ (q1.2) (zR (q1.2) 1103 (l0)) ((l1) - (l1) / ((4 : Int32)) * ((4 : Int32))).toNatClampNeg) (fun x9 => ck (isO (q1.2) (x9) 7) ((f_X6_works (x9) (q1.2)).bind (fun q10 => if (q10.1) = (0) then (ck (isO (q10.2) (x9) 7) ((f_X6_settle (x9) (q10.2)).bind (fun q13 => some ((0 : Int32), q13)))) else (ck (isO (q10.2) (x9) 7) ((f_X6_bring (x9) (q1.1) ((11 : Int32)) ((-2 : Int32)) ((0 : Int32)) ((0 : Int32)) (q10.2)).bind (fun q15 => if (q15.1) = (0) then (ck (isO (q15.2) (x9) 7) ((f_X6_settle (x9) (q15.2)).bind (fun q18 => some ((0 : Int32), q18)))) else (ck (isO (q15.2) (x9) 7) ((f_X6_settle (x9) (q15.2)).bind (fun q20 => some ((1 : Int32), q20))))))))))))))))))
theorem f_X10_cancel_ok {G : Gd} {d : Nat} (hj : 7 ≤ d) : ∀ (l0 : Nat) (l1 : Int32) (L : List (Nat × Value)) (h : Hp) (o : (Int32 × Hp)), zlk L 0 = some (zrf (l0)) → zlk L 1 = some (.int (l1)) → f_X10_cancel l0 l1 h = some o → Ev G M_X10_cancel d 0 L [] h (Ret Y_X10_cancel (some (.int o.1)) o.2) := by
  intro l0 l1 L h o g0 g1 e
  unfold f_X10_cancel at e
  refine g_ald_n d_X10_cancel_0 rfl g0 ?_
  refine r_iload_n d_X10_cancel_1 rfl g1 ?_
  replace e := ckd e
  obtain ⟨k2, e⟩ := e
  replace e := bd e
  obtain ⟨q1, eq1, e⟩ := e
  refine g_callV d_X10_cancel_2 vk_9_111 (as := [_]) rfl k2 rfl (by simp [zrf_cat, cat_int, cat_long]) (j := 2) (by omega) (c_X10_find (by omega) eq1) ?_
  refine s_ast_n d_X10_cancel_5 rfl (by decide) (fun L g2 gK => ?_)
  replace g0 := gK _ _ (by decide) (Or.inr (zrf_cat _)) g0
  replace g1 := gK _ _ (by decide) (Or.inr rfl) g1
  refine g_ald_n d_X10_cancel_6 rfl g2 ?_
  refine g_ifnull d_X10_cancel_7 (tgt := 18) (by decide) (fun c3 => ?_) (fun c3 => ?_)
  · replace e := (if_pos c3).symm.trans e
    refine r_iconst d_X10_cancel_18 (v := (0 : Int32)) (by decide +kernel) ?_
    obtain rfl := Option.some.inj e
    exact g_iret d_X10_cancel_19 rfl rfl
  · replace e := (if_neg c3).symm.trans e
    refine g_ald_n d_X10_cancel_10 rfl g2 ?_
    replace e := ckd e
    obtain ⟨k4, e⟩ := e
    refine g_getI d_X10_cancel_11 (f := 1007) k4 fk_9_123 rfl rfl ?_
    refine r_iconst d_X10_cancel_14 (v := (4 : Int32)) (by decide +kernel) ?_
    refine r_icmp_ne d_X10_cancel_15 (tgt := 20) (by decide) (fun c5 => ?_) (fun c5 => ?_)
    · replace e := (if_neg c5).symm.trans e
      refine g_ald_n d_X10_cancel_20 rfl g0 ?_
      replace e := ckd e
      obtain ⟨k6, e⟩ := e
      refine g_getR d_X10_cancel_21 (f := 1103) k6 fk_9_18 rfl rfl ?_
      refine r_iload_n d_X10_cancel_24 rfl g1 ?_
      refine r_iconst d_X10_cancel_25 (v := (4 : Int32)) (by decide +kernel) ?_
      refine r_irem d_X10_cancel_26 (by decide +kernel) ?_
      replace e := ckd e
      obtain ⟨k7, e⟩ := e
      replace e := ckd e
      obtain ⟨k8, e⟩ := e
      refine g_aald d_X10_cancel_27 k7 (by decide) (by decide) k8 rfl ?_
      replace e := bhd e
      obtain ⟨_, rfl, e⟩ := e
      refine s_ast_n d_X10_cancel_28 rfl (by decide) (fun L g3 gK => ?_)
      replace g2 := gK _ _ (by decide) (Or.inr (zrf_cat _)) g2
      refine g_ald_n d_X10_cancel_29 rfl g3 ?_
      replace e := ckd e
      obtain ⟨k11, e⟩ := e
      replace e := bd e
      obtain ⟨q10, eq10, e⟩ := e
      refine g_callV d_X10_cancel_30 vk_9_81 (as := []) rfl k11 rfl (by simp [zrf_cat, cat_int, cat_long]) (j := 1) (by omega) (c_X6_works (by omega) eq10) ?_
      refine r_if_eq d_X10_cancel_33 (tgt := 54) (by decide) (fun c12 => ?_) (fun c12 => ?_)
      · replace e := (if_pos c12).symm.trans e
        refine r_iconst d_X10_cancel_54 (v := (0 : Int32)) (by decide +kernel) ?_
        refine s_istore d_X10_cancel_55 (by decide) (fun L g4 gK => ?_)
        replace g3 := gK _ _ (by decide) (Or.inr (zrf_cat _)) g3
        refine g_ald_n d_X10_cancel_57 rfl g3 ?_
        replace e := ckd e
        obtain ⟨k14, e⟩ := e
        replace e := bd e
        obtain ⟨q13, eq13, e⟩ := e
        refine g_callV d_X10_cancel_58 vk_9_108 (as := []) rfl k14 rfl (by simp [zrf_cat, cat_int, cat_long]) (j := 6) (by omega) (c_X6_settle (by omega) eq13) ?_
        refine r_iload d_X10_cancel_61 g4 ?_
        obtain rfl := Option.some.inj e
        exact g_iret d_X10_cancel_63 rfl rfl
      · replace e := (if_neg c12).symm.trans e
        refine g_ald_n d_X10_cancel_36 rfl g3 ?_
        refine g_ald_n d_X10_cancel_37 rfl g2 ?_
        refine r_bipush d_X10_cancel_38 (v := (11 : Int32)) (by decide +kernel) ?_
        refine r_bipush d_X10_cancel_40 (v := (-2 : Int32)) (by decide +kernel) ?_
        refine r_iconst d_X10_cancel_42 (v := (0 : Int32)) (by decide +kernel) ?_
        refine r_iconst d_X10_cancel_43 (v := (0 : Int32)) (by decide +kernel) ?_
        replace e := ckd e
        obtain ⟨k16, e⟩ := e
        replace e := bd e
        obtain ⟨q15, eq15, e⟩ := e
        refine g_callV d_X10_cancel_44 vk_9_126 (as := [_, _, _, _, _]) rfl k16 rfl (by simp [zrf_cat, cat_int, cat_long]) (j := 6) (by omega) (c_X6_bring (by omega) eq15) ?_
        refine r_if_eq d_X10_cancel_47 (tgt := 54) (by decide) (fun c17 => ?_) (fun c17 => ?_)
        · replace e := (if_pos c17).symm.trans e
          refine r_iconst d_X10_cancel_54 (v := (0 : Int32)) (by decide +kernel) ?_
          refine s_istore d_X10_cancel_55 (by decide) (fun L g4 gK => ?_)
          replace g3 := gK _ _ (by decide) (Or.inr (zrf_cat _)) g3
          refine g_ald_n d_X10_cancel_57 rfl g3 ?_
          replace e := ckd e
          obtain ⟨k19, e⟩ := e
          replace e := bd e
          obtain ⟨q18, eq18, e⟩ := e
          refine g_callV d_X10_cancel_58 vk_9_108 (as := []) rfl k19 rfl (by simp [zrf_cat, cat_int, cat_long]) (j := 6) (by omega) (c_X6_settle (by omega) eq18) ?_
          refine r_iload d_X10_cancel_61 g4 ?_
          obtain rfl := Option.some.inj e
          exact g_iret d_X10_cancel_63 rfl rfl
        · replace e := (if_neg c17).symm.trans e
          refine r_iconst d_X10_cancel_50 (v := (1 : Int32)) (by decide +kernel) ?_
          refine r_goto d_X10_cancel_51 (tgt := 55) (by decide) ?_
          refine s_istore d_X10_cancel_55 (by decide) (fun L g4 gK => ?_)
          replace g3 := gK _ _ (by decide) (Or.inr (zrf_cat _)) g3
          refine g_ald_n d_X10_cancel_57 rfl g3 ?_
          replace e := ckd e
          obtain ⟨k21, e⟩ := e
          replace e := bd e
          obtain ⟨q20, eq20, e⟩ := e
          refine g_callV d_X10_cancel_58 vk_9_108 (as := []) rfl k21 rfl (by simp [zrf_cat, cat_int, cat_long]) (j := 6) (by omega) (c_X6_settle (by omega) eq20) ?_
          refine r_iload d_X10_cancel_61 g4 ?_
          obtain rfl := Option.some.inj e
          exact g_iret d_X10_cancel_63 rfl rfl
    · replace e := (if_pos c5).symm.trans e
      refine r_iconst d_X10_cancel_18 (v := (0 : Int32)) (by decide +kernel) ?_
      obtain rfl := Option.some.inj e
      exact g_iret d_X10_cancel_19 rfl rfl

theorem c_X10_cancel {G : Gd} {j : Nat} (hj : 7 ≤ j) {l0 : Nat} {l1 : Int32} {h : Hp} {o : (Int32 × Hp)} (e : f_X10_cancel l0 l1 h = some o) : Cal G j Y_X10_cancel [zrf (l0), .int (l1)] h (some (.int o.1)) o.2 := Cal.of (n := 0) (I := false) (by first | exact Or.inl (by decide +kernel) | exact Or.inr (by decide +kernel)) (by decide) (by simp [lg_sl, zrf_cat, cat_int, cat_long]) (f_X10_cancel_ok hj _ _ _ h o (by simp [lv_args, zlk, zrf_cat, cat_int, cat_long]) (by simp [lv_args, zlk, zrf_cat, cat_int, cat_long]) e)
theorem fk_9_160 : Fk "TaskWeave" 160 1104 := ⟨by decide, by decide, by decide +kernel⟩
theorem fk_9_151 : Fk "TaskWeave" 151 1003 := ⟨by decide, by decide, by decide +kernel⟩
theorem fk_9_163 : Fk "TaskWeave" 163 904 := ⟨by decide, by decide, by decide +kernel⟩
theorem fk_9_144 : Fk "TaskWeave" 144 100 := ⟨by decide, by decide, by decide +kernel⟩
theorem fk_9_166 : Fk "TaskWeave" 166 905 := ⟨by decide, by decide, by decide +kernel⟩
theorem vk_9_147 : Vk "TaskWeave" 147 2 10 Y_X9_offers := ⟨yk_X9_offers, by decide +kernel, by decide +kernel, by decide +kernel, by decide⟩
theorem fk_9_155 : Fk "TaskWeave" 155 903 := ⟨by decide, by decide, by decide +kernel⟩
def f_X10_poll_89 (K4 : Nat → Int32 → Nat → Int32 → Hp → Option (Int32 × Hp)) (l0 : Nat) (l1 : Int32) (l2 : Nat) (l3 : Int32) (h : Hp) : Option (Int32 × Hp) := bh ((l3) + (1 : Int32)) (fun x32 => K4 (l0) (l1) (l2) (x32) (h))
theorem f_X10_poll_89_ok {G : Gd} {d : Nat} (K4 : Nat → Int32 → Nat → Int32 → Hp → Option (Int32 × Hp)) (hj : 3 ≤ d) (hK4 : ∀ (l0 : Nat) (l1 : Int32) (l2 : Nat) (l3 : Int32) (L : List (Nat × Value)) (h : Hp) (o : (Int32 × Hp)), zlk L 0 = some (zrf (l0)) → zlk L 1 = some (.int (l1)) → zlk L 2 = some (zrf (l2)) → zlk L 3 = some (.int (l3)) → K4 l0 l1 l2 l3 h = some o → Ev G M_X10_poll d 4 L [] h (Ret Y_X10_poll (some (.int o.1)) o.2)) : ∀ (l0 : Nat) (l1 : Int32) (l2 : Nat) (l3 : Int32) (L : List (Nat × Value)) (h : Hp) (o : (Int32 × Hp)), zlk L 0 = some (zrf (l0)) → zlk L 1 = some (.int (l1)) → zlk L 2 = some (zrf (l2)) → zlk L 3 = some (.int (l3)) → f_X10_poll_89 K4 l0 l1 l2 l3 h = some o → Ev G M_X10_poll d 89 L [] h (Ret Y_X10_poll (some (.int o.1)) o.2) := by
  intro l0 l1 l2 l3 L h o g0 g1 g2 g3 e
  unfold f_X10_poll_89 at e
  replace e := bhd e
  obtain ⟨_, rfl, e⟩ := e
  refine s_iinc d_X10_poll_89 g3 (w := (1 : Int32)) (by decide +kernel) (by decide) (fun L g3 gK => ?_)
  replace g0 := gK _ _ (by decide) (Or.inr (zrf_cat _)) g0
  replace g1 := gK _ _ (by decide) (Or.inr rfl) g1
  replace g2 := gK _ _ (by decide) (Or.inr (zrf_cat _)) g2
  refine r_goto d_X10_poll_92 (tgt := 4) (by decide) ?_
  exact hK4 _ _ _ _ _ _ _ g0 g1 g2 g3 e

def f_X10_poll_86 (K4 : Nat → Int32 → Nat → Int32 → Hp → Option (Int32 × Hp)) (l0 : Nat) (l1 : Int32) (l3 : Int32) (l4 : Nat) (h : Hp) : Option (Int32 × Hp) := f_X10_poll_89 K4 (l0) (l1) (l4) (l3) (h)
theorem f_X10_poll_86_ok {G : Gd} {d : Nat} (K4 : Nat → Int32 → Nat → Int32 → Hp → Option (Int32 × Hp)) (hj : 3 ≤ d) (hK4 : ∀ (l0 : Nat) (l1 : Int32) (l2 : Nat) (l3 : Int32) (L : List (Nat × Value)) (h : Hp) (o : (Int32 × Hp)), zlk L 0 = some (zrf (l0)) → zlk L 1 = some (.int (l1)) → zlk L 2 = some (zrf (l2)) → zlk L 3 = some (.int (l3)) → K4 l0 l1 l2 l3 h = some o → Ev G M_X10_poll d 4 L [] h (Ret Y_X10_poll (some (.int o.1)) o.2)) : ∀ (l0 : Nat) (l1 : Int32) (l3 : Int32) (l4 : Nat) (L : List (Nat × Value)) (h : Hp) (o : (Int32 × Hp)), zlk L 0 = some (zrf (l0)) → zlk L 1 = some (.int (l1)) → zlk L 3 = some (.int (l3)) → zlk L 4 = some (zrf (l4)) → f_X10_poll_86 K4 l0 l1 l3 l4 h = some o → Ev G M_X10_poll d 86 L [] h (Ret Y_X10_poll (some (.int o.1)) o.2) := by
  intro l0 l1 l3 l4 L h o g0 g1 g3 g4 e
  unfold f_X10_poll_86 at e
  refine g_ald d_X10_poll_86 g4 ?_
  refine s_ast_n d_X10_poll_88 rfl (by decide) (fun L g2 gK => ?_)
  replace g0 := gK _ _ (by decide) (Or.inr (zrf_cat _)) g0
  replace g1 := gK _ _ (by decide) (Or.inr rfl) g1
  replace g3 := gK _ _ (by decide) (Or.inr rfl) g3
  exact f_X10_poll_89_ok _ hj hK4 _ _ _ _ _ _ _ g0 g1 g2 g3 e

def f_X10_poll_57 (K4 : Nat → Int32 → Nat → Int32 → Hp → Option (Int32 × Hp)) (s0 : Int32) (l0 : Nat) (l1 : Int32) (l2 : Nat) (l3 : Int32) (l4 : Nat) (h : Hp) : Option (Int32 × Hp) := if (s0) = (0) then (f_X10_poll_89 K4 (l0) (l1) (l2) (l3) (h)) else (if (l2) = 0 then (f_X10_poll_86 K4 (l0) (l1) (l3) (l4) (h)) else (ck (isO (h) (l4) 10) (ck (isO (h) (zR (h) 1003 (l4)) 9) (ck (isO (h) (l2) 10) (ck (isO (h) (zR (h) 1003 (l2)) 9) (if (zI (h) 903 (zR (h) 1003 (l2))) ≤ (zI (h) 903 (zR (h) 1003 (l4))) then (f_X10_poll_89 K4 (l0) (l1) (l2) (l3) (h)) else (f_X10_poll_86 K4 (l0) (l1) (l3) (l4) (h))))))))
theorem f_X10_poll_57_ok {G : Gd} {d : Nat} (K4 : Nat → Int32 → Nat → Int32 → Hp → Option (Int32 × Hp)) (hj : 3 ≤ d) (hK4 : ∀ (l0 : Nat) (l1 : Int32) (l2 : Nat) (l3 : Int32) (L : List (Nat × Value)) (h : Hp) (o : (Int32 × Hp)), zlk L 0 = some (zrf (l0)) → zlk L 1 = some (.int (l1)) → zlk L 2 = some (zrf (l2)) → zlk L 3 = some (.int (l3)) → K4 l0 l1 l2 l3 h = some o → Ev G M_X10_poll d 4 L [] h (Ret Y_X10_poll (some (.int o.1)) o.2)) : ∀ (s0 : Int32) (l0 : Nat) (l1 : Int32) (l2 : Nat) (l3 : Int32) (l4 : Nat) (L : List (Nat × Value)) (h : Hp) (o : (Int32 × Hp)), zlk L 0 = some (zrf (l0)) → zlk L 1 = some (.int (l1)) → zlk L 2 = some (zrf (l2)) → zlk L 3 = some (.int (l3)) → zlk L 4 = some (zrf (l4)) → f_X10_poll_57 K4 s0 l0 l1 l2 l3 l4 h = some o → Ev G M_X10_poll d 57 L [.int (s0)] h (Ret Y_X10_poll (some (.int o.1)) o.2) := by
  intro s0 l0 l1 l2 l3 l4 L h o g0 g1 g2 g3 g4 e
  unfold f_X10_poll_57 at e
  refine s_istore d_X10_poll_57 (by decide) (fun L g5 gK => ?_)
  replace g0 := gK _ _ (by decide) (Or.inr (zrf_cat _)) g0
  replace g1 := gK _ _ (by decide) (Or.inr rfl) g1
  replace g2 := gK _ _ (by decide) (Or.inr (zrf_cat _)) g2
  replace g3 := gK _ _ (by decide) (Or.inr rfl) g3
  replace g4 := gK _ _ (by decide) (Or.inr (zrf_cat _)) g4
  refine r_iload d_X10_poll_59 g5 ?_
  refine r_if_eq d_X10_poll_61 (tgt := 89) (by decide) (fun c25 => ?_) (fun c25 => ?_)
  · replace e := (if_pos c25).symm.trans e
    exact f_X10_poll_89_ok _ hj hK4 _ _ _ _ _ _ _ g0 g1 g2 g3 e
  · replace e := (if_neg c25).symm.trans e
    refine g_ald_n d_X10_poll_64 rfl g2 ?_
    refine g_ifnull d_X10_poll_65 (tgt := 86) (by decide) (fun c26 => ?_) (fun c26 => ?_)
    · replace e := (if_pos c26).symm.trans e
      exact f_X10_poll_86_ok _ hj hK4 _ _ _ _ _ _ _ g0 g1 g3 g4 e
    · replace e := (if_neg c26).symm.trans e
      refine g_ald d_X10_poll_68 g4 ?_
      replace e := ckd e
      obtain ⟨k27, e⟩ := e
      refine g_getR d_X10_poll_70 (f := 1003) k27 fk_9_151 rfl rfl ?_
      replace e := ckd e
      obtain ⟨k28, e⟩ := e
      refine g_getI d_X10_poll_73 (f := 903) k28 fk_9_155 rfl rfl ?_
      refine g_ald_n d_X10_poll_76 rfl g2 ?_
      replace e := ckd e
      obtain ⟨k29, e⟩ := e
      refine g_getR d_X10_poll_77 (f := 1003) k29 fk_9_151 rfl rfl ?_
      replace e := ckd e
      obtain ⟨k30, e⟩ := e
      refine g_getI d_X10_poll_80 (f := 903) k30 fk_9_155 rfl rfl ?_
      refine r_icmp_ge d_X10_poll_83 (tgt := 89) (by decide) (fun c31 => ?_) (fun c31 => ?_)
      · replace e := (if_pos c31).symm.trans e
        exact f_X10_poll_89_ok _ hj hK4 _ _ _ _ _ _ _ g0 g1 g2 g3 e
      · replace e := (if_neg c31).symm.trans e
        exact f_X10_poll_86_ok _ hj hK4 _ _ _ _ _ _ _ g0 g1 g3 g4 e

def f_X10_poll_56 (K4 : Nat → Int32 → Nat → Int32 → Hp → Option (Int32 × Hp)) (l0 : Nat) (l1 : Int32) (l2 : Nat) (l3 : Int32) (l4 : Nat) (h : Hp) : Option (Int32 × Hp) := f_X10_poll_57 K4 ((0 : Int32)) (l0) (l1) (l2) (l3) (l4) (h)
theorem f_X10_poll_56_ok {G : Gd} {d : Nat} (K4 : Nat → Int32 → Nat → Int32 → Hp → Option (Int32 × Hp)) (hj : 3 ≤ d) (hK4 : ∀ (l0 : Nat) (l1 : Int32) (l2 : Nat) (l3 : Int32) (L : List (Nat × Value)) (h : Hp) (o : (Int32 × Hp)), zlk L 0 = some (zrf (l0)) → zlk L 1 = some (.int (l1)) → zlk L 2 = some (zrf (l2)) → zlk L 3 = some (.int (l3)) → K4 l0 l1 l2 l3 h = some o → Ev G M_X10_poll d 4 L [] h (Ret Y_X10_poll (some (.int o.1)) o.2)) : ∀ (l0 : Nat) (l1 : Int32) (l2 : Nat) (l3 : Int32) (l4 : Nat) (L : List (Nat × Value)) (h : Hp) (o : (Int32 × Hp)), zlk L 0 = some (zrf (l0)) → zlk L 1 = some (.int (l1)) → zlk L 2 = some (zrf (l2)) → zlk L 3 = some (.int (l3)) → zlk L 4 = some (zrf (l4)) → f_X10_poll_56 K4 l0 l1 l2 l3 l4 h = some o → Ev G M_X10_poll d 56 L [] h (Ret Y_X10_poll (some (.int o.1)) o.2) := by
  intro l0 l1 l2 l3 l4 L h o g0 g1 g2 g3 g4 e
  unfold f_X10_poll_56 at e
  refine r_iconst d_X10_poll_56 (v := (0 : Int32)) (by decide +kernel) ?_
  exact f_X10_poll_57_ok _ hj hK4 _ _ _ _ _ _ _ _ _ g0 g1 g2 g3 g4 e

def f_X10_poll_4 : Nat → Nat → Int32 → Nat → Int32 → Hp → Option (Int32 × Hp)
  | 0, _, _, _, _, _ => none
  | n + 1, l0, l1, l2, l3, h => if ((64 : Int32)) ≤ (l3) then (if (l2) = 0 then (some ((-1 : Int32), h)) else (ck (isO (h) (l0) 11) (bh (pI (h) 1104 (l0) ((zI (h) 1104 (l0)) + ((1 : Int32)))) (fun h4 => ck (isO (h4) (l2) 10) (ck (isO (h4) (zR (h4) 1003 (l2)) 9) (bh (pI (h4) 904 (zR (h4) 1003 (l2)) (zI (h4) 1104 (l0))) (fun h7 => ck (isO (h7) (zR (h7) 1101 (l0)) 1) (ck (isO (h7) (zR (h7) 1003 (l2)) 9) (bh (pI (h7) 905 (zR (h7) 1003 (l2)) ((zI (h7) 100 (zR (h7) 1101 (l0))) + ((10 : Int32)))) (fun h10 => some (zI (h10) 1104 (l0), h10))))))))))) else (ck (isO (h) (l0) 11) ((f_X10_find (l0) (l3) (h)).bind (fun q11 => if (q11.1) = 0 then (f_X10_poll_56 (f_X10_poll_4 n) (l0) (l1) (l2) (l3) (q11.1) (q11.2)) else (ck (isO (q11.2) (l0) 11) (ck (isO (q11.2) (zR (q11.2) 1103 (l0)) 26) (ck (inR ((l3) - (l3) / ((4 : Int32)) * ((4 : Int32))) (zL (q11.2) (zR (q11.2) 1103 (l0)))) (ck (isO (q11.2) (zQ (q11.2) (zR (q11.2) 1103 (l0)) ((l3) - (l3) / ((4 : Int32)) * ((4 : Int32))).toNatClampNeg) 7) ((f_X6_works (zQ (q11.2) (zR (q11.2) 1103 (l0)) ((l3) - (l3) / ((4 : Int32)) * ((4 : Int32))).toNatClampNeg) (q11.2)).bind (fun q17 => if (q17.1) = (0) then (f_X10_poll_56 (f_X10_poll_4 n) (l0) (l1) (l2) (l3) (q11.1) (q17.2)) else (ck (isO (q17.2) (l0) 11) (ck (isO (q17.2) (zR (q17.2) 1101 (l0)) 1) (ck (isO (q17.2) (q11.1) 10) ((f_X9_offers (q11.1) (l1) (zI (q17.2) 100 (zR (q17.2) 1101 (l0))) (q17.2)).bind (fun q22 => if (q22.1) = (0) then (f_X10_poll_56 (f_X10_poll_4 n) (l0) (l1) (l2) (l3) (q11.1) (q22.2)) else (f_X10_poll_57 (f_X10_poll_4 n) ((1 : Int32)) (l0) (l1) (l2) (l3) (q11.1) (q22.2))))))))))))))))
theorem f_X10_poll_4_ok {G : Gd} {d : Nat} (hj : 3 ≤ d) : ∀ (n : Nat) (l0 : Nat) (l1 : Int32) (l2 : Nat) (l3 : Int32) (L : List (Nat × Value)) (h : Hp) (o : (Int32 × Hp)), zlk L 0 = some (zrf (l0)) → zlk L 1 = some (.int (l1)) → zlk L 2 = some (zrf (l2)) → zlk L 3 = some (.int (l3)) → f_X10_poll_4 n l0 l1 l2 l3 h = some o → Ev G M_X10_poll d 4 L [] h (Ret Y_X10_poll (some (.int o.1)) o.2) := by
  intro n
  induction n with
  | zero =>
    intro l0 l1 l2 l3 L h o g0 g1 g2 g3 e
    cases e
  | succ n ih =>
    intro l0 l1 l2 l3 L h o g0 g1 g2 g3 e
    unfold f_X10_poll_4 at e
    refine r_iload_n d_X10_poll_4 rfl g3 ?_
    refine r_bipush d_X10_poll_5 (v := (64 : Int32)) (by decide +kernel) ?_
    refine r_icmp_ge d_X10_poll_7 (tgt := 95) (by decide) (fun c1 => ?_) (fun c1 => ?_)
    · replace e := (if_pos c1).symm.trans e
      refine g_ald_n d_X10_poll_95 rfl g2 ?_
      refine g_ifnonnull d_X10_poll_96 (tgt := 101) (by decide) (fun c2 => ?_) (fun c2 => ?_)
      · replace e := (if_neg c2).symm.trans e
        refine g_ald_n d_X10_poll_101 rfl g0 ?_
        refine r_dup d_X10_poll_102 (zrf_cat _) ?_
        replace e := ckd e
        obtain ⟨k3, e⟩ := e
        refine g_getI d_X10_poll_103 (f := 1104) k3 fk_9_160 rfl rfl ?_
        refine r_iconst d_X10_poll_106 (v := (1 : Int32)) (by decide +kernel) ?_
        refine r_iadd d_X10_poll_107 ?_
        refine g_putI d_X10_poll_108 (f := 1104) k3 fk_9_160 rfl (Or.inl rfl) ⟨rfl, rfl⟩ ?_
        replace e := bhd e
        obtain ⟨_, rfl, e⟩ := e
        refine g_ald_n d_X10_poll_111 rfl g2 ?_
        replace e := ckd e
        obtain ⟨k5, e⟩ := e
        refine g_getR d_X10_poll_112 (f := 1003) k5 fk_9_151 rfl rfl ?_
        refine g_ald_n d_X10_poll_115 rfl g0 ?_
        refine g_getI d_X10_poll_116 (f := 1104) (tO_pI k3) fk_9_160 rfl rfl ?_
        replace e := ckd e
        obtain ⟨k6, e⟩ := e
        refine g_putI d_X10_poll_119 (f := 904) k6 fk_9_163 rfl (Or.inl rfl) ⟨rfl, rfl⟩ ?_
        replace e := bhd e
        obtain ⟨_, rfl, e⟩ := e
        refine g_ald_n d_X10_poll_122 rfl g2 ?_
        refine g_getR d_X10_poll_123 (f := 1003) (tO_pI k5) fk_9_151 rfl rfl ?_
        refine g_ald_n d_X10_poll_126 rfl g0 ?_
        refine g_getR d_X10_poll_127 (f := 1101) (tO_pI (tO_pI k3)) fk_9_31 rfl rfl ?_
        replace e := ckd e
        obtain ⟨k8, e⟩ := e
        refine g_getI d_X10_poll_130 (f := 100) k8 fk_9_144 rfl rfl ?_
        refine r_bipush d_X10_poll_133 (v := (10 : Int32)) (by decide +kernel) ?_
        refine r_iadd d_X10_poll_135 ?_
        replace e := ckd e
        obtain ⟨k9, e⟩ := e
        refine g_putI d_X10_poll_136 (f := 905) k9 fk_9_166 rfl (Or.inl rfl) ⟨rfl, rfl⟩ ?_
        replace e := bhd e
        obtain ⟨_, rfl, e⟩ := e
        refine g_ald_n d_X10_poll_139 rfl g0 ?_
        refine g_getI d_X10_poll_140 (f := 1104) (tO_pI (tO_pI (tO_pI k3))) fk_9_160 rfl rfl ?_
        obtain rfl := Option.some.inj e
        exact g_iret d_X10_poll_143 rfl rfl
      · replace e := (if_pos c2).symm.trans e
        refine r_iconst d_X10_poll_99 (v := (-1 : Int32)) (by decide +kernel) ?_
        obtain rfl := Option.some.inj e
        exact g_iret d_X10_poll_100 rfl rfl
    · replace e := (if_neg c1).symm.trans e
      refine g_ald_n d_X10_poll_10 rfl g0 ?_
      refine r_iload_n d_X10_poll_11 rfl g3 ?_
      replace e := ckd e
      obtain ⟨k12, e⟩ := e
      replace e := bd e
      obtain ⟨q11, eq11, e⟩ := e
      refine g_callV d_X10_poll_12 vk_9_111 (as := [_]) rfl k12 rfl (by simp [zrf_cat, cat_int, cat_long]) (j := 2) (by omega) (c_X10_find (by omega) eq11) ?_
      refine s_ast d_X10_poll_15 (by decide) (fun L g4 gK => ?_)
      replace g0 := gK _ _ (by decide) (Or.inr (zrf_cat _)) g0
      replace g1 := gK _ _ (by decide) (Or.inr rfl) g1
      replace g2 := gK _ _ (by decide) (Or.inr (zrf_cat _)) g2
      replace g3 := gK _ _ (by decide) (Or.inr rfl) g3
      refine g_ald d_X10_poll_17 g4 ?_
      refine g_ifnull d_X10_poll_19 (tgt := 56) (by decide) (fun c13 => ?_) (fun c13 => ?_)
      · replace e := (if_pos c13).symm.trans e
        exact f_X10_poll_56_ok _ hj ih _ _ _ _ _ _ _ _ g0 g1 g2 g3 g4 e
      · replace e := (if_neg c13).symm.trans e
        refine g_ald_n d_X10_poll_22 rfl g0 ?_
        replace e := ckd e
        obtain ⟨k14, e⟩ := e
        refine g_getR d_X10_poll_23 (f := 1103) k14 fk_9_18 rfl rfl ?_
        refine r_iload_n d_X10_poll_26 rfl g3 ?_
        refine r_iconst d_X10_poll_27 (v := (4 : Int32)) (by decide +kernel) ?_
        refine r_irem d_X10_poll_28 (by decide +kernel) ?_
        replace e := ckd e
        obtain ⟨k15, e⟩ := e
        replace e := ckd e
        obtain ⟨k16, e⟩ := e
        refine g_aald d_X10_poll_29 k15 (by decide) (by decide) k16 rfl ?_
        replace e := ckd e
        obtain ⟨k18, e⟩ := e
        replace e := bd e
        obtain ⟨q17, eq17, e⟩ := e
        refine g_callV d_X10_poll_30 vk_9_81 (as := []) rfl k18 rfl (by simp [zrf_cat, cat_int, cat_long]) (j := 1) (by omega) (c_X6_works (by omega) eq17) ?_
        refine r_if_eq d_X10_poll_33 (tgt := 56) (by decide) (fun c19 => ?_) (fun c19 => ?_)
        · replace e := (if_pos c19).symm.trans e
          exact f_X10_poll_56_ok _ hj ih _ _ _ _ _ _ _ _ g0 g1 g2 g3 g4 e
        · replace e := (if_neg c19).symm.trans e
          refine g_ald d_X10_poll_36 g4 ?_
          refine r_iload_n d_X10_poll_38 rfl g1 ?_
          refine g_ald_n d_X10_poll_39 rfl g0 ?_
          replace e := ckd e
          obtain ⟨k20, e⟩ := e
          refine g_getR d_X10_poll_40 (f := 1101) k20 fk_9_31 rfl rfl ?_
          replace e := ckd e
          obtain ⟨k21, e⟩ := e
          refine g_getI d_X10_poll_43 (f := 100) k21 fk_9_144 rfl rfl ?_
          replace e := ckd e
          obtain ⟨k23, e⟩ := e
          replace e := bd e
          obtain ⟨q22, eq22, e⟩ := e
          refine g_callV d_X10_poll_46 vk_9_147 (as := [_, _]) rfl k23 rfl (by simp [zrf_cat, cat_int, cat_long]) (j := 1) (by omega) (c_X9_offers (by omega) eq22) ?_
          refine r_if_eq d_X10_poll_49 (tgt := 56) (by decide) (fun c24 => ?_) (fun c24 => ?_)
          · replace e := (if_pos c24).symm.trans e
            exact f_X10_poll_56_ok _ hj ih _ _ _ _ _ _ _ _ g0 g1 g2 g3 g4 e
          · replace e := (if_neg c24).symm.trans e
            refine r_iconst d_X10_poll_52 (v := (1 : Int32)) (by decide +kernel) ?_
            refine r_goto d_X10_poll_53 (tgt := 57) (by decide) ?_
            exact f_X10_poll_57_ok _ hj ih _ _ _ _ _ _ _ _ _ g0 g1 g2 g3 g4 e

def f_X10_poll (l0 : Nat) (l1 : Int32) (h : Hp) : Option (Int32 × Hp) := f_X10_poll_4 fz (l0) (l1) (0) ((0 : Int32)) (h)
theorem f_X10_poll_ok {G : Gd} {d : Nat} (hj : 3 ≤ d) : ∀ (l0 : Nat) (l1 : Int32) (L : List (Nat × Value)) (h : Hp) (o : (Int32 × Hp)), zlk L 0 = some (zrf (l0)) → zlk L 1 = some (.int (l1)) → f_X10_poll l0 l1 h = some o → Ev G M_X10_poll d 0 L [] h (Ret Y_X10_poll (some (.int o.1)) o.2) := by
  intro l0 l1 L h o g0 g1 e
  unfold f_X10_poll at e
  refine g_null d_X10_poll_0 ?_
  refine s_ast_n d_X10_poll_1 rfl (by decide) (fun L g2 gK => ?_)
  replace g0 := gK _ _ (by decide) (Or.inr (zrf_cat _)) g0
  replace g1 := gK _ _ (by decide) (Or.inr rfl) g1
  refine r_iconst d_X10_poll_2 (v := (0 : Int32)) (by decide +kernel) ?_
  refine s_istore_n d_X10_poll_3 rfl (by decide) (fun L g3 gK => ?_)
  replace g0 := gK _ _ (by decide) (Or.inr (zrf_cat _)) g0
  replace g1 := gK _ _ (by decide) (Or.inr rfl) g1
  replace g2 := gK _ _ (by decide) (Or.inr (zrf_cat _)) g2
  exact f_X10_poll_4_ok hj _ _ _ _ _ _ _ _ g0 g1 g2 g3 e

theorem c_X10_poll {G : Gd} {j : Nat} (hj : 3 ≤ j) {l0 : Nat} {l1 : Int32} {h : Hp} {o : (Int32 × Hp)} (e : f_X10_poll l0 l1 h = some o) : Cal G j Y_X10_poll [zrf (l0), .int (l1)] h (some (.int o.1)) o.2 := Cal.of (n := 0) (I := false) (by first | exact Or.inl (by decide +kernel) | exact Or.inr (by decide +kernel)) (by decide) (by simp [lg_sl, zrf_cat, cat_int, cat_long]) (f_X10_poll_ok hj _ _ _ h o (by simp [lv_args, zlk, zrf_cat, cat_int, cat_long]) (by simp [lv_args, zlk, zrf_cat, cat_int, cat_long]) e)
def f_X10_leased_35 (K2 : Nat → Int32 → Int32 → Hp → Option (Nat × Hp)) (l0 : Nat) (l1 : Int32) (l2 : Int32) (h : Hp) : Option (Nat × Hp) := bh ((l2) + (1 : Int32)) (fun x9 => K2 (l0) (l1) (x9) (h))
theorem f_X10_leased_35_ok {G : Gd} {d : Nat} (K2 : Nat → Int32 → Int32 → Hp → Option (Nat × Hp)) (hj : 3 ≤ d) (hK2 : ∀ (l0 : Nat) (l1 : Int32) (l2 : Int32) (L : List (Nat × Value)) (h : Hp) (o : (Nat × Hp)), zlk L 0 = some (zrf (l0)) → zlk L 1 = some (.int (l1)) → zlk L 2 = some (.int (l2)) → K2 l0 l1 l2 h = some o → Ev G M_X10_leased d 2 L [] h (Ret Y_X10_leased (some (zrf o.1)) o.2)) : ∀ (l0 : Nat) (l1 : Int32) (l2 : Int32) (L : List (Nat × Value)) (h : Hp) (o : (Nat × Hp)), zlk L 0 = some (zrf (l0)) → zlk L 1 = some (.int (l1)) → zlk L 2 = some (.int (l2)) → f_X10_leased_35 K2 l0 l1 l2 h = some o → Ev G M_X10_leased d 35 L [] h (Ret Y_X10_leased (some (zrf o.1)) o.2) := by
  intro l0 l1 l2 L h o g0 g1 g2 e
  unfold f_X10_leased_35 at e
  replace e := bhd e
  obtain ⟨_, rfl, e⟩ := e
  refine s_iinc d_X10_leased_35 g2 (w := (1 : Int32)) (by decide +kernel) (by decide) (fun L g2 gK => ?_)
  replace g0 := gK _ _ (by decide) (Or.inr (zrf_cat _)) g0
  replace g1 := gK _ _ (by decide) (Or.inr rfl) g1
  refine r_goto d_X10_leased_38 (tgt := 2) (by decide) ?_
  exact hK2 _ _ _ _ _ _ g0 g1 g2 e

def f_X10_leased_2 : Nat → Nat → Int32 → Int32 → Hp → Option (Nat × Hp)
  | 0, _, _, _, _ => none
  | n + 1, l0, l1, l2, h => if ((64 : Int32)) ≤ (l2) then (some (0, h)) else (if (l1) ≤ (0) then (some (0, h)) else (ck (isO (h) (l0) 11) ((f_X10_find (l0) (l2) (h)).bind (fun q3 => if (q3.1) = 0 then (f_X10_leased_35 (f_X10_leased_2 n) (l0) (l1) (l2) (q3.2)) else (ck (isO (q3.2) (q3.1) 10) (ck (isO (q3.2) (zR (q3.2) 1003 (q3.1)) 9) (if (zI (q3.2) 904 (zR (q3.2) 1003 (q3.1))) = (l1) then (some (q3.1, q3.2)) else (f_X10_leased_35 (f_X10_leased_2 n) (l0) (l1) (l2) (q3.2)))))))))
theorem f_X10_leased_2_ok {G : Gd} {d : Nat} (hj : 3 ≤ d) : ∀ (n : Nat) (l0 : Nat) (l1 : Int32) (l2 : Int32) (L : List (Nat × Value)) (h : Hp) (o : (Nat × Hp)), zlk L 0 = some (zrf (l0)) → zlk L 1 = some (.int (l1)) → zlk L 2 = some (.int (l2)) → f_X10_leased_2 n l0 l1 l2 h = some o → Ev G M_X10_leased d 2 L [] h (Ret Y_X10_leased (some (zrf o.1)) o.2) := by
  intro n
  induction n with
  | zero =>
    intro l0 l1 l2 L h o g0 g1 g2 e
    cases e
  | succ n ih =>
    intro l0 l1 l2 L h o g0 g1 g2 e
    unfold f_X10_leased_2 at e
    refine r_iload_n d_X10_leased_2 rfl g2 ?_
    refine r_bipush d_X10_leased_3 (v := (64 : Int32)) (by decide +kernel) ?_
    refine r_icmp_ge d_X10_leased_5 (tgt := 41) (by decide) (fun c1 => ?_) (fun c1 => ?_)
    · replace e := (if_pos c1).symm.trans e
      refine g_null d_X10_leased_41 ?_
      obtain rfl := Option.some.inj e
      exact g_aret d_X10_leased_42 rfl (Or.inl ⟨_, rfl⟩)
    · replace e := (if_neg c1).symm.trans e
      refine r_iload_n d_X10_leased_8 rfl g1 ?_
      refine r_if_le d_X10_leased_9 (tgt := 41) (by decide) (fun c2 => ?_) (fun c2 => ?_)
      · replace e := (if_pos c2).symm.trans e
        refine g_null d_X10_leased_41 ?_
        obtain rfl := Option.some.inj e
        exact g_aret d_X10_leased_42 rfl (Or.inl ⟨_, rfl⟩)
      · replace e := (if_neg c2).symm.trans e
        refine g_ald_n d_X10_leased_12 rfl g0 ?_
        refine r_iload_n d_X10_leased_13 rfl g2 ?_
        replace e := ckd e
        obtain ⟨k4, e⟩ := e
        replace e := bd e
        obtain ⟨q3, eq3, e⟩ := e
        refine g_callV d_X10_leased_14 vk_9_111 (as := [_]) rfl k4 rfl (by simp [zrf_cat, cat_int, cat_long]) (j := 2) (by omega) (c_X10_find (by omega) eq3) ?_
        refine s_ast_n d_X10_leased_17 rfl (by decide) (fun L g3 gK => ?_)
        replace g0 := gK _ _ (by decide) (Or.inr (zrf_cat _)) g0
        replace g1 := gK _ _ (by decide) (Or.inr rfl) g1
        replace g2 := gK _ _ (by decide) (Or.inr rfl) g2
        refine g_ald_n d_X10_leased_18 rfl g3 ?_
        refine g_ifnull d_X10_leased_19 (tgt := 35) (by decide) (fun c5 => ?_) (fun c5 => ?_)
        · replace e := (if_pos c5).symm.trans e
          exact f_X10_leased_35_ok _ hj ih _ _ _ _ _ _ g0 g1 g2 e
        · replace e := (if_neg c5).symm.trans e
          refine g_ald_n d_X10_leased_22 rfl g3 ?_
          replace e := ckd e
          obtain ⟨k6, e⟩ := e
          refine g_getR d_X10_leased_23 (f := 1003) k6 fk_9_151 rfl rfl ?_
          replace e := ckd e
          obtain ⟨k7, e⟩ := e
          refine g_getI d_X10_leased_26 (f := 904) k7 fk_9_163 rfl rfl ?_
          refine r_iload_n d_X10_leased_29 rfl g1 ?_
          refine r_icmp_ne d_X10_leased_30 (tgt := 35) (by decide) (fun c8 => ?_) (fun c8 => ?_)
          · replace e := (if_neg c8).symm.trans e
            exact f_X10_leased_35_ok _ hj ih _ _ _ _ _ _ g0 g1 g2 e
          · replace e := (if_pos c8).symm.trans e
            refine g_ald_n d_X10_leased_33 rfl g3 ?_
            obtain rfl := Option.some.inj e
            exact g_aret d_X10_leased_34 rfl (Or.inl ⟨_, rfl⟩)

def f_X10_leased (l0 : Nat) (l1 : Int32) (h : Hp) : Option (Nat × Hp) := f_X10_leased_2 fz (l0) (l1) ((0 : Int32)) (h)
theorem f_X10_leased_ok {G : Gd} {d : Nat} (hj : 3 ≤ d) : ∀ (l0 : Nat) (l1 : Int32) (L : List (Nat × Value)) (h : Hp) (o : (Nat × Hp)), zlk L 0 = some (zrf (l0)) → zlk L 1 = some (.int (l1)) → f_X10_leased l0 l1 h = some o → Ev G M_X10_leased d 0 L [] h (Ret Y_X10_leased (some (zrf o.1)) o.2) := by
  intro l0 l1 L h o g0 g1 e
  unfold f_X10_leased at e
  refine r_iconst d_X10_leased_0 (v := (0 : Int32)) (by decide +kernel) ?_
  refine s_istore_n d_X10_leased_1 rfl (by decide) (fun L g2 gK => ?_)
  replace g0 := gK _ _ (by decide) (Or.inr (zrf_cat _)) g0
  replace g1 := gK _ _ (by decide) (Or.inr rfl) g1
  exact f_X10_leased_2_ok hj _ _ _ _ _ _ _ g0 g1 g2 e

theorem c_X10_leased {G : Gd} {j : Nat} (hj : 3 ≤ j) {l0 : Nat} {l1 : Int32} {h : Hp} {o : (Nat × Hp)} (e : f_X10_leased l0 l1 h = some o) : Cal G j Y_X10_leased [zrf (l0), .int (l1)] h (some (zrf o.1)) o.2 := Cal.of (n := 0) (I := false) (by first | exact Or.inl (by decide +kernel) | exact Or.inr (by decide +kernel)) (by decide) (by simp [lg_sl, zrf_cat, cat_int, cat_long]) (f_X10_leased_ok hj _ _ _ h o (by simp [lv_args, zlk, zrf_cat, cat_int, cat_long]) (by simp [lv_args, zlk, zrf_cat, cat_int, cat_long]) e)
theorem vk_9_169 : Vk "TaskWeave" 169 1 11 Y_X10_leased := ⟨yk_X10_leased, by decide +kernel, by decide +kernel, by decide +kernel, by decide⟩
def f_X10_beat (l0 : Nat) (l1 : Int32) (h : Hp) : Option (Int32 × Hp) := ck (isO (h) (l0) 11) ((f_X10_leased (l0) (l1) (h)).bind (fun q1 => if (q1.1) = 0 then (some ((0 : Int32), q1.2)) else (ck (isO (q1.2) (q1.1) 10) (ck (isO (q1.2) (l0) 11) (ck (isO (q1.2) (zR (q1.2) 1101 (l0)) 1) (ck (isO (q1.2) (zR (q1.2) 1003 (q1.1)) 9) (bh (pI (q1.2) 905 (zR (q1.2) 1003 (q1.1)) ((zI (q1.2) 100 (zR (q1.2) 1101 (l0))) + ((10 : Int32)))) (fun h8 => some ((1 : Int32), h8)))))))))
theorem f_X10_beat_ok {G : Gd} {d : Nat} (hj : 4 ≤ d) : ∀ (l0 : Nat) (l1 : Int32) (L : List (Nat × Value)) (h : Hp) (o : (Int32 × Hp)), zlk L 0 = some (zrf (l0)) → zlk L 1 = some (.int (l1)) → f_X10_beat l0 l1 h = some o → Ev G M_X10_beat d 0 L [] h (Ret Y_X10_beat (some (.int o.1)) o.2) := by
  intro l0 l1 L h o g0 g1 e
  unfold f_X10_beat at e
  refine g_ald_n d_X10_beat_0 rfl g0 ?_
  refine r_iload_n d_X10_beat_1 rfl g1 ?_
  replace e := ckd e
  obtain ⟨k2, e⟩ := e
  replace e := bd e
  obtain ⟨q1, eq1, e⟩ := e
  refine g_callV d_X10_beat_2 vk_9_169 (as := [_]) rfl k2 rfl (by simp [zrf_cat, cat_int, cat_long]) (j := 3) (by omega) (c_X10_leased (by omega) eq1) ?_
  refine s_ast_n d_X10_beat_5 rfl (by decide) (fun L g2 gK => ?_)
  replace g0 := gK _ _ (by decide) (Or.inr (zrf_cat _)) g0
  refine g_ald_n d_X10_beat_6 rfl g2 ?_
  refine g_ifnonnull d_X10_beat_7 (tgt := 12) (by decide) (fun c3 => ?_) (fun c3 => ?_)
  · replace e := (if_neg c3).symm.trans e
    refine g_ald_n d_X10_beat_12 rfl g2 ?_
    replace e := ckd e
    obtain ⟨k4, e⟩ := e
    refine g_getR d_X10_beat_13 (f := 1003) k4 fk_9_151 rfl rfl ?_
    refine g_ald_n d_X10_beat_16 rfl g0 ?_
    replace e := ckd e
    obtain ⟨k5, e⟩ := e
    refine g_getR d_X10_beat_17 (f := 1101) k5 fk_9_31 rfl rfl ?_
    replace e := ckd e
    obtain ⟨k6, e⟩ := e
    refine g_getI d_X10_beat_20 (f := 100) k6 fk_9_144 rfl rfl ?_
    refine r_bipush d_X10_beat_23 (v := (10 : Int32)) (by decide +kernel) ?_
    refine r_iadd d_X10_beat_25 ?_
    replace e := ckd e
    obtain ⟨k7, e⟩ := e
    refine g_putI d_X10_beat_26 (f := 905) k7 fk_9_166 rfl (Or.inl rfl) ⟨rfl, rfl⟩ ?_
    replace e := bhd e
    obtain ⟨_, rfl, e⟩ := e
    refine r_iconst d_X10_beat_29 (v := (1 : Int32)) (by decide +kernel) ?_
    obtain rfl := Option.some.inj e
    exact g_iret d_X10_beat_30 rfl rfl
  · replace e := (if_pos c3).symm.trans e
    refine r_iconst d_X10_beat_10 (v := (0 : Int32)) (by decide +kernel) ?_
    obtain rfl := Option.some.inj e
    exact g_iret d_X10_beat_11 rfl rfl

theorem c_X10_beat {G : Gd} {j : Nat} (hj : 4 ≤ j) {l0 : Nat} {l1 : Int32} {h : Hp} {o : (Int32 × Hp)} (e : f_X10_beat l0 l1 h = some o) : Cal G j Y_X10_beat [zrf (l0), .int (l1)] h (some (.int o.1)) o.2 := Cal.of (n := 0) (I := false) (by first | exact Or.inl (by decide +kernel) | exact Or.inr (by decide +kernel)) (by decide) (by simp [lg_sl, zrf_cat, cat_int, cat_long]) (f_X10_beat_ok hj _ _ _ h o (by simp [lv_args, zlk, zrf_cat, cat_int, cat_long]) (by simp [lv_args, zlk, zrf_cat, cat_int, cat_long]) e)
def f_X10_finish (l0 : Nat) (l1 : Int32) (l2 : Int32) (h : Hp) : Option (Int32 × Hp) := ck (isO (h) (l0) 11) ((f_X10_leased (l0) (l1) (h)).bind (fun q1 => if (q1.1) = 0 then (some ((0 : Int32), q1.2)) else (ck (isO (q1.2) (l0) 11) (ck (isO (q1.2) (q1.1) 10) (ck (isO (q1.2) (zR (q1.2) 1103 (l0)) 26) (ck (inR ((zI (q1.2) 1000 (q1.1)) - (zI (q1.2) 1000 (q1.1)) / ((4 : Int32)) * ((4 : Int32))) (zL (q1.2) (zR (q1.2) 1103 (l0)))) (bh (zQ (q1.2) (zR (q1.2) 1103 (l0)) ((zI (q1.2) 1000 (q1.1)) - (zI (q1.2) 1000 (q1.1)) / ((4 : Int32)) * ((4 : Int32))).toNatClampNeg) (fun x8 => ck (isO (q1.2) (x8) 7) ((f_X6_bring (x8) (q1.1) ((2 : Int32)) (l2) ((0 : Int32)) ((0 : Int32)) (q1.2)).bind (fun q9 => ck (isO (q9.2) (x8) 7) ((f_X6_settle (x8) (q9.2)).bind (fun q11 => ck (isB (q9.1)) (some (q9.1, q11))))))))))))))
theorem f_X10_finish_ok {G : Gd} {d : Nat} (hj : 7 ≤ d) : ∀ (l0 : Nat) (l1 : Int32) (l2 : Int32) (L : List (Nat × Value)) (h : Hp) (o : (Int32 × Hp)), zlk L 0 = some (zrf (l0)) → zlk L 1 = some (.int (l1)) → zlk L 2 = some (.int (l2)) → f_X10_finish l0 l1 l2 h = some o → Ev G M_X10_finish d 0 L [] h (Ret Y_X10_finish (some (.int o.1)) o.2) := by
  intro l0 l1 l2 L h o g0 g1 g2 e
  unfold f_X10_finish at e
  refine g_ald_n d_X10_finish_0 rfl g0 ?_
  refine r_iload_n d_X10_finish_1 rfl g1 ?_
  replace e := ckd e
  obtain ⟨k2, e⟩ := e
  replace e := bd e
  obtain ⟨q1, eq1, e⟩ := e
  refine g_callV d_X10_finish_2 vk_9_169 (as := [_]) rfl k2 rfl (by simp [zrf_cat, cat_int, cat_long]) (j := 3) (by omega) (c_X10_leased (by omega) eq1) ?_
  refine s_ast_n d_X10_finish_5 rfl (by decide) (fun L g3 gK => ?_)
  replace g0 := gK _ _ (by decide) (Or.inr (zrf_cat _)) g0
  replace g2 := gK _ _ (by decide) (Or.inr rfl) g2
  refine g_ald_n d_X10_finish_6 rfl g3 ?_
  refine g_ifnonnull d_X10_finish_7 (tgt := 12) (by decide) (fun c3 => ?_) (fun c3 => ?_)
  · replace e := (if_neg c3).symm.trans e
    refine g_ald_n d_X10_finish_12 rfl g0 ?_
    replace e := ckd e
    obtain ⟨k4, e⟩ := e
    refine g_getR d_X10_finish_13 (f := 1103) k4 fk_9_18 rfl rfl ?_
    refine g_ald_n d_X10_finish_16 rfl g3 ?_
    replace e := ckd e
    obtain ⟨k5, e⟩ := e
    refine g_getI d_X10_finish_17 (f := 1000) k5 fk_9_89 rfl rfl ?_
    refine r_iconst d_X10_finish_20 (v := (4 : Int32)) (by decide +kernel) ?_
    refine r_irem d_X10_finish_21 (by decide +kernel) ?_
    replace e := ckd e
    obtain ⟨k6, e⟩ := e
    replace e := ckd e
    obtain ⟨k7, e⟩ := e
    refine g_aald d_X10_finish_22 k6 (by decide) (by decide) k7 rfl ?_
    replace e := bhd e
    obtain ⟨_, rfl, e⟩ := e
    refine s_ast d_X10_finish_23 (by decide) (fun L g4 gK => ?_)
    replace g2 := gK _ _ (by decide) (Or.inr rfl) g2
    replace g3 := gK _ _ (by decide) (Or.inr (zrf_cat _)) g3
    refine g_ald d_X10_finish_25 g4 ?_
    refine g_ald_n d_X10_finish_27 rfl g3 ?_
    refine r_iconst d_X10_finish_28 (v := (2 : Int32)) (by decide +kernel) ?_
    refine r_iload_n d_X10_finish_29 rfl g2 ?_
    refine r_iconst d_X10_finish_30 (v := (0 : Int32)) (by decide +kernel) ?_
    refine r_iconst d_X10_finish_31 (v := (0 : Int32)) (by decide +kernel) ?_
    replace e := ckd e
    obtain ⟨k10, e⟩ := e
    replace e := bd e
    obtain ⟨q9, eq9, e⟩ := e
    refine g_callV d_X10_finish_32 vk_9_126 (as := [_, _, _, _, _]) rfl k10 rfl (by simp [zrf_cat, cat_int, cat_long]) (j := 6) (by omega) (c_X6_bring (by omega) eq9) ?_
    refine s_istore d_X10_finish_35 (by decide) (fun L g5 gK => ?_)
    replace g4 := gK _ _ (by decide) (Or.inr (zrf_cat _)) g4
    refine g_ald d_X10_finish_37 g4 ?_
    replace e := ckd e
    obtain ⟨k12, e⟩ := e
    replace e := bd e
    obtain ⟨q11, eq11, e⟩ := e
    refine g_callV d_X10_finish_39 vk_9_108 (as := []) rfl k12 rfl (by simp [zrf_cat, cat_int, cat_long]) (j := 6) (by omega) (c_X6_settle (by omega) eq11) ?_
    refine r_iload d_X10_finish_42 g5 ?_
    replace e := ckd e
    obtain ⟨k13, e⟩ := e
    obtain rfl := Option.some.inj e
    exact g_iret d_X10_finish_44 rfl k13
  · replace e := (if_pos c3).symm.trans e
    refine r_iconst d_X10_finish_10 (v := (0 : Int32)) (by decide +kernel) ?_
    obtain rfl := Option.some.inj e
    exact g_iret d_X10_finish_11 rfl rfl

theorem c_X10_finish {G : Gd} {j : Nat} (hj : 7 ≤ j) {l0 : Nat} {l1 : Int32} {l2 : Int32} {h : Hp} {o : (Int32 × Hp)} (e : f_X10_finish l0 l1 l2 h = some o) : Cal G j Y_X10_finish [zrf (l0), .int (l1), .int (l2)] h (some (.int o.1)) o.2 := Cal.of (n := 0) (I := false) (by first | exact Or.inl (by decide +kernel) | exact Or.inr (by decide +kernel)) (by decide) (by simp [lg_sl, zrf_cat, cat_int, cat_long]) (f_X10_finish_ok hj _ _ _ _ h o (by simp [lv_args, zlk, zrf_cat, cat_int, cat_long]) (by simp [lv_args, zlk, zrf_cat, cat_int, cat_long]) (by simp [lv_args, zlk, zrf_cat, cat_int, cat_long]) e)
theorem vk_9_172 : Vk "TaskWeave" 172 1 7 Y_X6_failTask := ⟨yk_X6_failTask, by decide +kernel, by decide +kernel, by decide +kernel, by decide⟩
def f_X10_fail (l0 : Nat) (l1 : Int32) (h : Hp) : Option (Int32 × Hp) := ck (isO (h) (l0) 11) ((f_X10_leased (l0) (l1) (h)).bind (fun q1 => if (q1.1) = 0 then (some ((0 : Int32), q1.2)) else (ck (isO (q1.2) (l0) 11) (ck (isO (q1.2) (q1.1) 10) (ck (isO (q1.2) (zR (q1.2) 1103 (l0)) 26) (ck (inR ((zI (q1.2) 1000 (q1.1)) - (zI (q1.2) 1000 (q1.1)) / ((4 : Int32)) * ((4 : Int32))) (zL (q1.2) (zR (q1.2) 1103 (l0)))) (bh (zQ (q1.2) (zR (q1.2) 1103 (l0)) ((zI (q1.2) 1000 (q1.1)) - (zI (q1.2) 1000 (q1.1)) / ((4 : Int32)) * ((4 : Int32))).toNatClampNeg) (fun x8 => ck (isO (q1.2) (x8) 7) ((f_X6_failTask (x8) (q1.1) (q1.2)).bind (fun q9 => ck (isO (q9.2) (x8) 7) ((f_X6_settle (x8) (q9.2)).bind (fun q11 => ck (isB (q9.1)) (some (q9.1, q11))))))))))))))
theorem f_X10_fail_ok {G : Gd} {d : Nat} (hj : 8 ≤ d) : ∀ (l0 : Nat) (l1 : Int32) (L : List (Nat × Value)) (h : Hp) (o : (Int32 × Hp)), zlk L 0 = some (zrf (l0)) → zlk L 1 = some (.int (l1)) → f_X10_fail l0 l1 h = some o → Ev G M_X10_fail d 0 L [] h (Ret Y_X10_fail (some (.int o.1)) o.2) := by
  intro l0 l1 L h o g0 g1 e
  unfold f_X10_fail at e
  refine g_ald_n d_X10_fail_0 rfl g0 ?_
  refine r_iload_n d_X10_fail_1 rfl g1 ?_
  replace e := ckd e
  obtain ⟨k2, e⟩ := e
  replace e := bd e
  obtain ⟨q1, eq1, e⟩ := e
  refine g_callV d_X10_fail_2 vk_9_169 (as := [_]) rfl k2 rfl (by simp [zrf_cat, cat_int, cat_long]) (j := 3) (by omega) (c_X10_leased (by omega) eq1) ?_
  refine s_ast_n d_X10_fail_5 rfl (by decide) (fun L g2 gK => ?_)
  replace g0 := gK _ _ (by decide) (Or.inr (zrf_cat _)) g0
  refine g_ald_n d_X10_fail_6 rfl g2 ?_
  refine g_ifnonnull d_X10_fail_7 (tgt := 12) (by decide) (fun c3 => ?_) (fun c3 => ?_)
  · replace e := (if_neg c3).symm.trans e
    refine g_ald_n d_X10_fail_12 rfl g0 ?_
    replace e := ckd e
    obtain ⟨k4, e⟩ := e
    refine g_getR d_X10_fail_13 (f := 1103) k4 fk_9_18 rfl rfl ?_
    refine g_ald_n d_X10_fail_16 rfl g2 ?_
    replace e := ckd e
    obtain ⟨k5, e⟩ := e
    refine g_getI d_X10_fail_17 (f := 1000) k5 fk_9_89 rfl rfl ?_
    refine r_iconst d_X10_fail_20 (v := (4 : Int32)) (by decide +kernel) ?_
    refine r_irem d_X10_fail_21 (by decide +kernel) ?_
    replace e := ckd e
    obtain ⟨k6, e⟩ := e
    replace e := ckd e
    obtain ⟨k7, e⟩ := e
    refine g_aald d_X10_fail_22 k6 (by decide) (by decide) k7 rfl ?_
    replace e := bhd e
    obtain ⟨_, rfl, e⟩ := e
    refine s_ast_n d_X10_fail_23 rfl (by decide) (fun L g3 gK => ?_)
    replace g2 := gK _ _ (by decide) (Or.inr (zrf_cat _)) g2
    refine g_ald_n d_X10_fail_24 rfl g3 ?_
    refine g_ald_n d_X10_fail_25 rfl g2 ?_
    replace e := ckd e
    obtain ⟨k10, e⟩ := e
    replace e := bd e
    obtain ⟨q9, eq9, e⟩ := e
    refine g_callV d_X10_fail_26 vk_9_172 (as := [_]) rfl k10 rfl (by simp [zrf_cat, cat_int, cat_long]) (j := 7) (by omega) (c_X6_failTask (by omega) eq9) ?_
    refine s_istore d_X10_fail_29 (by decide) (fun L g4 gK => ?_)
    replace g3 := gK _ _ (by decide) (Or.inr (zrf_cat _)) g3
    refine g_ald_n d_X10_fail_31 rfl g3 ?_
    replace e := ckd e
    obtain ⟨k12, e⟩ := e
    replace e := bd e
    obtain ⟨q11, eq11, e⟩ := e
    refine g_callV d_X10_fail_32 vk_9_108 (as := []) rfl k12 rfl (by simp [zrf_cat, cat_int, cat_long]) (j := 6) (by omega) (c_X6_settle (by omega) eq11) ?_
    refine r_iload d_X10_fail_35 g4 ?_
    replace e := ckd e
    obtain ⟨k13, e⟩ := e
    obtain rfl := Option.some.inj e
    exact g_iret d_X10_fail_37 rfl k13
  · replace e := (if_pos c3).symm.trans e
    refine r_iconst d_X10_fail_10 (v := (0 : Int32)) (by decide +kernel) ?_
    obtain rfl := Option.some.inj e
    exact g_iret d_X10_fail_11 rfl rfl

theorem c_X10_fail {G : Gd} {j : Nat} (hj : 8 ≤ j) {l0 : Nat} {l1 : Int32} {h : Hp} {o : (Int32 × Hp)} (e : f_X10_fail l0 l1 h = some o) : Cal G j Y_X10_fail [zrf (l0), .int (l1)] h (some (.int o.1)) o.2 := Cal.of (n := 0) (I := false) (by first | exact Or.inl (by decide +kernel) | exact Or.inr (by decide +kernel)) (by decide) (by simp [lg_sl, zrf_cat, cat_int, cat_long]) (f_X10_fail_ok hj _ _ _ h o (by simp [lv_args, zlk, zrf_cat, cat_int, cat_long]) (by simp [lv_args, zlk, zrf_cat, cat_int, cat_long]) e)
theorem fk_9_176 : Fk "TaskWeave" 176 901 := ⟨by decide, by decide, by decide +kernel⟩
theorem fk_9_179 : Fk "TaskWeave" 179 902 := ⟨by decide, by decide, by decide +kernel⟩
def f_X10_task (l0 : Nat) (l1 : Int32) (l2 : Int32) (h : Hp) : Option (Int32 × Hp) := ck (isO (h) (l0) 11) ((f_X10_leased (l0) (l1) (h)).bind (fun q1 => if (q1.1) = 0 then (some ((-1 : Int32), q1.2)) else (if (l2) = (0 : Int32) then (ck (isO (q1.2) (q1.1) 10) (some (zI (q1.2) 1000 (q1.1), q1.2))) else (if (l2) = (1 : Int32) then (ck (isO (q1.2) (q1.1) 10) (ck (isO (q1.2) (zR (q1.2) 1003 (q1.1)) 9) (some (zI (q1.2) 901 (zR (q1.2) 1003 (q1.1)), q1.2)))) else (if (l2) = (2 : Int32) then (ck (isO (q1.2) (q1.1) 10) (ck (isO (q1.2) (zR (q1.2) 1003 (q1.1)) 9) (some (zI (q1.2) 902 (zR (q1.2) 1003 (q1.1)), q1.2)))) else (if (l2) = (3 : Int32) then (ck (isO (q1.2) (q1.1) 10) (ck (isO (q1.2) (zR (q1.2) 1003 (q1.1)) 9) (some (zI (q1.2) 905 (zR (q1.2) 1003 (q1.1)), q1.2)))) else (some ((-1 : Int32), q1.2))))))))
theorem f_X10_task_ok {G : Gd} {d : Nat} (hj : 4 ≤ d) : ∀ (l0 : Nat) (l1 : Int32) (l2 : Int32) (L : List (Nat × Value)) (h : Hp) (o : (Int32 × Hp)), zlk L 0 = some (zrf (l0)) → zlk L 1 = some (.int (l1)) → zlk L 2 = some (.int (l2)) → f_X10_task l0 l1 l2 h = some o → Ev G M_X10_task d 0 L [] h (Ret Y_X10_task (some (.int o.1)) o.2) := by
  intro l0 l1 l2 L h o g0 g1 g2 e
  unfold f_X10_task at e
  refine g_ald_n d_X10_task_0 rfl g0 ?_
  refine r_iload_n d_X10_task_1 rfl g1 ?_
  replace e := ckd e
  obtain ⟨k2, e⟩ := e
  replace e := bd e
  obtain ⟨q1, eq1, e⟩ := e
  refine g_callV d_X10_task_2 vk_9_169 (as := [_]) rfl k2 rfl (by simp [zrf_cat, cat_int, cat_long]) (j := 3) (by omega) (c_X10_leased (by omega) eq1) ?_
  refine s_ast_n d_X10_task_5 rfl (by decide) (fun L g3 gK => ?_)
  replace g2 := gK _ _ (by decide) (Or.inr rfl) g2
  refine g_ald_n d_X10_task_6 rfl g3 ?_
  refine g_ifnonnull d_X10_task_7 (tgt := 12) (by decide) (fun c3 => ?_) (fun c3 => ?_)
  · replace e := (if_neg c3).symm.trans e
    refine r_iload_n d_X10_task_12 rfl g2 ?_
    rcases ite_or e with ⟨c4, e⟩ | ⟨c4, e⟩
    · refine r_tableIn d_X10_task_13 (off := 31) (tgt := 44) (by rw [c4]; decide +kernel) (by rw [c4]; decide +kernel) (by rw [c4] <;> rfl) (by decide) ?_
      refine g_ald_n d_X10_task_44 rfl g3 ?_
      replace e := ckd e
      obtain ⟨k5, e⟩ := e
      refine g_getI d_X10_task_45 (f := 1000) k5 fk_9_89 rfl rfl ?_
      obtain rfl := Option.some.inj e
      exact g_iret d_X10_task_48 rfl rfl
    · rcases ite_or e with ⟨c6, e⟩ | ⟨c6, e⟩
      · refine r_tableIn d_X10_task_13 (off := 36) (tgt := 49) (by rw [c6]; decide +kernel) (by rw [c6]; decide +kernel) (by rw [c6] <;> rfl) (by decide) ?_
        refine g_ald_n d_X10_task_49 rfl g3 ?_
        replace e := ckd e
        obtain ⟨k7, e⟩ := e
        refine g_getR d_X10_task_50 (f := 1003) k7 fk_9_151 rfl rfl ?_
        replace e := ckd e
        obtain ⟨k8, e⟩ := e
        refine g_getI d_X10_task_53 (f := 901) k8 fk_9_176 rfl rfl ?_
        obtain rfl := Option.some.inj e
        exact g_iret d_X10_task_56 rfl rfl
      · rcases ite_or e with ⟨c9, e⟩ | ⟨c9, e⟩
        · refine r_tableIn d_X10_task_13 (off := 44) (tgt := 57) (by rw [c9]; decide +kernel) (by rw [c9]; decide +kernel) (by rw [c9] <;> rfl) (by decide) ?_
          refine g_ald_n d_X10_task_57 rfl g3 ?_
          replace e := ckd e
          obtain ⟨k10, e⟩ := e
          refine g_getR d_X10_task_58 (f := 1003) k10 fk_9_151 rfl rfl ?_
          replace e := ckd e
          obtain ⟨k11, e⟩ := e
          refine g_getI d_X10_task_61 (f := 902) k11 fk_9_179 rfl rfl ?_
          obtain rfl := Option.some.inj e
          exact g_iret d_X10_task_64 rfl rfl
        · rcases ite_or e with ⟨c12, e⟩ | ⟨c12, e⟩
          · refine r_tableIn d_X10_task_13 (off := 52) (tgt := 65) (by rw [c12]; decide +kernel) (by rw [c12]; decide +kernel) (by rw [c12] <;> rfl) (by decide) ?_
            refine g_ald_n d_X10_task_65 rfl g3 ?_
            replace e := ckd e
            obtain ⟨k13, e⟩ := e
            refine g_getR d_X10_task_66 (f := 1003) k13 fk_9_151 rfl rfl ?_
            replace e := ckd e
            obtain ⟨k14, e⟩ := e
            refine g_getI d_X10_task_69 (f := 905) k14 fk_9_166 rfl rfl ?_
            obtain rfl := Option.some.inj e
            exact g_iret d_X10_task_72 rfl rfl
          · refine r_tableOut d_X10_task_13 (tgt := 73) (by have := lv_neT (a := 0) c4 (by decide +kernel); have := lv_neT (a := 1) c6 (by decide +kernel); have := lv_neT (a := 2) c9 (by decide +kernel); have := lv_neT (a := 3) c12 (by decide +kernel); omega) (by decide) ?_
            refine r_iconst d_X10_task_73 (v := (-1 : Int32)) (by decide +kernel) ?_
            obtain rfl := Option.some.inj e
            exact g_iret d_X10_task_74 rfl rfl
  · replace e := (if_pos c3).symm.trans e
    refine r_iconst d_X10_task_10 (v := (-1 : Int32)) (by decide +kernel) ?_
    obtain rfl := Option.some.inj e
    exact g_iret d_X10_task_11 rfl rfl

theorem c_X10_task {G : Gd} {j : Nat} (hj : 4 ≤ j) {l0 : Nat} {l1 : Int32} {l2 : Int32} {h : Hp} {o : (Int32 × Hp)} (e : f_X10_task l0 l1 l2 h = some o) : Cal G j Y_X10_task [zrf (l0), .int (l1), .int (l2)] h (some (.int o.1)) o.2 := Cal.of (n := 0) (I := false) (by first | exact Or.inl (by decide +kernel) | exact Or.inr (by decide +kernel)) (by decide) (by simp [lg_sl, zrf_cat, cat_int, cat_long]) (f_X10_task_ok hj _ _ _ _ h o (by simp [lv_args, zlk, zrf_cat, cat_int, cat_long]) (by simp [lv_args, zlk, zrf_cat, cat_int, cat_long]) (by simp [lv_args, zlk, zrf_cat, cat_int, cat_long]) e)
theorem vk_9_199 : Vk "TaskWeave" 199 1 7 Y_X6_renew := ⟨yk_X6_renew, by decide +kernel, by decide +kernel, by decide +kernel, by decide⟩
def f_X10_replicas (l0 : Nat) (l1 : Int32) (l2 : Int32) (h : Hp) : Option (Int32 × Hp) := if (l1) < (0) then (some ((0 : Int32), h)) else (if ((4 : Int32)) ≤ (l1) then (some ((0 : Int32), h)) else (if (l2) < ((3 : Int32)) then (some ((0 : Int32), h)) else (if (l2) ≤ ((5 : Int32)) then (ck (isO (h) (l0) 11) (ck (isO (h) (zR (h) 1103 (l0)) 26) (ck (inR (l1) (zL (h) (zR (h) 1103 (l0)))) (ck (isO (h) (zQ (h) (zR (h) 1103 (l0)) (l1).toNatClampNeg) 7) ((f_X6_renew (zQ (h) (zR (h) 1103 (l0)) (l1).toNatClampNeg) (l2) (h)).bind (fun q8 => ck (isB (q8.1)) (some (q8.1, q8.2)))))))) else (some ((0 : Int32), h)))))
theorem f_X10_replicas_ok {G : Gd} {d : Nat} (hj : 2 ≤ d) : ∀ (l0 : Nat) (l1 : Int32) (l2 : Int32) (L : List (Nat × Value)) (h : Hp) (o : (Int32 × Hp)), zlk L 0 = some (zrf (l0)) → zlk L 1 = some (.int (l1)) → zlk L 2 = some (.int (l2)) → f_X10_replicas l0 l1 l2 h = some o → Ev G M_X10_replicas d 0 L [] h (Ret Y_X10_replicas (some (.int o.1)) o.2) := by
  intro l0 l1 l2 L h o g0 g1 g2 e
  unfold f_X10_replicas at e
  refine r_iload_n d_X10_replicas_0 rfl g1 ?_
  refine r_if_lt d_X10_replicas_1 (tgt := 19) (by decide) (fun c1 => ?_) (fun c1 => ?_)
  · replace e := (if_pos c1).symm.trans e
    refine r_iconst d_X10_replicas_19 (v := (0 : Int32)) (by decide +kernel) ?_
    obtain rfl := Option.some.inj e
    exact g_iret d_X10_replicas_20 rfl rfl
  · replace e := (if_neg c1).symm.trans e
    refine r_iload_n d_X10_replicas_4 rfl g1 ?_
    refine r_iconst d_X10_replicas_5 (v := (4 : Int32)) (by decide +kernel) ?_
    refine r_icmp_ge d_X10_replicas_6 (tgt := 19) (by decide) (fun c2 => ?_) (fun c2 => ?_)
    · replace e := (if_pos c2).symm.trans e
      refine r_iconst d_X10_replicas_19 (v := (0 : Int32)) (by decide +kernel) ?_
      obtain rfl := Option.some.inj e
      exact g_iret d_X10_replicas_20 rfl rfl
    · replace e := (if_neg c2).symm.trans e
      refine r_iload_n d_X10_replicas_9 rfl g2 ?_
      refine r_iconst d_X10_replicas_10 (v := (3 : Int32)) (by decide +kernel) ?_
      refine r_icmp_lt d_X10_replicas_11 (tgt := 19) (by decide) (fun c3 => ?_) (fun c3 => ?_)
      · replace e := (if_pos c3).symm.trans e
        refine r_iconst d_X10_replicas_19 (v := (0 : Int32)) (by decide +kernel) ?_
        obtain rfl := Option.some.inj e
        exact g_iret d_X10_replicas_20 rfl rfl
      · replace e := (if_neg c3).symm.trans e
        refine r_iload_n d_X10_replicas_14 rfl g2 ?_
        refine r_iconst d_X10_replicas_15 (v := (5 : Int32)) (by decide +kernel) ?_
        refine r_icmp_le d_X10_replicas_16 (tgt := 21) (by decide) (fun c4 => ?_) (fun c4 => ?_)
        · replace e := (if_pos c4).symm.trans e
          refine g_ald_n d_X10_replicas_21 rfl g0 ?_
          replace e := ckd e
          obtain ⟨k5, e⟩ := e
          refine g_getR d_X10_replicas_22 (f := 1103) k5 fk_9_18 rfl rfl ?_
          refine r_iload_n d_X10_replicas_25 rfl g1 ?_
          replace e := ckd e
          obtain ⟨k6, e⟩ := e
          replace e := ckd e
          obtain ⟨k7, e⟩ := e
          refine g_aald d_X10_replicas_26 k6 (by decide) (by decide) k7 rfl ?_
          refine r_iload_n d_X10_replicas_27 rfl g2 ?_
          replace e := ckd e
          obtain ⟨k9, e⟩ := e
          replace e := bd e
          obtain ⟨q8, eq8, e⟩ := e
          refine g_callV d_X10_replicas_28 vk_9_199 (as := [_]) rfl k9 rfl (by simp [zrf_cat, cat_int, cat_long]) (j := 1) (by omega) (c_X6_renew (by omega) eq8) ?_
          replace e := ckd e
          obtain ⟨k10, e⟩ := e
          obtain rfl := Option.some.inj e
          exact g_iret d_X10_replicas_31 rfl k10
        · replace e := (if_neg c4).symm.trans e
          refine r_iconst d_X10_replicas_19 (v := (0 : Int32)) (by decide +kernel) ?_
          obtain rfl := Option.some.inj e
          exact g_iret d_X10_replicas_20 rfl rfl

theorem c_X10_replicas {G : Gd} {j : Nat} (hj : 2 ≤ j) {l0 : Nat} {l1 : Int32} {l2 : Int32} {h : Hp} {o : (Int32 × Hp)} (e : f_X10_replicas l0 l1 l2 h = some o) : Cal G j Y_X10_replicas [zrf (l0), .int (l1), .int (l2)] h (some (.int o.1)) o.2 := Cal.of (n := 0) (I := false) (by first | exact Or.inl (by decide +kernel) | exact Or.inr (by decide +kernel)) (by decide) (by simp [lg_sl, zrf_cat, cat_int, cat_long]) (f_X10_replicas_ok hj _ _ _ _ h o (by simp [lv_args, zlk, zrf_cat, cat_int, cat_long]) (by simp [lv_args, zlk, zrf_cat, cat_int, cat_long]) (by simp [lv_args, zlk, zrf_cat, cat_int, cat_long]) e)
theorem fk_9_264 : Fk "TaskWeave" 264 707 := ⟨by decide, by decide, by decide +kernel⟩
theorem fk_9_283 : Fk "TaskWeave" 283 703 := ⟨by decide, by decide, by decide +kernel⟩
def f_X10_findReplica (l0 : Nat) (l1 : Int32) (l2 : Int32) (h : Hp) : Option (Nat × Hp) := if (l1) < (0) then (some (0, h)) else (if ((4 : Int32)) ≤ (l1) then (some (0, h)) else (if (l2) < (0) then (some (0, h)) else (ck (isO (h) (l0) 11) (ck (isO (h) (zR (h) 1103 (l0)) 26) (ck (inR (l1) (zL (h) (zR (h) 1103 (l0)))) (ck (isO (h) (zQ (h) (zR (h) 1103 (l0)) (l1).toNatClampNeg) 7) (if (l2) < (zI (h) 707 (zQ (h) (zR (h) 1103 (l0)) (l1).toNatClampNeg)) then (ck (isO (h) (zR (h) 703 (zQ (h) (zR (h) 1103 (l0)) (l1).toNatClampNeg)) 25) (ck (inR (l2) (zL (h) (zR (h) 703 (zQ (h) (zR (h) 1103 (l0)) (l1).toNatClampNeg)))) (some (zQ (h) (zR (h) 703 (zQ (h) (zR (h) 1103 (l0)) (l1).toNatClampNeg)) (l2).toNatClampNeg, h)))) else (some (0, h)))))))))
theorem f_X10_findReplica_ok {G : Gd} {d : Nat} (hj : 1 ≤ d) : ∀ (l0 : Nat) (l1 : Int32) (l2 : Int32) (L : List (Nat × Value)) (h : Hp) (o : (Nat × Hp)), zlk L 0 = some (zrf (l0)) → zlk L 1 = some (.int (l1)) → zlk L 2 = some (.int (l2)) → f_X10_findReplica l0 l1 l2 h = some o → Ev G M_X10_findReplica d 0 L [] h (Ret Y_X10_findReplica (some (zrf o.1)) o.2) := by
  intro l0 l1 l2 L h o g0 g1 g2 e
  unfold f_X10_findReplica at e
  refine r_iload_n d_X10_findReplica_0 rfl g1 ?_
  refine r_if_lt d_X10_findReplica_1 (tgt := 26) (by decide) (fun c1 => ?_) (fun c1 => ?_)
  · replace e := (if_pos c1).symm.trans e
    refine g_null d_X10_findReplica_26 ?_
    refine r_goto d_X10_findReplica_27 (tgt := 41) (by decide) ?_
    obtain rfl := Option.some.inj e
    exact g_aret d_X10_findReplica_41 rfl (Or.inl ⟨_, rfl⟩)
  · replace e := (if_neg c1).symm.trans e
    refine r_iload_n d_X10_findReplica_4 rfl g1 ?_
    refine r_iconst d_X10_findReplica_5 (v := (4 : Int32)) (by decide +kernel) ?_
    refine r_icmp_ge d_X10_findReplica_6 (tgt := 26) (by decide) (fun c2 => ?_) (fun c2 => ?_)
    · replace e := (if_pos c2).symm.trans e
      refine g_null d_X10_findReplica_26 ?_
      refine r_goto d_X10_findReplica_27 (tgt := 41) (by decide) ?_
      obtain rfl := Option.some.inj e
      exact g_aret d_X10_findReplica_41 rfl (Or.inl ⟨_, rfl⟩)
    · replace e := (if_neg c2).symm.trans e
      refine r_iload_n d_X10_findReplica_9 rfl g2 ?_
      refine r_if_lt d_X10_findReplica_10 (tgt := 26) (by decide) (fun c3 => ?_) (fun c3 => ?_)
      · replace e := (if_pos c3).symm.trans e
        refine g_null d_X10_findReplica_26 ?_
        refine r_goto d_X10_findReplica_27 (tgt := 41) (by decide) ?_
        obtain rfl := Option.some.inj e
        exact g_aret d_X10_findReplica_41 rfl (Or.inl ⟨_, rfl⟩)
      · replace e := (if_neg c3).symm.trans e
        refine r_iload_n d_X10_findReplica_13 rfl g2 ?_
        refine g_ald_n d_X10_findReplica_14 rfl g0 ?_
        replace e := ckd e
        obtain ⟨k4, e⟩ := e
        refine g_getR d_X10_findReplica_15 (f := 1103) k4 fk_9_18 rfl rfl ?_
        refine r_iload_n d_X10_findReplica_18 rfl g1 ?_
        replace e := ckd e
        obtain ⟨k5, e⟩ := e
        replace e := ckd e
        obtain ⟨k6, e⟩ := e
        refine g_aald d_X10_findReplica_19 k5 (by decide) (by decide) k6 rfl ?_
        replace e := ckd e
        obtain ⟨k7, e⟩ := e
        refine g_getI d_X10_findReplica_20 (f := 707) k7 fk_9_264 rfl rfl ?_
        refine r_icmp_lt d_X10_findReplica_23 (tgt := 30) (by decide) (fun c8 => ?_) (fun c8 => ?_)
        · replace e := (if_pos c8).symm.trans e
          refine g_ald_n d_X10_findReplica_30 rfl g0 ?_
          refine g_getR d_X10_findReplica_31 (f := 1103) k4 fk_9_18 rfl rfl ?_
          refine r_iload_n d_X10_findReplica_34 rfl g1 ?_
          refine g_aald d_X10_findReplica_35 k5 (by decide) (by decide) k6 rfl ?_
          refine g_getR d_X10_findReplica_36 (f := 703) k7 fk_9_283 rfl rfl ?_
          refine r_iload_n d_X10_findReplica_39 rfl g2 ?_
          replace e := ckd e
          obtain ⟨k9, e⟩ := e
          replace e := ckd e
          obtain ⟨k10, e⟩ := e
          refine g_aald d_X10_findReplica_40 k9 (by decide) (by decide) k10 rfl ?_
          obtain rfl := Option.some.inj e
          exact g_aret d_X10_findReplica_41 rfl (Or.inl ⟨_, rfl⟩)
        · replace e := (if_neg c8).symm.trans e
          refine g_null d_X10_findReplica_26 ?_
          refine r_goto d_X10_findReplica_27 (tgt := 41) (by decide) ?_
          obtain rfl := Option.some.inj e
          exact g_aret d_X10_findReplica_41 rfl (Or.inl ⟨_, rfl⟩)

theorem c_X10_findReplica {G : Gd} {j : Nat} (hj : 1 ≤ j) {l0 : Nat} {l1 : Int32} {l2 : Int32} {h : Hp} {o : (Nat × Hp)} (e : f_X10_findReplica l0 l1 l2 h = some o) : Cal G j Y_X10_findReplica [zrf (l0), .int (l1), .int (l2)] h (some (zrf o.1)) o.2 := Cal.of (n := 0) (I := false) (by first | exact Or.inl (by decide +kernel) | exact Or.inr (by decide +kernel)) (by decide) (by simp [lg_sl, zrf_cat, cat_int, cat_long]) (f_X10_findReplica_ok hj _ _ _ _ h o (by simp [lv_args, zlk, zrf_cat, cat_int, cat_long]) (by simp [lv_args, zlk, zrf_cat, cat_int, cat_long]) (by simp [lv_args, zlk, zrf_cat, cat_int, cat_long]) e)
theorem vk_9_202 : Vk "TaskWeave" 202 2 11 Y_X10_findReplica := ⟨yk_X10_findReplica, by decide +kernel, by decide +kernel, by decide +kernel, by decide⟩
theorem fk_9_206 : Fk "TaskWeave" 206 603 := ⟨by decide, by decide, by decide +kernel⟩
theorem vk_9_216 : Vk "TaskWeave" 216 1 7 Y_X6_lower := ⟨yk_X6_lower, by decide +kernel, by decide +kernel, by decide +kernel, by decide⟩
theorem vk_9_212 : Vk "TaskWeave" 212 1 7 Y_X6_raise := ⟨yk_X6_raise, by decide +kernel, by decide +kernel, by decide +kernel, by decide⟩
def f_X10_power (l0 : Nat) (l1 : Int32) (l2 : Int32) (l3 : Int32) (h : Hp) : Option (Int32 × Hp) := ck (isO (h) (l0) 11) ((f_X10_findReplica (l0) (l1) (l2) (h)).bind (fun q1 => if (q1.1) = 0 then (some ((0 : Int32), q1.2)) else (ck (isO (q1.2) (q1.1) 6) (if (zI (q1.2) 603 (q1.1)) = (l3) then (some ((0 : Int32), q1.2)) else (if (l3) = (0) then (ck (isO (q1.2) (l0) 11) (ck (isO (q1.2) (zR (q1.2) 1103 (l0)) 26) (ck (inR (l1) (zL (q1.2) (zR (q1.2) 1103 (l0)))) (ck (isO (q1.2) (zQ (q1.2) (zR (q1.2) 1103 (l0)) (l1).toNatClampNeg) 7) ((f_X6_lower (zQ (q1.2) (zR (q1.2) 1103 (l0)) (l1).toNatClampNeg) (q1.1) (q1.2)).bind (fun q10 => ck (isO (q10) (l0) 11) (ck (isO (q10) (zR (q10) 1103 (l0)) 26) (ck (inR (l1) (zL (q10) (zR (q10) 1103 (l0)))) (ck (isO (q10) (zQ (q10) (zR (q10) 1103 (l0)) (l1).toNatClampNeg) 7) ((f_X6_settle (zQ (q10) (zR (q10) 1103 (l0)) (l1).toNatClampNeg) (q10)).bind (fun q15 => some ((1 : Int32), q15)))))))))))) else (ck (isO (q1.2) (l0) 11) (ck (isO (q1.2) (zR (q1.2) 1103 (l0)) 26) (ck (inR (l1) (zL (q1.2) (zR (q1.2) 1103 (l0)))) (ck (isO (q1.2) (zQ (q1.2) (zR (q1.2) 1103 (l0)) (l1).toNatClampNeg) 7) ((f_X6_raise (zQ (q1.2) (zR (q1.2) 1103 (l0)) (l1).toNatClampNeg) (q1.1) (q1.2)).bind (fun q20 => ck (isO (q20) (l0) 11) (ck (isO (q20) (zR (q20) 1103 (l0)) 26) (ck (inR (l1) (zL (q20) (zR (q20) 1103 (l0)))) (ck (isO (q20) (zQ (q20) (zR (q20) 1103 (l0)) (l1).toNatClampNeg) 7) ((f_X6_settle (zQ (q20) (zR (q20) 1103 (l0)) (l1).toNatClampNeg) (q20)).bind (fun q25 => some ((1 : Int32), q25)))))))))))))))))
theorem f_X10_power_ok {G : Gd} {d : Nat} (hj : 7 ≤ d) : ∀ (l0 : Nat) (l1 : Int32) (l2 : Int32) (l3 : Int32) (L : List (Nat × Value)) (h : Hp) (o : (Int32 × Hp)), zlk L 0 = some (zrf (l0)) → zlk L 1 = some (.int (l1)) → zlk L 2 = some (.int (l2)) → zlk L 3 = some (.int (l3)) → f_X10_power l0 l1 l2 l3 h = some o → Ev G M_X10_power d 0 L [] h (Ret Y_X10_power (some (.int o.1)) o.2) := by
  intro l0 l1 l2 l3 L h o g0 g1 g2 g3 e
  unfold f_X10_power at e
  refine g_ald_n d_X10_power_0 rfl g0 ?_
  refine r_iload_n d_X10_power_1 rfl g1 ?_
  refine r_iload_n d_X10_power_2 rfl g2 ?_
  replace e := ckd e
  obtain ⟨k2, e⟩ := e
  replace e := bd e
  obtain ⟨q1, eq1, e⟩ := e
  refine g_callV d_X10_power_3 vk_9_202 (as := [_, _]) rfl k2 rfl (by simp [zrf_cat, cat_int, cat_long]) (j := 1) (by omega) (c_X10_findReplica (by omega) eq1) ?_
  refine s_ast d_X10_power_6 (by decide) (fun L g4 gK => ?_)
  replace g0 := gK _ _ (by decide) (Or.inr (zrf_cat _)) g0
  replace g1 := gK _ _ (by decide) (Or.inr rfl) g1
  replace g3 := gK _ _ (by decide) (Or.inr rfl) g3
  refine g_ald d_X10_power_8 g4 ?_
  refine g_ifnull d_X10_power_10 (tgt := 22) (by decide) (fun c3 => ?_) (fun c3 => ?_)
  · replace e := (if_pos c3).symm.trans e
    refine r_iconst d_X10_power_22 (v := (0 : Int32)) (by decide +kernel) ?_
    obtain rfl := Option.some.inj e
    exact g_iret d_X10_power_23 rfl rfl
  · replace e := (if_neg c3).symm.trans e
    refine g_ald d_X10_power_13 g4 ?_
    replace e := ckd e
    obtain ⟨k4, e⟩ := e
    refine g_getI d_X10_power_15 (f := 603) k4 fk_9_206 rfl rfl ?_
    refine r_iload_n d_X10_power_18 rfl g3 ?_
    refine r_icmp_ne d_X10_power_19 (tgt := 24) (by decide) (fun c5 => ?_) (fun c5 => ?_)
    · replace e := (if_neg c5).symm.trans e
      refine r_iload_n d_X10_power_24 rfl g3 ?_
      refine r_if_eq d_X10_power_25 (tgt := 42) (by decide) (fun c6 => ?_) (fun c6 => ?_)
      · replace e := (if_pos c6).symm.trans e
        refine g_ald_n d_X10_power_42 rfl g0 ?_
        replace e := ckd e
        obtain ⟨k7, e⟩ := e
        refine g_getR d_X10_power_43 (f := 1103) k7 fk_9_18 rfl rfl ?_
        refine r_iload_n d_X10_power_46 rfl g1 ?_
        replace e := ckd e
        obtain ⟨k8, e⟩ := e
        replace e := ckd e
        obtain ⟨k9, e⟩ := e
        refine g_aald d_X10_power_47 k8 (by decide) (by decide) k9 rfl ?_
        refine g_ald d_X10_power_48 g4 ?_
        replace e := ckd e
        obtain ⟨k11, e⟩ := e
        replace e := bd e
        obtain ⟨q10, eq10, e⟩ := e
        refine g_callV d_X10_power_50 vk_9_216 (as := [_]) rfl k11 rfl (by simp [zrf_cat, cat_int, cat_long]) (j := 2) (by omega) (c_X6_lower (by omega) eq10) ?_
        refine g_ald_n d_X10_power_53 rfl g0 ?_
        replace e := ckd e
        obtain ⟨k12, e⟩ := e
        refine g_getR d_X10_power_54 (f := 1103) k12 fk_9_18 rfl rfl ?_
        refine r_iload_n d_X10_power_57 rfl g1 ?_
        replace e := ckd e
        obtain ⟨k13, e⟩ := e
        replace e := ckd e
        obtain ⟨k14, e⟩ := e
        refine g_aald d_X10_power_58 k13 (by decide) (by decide) k14 rfl ?_
        replace e := ckd e
        obtain ⟨k16, e⟩ := e
        replace e := bd e
        obtain ⟨q15, eq15, e⟩ := e
        refine g_callV d_X10_power_59 vk_9_108 (as := []) rfl k16 rfl (by simp [zrf_cat, cat_int, cat_long]) (j := 6) (by omega) (c_X6_settle (by omega) eq15) ?_
        refine r_iconst d_X10_power_62 (v := (1 : Int32)) (by decide +kernel) ?_
        obtain rfl := Option.some.inj e
        exact g_iret d_X10_power_63 rfl rfl
      · replace e := (if_neg c6).symm.trans e
        refine g_ald_n d_X10_power_28 rfl g0 ?_
        replace e := ckd e
        obtain ⟨k17, e⟩ := e
        refine g_getR d_X10_power_29 (f := 1103) k17 fk_9_18 rfl rfl ?_
        refine r_iload_n d_X10_power_32 rfl g1 ?_
        replace e := ckd e
        obtain ⟨k18, e⟩ := e
        replace e := ckd e
        obtain ⟨k19, e⟩ := e
        refine g_aald d_X10_power_33 k18 (by decide) (by decide) k19 rfl ?_
        refine g_ald d_X10_power_34 g4 ?_
        replace e := ckd e
        obtain ⟨k21, e⟩ := e
        replace e := bd e
        obtain ⟨q20, eq20, e⟩ := e
        refine g_callV d_X10_power_36 vk_9_212 (as := [_]) rfl k21 rfl (by simp [zrf_cat, cat_int, cat_long]) (j := 4) (by omega) (c_X6_raise (by omega) eq20) ?_
        refine r_goto d_X10_power_39 (tgt := 53) (by decide) ?_
        refine g_ald_n d_X10_power_53 rfl g0 ?_
        replace e := ckd e
        obtain ⟨k22, e⟩ := e
        refine g_getR d_X10_power_54 (f := 1103) k22 fk_9_18 rfl rfl ?_
        refine r_iload_n d_X10_power_57 rfl g1 ?_
        replace e := ckd e
        obtain ⟨k23, e⟩ := e
        replace e := ckd e
        obtain ⟨k24, e⟩ := e
        refine g_aald d_X10_power_58 k23 (by decide) (by decide) k24 rfl ?_
        replace e := ckd e
        obtain ⟨k26, e⟩ := e
        replace e := bd e
        obtain ⟨q25, eq25, e⟩ := e
        refine g_callV d_X10_power_59 vk_9_108 (as := []) rfl k26 rfl (by simp [zrf_cat, cat_int, cat_long]) (j := 6) (by omega) (c_X6_settle (by omega) eq25) ?_
        refine r_iconst d_X10_power_62 (v := (1 : Int32)) (by decide +kernel) ?_
        obtain rfl := Option.some.inj e
        exact g_iret d_X10_power_63 rfl rfl
    · replace e := (if_pos c5).symm.trans e
      refine r_iconst d_X10_power_22 (v := (0 : Int32)) (by decide +kernel) ?_
      obtain rfl := Option.some.inj e
      exact g_iret d_X10_power_23 rfl rfl

theorem c_X10_power {G : Gd} {j : Nat} (hj : 7 ≤ j) {l0 : Nat} {l1 : Int32} {l2 : Int32} {l3 : Int32} {h : Hp} {o : (Int32 × Hp)} (e : f_X10_power l0 l1 l2 l3 h = some o) : Cal G j Y_X10_power [zrf (l0), .int (l1), .int (l2), .int (l3)] h (some (.int o.1)) o.2 := Cal.of (n := 0) (I := false) (by first | exact Or.inl (by decide +kernel) | exact Or.inr (by decide +kernel)) (by decide) (by simp [lg_sl, zrf_cat, cat_int, cat_long]) (f_X10_power_ok hj _ _ _ _ _ h o (by simp [lv_args, zlk, zrf_cat, cat_int, cat_long]) (by simp [lv_args, zlk, zrf_cat, cat_int, cat_long]) (by simp [lv_args, zlk, zrf_cat, cat_int, cat_long]) (by simp [lv_args, zlk, zrf_cat, cat_int, cat_long]) e)
theorem fk_9_220 : Fk "TaskWeave" 220 604 := ⟨by decide, by decide, by decide +kernel⟩
def f_X10_fuse (l0 : Nat) (l1 : Int32) (l2 : Int32) (l3 : Int32) (h : Hp) : Option (Int32 × Hp) := ck (isO (h) (l0) 11) ((f_X10_findReplica (l0) (l1) (l2) (h)).bind (fun q1 => if (q1.1) = 0 then (some ((0 : Int32), q1.2)) else (ck (isO (q1.2) (q1.1) 6) (if (zI (q1.2) 603 (q1.1)) = (0) then (some ((0 : Int32), q1.2)) else (if (l3) < (0) then (some ((0 : Int32), q1.2)) else (if (l3) ≤ ((100000 : Int32)) then (bh (pI (q1.2) 604 (q1.1) (l3)) (fun h8 => some ((1 : Int32), h8))) else (some ((0 : Int32), q1.2))))))))
theorem f_X10_fuse_ok {G : Gd} {d : Nat} (hj : 2 ≤ d) : ∀ (l0 : Nat) (l1 : Int32) (l2 : Int32) (l3 : Int32) (L : List (Nat × Value)) (h : Hp) (o : (Int32 × Hp)), zlk L 0 = some (zrf (l0)) → zlk L 1 = some (.int (l1)) → zlk L 2 = some (.int (l2)) → zlk L 3 = some (.int (l3)) → f_X10_fuse l0 l1 l2 l3 h = some o → Ev G M_X10_fuse d 0 L [] h (Ret Y_X10_fuse (some (.int o.1)) o.2) := by
  intro l0 l1 l2 l3 L h o g0 g1 g2 g3 e
  unfold f_X10_fuse at e
  refine g_ald_n d_X10_fuse_0 rfl g0 ?_
  refine r_iload_n d_X10_fuse_1 rfl g1 ?_
  refine r_iload_n d_X10_fuse_2 rfl g2 ?_
  replace e := ckd e
  obtain ⟨k2, e⟩ := e
  replace e := bd e
  obtain ⟨q1, eq1, e⟩ := e
  refine g_callV d_X10_fuse_3 vk_9_202 (as := [_, _]) rfl k2 rfl (by simp [zrf_cat, cat_int, cat_long]) (j := 1) (by omega) (c_X10_findReplica (by omega) eq1) ?_
  refine s_ast d_X10_fuse_6 (by decide) (fun L g4 gK => ?_)
  replace g3 := gK _ _ (by decide) (Or.inr rfl) g3
  refine g_ald d_X10_fuse_8 g4 ?_
  refine g_ifnull d_X10_fuse_10 (tgt := 31) (by decide) (fun c3 => ?_) (fun c3 => ?_)
  · replace e := (if_pos c3).symm.trans e
    refine r_iconst d_X10_fuse_31 (v := (0 : Int32)) (by decide +kernel) ?_
    obtain rfl := Option.some.inj e
    exact g_iret d_X10_fuse_32 rfl rfl
  · replace e := (if_neg c3).symm.trans e
    refine g_ald d_X10_fuse_13 g4 ?_
    replace e := ckd e
    obtain ⟨k4, e⟩ := e
    refine g_getI d_X10_fuse_15 (f := 603) k4 fk_9_206 rfl rfl ?_
    refine r_if_eq d_X10_fuse_18 (tgt := 31) (by decide) (fun c5 => ?_) (fun c5 => ?_)
    · replace e := (if_pos c5).symm.trans e
      refine r_iconst d_X10_fuse_31 (v := (0 : Int32)) (by decide +kernel) ?_
      obtain rfl := Option.some.inj e
      exact g_iret d_X10_fuse_32 rfl rfl
    · replace e := (if_neg c5).symm.trans e
      refine r_iload_n d_X10_fuse_21 rfl g3 ?_
      refine r_if_lt d_X10_fuse_22 (tgt := 31) (by decide) (fun c6 => ?_) (fun c6 => ?_)
      · replace e := (if_pos c6).symm.trans e
        refine r_iconst d_X10_fuse_31 (v := (0 : Int32)) (by decide +kernel) ?_
        obtain rfl := Option.some.inj e
        exact g_iret d_X10_fuse_32 rfl rfl
      · replace e := (if_neg c6).symm.trans e
        refine r_iload_n d_X10_fuse_25 rfl g3 ?_
        refine r_ldc d_X10_fuse_26 (v := (100000 : Int32)) (by decide +kernel) ?_
        refine r_icmp_le d_X10_fuse_28 (tgt := 33) (by decide) (fun c7 => ?_) (fun c7 => ?_)
        · replace e := (if_pos c7).symm.trans e
          refine g_ald d_X10_fuse_33 g4 ?_
          refine r_iload_n d_X10_fuse_35 rfl g3 ?_
          refine g_putI d_X10_fuse_36 (f := 604) k4 fk_9_220 rfl (Or.inl rfl) ⟨rfl, rfl⟩ ?_
          replace e := bhd e
          obtain ⟨_, rfl, e⟩ := e
          refine r_iconst d_X10_fuse_39 (v := (1 : Int32)) (by decide +kernel) ?_
          obtain rfl := Option.some.inj e
          exact g_iret d_X10_fuse_40 rfl rfl
        · replace e := (if_neg c7).symm.trans e
          refine r_iconst d_X10_fuse_31 (v := (0 : Int32)) (by decide +kernel) ?_
          obtain rfl := Option.some.inj e
          exact g_iret d_X10_fuse_32 rfl rfl

theorem c_X10_fuse {G : Gd} {j : Nat} (hj : 2 ≤ j) {l0 : Nat} {l1 : Int32} {l2 : Int32} {l3 : Int32} {h : Hp} {o : (Int32 × Hp)} (e : f_X10_fuse l0 l1 l2 l3 h = some o) : Cal G j Y_X10_fuse [zrf (l0), .int (l1), .int (l2), .int (l3)] h (some (.int o.1)) o.2 := Cal.of (n := 0) (I := false) (by first | exact Or.inl (by decide +kernel) | exact Or.inr (by decide +kernel)) (by decide) (by simp [lg_sl, zrf_cat, cat_int, cat_long]) (f_X10_fuse_ok hj _ _ _ _ _ h o (by simp [lv_args, zlk, zrf_cat, cat_int, cat_long]) (by simp [lv_args, zlk, zrf_cat, cat_int, cat_long]) (by simp [lv_args, zlk, zrf_cat, cat_int, cat_long]) (by simp [lv_args, zlk, zrf_cat, cat_int, cat_long]) e)
theorem fk_9_223 : Fk "TaskWeave" 223 1011 := ⟨by decide, by decide, by decide +kernel⟩
theorem fk_9_226 : Fk "TaskWeave" 226 204 := ⟨by decide, by decide, by decide +kernel⟩
theorem fk_9_229 : Fk "TaskWeave" 229 201 := ⟨by decide, by decide, by decide +kernel⟩
theorem fk_9_232 : Fk "TaskWeave" 232 1010 := ⟨by decide, by decide, by decide +kernel⟩
theorem vk_9_235 : Vk "TaskWeave" 235 2 2 Y_X1_count := ⟨yk_X1_count, by decide +kernel, by decide +kernel, by decide +kernel, by decide⟩
theorem fk_9_238 : Fk "TaskWeave" 238 1009 := ⟨by decide, by decide, by decide +kernel⟩
theorem vk_9_241 : Vk "TaskWeave" 241 0 10 Y_X9_parent := ⟨yk_X9_parent, by decide +kernel, by decide +kernel, by decide +kernel, by decide⟩
def f_X10_workflow (l0 : Nat) (l1 : Int32) (l2 : Int32) (h : Hp) : Option (Int32 × Hp) := ck (isO (h) (l0) 11) ((f_X10_find (l0) (l1) (h)).bind (fun q1 => if (q1.1) = 0 then (some ((-1 : Int32), q1.2)) else (if (l2) = (0 : Int32) then (ck (isO (q1.2) (q1.1) 10) (some (zI (q1.2) 1007 (q1.1), q1.2))) else (if (l2) = (1 : Int32) then (ck (isO (q1.2) (q1.1) 10) (some (zI (q1.2) 1011 (q1.1), q1.2))) else (if (l2) = (2 : Int32) then (ck (isO (q1.2) (q1.1) 10) (ck (isO (q1.2) (zR (q1.2) 1002 (q1.1)) 2) (some (zI (q1.2) 204 (zR (q1.2) 1002 (q1.1)), q1.2)))) else (if (l2) = (3 : Int32) then (ck (isO (q1.2) (q1.1) 10) (ck (isO (q1.2) (zR (q1.2) 1002 (q1.1)) 2) (ck (isO (q1.2) (zR (q1.2) 201 (zR (q1.2) 1002 (q1.1))) 22) (ck (inR ((0 : Int32)) (zL (q1.2) (zR (q1.2) 201 (zR (q1.2) 1002 (q1.1))))) (some ((zE (q1.2) (zR (q1.2) 201 (zR (q1.2) 1002 (q1.1))) ((0 : Int32)).toNatClampNeg) - (zE (q1.2) (zR (q1.2) 201 (zR (q1.2) 1002 (q1.1))) ((0 : Int32)).toNatClampNeg) / ((8 : Int32)) * ((8 : Int32)), q1.2)))))) else (if (l2) = (4 : Int32) then (ck (isO (q1.2) (q1.1) 10) (some (zI (q1.2) 1010 (q1.1), q1.2))) else (if (l2) = (5 : Int32) then (ck (isO (q1.2) (q1.1) 10) (ck (isO (q1.2) (zR (q1.2) 1002 (q1.1)) 2) ((f_X1_count (zR (q1.2) 1002 (q1.1)) ((8 : Int32)) (zI (q1.2) 204 (zR (q1.2) 1002 (q1.1))) (q1.2)).bind (fun q21 => ck (isO (q21.2) (q1.1) 10) (some ((q21.1) - (zI (q21.2) 1009 (q1.1)), q21.2)))))) else (if (l2) = (6 : Int32) then (ck (isO (q1.2) (q1.1) 10) ((f_X9_parent (q1.1) (q1.2)).bind (fun q24 => some (q24.1, q24.2)))) else (some ((-1 : Int32), q1.2)))))))))))
theorem f_X10_workflow_ok {G : Gd} {d : Nat} (hj : 3 ≤ d) : ∀ (l0 : Nat) (l1 : Int32) (l2 : Int32) (L : List (Nat × Value)) (h : Hp) (o : (Int32 × Hp)), zlk L 0 = some (zrf (l0)) → zlk L 1 = some (.int (l1)) → zlk L 2 = some (.int (l2)) → f_X10_workflow l0 l1 l2 h = some o → Ev G M_X10_workflow d 0 L [] h (Ret Y_X10_workflow (some (.int o.1)) o.2) := by
  intro l0 l1 l2 L h o g0 g1 g2 e
  unfold f_X10_workflow at e
  refine g_ald_n d_X10_workflow_0 rfl g0 ?_
  refine r_iload_n d_X10_workflow_1 rfl g1 ?_
  replace e := ckd e
  obtain ⟨k2, e⟩ := e
  replace e := bd e
  obtain ⟨q1, eq1, e⟩ := e
  refine g_callV d_X10_workflow_2 vk_9_111 (as := [_]) rfl k2 rfl (by simp [zrf_cat, cat_int, cat_long]) (j := 2) (by omega) (c_X10_find (by omega) eq1) ?_
  refine s_ast_n d_X10_workflow_5 rfl (by decide) (fun L g3 gK => ?_)
  replace g2 := gK _ _ (by decide) (Or.inr rfl) g2
  refine g_ald_n d_X10_workflow_6 rfl g3 ?_
  refine g_ifnonnull d_X10_workflow_7 (tgt := 12) (by decide) (fun c3 => ?_) (fun c3 => ?_)
  · replace e := (if_neg c3).symm.trans e
    refine r_iload_n d_X10_workflow_12 rfl g2 ?_
    rcases ite_or e with ⟨c4, e⟩ | ⟨c4, e⟩
    · refine r_tableIn d_X10_workflow_13 (off := 43) (tgt := 56) (by rw [c4]; decide +kernel) (by rw [c4]; decide +kernel) (by rw [c4] <;> rfl) (by decide) ?_
      refine g_ald_n d_X10_workflow_56 rfl g3 ?_
      replace e := ckd e
      obtain ⟨k5, e⟩ := e
      refine g_getI d_X10_workflow_57 (f := 1007) k5 fk_9_123 rfl rfl ?_
      obtain rfl := Option.some.inj e
      exact g_iret d_X10_workflow_60 rfl rfl
    · rcases ite_or e with ⟨c6, e⟩ | ⟨c6, e⟩
      · refine r_tableIn d_X10_workflow_13 (off := 48) (tgt := 61) (by rw [c6]; decide +kernel) (by rw [c6]; decide +kernel) (by rw [c6] <;> rfl) (by decide) ?_
        refine g_ald_n d_X10_workflow_61 rfl g3 ?_
        replace e := ckd e
        obtain ⟨k7, e⟩ := e
        refine g_getI d_X10_workflow_62 (f := 1011) k7 fk_9_223 rfl rfl ?_
        obtain rfl := Option.some.inj e
        exact g_iret d_X10_workflow_65 rfl rfl
      · rcases ite_or e with ⟨c8, e⟩ | ⟨c8, e⟩
        · refine r_tableIn d_X10_workflow_13 (off := 53) (tgt := 66) (by rw [c8]; decide +kernel) (by rw [c8]; decide +kernel) (by rw [c8] <;> rfl) (by decide) ?_
          refine g_ald_n d_X10_workflow_66 rfl g3 ?_
          replace e := ckd e
          obtain ⟨k9, e⟩ := e
          refine g_getR d_X10_workflow_67 (f := 1002) k9 fk_9_114 rfl rfl ?_
          replace e := ckd e
          obtain ⟨k10, e⟩ := e
          refine g_getI d_X10_workflow_70 (f := 204) k10 fk_9_226 rfl rfl ?_
          obtain rfl := Option.some.inj e
          exact g_iret d_X10_workflow_73 rfl rfl
        · rcases ite_or e with ⟨c11, e⟩ | ⟨c11, e⟩
          · refine r_tableIn d_X10_workflow_13 (off := 61) (tgt := 74) (by rw [c11]; decide +kernel) (by rw [c11]; decide +kernel) (by rw [c11] <;> rfl) (by decide) ?_
            refine g_ald_n d_X10_workflow_74 rfl g3 ?_
            replace e := ckd e
            obtain ⟨k12, e⟩ := e
            refine g_getR d_X10_workflow_75 (f := 1002) k12 fk_9_114 rfl rfl ?_
            replace e := ckd e
            obtain ⟨k13, e⟩ := e
            refine g_getR d_X10_workflow_78 (f := 201) k13 fk_9_229 rfl rfl ?_
            refine r_iconst d_X10_workflow_81 (v := (0 : Int32)) (by decide +kernel) ?_
            replace e := ckd e
            obtain ⟨k14, e⟩ := e
            replace e := ckd e
            obtain ⟨k15, e⟩ := e
            refine g_iald d_X10_workflow_82 k14 k15 rfl ?_
            refine r_bipush d_X10_workflow_83 (v := (8 : Int32)) (by decide +kernel) ?_
            refine r_irem d_X10_workflow_85 (by decide +kernel) ?_
            obtain rfl := Option.some.inj e
            exact g_iret d_X10_workflow_86 rfl rfl
          · rcases ite_or e with ⟨c16, e⟩ | ⟨c16, e⟩
            · refine r_tableIn d_X10_workflow_13 (off := 74) (tgt := 87) (by rw [c16]; decide +kernel) (by rw [c16]; decide +kernel) (by rw [c16] <;> rfl) (by decide) ?_
              refine g_ald_n d_X10_workflow_87 rfl g3 ?_
              replace e := ckd e
              obtain ⟨k17, e⟩ := e
              refine g_getI d_X10_workflow_88 (f := 1010) k17 fk_9_232 rfl rfl ?_
              obtain rfl := Option.some.inj e
              exact g_iret d_X10_workflow_91 rfl rfl
            · rcases ite_or e with ⟨c18, e⟩ | ⟨c18, e⟩
              · refine r_tableIn d_X10_workflow_13 (off := 79) (tgt := 92) (by rw [c18]; decide +kernel) (by rw [c18]; decide +kernel) (by rw [c18] <;> rfl) (by decide) ?_
                refine g_ald_n d_X10_workflow_92 rfl g3 ?_
                replace e := ckd e
                obtain ⟨k19, e⟩ := e
                refine g_getR d_X10_workflow_93 (f := 1002) k19 fk_9_114 rfl rfl ?_
                refine r_bipush d_X10_workflow_96 (v := (8 : Int32)) (by decide +kernel) ?_
                refine g_ald_n d_X10_workflow_98 rfl g3 ?_
                refine g_getR d_X10_workflow_99 (f := 1002) k19 fk_9_114 rfl rfl ?_
                replace e := ckd e
                obtain ⟨k20, e⟩ := e
                refine g_getI d_X10_workflow_102 (f := 204) k20 fk_9_226 rfl rfl ?_
                replace e := bd e
                obtain ⟨q21, eq21, e⟩ := e
                refine g_callV d_X10_workflow_105 vk_9_235 (as := [_, _]) rfl k20 rfl (by simp [zrf_cat, cat_int, cat_long]) (j := 1) (by omega) (c_X1_count (by omega) eq21) ?_
                refine g_ald_n d_X10_workflow_108 rfl g3 ?_
                replace e := ckd e
                obtain ⟨k22, e⟩ := e
                refine g_getI d_X10_workflow_109 (f := 1009) k22 fk_9_238 rfl rfl ?_
                refine r_isub d_X10_workflow_112 ?_
                obtain rfl := Option.some.inj e
                exact g_iret d_X10_workflow_113 rfl rfl
              · rcases ite_or e with ⟨c23, e⟩ | ⟨c23, e⟩
                · refine r_tableIn d_X10_workflow_13 (off := 101) (tgt := 114) (by rw [c23]; decide +kernel) (by rw [c23]; decide +kernel) (by rw [c23] <;> rfl) (by decide) ?_
                  refine g_ald_n d_X10_workflow_114 rfl g3 ?_
                  replace e := ckd e
                  obtain ⟨k25, e⟩ := e
                  replace e := bd e
                  obtain ⟨q24, eq24, e⟩ := e
                  refine g_callV d_X10_workflow_115 vk_9_241 (as := []) rfl k25 rfl (by simp [zrf_cat, cat_int, cat_long]) (j := 1) (by omega) (c_X9_parent (by omega) eq24) ?_
                  obtain rfl := Option.some.inj e
                  exact g_iret d_X10_workflow_118 rfl rfl
                · refine r_tableOut d_X10_workflow_13 (tgt := 119) (by have := lv_neT (a := 0) c4 (by decide +kernel); have := lv_neT (a := 1) c6 (by decide +kernel); have := lv_neT (a := 2) c8 (by decide +kernel); have := lv_neT (a := 3) c11 (by decide +kernel); have := lv_neT (a := 4) c16 (by decide +kernel); have := lv_neT (a := 5) c18 (by decide +kernel); have := lv_neT (a := 6) c23 (by decide +kernel); omega) (by decide) ?_
                  refine r_iconst d_X10_workflow_119 (v := (-1 : Int32)) (by decide +kernel) ?_
                  obtain rfl := Option.some.inj e
                  exact g_iret d_X10_workflow_120 rfl rfl
  · replace e := (if_pos c3).symm.trans e
    refine r_iconst d_X10_workflow_10 (v := (-1 : Int32)) (by decide +kernel) ?_
    obtain rfl := Option.some.inj e
    exact g_iret d_X10_workflow_11 rfl rfl

theorem c_X10_workflow {G : Gd} {j : Nat} (hj : 3 ≤ j) {l0 : Nat} {l1 : Int32} {l2 : Int32} {h : Hp} {o : (Int32 × Hp)} (e : f_X10_workflow l0 l1 l2 h = some o) : Cal G j Y_X10_workflow [zrf (l0), .int (l1), .int (l2)] h (some (.int o.1)) o.2 := Cal.of (n := 0) (I := false) (by first | exact Or.inl (by decide +kernel) | exact Or.inr (by decide +kernel)) (by decide) (by simp [lg_sl, zrf_cat, cat_int, cat_long]) (f_X10_workflow_ok hj _ _ _ _ h o (by simp [lv_args, zlk, zrf_cat, cat_int, cat_long]) (by simp [lv_args, zlk, zrf_cat, cat_int, cat_long]) (by simp [lv_args, zlk, zrf_cat, cat_int, cat_long]) e)
theorem fk_9_258 : Fk "TaskWeave" 258 708 := ⟨by decide, by decide, by decide +kernel⟩
theorem fk_9_261 : Fk "TaskWeave" 261 709 := ⟨by decide, by decide, by decide +kernel⟩
theorem fk_9_265 : Fk "TaskWeave" 265 706 := ⟨by decide, by decide, by decide +kernel⟩
theorem fk_9_269 : Fk "TaskWeave" 269 303 := ⟨by decide, by decide, by decide +kernel⟩
theorem vk_9_272 : Vk "TaskWeave" 272 1 7 Y_X6_countTasks := ⟨yk_X6_countTasks, by decide +kernel, by decide +kernel, by decide +kernel, by decide⟩
def f_X10_shard (l0 : Nat) (l1 : Int32) (l2 : Int32) (h : Hp) : Option (Int32 × Hp) := if (l1) < (0) then (some ((-1 : Int32), h)) else (if (l1) < ((4 : Int32)) then (if (l2) = (0 : Int32) then (ck (isO (h) (l0) 11) (ck (isO (h) (zR (h) 1103 (l0)) 26) (ck (inR (l1) (zL (h) (zR (h) 1103 (l0)))) (ck (isO (h) (zQ (h) (zR (h) 1103 (l0)) (l1).toNatClampNeg) 7) (some (zI (h) 708 (zQ (h) (zR (h) 1103 (l0)) (l1).toNatClampNeg), h)))))) else (if (l2) = (1 : Int32) then (ck (isO (h) (l0) 11) (ck (isO (h) (zR (h) 1103 (l0)) 26) (ck (inR (l1) (zL (h) (zR (h) 1103 (l0)))) (ck (isO (h) (zQ (h) (zR (h) 1103 (l0)) (l1).toNatClampNeg) 7) (some (zI (h) 709 (zQ (h) (zR (h) 1103 (l0)) (l1).toNatClampNeg), h)))))) else (if (l2) = (2 : Int32) then (ck (isO (h) (l0) 11) (ck (isO (h) (zR (h) 1103 (l0)) 26) (ck (inR (l1) (zL (h) (zR (h) 1103 (l0)))) (ck (isO (h) (zQ (h) (zR (h) 1103 (l0)) (l1).toNatClampNeg) 7) (some (zI (h) 707 (zQ (h) (zR (h) 1103 (l0)) (l1).toNatClampNeg), h)))))) else (if (l2) = (3 : Int32) then (ck (isO (h) (l0) 11) (ck (isO (h) (zR (h) 1103 (l0)) 26) (ck (inR (l1) (zL (h) (zR (h) 1103 (l0)))) (ck (isO (h) (zQ (h) (zR (h) 1103 (l0)) (l1).toNatClampNeg) 7) (some (zI (h) 710 (zQ (h) (zR (h) 1103 (l0)) (l1).toNatClampNeg), h)))))) else (if (l2) = (4 : Int32) then (ck (isO (h) (l0) 11) (ck (isO (h) (zR (h) 1103 (l0)) 26) (ck (inR (l1) (zL (h) (zR (h) 1103 (l0)))) (ck (isO (h) (zQ (h) (zR (h) 1103 (l0)) (l1).toNatClampNeg) 7) (ck (isO (h) (zR (h) 706 (zQ (h) (zR (h) 1103 (l0)) (l1).toNatClampNeg)) 3) (some (zI (h) 303 (zR (h) 706 (zQ (h) (zR (h) 1103 (l0)) (l1).toNatClampNeg)), h))))))) else (if (l2) = (5 : Int32) then (ck (isO (h) (l0) 11) (ck (isO (h) (zR (h) 1103 (l0)) 26) (ck (inR (l1) (zL (h) (zR (h) 1103 (l0)))) (ck (isO (h) (zQ (h) (zR (h) 1103 (l0)) (l1).toNatClampNeg) 7) ((f_X6_countTasks (zQ (h) (zR (h) 1103 (l0)) (l1).toNatClampNeg) ((0 : Int32)) (h)).bind (fun q33 => some (q33.1, q33.2))))))) else (if (l2) = (6 : Int32) then (ck (isO (h) (l0) 11) (ck (isO (h) (zR (h) 1103 (l0)) 26) (ck (inR (l1) (zL (h) (zR (h) 1103 (l0)))) (ck (isO (h) (zQ (h) (zR (h) 1103 (l0)) (l1).toNatClampNeg) 7) ((f_X6_countTasks (zQ (h) (zR (h) 1103 (l0)) (l1).toNatClampNeg) ((1 : Int32)) (h)).bind (fun q39 => some (q39.1, q39.2))))))) else (some ((-1 : Int32), h))))))))) else (some ((-1 : Int32), h)))
theorem f_X10_shard_ok {G : Gd} {d : Nat} (hj : 2 ≤ d) : ∀ (l0 : Nat) (l1 : Int32) (l2 : Int32) (L : List (Nat × Value)) (h : Hp) (o : (Int32 × Hp)), zlk L 0 = some (zrf (l0)) → zlk L 1 = some (.int (l1)) → zlk L 2 = some (.int (l2)) → f_X10_shard l0 l1 l2 h = some o → Ev G M_X10_shard d 0 L [] h (Ret Y_X10_shard (some (.int o.1)) o.2) := by
  intro l0 l1 l2 L h o g0 g1 g2 e
  unfold f_X10_shard at e
  refine r_iload_n d_X10_shard_0 rfl g1 ?_
  refine r_if_lt d_X10_shard_1 (tgt := 9) (by decide) (fun c1 => ?_) (fun c1 => ?_)
  · replace e := (if_pos c1).symm.trans e
    refine r_iconst d_X10_shard_9 (v := (-1 : Int32)) (by decide +kernel) ?_
    obtain rfl := Option.some.inj e
    exact g_iret d_X10_shard_10 rfl rfl
  · replace e := (if_neg c1).symm.trans e
    refine r_iload_n d_X10_shard_4 rfl g1 ?_
    refine r_iconst d_X10_shard_5 (v := (4 : Int32)) (by decide +kernel) ?_
    refine r_icmp_lt d_X10_shard_6 (tgt := 11) (by decide) (fun c2 => ?_) (fun c2 => ?_)
    · replace e := (if_pos c2).symm.trans e
      refine r_iload_n d_X10_shard_11 rfl g2 ?_
      rcases ite_or e with ⟨c3, e⟩ | ⟨c3, e⟩
      · refine r_tableIn d_X10_shard_12 (off := 44) (tgt := 56) (by rw [c3]; decide +kernel) (by rw [c3]; decide +kernel) (by rw [c3] <;> rfl) (by decide) ?_
        refine g_ald_n d_X10_shard_56 rfl g0 ?_
        replace e := ckd e
        obtain ⟨k4, e⟩ := e
        refine g_getR d_X10_shard_57 (f := 1103) k4 fk_9_18 rfl rfl ?_
        refine r_iload_n d_X10_shard_60 rfl g1 ?_
        replace e := ckd e
        obtain ⟨k5, e⟩ := e
        replace e := ckd e
        obtain ⟨k6, e⟩ := e
        refine g_aald d_X10_shard_61 k5 (by decide) (by decide) k6 rfl ?_
        replace e := ckd e
        obtain ⟨k7, e⟩ := e
        refine g_getI d_X10_shard_62 (f := 708) k7 fk_9_258 rfl rfl ?_
        obtain rfl := Option.some.inj e
        exact g_iret d_X10_shard_65 rfl rfl
      · rcases ite_or e with ⟨c8, e⟩ | ⟨c8, e⟩
        · refine r_tableIn d_X10_shard_12 (off := 54) (tgt := 66) (by rw [c8]; decide +kernel) (by rw [c8]; decide +kernel) (by rw [c8] <;> rfl) (by decide) ?_
          refine g_ald_n d_X10_shard_66 rfl g0 ?_
          replace e := ckd e
          obtain ⟨k9, e⟩ := e
          refine g_getR d_X10_shard_67 (f := 1103) k9 fk_9_18 rfl rfl ?_
          refine r_iload_n d_X10_shard_70 rfl g1 ?_
          replace e := ckd e
          obtain ⟨k10, e⟩ := e
          replace e := ckd e
          obtain ⟨k11, e⟩ := e
          refine g_aald d_X10_shard_71 k10 (by decide) (by decide) k11 rfl ?_
          replace e := ckd e
          obtain ⟨k12, e⟩ := e
          refine g_getI d_X10_shard_72 (f := 709) k12 fk_9_261 rfl rfl ?_
          obtain rfl := Option.some.inj e
          exact g_iret d_X10_shard_75 rfl rfl
        · rcases ite_or e with ⟨c13, e⟩ | ⟨c13, e⟩
          · refine r_tableIn d_X10_shard_12 (off := 64) (tgt := 76) (by rw [c13]; decide +kernel) (by rw [c13]; decide +kernel) (by rw [c13] <;> rfl) (by decide) ?_
            refine g_ald_n d_X10_shard_76 rfl g0 ?_
            replace e := ckd e
            obtain ⟨k14, e⟩ := e
            refine g_getR d_X10_shard_77 (f := 1103) k14 fk_9_18 rfl rfl ?_
            refine r_iload_n d_X10_shard_80 rfl g1 ?_
            replace e := ckd e
            obtain ⟨k15, e⟩ := e
            replace e := ckd e
            obtain ⟨k16, e⟩ := e
            refine g_aald d_X10_shard_81 k15 (by decide) (by decide) k16 rfl ?_
            replace e := ckd e
            obtain ⟨k17, e⟩ := e
            refine g_getI d_X10_shard_82 (f := 707) k17 fk_9_264 rfl rfl ?_
            obtain rfl := Option.some.inj e
            exact g_iret d_X10_shard_85 rfl rfl
          · rcases ite_or e with ⟨c18, e⟩ | ⟨c18, e⟩
            · refine r_tableIn d_X10_shard_12 (off := 74) (tgt := 86) (by rw [c18]; decide +kernel) (by rw [c18]; decide +kernel) (by rw [c18] <;> rfl) (by decide) ?_
              refine g_ald_n d_X10_shard_86 rfl g0 ?_
              replace e := ckd e
              obtain ⟨k19, e⟩ := e
              refine g_getR d_X10_shard_87 (f := 1103) k19 fk_9_18 rfl rfl ?_
              refine r_iload_n d_X10_shard_90 rfl g1 ?_
              replace e := ckd e
              obtain ⟨k20, e⟩ := e
              replace e := ckd e
              obtain ⟨k21, e⟩ := e
              refine g_aald d_X10_shard_91 k20 (by decide) (by decide) k21 rfl ?_
              replace e := ckd e
              obtain ⟨k22, e⟩ := e
              refine g_getI d_X10_shard_92 (f := 710) k22 fk_9_101 rfl rfl ?_
              obtain rfl := Option.some.inj e
              exact g_iret d_X10_shard_95 rfl rfl
            · rcases ite_or e with ⟨c23, e⟩ | ⟨c23, e⟩
              · refine r_tableIn d_X10_shard_12 (off := 84) (tgt := 96) (by rw [c23]; decide +kernel) (by rw [c23]; decide +kernel) (by rw [c23] <;> rfl) (by decide) ?_
                refine g_ald_n d_X10_shard_96 rfl g0 ?_
                replace e := ckd e
                obtain ⟨k24, e⟩ := e
                refine g_getR d_X10_shard_97 (f := 1103) k24 fk_9_18 rfl rfl ?_
                refine r_iload_n d_X10_shard_100 rfl g1 ?_
                replace e := ckd e
                obtain ⟨k25, e⟩ := e
                replace e := ckd e
                obtain ⟨k26, e⟩ := e
                refine g_aald d_X10_shard_101 k25 (by decide) (by decide) k26 rfl ?_
                replace e := ckd e
                obtain ⟨k27, e⟩ := e
                refine g_getR d_X10_shard_102 (f := 706) k27 fk_9_265 rfl rfl ?_
                replace e := ckd e
                obtain ⟨k28, e⟩ := e
                refine g_getI d_X10_shard_105 (f := 303) k28 fk_9_269 rfl rfl ?_
                obtain rfl := Option.some.inj e
                exact g_iret d_X10_shard_108 rfl rfl
              · rcases ite_or e with ⟨c29, e⟩ | ⟨c29, e⟩
                · refine r_tableIn d_X10_shard_12 (off := 97) (tgt := 109) (by rw [c29]; decide +kernel) (by rw [c29]; decide +kernel) (by rw [c29] <;> rfl) (by decide) ?_
                  refine g_ald_n d_X10_shard_109 rfl g0 ?_
                  replace e := ckd e
                  obtain ⟨k30, e⟩ := e
                  refine g_getR d_X10_shard_110 (f := 1103) k30 fk_9_18 rfl rfl ?_
                  refine r_iload_n d_X10_shard_113 rfl g1 ?_
                  replace e := ckd e
                  obtain ⟨k31, e⟩ := e
                  replace e := ckd e
                  obtain ⟨k32, e⟩ := e
                  refine g_aald d_X10_shard_114 k31 (by decide) (by decide) k32 rfl ?_
                  refine r_iconst d_X10_shard_115 (v := (0 : Int32)) (by decide +kernel) ?_
                  replace e := ckd e
                  obtain ⟨k34, e⟩ := e
                  replace e := bd e
                  obtain ⟨q33, eq33, e⟩ := e
                  refine g_callV d_X10_shard_116 vk_9_272 (as := [_]) rfl k34 rfl (by simp [zrf_cat, cat_int, cat_long]) (j := 1) (by omega) (c_X6_countTasks (by omega) eq33) ?_
                  obtain rfl := Option.some.inj e
                  exact g_iret d_X10_shard_119 rfl rfl
                · rcases ite_or e with ⟨c35, e⟩ | ⟨c35, e⟩
                  · refine r_tableIn d_X10_shard_12 (off := 108) (tgt := 120) (by rw [c35]; decide +kernel) (by rw [c35]; decide +kernel) (by rw [c35] <;> rfl) (by decide) ?_
                    refine g_ald_n d_X10_shard_120 rfl g0 ?_
                    replace e := ckd e
                    obtain ⟨k36, e⟩ := e
                    refine g_getR d_X10_shard_121 (f := 1103) k36 fk_9_18 rfl rfl ?_
                    refine r_iload_n d_X10_shard_124 rfl g1 ?_
                    replace e := ckd e
                    obtain ⟨k37, e⟩ := e
                    replace e := ckd e
                    obtain ⟨k38, e⟩ := e
                    refine g_aald d_X10_shard_125 k37 (by decide) (by decide) k38 rfl ?_
                    refine r_iconst d_X10_shard_126 (v := (1 : Int32)) (by decide +kernel) ?_
                    replace e := ckd e
                    obtain ⟨k40, e⟩ := e
                    replace e := bd e
                    obtain ⟨q39, eq39, e⟩ := e
                    refine g_callV d_X10_shard_127 vk_9_272 (as := [_]) rfl k40 rfl (by simp [zrf_cat, cat_int, cat_long]) (j := 1) (by omega) (c_X6_countTasks (by omega) eq39) ?_
                    obtain rfl := Option.some.inj e
                    exact g_iret d_X10_shard_130 rfl rfl
                  · refine r_tableOut d_X10_shard_12 (tgt := 131) (by have := lv_neT (a := 0) c3 (by decide +kernel); have := lv_neT (a := 1) c8 (by decide +kernel); have := lv_neT (a := 2) c13 (by decide +kernel); have := lv_neT (a := 3) c18 (by decide +kernel); have := lv_neT (a := 4) c23 (by decide +kernel); have := lv_neT (a := 5) c29 (by decide +kernel); have := lv_neT (a := 6) c35 (by decide +kernel); omega) (by decide) ?_
                    refine r_iconst d_X10_shard_131 (v := (-1 : Int32)) (by decide +kernel) ?_
                    obtain rfl := Option.some.inj e
                    exact g_iret d_X10_shard_132 rfl rfl
    · replace e := (if_neg c2).symm.trans e
      refine r_iconst d_X10_shard_9 (v := (-1 : Int32)) (by decide +kernel) ?_
      obtain rfl := Option.some.inj e
      exact g_iret d_X10_shard_10 rfl rfl

theorem c_X10_shard {G : Gd} {j : Nat} (hj : 2 ≤ j) {l0 : Nat} {l1 : Int32} {l2 : Int32} {h : Hp} {o : (Int32 × Hp)} (e : f_X10_shard l0 l1 l2 h = some o) : Cal G j Y_X10_shard [zrf (l0), .int (l1), .int (l2)] h (some (.int o.1)) o.2 := Cal.of (n := 0) (I := false) (by first | exact Or.inl (by decide +kernel) | exact Or.inr (by decide +kernel)) (by decide) (by simp [lg_sl, zrf_cat, cat_int, cat_long]) (f_X10_shard_ok hj _ _ _ _ h o (by simp [lv_args, zlk, zrf_cat, cat_int, cat_long]) (by simp [lv_args, zlk, zrf_cat, cat_int, cat_long]) (by simp [lv_args, zlk, zrf_cat, cat_int, cat_long]) e)
theorem fk_9_276 : Fk "TaskWeave" 276 602 := ⟨by decide, by decide, by decide +kernel⟩
def f_X10_replica (l0 : Nat) (l1 : Int32) (l2 : Int32) (l3 : Int32) (h : Hp) : Option (Int32 × Hp) := ck (isO (h) (l0) 11) ((f_X10_findReplica (l0) (l1) (l2) (h)).bind (fun q1 => if (q1.1) = 0 then (some ((-1 : Int32), q1.2)) else (if (l3) = (0 : Int32) then (ck (isO (q1.2) (q1.1) 6) (if (zI (q1.2) 603 (q1.1)) = (0) then (some ((0 : Int32), q1.2)) else (some ((1 : Int32), q1.2)))) else (if (l3) = (1 : Int32) then (ck (isO (q1.2) (q1.1) 6) (some ((zI (q1.2) 602 (q1.1)) / ((16 : Int32)), q1.2))) else (if (l3) = (2 : Int32) then (ck (isO (q1.2) (q1.1) 6) (some ((zI (q1.2) 602 (q1.1)) - (zI (q1.2) 602 (q1.1)) / ((16 : Int32)) * ((16 : Int32)), q1.2))) else (if (l3) = (3 : Int32) then (ck (isO (q1.2) (q1.1) 6) (some (zI (q1.2) 604 (q1.1), q1.2))) else (some ((-1 : Int32), q1.2))))))))
theorem f_X10_replica_ok {G : Gd} {d : Nat} (hj : 2 ≤ d) : ∀ (l0 : Nat) (l1 : Int32) (l2 : Int32) (l3 : Int32) (L : List (Nat × Value)) (h : Hp) (o : (Int32 × Hp)), zlk L 0 = some (zrf (l0)) → zlk L 1 = some (.int (l1)) → zlk L 2 = some (.int (l2)) → zlk L 3 = some (.int (l3)) → f_X10_replica l0 l1 l2 l3 h = some o → Ev G M_X10_replica d 0 L [] h (Ret Y_X10_replica (some (.int o.1)) o.2) := by
  intro l0 l1 l2 l3 L h o g0 g1 g2 g3 e
  unfold f_X10_replica at e
  refine g_ald_n d_X10_replica_0 rfl g0 ?_
  refine r_iload_n d_X10_replica_1 rfl g1 ?_
  refine r_iload_n d_X10_replica_2 rfl g2 ?_
  replace e := ckd e
  obtain ⟨k2, e⟩ := e
  replace e := bd e
  obtain ⟨q1, eq1, e⟩ := e
  refine g_callV d_X10_replica_3 vk_9_202 (as := [_, _]) rfl k2 rfl (by simp [zrf_cat, cat_int, cat_long]) (j := 1) (by omega) (c_X10_findReplica (by omega) eq1) ?_
  refine s_ast d_X10_replica_6 (by decide) (fun L g4 gK => ?_)
  replace g3 := gK _ _ (by decide) (Or.inr rfl) g3
  refine g_ald d_X10_replica_8 g4 ?_
  refine g_ifnonnull d_X10_replica_10 (tgt := 15) (by decide) (fun c3 => ?_) (fun c3 => ?_)
  · replace e := (if_neg c3).symm.trans e
    refine r_iload_n d_X10_replica_15 rfl g3 ?_
    rcases ite_or e with ⟨c4, e⟩ | ⟨c4, e⟩
    · refine r_tableIn d_X10_replica_16 (off := 32) (tgt := 48) (by rw [c4]; decide +kernel) (by rw [c4]; decide +kernel) (by rw [c4] <;> rfl) (by decide) ?_
      refine g_ald d_X10_replica_48 g4 ?_
      replace e := ckd e
      obtain ⟨k5, e⟩ := e
      refine g_getI d_X10_replica_50 (f := 603) k5 fk_9_206 rfl rfl ?_
      refine r_if_eq d_X10_replica_53 (tgt := 60) (by decide) (fun c6 => ?_) (fun c6 => ?_)
      · replace e := (if_pos c6).symm.trans e
        refine r_iconst d_X10_replica_60 (v := (0 : Int32)) (by decide +kernel) ?_
        obtain rfl := Option.some.inj e
        exact g_iret d_X10_replica_61 rfl rfl
      · replace e := (if_neg c6).symm.trans e
        refine r_iconst d_X10_replica_56 (v := (1 : Int32)) (by decide +kernel) ?_
        refine r_goto d_X10_replica_57 (tgt := 61) (by decide) ?_
        obtain rfl := Option.some.inj e
        exact g_iret d_X10_replica_61 rfl rfl
    · rcases ite_or e with ⟨c7, e⟩ | ⟨c7, e⟩
      · refine r_tableIn d_X10_replica_16 (off := 46) (tgt := 62) (by rw [c7]; decide +kernel) (by rw [c7]; decide +kernel) (by rw [c7] <;> rfl) (by decide) ?_
        refine g_ald d_X10_replica_62 g4 ?_
        replace e := ckd e
        obtain ⟨k8, e⟩ := e
        refine g_getI d_X10_replica_64 (f := 602) k8 fk_9_276 rfl rfl ?_
        refine r_bipush d_X10_replica_67 (v := (16 : Int32)) (by decide +kernel) ?_
        refine r_idiv d_X10_replica_69 (by decide +kernel) ?_
        obtain rfl := Option.some.inj e
        exact g_iret d_X10_replica_70 rfl rfl
      · rcases ite_or e with ⟨c9, e⟩ | ⟨c9, e⟩
        · refine r_tableIn d_X10_replica_16 (off := 55) (tgt := 71) (by rw [c9]; decide +kernel) (by rw [c9]; decide +kernel) (by rw [c9] <;> rfl) (by decide) ?_
          refine g_ald d_X10_replica_71 g4 ?_
          replace e := ckd e
          obtain ⟨k10, e⟩ := e
          refine g_getI d_X10_replica_73 (f := 602) k10 fk_9_276 rfl rfl ?_
          refine r_bipush d_X10_replica_76 (v := (16 : Int32)) (by decide +kernel) ?_
          refine r_irem d_X10_replica_78 (by decide +kernel) ?_
          obtain rfl := Option.some.inj e
          exact g_iret d_X10_replica_79 rfl rfl
        · rcases ite_or e with ⟨c11, e⟩ | ⟨c11, e⟩
          · refine r_tableIn d_X10_replica_16 (off := 64) (tgt := 80) (by rw [c11]; decide +kernel) (by rw [c11]; decide +kernel) (by rw [c11] <;> rfl) (by decide) ?_
            refine g_ald d_X10_replica_80 g4 ?_
            replace e := ckd e
            obtain ⟨k12, e⟩ := e
            refine g_getI d_X10_replica_82 (f := 604) k12 fk_9_220 rfl rfl ?_
            obtain rfl := Option.some.inj e
            exact g_iret d_X10_replica_85 rfl rfl
          · refine r_tableOut d_X10_replica_16 (tgt := 86) (by have := lv_neT (a := 0) c4 (by decide +kernel); have := lv_neT (a := 1) c7 (by decide +kernel); have := lv_neT (a := 2) c9 (by decide +kernel); have := lv_neT (a := 3) c11 (by decide +kernel); omega) (by decide) ?_
            refine r_iconst d_X10_replica_86 (v := (-1 : Int32)) (by decide +kernel) ?_
            obtain rfl := Option.some.inj e
            exact g_iret d_X10_replica_87 rfl rfl
  · replace e := (if_pos c3).symm.trans e
    refine r_iconst d_X10_replica_13 (v := (-1 : Int32)) (by decide +kernel) ?_
    obtain rfl := Option.some.inj e
    exact g_iret d_X10_replica_14 rfl rfl

theorem c_X10_replica {G : Gd} {j : Nat} (hj : 2 ≤ j) {l0 : Nat} {l1 : Int32} {l2 : Int32} {l3 : Int32} {h : Hp} {o : (Int32 × Hp)} (e : f_X10_replica l0 l1 l2 l3 h = some o) : Cal G j Y_X10_replica [zrf (l0), .int (l1), .int (l2), .int (l3)] h (some (.int o.1)) o.2 := Cal.of (n := 0) (I := false) (by first | exact Or.inl (by decide +kernel) | exact Or.inr (by decide +kernel)) (by decide) (by simp [lg_sl, zrf_cat, cat_int, cat_long]) (f_X10_replica_ok hj _ _ _ _ _ h o (by simp [lv_args, zlk, zrf_cat, cat_int, cat_long]) (by simp [lv_args, zlk, zrf_cat, cat_int, cat_long]) (by simp [lv_args, zlk, zrf_cat, cat_int, cat_long]) (by simp [lv_args, zlk, zrf_cat, cat_int, cat_long]) e)
theorem vk_9_277 : Vk "TaskWeave" 277 1 6 Y_X5_byteAt := ⟨yk_X5_byteAt, by decide +kernel, by decide +kernel, by decide +kernel, by decide⟩
def f_X10_disk (l0 : Nat) (l1 : Int32) (l2 : Int32) (l3 : Int32) (l4 : Int32) (h : Hp) : Option (Int32 × Hp) := ck (isO (h) (l0) 11) ((f_X10_findReplica (l0) (l1) (l2) (h)).bind (fun q1 => if (q1.1) = 0 then (some ((-1 : Int32), q1.2)) else (if (l3) < (0) then (some ((-1 : Int32), q1.2)) else (if (l4) < (0) then (some ((-1 : Int32), q1.2)) else (if (l4) < ((512 : Int32)) then (ck (isO (q1.2) (q1.1) 6) (bh ((((zI (q1.2) 602 (q1.1)) + ((512 : Int32))) - ((1 : Int32))) / ((512 : Int32))) (fun x8 => if (x8) ≤ (l3) then (some ((-1 : Int32), q1.2)) else ((f_X5_byteAt (q1.1) (((l3) * ((512 : Int32))) + (l4)) (q1.2)).bind (fun q10 => some (q10.1, q10.2)))))) else (some ((-1 : Int32), q1.2)))))))
theorem f_X10_disk_ok {G : Gd} {d : Nat} (hj : 2 ≤ d) : ∀ (l0 : Nat) (l1 : Int32) (l2 : Int32) (l3 : Int32) (l4 : Int32) (L : List (Nat × Value)) (h : Hp) (o : (Int32 × Hp)), zlk L 0 = some (zrf (l0)) → zlk L 1 = some (.int (l1)) → zlk L 2 = some (.int (l2)) → zlk L 3 = some (.int (l3)) → zlk L 4 = some (.int (l4)) → f_X10_disk l0 l1 l2 l3 l4 h = some o → Ev G M_X10_disk d 0 L [] h (Ret Y_X10_disk (some (.int o.1)) o.2) := by
  intro l0 l1 l2 l3 l4 L h o g0 g1 g2 g3 g4 e
  unfold f_X10_disk at e
  refine g_ald_n d_X10_disk_0 rfl g0 ?_
  refine r_iload_n d_X10_disk_1 rfl g1 ?_
  refine r_iload_n d_X10_disk_2 rfl g2 ?_
  replace e := ckd e
  obtain ⟨k2, e⟩ := e
  replace e := bd e
  obtain ⟨q1, eq1, e⟩ := e
  refine g_callV d_X10_disk_3 vk_9_202 (as := [_, _]) rfl k2 rfl (by simp [zrf_cat, cat_int, cat_long]) (j := 1) (by omega) (c_X10_findReplica (by omega) eq1) ?_
  refine s_ast d_X10_disk_6 (by decide) (fun L g5 gK => ?_)
  replace g3 := gK _ _ (by decide) (Or.inr rfl) g3
  replace g4 := gK _ _ (by decide) (Or.inr rfl) g4
  refine g_ald d_X10_disk_8 g5 ?_
  refine g_ifnull d_X10_disk_10 (tgt := 30) (by decide) (fun c3 => ?_) (fun c3 => ?_)
  · replace e := (if_pos c3).symm.trans e
    refine r_iconst d_X10_disk_30 (v := (-1 : Int32)) (by decide +kernel) ?_
    obtain rfl := Option.some.inj e
    exact g_iret d_X10_disk_31 rfl rfl
  · replace e := (if_neg c3).symm.trans e
    refine r_iload_n d_X10_disk_13 rfl g3 ?_
    refine r_if_lt d_X10_disk_14 (tgt := 30) (by decide) (fun c4 => ?_) (fun c4 => ?_)
    · replace e := (if_pos c4).symm.trans e
      refine r_iconst d_X10_disk_30 (v := (-1 : Int32)) (by decide +kernel) ?_
      obtain rfl := Option.some.inj e
      exact g_iret d_X10_disk_31 rfl rfl
    · replace e := (if_neg c4).symm.trans e
      refine r_iload d_X10_disk_17 g4 ?_
      refine r_if_lt d_X10_disk_19 (tgt := 30) (by decide) (fun c5 => ?_) (fun c5 => ?_)
      · replace e := (if_pos c5).symm.trans e
        refine r_iconst d_X10_disk_30 (v := (-1 : Int32)) (by decide +kernel) ?_
        obtain rfl := Option.some.inj e
        exact g_iret d_X10_disk_31 rfl rfl
      · replace e := (if_neg c5).symm.trans e
        refine r_iload d_X10_disk_22 g4 ?_
        refine r_sipush d_X10_disk_24 (v := (512 : Int32)) (by decide +kernel) ?_
        refine r_icmp_lt d_X10_disk_27 (tgt := 32) (by decide) (fun c6 => ?_) (fun c6 => ?_)
        · replace e := (if_pos c6).symm.trans e
          refine g_ald d_X10_disk_32 g5 ?_
          replace e := ckd e
          obtain ⟨k7, e⟩ := e
          refine g_getI d_X10_disk_34 (f := 602) k7 fk_9_276 rfl rfl ?_
          refine r_sipush d_X10_disk_37 (v := (512 : Int32)) (by decide +kernel) ?_
          refine r_iadd d_X10_disk_40 ?_
          refine r_iconst d_X10_disk_41 (v := (1 : Int32)) (by decide +kernel) ?_
          refine r_isub d_X10_disk_42 ?_
          refine r_sipush d_X10_disk_43 (v := (512 : Int32)) (by decide +kernel) ?_
          refine r_idiv d_X10_disk_46 (by decide +kernel) ?_
          replace e := bhd e
          obtain ⟨_, rfl, e⟩ := e
          refine s_istore d_X10_disk_47 (by decide) (fun L g6 gK => ?_)
          replace g3 := gK _ _ (by decide) (Or.inr rfl) g3
          replace g4 := gK _ _ (by decide) (Or.inr rfl) g4
          replace g5 := gK _ _ (by decide) (Or.inr (zrf_cat _)) g5
          refine r_iload_n d_X10_disk_49 rfl g3 ?_
          refine r_iload d_X10_disk_50 g6 ?_
          refine r_icmp_ge d_X10_disk_52 (tgt := 71) (by decide) (fun c9 => ?_) (fun c9 => ?_)
          · replace e := (if_pos c9).symm.trans e
            refine r_iconst d_X10_disk_71 (v := (-1 : Int32)) (by decide +kernel) ?_
            obtain rfl := Option.some.inj e
            exact g_iret d_X10_disk_72 rfl rfl
          · replace e := (if_neg c9).symm.trans e
            refine g_ald d_X10_disk_55 g5 ?_
            refine r_iload_n d_X10_disk_57 rfl g3 ?_
            refine r_sipush d_X10_disk_58 (v := (512 : Int32)) (by decide +kernel) ?_
            refine r_imul d_X10_disk_61 ?_
            refine r_iload d_X10_disk_62 g4 ?_
            refine r_iadd d_X10_disk_64 ?_
            replace e := bd e
            obtain ⟨q10, eq10, e⟩ := e
            refine g_callV d_X10_disk_65 vk_9_277 (as := [_]) rfl k7 rfl (by simp [zrf_cat, cat_int, cat_long]) (j := 1) (by omega) (c_X5_byteAt (by omega) eq10) ?_
            refine r_goto d_X10_disk_68 (tgt := 72) (by decide) ?_
            obtain rfl := Option.some.inj e
            exact g_iret d_X10_disk_72 rfl rfl
        · replace e := (if_neg c6).symm.trans e
          refine r_iconst d_X10_disk_30 (v := (-1 : Int32)) (by decide +kernel) ?_
          obtain rfl := Option.some.inj e
          exact g_iret d_X10_disk_31 rfl rfl

theorem c_X10_disk {G : Gd} {j : Nat} (hj : 2 ≤ j) {l0 : Nat} {l1 : Int32} {l2 : Int32} {l3 : Int32} {l4 : Int32} {h : Hp} {o : (Int32 × Hp)} (e : f_X10_disk l0 l1 l2 l3 l4 h = some o) : Cal G j Y_X10_disk [zrf (l0), .int (l1), .int (l2), .int (l3), .int (l4)] h (some (.int o.1)) o.2 := Cal.of (n := 0) (I := false) (by first | exact Or.inl (by decide +kernel) | exact Or.inr (by decide +kernel)) (by decide) (by simp [lg_sl, zrf_cat, cat_int, cat_long]) (f_X10_disk_ok hj _ _ _ _ _ _ h o (by simp [lv_args, zlk, zrf_cat, cat_int, cat_long]) (by simp [lv_args, zlk, zrf_cat, cat_int, cat_long]) (by simp [lv_args, zlk, zrf_cat, cat_int, cat_long]) (by simp [lv_args, zlk, zrf_cat, cat_int, cat_long]) (by simp [lv_args, zlk, zrf_cat, cat_int, cat_long]) e)
def f_X10_originOf (l0 : Int32) (l1 : Int32) (h : Hp) : Option (Int32 × Hp) := some (((-1 : Int32)) - ((((64 : Int32)) * (l0)) + (l1)), h)
theorem f_X10_originOf_ok {G : Gd} {d : Nat} (hj : 1 ≤ d) : ∀ (l0 : Int32) (l1 : Int32) (L : List (Nat × Value)) (h : Hp) (o : (Int32 × Hp)), zlk L 0 = some (.int (l0)) → zlk L 1 = some (.int (l1)) → f_X10_originOf l0 l1 h = some o → Ev G M_X10_originOf d 0 L [] h (Ret Y_X10_originOf (some (.int o.1)) o.2) := by
  intro l0 l1 L h o g0 g1 e
  unfold f_X10_originOf at e
  refine r_iconst d_X10_originOf_0 (v := (-1 : Int32)) (by decide +kernel) ?_
  refine r_bipush d_X10_originOf_1 (v := (64 : Int32)) (by decide +kernel) ?_
  refine r_iload_n d_X10_originOf_3 rfl g0 ?_
  refine r_imul d_X10_originOf_4 ?_
  refine r_iload_n d_X10_originOf_5 rfl g1 ?_
  refine r_iadd d_X10_originOf_6 ?_
  refine r_isub d_X10_originOf_7 ?_
  obtain rfl := Option.some.inj e
  exact g_iret d_X10_originOf_8 rfl rfl

theorem c_X10_originOf {G : Gd} {j : Nat} (hj : 1 ≤ j) {l0 : Int32} {l1 : Int32} {h : Hp} {o : (Int32 × Hp)} (e : f_X10_originOf l0 l1 h = some o) : Cal G j Y_X10_originOf [.int (l0), .int (l1)] h (some (.int o.1)) o.2 := Cal.of (n := 0) (I := false) (by first | exact Or.inl (by decide +kernel) | exact Or.inr (by decide +kernel)) (by decide) (by simp [lg_sl, zrf_cat, cat_int, cat_long]) (f_X10_originOf_ok hj _ _ _ h o (by simp [lv_args, zlk, zrf_cat, cat_int, cat_long]) (by simp [lv_args, zlk, zrf_cat, cat_int, cat_long]) e)
theorem fk_9_287 : Fk "TaskWeave" 287 711 := ⟨by decide, by decide, by decide +kernel⟩
def f_X10_recordsTried_4 : Nat → Nat → Int64 → Int32 → Hp → Option (Int64 × Hp)
  | 0, _, _, _, _ => none
  | n + 1, l0, l1, l3, h => if ((4 : Int32)) ≤ (l3) then (some (l1, h)) else (ck (isO (h) (l0) 11) (ck (isO (h) (zR (h) 1103 (l0)) 26) (ck (inR (l3) (zL (h) (zR (h) 1103 (l0)))) (ck (isO (h) (zQ (h) (zR (h) 1103 (l0)) (l3).toNatClampNeg) 7) (bh ((l1) + (zJ (h) 711 (zQ (h) (zR (h) 1103 (l0)) (l3).toNatClampNeg))) (fun x7 => bh ((l3) + (1 : Int32)) (fun x8 => f_X10_recordsTried_4 n (l0) (x7) (x8) (h))))))))
theorem f_X10_recordsTried_4_ok {G : Gd} {d : Nat} (hj : 1 ≤ d) : ∀ (n : Nat) (l0 : Nat) (l1 : Int64) (l3 : Int32) (L : List (Nat × Value)) (h : Hp) (o : (Int64 × Hp)), zlk L 0 = some (zrf (l0)) → zlk L 1 = some (.long (l1)) → zlk L 3 = some (.int (l3)) → f_X10_recordsTried_4 n l0 l1 l3 h = some o → Ev G M_X10_recordsTried d 4 L [] h (Ret Y_X10_recordsTried (some (.long o.1)) o.2) := by
  intro n
  induction n with
  | zero =>
    intro l0 l1 l3 L h o g0 g1 g3 e
    cases e
  | succ n ih =>
    intro l0 l1 l3 L h o g0 g1 g3 e
    unfold f_X10_recordsTried_4 at e
    refine r_iload_n d_X10_recordsTried_4 rfl g3 ?_
    refine r_iconst d_X10_recordsTried_5 (v := (4 : Int32)) (by decide +kernel) ?_
    refine r_icmp_ge d_X10_recordsTried_6 (tgt := 27) (by decide) (fun c2 => ?_) (fun c2 => ?_)
    · replace e := (if_pos c2).symm.trans e
      refine r_lload_n d_X10_recordsTried_27 rfl g1 ?_
      obtain rfl := Option.some.inj e
      exact g_lret d_X10_recordsTried_28 rfl
    · replace e := (if_neg c2).symm.trans e
      refine r_lload_n d_X10_recordsTried_9 rfl g1 ?_
      refine g_ald_n d_X10_recordsTried_10 rfl g0 ?_
      replace e := ckd e
      obtain ⟨k3, e⟩ := e
      refine g_getR d_X10_recordsTried_11 (f := 1103) k3 fk_9_18 rfl rfl ?_
      refine r_iload_n d_X10_recordsTried_14 rfl g3 ?_
      replace e := ckd e
      obtain ⟨k4, e⟩ := e
      replace e := ckd e
      obtain ⟨k5, e⟩ := e
      refine g_aald d_X10_recordsTried_15 k4 (by decide) (by decide) k5 rfl ?_
      replace e := ckd e
      obtain ⟨k6, e⟩ := e
      refine g_getJ d_X10_recordsTried_16 (f := 711) k6 fk_9_287 rfl rfl ?_
      refine r_ladd d_X10_recordsTried_19 ?_
      replace e := bhd e
      obtain ⟨_, rfl, e⟩ := e
      refine s_lstore_n d_X10_recordsTried_20 rfl (by decide) (fun L g1 gK => ?_)
      replace g0 := gK _ _ (by decide) (by decide) (Or.inr (zrf_cat _)) g0
      replace g3 := gK _ _ (by decide) (by decide) (Or.inr rfl) g3
      replace e := bhd e
      obtain ⟨_, rfl, e⟩ := e
      refine s_iinc d_X10_recordsTried_21 g3 (w := (1 : Int32)) (by decide +kernel) (by decide) (fun L g3 gK => ?_)
      replace g0 := gK _ _ (by decide) (Or.inr (zrf_cat _)) g0
      replace g1 := gK _ _ (by decide) (Or.inl (by decide)) g1
      refine r_goto d_X10_recordsTried_24 (tgt := 4) (by decide) ?_
      exact ih _ _ _ _ _ _ g0 g1 g3 e

def f_X10_recordsTried (l0 : Nat) (h : Hp) : Option (Int64 × Hp) := bh ((0 : Int64)) (fun x1 => f_X10_recordsTried_4 fz (l0) (x1) ((0 : Int32)) (h))
theorem f_X10_recordsTried_ok {G : Gd} {d : Nat} (hj : 1 ≤ d) : ∀ (l0 : Nat) (L : List (Nat × Value)) (h : Hp) (o : (Int64 × Hp)), zlk L 0 = some (zrf (l0)) → f_X10_recordsTried l0 h = some o → Ev G M_X10_recordsTried d 0 L [] h (Ret Y_X10_recordsTried (some (.long o.1)) o.2) := by
  intro l0 L h o g0 e
  unfold f_X10_recordsTried at e
  refine r_lconst d_X10_recordsTried_0 (v := (0 : Int64)) (by decide +kernel) ?_
  replace e := bhd e
  obtain ⟨_, rfl, e⟩ := e
  refine s_lstore_n d_X10_recordsTried_1 rfl (by decide) (fun L g1 gK => ?_)
  replace g0 := gK _ _ (by decide) (by decide) (Or.inr (zrf_cat _)) g0
  refine r_iconst d_X10_recordsTried_2 (v := (0 : Int32)) (by decide +kernel) ?_
  refine s_istore_n d_X10_recordsTried_3 rfl (by decide) (fun L g3 gK => ?_)
  replace g0 := gK _ _ (by decide) (Or.inr (zrf_cat _)) g0
  replace g1 := gK _ _ (by decide) (Or.inl (by decide)) g1
  exact f_X10_recordsTried_4_ok hj _ _ _ _ _ _ _ g0 g1 g3 e

theorem c_X10_recordsTried {G : Gd} {j : Nat} (hj : 1 ≤ j) {l0 : Nat} {h : Hp} {o : (Int64 × Hp)} (e : f_X10_recordsTried l0 h = some o) : Cal G j Y_X10_recordsTried [zrf (l0)] h (some (.long o.1)) o.2 := Cal.of (n := 0) (I := false) (by first | exact Or.inl (by decide +kernel) | exact Or.inr (by decide +kernel)) (by decide) (by simp [lg_sl, zrf_cat, cat_int, cat_long]) (f_X10_recordsTried_ok hj _ _ h o (by simp [lv_args, zlk, zrf_cat, cat_int, cat_long]) e)
theorem vk_9_290 : Vk "TaskWeave" 290 0 10 Y_X9_hasDeadline := ⟨yk_X9_hasDeadline, by decide +kernel, by decide +kernel, by decide +kernel, by decide⟩
theorem vk_9_293 : Vk "TaskWeave" 293 0 10 Y_X9_deadline := ⟨yk_X9_deadline, by decide +kernel, by decide +kernel, by decide +kernel, by decide⟩
def f_X10_lastQuietTick_56 (K4 : Nat → Int32 → Int32 → Hp → Option (Int32 × Hp)) (l0 : Nat) (l2 : Int32) (l3 : Int32) (h : Hp) : Option (Int32 × Hp) := bh ((l3) + (1 : Int32)) (fun x19 => K4 (l0) (l2) (x19) (h))
theorem f_X10_lastQuietTick_56_ok {G : Gd} {d : Nat} (K4 : Nat → Int32 → Int32 → Hp → Option (Int32 × Hp)) (hj : 3 ≤ d) (hK4 : ∀ (l0 : Nat) (l2 : Int32) (l3 : Int32) (L : List (Nat × Value)) (h : Hp) (o : (Int32 × Hp)), zlk L 0 = some (zrf (l0)) → zlk L 2 = some (.int (l2)) → zlk L 3 = some (.int (l3)) → K4 l0 l2 l3 h = some o → Ev G M_X10_lastQuietTick d 4 L [] h (Ret Y_X10_lastQuietTick (some (.int o.1)) o.2)) : ∀ (l0 : Nat) (l2 : Int32) (l3 : Int32) (L : List (Nat × Value)) (h : Hp) (o : (Int32 × Hp)), zlk L 0 = some (zrf (l0)) → zlk L 2 = some (.int (l2)) → zlk L 3 = some (.int (l3)) → f_X10_lastQuietTick_56 K4 l0 l2 l3 h = some o → Ev G M_X10_lastQuietTick d 56 L [] h (Ret Y_X10_lastQuietTick (some (.int o.1)) o.2) := by
  intro l0 l2 l3 L h o g0 g2 g3 e
  unfold f_X10_lastQuietTick_56 at e
  replace e := bhd e
  obtain ⟨_, rfl, e⟩ := e
  refine s_iinc d_X10_lastQuietTick_56 g3 (w := (1 : Int32)) (by decide +kernel) (by decide) (fun L g3 gK => ?_)
  replace g0 := gK _ _ (by decide) (Or.inr (zrf_cat _)) g0
  replace g2 := gK _ _ (by decide) (Or.inr rfl) g2
  refine r_goto d_X10_lastQuietTick_59 (tgt := 4) (by decide) ?_
  exact hK4 _ _ _ _ _ _ g0 g2 g3 e

def f_X10_lastQuietTick_4 : Nat → Nat → Int32 → Int32 → Hp → Option (Int32 × Hp)
  | 0, _, _, _, _ => none
  | n + 1, l0, l2, l3, h => if ((64 : Int32)) ≤ (l3) then (ck (isO (h) (l0) 11) (ck (isO (h) (zR (h) 1101 (l0)) 1) (some ((if (l2) < (zI (h) 100 (zR (h) 1101 (l0))) then (zI (h) 100 (zR (h) 1101 (l0))) else (l2)), h)))) else (ck (isO (h) (l0) 11) ((f_X10_find (l0) (l3) (h)).bind (fun q4 => if (q4.1) = 0 then (f_X10_lastQuietTick_56 (f_X10_lastQuietTick_4 n) (l0) (l2) (l3) (q4.2)) else (ck (isO (q4.2) (l0) 11) (ck (isO (q4.2) (zR (q4.2) 1103 (l0)) 26) (ck (inR ((l3) - (l3) / ((4 : Int32)) * ((4 : Int32))) (zL (q4.2) (zR (q4.2) 1103 (l0)))) (ck (isO (q4.2) (zQ (q4.2) (zR (q4.2) 1103 (l0)) ((l3) - (l3) / ((4 : Int32)) * ((4 : Int32))).toNatClampNeg) 7) ((f_X6_works (zQ (q4.2) (zR (q4.2) 1103 (l0)) ((l3) - (l3) / ((4 : Int32)) * ((4 : Int32))).toNatClampNeg) (q4.2)).bind (fun q10 => if (q10.1) = (0) then (f_X10_lastQuietTick_56 (f_X10_lastQuietTick_4 n) (l0) (l2) (l3) (q10.2)) else (ck (isO (q10.2) (q4.1) 10) ((f_X9_hasDeadline (q4.1) (q10.2)).bind (fun q13 => if (q13.1) = (0) then (f_X10_lastQuietTick_56 (f_X10_lastQuietTick_4 n) (l0) (l2) (l3) (q13.2)) else (ck (isO (q13.2) (q4.1) 10) ((f_X9_deadline (q4.1) (q13.2)).bind (fun q16 => bh ((if ((q16.1) - ((1 : Int32))) < (l2) then ((q16.1) - ((1 : Int32))) else (l2))) (fun x18 => f_X10_lastQuietTick_56 (f_X10_lastQuietTick_4 n) (l0) (x18) (l3) (q16.2)))))))))))))))))
theorem f_X10_lastQuietTick_4_ok {G : Gd} {d : Nat} (hj : 3 ≤ d) : ∀ (n : Nat) (l0 : Nat) (l2 : Int32) (l3 : Int32) (L : List (Nat × Value)) (h : Hp) (o : (Int32 × Hp)), zlk L 0 = some (zrf (l0)) → zlk L 2 = some (.int (l2)) → zlk L 3 = some (.int (l3)) → f_X10_lastQuietTick_4 n l0 l2 l3 h = some o → Ev G M_X10_lastQuietTick d 4 L [] h (Ret Y_X10_lastQuietTick (some (.int o.1)) o.2) := by
  intro n
  induction n with
  | zero =>
    intro l0 l2 l3 L h o g0 g2 g3 e
    cases e
  | succ n ih =>
    intro l0 l2 l3 L h o g0 g2 g3 e
    unfold f_X10_lastQuietTick_4 at e
    refine r_iload_n d_X10_lastQuietTick_4 rfl g3 ?_
    refine r_bipush d_X10_lastQuietTick_5 (v := (64 : Int32)) (by decide +kernel) ?_
    refine r_icmp_ge d_X10_lastQuietTick_7 (tgt := 62) (by decide) (fun c1 => ?_) (fun c1 => ?_)
    · replace e := (if_pos c1).symm.trans e
      refine r_iload_n d_X10_lastQuietTick_62 rfl g2 ?_
      refine g_ald_n d_X10_lastQuietTick_63 rfl g0 ?_
      replace e := ckd e
      obtain ⟨k2, e⟩ := e
      refine g_getR d_X10_lastQuietTick_64 (f := 1101) k2 fk_9_31 rfl rfl ?_
      replace e := ckd e
      obtain ⟨k3, e⟩ := e
      refine g_getI d_X10_lastQuietTick_67 (f := 100) k3 fk_9_144 rfl rfl ?_
      refine g_mmax d_X10_lastQuietTick_70 (by decide +kernel) (by omega) (by simp [zrf_cat, cat_int, cat_long]) ?_
      obtain rfl := Option.some.inj e
      exact g_iret d_X10_lastQuietTick_73 rfl rfl
    · replace e := (if_neg c1).symm.trans e
      refine g_ald_n d_X10_lastQuietTick_10 rfl g0 ?_
      refine r_iload_n d_X10_lastQuietTick_11 rfl g3 ?_
      replace e := ckd e
      obtain ⟨k5, e⟩ := e
      replace e := bd e
      obtain ⟨q4, eq4, e⟩ := e
      refine g_callV d_X10_lastQuietTick_12 vk_9_111 (as := [_]) rfl k5 rfl (by simp [zrf_cat, cat_int, cat_long]) (j := 2) (by omega) (c_X10_find (by omega) eq4) ?_
      refine s_ast d_X10_lastQuietTick_15 (by decide) (fun L g4 gK => ?_)
      replace g0 := gK _ _ (by decide) (Or.inr (zrf_cat _)) g0
      replace g2 := gK _ _ (by decide) (Or.inr rfl) g2
      replace g3 := gK _ _ (by decide) (Or.inr rfl) g3
      refine g_ald d_X10_lastQuietTick_17 g4 ?_
      refine g_ifnull d_X10_lastQuietTick_19 (tgt := 56) (by decide) (fun c6 => ?_) (fun c6 => ?_)
      · replace e := (if_pos c6).symm.trans e
        exact f_X10_lastQuietTick_56_ok _ hj ih _ _ _ _ _ _ g0 g2 g3 e
      · replace e := (if_neg c6).symm.trans e
        refine g_ald_n d_X10_lastQuietTick_22 rfl g0 ?_
        replace e := ckd e
        obtain ⟨k7, e⟩ := e
        refine g_getR d_X10_lastQuietTick_23 (f := 1103) k7 fk_9_18 rfl rfl ?_
        refine r_iload_n d_X10_lastQuietTick_26 rfl g3 ?_
        refine r_iconst d_X10_lastQuietTick_27 (v := (4 : Int32)) (by decide +kernel) ?_
        refine r_irem d_X10_lastQuietTick_28 (by decide +kernel) ?_
        replace e := ckd e
        obtain ⟨k8, e⟩ := e
        replace e := ckd e
        obtain ⟨k9, e⟩ := e
        refine g_aald d_X10_lastQuietTick_29 k8 (by decide) (by decide) k9 rfl ?_
        replace e := ckd e
        obtain ⟨k11, e⟩ := e
        replace e := bd e
        obtain ⟨q10, eq10, e⟩ := e
        refine g_callV d_X10_lastQuietTick_30 vk_9_81 (as := []) rfl k11 rfl (by simp [zrf_cat, cat_int, cat_long]) (j := 1) (by omega) (c_X6_works (by omega) eq10) ?_
        refine r_if_eq d_X10_lastQuietTick_33 (tgt := 56) (by decide) (fun c12 => ?_) (fun c12 => ?_)
        · replace e := (if_pos c12).symm.trans e
          exact f_X10_lastQuietTick_56_ok _ hj ih _ _ _ _ _ _ g0 g2 g3 e
        · replace e := (if_neg c12).symm.trans e
          refine g_ald d_X10_lastQuietTick_36 g4 ?_
          replace e := ckd e
          obtain ⟨k14, e⟩ := e
          replace e := bd e
          obtain ⟨q13, eq13, e⟩ := e
          refine g_callV d_X10_lastQuietTick_38 vk_9_290 (as := []) rfl k14 rfl (by simp [zrf_cat, cat_int, cat_long]) (j := 1) (by omega) (c_X9_hasDeadline (by omega) eq13) ?_
          refine r_if_eq d_X10_lastQuietTick_41 (tgt := 56) (by decide) (fun c15 => ?_) (fun c15 => ?_)
          · replace e := (if_pos c15).symm.trans e
            exact f_X10_lastQuietTick_56_ok _ hj ih _ _ _ _ _ _ g0 g2 g3 e
          · replace e := (if_neg c15).symm.trans e
            refine r_iload_n d_X10_lastQuietTick_44 rfl g2 ?_
            refine g_ald d_X10_lastQuietTick_45 g4 ?_
            replace e := ckd e
            obtain ⟨k17, e⟩ := e
            replace e := bd e
            obtain ⟨q16, eq16, e⟩ := e
            refine g_callV d_X10_lastQuietTick_47 vk_9_293 (as := []) rfl k17 rfl (by simp [zrf_cat, cat_int, cat_long]) (j := 1) (by omega) (c_X9_deadline (by omega) eq16) ?_
            refine r_iconst d_X10_lastQuietTick_50 (v := (1 : Int32)) (by decide +kernel) ?_
            refine r_isub d_X10_lastQuietTick_51 ?_
            refine g_mmin d_X10_lastQuietTick_52 (by decide +kernel) (by omega) (by simp [zrf_cat, cat_int, cat_long]) ?_
            replace e := bhd e
            obtain ⟨_, rfl, e⟩ := e
            refine s_istore_n d_X10_lastQuietTick_55 rfl (by decide) (fun L g2 gK => ?_)
            replace g0 := gK _ _ (by decide) (Or.inr (zrf_cat _)) g0
            replace g3 := gK _ _ (by decide) (Or.inr rfl) g3
            exact f_X10_lastQuietTick_56_ok _ hj ih _ _ _ _ _ _ g0 g2 g3 e

def f_X10_lastQuietTick (l0 : Nat) (l1 : Int32) (h : Hp) : Option (Int32 × Hp) := f_X10_lastQuietTick_4 fz (l0) (l1) ((0 : Int32)) (h)
theorem f_X10_lastQuietTick_ok {G : Gd} {d : Nat} (hj : 3 ≤ d) : ∀ (l0 : Nat) (l1 : Int32) (L : List (Nat × Value)) (h : Hp) (o : (Int32 × Hp)), zlk L 0 = some (zrf (l0)) → zlk L 1 = some (.int (l1)) → f_X10_lastQuietTick l0 l1 h = some o → Ev G M_X10_lastQuietTick d 0 L [] h (Ret Y_X10_lastQuietTick (some (.int o.1)) o.2) := by
  intro l0 l1 L h o g0 g1 e
  unfold f_X10_lastQuietTick at e
  refine r_iload_n d_X10_lastQuietTick_0 rfl g1 ?_
  refine s_istore_n d_X10_lastQuietTick_1 rfl (by decide) (fun L g2 gK => ?_)
  replace g0 := gK _ _ (by decide) (Or.inr (zrf_cat _)) g0
  refine r_iconst d_X10_lastQuietTick_2 (v := (0 : Int32)) (by decide +kernel) ?_
  refine s_istore_n d_X10_lastQuietTick_3 rfl (by decide) (fun L g3 gK => ?_)
  replace g0 := gK _ _ (by decide) (Or.inr (zrf_cat _)) g0
  replace g2 := gK _ _ (by decide) (Or.inr rfl) g2
  exact f_X10_lastQuietTick_4_ok hj _ _ _ _ _ _ _ g0 g2 g3 e

theorem c_X10_lastQuietTick {G : Gd} {j : Nat} (hj : 3 ≤ j) {l0 : Nat} {l1 : Int32} {h : Hp} {o : (Int32 × Hp)} (e : f_X10_lastQuietTick l0 l1 h = some o) : Cal G j Y_X10_lastQuietTick [zrf (l0), .int (l1)] h (some (.int o.1)) o.2 := Cal.of (n := 0) (I := false) (by first | exact Or.inl (by decide +kernel) | exact Or.inr (by decide +kernel)) (by decide) (by simp [lg_sl, zrf_cat, cat_int, cat_long]) (f_X10_lastQuietTick_ok hj _ _ _ h o (by simp [lv_args, zlk, zrf_cat, cat_int, cat_long]) (by simp [lv_args, zlk, zrf_cat, cat_int, cat_long]) e)
theorem vk_9_343 : Vk "TaskWeave" 343 1 10 Y_X9_shardOf := ⟨yk_X9_shardOf, by decide +kernel, by decide +kernel, by decide +kernel, by decide⟩
theorem vk_9_346 : Vk "TaskWeave" 346 0 10 Y_X9_numberAsChild := ⟨yk_X9_numberAsChild, by decide +kernel, by decide +kernel, by decide +kernel, by decide⟩
theorem vk_9_340 : Vk "TaskWeave" 340 1 2 Y_X1_endOfChild := ⟨yk_X1_endOfChild, by decide +kernel, by decide +kernel, by decide +kernel, by decide⟩
def f_X10_sendEnd (l0 : Nat) (l1 : Nat) (l2 : Int32) (h : Hp) : Option (Int32 × Hp) := ck (isO (h) (l0) 11) (ck (isO (h) (l1) 10) ((f_X9_shardOf (l1) ((-1 : Int32)) (h)).bind (fun q2 => ck (isO (q2.2) (zR (h) 1103 (l0)) 26) (ck (inR (q2.1) (zL (q2.2) (zR (h) 1103 (l0)))) (bh (zQ (q2.2) (zR (h) 1103 (l0)) (q2.1).toNatClampNeg) (fun x6 => ck (isO (q2.2) (x6) 7) ((f_X6_works (x6) (q2.2)).bind (fun q7 => if (q7.1) = (0) then (some ((0 : Int32), q7.2)) else (ck (isO (q7.2) (l1) 10) ((f_X9_parent (l1) (q7.2)).bind (fun q10 => ck (isO (q10.2) (l0) 11) ((f_X10_find (l0) (q10.1) (q10.2)).bind (fun q12 => ck (isO (q12.2) (l1) 10) ((f_X9_numberAsChild (l1) (q12.2)).bind (fun q14 => if (q12.1) = 0 then (some ((1 : Int32), q14.2)) else (ck (isO (q14.2) (q12.1) 10) (if (zI (q14.2) 1007 (q12.1)) = ((4 : Int32)) then (some ((1 : Int32), q14.2)) else (ck (isO (q14.2) (zR (q14.2) 1002 (q12.1)) 2) ((f_X1_endOfChild (zR (q14.2) 1002 (q12.1)) (q14.1) (q14.2)).bind (fun q19 => if (q19.1) = ((-1 : Int32)) then (ck (isO (q19.2) (l1) 10) (ck (isO (q19.2) (zR (q19.2) 1002 (l1)) 2) (ck (isO (q19.2) (zR (q19.2) 201 (zR (q19.2) 1002 (l1))) 22) (ck (inR (l2) (zL (q19.2) (zR (q19.2) 201 (zR (q19.2) 1002 (l1))))) (ck (isO (q19.2) (x6) 7) ((f_X6_bring (x6) (q12.1) ((7 : Int32)) (q14.1) (zE (q19.2) (zR (q19.2) 201 (zR (q19.2) 1002 (l1))) (l2).toNatClampNeg) ((0 : Int32)) (q19.2)).bind (fun q26 => ck (isO (q26.2) (x6) 7) ((f_X6_settle (x6) (q26.2)).bind (fun q28 => ck (isB (q26.1)) (some (q26.1, q28))))))))))) else (some ((1 : Int32), q19.2))))))))))))))))))))))
theorem f_X10_sendEnd_ok {G : Gd} {d : Nat} (hj : 7 ≤ d) : ∀ (l0 : Nat) (l1 : Nat) (l2 : Int32) (L : List (Nat × Value)) (h : Hp) (o : (Int32 × Hp)), zlk L 0 = some (zrf (l0)) → zlk L 1 = some (zrf (l1)) → zlk L 2 = some (.int (l2)) → f_X10_sendEnd l0 l1 l2 h = some o → Ev G M_X10_sendEnd d 0 L [] h (Ret Y_X10_sendEnd (some (.int o.1)) o.2) := by
  intro l0 l1 l2 L h o g0 g1 g2 e
  unfold f_X10_sendEnd at e
  refine g_ald_n d_X10_sendEnd_0 rfl g0 ?_
  replace e := ckd e
  obtain ⟨k1, e⟩ := e
  refine g_getR d_X10_sendEnd_1 (f := 1103) k1 fk_9_18 rfl rfl ?_
  refine g_ald_n d_X10_sendEnd_4 rfl g1 ?_
  refine r_iconst d_X10_sendEnd_5 (v := (-1 : Int32)) (by decide +kernel) ?_
  replace e := ckd e
  obtain ⟨k3, e⟩ := e
  replace e := bd e
  obtain ⟨q2, eq2, e⟩ := e
  refine g_callV d_X10_sendEnd_6 vk_9_343 (as := [_]) rfl k3 rfl (by simp [zrf_cat, cat_int, cat_long]) (j := 2) (by omega) (c_X9_shardOf (by omega) eq2) ?_
  replace e := ckd e
  obtain ⟨k4, e⟩ := e
  replace e := ckd e
  obtain ⟨k5, e⟩ := e
  refine g_aald d_X10_sendEnd_9 k4 (by decide) (by decide) k5 rfl ?_
  replace e := bhd e
  obtain ⟨_, rfl, e⟩ := e
  refine s_ast_n d_X10_sendEnd_10 rfl (by decide) (fun L g3 gK => ?_)
  replace g0 := gK _ _ (by decide) (Or.inr (zrf_cat _)) g0
  replace g1 := gK _ _ (by decide) (Or.inr (zrf_cat _)) g1
  replace g2 := gK _ _ (by decide) (Or.inr rfl) g2
  refine g_ald_n d_X10_sendEnd_11 rfl g3 ?_
  replace e := ckd e
  obtain ⟨k8, e⟩ := e
  replace e := bd e
  obtain ⟨q7, eq7, e⟩ := e
  refine g_callV d_X10_sendEnd_12 vk_9_81 (as := []) rfl k8 rfl (by simp [zrf_cat, cat_int, cat_long]) (j := 1) (by omega) (c_X6_works (by omega) eq7) ?_
  refine r_if_ne d_X10_sendEnd_15 (tgt := 20) (by decide) (fun c9 => ?_) (fun c9 => ?_)
  · replace e := (if_neg c9).symm.trans e
    refine g_ald_n d_X10_sendEnd_20 rfl g0 ?_
    refine g_ald_n d_X10_sendEnd_21 rfl g1 ?_
    replace e := ckd e
    obtain ⟨k11, e⟩ := e
    replace e := bd e
    obtain ⟨q10, eq10, e⟩ := e
    refine g_callV d_X10_sendEnd_22 vk_9_241 (as := []) rfl k11 rfl (by simp [zrf_cat, cat_int, cat_long]) (j := 1) (by omega) (c_X9_parent (by omega) eq10) ?_
    replace e := ckd e
    obtain ⟨k13, e⟩ := e
    replace e := bd e
    obtain ⟨q12, eq12, e⟩ := e
    refine g_callV d_X10_sendEnd_25 vk_9_111 (as := [_]) rfl k13 rfl (by simp [zrf_cat, cat_int, cat_long]) (j := 2) (by omega) (c_X10_find (by omega) eq12) ?_
    refine s_ast d_X10_sendEnd_28 (by decide) (fun L g4 gK => ?_)
    replace g1 := gK _ _ (by decide) (Or.inr (zrf_cat _)) g1
    replace g2 := gK _ _ (by decide) (Or.inr rfl) g2
    replace g3 := gK _ _ (by decide) (Or.inr (zrf_cat _)) g3
    refine g_ald_n d_X10_sendEnd_30 rfl g1 ?_
    replace e := ckd e
    obtain ⟨k15, e⟩ := e
    replace e := bd e
    obtain ⟨q14, eq14, e⟩ := e
    refine g_callV d_X10_sendEnd_31 vk_9_346 (as := []) rfl k15 rfl (by simp [zrf_cat, cat_int, cat_long]) (j := 1) (by omega) (c_X9_numberAsChild (by omega) eq14) ?_
    refine s_istore d_X10_sendEnd_34 (by decide) (fun L g5 gK => ?_)
    replace g1 := gK _ _ (by decide) (Or.inr (zrf_cat _)) g1
    replace g2 := gK _ _ (by decide) (Or.inr rfl) g2
    replace g3 := gK _ _ (by decide) (Or.inr (zrf_cat _)) g3
    replace g4 := gK _ _ (by decide) (Or.inr (zrf_cat _)) g4
    refine g_ald d_X10_sendEnd_36 g4 ?_
    refine g_ifnull d_X10_sendEnd_38 (tgt := 64) (by decide) (fun c16 => ?_) (fun c16 => ?_)
    · replace e := (if_pos c16).symm.trans e
      refine r_iconst d_X10_sendEnd_64 (v := (1 : Int32)) (by decide +kernel) ?_
      obtain rfl := Option.some.inj e
      exact g_iret d_X10_sendEnd_65 rfl rfl
    · replace e := (if_neg c16).symm.trans e
      refine g_ald d_X10_sendEnd_41 g4 ?_
      replace e := ckd e
      obtain ⟨k17, e⟩ := e
      refine g_getI d_X10_sendEnd_43 (f := 1007) k17 fk_9_123 rfl rfl ?_
      refine r_iconst d_X10_sendEnd_46 (v := (4 : Int32)) (by decide +kernel) ?_
      refine r_icmp_eq d_X10_sendEnd_47 (tgt := 64) (by decide) (fun c18 => ?_) (fun c18 => ?_)
      · replace e := (if_pos c18).symm.trans e
        refine r_iconst d_X10_sendEnd_64 (v := (1 : Int32)) (by decide +kernel) ?_
        obtain rfl := Option.some.inj e
        exact g_iret d_X10_sendEnd_65 rfl rfl
      · replace e := (if_neg c18).symm.trans e
        refine g_ald d_X10_sendEnd_50 g4 ?_
        refine g_getR d_X10_sendEnd_52 (f := 1002) k17 fk_9_114 rfl rfl ?_
        refine r_iload d_X10_sendEnd_55 g5 ?_
        replace e := ckd e
        obtain ⟨k20, e⟩ := e
        replace e := bd e
        obtain ⟨q19, eq19, e⟩ := e
        refine g_callV d_X10_sendEnd_57 vk_9_340 (as := [_]) rfl k20 rfl (by simp [zrf_cat, cat_int, cat_long]) (j := 1) (by omega) (c_X1_endOfChild (by omega) eq19) ?_
        refine r_iconst d_X10_sendEnd_60 (v := (-1 : Int32)) (by decide +kernel) ?_
        refine r_icmp_eq d_X10_sendEnd_61 (tgt := 66) (by decide) (fun c21 => ?_) (fun c21 => ?_)
        · replace e := (if_pos c21).symm.trans e
          refine g_ald_n d_X10_sendEnd_66 rfl g3 ?_
          refine g_ald d_X10_sendEnd_67 g4 ?_
          refine r_bipush d_X10_sendEnd_69 (v := (7 : Int32)) (by decide +kernel) ?_
          refine r_iload d_X10_sendEnd_71 g5 ?_
          refine g_ald_n d_X10_sendEnd_73 rfl g1 ?_
          replace e := ckd e
          obtain ⟨k22, e⟩ := e
          refine g_getR d_X10_sendEnd_74 (f := 1002) k22 fk_9_114 rfl rfl ?_
          replace e := ckd e
          obtain ⟨k23, e⟩ := e
          refine g_getR d_X10_sendEnd_77 (f := 201) k23 fk_9_229 rfl rfl ?_
          refine r_iload_n d_X10_sendEnd_80 rfl g2 ?_
          replace e := ckd e
          obtain ⟨k24, e⟩ := e
          replace e := ckd e
          obtain ⟨k25, e⟩ := e
          refine g_iald d_X10_sendEnd_81 k24 k25 rfl ?_
          refine r_iconst d_X10_sendEnd_82 (v := (0 : Int32)) (by decide +kernel) ?_
          replace e := ckd e
          obtain ⟨k27, e⟩ := e
          replace e := bd e
          obtain ⟨q26, eq26, e⟩ := e
          refine g_callV d_X10_sendEnd_83 vk_9_126 (as := [_, _, _, _, _]) rfl k27 rfl (by simp [zrf_cat, cat_int, cat_long]) (j := 6) (by omega) (c_X6_bring (by omega) eq26) ?_
          refine s_istore d_X10_sendEnd_86 (by decide) (fun L g6 gK => ?_)
          replace g3 := gK _ _ (by decide) (Or.inr (zrf_cat _)) g3
          refine g_ald_n d_X10_sendEnd_88 rfl g3 ?_
          replace e := ckd e
          obtain ⟨k29, e⟩ := e
          replace e := bd e
          obtain ⟨q28, eq28, e⟩ := e
          refine g_callV d_X10_sendEnd_89 vk_9_108 (as := []) rfl k29 rfl (by simp [zrf_cat, cat_int, cat_long]) (j := 6) (by omega) (c_X6_settle (by omega) eq28) ?_
          refine r_iload d_X10_sendEnd_92 g6 ?_
          replace e := ckd e
          obtain ⟨k30, e⟩ := e
          obtain rfl := Option.some.inj e
          exact g_iret d_X10_sendEnd_94 rfl k30
        · replace e := (if_neg c21).symm.trans e
          refine r_iconst d_X10_sendEnd_64 (v := (1 : Int32)) (by decide +kernel) ?_
          obtain rfl := Option.some.inj e
          exact g_iret d_X10_sendEnd_65 rfl rfl
  · replace e := (if_pos c9).symm.trans e
    refine r_iconst d_X10_sendEnd_18 (v := (0 : Int32)) (by decide +kernel) ?_
    obtain rfl := Option.some.inj e
    exact g_iret d_X10_sendEnd_19 rfl rfl

theorem c_X10_sendEnd {G : Gd} {j : Nat} (hj : 7 ≤ j) {l0 : Nat} {l1 : Nat} {l2 : Int32} {h : Hp} {o : (Int32 × Hp)} (e : f_X10_sendEnd l0 l1 l2 h = some o) : Cal G j Y_X10_sendEnd [zrf (l0), zrf (l1), .int (l2)] h (some (.int o.1)) o.2 := Cal.of (n := 0) (I := false) (by first | exact Or.inl (by decide +kernel) | exact Or.inr (by decide +kernel)) (by decide) (by simp [lg_sl, zrf_cat, cat_int, cat_long]) (f_X10_sendEnd_ok hj _ _ _ _ h o (by simp [lv_args, zlk, zrf_cat, cat_int, cat_long]) (by simp [lv_args, zlk, zrf_cat, cat_int, cat_long]) (by simp [lv_args, zlk, zrf_cat, cat_int, cat_long]) e)
