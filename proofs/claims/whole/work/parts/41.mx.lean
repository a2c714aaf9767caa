abbrev Y_X10_event : Yx := (⟨"TaskWeave", "event", "(III)I"⟩, prog_1_method_19_code, 5, (some .int))
abbrev M_X10_event : Mx := ("TaskWeave", prog_1_method_19_code, 5, false)
theorem yk_X10_event : Yk Y_X10_event 3 := ⟨by decide +kernel, by decide +kernel, ⟨by decide, by decide⟩, by decide +kernel, by decide, trivial⟩
theorem d_X10_event_0 : decode prog_1_method_19_code 0 = .ok (.aload_n 0, 1) := by decide +kernel
theorem d_X10_event_1 : decode prog_1_method_19_code 1 = .ok (.iload_n 1, 1) := by decide +kernel
theorem d_X10_event_2 : decode prog_1_method_19_code 2 = .ok (.invokevirtual 111, 3) := by decide +kernel
theorem d_X10_event_5 : decode prog_1_method_19_code 5 = .ok (.astore 4, 2) := by decide +kernel
theorem d_X10_event_7 : decode prog_1_method_19_code 7 = .ok (.aload 4, 2) := by decide +kernel
theorem d_X10_event_9 : decode prog_1_method_19_code 9 = .ok (.ifnull 19, 3) := by decide +kernel
theorem d_X10_event_12 : decode prog_1_method_19_code 12 = .ok (.iload_n 2, 1) := by decide +kernel
theorem d_X10_event_13 : decode prog_1_method_19_code 13 = .ok (.ifCond .lt 15, 3) := by decide +kernel
theorem d_X10_event_16 : decode prog_1_method_19_code 16 = .ok (.iload_n 2, 1) := by decide +kernel
theorem d_X10_event_17 : decode prog_1_method_19_code 17 = .ok (.aload 4, 2) := by decide +kernel
theorem d_X10_event_19 : decode prog_1_method_19_code 19 = .ok (.getfield 114, 3) := by decide +kernel
theorem d_X10_event_22 : decode prog_1_method_19_code 22 = .ok (.getfield 226, 3) := by decide +kernel
theorem d_X10_event_25 : decode prog_1_method_19_code 25 = .ok (.if_icmp .lt 13, 3) := by decide +kernel
theorem d_X10_event_28 : decode prog_1_method_19_code 28 = .ok (.new 130, 3) := by decide +kernel
theorem d_X10_event_31 : decode prog_1_method_19_code 31 = .ok (.dup, 1) := by decide +kernel
theorem d_X10_event_32 : decode prog_1_method_19_code 32 = .ok (.ldc 245, 2) := by decide +kernel
theorem d_X10_event_34 : decode prog_1_method_19_code 34 = .ok (.invokespecial 134, 3) := by decide +kernel
theorem d_X10_event_37 : decode prog_1_method_19_code 37 = .ok (.athrow, 1) := by decide +kernel
theorem d_X10_event_38 : decode prog_1_method_19_code 38 = .ok (.iload_n 3, 1) := by decide +kernel
theorem d_X10_event_39 : decode prog_1_method_19_code 39 = .ok (.tableswitch 73 0 3 #[29, 40, 51, 62], 29) := by decide +kernel
theorem d_X10_event_68 : decode prog_1_method_19_code 68 = .ok (.aload 4, 2) := by decide +kernel
theorem d_X10_event_70 : decode prog_1_method_19_code 70 = .ok (.getfield 114, 3) := by decide +kernel
theorem d_X10_event_73 : decode prog_1_method_19_code 73 = .ok (.getfield 247, 3) := by decide +kernel
theorem d_X10_event_76 : decode prog_1_method_19_code 76 = .ok (.iload_n 2, 1) := by decide +kernel
theorem d_X10_event_77 : decode prog_1_method_19_code 77 = .ok (.iaload, 1) := by decide +kernel
theorem d_X10_event_78 : decode prog_1_method_19_code 78 = .ok (.ireturn, 1) := by decide +kernel
theorem d_X10_event_79 : decode prog_1_method_19_code 79 = .ok (.aload 4, 2) := by decide +kernel
theorem d_X10_event_81 : decode prog_1_method_19_code 81 = .ok (.getfield 114, 3) := by decide +kernel
theorem d_X10_event_84 : decode prog_1_method_19_code 84 = .ok (.getfield 229, 3) := by decide +kernel
theorem d_X10_event_87 : decode prog_1_method_19_code 87 = .ok (.iload_n 2, 1) := by decide +kernel
theorem d_X10_event_88 : decode prog_1_method_19_code 88 = .ok (.iaload, 1) := by decide +kernel
theorem d_X10_event_89 : decode prog_1_method_19_code 89 = .ok (.ireturn, 1) := by decide +kernel
theorem d_X10_event_90 : decode prog_1_method_19_code 90 = .ok (.aload 4, 2) := by decide +kernel
theorem d_X10_event_92 : decode prog_1_method_19_code 92 = .ok (.getfield 114, 3) := by decide +kernel
theorem d_X10_event_95 : decode prog_1_method_19_code 95 = .ok (.getfield 250, 3) := by decide +kernel
theorem d_X10_event_98 : decode prog_1_method_19_code 98 = .ok (.iload_n 2, 1) := by decide +kernel
theorem d_X10_event_99 : decode prog_1_method_19_code 99 = .ok (.iaload, 1) := by decide +kernel
theorem d_X10_event_100 : decode prog_1_method_19_code 100 = .ok (.ireturn, 1) := by decide +kernel
theorem d_X10_event_101 : decode prog_1_method_19_code 101 = .ok (.aload 4, 2) := by decide +kernel
theorem d_X10_event_103 : decode prog_1_method_19_code 103 = .ok (.getfield 114, 3) := by decide +kernel
theorem d_X10_event_106 : decode prog_1_method_19_code 106 = .ok (.getfield 253, 3) := by decide +kernel
theorem d_X10_event_109 : decode prog_1_method_19_code 109 = .ok (.iload_n 2, 1) := by decide +kernel
theorem d_X10_event_110 : decode prog_1_method_19_code 110 = .ok (.iaload, 1) := by decide +kernel
theorem d_X10_event_111 : decode prog_1_method_19_code 111 = .ok (.ireturn, 1) := by decide +kernel
theorem d_X10_event_112 : decode prog_1_method_19_code 112 = .ok (.new 46, 3) := by decide +kernel
theorem d_X10_event_115 : decode prog_1_method_19_code 115 = .ok (.dup, 1) := by decide +kernel
theorem d_X10_event_116 : decode prog_1_method_19_code 116 = .ok (.ldc_w 256, 3) := by decide +kernel
theorem d_X10_event_119 : decode prog_1_method_19_code 119 = .ok (.invokespecial 50, 3) := by decide +kernel
theorem d_X10_event_122 : decode prog_1_method_19_code 122 = .ok (.athrow, 1) := by decide +kernel
abbrev Y_X10_program : Yx := (⟨"TaskWeave", "program", "(I)I"⟩, prog_1_method_3_code, 3, (some .int))
abbrev M_X10_program : Mx := ("TaskWeave", prog_1_method_3_code, 3, false)
theorem yk_X10_program : Yk Y_X10_program 1 := ⟨by decide +kernel, by decide +kernel, ⟨by decide, by decide⟩, by decide +kernel, by decide, trivial⟩
theorem d_X10_program_0 : decode prog_1_method_3_code 0 = .ok (.iload_n 1, 1) := by decide +kernel
theorem d_X10_program_1 : decode prog_1_method_3_code 1 = .ok (.ifCond .lt 9, 3) := by decide +kernel
theorem d_X10_program_4 : decode prog_1_method_3_code 4 = .ok (.iload_n 1, 1) := by decide +kernel
theorem d_X10_program_5 : decode prog_1_method_3_code 5 = .ok (.bipush 8, 2) := by decide +kernel
theorem d_X10_program_7 : decode prog_1_method_3_code 7 = .ok (.if_icmp .lt 20, 3) := by decide +kernel
theorem d_X10_program_10 : decode prog_1_method_3_code 10 = .ok (.aload_n 0, 1) := by decide +kernel
theorem d_X10_program_11 : decode prog_1_method_3_code 11 = .ok (.getfield 10, 3) := by decide +kernel
theorem d_X10_program_14 : decode prog_1_method_3_code 14 = .ok (.invokevirtual 43, 3) := by decide +kernel
theorem d_X10_program_17 : decode prog_1_method_3_code 17 = .ok (.new 46, 3) := by decide +kernel
theorem d_X10_program_20 : decode prog_1_method_3_code 20 = .ok (.dup, 1) := by decide +kernel
theorem d_X10_program_21 : decode prog_1_method_3_code 21 = .ok (.ldc 48, 2) := by decide +kernel
theorem d_X10_program_23 : decode prog_1_method_3_code 23 = .ok (.invokespecial 50, 3) := by decide +kernel
theorem d_X10_program_26 : decode prog_1_method_3_code 26 = .ok (.athrow, 1) := by decide +kernel
theorem d_X10_program_27 : decode prog_1_method_3_code 27 = .ok (.aload_n 0, 1) := by decide +kernel
theorem d_X10_program_28 : decode prog_1_method_3_code 28 = .ok (.getfield 10, 3) := by decide +kernel
theorem d_X10_program_31 : decode prog_1_method_3_code 31 = .ok (.invokevirtual 53, 3) := by decide +kernel
theorem d_X10_program_34 : decode prog_1_method_3_code 34 = .ok (.astore_n 2, 1) := by decide +kernel
theorem d_X10_program_35 : decode prog_1_method_3_code 35 = .ok (.aload_n 2, 1) := by decide +kernel
theorem d_X10_program_36 : decode prog_1_method_3_code 36 = .ok (.ifnonnull 13, 3) := by decide +kernel
theorem d_X10_program_39 : decode prog_1_method_3_code 39 = .ok (.new 57, 3) := by decide +kernel
theorem d_X10_program_42 : decode prog_1_method_3_code 42 = .ok (.dup, 1) := by decide +kernel
theorem d_X10_program_43 : decode prog_1_method_3_code 43 = .ok (.ldc 59, 2) := by decide +kernel
theorem d_X10_program_45 : decode prog_1_method_3_code 45 = .ok (.invokespecial 61, 3) := by decide +kernel
theorem d_X10_program_48 : decode prog_1_method_3_code 48 = .ok (.athrow, 1) := by decide +kernel
theorem d_X10_program_49 : decode prog_1_method_3_code 49 = .ok (.aload_n 0, 1) := by decide +kernel
theorem d_X10_program_50 : decode prog_1_method_3_code 50 = .ok (.getfield 35, 3) := by decide +kernel
theorem d_X10_program_53 : decode prog_1_method_3_code 53 = .ok (.iload_n 1, 1) := by decide +kernel
theorem d_X10_program_54 : decode prog_1_method_3_code 54 = .ok (.aaload, 1) := by decide +kernel
theorem d_X10_program_55 : decode prog_1_method_3_code 55 = .ok (.getfield 62, 3) := by decide +kernel
theorem d_X10_program_58 : decode prog_1_method_3_code 58 = .ok (.aload_n 2, 1) := by decide +kernel
theorem d_X10_program_59 : decode prog_1_method_3_code 59 = .ok (.invokevirtual 66, 3) := by decide +kernel
theorem d_X10_program_62 : decode prog_1_method_3_code 62 = .ok (.pop, 1) := by decide +kernel
theorem d_X10_program_63 : decode prog_1_method_3_code 63 = .ok (.aload_n 2, 1) := by decide +kernel
theorem d_X10_program_64 : decode prog_1_method_3_code 64 = .ok (.getfield 72, 3) := by decide +kernel
theorem d_X10_program_67 : decode prog_1_method_3_code 67 = .ok (.ireturn, 1) := by decide +kernel
abbrev Y_X10_query : Yx := (⟨"TaskWeave", "query", "(II)I"⟩, prog_1_method_8_code, 4, (some .int))
abbrev M_X10_query : Mx := ("TaskWeave", prog_1_method_8_code, 4, false)
theorem yk_X10_query : Yk Y_X10_query 2 := ⟨by decide +kernel, by decide +kernel, ⟨by decide, by decide⟩, by decide +kernel, by decide, trivial⟩
theorem d_X10_query_0 : decode prog_1_method_8_code 0 = .ok (.aload_n 0, 1) := by decide +kernel
theorem d_X10_query_1 : decode prog_1_method_8_code 1 = .ok (.iload_n 1, 1) := by decide +kernel
theorem d_X10_query_2 : decode prog_1_method_8_code 2 = .ok (.invokevirtual 111, 3) := by decide +kernel
theorem d_X10_query_5 : decode prog_1_method_8_code 5 = .ok (.astore_n 3, 1) := by decide +kernel
theorem d_X10_query_6 : decode prog_1_method_8_code 6 = .ok (.aload_n 3, 1) := by decide +kernel
theorem d_X10_query_7 : decode prog_1_method_8_code 7 = .ok (.ifnull 13, 3) := by decide +kernel
theorem d_X10_query_10 : decode prog_1_method_8_code 10 = .ok (.iload_n 2, 1) := by decide +kernel
theorem d_X10_query_11 : decode prog_1_method_8_code 11 = .ok (.ifCond .lt 9, 3) := by decide +kernel
theorem d_X10_query_14 : decode prog_1_method_8_code 14 = .ok (.iload_n 2, 1) := by decide +kernel
theorem d_X10_query_15 : decode prog_1_method_8_code 15 = .ok (.bipush 8, 2) := by decide +kernel
theorem d_X10_query_17 : decode prog_1_method_8_code 17 = .ok (.if_icmp .lt 13, 3) := by decide +kernel
theorem d_X10_query_20 : decode prog_1_method_8_code 20 = .ok (.new 130, 3) := by decide +kernel
theorem d_X10_query_23 : decode prog_1_method_8_code 23 = .ok (.dup, 1) := by decide +kernel
theorem d_X10_query_24 : decode prog_1_method_8_code 24 = .ok (.ldc 132, 2) := by decide +kernel
theorem d_X10_query_26 : decode prog_1_method_8_code 26 = .ok (.invokespecial 134, 3) := by decide +kernel
theorem d_X10_query_29 : decode prog_1_method_8_code 29 = .ok (.athrow, 1) := by decide +kernel
theorem d_X10_query_30 : decode prog_1_method_8_code 30 = .ok (.aload_n 0, 1) := by decide +kernel
theorem d_X10_query_31 : decode prog_1_method_8_code 31 = .ok (.getfield 18, 3) := by decide +kernel
theorem d_X10_query_34 : decode prog_1_method_8_code 34 = .ok (.iload_n 1, 1) := by decide +kernel
theorem d_X10_query_35 : decode prog_1_method_8_code 35 = .ok (.iconst 4, 1) := by decide +kernel
theorem d_X10_query_36 : decode prog_1_method_8_code 36 = .ok (.irem, 1) := by decide +kernel
theorem d_X10_query_37 : decode prog_1_method_8_code 37 = .ok (.aaload, 1) := by decide +kernel
theorem d_X10_query_38 : decode prog_1_method_8_code 38 = .ok (.invokevirtual 81, 3) := by decide +kernel
theorem d_X10_query_41 : decode prog_1_method_8_code 41 = .ok (.ifCond .ne 13, 3) := by decide +kernel
theorem d_X10_query_44 : decode prog_1_method_8_code 44 = .ok (.new 135, 3) := by decide +kernel
theorem d_X10_query_47 : decode prog_1_method_8_code 47 = .ok (.dup, 1) := by decide +kernel
theorem d_X10_query_48 : decode prog_1_method_8_code 48 = .ok (.ldc 137, 2) := by decide +kernel
theorem d_X10_query_50 : decode prog_1_method_8_code 50 = .ok (.invokespecial 139, 3) := by decide +kernel
theorem d_X10_query_53 : decode prog_1_method_8_code 53 = .ok (.athrow, 1) := by decide +kernel
theorem d_X10_query_54 : decode prog_1_method_8_code 54 = .ok (.aload_n 3, 1) := by decide +kernel
theorem d_X10_query_55 : decode prog_1_method_8_code 55 = .ok (.getfield 140, 3) := by decide +kernel
theorem d_X10_query_58 : decode prog_1_method_8_code 58 = .ok (.iload_n 2, 1) := by decide +kernel
theorem d_X10_query_59 : decode prog_1_method_8_code 59 = .ok (.iaload, 1) := by decide +kernel
theorem d_X10_query_60 : decode prog_1_method_8_code 60 = .ok (.ireturn, 1) := by decide +kernel
abbrev Y_X10_tick : Yx := (⟨"TaskWeave", "tick", "(I)I"⟩, prog_1_method_14_code, 7, (some .int))
abbrev M_X10_tick : Mx := ("TaskWeave", prog_1_method_14_code, 7, false)
theorem yk_X10_tick : Yk Y_X10_tick 1 := ⟨by decide +kernel, by decide +kernel, ⟨by decide, by decide⟩, by decide +kernel, by decide, trivial⟩
theorem d_X10_tick_0 : decode prog_1_method_14_code 0 = .ok (.iload_n 1, 1) := by decide +kernel
theorem d_X10_tick_1 : decode prog_1_method_14_code 1 = .ok (.iconst 1, 1) := by decide +kernel
theorem d_X10_tick_2 : decode prog_1_method_14_code 2 = .ok (.if_icmp .lt 10, 3) := by decide +kernel
theorem d_X10_tick_5 : decode prog_1_method_14_code 5 = .ok (.iload_n 1, 1) := by decide +kernel
theorem d_X10_tick_6 : decode prog_1_method_14_code 6 = .ok (.sipush 500, 3) := by decide +kernel
theorem d_X10_tick_9 : decode prog_1_method_14_code 9 = .ok (.if_icmp .le 13, 3) := by decide +kernel
theorem d_X10_tick_12 : decode prog_1_method_14_code 12 = .ok (.new 57, 3) := by decide +kernel
theorem d_X10_tick_15 : decode prog_1_method_14_code 15 = .ok (.dup, 1) := by decide +kernel
theorem d_X10_tick_16 : decode prog_1_method_14_code 16 = .ok (.ldc 182, 2) := by decide +kernel
theorem d_X10_tick_18 : decode prog_1_method_14_code 18 = .ok (.invokespecial 61, 3) := by decide +kernel
theorem d_X10_tick_21 : decode prog_1_method_14_code 21 = .ok (.athrow, 1) := by decide +kernel
theorem d_X10_tick_22 : decode prog_1_method_14_code 22 = .ok (.aload_n 0, 1) := by decide +kernel
theorem d_X10_tick_23 : decode prog_1_method_14_code 23 = .ok (.getfield 31, 3) := by decide +kernel
theorem d_X10_tick_26 : decode prog_1_method_14_code 26 = .ok (.getfield 144, 3) := by decide +kernel
theorem d_X10_tick_29 : decode prog_1_method_14_code 29 = .ok (.iload_n 1, 1) := by decide +kernel
theorem d_X10_tick_30 : decode prog_1_method_14_code 30 = .ok (.iadd, 1) := by decide +kernel
theorem d_X10_tick_31 : decode prog_1_method_14_code 31 = .ok (.istore_n 2, 1) := by decide +kernel
theorem d_X10_tick_32 : decode prog_1_method_14_code 32 = .ok (.iconst 0, 1) := by decide +kernel
theorem d_X10_tick_33 : decode prog_1_method_14_code 33 = .ok (.istore_n 3, 1) := by decide +kernel
theorem d_X10_tick_34 : decode prog_1_method_14_code 34 = .ok (.iload_n 3, 1) := by decide +kernel
theorem d_X10_tick_35 : decode prog_1_method_14_code 35 = .ok (.iload_n 1, 1) := by decide +kernel
theorem d_X10_tick_36 : decode prog_1_method_14_code 36 = .ok (.if_icmp .ge 112, 3) := by decide +kernel
theorem d_X10_tick_39 : decode prog_1_method_14_code 39 = .ok (.aload_n 0, 1) := by decide +kernel
theorem d_X10_tick_40 : decode prog_1_method_14_code 40 = .ok (.getfield 31, 3) := by decide +kernel
theorem d_X10_tick_43 : decode prog_1_method_14_code 43 = .ok (.getfield 144, 3) := by decide +kernel
theorem d_X10_tick_46 : decode prog_1_method_14_code 46 = .ok (.iload_n 2, 1) := by decide +kernel
theorem d_X10_tick_47 : decode prog_1_method_14_code 47 = .ok (.if_icmp .eq 101, 3) := by decide +kernel
theorem d_X10_tick_50 : decode prog_1_method_14_code 50 = .ok (.aload_n 0, 1) := by decide +kernel
theorem d_X10_tick_51 : decode prog_1_method_14_code 51 = .ok (.invokevirtual 184, 3) := by decide +kernel
theorem d_X10_tick_54 : decode prog_1_method_14_code 54 = .ok (.lstore 4, 2) := by decide +kernel
theorem d_X10_tick_56 : decode prog_1_method_14_code 56 = .ok (.aload_n 0, 1) := by decide +kernel
theorem d_X10_tick_57 : decode prog_1_method_14_code 57 = .ok (.getfield 31, 3) := by decide +kernel
theorem d_X10_tick_60 : decode prog_1_method_14_code 60 = .ok (.dup, 1) := by decide +kernel
theorem d_X10_tick_61 : decode prog_1_method_14_code 61 = .ok (.getfield 144, 3) := by decide +kernel
theorem d_X10_tick_64 : decode prog_1_method_14_code 64 = .ok (.iconst 1, 1) := by decide +kernel
theorem d_X10_tick_65 : decode prog_1_method_14_code 65 = .ok (.iadd, 1) := by decide +kernel
theorem d_X10_tick_66 : decode prog_1_method_14_code 66 = .ok (.putfield 144, 3) := by decide +kernel
theorem d_X10_tick_69 : decode prog_1_method_14_code 69 = .ok (.iconst 0, 1) := by decide +kernel
theorem d_X10_tick_70 : decode prog_1_method_14_code 70 = .ok (.istore 6, 2) := by decide +kernel
theorem d_X10_tick_72 : decode prog_1_method_14_code 72 = .ok (.iload 6, 2) := by decide +kernel
theorem d_X10_tick_74 : decode prog_1_method_14_code 74 = .ok (.iconst 4, 1) := by decide +kernel
theorem d_X10_tick_75 : decode prog_1_method_14_code 75 = .ok (.if_icmp .ge 19, 3) := by decide +kernel
theorem d_X10_tick_78 : decode prog_1_method_14_code 78 = .ok (.aload_n 0, 1) := by decide +kernel
theorem d_X10_tick_79 : decode prog_1_method_14_code 79 = .ok (.getfield 18, 3) := by decide +kernel
theorem d_X10_tick_82 : decode prog_1_method_14_code 82 = .ok (.iload 6, 2) := by decide +kernel
theorem d_X10_tick_84 : decode prog_1_method_14_code 84 = .ok (.aaload, 1) := by decide +kernel
theorem d_X10_tick_85 : decode prog_1_method_14_code 85 = .ok (.invokevirtual 188, 3) := by decide +kernel
theorem d_X10_tick_88 : decode prog_1_method_14_code 88 = .ok (.iinc 6 1, 3) := by decide +kernel
theorem d_X10_tick_91 : decode prog_1_method_14_code 91 = .ok (.goto (-19), 3) := by decide +kernel
theorem d_X10_tick_94 : decode prog_1_method_14_code 94 = .ok (.iconst 0, 1) := by decide +kernel
theorem d_X10_tick_95 : decode prog_1_method_14_code 95 = .ok (.istore 6, 2) := by decide +kernel
theorem d_X10_tick_97 : decode prog_1_method_14_code 97 = .ok (.iload 6, 2) := by decide +kernel
theorem d_X10_tick_99 : decode prog_1_method_14_code 99 = .ok (.iconst 4, 1) := by decide +kernel
theorem d_X10_tick_100 : decode prog_1_method_14_code 100 = .ok (.if_icmp .ge 20, 3) := by decide +kernel
theorem d_X10_tick_103 : decode prog_1_method_14_code 103 = .ok (.aload_n 0, 1) := by decide +kernel
theorem d_X10_tick_104 : decode prog_1_method_14_code 104 = .ok (.aload_n 0, 1) := by decide +kernel
theorem d_X10_tick_105 : decode prog_1_method_14_code 105 = .ok (.getfield 18, 3) := by decide +kernel
theorem d_X10_tick_108 : decode prog_1_method_14_code 108 = .ok (.iload 6, 2) := by decide +kernel
theorem d_X10_tick_110 : decode prog_1_method_14_code 110 = .ok (.aaload, 1) := by decide +kernel
theorem d_X10_tick_111 : decode prog_1_method_14_code 111 = .ok (.invokevirtual 191, 3) := by decide +kernel
theorem d_X10_tick_114 : decode prog_1_method_14_code 114 = .ok (.iinc 6 1, 3) := by decide +kernel
theorem d_X10_tick_117 : decode prog_1_method_14_code 117 = .ok (.goto (-20), 3) := by decide +kernel
theorem d_X10_tick_120 : decode prog_1_method_14_code 120 = .ok (.aload_n 0, 1) := by decide +kernel
theorem d_X10_tick_121 : decode prog_1_method_14_code 121 = .ok (.invokevirtual 184, 3) := by decide +kernel
theorem d_X10_tick_124 : decode prog_1_method_14_code 124 = .ok (.lload 4, 2) := by decide +kernel
theorem d_X10_tick_126 : decode prog_1_method_14_code 126 = .ok (.lcmp, 1) := by decide +kernel
theorem d_X10_tick_127 : decode prog_1_method_14_code 127 = .ok (.ifCond .ne 15, 3) := by decide +kernel
theorem d_X10_tick_130 : decode prog_1_method_14_code 130 = .ok (.aload_n 0, 1) := by decide +kernel
theorem d_X10_tick_131 : decode prog_1_method_14_code 131 = .ok (.getfield 31, 3) := by decide +kernel
theorem d_X10_tick_134 : decode prog_1_method_14_code 134 = .ok (.aload_n 0, 1) := by decide +kernel
theorem d_X10_tick_135 : decode prog_1_method_14_code 135 = .ok (.iload_n 2, 1) := by decide +kernel
theorem d_X10_tick_136 : decode prog_1_method_14_code 136 = .ok (.invokevirtual 195, 3) := by decide +kernel
theorem d_X10_tick_139 : decode prog_1_method_14_code 139 = .ok (.putfield 144, 3) := by decide +kernel
theorem d_X10_tick_142 : decode prog_1_method_14_code 142 = .ok (.iinc 3 1, 3) := by decide +kernel
theorem d_X10_tick_145 : decode prog_1_method_14_code 145 = .ok (.goto (-111), 3) := by decide +kernel
theorem d_X10_tick_148 : decode prog_1_method_14_code 148 = .ok (.aload_n 0, 1) := by decide +kernel
theorem d_X10_tick_149 : decode prog_1_method_14_code 149 = .ok (.getfield 31, 3) := by decide +kernel
theorem d_X10_tick_152 : decode prog_1_method_14_code 152 = .ok (.getfield 144, 3) := by decide +kernel
theorem d_X10_tick_155 : decode prog_1_method_14_code 155 = .ok (.ireturn, 1) := by decide +kernel
theorem fk_9_253 : Fk "TaskWeave" 253 203 := ⟨by decide, by decide, by decide +kernel⟩
def f_X10_event (l0 : Nat) (l1 : Int32) (l2 : Int32) (l3 : Int32) (h : Hp) : Option (Sum (Int32 × Hp) (Nat × Hp)) := ck (isO (h) (l0) 11) ((f_X10_find (l0) (l1) (h)).bind (fun q1 => if (q1.1) = 0 then (some (.inr (28, q1.2))) else (if (l2) < (0) then (some (.inr (28, q1.2))) else (ck (isO (q1.2) (q1.1) 10) (ck (isO (q1.2) (zR (q1.2) 1002 (q1.1)) 2) (if (l2) < (zI (q1.2) 204 (zR (q1.2) 1002 (q1.1))) then (if (l3) = (0 : Int32) then (ck (isO (q1.2) (zR (q1.2) 200 (zR (q1.2) 1002 (q1.1))) 22) (ck (inR (l2) (zL (q1.2) (zR (q1.2) 200 (zR (q1.2) 1002 (q1.1))))) (some (.inl (zE (q1.2) (zR (q1.2) 200 (zR (q1.2) 1002 (q1.1))) (l2).toNatClampNeg, q1.2))))) else (if (l3) = (1 : Int32) then (ck (isO (q1.2) (zR (q1.2) 201 (zR (q1.2) 1002 (q1.1))) 22) (ck (inR (l2) (zL (q1.2) (zR (q1.2) 201 (zR (q1.2) 1002 (q1.1))))) (some (.inl (zE (q1.2) (zR (q1.2) 201 (zR (q1.2) 1002 (q1.1))) (l2).toNatClampNeg, q1.2))))) else (if (l3) = (2 : Int32) then (ck (isO (q1.2) (zR (q1.2) 202 (zR (q1.2) 1002 (q1.1))) 22) (ck (inR (l2) (zL (q1.2) (zR (q1.2) 202 (zR (q1.2) 1002 (q1.1))))) (some (.inl (zE (q1.2) (zR (q1.2) 202 (zR (q1.2) 1002 (q1.1))) (l2).toNatClampNeg, q1.2))))) else (if (l3) = (3 : Int32) then (ck (isO (q1.2) (zR (q1.2) 203 (zR (q1.2) 1002 (q1.1))) 22) (ck (inR (l2) (zL (q1.2) (zR (q1.2) 203 (zR (q1.2) 1002 (q1.1))))) (some (.inl (zE (q1.2) (zR (q1.2) 203 (zR (q1.2) 1002 (q1.1))) (l2).toNatClampNeg, q1.2))))) else (some (.inr (112, q1.2))))))) else (some (.inr (28, q1.2)))))))))
theorem f_X10_event_ok {G : Gd} {d : Nat} (hj : 3 ≤ d) : ∀ (l0 : Nat) (l1 : Int32) (l2 : Int32) (l3 : Int32) (L : List (Nat × Value)) (h : Hp) (o : (Sum (Int32 × Hp) (Nat × Hp))), zlk L 0 = some (zrf (l0)) → zlk L 1 = some (.int (l1)) → zlk L 2 = some (.int (l2)) → zlk L 3 = some (.int (l3)) → f_X10_event l0 l1 l2 l3 h = some o → Ev G M_X10_event d 0 L [] h (ZX Y_X10_event o) := by
  intro l0 l1 l2 l3 L h o g0 g1 g2 g3 e
  unfold f_X10_event at e
  refine g_ald_n d_X10_event_0 rfl g0 ?_
  refine r_iload_n d_X10_event_1 rfl g1 ?_
  replace e := ckd e
  obtain ⟨k2, e⟩ := e
  replace e := bd e
  obtain ⟨q1, eq1, e⟩ := e
  refine g_callV d_X10_event_2 vk_9_111 (as := [_]) rfl k2 rfl (by simp [zrf_cat, cat_int, cat_long]) (j := 2) (by omega) (c_X10_find (by omega) eq1) ?_
  refine s_ast d_X10_event_5 (by decide) (fun L g4 gK => ?_)
  replace g2 := gK _ _ (by decide) (Or.inr rfl) g2
  replace g3 := gK _ _ (by decide) (Or.inr rfl) g3
  refine g_ald d_X10_event_7 g4 ?_
  refine g_ifnull d_X10_event_9 (tgt := 28) (by decide) (fun c3 => ?_) (fun c3 => ?_)
  · replace e := (if_pos c3).symm.trans e
    obtain rfl := Option.some.inj e
    exact Ev.here ⟨rfl, rfl, rfl⟩
  · replace e := (if_neg c3).symm.trans e
    refine r_iload_n d_X10_event_12 rfl g2 ?_
    refine r_if_lt d_X10_event_13 (tgt := 28) (by decide) (fun c4 => ?_) (fun c4 => ?_)
    · replace e := (if_pos c4).symm.trans e
      obtain rfl := Option.some.inj e
      exact Ev.here ⟨rfl, rfl, rfl⟩
    · replace e := (if_neg c4).symm.trans e
      refine r_iload_n d_X10_event_16 rfl g2 ?_
      refine g_ald d_X10_event_17 g4 ?_
      replace e := ckd e
      obtain ⟨k5, e⟩ := e
      refine g_getR d_X10_event_19 (f := 1002) k5 fk_9_114 rfl rfl ?_
      replace e := ckd e
      obtain ⟨k6, e⟩ := e
      refine g_getI d_X10_event_22 (f := 204) k6 fk_9_226 rfl rfl ?_
      refine r_icmp_lt d_X10_event_25 (tgt := 38) (by decide) (fun c7 => ?_) (fun c7 => ?_)
      · replace e := (if_pos c7).symm.trans e
        refine r_iload_n d_X10_event_38 rfl g3 ?_
        rcases ite_or e with ⟨c8, e⟩ | ⟨c8, e⟩
        · refine r_tableIn d_X10_event_39 (off := 29) (tgt := 68) (by rw [c8]; decide +kernel) (by rw [c8]; decide +kernel) (by rw [c8] <;> rfl) (by decide) ?_
          refine g_ald d_X10_event_68 g4 ?_
          refine g_getR d_X10_event_70 (f := 1002) k5 fk_9_114 rfl rfl ?_
          refine g_getR d_X10_event_73 (f := 200) k6 fk_9_247 rfl rfl ?_
          refine r_iload_n d_X10_event_76 rfl g2 ?_
          replace e := ckd e
          obtain ⟨k9, e⟩ := e
          replace e := ckd e
          obtain ⟨k10, e⟩ := e
          refine g_iald d_X10_event_77 k9 k10 rfl ?_
          obtain rfl := Option.some.inj e
          exact g_iret d_X10_event_78 rfl rfl
        · rcases ite_or e with ⟨c11, e⟩ | ⟨c11, e⟩
          · refine r_tableIn d_X10_event_39 (off := 40) (tgt := 79) (by rw [c11]; decide +kernel) (by rw [c11]; decide +kernel) (by rw [c11] <;> rfl) (by decide) ?_
            refine g_ald d_X10_event_79 g4 ?_
            refine g_getR d_X10_event_81 (f := 1002) k5 fk_9_114 rfl rfl ?_
            refine g_getR d_X10_event_84 (f := 201) k6 fk_9_229 rfl rfl ?_
            refine r_iload_n d_X10_event_87 rfl g2 ?_
            replace e := ckd e
            obtain ⟨k12, e⟩ := e
            replace e := ckd e
            obtain ⟨k13, e⟩ := e
            refine g_iald d_X10_event_88 k12 k13 rfl ?_
            obtain rfl := Option.some.inj e
            exact g_iret d_X10_event_89 rfl rfl
          · rcases ite_or e with ⟨c14, e⟩ | ⟨c14, e⟩
            · refine r_tableIn d_X10_event_39 (off := 51) (tgt := 90) (by rw [c14]; decide +kernel) (by rw [c14]; decide +kernel) (by rw [c14] <;> rfl) (by decide) ?_
              refine g_ald d_X10_event_90 g4 ?_
              refine g_getR d_X10_event_92 (f := 1002) k5 fk_9_114 rfl rfl ?_
              refine g_getR d_X10_event_95 (f := 202) k6 fk_9_250 rfl rfl ?_
              refine r_iload_n d_X10_event_98 rfl g2 ?_
              replace e := ckd e
              obtain ⟨k15, e⟩ := e
              replace e := ckd e
              obtain ⟨k16, e⟩ := e
              refine g_iald d_X10_event_99 k15 k16 rfl ?_
              obtain rfl := Option.some.inj e
              exact g_iret d_X10_event_100 rfl rfl
            · rcases ite_or e with ⟨c17, e⟩ | ⟨c17, e⟩
              · refine r_tableIn d_X10_event_39 (off := 62) (tgt := 101) (by rw [c17]; decide +kernel) (by rw [c17]; decide +kernel) (by rw [c17] <;> rfl) (by decide) ?_
                refine g_ald d_X10_event_101 g4 ?_
                refine g_getR d_X10_event_103 (f := 1002) k5 fk_9_114 rfl rfl ?_
                refine g_getR d_X10_event_106 (f := 203) k6 fk_9_253 rfl rfl ?_
                refine r_iload_n d_X10_event_109 rfl g2 ?_
                replace e := ckd e
                obtain ⟨k18, e⟩ := e
                replace e := ckd e
                obtain ⟨k19, e⟩ := e
                refine g_iald d_X10_event_110 k18 k19 rfl ?_
                obtain rfl := Option.some.inj e
                exact g_iret d_X10_event_111 rfl rfl
              · refine r_tableOut d_X10_event_39 (tgt := 112) (by have := lv_neT (a := 0) c8 (by decide +kernel); have := lv_neT (a := 1) c11 (by decide +kernel); have := lv_neT (a := 2) c14 (by decide +kernel); have := lv_neT (a := 3) c17 (by decide +kernel); omega) (by decide) ?_
                obtain rfl := Option.some.inj e
                exact Ev.here ⟨rfl, rfl, rfl⟩
      · replace e := (if_neg c7).symm.trans e
        obtain rfl := Option.some.inj e
        exact Ev.here ⟨rfl, rfl, rfl⟩

theorem c_X10_event {G : Gd} {j : Nat} (hj : 3 ≤ j) {l0 : Nat} {l1 : Int32} {l2 : Int32} {l3 : Int32} {h : Hp} {o : Int32 × Hp} (e : f_X10_event l0 l1 l2 l3 h = some (.inl o)) : Cal G j Y_X10_event [zrf (l0), .int (l1), .int (l2), .int (l3)] h (some (.int o.1)) o.2 := Cal.of (n := 0) (I := false) (Or.inl (by decide +kernel)) (by decide) (by simp [lg_sl, zrf_cat, cat_int, cat_long]) (f_X10_event_ok hj _ _ _ _ _ h (.inl o) (by simp [lv_args, zlk, zrf_cat, cat_int, cat_long]) (by simp [lv_args, zlk, zrf_cat, cat_int, cat_long]) (by simp [lv_args, zlk, zrf_cat, cat_int, cat_long]) (by simp [lv_args, zlk, zrf_cat, cat_int, cat_long]) e)
theorem t_X10_event {G : Gd} {j : Nat} (hj : 3 ≤ j) {l0 : Nat} {l1 : Int32} {l2 : Int32} {l3 : Int32} {h : Hp} {o : Nat × Hp} (e : f_X10_event l0 l1 l2 l3 h = some (.inr o)) : Ev G M_X10_event j 0 (lv_args 0 [zrf (l0), .int (l1), .int (l2), .int (l3)]) [] h (ZX Y_X10_event (.inr o)) := f_X10_event_ok hj _ _ _ _ _ h (.inr o) (by simp [lv_args, zlk, zrf_cat, cat_int, cat_long]) (by simp [lv_args, zlk, zrf_cat, cat_int, cat_long]) (by simp [lv_args, zlk, zrf_cat, cat_int, cat_long]) (by simp [lv_args, zlk, zrf_cat, cat_int, cat_long]) e
theorem vk_9_43 : Vk "TaskWeave" 43 0 4 Y_X3_clear := ⟨yk_X3_clear, by decide +kernel, by decide +kernel, by decide +kernel, by decide⟩
theorem vk_9_53 : Vk "TaskWeave" 53 0 4 Y_X3_parse := ⟨yk_X3_parse, by decide +kernel, by decide +kernel, by decide +kernel, by decide⟩
theorem fk_9_62 : Fk "TaskWeave" 62 800 := ⟨by decide, by decide, by decide +kernel⟩
theorem vk_9_66 : Vk "TaskWeave" 66 1 0 Y_Jx4a65c_add_9ea2d := ⟨yk_Jx4a65c_add_9ea2d, by decide +kernel, by decide +kernel, by decide +kernel, by decide⟩
theorem fk_9_72 : Fk "TaskWeave" 72 500 := ⟨by decide, by decide, by decide +kernel⟩
def f_X10_program (l0 : Nat) (l1 : Int32) (h : Hp) : Option (Sum (Int32 × Hp) (Nat × Hp)) := if (l1) < (0) then (ck (isO (h) (l0) 11) (ck (isO (h) (zR (h) 1100 (l0)) 4) ((f_X3_clear (zR (h) 1100 (l0)) (h)).bind (fun q3 => some (.inr (17, q3)))))) else (if (l1) < ((8 : Int32)) then (ck (isO (h) (l0) 11) (ck (isO (h) (zR (h) 1100 (l0)) 4) ((f_X3_parse (zR (h) 1100 (l0)) (h)).bind (fun q7 => if (q7.1) = 0 then (some (.inr (39, q7.2))) else (ck (isO (q7.2) (l0) 11) (ck (isO (q7.2) (zR (q7.2) 1102 (l0)) 27) (ck (inR (l1) (zL (q7.2) (zR (q7.2) 1102 (l0)))) (ck (isO (q7.2) (zQ (q7.2) (zR (q7.2) 1102 (l0)) (l1).toNatClampNeg) 8) (ck (isO (q7.2) (zR (q7.2) 800 (zQ (q7.2) (zR (q7.2) 1102 (l0)) (l1).toNatClampNeg)) 0) ((f_Jx4a65c_add_9ea2d (zR (q7.2) 800 (zQ (q7.2) (zR (q7.2) 1102 (l0)) (l1).toNatClampNeg)) (q7.1) (q7.2)).bind (fun q14 => ck (isO (q14.2) (q7.1) 5) (some (.inl (zI (q14.2) 500 (q7.1), q14.2)))))))))))))) else (ck (isO (h) (l0) 11) (ck (isO (h) (zR (h) 1100 (l0)) 4) ((f_X3_clear (zR (h) 1100 (l0)) (h)).bind (fun q18 => some (.inr (17, q18)))))))
theorem f_X10_program_ok {G : Gd} {d : Nat} (hj : 8 ≤ d) : ∀ (l0 : Nat) (l1 : Int32) (L : List (Nat × Value)) (h : Hp) (o : (Sum (Int32 × Hp) (Nat × Hp))), zlk L 0 = some (zrf (l0)) → zlk L 1 = some (.int (l1)) → f_X10_program l0 l1 h = some o → Ev G M_X10_program d 0 L [] h (ZX Y_X10_program o) := by
  intro l0 l1 L h o g0 g1 e
  unfold f_X10_program at e
  refine r_iload_n d_X10_program_0 rfl g1 ?_
  refine r_if_lt d_X10_program_1 (tgt := 10) (by decide) (fun c1 => ?_) (fun c1 => ?_)
  · replace e := (if_pos c1).symm.trans e
    refine g_ald_n d_X10_program_10 rfl g0 ?_
    replace e := ckd e
    obtain ⟨k2, e⟩ := e
    refine g_getR d_X10_program_11 (f := 1100) k2 fk_9_10 rfl rfl ?_
    replace e := ckd e
    obtain ⟨k4, e⟩ := e
    replace e := bd e
    obtain ⟨q3, eq3, e⟩ := e
    refine g_callV d_X10_program_14 vk_9_43 (as := []) rfl k4 rfl (by simp [zrf_cat, cat_int, cat_long]) (j := 1) (by omega) (c_X3_clear (by omega) eq3) ?_
    obtain rfl := Option.some.inj e
    exact Ev.here ⟨rfl, rfl, rfl⟩
  · replace e := (if_neg c1).symm.trans e
    refine r_iload_n d_X10_program_4 rfl g1 ?_
    refine r_bipush d_X10_program_5 (v := (8 : Int32)) (by decide +kernel) ?_
    refine r_icmp_lt d_X10_program_7 (tgt := 27) (by decide) (fun c5 => ?_) (fun c5 => ?_)
    · replace e := (if_pos c5).symm.trans e
      refine g_ald_n d_X10_program_27 rfl g0 ?_
      replace e := ckd e
      obtain ⟨k6, e⟩ := e
      refine g_getR d_X10_program_28 (f := 1100) k6 fk_9_10 rfl rfl ?_
      replace e := ckd e
      obtain ⟨k8, e⟩ := e
      replace e := bd e
      obtain ⟨q7, eq7, e⟩ := e
      refine g_callV d_X10_program_31 vk_9_53 (as := []) rfl k8 rfl (by simp [zrf_cat, cat_int, cat_long]) (j := 7) (by omega) (c_X3_parse (by omega) eq7) ?_
      refine s_ast_n d_X10_program_34 rfl (by decide) (fun L g2 gK => ?_)
      replace g0 := gK _ _ (by decide) (Or.inr (zrf_cat _)) g0
      replace g1 := gK _ _ (by decide) (Or.inr rfl) g1
      refine g_ald_n d_X10_program_35 rfl g2 ?_
      refine g_ifnonnull d_X10_program_36 (tgt := 49) (by decide) (fun c9 => ?_) (fun c9 => ?_)
      · replace e := (if_neg c9).symm.trans e
        refine g_ald_n d_X10_program_49 rfl g0 ?_
        replace e := ckd e
        obtain ⟨k10, e⟩ := e
        refine g_getR d_X10_program_50 (f := 1102) k10 fk_9_35 rfl rfl ?_
        refine r_iload_n d_X10_program_53 rfl g1 ?_
        replace e := ckd e
        obtain ⟨k11, e⟩ := e
        replace e := ckd e
        obtain ⟨k12, e⟩ := e
        refine g_aald d_X10_program_54 k11 (by decide) (by decide) k12 rfl ?_
        replace e := ckd e
        obtain ⟨k13, e⟩ := e
        refine g_getR d_X10_program_55 (f := 800) k13 fk_9_62 rfl rfl ?_
        refine g_ald_n d_X10_program_58 rfl g2 ?_
        replace e := ckd e
        obtain ⟨k15, e⟩ := e
        replace e := bd e
        obtain ⟨q14, eq14, e⟩ := e
        refine g_callV d_X10_program_59 vk_9_66 (as := [_]) rfl k15 rfl (by simp [zrf_cat, cat_int, cat_long]) (j := 6) (by omega) (c_Jx4a65c_add_9ea2d (by omega) eq14) ?_
        refine r_pop d_X10_program_62 rfl ?_
        refine g_ald_n d_X10_program_63 rfl g2 ?_
        replace e := ckd e
        obtain ⟨k16, e⟩ := e
        refine g_getI d_X10_program_64 (f := 500) k16 fk_9_72 rfl rfl ?_
        obtain rfl := Option.some.inj e
        exact g_iret d_X10_program_67 rfl rfl
      · replace e := (if_pos c9).symm.trans e
        obtain rfl := Option.some.inj e
        exact Ev.here ⟨rfl, rfl, rfl⟩
    · replace e := (if_neg c5).symm.trans e
      refine g_ald_n d_X10_program_10 rfl g0 ?_
      replace e := ckd e
      obtain ⟨k17, e⟩ := e
      refine g_getR d_X10_program_11 (f := 1100) k17 fk_9_10 rfl rfl ?_
      replace e := ckd e
      obtain ⟨k19, e⟩ := e
      replace e := bd e
      obtain ⟨q18, eq18, e⟩ := e
      refine g_callV d_X10_program_14 vk_9_43 (as := []) rfl k19 rfl (by simp [zrf_cat, cat_int, cat_long]) (j := 1) (by omega) (c_X3_clear (by omega) eq18) ?_
      obtain rfl := Option.some.inj e
      exact Ev.here ⟨rfl, rfl, rfl⟩

theorem c_X10_program {G : Gd} {j : Nat} (hj : 8 ≤ j) {l0 : Nat} {l1 : Int32} {h : Hp} {o : Int32 × Hp} (e : f_X10_program l0 l1 h = some (.inl o)) : Cal G j Y_X10_program [zrf (l0), .int (l1)] h (some (.int o.1)) o.2 := Cal.of (n := 0) (I := false) (Or.inl (by decide +kernel)) (by decide) (by simp [lg_sl, zrf_cat, cat_int, cat_long]) (f_X10_program_ok hj _ _ _ h (.inl o) (by simp [lv_args, zlk, zrf_cat, cat_int, cat_long]) (by simp [lv_args, zlk, zrf_cat, cat_int, cat_long]) e)
theorem t_X10_program {G : Gd} {j : Nat} (hj : 8 ≤ j) {l0 : Nat} {l1 : Int32} {h : Hp} {o : Nat × Hp} (e : f_X10_program l0 l1 h = some (.inr o)) : Ev G M_X10_program j 0 (lv_args 0 [zrf (l0), .int (l1)]) [] h (ZX Y_X10_program (.inr o)) := f_X10_program_ok hj _ _ _ h (.inr o) (by simp [lv_args, zlk, zrf_cat, cat_int, cat_long]) (by simp [lv_args, zlk, zrf_cat, cat_int, cat_long]) e
theorem fk_9_140 : Fk "TaskWeave" 140 1001 := ⟨by decide, by decide, by decide +kernel⟩
def f_X10_query (l0 : Nat) (l1 : Int32) (l2 : Int32) (h : Hp) : Option (Sum (Int32 × Hp) (Nat × Hp)) := ck (isO (h) (l0) 11) ((f_X10_find (l0) (l1) (h)).bind (fun q1 => if (q1.1) = 0 then (some (.inr (20, q1.2))) else (if (l2) < (0) then (some (.inr (20, q1.2))) else (if (l2) < ((8 : Int32)) then (ck (isO (q1.2) (l0) 11) (ck (isO (q1.2) (zR (q1.2) 1103 (l0)) 26) (ck (inR ((l1) - (l1) / ((4 : Int32)) * ((4 : Int32))) (zL (q1.2) (zR (q1.2) 1103 (l0)))) (ck (isO (q1.2) (zQ (q1.2) (zR (q1.2) 1103 (l0)) ((l1) - (l1) / ((4 : Int32)) * ((4 : Int32))).toNatClampNeg) 7) ((f_X6_works (zQ (q1.2) (zR (q1.2) 1103 (l0)) ((l1) - (l1) / ((4 : Int32)) * ((4 : Int32))).toNatClampNeg) (q1.2)).bind (fun q9 => if (q9.1) = (0) then (some (.inr (44, q9.2))) else (ck (isO (q9.2) (q1.1) 10) (ck (isO (q9.2) (zR (q9.2) 1001 (q1.1)) 22) (ck (inR (l2) (zL (q9.2) (zR (q9.2) 1001 (q1.1)))) (some (.inl (zE (q9.2) (zR (q9.2) 1001 (q1.1)) (l2).toNatClampNeg, q9.2)))))))))))) else (some (.inr (20, q1.2)))))))
theorem f_X10_query_ok {G : Gd} {d : Nat} (hj : 3 ≤ d) : ∀ (l0 : Nat) (l1 : Int32) (l2 : Int32) (L : List (Nat × Value)) (h : Hp) (o : (Sum (Int32 × Hp) (Nat × Hp))), zlk L 0 = some (zrf (l0)) → zlk L 1 = some (.int (l1)) → zlk L 2 = some (.int (l2)) → f_X10_query l0 l1 l2 h = some o → Ev G M_X10_query d 0 L [] h (ZX Y_X10_query o) := by
  intro l0 l1 l2 L h o g0 g1 g2 e
  unfold f_X10_query at e
  refine g_ald_n d_X10_query_0 rfl g0 ?_
  refine r_iload_n d_X10_query_1 rfl g1 ?_
  replace e := ckd e
  obtain ⟨k2, e⟩ := e
  replace e := bd e
  obtain ⟨q1, eq1, e⟩ := e
  refine g_callV d_X10_query_2 vk_9_111 (as := [_]) rfl k2 rfl (by simp [zrf_cat, cat_int, cat_long]) (j := 2) (by omega) (c_X10_find (by omega) eq1) ?_
  refine s_ast_n d_X10_query_5 rfl (by decide) (fun L g3 gK => ?_)
  replace g0 := gK _ _ (by decide) (Or.inr (zrf_cat _)) g0
  replace g1 := gK _ _ (by decide) (Or.inr rfl) g1
  replace g2 := gK _ _ (by decide) (Or.inr rfl) g2
  refine g_ald_n d_X10_query_6 rfl g3 ?_
  refine g_ifnull d_X10_query_7 (tgt := 20) (by decide) (fun c3 => ?_) (fun c3 => ?_)
  · replace e := (if_pos c3).symm.trans e
    obtain rfl := Option.some.inj e
    exact Ev.here ⟨rfl, rfl, rfl⟩
  · replace e := (if_neg c3).symm.trans e
    refine r_iload_n d_X10_query_10 rfl g2 ?_
    refine r_if_lt d_X10_query_11 (tgt := 20) (by decide) (fun c4 => ?_) (fun c4 => ?_)
    · replace e := (if_pos c4).symm.trans e
      obtain rfl := Option.some.inj e
      exact Ev.here ⟨rfl, rfl, rfl⟩
    · replace e := (if_neg c4).symm.trans e
      refine r_iload_n d_X10_query_14 rfl g2 ?_
      refine r_bipush d_X10_query_15 (v := (8 : Int32)) (by decide +kernel) ?_
      refine r_icmp_lt d_X10_query_17 (tgt := 30) (by decide) (fun c5 => ?_) (fun c5 => ?_)
      · replace e := (if_pos c5).symm.trans e
        refine g_ald_n d_X10_query_30 rfl g0 ?_
        replace e := ckd e
        obtain ⟨k6, e⟩ := e
        refine g_getR d_X10_query_31 (f := 1103) k6 fk_9_18 rfl rfl ?_
        refine r_iload_n d_X10_query_34 rfl g1 ?_
        refine r_iconst d_X10_query_35 (v := (4 : Int32)) (by decide +kernel) ?_
        refine r_irem d_X10_query_36 (by decide +kernel) ?_
        replace e := ckd e
        obtain ⟨k7, e⟩ := e
        replace e := ckd e
        obtain ⟨k8, e⟩ := e
        refine g_aald d_X10_query_37 k7 (by decide) (by decide) k8 rfl ?_
        replace e := ckd e
        obtain ⟨k10, e⟩ := e
        replace e := bd e
        obtain ⟨q9, eq9, e⟩ := e
        refine g_callV d_X10_query_38 vk_9_81 (as := []) rfl k10 rfl (by simp [zrf_cat, cat_int, cat_long]) (j := 1) (by omega) (c_X6_works (by omega) eq9) ?_
        refine r_if_ne d_X10_query_41 (tgt := 54) (by decide) (fun c11 => ?_) (fun c11 => ?_)
        · replace e := (if_neg c11).symm.trans e
          refine g_ald_n d_X10_query_54 rfl g3 ?_
          replace e := ckd e
          obtain ⟨k12, e⟩ := e
          refine g_getR d_X10_query_55 (f := 1001) k12 fk_9_140 rfl rfl ?_
          refine r_iload_n d_X10_query_58 rfl g2 ?_
          replace e := ckd e
          obtain ⟨k13, e⟩ := e
          replace e := ckd e
          obtain ⟨k14, e⟩ := e
          refine g_iald d_X10_query_59 k13 k14 rfl ?_
          obtain rfl := Option.some.inj e
          exact g_iret d_X10_query_60 rfl rfl
        · replace e := (if_pos c11).symm.trans e
          obtain rfl := Option.some.inj e
          exact Ev.here ⟨rfl, rfl, rfl⟩
      · replace e := (if_neg c5).symm.trans e
        obtain rfl := Option.some.inj e
        exact Ev.here ⟨rfl, rfl, rfl⟩

theorem c_X10_query {G : Gd} {j : Nat} (hj : 3 ≤ j) {l0 : Nat} {l1 : Int32} {l2 : Int32} {h : Hp} {o : Int32 × Hp} (e : f_X10_query l0 l1 l2 h = some (.inl o)) : Cal G j Y_X10_query [zrf (l0), .int (l1), .int (l2)] h (some (.int o.1)) o.2 := Cal.of (n := 0) (I := false) (Or.inl (by decide +kernel)) (by decide) (by simp [lg_sl, zrf_cat, cat_int, cat_long]) (f_X10_query_ok hj _ _ _ _ h (.inl o) (by simp [lv_args, zlk, zrf_cat, cat_int, cat_long]) (by simp [lv_args, zlk, zrf_cat, cat_int, cat_long]) (by simp [lv_args, zlk, zrf_cat, cat_int, cat_long]) e)
theorem t_X10_query {G : Gd} {j : Nat} (hj : 3 ≤ j) {l0 : Nat} {l1 : Int32} {l2 : Int32} {h : Hp} {o : Nat × Hp} (e : f_X10_query l0 l1 l2 h = some (.inr o)) : Ev G M_X10_query j 0 (lv_args 0 [zrf (l0), .int (l1), .int (l2)]) [] h (ZX Y_X10_query (.inr o)) := f_X10_query_ok hj _ _ _ _ h (.inr o) (by simp [lv_args, zlk, zrf_cat, cat_int, cat_long]) (by simp [lv_args, zlk, zrf_cat, cat_int, cat_long]) (by simp [lv_args, zlk, zrf_cat, cat_int, cat_long]) e
theorem vk_9_184 : Vk "TaskWeave" 184 0 11 Y_X10_recordsTried := ⟨yk_X10_recordsTried, by decide +kernel, by decide +kernel, by decide +kernel, by decide⟩
theorem vk_9_188 : Vk "TaskWeave" 188 0 7 Y_X6_passTime := ⟨yk_X6_passTime, by decide +kernel, by decide +kernel, by decide +kernel, by decide⟩
theorem vk_9_195 : Vk "TaskWeave" 195 1 11 Y_X10_lastQuietTick := ⟨yk_X10_lastQuietTick, by decide +kernel, by decide +kernel, by decide +kernel, by decide⟩
theorem vk_9_191 : Vk "TaskWeave" 191 1 11 Y_X10_sendAll := ⟨yk_X10_sendAll, by decide +kernel, by decide +kernel, by decide +kernel, by decide⟩
def f_X10_tick_142 (K34 : Nat → Int32 → Int32 → Int32 → Hp → Option (Sum (Int32 × Hp) (Nat × Hp))) (l0 : Nat) (l1 : Int32) (l2 : Int32) (l3 : Int32) (h : Hp) : Option (Sum (Int32 × Hp) (Nat × Hp)) := bh ((l3) + (1 : Int32)) (fun x36 => K34 (l0) (l1) (l2) (x36) (h))
theorem f_X10_tick_142_ok {G : Gd} {d : Nat} (K34 : Nat → Int32 → Int32 → Int32 → Hp → Option (Sum (Int32 × Hp) (Nat × Hp))) (hj : 9 ≤ d) (hK34 : ∀ (l0 : Nat) (l1 : Int32) (l2 : Int32) (l3 : Int32) (L : List (Nat × Value)) (h : Hp) (o : (Sum (Int32 × Hp) (Nat × Hp))), zlk L 0 = some (zrf (l0)) → zlk L 1 = some (.int (l1)) → zlk L 2 = some (.int (l2)) → zlk L 3 = some (.int (l3)) → K34 l0 l1 l2 l3 h = some o → Ev G M_X10_tick d 34 L [] h (ZX Y_X10_tick o)) : ∀ (l0 : Nat) (l1 : Int32) (l2 : Int32) (l3 : Int32) (L : List (Nat × Value)) (h : Hp) (o : (Sum (Int32 × Hp) (Nat × Hp))), zlk L 0 = some (zrf (l0)) → zlk L 1 = some (.int (l1)) → zlk L 2 = some (.int (l2)) → zlk L 3 = some (.int (l3)) → f_X10_tick_142 K34 l0 l1 l2 l3 h = some o → Ev G M_X10_tick d 142 L [] h (ZX Y_X10_tick o) := by
  intro l0 l1 l2 l3 L h o g0 g1 g2 g3 e
  unfold f_X10_tick_142 at e
  replace e := bhd e
  obtain ⟨_, rfl, e⟩ := e
  refine s_iinc d_X10_tick_142 g3 (w := (1 : Int32)) (by decide +kernel) (by decide) (fun L g3 gK => ?_)
  replace g0 := gK _ _ (by decide) (Or.inr (zrf_cat _)) g0
  replace g1 := gK _ _ (by decide) (Or.inr rfl) g1
  replace g2 := gK _ _ (by decide) (Or.inr rfl) g2
  refine r_goto d_X10_tick_145 (tgt := 34) (by decide) ?_
  exact hK34 _ _ _ _ _ _ _ g0 g1 g2 g3 e

def f_X10_tick_97 (K34 : Nat → Int32 → Int32 → Int32 → Hp → Option (Sum (Int32 × Hp) (Nat × Hp))) : Nat → Nat → Int32 → Int32 → Int32 → Int64 → Int32 → Hp → Option (Sum (Int32 × Hp) (Nat × Hp))
  | 0, _, _, _, _, _, _, _ => none
  | n + 1, l0, l1, l2, l3, l4, l6, h => if ((4 : Int32)) ≤ (l6) then (ck (isO (h) (l0) 11) ((f_X10_recordsTried (l0) (h)).bind (fun q24 => if (lg_cmp (q24.1) (l4)) = (0) then (ck (isO (q24.2) (l0) 11) ((f_X10_lastQuietTick (l0) (l2) (q24.2)).bind (fun q28 => ck (isO (q28.2) (zR (q24.2) 1101 (l0)) 1) (bh (pI (q28.2) 100 (zR (q24.2) 1101 (l0)) (q28.1)) (fun h30 => f_X10_tick_142 K34 (l0) (l1) (l2) (l3) (h30)))))) else (f_X10_tick_142 K34 (l0) (l1) (l2) (l3) (q24.2))))) else (ck (isO (h) (l0) 11) (ck (isO (h) (zR (h) 1103 (l0)) 26) (ck (inR (l6) (zL (h) (zR (h) 1103 (l0)))) ((f_X10_sendAll (l0) (zQ (h) (zR (h) 1103 (l0)) (l6).toNatClampNeg) (h)).bind (fun q34 => bh ((l6) + (1 : Int32)) (fun x35 => f_X10_tick_97 K34 n (l0) (l1) (l2) (l3) (l4) (x35) (q34)))))))
theorem f_X10_tick_97_ok {G : Gd} {d : Nat} (K34 : Nat → Int32 → Int32 → Int32 → Hp → Option (Sum (Int32 × Hp) (Nat × Hp))) (hj : 9 ≤ d) (hK34 : ∀ (l0 : Nat) (l1 : Int32) (l2 : Int32) (l3 : Int32) (L : List (Nat × Value)) (h : Hp) (o : (Sum (Int32 × Hp) (Nat × Hp))), zlk L 0 = some (zrf (l0)) → zlk L 1 = some (.int (l1)) → zlk L 2 = some (.int (l2)) → zlk L 3 = some (.int (l3)) → K34 l0 l1 l2 l3 h = some o → Ev G M_X10_tick d 34 L [] h (ZX Y_X10_tick o)) : ∀ (n : Nat) (l0 : Nat) (l1 : Int32) (l2 : Int32) (l3 : Int32) (l4 : Int64) (l6 : Int32) (L : List (Nat × Value)) (h : Hp) (o : (Sum (Int32 × Hp) (Nat × Hp))), zlk L 0 = some (zrf (l0)) → zlk L 1 = some (.int (l1)) → zlk L 2 = some (.int (l2)) → zlk L 3 = some (.int (l3)) → zlk L 4 = some (.long (l4)) → zlk L 6 = some (.int (l6)) → f_X10_tick_97 K34 n l0 l1 l2 l3 l4 l6 h = some o → Ev G M_X10_tick d 97 L [] h (ZX Y_X10_tick o) := by
  intro n
  induction n with
  | zero =>
    intro l0 l1 l2 l3 l4 l6 L h o g0 g1 g2 g3 g4 g6 e
    cases e
  | succ n ih =>
    intro l0 l1 l2 l3 l4 l6 L h o g0 g1 g2 g3 g4 g6 e
    unfold f_X10_tick_97 at e
    refine r_iload d_X10_tick_97 g6 ?_
    refine r_iconst d_X10_tick_99 (v := (4 : Int32)) (by decide +kernel) ?_
    refine r_icmp_ge d_X10_tick_100 (tgt := 120) (by decide) (fun c23 => ?_) (fun c23 => ?_)
    · replace e := (if_pos c23).symm.trans e
      refine g_ald_n d_X10_tick_120 rfl g0 ?_
      replace e := ckd e
      obtain ⟨k25, e⟩ := e
      replace e := bd e
      obtain ⟨q24, eq24, e⟩ := e
      refine g_callV d_X10_tick_121 vk_9_184 (as := []) rfl k25 rfl (by simp [zrf_cat, cat_int, cat_long]) (j := 1) (by omega) (c_X10_recordsTried (by omega) eq24) ?_
      refine r_lload d_X10_tick_124 g4 ?_
      refine r_lcmp d_X10_tick_126 ?_
      refine r_if_ne d_X10_tick_127 (tgt := 142) (by decide) (fun c26 => ?_) (fun c26 => ?_)
      · replace e := (if_neg c26).symm.trans e
        exact f_X10_tick_142_ok _ hj hK34 _ _ _ _ _ _ _ g0 g1 g2 g3 e
      · replace e := (if_pos c26).symm.trans e
        refine g_ald_n d_X10_tick_130 rfl g0 ?_
        replace e := ckd e
        obtain ⟨k27, e⟩ := e
        refine g_getR d_X10_tick_131 (f := 1101) k27 fk_9_31 rfl rfl ?_
        refine g_ald_n d_X10_tick_134 rfl g0 ?_
        refine r_iload_n d_X10_tick_135 rfl g2 ?_
        replace e := bd e
        obtain ⟨q28, eq28, e⟩ := e
        refine g_callV d_X10_tick_136 vk_9_195 (as := [_]) rfl k27 rfl (by simp [zrf_cat, cat_int, cat_long]) (j := 3) (by omega) (c_X10_lastQuietTick (by omega) eq28) ?_
        replace e := ckd e
        obtain ⟨k29, e⟩ := e
        refine g_putI d_X10_tick_139 (f := 100) k29 fk_9_144 rfl (Or.inl rfl) ⟨rfl, rfl⟩ ?_
        replace e := bhd e
        obtain ⟨_, rfl, e⟩ := e
        exact f_X10_tick_142_ok _ hj hK34 _ _ _ _ _ _ _ g0 g1 g2 g3 e
    · replace e := (if_neg c23).symm.trans e
      refine g_ald_n d_X10_tick_103 rfl g0 ?_
      refine g_ald_n d_X10_tick_104 rfl g0 ?_
      replace e := ckd e
      obtain ⟨k31, e⟩ := e
      refine g_getR d_X10_tick_105 (f := 1103) k31 fk_9_18 rfl rfl ?_
      refine r_iload d_X10_tick_108 g6 ?_
      replace e := ckd e
      obtain ⟨k32, e⟩ := e
      replace e := ckd e
      obtain ⟨k33, e⟩ := e
      refine g_aald d_X10_tick_110 k32 (by decide) (by decide) k33 rfl ?_
      replace e := bd e
      obtain ⟨q34, eq34, e⟩ := e
      refine g_callV d_X10_tick_111 vk_9_191 (as := [_]) rfl k31 rfl (by simp [zrf_cat, cat_int, cat_long]) (j := 8) (by omega) (c_X10_sendAll (by omega) eq34) ?_
      replace e := bhd e
      obtain ⟨_, rfl, e⟩ := e
      refine s_iinc d_X10_tick_114 g6 (w := (1 : Int32)) (by decide +kernel) (by decide) (fun L g6 gK => ?_)
      replace g0 := gK _ _ (by decide) (Or.inr (zrf_cat _)) g0
      replace g1 := gK _ _ (by decide) (Or.inr rfl) g1
      replace g2 := gK _ _ (by decide) (Or.inr rfl) g2
      replace g3 := gK _ _ (by decide) (Or.inr rfl) g3
      replace g4 := gK _ _ (by decide) (Or.inl (by decide)) g4
      refine r_goto d_X10_tick_117 (tgt := 97) (by decide) ?_
      exact ih _ _ _ _ _ _ _ _ _ g0 g1 g2 g3 g4 g6 e

def f_X10_tick_72 (K34 : Nat → Int32 → Int32 → Int32 → Hp → Option (Sum (Int32 × Hp) (Nat × Hp))) : Nat → Nat → Int32 → Int32 → Int32 → Int64 → Int32 → Hp → Option (Sum (Int32 × Hp) (Nat × Hp))
  | 0, _, _, _, _, _, _, _ => none
  | n + 1, l0, l1, l2, l3, l4, l6, h => if ((4 : Int32)) ≤ (l6) then (f_X10_tick_97 K34 fz (l0) (l1) (l2) (l3) (l4) ((0 : Int32)) (h)) else (ck (isO (h) (l0) 11) (ck (isO (h) (zR (h) 1103 (l0)) 26) (ck (inR (l6) (zL (h) (zR (h) 1103 (l0)))) (ck (isO (h) (zQ (h) (zR (h) 1103 (l0)) (l6).toNatClampNeg) 7) ((f_X6_passTime (zQ (h) (zR (h) 1103 (l0)) (l6).toNatClampNeg) (h)).bind (fun q20 => bh ((l6) + (1 : Int32)) (fun x22 => f_X10_tick_72 K34 n (l0) (l1) (l2) (l3) (l4) (x22) (q20))))))))
theorem f_X10_tick_72_ok {G : Gd} {d : Nat} (K34 : Nat → Int32 → Int32 → Int32 → Hp → Option (Sum (Int32 × Hp) (Nat × Hp))) (hj : 9 ≤ d) (hK34 : ∀ (l0 : Nat) (l1 : Int32) (l2 : Int32) (l3 : Int32) (L : List (Nat × Value)) (h : Hp) (o : (Sum (Int32 × Hp) (Nat × Hp))), zlk L 0 = some (zrf (l0)) → zlk L 1 = some (.int (l1)) → zlk L 2 = some (.int (l2)) → zlk L 3 = some (.int (l3)) → K34 l0 l1 l2 l3 h = some o → Ev G M_X10_tick d 34 L [] h (ZX Y_X10_tick o)) : ∀ (n : Nat) (l0 : Nat) (l1 : Int32) (l2 : Int32) (l3 : Int32) (l4 : Int64) (l6 : Int32) (L : List (Nat × Value)) (h : Hp) (o : (Sum (Int32 × Hp) (Nat × Hp))), zlk L 0 = some (zrf (l0)) → zlk L 1 = some (.int (l1)) → zlk L 2 = some (.int (l2)) → zlk L 3 = some (.int (l3)) → zlk L 4 = some (.long (l4)) → zlk L 6 = some (.int (l6)) → f_X10_tick_72 K34 n l0 l1 l2 l3 l4 l6 h = some o → Ev G M_X10_tick d 72 L [] h (ZX Y_X10_tick o) := by
  intro n
  induction n with
  | zero =>
    intro l0 l1 l2 l3 l4 l6 L h o g0 g1 g2 g3 g4 g6 e
    cases e
  | succ n ih =>
    intro l0 l1 l2 l3 l4 l6 L h o g0 g1 g2 g3 g4 g6 e
    unfold f_X10_tick_72 at e
    refine r_iload d_X10_tick_72 g6 ?_
    refine r_iconst d_X10_tick_74 (v := (4 : Int32)) (by decide +kernel) ?_
    refine r_icmp_ge d_X10_tick_75 (tgt := 94) (by decide) (fun c16 => ?_) (fun c16 => ?_)
    · replace e := (if_pos c16).symm.trans e
      refine r_iconst d_X10_tick_94 (v := (0 : Int32)) (by decide +kernel) ?_
      refine s_istore d_X10_tick_95 (by decide) (fun L g6 gK => ?_)
      replace g0 := gK _ _ (by decide) (Or.inr (zrf_cat _)) g0
      replace g1 := gK _ _ (by decide) (Or.inr rfl) g1
      replace g2 := gK _ _ (by decide) (Or.inr rfl) g2
      replace g3 := gK _ _ (by decide) (Or.inr rfl) g3
      replace g4 := gK _ _ (by decide) (Or.inl (by decide)) g4
      exact f_X10_tick_97_ok _ hj hK34 _ _ _ _ _ _ _ _ _ _ g0 g1 g2 g3 g4 g6 e
    · replace e := (if_neg c16).symm.trans e
      refine g_ald_n d_X10_tick_78 rfl g0 ?_
      replace e := ckd e
      obtain ⟨k17, e⟩ := e
      refine g_getR d_X10_tick_79 (f := 1103) k17 fk_9_18 rfl rfl ?_
      refine r_iload d_X10_tick_82 g6 ?_
      replace e := ckd e
      obtain ⟨k18, e⟩ := e
      replace e := ckd e
      obtain ⟨k19, e⟩ := e
      refine g_aald d_X10_tick_84 k18 (by decide) (by decide) k19 rfl ?_
      replace e := ckd e
      obtain ⟨k21, e⟩ := e
      replace e := bd e
      obtain ⟨q20, eq20, e⟩ := e
      refine g_callV d_X10_tick_85 vk_9_188 (as := []) rfl k21 rfl (by simp [zrf_cat, cat_int, cat_long]) (j := 8) (by omega) (c_X6_passTime (by omega) eq20) ?_
      replace e := bhd e
      obtain ⟨_, rfl, e⟩ := e
      refine s_iinc d_X10_tick_88 g6 (w := (1 : Int32)) (by decide +kernel) (by decide) (fun L g6 gK => ?_)
      replace g0 := gK _ _ (by decide) (Or.inr (zrf_cat _)) g0
      replace g1 := gK _ _ (by decide) (Or.inr rfl) g1
      replace g2 := gK _ _ (by decide) (Or.inr rfl) g2
      replace g3 := gK _ _ (by decide) (Or.inr rfl) g3
      replace g4 := gK _ _ (by decide) (Or.inl (by decide)) g4
      refine r_goto d_X10_tick_91 (tgt := 72) (by decide) ?_
      exact ih _ _ _ _ _ _ _ _ _ g0 g1 g2 g3 g4 g6 e

def f_X10_tick_34 : Nat → Nat → Int32 → Int32 → Int32 → Hp → Option (Sum (Int32 × Hp) (Nat × Hp))
  | 0, _, _, _, _, _ => none
  | n + 1, l0, l1, l2, l3, h => if (l1) ≤ (l3) then (ck (isO (h) (l0) 11) (ck (isO (h) (zR (h) 1101 (l0)) 1) (some (.inl (zI (h) 100 (zR (h) 1101 (l0)), h))))) else (ck (isO (h) (l0) 11) (ck (isO (h) (zR (h) 1101 (l0)) 1) (if (zI (h) 100 (zR (h) 1101 (l0))) = (l2) then (some (.inl (zI (h) 100 (zR (h) 1101 (l0)), h))) else ((f_X10_recordsTried (l0) (h)).bind (fun q12 => ck (isO (q12.2) (l0) 11) (ck (isO (q12.2) (zR (q12.2) 1101 (l0)) 1) (bh (pI (q12.2) 100 (zR (q12.2) 1101 (l0)) ((zI (q12.2) 100 (zR (q12.2) 1101 (l0))) + ((1 : Int32)))) (fun h15 => f_X10_tick_72 (f_X10_tick_34 n) fz (l0) (l1) (l2) (l3) (q12.1) ((0 : Int32)) (h15)))))))))
theorem f_X10_tick_34_ok {G : Gd} {d : Nat} (hj : 9 ≤ d) : ∀ (n : Nat) (l0 : Nat) (l1 : Int32) (l2 : Int32) (l3 : Int32) (L : List (Nat × Value)) (h : Hp) (o : (Sum (Int32 × Hp) (Nat × Hp))), zlk L 0 = some (zrf (l0)) → zlk L 1 = some (.int (l1)) → zlk L 2 = some (.int (l2)) → zlk L 3 = some (.int (l3)) → f_X10_tick_34 n l0 l1 l2 l3 h = some o → Ev G M_X10_tick d 34 L [] h (ZX Y_X10_tick o) := by
  intro n
  induction n with
  | zero =>
    intro l0 l1 l2 l3 L h o g0 g1 g2 g3 e
    cases e
  | succ n ih =>
    intro l0 l1 l2 l3 L h o g0 g1 g2 g3 e
    unfold f_X10_tick_34 at e
    refine r_iload_n d_X10_tick_34 rfl g3 ?_
    refine r_iload_n d_X10_tick_35 rfl g1 ?_
    refine r_icmp_ge d_X10_tick_36 (tgt := 148) (by decide) (fun c6 => ?_) (fun c6 => ?_)
    · replace e := (if_pos c6).symm.trans e
      refine g_ald_n d_X10_tick_148 rfl g0 ?_
      replace e := ckd e
      obtain ⟨k7, e⟩ := e
      refine g_getR d_X10_tick_149 (f := 1101) k7 fk_9_31 rfl rfl ?_
      replace e := ckd e
      obtain ⟨k8, e⟩ := e
      refine g_getI d_X10_tick_152 (f := 100) k8 fk_9_144 rfl rfl ?_
      obtain rfl := Option.some.inj e
      exact g_iret d_X10_tick_155 rfl rfl
    · replace e := (if_neg c6).symm.trans e
      refine g_ald_n d_X10_tick_39 rfl g0 ?_
      replace e := ckd e
      obtain ⟨k9, e⟩ := e
      refine g_getR d_X10_tick_40 (f := 1101) k9 fk_9_31 rfl rfl ?_
      replace e := ckd e
      obtain ⟨k10, e⟩ := e
      refine g_getI d_X10_tick_43 (f := 100) k10 fk_9_144 rfl rfl ?_
      refine r_iload_n d_X10_tick_46 rfl g2 ?_
      refine r_icmp_eq d_X10_tick_47 (tgt := 148) (by decide) (fun c11 => ?_) (fun c11 => ?_)
      · replace e := (if_pos c11).symm.trans e
        refine g_ald_n d_X10_tick_148 rfl g0 ?_
        refine g_getR d_X10_tick_149 (f := 1101) k9 fk_9_31 rfl rfl ?_
        refine g_getI d_X10_tick_152 (f := 100) k10 fk_9_144 rfl rfl ?_
        obtain rfl := Option.some.inj e
        exact g_iret d_X10_tick_155 rfl rfl
      · replace e := (if_neg c11).symm.trans e
        refine g_ald_n d_X10_tick_50 rfl g0 ?_
        replace e := bd e
        obtain ⟨q12, eq12, e⟩ := e
        refine g_callV d_X10_tick_51 vk_9_184 (as := []) rfl k9 rfl (by simp [zrf_cat, cat_int, cat_long]) (j := 1) (by omega) (c_X10_recordsTried (by omega) eq12) ?_
        refine s_lstore d_X10_tick_54 (by decide) (fun L g4 gK => ?_)
        replace g0 := gK _ _ (by decide) (by decide) (Or.inr (zrf_cat _)) g0
        replace g1 := gK _ _ (by decide) (by decide) (Or.inr rfl) g1
        replace g2 := gK _ _ (by decide) (by decide) (Or.inr rfl) g2
        replace g3 := gK _ _ (by decide) (by decide) (Or.inr rfl) g3
        refine g_ald_n d_X10_tick_56 rfl g0 ?_
        replace e := ckd e
        obtain ⟨k13, e⟩ := e
        refine g_getR d_X10_tick_57 (f := 1101) k13 fk_9_31 rfl rfl ?_
        refine r_dup d_X10_tick_60 (zrf_cat _) ?_
        replace e := ckd e
        obtain ⟨k14, e⟩ := e
        refine g_getI d_X10_tick_61 (f := 100) k14 fk_9_144 rfl rfl ?_
        refine r_iconst d_X10_tick_64 (v := (1 : Int32)) (by decide +kernel) ?_
        refine r_iadd d_X10_tick_65 ?_
        refine g_putI d_X10_tick_66 (f := 100) k14 fk_9_144 rfl (Or.inl rfl) ⟨rfl, rfl⟩ ?_
        replace e := bhd e
        obtain ⟨_, rfl, e⟩ := e
        refine r_iconst d_X10_tick_69 (v := (0 : Int32)) (by decide +kernel) ?_
        refine s_istore d_X10_tick_70 (by decide) (fun L g6 gK => ?_)
        replace g0 := gK _ _ (by decide) (Or.inr (zrf_cat _)) g0
        replace g1 := gK _ _ (by decide) (Or.inr rfl) g1
        replace g2 := gK _ _ (by decide) (Or.inr rfl) g2
        replace g3 := gK _ _ (by decide) (Or.inr rfl) g3
        replace g4 := gK _ _ (by decide) (Or.inl (by decide)) g4
        exact f_X10_tick_72_ok _ hj ih _ _ _ _ _ _ _ _ _ _ g0 g1 g2 g3 g4 g6 e

def f_X10_tick (l0 : Nat) (l1 : Int32) (h : Hp) : Option (Sum (Int32 × Hp) (Nat × Hp)) := if (l1) < ((1 : Int32)) then (some (.inr (12, h))) else (if (l1) ≤ ((500 : Int32)) then (ck (isO (h) (l0) 11) (ck (isO (h) (zR (h) 1101 (l0)) 1) (bh ((zI (h) 100 (zR (h) 1101 (l0))) + (l1)) (fun x5 => f_X10_tick_34 fz (l0) (l1) (x5) ((0 : Int32)) (h))))) else (some (.inr (12, h))))
theorem f_X10_tick_ok {G : Gd} {d : Nat} (hj : 9 ≤ d) : ∀ (l0 : Nat) (l1 : Int32) (L : List (Nat × Value)) (h : Hp) (o : (Sum (Int32 × Hp) (Nat × Hp))), zlk L 0 = some (zrf (l0)) → zlk L 1 = some (.int (l1)) → f_X10_tick l0 l1 h = some o → Ev G M_X10_tick d 0 L [] h (ZX Y_X10_tick o) := by
  intro l0 l1 L h o g0 g1 e
  unfold f_X10_tick at e
  refine r_iload_n d_X10_tick_0 rfl g1 ?_
  refine r_iconst d_X10_tick_1 (v := (1 : Int32)) (by decide +kernel) ?_
  refine r_icmp_lt d_X10_tick_2 (tgt := 12) (by decide) (fun c1 => ?_) (fun c1 => ?_)
  · replace e := (if_pos c1).symm.trans e
    obtain rfl := Option.some.inj e
    exact Ev.here ⟨rfl, rfl, rfl⟩
  · replace e := (if_neg c1).symm.trans e
    refine r_iload_n d_X10_tick_5 rfl g1 ?_
    refine r_sipush d_X10_tick_6 (v := (500 : Int32)) (by decide +kernel) ?_
    refine r_icmp_le d_X10_tick_9 (tgt := 22) (by decide) (fun c2 => ?_) (fun c2 => ?_)
    · replace e := (if_pos c2).symm.trans e
      refine g_ald_n d_X10_tick_22 rfl g0 ?_
      replace e := ckd e
      obtain ⟨k3, e⟩ := e
      refine g_getR d_X10_tick_23 (f := 1101) k3 fk_9_31 rfl rfl ?_
      replace e := ckd e
      obtain ⟨k4, e⟩ := e
      refine g_getI d_X10_tick_26 (f := 100) k4 fk_9_144 rfl rfl ?_
      refine r_iload_n d_X10_tick_29 rfl g1 ?_
      refine r_iadd d_X10_tick_30 ?_
      replace e := bhd e
      obtain ⟨_, rfl, e⟩ := e
      refine s_istore_n d_X10_tick_31 rfl (by decide) (fun L g2 gK => ?_)
      replace g0 := gK _ _ (by decide) (Or.inr (zrf_cat _)) g0
      replace g1 := gK _ _ (by decide) (Or.inr rfl) g1
      refine r_iconst d_X10_tick_32 (v := (0 : Int32)) (by decide +kernel) ?_
      refine s_istore_n d_X10_tick_33 rfl (by decide) (fun L g3 gK => ?_)
      replace g0 := gK _ _ (by decide) (Or.inr (zrf_cat _)) g0
      replace g1 := gK _ _ (by decide) (Or.inr rfl) g1
      replace g2 := gK _ _ (by decide) (Or.inr rfl) g2
      exact f_X10_tick_34_ok hj _ _ _ _ _ _ _ _ g0 g1 g2 g3 e
    · replace e := (if_neg c2).symm.trans e
      obtain rfl := Option.some.inj e
      exact Ev.here ⟨rfl, rfl, rfl⟩

theorem c_X10_tick {G : Gd} {j : Nat} (hj : 9 ≤ j) {l0 : Nat} {l1 : Int32} {h : Hp} {o : Int32 × Hp} (e : f_X10_tick l0 l1 h = some (.inl o)) : Cal G j Y_X10_tick [zrf (l0), .int (l1)] h (some (.int o.1)) o.2 := Cal.of (n := 0) (I := false) (Or.inl (by decide +kernel)) (by decide) (by simp [lg_sl, zrf_cat, cat_int, cat_long]) (f_X10_tick_ok hj _ _ _ h (.inl o) (by simp [lv_args, zlk, zrf_cat, cat_int, cat_long]) (by simp [lv_args, zlk, zrf_cat, cat_int, cat_long]) e)
theorem t_X10_tick {G : Gd} {j : Nat} (hj : 9 ≤ j) {l0 : Nat} {l1 : Int32} {h : Hp} {o : Nat × Hp} (e : f_X10_tick l0 l1 h = some (.inr o)) : Ev G M_X10_tick j 0 (lv_args 0 [zrf (l0), .int (l1)]) [] h (ZX Y_X10_tick (.inr o)) := f_X10_tick_ok hj _ _ _ h (.inr o) (by simp [lv_args, zlk, zrf_cat, cat_int, cat_long]) (by simp [lv_args, zlk, zrf_cat, cat_int, cat_long]) e
