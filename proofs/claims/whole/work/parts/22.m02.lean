abbrev Y_X6_renew : Yx := (⟨"TaskWeave$Shard", "renew", "(I)Z"⟩, prog_8_method_19_code, 3, (some .boolean))
abbrev M_X6_renew : Mx := ("TaskWeave$Shard", prog_8_method_19_code, 3, false)
theorem yk_X6_renew : Yk Y_X6_renew 1 := ⟨by decide +kernel, by decide +kernel, ⟨by decide, by decide⟩, by decide +kernel, by decide, by decide +kernel⟩
theorem d_X6_renew_0 : decode prog_8_method_19_code 0 = .ok (.iconst 0, 1) := by decide +kernel
theorem d_X6_renew_1 : decode prog_8_method_19_code 1 = .ok (.istore_n 2, 1) := by decide +kernel
theorem d_X6_renew_2 : decode prog_8_method_19_code 2 = .ok (.iload_n 2, 1) := by decide +kernel
theorem d_X6_renew_3 : decode prog_8_method_19_code 3 = .ok (.aload_n 0, 1) := by decide +kernel
theorem d_X6_renew_4 : decode prog_8_method_19_code 4 = .ok (.getfield 34, 3) := by decide +kernel
theorem d_X6_renew_7 : decode prog_8_method_19_code 7 = .ok (.if_icmp .ge 25, 3) := by decide +kernel
theorem d_X6_renew_10 : decode prog_8_method_19_code 10 = .ok (.aload_n 0, 1) := by decide +kernel
theorem d_X6_renew_11 : decode prog_8_method_19_code 11 = .ok (.getfield 11, 3) := by decide +kernel
theorem d_X6_renew_14 : decode prog_8_method_19_code 14 = .ok (.iload_n 2, 1) := by decide +kernel
theorem d_X6_renew_15 : decode prog_8_method_19_code 15 = .ok (.aaload, 1) := by decide +kernel
theorem d_X6_renew_16 : decode prog_8_method_19_code 16 = .ok (.getfield 69, 3) := by decide +kernel
theorem d_X6_renew_19 : decode prog_8_method_19_code 19 = .ok (.bipush 16, 2) := by decide +kernel
theorem d_X6_renew_21 : decode prog_8_method_19_code 21 = .ok (.if_icmp .lt 5, 3) := by decide +kernel
theorem d_X6_renew_24 : decode prog_8_method_19_code 24 = .ok (.iconst 0, 1) := by decide +kernel
theorem d_X6_renew_25 : decode prog_8_method_19_code 25 = .ok (.ireturn, 1) := by decide +kernel
theorem d_X6_renew_26 : decode prog_8_method_19_code 26 = .ok (.iinc 2 1, 3) := by decide +kernel
theorem d_X6_renew_29 : decode prog_8_method_19_code 29 = .ok (.goto (-27), 3) := by decide +kernel
theorem d_X6_renew_32 : decode prog_8_method_19_code 32 = .ok (.aload_n 0, 1) := by decide +kernel
theorem d_X6_renew_33 : decode prog_8_method_19_code 33 = .ok (.getfield 102, 3) := by decide +kernel
theorem d_X6_renew_36 : decode prog_8_method_19_code 36 = .ok (.ifCond .eq 5, 3) := by decide +kernel
theorem d_X6_renew_39 : decode prog_8_method_19_code 39 = .ok (.iconst 0, 1) := by decide +kernel
theorem d_X6_renew_40 : decode prog_8_method_19_code 40 = .ok (.ireturn, 1) := by decide +kernel
theorem d_X6_renew_41 : decode prog_8_method_19_code 41 = .ok (.iconst 0, 1) := by decide +kernel
theorem d_X6_renew_42 : decode prog_8_method_19_code 42 = .ok (.istore_n 2, 1) := by decide +kernel
theorem d_X6_renew_43 : decode prog_8_method_19_code 43 = .ok (.iload_n 2, 1) := by decide +kernel
theorem d_X6_renew_44 : decode prog_8_method_19_code 44 = .ok (.iconst 5, 1) := by decide +kernel
theorem d_X6_renew_45 : decode prog_8_method_19_code 45 = .ok (.if_icmp .ge 39, 3) := by decide +kernel
theorem d_X6_renew_48 : decode prog_8_method_19_code 48 = .ok (.aload_n 0, 1) := by decide +kernel
theorem d_X6_renew_49 : decode prog_8_method_19_code 49 = .ok (.getfield 11, 3) := by decide +kernel
theorem d_X6_renew_52 : decode prog_8_method_19_code 52 = .ok (.iload_n 2, 1) := by decide +kernel
theorem d_X6_renew_53 : decode prog_8_method_19_code 53 = .ok (.aaload, 1) := by decide +kernel
theorem d_X6_renew_54 : decode prog_8_method_19_code 54 = .ok (.iconst 0, 1) := by decide +kernel
theorem d_X6_renew_55 : decode prog_8_method_19_code 55 = .ok (.putfield 69, 3) := by decide +kernel
theorem d_X6_renew_58 : decode prog_8_method_19_code 58 = .ok (.aload_n 0, 1) := by decide +kernel
theorem d_X6_renew_59 : decode prog_8_method_19_code 59 = .ok (.getfield 11, 3) := by decide +kernel
theorem d_X6_renew_62 : decode prog_8_method_19_code 62 = .ok (.iload_n 2, 1) := by decide +kernel
theorem d_X6_renew_63 : decode prog_8_method_19_code 63 = .ok (.aaload, 1) := by decide +kernel
theorem d_X6_renew_64 : decode prog_8_method_19_code 64 = .ok (.iconst 1, 1) := by decide +kernel
theorem d_X6_renew_65 : decode prog_8_method_19_code 65 = .ok (.putfield 94, 3) := by decide +kernel
theorem d_X6_renew_68 : decode prog_8_method_19_code 68 = .ok (.aload_n 0, 1) := by decide +kernel
theorem d_X6_renew_69 : decode prog_8_method_19_code 69 = .ok (.getfield 11, 3) := by decide +kernel
theorem d_X6_renew_72 : decode prog_8_method_19_code 72 = .ok (.iload_n 2, 1) := by decide +kernel
theorem d_X6_renew_73 : decode prog_8_method_19_code 73 = .ok (.aaload, 1) := by decide +kernel
theorem d_X6_renew_74 : decode prog_8_method_19_code 74 = .ok (.iconst (-1), 1) := by decide +kernel
theorem d_X6_renew_75 : decode prog_8_method_19_code 75 = .ok (.putfield 216, 3) := by decide +kernel
theorem d_X6_renew_78 : decode prog_8_method_19_code 78 = .ok (.iinc 2 1, 3) := by decide +kernel
theorem d_X6_renew_81 : decode prog_8_method_19_code 81 = .ok (.goto (-38), 3) := by decide +kernel
theorem d_X6_renew_84 : decode prog_8_method_19_code 84 = .ok (.aload_n 0, 1) := by decide +kernel
theorem d_X6_renew_85 : decode prog_8_method_19_code 85 = .ok (.iload_n 1, 1) := by decide +kernel
theorem d_X6_renew_86 : decode prog_8_method_19_code 86 = .ok (.putfield 34, 3) := by decide +kernel
theorem d_X6_renew_89 : decode prog_8_method_19_code 89 = .ok (.aload_n 0, 1) := by decide +kernel
theorem d_X6_renew_90 : decode prog_8_method_19_code 90 = .ok (.iconst 0, 1) := by decide +kernel
theorem d_X6_renew_91 : decode prog_8_method_19_code 91 = .ok (.putfield 53, 3) := by decide +kernel
theorem d_X6_renew_94 : decode prog_8_method_19_code 94 = .ok (.iconst 1, 1) := by decide +kernel
theorem d_X6_renew_95 : decode prog_8_method_19_code 95 = .ok (.ireturn, 1) := by decide +kernel
abbrev Y_X6_lower : Yx := (⟨"TaskWeave$Shard", "lower", "(LTaskWeave$Replica;)V"⟩, prog_8_method_21_code, 2, none)
abbrev M_X6_lower : Mx := ("TaskWeave$Shard", prog_8_method_21_code, 2, false)
theorem yk_X6_lower : Yk Y_X6_lower 1 := ⟨by decide +kernel, by decide +kernel, ⟨by decide, by decide⟩, by decide +kernel, by decide, by decide +kernel⟩
theorem d_X6_lower_0 : decode prog_8_method_21_code 0 = .ok (.aload_n 1, 1) := by decide +kernel
theorem d_X6_lower_1 : decode prog_8_method_21_code 1 = .ok (.iconst 0, 1) := by decide +kernel
theorem d_X6_lower_2 : decode prog_8_method_21_code 2 = .ok (.putfield 94, 3) := by decide +kernel
theorem d_X6_lower_5 : decode prog_8_method_21_code 5 = .ok (.aload_n 1, 1) := by decide +kernel
theorem d_X6_lower_6 : decode prog_8_method_21_code 6 = .ok (.iconst (-1), 1) := by decide +kernel
theorem d_X6_lower_7 : decode prog_8_method_21_code 7 = .ok (.putfield 216, 3) := by decide +kernel
theorem d_X6_lower_10 : decode prog_8_method_21_code 10 = .ok (.aload_n 1, 1) := by decide +kernel
theorem d_X6_lower_11 : decode prog_8_method_21_code 11 = .ok (.getfield 223, 3) := by decide +kernel
theorem d_X6_lower_14 : decode prog_8_method_21_code 14 = .ok (.aload_n 0, 1) := by decide +kernel
theorem d_X6_lower_15 : decode prog_8_method_21_code 15 = .ok (.getfield 53, 3) := by decide +kernel
theorem d_X6_lower_18 : decode prog_8_method_21_code 18 = .ok (.if_icmp .eq 10, 3) := by decide +kernel
theorem d_X6_lower_21 : decode prog_8_method_21_code 21 = .ok (.aload_n 0, 1) := by decide +kernel
theorem d_X6_lower_22 : decode prog_8_method_21_code 22 = .ok (.invokevirtual 109, 3) := by decide +kernel
theorem d_X6_lower_25 : decode prog_8_method_21_code 25 = .ok (.ifCond .ne 7, 3) := by decide +kernel
theorem d_X6_lower_28 : decode prog_8_method_21_code 28 = .ok (.aload_n 0, 1) := by decide +kernel
theorem d_X6_lower_29 : decode prog_8_method_21_code 29 = .ok (.invokevirtual 112, 3) := by decide +kernel
theorem d_X6_lower_32 : decode prog_8_method_21_code 32 = .ok (.return_, 1) := by decide +kernel
abbrev Y_X6_candidate : Yx := (⟨"TaskWeave$Shard", "candidate", "()I"⟩, prog_8_method_25_code, 3, (some .int))
abbrev M_X6_candidate : Mx := ("TaskWeave$Shard", prog_8_method_25_code, 3, false)
theorem yk_X6_candidate : Yk Y_X6_candidate 0 := ⟨by decide +kernel, by decide +kernel, ⟨by decide, by decide⟩, by decide +kernel, by decide, by decide +kernel⟩
theorem d_X6_candidate_0 : decode prog_8_method_25_code 0 = .ok (.iconst (-1), 1) := by decide +kernel
theorem d_X6_candidate_1 : decode prog_8_method_25_code 1 = .ok (.istore_n 1, 1) := by decide +kernel
theorem d_X6_candidate_2 : decode prog_8_method_25_code 2 = .ok (.iconst 0, 1) := by decide +kernel
theorem d_X6_candidate_3 : decode prog_8_method_25_code 3 = .ok (.istore_n 2, 1) := by decide +kernel
theorem d_X6_candidate_4 : decode prog_8_method_25_code 4 = .ok (.iload_n 2, 1) := by decide +kernel
theorem d_X6_candidate_5 : decode prog_8_method_25_code 5 = .ok (.aload_n 0, 1) := by decide +kernel
theorem d_X6_candidate_6 : decode prog_8_method_25_code 6 = .ok (.getfield 34, 3) := by decide +kernel
theorem d_X6_candidate_9 : decode prog_8_method_25_code 9 = .ok (.if_icmp .ge 46, 3) := by decide +kernel
theorem d_X6_candidate_12 : decode prog_8_method_25_code 12 = .ok (.aload_n 0, 1) := by decide +kernel
theorem d_X6_candidate_13 : decode prog_8_method_25_code 13 = .ok (.getfield 11, 3) := by decide +kernel
theorem d_X6_candidate_16 : decode prog_8_method_25_code 16 = .ok (.iload_n 2, 1) := by decide +kernel
theorem d_X6_candidate_17 : decode prog_8_method_25_code 17 = .ok (.aaload, 1) := by decide +kernel
theorem d_X6_candidate_18 : decode prog_8_method_25_code 18 = .ok (.getfield 94, 3) := by decide +kernel
theorem d_X6_candidate_21 : decode prog_8_method_25_code 21 = .ok (.ifCond .eq 28, 3) := by decide +kernel
theorem d_X6_candidate_24 : decode prog_8_method_25_code 24 = .ok (.iload_n 1, 1) := by decide +kernel
theorem d_X6_candidate_25 : decode prog_8_method_25_code 25 = .ok (.iconst (-1), 1) := by decide +kernel
theorem d_X6_candidate_26 : decode prog_8_method_25_code 26 = .ok (.if_icmp .eq 21, 3) := by decide +kernel
theorem d_X6_candidate_29 : decode prog_8_method_25_code 29 = .ok (.aload_n 0, 1) := by decide +kernel
theorem d_X6_candidate_30 : decode prog_8_method_25_code 30 = .ok (.getfield 11, 3) := by decide +kernel
theorem d_X6_candidate_33 : decode prog_8_method_25_code 33 = .ok (.iload_n 2, 1) := by decide +kernel
theorem d_X6_candidate_34 : decode prog_8_method_25_code 34 = .ok (.aaload, 1) := by decide +kernel
theorem d_X6_candidate_35 : decode prog_8_method_25_code 35 = .ok (.aload_n 0, 1) := by decide +kernel
theorem d_X6_candidate_36 : decode prog_8_method_25_code 36 = .ok (.getfield 11, 3) := by decide +kernel
theorem d_X6_candidate_39 : decode prog_8_method_25_code 39 = .ok (.iload_n 1, 1) := by decide +kernel
theorem d_X6_candidate_40 : decode prog_8_method_25_code 40 = .ok (.aaload, 1) := by decide +kernel
theorem d_X6_candidate_41 : decode prog_8_method_25_code 41 = .ok (.invokevirtual 244, 3) := by decide +kernel
theorem d_X6_candidate_44 : decode prog_8_method_25_code 44 = .ok (.ifCond .eq 5, 3) := by decide +kernel
theorem d_X6_candidate_47 : decode prog_8_method_25_code 47 = .ok (.iload_n 2, 1) := by decide +kernel
theorem d_X6_candidate_48 : decode prog_8_method_25_code 48 = .ok (.istore_n 1, 1) := by decide +kernel
theorem d_X6_candidate_49 : decode prog_8_method_25_code 49 = .ok (.iinc 2 1, 3) := by decide +kernel
theorem d_X6_candidate_52 : decode prog_8_method_25_code 52 = .ok (.goto (-48), 3) := by decide +kernel
theorem d_X6_candidate_55 : decode prog_8_method_25_code 55 = .ok (.iload_n 1, 1) := by decide +kernel
theorem d_X6_candidate_56 : decode prog_8_method_25_code 56 = .ok (.ireturn, 1) := by decide +kernel
abbrev Y_X8_open : Yx := (⟨"TaskWeave$Task", "open", "(III)V"⟩, prog_10_method_2_code, 4, none)
abbrev M_X8_open : Mx := ("TaskWeave$Task", prog_10_method_2_code, 4, false)
theorem yk_X8_open : Yk Y_X8_open 3 := ⟨by decide +kernel, by decide +kernel, ⟨by decide, by decide⟩, by decide +kernel, by decide, by decide +kernel⟩
theorem d_X8_open_0 : decode prog_10_method_2_code 0 = .ok (.aload_n 0, 1) := by decide +kernel
theorem d_X8_open_1 : decode prog_10_method_2_code 1 = .ok (.iload_n 1, 1) := by decide +kernel
theorem d_X8_open_2 : decode prog_10_method_2_code 2 = .ok (.putfield 7, 3) := by decide +kernel
theorem d_X8_open_5 : decode prog_10_method_2_code 5 = .ok (.aload_n 0, 1) := by decide +kernel
theorem d_X8_open_6 : decode prog_10_method_2_code 6 = .ok (.iload_n 2, 1) := by decide +kernel
theorem d_X8_open_7 : decode prog_10_method_2_code 7 = .ok (.putfield 13, 3) := by decide +kernel
theorem d_X8_open_10 : decode prog_10_method_2_code 10 = .ok (.aload_n 0, 1) := by decide +kernel
theorem d_X8_open_11 : decode prog_10_method_2_code 11 = .ok (.iconst 1, 1) := by decide +kernel
theorem d_X8_open_12 : decode prog_10_method_2_code 12 = .ok (.putfield 16, 3) := by decide +kernel
theorem d_X8_open_15 : decode prog_10_method_2_code 15 = .ok (.aload_n 0, 1) := by decide +kernel
theorem d_X8_open_16 : decode prog_10_method_2_code 16 = .ok (.iload_n 3, 1) := by decide +kernel
theorem d_X8_open_17 : decode prog_10_method_2_code 17 = .ok (.putfield 19, 3) := by decide +kernel
theorem d_X8_open_20 : decode prog_10_method_2_code 20 = .ok (.aload_n 0, 1) := by decide +kernel
theorem d_X8_open_21 : decode prog_10_method_2_code 21 = .ok (.iconst 0, 1) := by decide +kernel
theorem d_X8_open_22 : decode prog_10_method_2_code 22 = .ok (.putfield 22, 3) := by decide +kernel
theorem d_X8_open_25 : decode prog_10_method_2_code 25 = .ok (.return_, 1) := by decide +kernel
abbrev Y_X8_ready : Yx := (⟨"TaskWeave$Task", "ready", "(II)V"⟩, prog_10_method_3_code, 3, none)
abbrev M_X8_ready : Mx := ("TaskWeave$Task", prog_10_method_3_code, 3, false)
theorem yk_X8_ready : Yk Y_X8_ready 2 := ⟨by decide +kernel, by decide +kernel, ⟨by decide, by decide⟩, by decide +kernel, by decide, by decide +kernel⟩
theorem d_X8_ready_0 : decode prog_10_method_3_code 0 = .ok (.aload_n 0, 1) := by decide +kernel
theorem d_X8_ready_1 : decode prog_10_method_3_code 1 = .ok (.iload_n 1, 1) := by decide +kernel
theorem d_X8_ready_2 : decode prog_10_method_3_code 2 = .ok (.putfield 16, 3) := by decide +kernel
theorem d_X8_ready_5 : decode prog_10_method_3_code 5 = .ok (.aload_n 0, 1) := by decide +kernel
theorem d_X8_ready_6 : decode prog_10_method_3_code 6 = .ok (.iload_n 2, 1) := by decide +kernel
theorem d_X8_ready_7 : decode prog_10_method_3_code 7 = .ok (.putfield 19, 3) := by decide +kernel
theorem d_X8_ready_10 : decode prog_10_method_3_code 10 = .ok (.aload_n 0, 1) := by decide +kernel
theorem d_X8_ready_11 : decode prog_10_method_3_code 11 = .ok (.iconst 0, 1) := by decide +kernel
theorem d_X8_ready_12 : decode prog_10_method_3_code 12 = .ok (.putfield 22, 3) := by decide +kernel
theorem d_X8_ready_15 : decode prog_10_method_3_code 15 = .ok (.return_, 1) := by decide +kernel
abbrev Y_X9_open : Yx := (⟨"TaskWeave$Workflow", "open", "(LTaskWeave$Program;III)V"⟩, prog_11_method_2_code, 5, none)
abbrev M_X9_open : Mx := ("TaskWeave$Workflow", prog_11_method_2_code, 5, false)
theorem yk_X9_open : Yk Y_X9_open 4 := ⟨by decide +kernel, by decide +kernel, ⟨by decide, by decide⟩, by decide +kernel, by decide, by decide +kernel⟩
theorem d_X9_open_0 : decode prog_11_method_2_code 0 = .ok (.aload_n 0, 1) := by decide +kernel
theorem d_X9_open_1 : decode prog_11_method_2_code 1 = .ok (.aload_n 1, 1) := by decide +kernel
theorem d_X9_open_2 : decode prog_11_method_2_code 2 = .ok (.putfield 33, 3) := by decide +kernel
theorem d_X9_open_5 : decode prog_11_method_2_code 5 = .ok (.aload_n 0, 1) := by decide +kernel
theorem d_X9_open_6 : decode prog_11_method_2_code 6 = .ok (.getfield 18, 3) := by decide +kernel
theorem d_X9_open_9 : decode prog_11_method_2_code 9 = .ok (.iconst 0, 1) := by decide +kernel
theorem d_X9_open_10 : decode prog_11_method_2_code 10 = .ok (.putfield 37, 3) := by decide +kernel
theorem d_X9_open_13 : decode prog_11_method_2_code 13 = .ok (.aload_n 0, 1) := by decide +kernel
theorem d_X9_open_14 : decode prog_11_method_2_code 14 = .ok (.getfield 18, 3) := by decide +kernel
theorem d_X9_open_17 : decode prog_11_method_2_code 17 = .ok (.iconst 0, 1) := by decide +kernel
theorem d_X9_open_18 : decode prog_11_method_2_code 18 = .ok (.iload_n 2, 1) := by decide +kernel
theorem d_X9_open_19 : decode prog_11_method_2_code 19 = .ok (.iload_n 3, 1) := by decide +kernel
theorem d_X9_open_20 : decode prog_11_method_2_code 20 = .ok (.iload 4, 2) := by decide +kernel
theorem d_X9_open_22 : decode prog_11_method_2_code 22 = .ok (.invokevirtual 40, 3) := by decide +kernel
theorem d_X9_open_25 : decode prog_11_method_2_code 25 = .ok (.aload_n 0, 1) := by decide +kernel
theorem d_X9_open_26 : decode prog_11_method_2_code 26 = .ok (.getfield 9, 3) := by decide +kernel
theorem d_X9_open_29 : decode prog_11_method_2_code 29 = .ok (.iconst 0, 1) := by decide +kernel
theorem d_X9_open_30 : decode prog_11_method_2_code 30 = .ok (.invokestatic 44, 3) := by decide +kernel
theorem d_X9_open_33 : decode prog_11_method_2_code 33 = .ok (.aload_n 0, 1) := by decide +kernel
theorem d_X9_open_34 : decode prog_11_method_2_code 34 = .ok (.getfield 9, 3) := by decide +kernel
theorem d_X9_open_37 : decode prog_11_method_2_code 37 = .ok (.iconst 0, 1) := by decide +kernel
theorem d_X9_open_38 : decode prog_11_method_2_code 38 = .ok (.iload_n 3, 1) := by decide +kernel
theorem d_X9_open_39 : decode prog_11_method_2_code 39 = .ok (.iastore, 1) := by decide +kernel
theorem d_X9_open_40 : decode prog_11_method_2_code 40 = .ok (.aload_n 0, 1) := by decide +kernel
theorem d_X9_open_41 : decode prog_11_method_2_code 41 = .ok (.getfield 25, 3) := by decide +kernel
theorem d_X9_open_44 : decode prog_11_method_2_code 44 = .ok (.iconst 0, 1) := by decide +kernel
theorem d_X9_open_45 : decode prog_11_method_2_code 45 = .ok (.putfield 50, 3) := by decide +kernel
theorem d_X9_open_48 : decode prog_11_method_2_code 48 = .ok (.aload_n 0, 1) := by decide +kernel
theorem d_X9_open_49 : decode prog_11_method_2_code 49 = .ok (.iconst 0, 1) := by decide +kernel
theorem d_X9_open_50 : decode prog_11_method_2_code 50 = .ok (.putfield 53, 3) := by decide +kernel
theorem d_X9_open_53 : decode prog_11_method_2_code 53 = .ok (.aload_n 0, 1) := by decide +kernel
theorem d_X9_open_54 : decode prog_11_method_2_code 54 = .ok (.iconst 0, 1) := by decide +kernel
theorem d_X9_open_55 : decode prog_11_method_2_code 55 = .ok (.putfield 56, 3) := by decide +kernel
theorem d_X9_open_58 : decode prog_11_method_2_code 58 = .ok (.aload_n 0, 1) := by decide +kernel
theorem d_X9_open_59 : decode prog_11_method_2_code 59 = .ok (.iconst 5, 1) := by decide +kernel
theorem d_X9_open_60 : decode prog_11_method_2_code 60 = .ok (.putfield 59, 3) := by decide +kernel
theorem d_X9_open_63 : decode prog_11_method_2_code 63 = .ok (.aload_n 0, 1) := by decide +kernel
theorem d_X9_open_64 : decode prog_11_method_2_code 64 = .ok (.iconst 0, 1) := by decide +kernel
theorem d_X9_open_65 : decode prog_11_method_2_code 65 = .ok (.putfield 62, 3) := by decide +kernel
theorem d_X9_open_68 : decode prog_11_method_2_code 68 = .ok (.aload_n 0, 1) := by decide +kernel
theorem d_X9_open_69 : decode prog_11_method_2_code 69 = .ok (.iconst 0, 1) := by decide +kernel
theorem d_X9_open_70 : decode prog_11_method_2_code 70 = .ok (.putfield 65, 3) := by decide +kernel
theorem d_X9_open_73 : decode prog_11_method_2_code 73 = .ok (.aload_n 0, 1) := by decide +kernel
theorem d_X9_open_74 : decode prog_11_method_2_code 74 = .ok (.iconst 0, 1) := by decide +kernel
theorem d_X9_open_75 : decode prog_11_method_2_code 75 = .ok (.putfield 68, 3) := by decide +kernel
theorem d_X9_open_78 : decode prog_11_method_2_code 78 = .ok (.return_, 1) := by decide +kernel
abbrev Y_X9_parent : Yx := (⟨"TaskWeave$Workflow", "parent", "()I"⟩, prog_11_method_3_code, 2, (some .int))
abbrev M_X9_parent : Mx := ("TaskWeave$Workflow", prog_11_method_3_code, 2, false)
theorem yk_X9_parent : Yk Y_X9_parent 0 := ⟨by decide +kernel, by decide +kernel, ⟨by decide, by decide⟩, by decide +kernel, by decide, by decide +kernel⟩
theorem d_X9_parent_0 : decode prog_11_method_3_code 0 = .ok (.aload_n 0, 1) := by decide +kernel
theorem d_X9_parent_1 : decode prog_11_method_3_code 1 = .ok (.getfield 18, 3) := by decide +kernel
theorem d_X9_parent_4 : decode prog_11_method_3_code 4 = .ok (.getfield 71, 3) := by decide +kernel
theorem d_X9_parent_7 : decode prog_11_method_3_code 7 = .ok (.iconst 0, 1) := by decide +kernel
theorem d_X9_parent_8 : decode prog_11_method_3_code 8 = .ok (.iaload, 1) := by decide +kernel
theorem d_X9_parent_9 : decode prog_11_method_3_code 9 = .ok (.istore_n 1, 1) := by decide +kernel
theorem d_X9_parent_10 : decode prog_11_method_3_code 10 = .ok (.iload_n 1, 1) := by decide +kernel
theorem d_X9_parent_11 : decode prog_11_method_3_code 11 = .ok (.ifCond .ge 12, 3) := by decide +kernel
theorem d_X9_parent_14 : decode prog_11_method_3_code 14 = .ok (.iconst (-1), 1) := by decide +kernel
theorem d_X9_parent_15 : decode prog_11_method_3_code 15 = .ok (.iload_n 1, 1) := by decide +kernel
theorem d_X9_parent_16 : decode prog_11_method_3_code 16 = .ok (.isub, 1) := by decide +kernel
theorem d_X9_parent_17 : decode prog_11_method_3_code 17 = .ok (.bipush 64, 2) := by decide +kernel
theorem d_X9_parent_19 : decode prog_11_method_3_code 19 = .ok (.idiv, 1) := by decide +kernel
theorem d_X9_parent_20 : decode prog_11_method_3_code 20 = .ok (.goto 4, 3) := by decide +kernel
theorem d_X9_parent_23 : decode prog_11_method_3_code 23 = .ok (.iconst (-1), 1) := by decide +kernel
theorem d_X9_parent_24 : decode prog_11_method_3_code 24 = .ok (.ireturn, 1) := by decide +kernel
abbrev Y_X9_numberAsChild : Yx := (⟨"TaskWeave$Workflow", "numberAsChild", "()I"⟩, prog_11_method_4_code, 1, (some .int))
abbrev M_X9_numberAsChild : Mx := ("TaskWeave$Workflow", prog_11_method_4_code, 1, false)
theorem yk_X9_numberAsChild : Yk Y_X9_numberAsChild 0 := ⟨by decide +kernel, by decide +kernel, ⟨by decide, by decide⟩, by decide +kernel, by decide, by decide +kernel⟩
theorem d_X9_numberAsChild_0 : decode prog_11_method_4_code 0 = .ok (.iconst (-1), 1) := by decide +kernel
theorem d_X9_numberAsChild_1 : decode prog_11_method_4_code 1 = .ok (.aload_n 0, 1) := by decide +kernel
theorem d_X9_numberAsChild_2 : decode prog_11_method_4_code 2 = .ok (.getfield 18, 3) := by decide +kernel
theorem d_X9_numberAsChild_5 : decode prog_11_method_4_code 5 = .ok (.getfield 71, 3) := by decide +kernel
theorem d_X9_numberAsChild_8 : decode prog_11_method_4_code 8 = .ok (.iconst 0, 1) := by decide +kernel
theorem d_X9_numberAsChild_9 : decode prog_11_method_4_code 9 = .ok (.iaload, 1) := by decide +kernel
theorem d_X9_numberAsChild_10 : decode prog_11_method_4_code 10 = .ok (.isub, 1) := by decide +kernel
theorem d_X9_numberAsChild_11 : decode prog_11_method_4_code 11 = .ok (.bipush 64, 2) := by decide +kernel
theorem d_X9_numberAsChild_13 : decode prog_11_method_4_code 13 = .ok (.irem, 1) := by decide +kernel
theorem d_X9_numberAsChild_14 : decode prog_11_method_4_code 14 = .ok (.ireturn, 1) := by decide +kernel
abbrev Y_J9_floorMod_7cf53 : Yx := (⟨"java/lang/Math", "floorMod", "(II)I"⟩, prog_21_method_50_code, 3, (some .int))
abbrev M_J9_floorMod_7cf53 : Mx := ("java/lang/Math", prog_21_method_50_code, 3, false)
theorem yk_J9_floorMod_7cf53 : Yk Y_J9_floorMod_7cf53 2 := ⟨by decide +kernel, by decide +kernel, ⟨by decide, by decide⟩, by decide +kernel, by decide, by decide +kernel⟩
theorem d_J9_floorMod_7cf53_0 : decode prog_21_method_50_code 0 = .ok (.iload_n 0, 1) := by decide +kernel
theorem d_J9_floorMod_7cf53_1 : decode prog_21_method_50_code 1 = .ok (.iload_n 1, 1) := by decide +kernel
theorem d_J9_floorMod_7cf53_2 : decode prog_21_method_50_code 2 = .ok (.irem, 1) := by decide +kernel
theorem d_J9_floorMod_7cf53_3 : decode prog_21_method_50_code 3 = .ok (.istore_n 2, 1) := by decide +kernel
theorem d_J9_floorMod_7cf53_4 : decode prog_21_method_50_code 4 = .ok (.iload_n 0, 1) := by decide +kernel
theorem d_J9_floorMod_7cf53_5 : decode prog_21_method_50_code 5 = .ok (.iload_n 1, 1) := by decide +kernel
theorem d_J9_floorMod_7cf53_6 : decode prog_21_method_50_code 6 = .ok (.ixor, 1) := by decide +kernel
theorem d_J9_floorMod_7cf53_7 : decode prog_21_method_50_code 7 = .ok (.ifCond .ge 11, 3) := by decide +kernel
theorem d_J9_floorMod_7cf53_10 : decode prog_21_method_50_code 10 = .ok (.iload_n 2, 1) := by decide +kernel
theorem d_J9_floorMod_7cf53_11 : decode prog_21_method_50_code 11 = .ok (.ifCond .eq 7, 3) := by decide +kernel
theorem d_J9_floorMod_7cf53_14 : decode prog_21_method_50_code 14 = .ok (.iload_n 2, 1) := by decide +kernel
theorem d_J9_floorMod_7cf53_15 : decode prog_21_method_50_code 15 = .ok (.iload_n 1, 1) := by decide +kernel
theorem d_J9_floorMod_7cf53_16 : decode prog_21_method_50_code 16 = .ok (.iadd, 1) := by decide +kernel
theorem d_J9_floorMod_7cf53_17 : decode prog_21_method_50_code 17 = .ok (.ireturn, 1) := by decide +kernel
theorem d_J9_floorMod_7cf53_18 : decode prog_21_method_50_code 18 = .ok (.iload_n 2, 1) := by decide +kernel
theorem d_J9_floorMod_7cf53_19 : decode prog_21_method_50_code 19 = .ok (.ireturn, 1) := by decide +kernel
abbrev Y_X9_shardOf : Yx := (⟨"TaskWeave$Workflow", "shardOf", "(I)I"⟩, prog_11_method_5_code, 4, (some .int))
abbrev M_X9_shardOf : Mx := ("TaskWeave$Workflow", prog_11_method_5_code, 4, false)
theorem yk_X9_shardOf : Yk Y_X9_shardOf 1 := ⟨by decide +kernel, by decide +kernel, ⟨by decide, by decide⟩, by decide +kernel, by decide, by decide +kernel⟩
theorem d_X9_shardOf_0 : decode prog_11_method_5_code 0 = .ok (.aload_n 0, 1) := by decide +kernel
theorem d_X9_shardOf_1 : decode prog_11_method_5_code 1 = .ok (.getfield 18, 3) := by decide +kernel
theorem d_X9_shardOf_4 : decode prog_11_method_5_code 4 = .ok (.bipush 6, 2) := by decide +kernel
theorem d_X9_shardOf_6 : decode prog_11_method_5_code 6 = .ok (.iload_n 1, 1) := by decide +kernel
theorem d_X9_shardOf_7 : decode prog_11_method_5_code 7 = .ok (.invokevirtual 74, 3) := by decide +kernel
theorem d_X9_shardOf_10 : decode prog_11_method_5_code 10 = .ok (.istore_n 2, 1) := by decide +kernel
theorem d_X9_shardOf_11 : decode prog_11_method_5_code 11 = .ok (.iload_n 1, 1) := by decide +kernel
theorem d_X9_shardOf_12 : decode prog_11_method_5_code 12 = .ok (.iconst (-1), 1) := by decide +kernel
theorem d_X9_shardOf_13 : decode prog_11_method_5_code 13 = .ok (.if_icmp .ne 10, 3) := by decide +kernel
theorem d_X9_shardOf_16 : decode prog_11_method_5_code 16 = .ok (.aload_n 0, 1) := by decide +kernel
theorem d_X9_shardOf_17 : decode prog_11_method_5_code 17 = .ok (.invokevirtual 78, 3) := by decide +kernel
theorem d_X9_shardOf_20 : decode prog_11_method_5_code 20 = .ok (.goto 29, 3) := by decide +kernel
theorem d_X9_shardOf_23 : decode prog_11_method_5_code 23 = .ok (.iload_n 2, 1) := by decide +kernel
theorem d_X9_shardOf_24 : decode prog_11_method_5_code 24 = .ok (.iconst (-1), 1) := by decide +kernel
theorem d_X9_shardOf_25 : decode prog_11_method_5_code 25 = .ok (.if_icmp .ne 10, 3) := by decide +kernel
theorem d_X9_shardOf_28 : decode prog_11_method_5_code 28 = .ok (.aload_n 0, 1) := by decide +kernel
theorem d_X9_shardOf_29 : decode prog_11_method_5_code 29 = .ok (.getfield 29, 3) := by decide +kernel
theorem d_X9_shardOf_32 : decode prog_11_method_5_code 32 = .ok (.goto 17, 3) := by decide +kernel
theorem d_X9_shardOf_35 : decode prog_11_method_5_code 35 = .ok (.aload_n 0, 1) := by decide +kernel
theorem d_X9_shardOf_36 : decode prog_11_method_5_code 36 = .ok (.getfield 29, 3) := by decide +kernel
theorem d_X9_shardOf_39 : decode prog_11_method_5_code 39 = .ok (.aload_n 0, 1) := by decide +kernel
theorem d_X9_shardOf_40 : decode prog_11_method_5_code 40 = .ok (.getfield 18, 3) := by decide +kernel
theorem d_X9_shardOf_43 : decode prog_11_method_5_code 43 = .ok (.getfield 82, 3) := by decide +kernel
theorem d_X9_shardOf_46 : decode prog_11_method_5_code 46 = .ok (.iload_n 2, 1) := by decide +kernel
theorem d_X9_shardOf_47 : decode prog_11_method_5_code 47 = .ok (.iaload, 1) := by decide +kernel
theorem d_X9_shardOf_48 : decode prog_11_method_5_code 48 = .ok (.iadd, 1) := by decide +kernel
theorem d_X9_shardOf_49 : decode prog_11_method_5_code 49 = .ok (.istore_n 3, 1) := by decide +kernel
theorem d_X9_shardOf_50 : decode prog_11_method_5_code 50 = .ok (.iload_n 3, 1) := by decide +kernel
theorem d_X9_shardOf_51 : decode prog_11_method_5_code 51 = .ok (.iconst 4, 1) := by decide +kernel
theorem d_X9_shardOf_52 : decode prog_11_method_5_code 52 = .ok (.invokestatic 85, 3) := by decide +kernel
theorem d_X9_shardOf_55 : decode prog_11_method_5_code 55 = .ok (.ireturn, 1) := by decide +kernel
abbrev Y_X9_offers : Yx := (⟨"TaskWeave$Workflow", "offers", "(II)Z"⟩, prog_11_method_6_code, 3, (some .boolean))
abbrev M_X9_offers : Mx := ("TaskWeave$Workflow", prog_11_method_6_code, 3, false)
theorem yk_X9_offers : Yk Y_X9_offers 2 := ⟨by decide +kernel, by decide +kernel, ⟨by decide, by decide⟩, by decide +kernel, by decide, by decide +kernel⟩
theorem d_X9_offers_0 : decode prog_11_method_6_code 0 = .ok (.aload_n 0, 1) := by decide +kernel
theorem d_X9_offers_1 : decode prog_11_method_6_code 1 = .ok (.getfield 59, 3) := by decide +kernel
theorem d_X9_offers_4 : decode prog_11_method_6_code 4 = .ok (.ifCond .ne 39, 3) := by decide +kernel
theorem d_X9_offers_7 : decode prog_11_method_6_code 7 = .ok (.aload_n 0, 1) := by decide +kernel
theorem d_X9_offers_8 : decode prog_11_method_6_code 8 = .ok (.getfield 25, 3) := by decide +kernel
theorem d_X9_offers_11 : decode prog_11_method_6_code 11 = .ok (.getfield 90, 3) := by decide +kernel
theorem d_X9_offers_14 : decode prog_11_method_6_code 14 = .ok (.iload_n 1, 1) := by decide +kernel
theorem d_X9_offers_15 : decode prog_11_method_6_code 15 = .ok (.if_icmp .ne 28, 3) := by decide +kernel
theorem d_X9_offers_18 : decode prog_11_method_6_code 18 = .ok (.aload_n 0, 1) := by decide +kernel
theorem d_X9_offers_19 : decode prog_11_method_6_code 19 = .ok (.getfield 25, 3) := by decide +kernel
theorem d_X9_offers_22 : decode prog_11_method_6_code 22 = .ok (.getfield 50, 3) := by decide +kernel
theorem d_X9_offers_25 : decode prog_11_method_6_code 25 = .ok (.ifCond .ne 18, 3) := by decide +kernel
theorem d_X9_offers_28 : decode prog_11_method_6_code 28 = .ok (.aload_n 0, 1) := by decide +kernel
theorem d_X9_offers_29 : decode prog_11_method_6_code 29 = .ok (.getfield 25, 3) := by decide +kernel
theorem d_X9_offers_32 : decode prog_11_method_6_code 32 = .ok (.getfield 93, 3) := by decide +kernel
theorem d_X9_offers_35 : decode prog_11_method_6_code 35 = .ok (.iload_n 2, 1) := by decide +kernel
theorem d_X9_offers_36 : decode prog_11_method_6_code 36 = .ok (.if_icmp .gt 7, 3) := by decide +kernel
theorem d_X9_offers_39 : decode prog_11_method_6_code 39 = .ok (.iconst 1, 1) := by decide +kernel
theorem d_X9_offers_40 : decode prog_11_method_6_code 40 = .ok (.goto 4, 3) := by decide +kernel
theorem d_X9_offers_43 : decode prog_11_method_6_code 43 = .ok (.iconst 0, 1) := by decide +kernel
theorem d_X9_offers_44 : decode prog_11_method_6_code 44 = .ok (.ireturn, 1) := by decide +kernel
abbrev Y_X9_hasDeadline : Yx := (⟨"TaskWeave$Workflow", "hasDeadline", "()Z"⟩, prog_11_method_7_code, 1, (some .boolean))
abbrev M_X9_hasDeadline : Mx := ("TaskWeave$Workflow", prog_11_method_7_code, 1, false)
theorem yk_X9_hasDeadline : Yk Y_X9_hasDeadline 0 := ⟨by decide +kernel, by decide +kernel, ⟨by decide, by decide⟩, by decide +kernel, by decide, by decide +kernel⟩
theorem d_X9_hasDeadline_0 : decode prog_11_method_7_code 0 = .ok (.aload_n 0, 1) := by decide +kernel
theorem d_X9_hasDeadline_1 : decode prog_11_method_7_code 1 = .ok (.getfield 59, 3) := by decide +kernel
theorem d_X9_hasDeadline_4 : decode prog_11_method_7_code 4 = .ok (.iconst 1, 1) := by decide +kernel
theorem d_X9_hasDeadline_5 : decode prog_11_method_7_code 5 = .ok (.if_icmp .eq 20, 3) := by decide +kernel
theorem d_X9_hasDeadline_8 : decode prog_11_method_7_code 8 = .ok (.aload_n 0, 1) := by decide +kernel
theorem d_X9_hasDeadline_9 : decode prog_11_method_7_code 9 = .ok (.getfield 59, 3) := by decide +kernel
theorem d_X9_hasDeadline_12 : decode prog_11_method_7_code 12 = .ok (.ifCond .ne 17, 3) := by decide +kernel
theorem d_X9_hasDeadline_15 : decode prog_11_method_7_code 15 = .ok (.aload_n 0, 1) := by decide +kernel
theorem d_X9_hasDeadline_16 : decode prog_11_method_7_code 16 = .ok (.getfield 25, 3) := by decide +kernel
theorem d_X9_hasDeadline_19 : decode prog_11_method_7_code 19 = .ok (.getfield 50, 3) := by decide +kernel
theorem d_X9_hasDeadline_22 : decode prog_11_method_7_code 22 = .ok (.ifCond .le 7, 3) := by decide +kernel
theorem d_X9_hasDeadline_25 : decode prog_11_method_7_code 25 = .ok (.iconst 1, 1) := by decide +kernel
theorem d_X9_hasDeadline_26 : decode prog_11_method_7_code 26 = .ok (.goto 4, 3) := by decide +kernel
theorem d_X9_hasDeadline_29 : decode prog_11_method_7_code 29 = .ok (.iconst 0, 1) := by decide +kernel
theorem d_X9_hasDeadline_30 : decode prog_11_method_7_code 30 = .ok (.ireturn, 1) := by decide +kernel
abbrev Y_X9_deadline : Yx := (⟨"TaskWeave$Workflow", "deadline", "()I"⟩, prog_11_method_8_code, 1, (some .int))
abbrev M_X9_deadline : Mx := ("TaskWeave$Workflow", prog_11_method_8_code, 1, false)
theorem yk_X9_deadline : Yk Y_X9_deadline 0 := ⟨by decide +kernel, by decide +kernel, ⟨by decide, by decide⟩, by decide +kernel, by decide, by decide +kernel⟩
theorem d_X9_deadline_0 : decode prog_11_method_8_code 0 = .ok (.aload_n 0, 1) := by decide +kernel
theorem d_X9_deadline_1 : decode prog_11_method_8_code 1 = .ok (.getfield 59, 3) := by decide +kernel
theorem d_X9_deadline_4 : decode prog_11_method_8_code 4 = .ok (.iconst 1, 1) := by decide +kernel
theorem d_X9_deadline_5 : decode prog_11_method_8_code 5 = .ok (.if_icmp .ne 10, 3) := by decide +kernel
theorem d_X9_deadline_8 : decode prog_11_method_8_code 8 = .ok (.aload_n 0, 1) := by decide +kernel
theorem d_X9_deadline_9 : decode prog_11_method_8_code 9 = .ok (.getfield 96, 3) := by decide +kernel
theorem d_X9_deadline_12 : decode prog_11_method_8_code 12 = .ok (.goto 10, 3) := by decide +kernel
theorem d_X9_deadline_15 : decode prog_11_method_8_code 15 = .ok (.aload_n 0, 1) := by decide +kernel
theorem d_X9_deadline_16 : decode prog_11_method_8_code 16 = .ok (.getfield 25, 3) := by decide +kernel
theorem d_X9_deadline_19 : decode prog_11_method_8_code 19 = .ok (.getfield 99, 3) := by decide +kernel
theorem d_X9_deadline_22 : decode prog_11_method_8_code 22 = .ok (.ireturn, 1) := by decide +kernel
abbrev Y_X9_isMessage : Yx := (⟨"TaskWeave$Workflow", "isMessage", "(I)Z"⟩, prog_11_method_9_code, 2, (some .boolean))
abbrev M_X9_isMessage : Mx := ("TaskWeave$Workflow", prog_11_method_9_code, 2, false)
theorem yk_X9_isMessage : Yk Y_X9_isMessage 1 := ⟨by decide +kernel, by decide +kernel, ⟨by decide, by decide⟩, by decide +kernel, by decide, by decide +kernel⟩
theorem d_X9_isMessage_0 : decode prog_11_method_9_code 0 = .ok (.iload_n 1, 1) := by decide +kernel
theorem d_X9_isMessage_1 : decode prog_11_method_9_code 1 = .ok (.bipush 6, 2) := by decide +kernel
theorem d_X9_isMessage_3 : decode prog_11_method_9_code 3 = .ok (.if_icmp .eq 27, 3) := by decide +kernel
theorem d_X9_isMessage_6 : decode prog_11_method_9_code 6 = .ok (.iload_n 1, 1) := by decide +kernel
theorem d_X9_isMessage_7 : decode prog_11_method_9_code 7 = .ok (.bipush 9, 2) := by decide +kernel
theorem d_X9_isMessage_9 : decode prog_11_method_9_code 9 = .ok (.if_icmp .eq 21, 3) := by decide +kernel
theorem d_X9_isMessage_12 : decode prog_11_method_9_code 12 = .ok (.iload_n 1, 1) := by decide +kernel
theorem d_X9_isMessage_13 : decode prog_11_method_9_code 13 = .ok (.bipush 10, 2) := by decide +kernel
theorem d_X9_isMessage_15 : decode prog_11_method_9_code 15 = .ok (.if_icmp .lt 19, 3) := by decide +kernel
theorem d_X9_isMessage_18 : decode prog_11_method_9_code 18 = .ok (.aload_n 0, 1) := by decide +kernel
theorem d_X9_isMessage_19 : decode prog_11_method_9_code 19 = .ok (.getfield 18, 3) := by decide +kernel
theorem d_X9_isMessage_22 : decode prog_11_method_9_code 22 = .ok (.getfield 71, 3) := by decide +kernel
theorem d_X9_isMessage_25 : decode prog_11_method_9_code 25 = .ok (.iconst 0, 1) := by decide +kernel
theorem d_X9_isMessage_26 : decode prog_11_method_9_code 26 = .ok (.iaload, 1) := by decide +kernel
theorem d_X9_isMessage_27 : decode prog_11_method_9_code 27 = .ok (.ifCond .ge 7, 3) := by decide +kernel
theorem d_X9_isMessage_30 : decode prog_11_method_9_code 30 = .ok (.iconst 1, 1) := by decide +kernel
theorem d_X9_isMessage_31 : decode prog_11_method_9_code 31 = .ok (.goto 4, 3) := by decide +kernel
theorem d_X9_isMessage_34 : decode prog_11_method_9_code 34 = .ok (.iconst 0, 1) := by decide +kernel
theorem d_X9_isMessage_35 : decode prog_11_method_9_code 35 = .ok (.ireturn, 1) := by decide +kernel
abbrev Y_X9_leave : Yx := (⟨"TaskWeave$Workflow", "leave", "(I)V"⟩, prog_11_method_17_code, 2, none)
abbrev M_X9_leave : Mx := ("TaskWeave$Workflow", prog_11_method_17_code, 2, false)
theorem yk_X9_leave : Yk Y_X9_leave 1 := ⟨by decide +kernel, by decide +kernel, ⟨by decide, by decide⟩, by decide +kernel, by decide, by decide +kernel⟩
theorem d_X9_leave_0 : decode prog_11_method_17_code 0 = .ok (.aload_n 0, 1) := by decide +kernel
theorem d_X9_leave_1 : decode prog_11_method_17_code 1 = .ok (.iload_n 1, 1) := by decide +kernel
theorem d_X9_leave_2 : decode prog_11_method_17_code 2 = .ok (.putfield 53, 3) := by decide +kernel
theorem d_X9_leave_5 : decode prog_11_method_17_code 5 = .ok (.aload_n 0, 1) := by decide +kernel
theorem d_X9_leave_6 : decode prog_11_method_17_code 6 = .ok (.dup, 1) := by decide +kernel
theorem d_X9_leave_7 : decode prog_11_method_17_code 7 = .ok (.getfield 56, 3) := by decide +kernel
theorem d_X9_leave_10 : decode prog_11_method_17_code 10 = .ok (.iconst 1, 1) := by decide +kernel
theorem d_X9_leave_11 : decode prog_11_method_17_code 11 = .ok (.iadd, 1) := by decide +kernel
theorem d_X9_leave_12 : decode prog_11_method_17_code 12 = .ok (.putfield 56, 3) := by decide +kernel
theorem d_X9_leave_15 : decode prog_11_method_17_code 15 = .ok (.return_, 1) := by decide +kernel
abbrev Y_X9_reckon : Yx := (⟨"TaskWeave$Workflow", "reckon", "(III)I"⟩, prog_11_method_16_code, 3, (some .int))
abbrev M_X9_reckon : Mx := ("TaskWeave$Workflow", prog_11_method_16_code, 3, false)
theorem yk_X9_reckon : Yk Y_X9_reckon 3 := ⟨by decide +kernel, by decide +kernel, ⟨by decide, by decide⟩, by decide +kernel, by decide, by decide +kernel⟩
theorem d_X9_reckon_0 : decode prog_11_method_16_code 0 = .ok (.iload_n 0, 1) := by decide +kernel
theorem d_X9_reckon_1 : decode prog_11_method_16_code 1 = .ok (.lookupswitch 73 #[(42, 47), (45, 43), (60, 51), (61, 62)], 43) := by decide +kernel
theorem d_X9_reckon_44 : decode prog_11_method_16_code 44 = .ok (.iload_n 1, 1) := by decide +kernel
theorem d_X9_reckon_45 : decode prog_11_method_16_code 45 = .ok (.iload_n 2, 1) := by decide +kernel
theorem d_X9_reckon_46 : decode prog_11_method_16_code 46 = .ok (.isub, 1) := by decide +kernel
theorem d_X9_reckon_47 : decode prog_11_method_16_code 47 = .ok (.ireturn, 1) := by decide +kernel
theorem d_X9_reckon_48 : decode prog_11_method_16_code 48 = .ok (.iload_n 1, 1) := by decide +kernel
theorem d_X9_reckon_49 : decode prog_11_method_16_code 49 = .ok (.iload_n 2, 1) := by decide +kernel
theorem d_X9_reckon_50 : decode prog_11_method_16_code 50 = .ok (.imul, 1) := by decide +kernel
theorem d_X9_reckon_51 : decode prog_11_method_16_code 51 = .ok (.ireturn, 1) := by decide +kernel
theorem d_X9_reckon_52 : decode prog_11_method_16_code 52 = .ok (.iload_n 1, 1) := by decide +kernel
theorem d_X9_reckon_53 : decode prog_11_method_16_code 53 = .ok (.iload_n 2, 1) := by decide +kernel
theorem d_X9_reckon_54 : decode prog_11_method_16_code 54 = .ok (.if_icmp .ge 7, 3) := by decide +kernel
theorem d_X9_reckon_57 : decode prog_11_method_16_code 57 = .ok (.iconst 1, 1) := by decide +kernel
theorem d_X9_reckon_58 : decode prog_11_method_16_code 58 = .ok (.goto 4, 3) := by decide +kernel
theorem d_X9_reckon_61 : decode prog_11_method_16_code 61 = .ok (.iconst 0, 1) := by decide +kernel
theorem d_X9_reckon_62 : decode prog_11_method_16_code 62 = .ok (.ireturn, 1) := by decide +kernel
theorem d_X9_reckon_63 : decode prog_11_method_16_code 63 = .ok (.iload_n 1, 1) := by decide +kernel
theorem d_X9_reckon_64 : decode prog_11_method_16_code 64 = .ok (.iload_n 2, 1) := by decide +kernel
theorem d_X9_reckon_65 : decode prog_11_method_16_code 65 = .ok (.if_icmp .ne 7, 3) := by decide +kernel
theorem d_X9_reckon_68 : decode prog_11_method_16_code 68 = .ok (.iconst 1, 1) := by decide +kernel
theorem d_X9_reckon_69 : decode prog_11_method_16_code 69 = .ok (.goto 4, 3) := by decide +kernel
theorem d_X9_reckon_72 : decode prog_11_method_16_code 72 = .ok (.iconst 0, 1) := by decide +kernel
theorem d_X9_reckon_73 : decode prog_11_method_16_code 73 = .ok (.ireturn, 1) := by decide +kernel
theorem d_X9_reckon_74 : decode prog_11_method_16_code 74 = .ok (.iload_n 1, 1) := by decide +kernel
theorem d_X9_reckon_75 : decode prog_11_method_16_code 75 = .ok (.iload_n 2, 1) := by decide +kernel
theorem d_X9_reckon_76 : decode prog_11_method_16_code 76 = .ok (.iadd, 1) := by decide +kernel
theorem d_X9_reckon_77 : decode prog_11_method_16_code 77 = .ok (.ireturn, 1) := by decide +kernel
abbrev Y_X9_rest : Yx := (⟨"TaskWeave$Workflow", "rest", "(II)V"⟩, prog_11_method_19_code, 3, none)
abbrev M_X9_rest : Mx := ("TaskWeave$Workflow", prog_11_method_19_code, 3, false)
theorem yk_X9_rest : Yk Y_X9_rest 2 := ⟨by decide +kernel, by decide +kernel, ⟨by decide, by decide⟩, by decide +kernel, by decide, by decide +kernel⟩
theorem d_X9_rest_0 : decode prog_11_method_19_code 0 = .ok (.aload_n 0, 1) := by decide +kernel
theorem d_X9_rest_1 : decode prog_11_method_19_code 1 = .ok (.iload_n 1, 1) := by decide +kernel
theorem d_X9_rest_2 : decode prog_11_method_19_code 2 = .ok (.putfield 59, 3) := by decide +kernel
theorem d_X9_rest_5 : decode prog_11_method_19_code 5 = .ok (.aload_n 0, 1) := by decide +kernel
theorem d_X9_rest_6 : decode prog_11_method_19_code 6 = .ok (.iload_n 2, 1) := by decide +kernel
theorem d_X9_rest_7 : decode prog_11_method_19_code 7 = .ok (.putfield 96, 3) := by decide +kernel
theorem d_X9_rest_10 : decode prog_11_method_19_code 10 = .ok (.return_, 1) := by decide +kernel
abbrev Y_X9_set : Yx := (⟨"TaskWeave$Workflow", "set", "(I)V"⟩, prog_11_method_18_code, 2, none)
abbrev M_X9_set : Mx := ("TaskWeave$Workflow", prog_11_method_18_code, 2, false)
theorem yk_X9_set : Yk Y_X9_set 1 := ⟨by decide +kernel, by decide +kernel, ⟨by decide, by decide⟩, by decide +kernel, by decide, by decide +kernel⟩
theorem d_X9_set_0 : decode prog_11_method_18_code 0 = .ok (.aload_n 0, 1) := by decide +kernel
theorem d_X9_set_1 : decode prog_11_method_18_code 1 = .ok (.getfield 33, 3) := by decide +kernel
theorem d_X9_set_4 : decode prog_11_method_18_code 4 = .ok (.ifnull 40, 3) := by decide +kernel
theorem d_X9_set_7 : decode prog_11_method_18_code 7 = .ok (.aload_n 0, 1) := by decide +kernel
theorem d_X9_set_8 : decode prog_11_method_18_code 8 = .ok (.getfield 53, 3) := by decide +kernel
theorem d_X9_set_11 : decode prog_11_method_18_code 11 = .ok (.aload_n 0, 1) := by decide +kernel
theorem d_X9_set_12 : decode prog_11_method_18_code 12 = .ok (.getfield 33, 3) := by decide +kernel
theorem d_X9_set_15 : decode prog_11_method_18_code 15 = .ok (.getfield 109, 3) := by decide +kernel
theorem d_X9_set_18 : decode prog_11_method_18_code 18 = .ok (.if_icmp .ge 26, 3) := by decide +kernel
theorem d_X9_set_21 : decode prog_11_method_18_code 21 = .ok (.aload_n 0, 1) := by decide +kernel
theorem d_X9_set_22 : decode prog_11_method_18_code 22 = .ok (.getfield 9, 3) := by decide +kernel
theorem d_X9_set_25 : decode prog_11_method_18_code 25 = .ok (.aload_n 0, 1) := by decide +kernel
theorem d_X9_set_26 : decode prog_11_method_18_code 26 = .ok (.getfield 33, 3) := by decide +kernel
theorem d_X9_set_29 : decode prog_11_method_18_code 29 = .ok (.getfield 121, 3) := by decide +kernel
theorem d_X9_set_32 : decode prog_11_method_18_code 32 = .ok (.aload_n 0, 1) := by decide +kernel
theorem d_X9_set_33 : decode prog_11_method_18_code 33 = .ok (.getfield 53, 3) := by decide +kernel
theorem d_X9_set_36 : decode prog_11_method_18_code 36 = .ok (.bipush 8, 2) := by decide +kernel
theorem d_X9_set_38 : decode prog_11_method_18_code 38 = .ok (.imul, 1) := by decide +kernel
theorem d_X9_set_39 : decode prog_11_method_18_code 39 = .ok (.iconst 1, 1) := by decide +kernel
theorem d_X9_set_40 : decode prog_11_method_18_code 40 = .ok (.iadd, 1) := by decide +kernel
theorem d_X9_set_41 : decode prog_11_method_18_code 41 = .ok (.iaload, 1) := by decide +kernel
theorem d_X9_set_42 : decode prog_11_method_18_code 42 = .ok (.iload_n 1, 1) := by decide +kernel
theorem d_X9_set_43 : decode prog_11_method_18_code 43 = .ok (.iastore, 1) := by decide +kernel
theorem d_X9_set_44 : decode prog_11_method_18_code 44 = .ok (.aload_n 0, 1) := by decide +kernel
theorem d_X9_set_45 : decode prog_11_method_18_code 45 = .ok (.dup, 1) := by decide +kernel
theorem d_X9_set_46 : decode prog_11_method_18_code 46 = .ok (.getfield 53, 3) := by decide +kernel
theorem d_X9_set_49 : decode prog_11_method_18_code 49 = .ok (.iconst 1, 1) := by decide +kernel
theorem d_X9_set_50 : decode prog_11_method_18_code 50 = .ok (.iadd, 1) := by decide +kernel
theorem d_X9_set_51 : decode prog_11_method_18_code 51 = .ok (.putfield 53, 3) := by decide +kernel
theorem d_X9_set_54 : decode prog_11_method_18_code 54 = .ok (.aload_n 0, 1) := by decide +kernel
theorem d_X9_set_55 : decode prog_11_method_18_code 55 = .ok (.dup, 1) := by decide +kernel
theorem d_X9_set_56 : decode prog_11_method_18_code 56 = .ok (.getfield 56, 3) := by decide +kernel
theorem d_X9_set_59 : decode prog_11_method_18_code 59 = .ok (.iconst 1, 1) := by decide +kernel
theorem d_X9_set_60 : decode prog_11_method_18_code 60 = .ok (.iadd, 1) := by decide +kernel
theorem d_X9_set_61 : decode prog_11_method_18_code 61 = .ok (.putfield 56, 3) := by decide +kernel
theorem d_X9_set_64 : decode prog_11_method_18_code 64 = .ok (.return_, 1) := by decide +kernel
abbrev Y_X9_value : Yx := (⟨"TaskWeave$Workflow", "value", "(I)I"⟩, prog_11_method_14_code, 3, (some .int))
abbrev M_X9_value : Mx := ("TaskWeave$Workflow", prog_11_method_14_code, 3, false)
theorem yk_X9_value : Yk Y_X9_value 1 := ⟨by decide +kernel, by decide +kernel, ⟨by decide, by decide⟩, by decide +kernel, by decide, by decide +kernel⟩
theorem d_X9_value_0 : decode prog_11_method_14_code 0 = .ok (.aload_n 0, 1) := by decide +kernel
theorem d_X9_value_1 : decode prog_11_method_14_code 1 = .ok (.getfield 33, 3) := by decide +kernel
theorem d_X9_value_4 : decode prog_11_method_14_code 4 = .ok (.getfield 121, 3) := by decide +kernel
theorem d_X9_value_7 : decode prog_11_method_14_code 7 = .ok (.iload_n 1, 1) := by decide +kernel
theorem d_X9_value_8 : decode prog_11_method_14_code 8 = .ok (.iaload, 1) := by decide +kernel
theorem d_X9_value_9 : decode prog_11_method_14_code 9 = .ok (.istore_n 2, 1) := by decide +kernel
theorem d_X9_value_10 : decode prog_11_method_14_code 10 = .ok (.iload_n 2, 1) := by decide +kernel
theorem d_X9_value_11 : decode prog_11_method_14_code 11 = .ok (.iconst (-1), 1) := by decide +kernel
theorem d_X9_value_12 : decode prog_11_method_14_code 12 = .ok (.if_icmp .ne 17, 3) := by decide +kernel
theorem d_X9_value_15 : decode prog_11_method_14_code 15 = .ok (.aload_n 0, 1) := by decide +kernel
theorem d_X9_value_16 : decode prog_11_method_14_code 16 = .ok (.getfield 33, 3) := by decide +kernel
theorem d_X9_value_19 : decode prog_11_method_14_code 19 = .ok (.getfield 121, 3) := by decide +kernel
theorem d_X9_value_22 : decode prog_11_method_14_code 22 = .ok (.iload_n 1, 1) := by decide +kernel
theorem d_X9_value_23 : decode prog_11_method_14_code 23 = .ok (.iconst 1, 1) := by decide +kernel
theorem d_X9_value_24 : decode prog_11_method_14_code 24 = .ok (.iadd, 1) := by decide +kernel
theorem d_X9_value_25 : decode prog_11_method_14_code 25 = .ok (.iaload, 1) := by decide +kernel
theorem d_X9_value_26 : decode prog_11_method_14_code 26 = .ok (.goto 9, 3) := by decide +kernel
theorem d_X9_value_29 : decode prog_11_method_14_code 29 = .ok (.aload_n 0, 1) := by decide +kernel
theorem d_X9_value_30 : decode prog_11_method_14_code 30 = .ok (.getfield 9, 3) := by decide +kernel
theorem d_X9_value_33 : decode prog_11_method_14_code 33 = .ok (.iload_n 2, 1) := by decide +kernel
theorem d_X9_value_34 : decode prog_11_method_14_code 34 = .ok (.iaload, 1) := by decide +kernel
theorem d_X9_value_35 : decode prog_11_method_14_code 35 = .ok (.ireturn, 1) := by decide +kernel
abbrev Y_X9_walk : Yx := (⟨"TaskWeave$Workflow", "walk", "()V"⟩, prog_11_method_15_code, 5, none)
abbrev M_X9_walk : Mx := ("TaskWeave$Workflow", prog_11_method_15_code, 5, false)
theorem yk_X9_walk : Yk Y_X9_walk 0 := ⟨by decide +kernel, by decide +kernel, ⟨by decide, by decide⟩, by decide +kernel, by decide, by decide +kernel⟩
theorem d_X9_walk_0 : decode prog_11_method_15_code 0 = .ok (.aload_n 0, 1) := by decide +kernel
theorem d_X9_walk_1 : decode prog_11_method_15_code 1 = .ok (.getfield 53, 3) := by decide +kernel
theorem d_X9_walk_4 : decode prog_11_method_15_code 4 = .ok (.bipush 8, 2) := by decide +kernel
theorem d_X9_walk_6 : decode prog_11_method_15_code 6 = .ok (.imul, 1) := by decide +kernel
theorem d_X9_walk_7 : decode prog_11_method_15_code 7 = .ok (.istore_n 1, 1) := by decide +kernel
theorem d_X9_walk_8 : decode prog_11_method_15_code 8 = .ok (.aload_n 0, 1) := by decide +kernel
theorem d_X9_walk_9 : decode prog_11_method_15_code 9 = .ok (.iload_n 1, 1) := by decide +kernel
theorem d_X9_walk_10 : decode prog_11_method_15_code 10 = .ok (.iconst 4, 1) := by decide +kernel
theorem d_X9_walk_11 : decode prog_11_method_15_code 11 = .ok (.iadd, 1) := by decide +kernel
theorem d_X9_walk_12 : decode prog_11_method_15_code 12 = .ok (.invokevirtual 118, 3) := by decide +kernel
theorem d_X9_walk_15 : decode prog_11_method_15_code 15 = .ok (.istore_n 2, 1) := by decide +kernel
theorem d_X9_walk_16 : decode prog_11_method_15_code 16 = .ok (.aload_n 0, 1) := by decide +kernel
theorem d_X9_walk_17 : decode prog_11_method_15_code 17 = .ok (.getfield 33, 3) := by decide +kernel
theorem d_X9_walk_20 : decode prog_11_method_15_code 20 = .ok (.getfield 121, 3) := by decide +kernel
theorem d_X9_walk_23 : decode prog_11_method_15_code 23 = .ok (.iload_n 1, 1) := by decide +kernel
theorem d_X9_walk_24 : decode prog_11_method_15_code 24 = .ok (.iconst 0, 1) := by decide +kernel
theorem d_X9_walk_25 : decode prog_11_method_15_code 25 = .ok (.iadd, 1) := by decide +kernel
theorem d_X9_walk_26 : decode prog_11_method_15_code 26 = .ok (.iaload, 1) := by decide +kernel
theorem d_X9_walk_27 : decode prog_11_method_15_code 27 = .ok (.istore_n 3, 1) := by decide +kernel
theorem d_X9_walk_28 : decode prog_11_method_15_code 28 = .ok (.iload_n 3, 1) := by decide +kernel
theorem d_X9_walk_29 : decode prog_11_method_15_code 29 = .ok (.lookupswitch 240 #[(71, 51), (73, 69), (74, 170), (83, 100), (87, 113)], 51) := by decide +kernel
theorem d_X9_walk_80 : decode prog_11_method_15_code 80 = .ok (.aload_n 0, 1) := by decide +kernel
theorem d_X9_walk_81 : decode prog_11_method_15_code 81 = .ok (.aload_n 0, 1) := by decide +kernel
theorem d_X9_walk_82 : decode prog_11_method_15_code 82 = .ok (.getfield 33, 3) := by decide +kernel
theorem d_X9_walk_85 : decode prog_11_method_15_code 85 = .ok (.getfield 121, 3) := by decide +kernel
theorem d_X9_walk_88 : decode prog_11_method_15_code 88 = .ok (.iload_n 1, 1) := by decide +kernel
theorem d_X9_walk_89 : decode prog_11_method_15_code 89 = .ok (.iconst 1, 1) := by decide +kernel
theorem d_X9_walk_90 : decode prog_11_method_15_code 90 = .ok (.iadd, 1) := by decide +kernel
theorem d_X9_walk_91 : decode prog_11_method_15_code 91 = .ok (.iaload, 1) := by decide +kernel
theorem d_X9_walk_92 : decode prog_11_method_15_code 92 = .ok (.invokevirtual 137, 3) := by decide +kernel
theorem d_X9_walk_95 : decode prog_11_method_15_code 95 = .ok (.goto 191, 3) := by decide +kernel
theorem d_X9_walk_98 : decode prog_11_method_15_code 98 = .ok (.aload_n 0, 1) := by decide +kernel
theorem d_X9_walk_99 : decode prog_11_method_15_code 99 = .ok (.iload_n 2, 1) := by decide +kernel
theorem d_X9_walk_100 : decode prog_11_method_15_code 100 = .ok (.ifCond .eq 17, 3) := by decide +kernel
theorem d_X9_walk_103 : decode prog_11_method_15_code 103 = .ok (.aload_n 0, 1) := by decide +kernel
theorem d_X9_walk_104 : decode prog_11_method_15_code 104 = .ok (.getfield 33, 3) := by decide +kernel
theorem d_X9_walk_107 : decode prog_11_method_15_code 107 = .ok (.getfield 121, 3) := by decide +kernel
theorem d_X9_walk_110 : decode prog_11_method_15_code 110 = .ok (.iload_n 1, 1) := by decide +kernel
theorem d_X9_walk_111 : decode prog_11_method_15_code 111 = .ok (.iconst 1, 1) := by decide +kernel
theorem d_X9_walk_112 : decode prog_11_method_15_code 112 = .ok (.iadd, 1) := by decide +kernel
theorem d_X9_walk_113 : decode prog_11_method_15_code 113 = .ok (.iaload, 1) := by decide +kernel
theorem d_X9_walk_114 : decode prog_11_method_15_code 114 = .ok (.goto 9, 3) := by decide +kernel
theorem d_X9_walk_117 : decode prog_11_method_15_code 117 = .ok (.aload_n 0, 1) := by decide +kernel
theorem d_X9_walk_118 : decode prog_11_method_15_code 118 = .ok (.getfield 53, 3) := by decide +kernel
theorem d_X9_walk_121 : decode prog_11_method_15_code 121 = .ok (.iconst 1, 1) := by decide +kernel
theorem d_X9_walk_122 : decode prog_11_method_15_code 122 = .ok (.iadd, 1) := by decide +kernel
theorem d_X9_walk_123 : decode prog_11_method_15_code 123 = .ok (.invokevirtual 137, 3) := by decide +kernel
theorem d_X9_walk_126 : decode prog_11_method_15_code 126 = .ok (.goto 160, 3) := by decide +kernel
theorem d_X9_walk_129 : decode prog_11_method_15_code 129 = .ok (.aload_n 0, 1) := by decide +kernel
theorem d_X9_walk_130 : decode prog_11_method_15_code 130 = .ok (.aload_n 0, 1) := by decide +kernel
theorem d_X9_walk_131 : decode prog_11_method_15_code 131 = .ok (.getfield 53, 3) := by decide +kernel
theorem d_X9_walk_134 : decode prog_11_method_15_code 134 = .ok (.iconst 1, 1) := by decide +kernel
theorem d_X9_walk_135 : decode prog_11_method_15_code 135 = .ok (.iadd, 1) := by decide +kernel
theorem d_X9_walk_136 : decode prog_11_method_15_code 136 = .ok (.invokevirtual 137, 3) := by decide +kernel
theorem d_X9_walk_139 : decode prog_11_method_15_code 139 = .ok (.goto 147, 3) := by decide +kernel
theorem d_X9_walk_142 : decode prog_11_method_15_code 142 = .ok (.aload_n 0, 1) := by decide +kernel
theorem d_X9_walk_143 : decode prog_11_method_15_code 143 = .ok (.getfield 18, 3) := by decide +kernel
theorem d_X9_walk_146 : decode prog_11_method_15_code 146 = .ok (.bipush 8, 2) := by decide +kernel
theorem d_X9_walk_148 : decode prog_11_method_15_code 148 = .ok (.aload_n 0, 1) := by decide +kernel
theorem d_X9_walk_149 : decode prog_11_method_15_code 149 = .ok (.getfield 62, 3) := by decide +kernel
theorem d_X9_walk_152 : decode prog_11_method_15_code 152 = .ok (.invokevirtual 74, 3) := by decide +kernel
theorem d_X9_walk_155 : decode prog_11_method_15_code 155 = .ok (.istore 4, 2) := by decide +kernel
theorem d_X9_walk_157 : decode prog_11_method_15_code 157 = .ok (.iload 4, 2) := by decide +kernel
theorem d_X9_walk_159 : decode prog_11_method_15_code 159 = .ok (.iconst (-1), 1) := by decide +kernel
theorem d_X9_walk_160 : decode prog_11_method_15_code 160 = .ok (.if_icmp .ne 12, 3) := by decide +kernel
theorem d_X9_walk_163 : decode prog_11_method_15_code 163 = .ok (.aload_n 0, 1) := by decide +kernel
theorem d_X9_walk_164 : decode prog_11_method_15_code 164 = .ok (.iconst 2, 1) := by decide +kernel
theorem d_X9_walk_165 : decode prog_11_method_15_code 165 = .ok (.iconst 0, 1) := by decide +kernel
theorem d_X9_walk_166 : decode prog_11_method_15_code 166 = .ok (.invokevirtual 141, 3) := by decide +kernel
theorem d_X9_walk_169 : decode prog_11_method_15_code 169 = .ok (.goto 117, 3) := by decide +kernel
theorem d_X9_walk_172 : decode prog_11_method_15_code 172 = .ok (.aload_n 0, 1) := by decide +kernel
theorem d_X9_walk_173 : decode prog_11_method_15_code 173 = .ok (.dup, 1) := by decide +kernel
theorem d_X9_walk_174 : decode prog_11_method_15_code 174 = .ok (.getfield 62, 3) := by decide +kernel
theorem d_X9_walk_177 : decode prog_11_method_15_code 177 = .ok (.iconst 1, 1) := by decide +kernel
theorem d_X9_walk_178 : decode prog_11_method_15_code 178 = .ok (.iadd, 1) := by decide +kernel
theorem d_X9_walk_179 : decode prog_11_method_15_code 179 = .ok (.putfield 62, 3) := by decide +kernel
theorem d_X9_walk_182 : decode prog_11_method_15_code 182 = .ok (.aload_n 0, 1) := by decide +kernel
theorem d_X9_walk_183 : decode prog_11_method_15_code 183 = .ok (.aload_n 0, 1) := by decide +kernel
theorem d_X9_walk_184 : decode prog_11_method_15_code 184 = .ok (.getfield 18, 3) := by decide +kernel
theorem d_X9_walk_187 : decode prog_11_method_15_code 187 = .ok (.getfield 82, 3) := by decide +kernel
theorem d_X9_walk_190 : decode prog_11_method_15_code 190 = .ok (.iload 4, 2) := by decide +kernel
theorem d_X9_walk_192 : decode prog_11_method_15_code 192 = .ok (.iaload, 1) := by decide +kernel
theorem d_X9_walk_193 : decode prog_11_method_15_code 193 = .ok (.invokevirtual 145, 3) := by decide +kernel
theorem d_X9_walk_196 : decode prog_11_method_15_code 196 = .ok (.goto 90, 3) := by decide +kernel
theorem d_X9_walk_199 : decode prog_11_method_15_code 199 = .ok (.aload_n 0, 1) := by decide +kernel
theorem d_X9_walk_200 : decode prog_11_method_15_code 200 = .ok (.getfield 18, 3) := by decide +kernel
theorem d_X9_walk_203 : decode prog_11_method_15_code 203 = .ok (.iload_n 2, 1) := by decide +kernel
theorem d_X9_walk_204 : decode prog_11_method_15_code 204 = .ok (.invokevirtual 148, 3) := by decide +kernel
theorem d_X9_walk_207 : decode prog_11_method_15_code 207 = .ok (.istore 4, 2) := by decide +kernel
theorem d_X9_walk_209 : decode prog_11_method_15_code 209 = .ok (.iload_n 2, 1) := by decide +kernel
theorem d_X9_walk_210 : decode prog_11_method_15_code 210 = .ok (.ifCond .lt 26, 3) := by decide +kernel
theorem d_X9_walk_213 : decode prog_11_method_15_code 213 = .ok (.iload_n 2, 1) := by decide +kernel
theorem d_X9_walk_214 : decode prog_11_method_15_code 214 = .ok (.aload_n 0, 1) := by decide +kernel
theorem d_X9_walk_215 : decode prog_11_method_15_code 215 = .ok (.getfield 65, 3) := by decide +kernel
theorem d_X9_walk_218 : decode prog_11_method_15_code 218 = .ok (.if_icmp .ge 18, 3) := by decide +kernel
theorem d_X9_walk_221 : decode prog_11_method_15_code 221 = .ok (.iload 4, 2) := by decide +kernel
theorem d_X9_walk_223 : decode prog_11_method_15_code 223 = .ok (.iconst (-1), 1) := by decide +kernel
theorem d_X9_walk_224 : decode prog_11_method_15_code 224 = .ok (.if_icmp .ne 12, 3) := by decide +kernel
theorem d_X9_walk_227 : decode prog_11_method_15_code 227 = .ok (.aload_n 0, 1) := by decide +kernel
theorem d_X9_walk_228 : decode prog_11_method_15_code 228 = .ok (.iconst 3, 1) := by decide +kernel
theorem d_X9_walk_229 : decode prog_11_method_15_code 229 = .ok (.iload_n 2, 1) := by decide +kernel
theorem d_X9_walk_230 : decode prog_11_method_15_code 230 = .ok (.invokevirtual 141, 3) := by decide +kernel
theorem d_X9_walk_233 : decode prog_11_method_15_code 233 = .ok (.goto 53, 3) := by decide +kernel
theorem d_X9_walk_236 : decode prog_11_method_15_code 236 = .ok (.aload_n 0, 1) := by decide +kernel
theorem d_X9_walk_237 : decode prog_11_method_15_code 237 = .ok (.iload_n 2, 1) := by decide +kernel
theorem d_X9_walk_238 : decode prog_11_method_15_code 238 = .ok (.ifCond .lt 24, 3) := by decide +kernel
theorem d_X9_walk_241 : decode prog_11_method_15_code 241 = .ok (.iload_n 2, 1) := by decide +kernel
theorem d_X9_walk_242 : decode prog_11_method_15_code 242 = .ok (.aload_n 0, 1) := by decide +kernel
theorem d_X9_walk_243 : decode prog_11_method_15_code 243 = .ok (.getfield 65, 3) := by decide +kernel
theorem d_X9_walk_246 : decode prog_11_method_15_code 246 = .ok (.if_icmp .ge 16, 3) := by decide +kernel
theorem d_X9_walk_249 : decode prog_11_method_15_code 249 = .ok (.aload_n 0, 1) := by decide +kernel
theorem d_X9_walk_250 : decode prog_11_method_15_code 250 = .ok (.getfield 18, 3) := by decide +kernel
theorem d_X9_walk_253 : decode prog_11_method_15_code 253 = .ok (.getfield 151, 3) := by decide +kernel
theorem d_X9_walk_256 : decode prog_11_method_15_code 256 = .ok (.iload 4, 2) := by decide +kernel
theorem d_X9_walk_258 : decode prog_11_method_15_code 258 = .ok (.iaload, 1) := by decide +kernel
theorem d_X9_walk_259 : decode prog_11_method_15_code 259 = .ok (.goto 4, 3) := by decide +kernel
theorem d_X9_walk_262 : decode prog_11_method_15_code 262 = .ok (.iconst (-1), 1) := by decide +kernel
theorem d_X9_walk_263 : decode prog_11_method_15_code 263 = .ok (.invokevirtual 145, 3) := by decide +kernel
theorem d_X9_walk_266 : decode prog_11_method_15_code 266 = .ok (.goto 20, 3) := by decide +kernel
theorem d_X9_walk_269 : decode prog_11_method_15_code 269 = .ok (.aload_n 0, 1) := by decide +kernel
theorem d_X9_walk_270 : decode prog_11_method_15_code 270 = .ok (.iload_n 3, 1) := by decide +kernel
theorem d_X9_walk_271 : decode prog_11_method_15_code 271 = .ok (.iload_n 2, 1) := by decide +kernel
theorem d_X9_walk_272 : decode prog_11_method_15_code 272 = .ok (.aload_n 0, 1) := by decide +kernel
theorem d_X9_walk_273 : decode prog_11_method_15_code 273 = .ok (.iload_n 1, 1) := by decide +kernel
theorem d_X9_walk_274 : decode prog_11_method_15_code 274 = .ok (.bipush 6, 2) := by decide +kernel
theorem d_X9_walk_276 : decode prog_11_method_15_code 276 = .ok (.iadd, 1) := by decide +kernel
theorem d_X9_walk_277 : decode prog_11_method_15_code 277 = .ok (.invokevirtual 118, 3) := by decide +kernel
theorem d_X9_walk_280 : decode prog_11_method_15_code 280 = .ok (.invokestatic 154, 3) := by decide +kernel
theorem d_X9_walk_283 : decode prog_11_method_15_code 283 = .ok (.invokevirtual 145, 3) := by decide +kernel
theorem d_X9_walk_286 : decode prog_11_method_15_code 286 = .ok (.return_, 1) := by decide +kernel
abbrev Y_J9_max_7cf53 : Yx := (⟨"java/lang/Math", "max", "(II)I"⟩, prog_21_method_65_code, 2, (some .int))
abbrev M_J9_max_7cf53 : Mx := ("java/lang/Math", prog_21_method_65_code, 2, false)
theorem yk_J9_max_7cf53 : Yk Y_J9_max_7cf53 2 := ⟨by decide +kernel, by decide +kernel, ⟨by decide, by decide⟩, by decide +kernel, by decide, by decide +kernel⟩
theorem d_J9_max_7cf53_0 : decode prog_21_method_65_code 0 = .ok (.iload_n 0, 1) := by decide +kernel
theorem d_J9_max_7cf53_1 : decode prog_21_method_65_code 1 = .ok (.iload_n 1, 1) := by decide +kernel
theorem d_J9_max_7cf53_2 : decode prog_21_method_65_code 2 = .ok (.if_icmp .lt 7, 3) := by decide +kernel
theorem d_J9_max_7cf53_5 : decode prog_21_method_65_code 5 = .ok (.iload_n 0, 1) := by decide +kernel
theorem d_J9_max_7cf53_6 : decode prog_21_method_65_code 6 = .ok (.goto 4, 3) := by decide +kernel
theorem d_J9_max_7cf53_9 : decode prog_21_method_65_code 9 = .ok (.iload_n 1, 1) := by decide +kernel
theorem d_J9_max_7cf53_10 : decode prog_21_method_65_code 10 = .ok (.ireturn, 1) := by decide +kernel
abbrev Y_X9_hasKin : Yx := (⟨"TaskWeave$Workflow", "hasKin", "(I)Z"⟩, prog_11_method_13_code, 2, (some .boolean))
abbrev M_X9_hasKin : Mx := ("TaskWeave$Workflow", prog_11_method_13_code, 2, false)
theorem yk_X9_hasKin : Yk Y_X9_hasKin 1 := ⟨by decide +kernel, by decide +kernel, ⟨by decide, by decide⟩, by decide +kernel, by decide, by decide +kernel⟩
theorem d_X9_hasKin_0 : decode prog_11_method_13_code 0 = .ok (.iload_n 1, 1) := by decide +kernel
theorem d_X9_hasKin_1 : decode prog_11_method_13_code 1 = .ok (.iconst (-1), 1) := by decide +kernel
theorem d_X9_hasKin_2 : decode prog_11_method_13_code 2 = .ok (.if_icmp .ne 23, 3) := by decide +kernel
theorem d_X9_hasKin_5 : decode prog_11_method_13_code 5 = .ok (.aload_n 0, 1) := by decide +kernel
theorem d_X9_hasKin_6 : decode prog_11_method_13_code 6 = .ok (.getfield 18, 3) := by decide +kernel
theorem d_X9_hasKin_9 : decode prog_11_method_13_code 9 = .ok (.getfield 71, 3) := by decide +kernel
theorem d_X9_hasKin_12 : decode prog_11_method_13_code 12 = .ok (.iconst 0, 1) := by decide +kernel
theorem d_X9_hasKin_13 : decode prog_11_method_13_code 13 = .ok (.iaload, 1) := by decide +kernel
theorem d_X9_hasKin_14 : decode prog_11_method_13_code 14 = .ok (.ifCond .ge 7, 3) := by decide +kernel
theorem d_X9_hasKin_17 : decode prog_11_method_13_code 17 = .ok (.iconst 1, 1) := by decide +kernel
theorem d_X9_hasKin_18 : decode prog_11_method_13_code 18 = .ok (.goto 24, 3) := by decide +kernel
theorem d_X9_hasKin_21 : decode prog_11_method_13_code 21 = .ok (.iconst 0, 1) := by decide +kernel
theorem d_X9_hasKin_22 : decode prog_11_method_13_code 22 = .ok (.goto 20, 3) := by decide +kernel
theorem d_X9_hasKin_25 : decode prog_11_method_13_code 25 = .ok (.iload_n 1, 1) := by decide +kernel
theorem d_X9_hasKin_26 : decode prog_11_method_13_code 26 = .ok (.ifCond .lt 15, 3) := by decide +kernel
theorem d_X9_hasKin_29 : decode prog_11_method_13_code 29 = .ok (.iload_n 1, 1) := by decide +kernel
theorem d_X9_hasKin_30 : decode prog_11_method_13_code 30 = .ok (.aload_n 0, 1) := by decide +kernel
theorem d_X9_hasKin_31 : decode prog_11_method_13_code 31 = .ok (.getfield 65, 3) := by decide +kernel
theorem d_X9_hasKin_34 : decode prog_11_method_13_code 34 = .ok (.if_icmp .ge 7, 3) := by decide +kernel
theorem d_X9_hasKin_37 : decode prog_11_method_13_code 37 = .ok (.iconst 1, 1) := by decide +kernel
theorem d_X9_hasKin_38 : decode prog_11_method_13_code 38 = .ok (.goto 4, 3) := by decide +kernel
theorem d_X9_hasKin_41 : decode prog_11_method_13_code 41 = .ok (.iconst 0, 1) := by decide +kernel
theorem d_X9_hasKin_42 : decode prog_11_method_13_code 42 = .ok (.ireturn, 1) := by decide +kernel
abbrev Y_X9_want : Yx := (⟨"TaskWeave$Workflow", "want", "(III)I"⟩, prog_11_method_12_code, 4, (some .int))
abbrev M_X9_want : Mx := ("TaskWeave$Workflow", prog_11_method_12_code, 4, false)
theorem yk_X9_want : Yk Y_X9_want 3 := ⟨by decide +kernel, by decide +kernel, ⟨by decide, by decide⟩, by decide +kernel, by decide, by decide +kernel⟩
theorem d_X9_want_0 : decode prog_11_method_12_code 0 = .ok (.aload_n 0, 1) := by decide +kernel
theorem d_X9_want_1 : decode prog_11_method_12_code 1 = .ok (.iload_n 2, 1) := by decide +kernel
theorem d_X9_want_2 : decode prog_11_method_12_code 2 = .ok (.putfield 131, 3) := by decide +kernel
theorem d_X9_want_5 : decode prog_11_method_12_code 5 = .ok (.aload_n 0, 1) := by decide +kernel
theorem d_X9_want_6 : decode prog_11_method_12_code 6 = .ok (.iload_n 3, 1) := by decide +kernel
theorem d_X9_want_7 : decode prog_11_method_12_code 7 = .ok (.putfield 134, 3) := by decide +kernel
theorem d_X9_want_10 : decode prog_11_method_12_code 10 = .ok (.iload_n 1, 1) := by decide +kernel
theorem d_X9_want_11 : decode prog_11_method_12_code 11 = .ok (.ireturn, 1) := by decide +kernel
abbrev Y_X9_wish : Yx := (⟨"TaskWeave$Workflow", "wish", "(I)I"⟩, prog_11_method_11_code, 4, (some .int))
abbrev M_X9_wish : Mx := ("TaskWeave$Workflow", prog_11_method_11_code, 4, false)
theorem yk_X9_wish : Yk Y_X9_wish 1 := ⟨by decide +kernel, by decide +kernel, ⟨by decide, by decide⟩, by decide +kernel, by decide, by decide +kernel⟩
theorem d_X9_wish_0 : decode prog_11_method_11_code 0 = .ok (.aload_n 0, 1) := by decide +kernel
theorem d_X9_wish_1 : decode prog_11_method_11_code 1 = .ok (.getfield 53, 3) := by decide +kernel
theorem d_X9_wish_4 : decode prog_11_method_11_code 4 = .ok (.aload_n 0, 1) := by decide +kernel
theorem d_X9_wish_5 : decode prog_11_method_11_code 5 = .ok (.getfield 33, 3) := by decide +kernel
theorem d_X9_wish_8 : decode prog_11_method_11_code 8 = .ok (.getfield 109, 3) := by decide +kernel
theorem d_X9_wish_11 : decode prog_11_method_11_code 11 = .ok (.if_icmp .lt 12, 3) := by decide +kernel
theorem d_X9_wish_14 : decode prog_11_method_11_code 14 = .ok (.aload_n 0, 1) := by decide +kernel
theorem d_X9_wish_15 : decode prog_11_method_11_code 15 = .ok (.bipush 10, 2) := by decide +kernel
theorem d_X9_wish_17 : decode prog_11_method_11_code 17 = .ok (.iconst 0, 1) := by decide +kernel
theorem d_X9_wish_18 : decode prog_11_method_11_code 18 = .ok (.iconst 0, 1) := by decide +kernel
theorem d_X9_wish_19 : decode prog_11_method_11_code 19 = .ok (.invokevirtual 114, 3) := by decide +kernel
theorem d_X9_wish_22 : decode prog_11_method_11_code 22 = .ok (.ireturn, 1) := by decide +kernel
theorem d_X9_wish_23 : decode prog_11_method_11_code 23 = .ok (.aload_n 0, 1) := by decide +kernel
theorem d_X9_wish_24 : decode prog_11_method_11_code 24 = .ok (.getfield 56, 3) := by decide +kernel
theorem d_X9_wish_27 : decode prog_11_method_11_code 27 = .ok (.sipush 200, 3) := by decide +kernel
theorem d_X9_wish_30 : decode prog_11_method_11_code 30 = .ok (.if_icmp .lt 12, 3) := by decide +kernel
theorem d_X9_wish_33 : decode prog_11_method_11_code 33 = .ok (.aload_n 0, 1) := by decide +kernel
theorem d_X9_wish_34 : decode prog_11_method_11_code 34 = .ok (.bipush 12, 2) := by decide +kernel
theorem d_X9_wish_36 : decode prog_11_method_11_code 36 = .ok (.iconst (-1), 1) := by decide +kernel
theorem d_X9_wish_37 : decode prog_11_method_11_code 37 = .ok (.iconst 0, 1) := by decide +kernel
theorem d_X9_wish_38 : decode prog_11_method_11_code 38 = .ok (.invokevirtual 114, 3) := by decide +kernel
theorem d_X9_wish_41 : decode prog_11_method_11_code 41 = .ok (.ireturn, 1) := by decide +kernel
theorem d_X9_wish_42 : decode prog_11_method_11_code 42 = .ok (.aload_n 0, 1) := by decide +kernel
theorem d_X9_wish_43 : decode prog_11_method_11_code 43 = .ok (.getfield 53, 3) := by decide +kernel
theorem d_X9_wish_46 : decode prog_11_method_11_code 46 = .ok (.bipush 8, 2) := by decide +kernel
theorem d_X9_wish_48 : decode prog_11_method_11_code 48 = .ok (.imul, 1) := by decide +kernel
theorem d_X9_wish_49 : decode prog_11_method_11_code 49 = .ok (.istore_n 2, 1) := by decide +kernel
theorem d_X9_wish_50 : decode prog_11_method_11_code 50 = .ok (.aload_n 0, 1) := by decide +kernel
theorem d_X9_wish_51 : decode prog_11_method_11_code 51 = .ok (.iload_n 2, 1) := by decide +kernel
theorem d_X9_wish_52 : decode prog_11_method_11_code 52 = .ok (.iconst 4, 1) := by decide +kernel
theorem d_X9_wish_53 : decode prog_11_method_11_code 53 = .ok (.iadd, 1) := by decide +kernel
theorem d_X9_wish_54 : decode prog_11_method_11_code 54 = .ok (.invokevirtual 118, 3) := by decide +kernel
theorem d_X9_wish_57 : decode prog_11_method_11_code 57 = .ok (.istore_n 3, 1) := by decide +kernel
theorem d_X9_wish_58 : decode prog_11_method_11_code 58 = .ok (.aload_n 0, 1) := by decide +kernel
theorem d_X9_wish_59 : decode prog_11_method_11_code 59 = .ok (.getfield 33, 3) := by decide +kernel
theorem d_X9_wish_62 : decode prog_11_method_11_code 62 = .ok (.getfield 121, 3) := by decide +kernel
theorem d_X9_wish_65 : decode prog_11_method_11_code 65 = .ok (.iload_n 2, 1) := by decide +kernel
theorem d_X9_wish_66 : decode prog_11_method_11_code 66 = .ok (.iconst 0, 1) := by decide +kernel
theorem d_X9_wish_67 : decode prog_11_method_11_code 67 = .ok (.iadd, 1) := by decide +kernel
theorem d_X9_wish_68 : decode prog_11_method_11_code 68 = .ok (.iaload, 1) := by decide +kernel
theorem d_X9_wish_69 : decode prog_11_method_11_code 69 = .ok (.lookupswitch 139 #[(65, 51), (67, 83), (69, 130), (83, 102), (84, 69)], 51) := by decide +kernel
theorem d_X9_wish_120 : decode prog_11_method_11_code 120 = .ok (.aload_n 0, 1) := by decide +kernel
theorem d_X9_wish_121 : decode prog_11_method_11_code 121 = .ok (.iconst 1, 1) := by decide +kernel
theorem d_X9_wish_122 : decode prog_11_method_11_code 122 = .ok (.aload_n 0, 1) := by decide +kernel
theorem d_X9_wish_123 : decode prog_11_method_11_code 123 = .ok (.getfield 33, 3) := by decide +kernel
theorem d_X9_wish_126 : decode prog_11_method_11_code 126 = .ok (.getfield 121, 3) := by decide +kernel
theorem d_X9_wish_129 : decode prog_11_method_11_code 129 = .ok (.iload_n 2, 1) := by decide +kernel
theorem d_X9_wish_130 : decode prog_11_method_11_code 130 = .ok (.iconst 2, 1) := by decide +kernel
theorem d_X9_wish_131 : decode prog_11_method_11_code 131 = .ok (.iadd, 1) := by decide +kernel
theorem d_X9_wish_132 : decode prog_11_method_11_code 132 = .ok (.iaload, 1) := by decide +kernel
theorem d_X9_wish_133 : decode prog_11_method_11_code 133 = .ok (.iload_n 3, 1) := by decide +kernel
theorem d_X9_wish_134 : decode prog_11_method_11_code 134 = .ok (.invokevirtual 114, 3) := by decide +kernel
theorem d_X9_wish_137 : decode prog_11_method_11_code 137 = .ok (.ireturn, 1) := by decide +kernel
theorem d_X9_wish_138 : decode prog_11_method_11_code 138 = .ok (.aload_n 0, 1) := by decide +kernel
theorem d_X9_wish_139 : decode prog_11_method_11_code 139 = .ok (.iconst 4, 1) := by decide +kernel
theorem d_X9_wish_140 : decode prog_11_method_11_code 140 = .ok (.iload_n 1, 1) := by decide +kernel
theorem d_X9_wish_141 : decode prog_11_method_11_code 141 = .ok (.iload_n 3, 1) := by decide +kernel
theorem d_X9_wish_142 : decode prog_11_method_11_code 142 = .ok (.iconst 0, 1) := by decide +kernel
theorem d_X9_wish_143 : decode prog_11_method_11_code 143 = .ok (.invokestatic 124, 3) := by decide +kernel
theorem d_X9_wish_146 : decode prog_11_method_11_code 146 = .ok (.iadd, 1) := by decide +kernel
theorem d_X9_wish_147 : decode prog_11_method_11_code 147 = .ok (.iconst 0, 1) := by decide +kernel
theorem d_X9_wish_148 : decode prog_11_method_11_code 148 = .ok (.invokevirtual 114, 3) := by decide +kernel
theorem d_X9_wish_151 : decode prog_11_method_11_code 151 = .ok (.ireturn, 1) := by decide +kernel
theorem d_X9_wish_152 : decode prog_11_method_11_code 152 = .ok (.aload_n 0, 1) := by decide +kernel
theorem d_X9_wish_153 : decode prog_11_method_11_code 153 = .ok (.bipush 6, 2) := by decide +kernel
theorem d_X9_wish_155 : decode prog_11_method_11_code 155 = .ok (.aload_n 0, 1) := by decide +kernel
theorem d_X9_wish_156 : decode prog_11_method_11_code 156 = .ok (.getfield 33, 3) := by decide +kernel
theorem d_X9_wish_159 : decode prog_11_method_11_code 159 = .ok (.getfield 121, 3) := by decide +kernel
theorem d_X9_wish_162 : decode prog_11_method_11_code 162 = .ok (.iload_n 2, 1) := by decide +kernel
theorem d_X9_wish_163 : decode prog_11_method_11_code 163 = .ok (.iconst 2, 1) := by decide +kernel
theorem d_X9_wish_164 : decode prog_11_method_11_code 164 = .ok (.iadd, 1) := by decide +kernel
theorem d_X9_wish_165 : decode prog_11_method_11_code 165 = .ok (.iaload, 1) := by decide +kernel
theorem d_X9_wish_166 : decode prog_11_method_11_code 166 = .ok (.iload_n 3, 1) := by decide +kernel
theorem d_X9_wish_167 : decode prog_11_method_11_code 167 = .ok (.invokevirtual 114, 3) := by decide +kernel
theorem d_X9_wish_170 : decode prog_11_method_11_code 170 = .ok (.ireturn, 1) := by decide +kernel
theorem d_X9_wish_171 : decode prog_11_method_11_code 171 = .ok (.aload_n 0, 1) := by decide +kernel
theorem d_X9_wish_172 : decode prog_11_method_11_code 172 = .ok (.iload_n 3, 1) := by decide +kernel
theorem d_X9_wish_173 : decode prog_11_method_11_code 173 = .ok (.invokevirtual 127, 3) := by decide +kernel
theorem d_X9_wish_176 : decode prog_11_method_11_code 176 = .ok (.ifCond .eq 21, 3) := by decide +kernel
theorem d_X9_wish_179 : decode prog_11_method_11_code 179 = .ok (.aload_n 0, 1) := by decide +kernel
theorem d_X9_wish_180 : decode prog_11_method_11_code 180 = .ok (.bipush 9, 2) := by decide +kernel
theorem d_X9_wish_182 : decode prog_11_method_11_code 182 = .ok (.iload_n 3, 1) := by decide +kernel
theorem d_X9_wish_183 : decode prog_11_method_11_code 183 = .ok (.aload_n 0, 1) := by decide +kernel
theorem d_X9_wish_184 : decode prog_11_method_11_code 184 = .ok (.iload_n 2, 1) := by decide +kernel
theorem d_X9_wish_185 : decode prog_11_method_11_code 185 = .ok (.bipush 6, 2) := by decide +kernel
theorem d_X9_wish_187 : decode prog_11_method_11_code 187 = .ok (.iadd, 1) := by decide +kernel
theorem d_X9_wish_188 : decode prog_11_method_11_code 188 = .ok (.invokevirtual 118, 3) := by decide +kernel
theorem d_X9_wish_191 : decode prog_11_method_11_code 191 = .ok (.invokevirtual 114, 3) := by decide +kernel
theorem d_X9_wish_194 : decode prog_11_method_11_code 194 = .ok (.goto 4, 3) := by decide +kernel
theorem d_X9_wish_197 : decode prog_11_method_11_code 197 = .ok (.iconst (-1), 1) := by decide +kernel
theorem d_X9_wish_198 : decode prog_11_method_11_code 198 = .ok (.ireturn, 1) := by decide +kernel
theorem d_X9_wish_199 : decode prog_11_method_11_code 199 = .ok (.aload_n 0, 1) := by decide +kernel
theorem d_X9_wish_200 : decode prog_11_method_11_code 200 = .ok (.bipush 10, 2) := by decide +kernel
theorem d_X9_wish_202 : decode prog_11_method_11_code 202 = .ok (.iload_n 3, 1) := by decide +kernel
theorem d_X9_wish_203 : decode prog_11_method_11_code 203 = .ok (.iconst 0, 1) := by decide +kernel
theorem d_X9_wish_204 : decode prog_11_method_11_code 204 = .ok (.invokevirtual 114, 3) := by decide +kernel
theorem d_X9_wish_207 : decode prog_11_method_11_code 207 = .ok (.ireturn, 1) := by decide +kernel
theorem d_X9_wish_208 : decode prog_11_method_11_code 208 = .ok (.iconst (-1), 1) := by decide +kernel
theorem d_X9_wish_209 : decode prog_11_method_11_code 209 = .ok (.ireturn, 1) := by decide +kernel
theorem fk_7_102 : Fk "TaskWeave$Shard" 102 709 := ⟨by decide, by decide, by decide +kernel⟩
theorem fk_7_216 : Fk "TaskWeave$Shard" 216 604 := ⟨by decide, by decide, by decide +kernel⟩
def f_X6_renew_43 : Nat → Nat → Int32 → Int32 → Hp → Option (Int32 × Hp)
  | 0, _, _, _, _ => none
  | n + 1, l0, l1, l2, h => if ((5 : Int32)) ≤ (l2) then (ck (isO (h) (l0) 7) (bh (pI (h) 707 (l0) (l1)) (fun h11 => bh (pI (h11) 708 (l0) ((0 : Int32))) (fun h12 => some ((1 : Int32), h12))))) else (ck (isO (h) (l0) 7) (ck (isO (h) (zR (h) 703 (l0)) 25) (ck (inR (l2) (zL (h) (zR (h) 703 (l0)))) (ck (isO (h) (zQ (h) (zR (h) 703 (l0)) (l2).toNatClampNeg) 6) (bh (pI (h) 602 (zQ (h) (zR (h) 703 (l0)) (l2).toNatClampNeg) ((0 : Int32))) (fun h17 => ck (isO (h17) (zR (h17) 703 (l0)) 25) (ck (inR (l2) (zL (h17) (zR (h17) 703 (l0)))) (ck (isO (h17) (zQ (h17) (zR (h17) 703 (l0)) (l2).toNatClampNeg) 6) (bh (pI (h17) 603 (zQ (h17) (zR (h17) 703 (l0)) (l2).toNatClampNeg) ((1 : Int32))) (fun h21 => ck (isO (h21) (zR (h21) 703 (l0)) 25) (ck (inR (l2) (zL (h21) (zR (h21) 703 (l0)))) (ck (isO (h21) (zQ (h21) (zR (h21) 703 (l0)) (l2).toNatClampNeg) 6) (bh (pI (h21) 604 (zQ (h21) (zR (h21) 703 (l0)) (l2).toNatClampNeg) ((-1 : Int32))) (fun h25 => bh ((l2) + (1 : Int32)) (fun x26 => f_X6_renew_43 n (l0) (l1) (x26) (h25))))))))))))))))
theorem f_X6_renew_43_ok {G : Gd} {d : Nat} (hj : 1 ≤ d) : ∀ (n : Nat) (l0 : Nat) (l1 : Int32) (l2 : Int32) (L : List (Nat × Value)) (h : Hp) (o : (Int32 × Hp)), zlk L 0 = some (zrf (l0)) → zlk L 1 = some (.int (l1)) → zlk L 2 = some (.int (l2)) → f_X6_renew_43 n l0 l1 l2 h = some o → Ev G M_X6_renew d 43 L [] h (Ret Y_X6_renew (some (.int o.1)) o.2) := by
  intro n
  induction n with
  | zero =>
    intro l0 l1 l2 L h o g0 g1 g2 e
    cases e
  | succ n ih =>
    intro l0 l1 l2 L h o g0 g1 g2 e
    unfold f_X6_renew_43 at e
    refine r_iload_n d_X6_renew_43 rfl g2 ?_
    refine r_iconst d_X6_renew_44 (v := (5 : Int32)) (by decide +kernel) ?_
    refine r_icmp_ge d_X6_renew_45 (tgt := 84) (by decide) (fun c9 => ?_) (fun c9 => ?_)
    · replace e := (if_pos c9).symm.trans e
      refine g_ald_n d_X6_renew_84 rfl g0 ?_
      refine r_iload_n d_X6_renew_85 rfl g1 ?_
      replace e := ckd e
      obtain ⟨k10, e⟩ := e
      refine g_putI d_X6_renew_86 (f := 707) k10 fk_7_34 rfl (Or.inl rfl) ⟨rfl, rfl⟩ ?_
      replace e := bhd e
      obtain ⟨_, rfl, e⟩ := e
      refine g_ald_n d_X6_renew_89 rfl g0 ?_
      refine r_iconst d_X6_renew_90 (v := (0 : Int32)) (by decide +kernel) ?_
      refine g_putI d_X6_renew_91 (f := 708) (tO_pI k10) fk_7_53 rfl (Or.inl rfl) ⟨rfl, rfl⟩ ?_
      replace e := bhd e
      obtain ⟨_, rfl, e⟩ := e
      refine r_iconst d_X6_renew_94 (v := (1 : Int32)) (by decide +kernel) ?_
      cases e
      exact g_iret d_X6_renew_95 rfl rfl
    · replace e := (if_neg c9).symm.trans e
      refine g_ald_n d_X6_renew_48 rfl g0 ?_
      replace e := ckd e
      obtain ⟨k13, e⟩ := e
      refine g_getR d_X6_renew_49 (f := 703) k13 fk_7_11 rfl rfl ?_
      refine r_iload_n d_X6_renew_52 rfl g2 ?_
      replace e := ckd e
      obtain ⟨k14, e⟩ := e
      replace e := ckd e
      obtain ⟨k15, e⟩ := e
      refine g_aald d_X6_renew_53 k14 (by decide) (by decide) k15 rfl ?_
      refine r_iconst d_X6_renew_54 (v := (0 : Int32)) (by decide +kernel) ?_
      replace e := ckd e
      obtain ⟨k16, e⟩ := e
      refine g_putI d_X6_renew_55 (f := 602) k16 fk_7_69 rfl (Or.inl rfl) ⟨rfl, rfl⟩ ?_
      replace e := bhd e
      obtain ⟨_, rfl, e⟩ := e
      refine g_ald_n d_X6_renew_58 rfl g0 ?_
      refine g_getR d_X6_renew_59 (f := 703) (tO_pI k13) fk_7_11 rfl rfl ?_
      refine r_iload_n d_X6_renew_62 rfl g2 ?_
      replace e := ckd e
      obtain ⟨k18, e⟩ := e
      replace e := ckd e
      obtain ⟨k19, e⟩ := e
      refine g_aald d_X6_renew_63 k18 (by decide) (by decide) k19 rfl ?_
      refine r_iconst d_X6_renew_64 (v := (1 : Int32)) (by decide +kernel) ?_
      replace e := ckd e
      obtain ⟨k20, e⟩ := e
      refine g_putI d_X6_renew_65 (f := 603) k20 fk_7_94 rfl (Or.inl rfl) ⟨rfl, rfl⟩ ?_
      replace e := bhd e
      obtain ⟨_, rfl, e⟩ := e
      refine g_ald_n d_X6_renew_68 rfl g0 ?_
      refine g_getR d_X6_renew_69 (f := 703) (tO_pI (tO_pI k13)) fk_7_11 rfl rfl ?_
      refine r_iload_n d_X6_renew_72 rfl g2 ?_
      replace e := ckd e
      obtain ⟨k22, e⟩ := e
      replace e := ckd e
      obtain ⟨k23, e⟩ := e
      refine g_aald d_X6_renew_73 k22 (by decide) (by decide) k23 rfl ?_
      refine r_iconst d_X6_renew_74 (v := (-1 : Int32)) (by decide +kernel) ?_
      replace e := ckd e
      obtain ⟨k24, e⟩ := e
      refine g_putI d_X6_renew_75 (f := 604) k24 fk_7_216 rfl (Or.inl rfl) ⟨rfl, rfl⟩ ?_
      replace e := bhd e
      obtain ⟨_, rfl, e⟩ := e
      replace e := bhd e
      obtain ⟨_, rfl, e⟩ := e
      refine s_iinc d_X6_renew_78 g2 (w := (1 : Int32)) (by decide +kernel) (by decide) (fun L g2 gK => ?_)
      replace g0 := gK _ _ (by decide) (Or.inr (zrf_cat _)) g0
      replace g1 := gK _ _ (by decide) (Or.inr rfl) g1
      refine r_goto d_X6_renew_81 (tgt := 43) (by decide) ?_
      exact ih _ _ _ _ _ _ g0 g1 g2 e

def f_X6_renew_2 : Nat → Nat → Int32 → Int32 → Hp → Option (Int32 × Hp)
  | 0, _, _, _, _ => none
  | n + 1, l0, l1, l2, h => ck (isO (h) (l0) 7) (if (zI (h) 707 (l0)) ≤ (l2) then (if (zI (h) 709 (l0)) = (0) then (f_X6_renew_43 fz (l0) (l1) ((0 : Int32)) (h)) else (some ((0 : Int32), h))) else (ck (isO (h) (zR (h) 703 (l0)) 25) (ck (inR (l2) (zL (h) (zR (h) 703 (l0)))) (ck (isO (h) (zQ (h) (zR (h) 703 (l0)) (l2).toNatClampNeg) 6) (if (zI (h) 602 (zQ (h) (zR (h) 703 (l0)) (l2).toNatClampNeg)) < ((16 : Int32)) then (bh ((l2) + (1 : Int32)) (fun x8 => f_X6_renew_2 n (l0) (l1) (x8) (h))) else (some ((0 : Int32), h)))))))
theorem f_X6_renew_2_ok {G : Gd} {d : Nat} (hj : 1 ≤ d) : ∀ (n : Nat) (l0 : Nat) (l1 : Int32) (l2 : Int32) (L : List (Nat × Value)) (h : Hp) (o : (Int32 × Hp)), zlk L 0 = some (zrf (l0)) → zlk L 1 = some (.int (l1)) → zlk L 2 = some (.int (l2)) → f_X6_renew_2 n l0 l1 l2 h = some o → Ev G M_X6_renew d 2 L [] h (Ret Y_X6_renew (some (.int o.1)) o.2) := by
  intro n
  induction n with
  | zero =>
    intro l0 l1 l2 L h o g0 g1 g2 e
    cases e
  | succ n ih =>
    intro l0 l1 l2 L h o g0 g1 g2 e
    unfold f_X6_renew_2 at e
    refine r_iload_n d_X6_renew_2 rfl g2 ?_
    refine g_ald_n d_X6_renew_3 rfl g0 ?_
    replace e := ckd e
    obtain ⟨k1, e⟩ := e
    refine g_getI d_X6_renew_4 (f := 707) k1 fk_7_34 rfl rfl ?_
    refine r_icmp_ge d_X6_renew_7 (tgt := 32) (by decide) (fun c2 => ?_) (fun c2 => ?_)
    · replace e := (if_pos c2).symm.trans e
      refine g_ald_n d_X6_renew_32 rfl g0 ?_
      refine g_getI d_X6_renew_33 (f := 709) k1 fk_7_102 rfl rfl ?_
      refine r_if_eq d_X6_renew_36 (tgt := 41) (by decide) (fun c3 => ?_) (fun c3 => ?_)
      · replace e := (if_pos c3).symm.trans e
        refine r_iconst d_X6_renew_41 (v := (0 : Int32)) (by decide +kernel) ?_
        refine s_istore_n d_X6_renew_42 rfl (by decide) (fun L g2 gK => ?_)
        replace g0 := gK _ _ (by decide) (Or.inr (zrf_cat _)) g0
        replace g1 := gK _ _ (by decide) (Or.inr rfl) g1
        exact f_X6_renew_43_ok hj _ _ _ _ _ _ _ g0 g1 g2 e
      · replace e := (if_neg c3).symm.trans e
        refine r_iconst d_X6_renew_39 (v := (0 : Int32)) (by decide +kernel) ?_
        cases e
        exact g_iret d_X6_renew_40 rfl rfl
    · replace e := (if_neg c2).symm.trans e
      refine g_ald_n d_X6_renew_10 rfl g0 ?_
      refine g_getR d_X6_renew_11 (f := 703) k1 fk_7_11 rfl rfl ?_
      refine r_iload_n d_X6_renew_14 rfl g2 ?_
      replace e := ckd e
      obtain ⟨k4, e⟩ := e
      replace e := ckd e
      obtain ⟨k5, e⟩ := e
      refine g_aald d_X6_renew_15 k4 (by decide) (by decide) k5 rfl ?_
      replace e := ckd e
      obtain ⟨k6, e⟩ := e
      refine g_getI d_X6_renew_16 (f := 602) k6 fk_7_69 rfl rfl ?_
      refine r_bipush d_X6_renew_19 (v := (16 : Int32)) (by decide +kernel) ?_
      refine r_icmp_lt d_X6_renew_21 (tgt := 26) (by decide) (fun c7 => ?_) (fun c7 => ?_)
      · replace e := (if_pos c7).symm.trans e
        replace e := bhd e
        obtain ⟨_, rfl, e⟩ := e
        refine s_iinc d_X6_renew_26 g2 (w := (1 : Int32)) (by decide +kernel) (by decide) (fun L g2 gK => ?_)
        replace g0 := gK _ _ (by decide) (Or.inr (zrf_cat _)) g0
        replace g1 := gK _ _ (by decide) (Or.inr rfl) g1
        refine r_goto d_X6_renew_29 (tgt := 2) (by decide) ?_
        exact ih _ _ _ _ _ _ g0 g1 g2 e
      · replace e := (if_neg c7).symm.trans e
        refine r_iconst d_X6_renew_24 (v := (0 : Int32)) (by decide +kernel) ?_
        cases e
        exact g_iret d_X6_renew_25 rfl rfl

def f_X6_renew (l0 : Nat) (l1 : Int32) (h : Hp) : Option (Int32 × Hp) := f_X6_renew_2 fz (l0) (l1) ((0 : Int32)) (h)
theorem f_X6_renew_ok {G : Gd} {d : Nat} (hj : 1 ≤ d) : ∀ (l0 : Nat) (l1 : Int32) (L : List (Nat × Value)) (h : Hp) (o : (Int32 × Hp)), zlk L 0 = some (zrf (l0)) → zlk L 1 = some (.int (l1)) → f_X6_renew l0 l1 h = some o → Ev G M_X6_renew d 0 L [] h (Ret Y_X6_renew (some (.int o.1)) o.2) := by
  intro l0 l1 L h o g0 g1 e
  unfold f_X6_renew at e
  refine r_iconst d_X6_renew_0 (v := (0 : Int32)) (by decide +kernel) ?_
  refine s_istore_n d_X6_renew_1 rfl (by decide) (fun L g2 gK => ?_)
  replace g0 := gK _ _ (by decide) (Or.inr (zrf_cat _)) g0
  replace g1 := gK _ _ (by decide) (Or.inr rfl) g1
  exact f_X6_renew_2_ok hj _ _ _ _ _ _ _ g0 g1 g2 e

theorem c_X6_renew {G : Gd} {j : Nat} (hj : 1 ≤ j) {l0 : Nat} {l1 : Int32} {h : Hp} {o : (Int32 × Hp)} (e : f_X6_renew l0 l1 h = some o) : Cal G j Y_X6_renew [zrf (l0), .int (l1)] h (some (.int o.1)) o.2 := Cal.of (n := 0) (I := false) (by decide +kernel) (by decide) (by simp [lg_sl, zrf_cat, cat_int, cat_long]) (f_X6_renew_ok hj _ _ _ h o (by simp [lv_args, zlk, zrf_cat, cat_int, cat_long]) (by simp [lv_args, zlk, zrf_cat, cat_int, cat_long]) e)
theorem fk_7_223 : Fk "TaskWeave$Shard" 223 600 := ⟨by decide, by decide, by decide +kernel⟩
theorem vk_7_112 : Vk "TaskWeave$Shard" 112 0 7 Y_X6_loseLeader := ⟨yk_X6_loseLeader, by decide +kernel, by decide +kernel, by decide +kernel, by decide⟩
theorem vk_7_109 : Vk "TaskWeave$Shard" 109 0 7 Y_X6_mostAreUp := ⟨yk_X6_mostAreUp, by decide +kernel, by decide +kernel, by decide +kernel, by decide⟩
def f_X6_lower (l0 : Nat) (l1 : Nat) (h : Hp) : Option Hp := ck (isO (h) (l1) 6) (bh (pI (h) 603 (l1) ((0 : Int32))) (fun h2 => bh (pI (h2) 604 (l1) ((-1 : Int32))) (fun h3 => ck (isO (h3) (l0) 7) (if (zI (h3) 600 (l1)) = (zI (h3) 708 (l0)) then ((f_X6_loseLeader (l0) (h3)).bind (fun q6 => some (q6))) else ((f_X6_mostAreUp (l0) (h3)).bind (fun q7 => if (q7.1) = (0) then (ck (isO (q7.2) (l0) 7) ((f_X6_loseLeader (l0) (q7.2)).bind (fun q9 => some (q9)))) else (some (q7.2))))))))
theorem f_X6_lower_ok {G : Gd} {d : Nat} (hj : 2 ≤ d) : ∀ (l0 : Nat) (l1 : Nat) (L : List (Nat × Value)) (h : Hp) (o : Hp), zlk L 0 = some (zrf (l0)) → zlk L 1 = some (zrf (l1)) → f_X6_lower l0 l1 h = some o → Ev G M_X6_lower d 0 L [] h (Ret Y_X6_lower none o) := by
  intro l0 l1 L h o g0 g1 e
  unfold f_X6_lower at e
  refine g_ald_n d_X6_lower_0 rfl g1 ?_
  refine r_iconst d_X6_lower_1 (v := (0 : Int32)) (by decide +kernel) ?_
  replace e := ckd e
  obtain ⟨k1, e⟩ := e
  refine g_putI d_X6_lower_2 (f := 603) k1 fk_7_94 rfl (Or.inl rfl) ⟨rfl, rfl⟩ ?_
  replace e := bhd e
  obtain ⟨_, rfl, e⟩ := e
  refine g_ald_n d_X6_lower_5 rfl g1 ?_
  refine r_iconst d_X6_lower_6 (v := (-1 : Int32)) (by decide +kernel) ?_
  refine g_putI d_X6_lower_7 (f := 604) (tO_pI k1) fk_7_216 rfl (Or.inl rfl) ⟨rfl, rfl⟩ ?_
  replace e := bhd e
  obtain ⟨_, rfl, e⟩ := e
  refine g_ald_n d_X6_lower_10 rfl g1 ?_
  refine g_getI d_X6_lower_11 (f := 600) (tO_pI (tO_pI k1)) fk_7_223 rfl rfl ?_
  refine g_ald_n d_X6_lower_14 rfl g0 ?_
  replace e := ckd e
  obtain ⟨k4, e⟩ := e
  refine g_getI d_X6_lower_15 (f := 708) k4 fk_7_53 rfl rfl ?_
  refine r_icmp_eq d_X6_lower_18 (tgt := 28) (by decide) (fun c5 => ?_) (fun c5 => ?_)
  · replace e := (if_pos c5).symm.trans e
    refine g_ald_n d_X6_lower_28 rfl g0 ?_
    replace e := bd e
    obtain ⟨q6, eq6, e⟩ := e
    refine g_callV d_X6_lower_29 vk_7_112 (as := []) rfl k4 rfl (by simp [zrf_cat, cat_int, cat_long]) (j := 1) (by omega) (c_X6_loseLeader (by omega) eq6) ?_
    cases e
    exact g_vret d_X6_lower_32 rfl
  · replace e := (if_neg c5).symm.trans e
    refine g_ald_n d_X6_lower_21 rfl g0 ?_
    replace e := bd e
    obtain ⟨q7, eq7, e⟩ := e
    refine g_callV d_X6_lower_22 vk_7_109 (as := []) rfl k4 rfl (by simp [zrf_cat, cat_int, cat_long]) (j := 1) (by omega) (c_X6_mostAreUp (by omega) eq7) ?_
    refine r_if_ne d_X6_lower_25 (tgt := 32) (by decide) (fun c8 => ?_) (fun c8 => ?_)
    · replace e := (if_neg c8).symm.trans e
      cases e
      exact g_vret d_X6_lower_32 rfl
    · replace e := (if_pos c8).symm.trans e
      refine g_ald_n d_X6_lower_28 rfl g0 ?_
      replace e := ckd e
      obtain ⟨k10, e⟩ := e
      replace e := bd e
      obtain ⟨q9, eq9, e⟩ := e
      refine g_callV d_X6_lower_29 vk_7_112 (as := []) rfl k10 rfl (by simp [zrf_cat, cat_int, cat_long]) (j := 1) (by omega) (c_X6_loseLeader (by omega) eq9) ?_
      cases e
      exact g_vret d_X6_lower_32 rfl

theorem c_X6_lower {G : Gd} {j : Nat} (hj : 2 ≤ j) {l0 : Nat} {l1 : Nat} {h : Hp} {o : Hp} (e : f_X6_lower l0 l1 h = some o) : Cal G j Y_X6_lower [zrf (l0), zrf (l1)] h none o := Cal.of (n := 0) (I := false) (by decide +kernel) (by decide) (by simp [lg_sl, zrf_cat, cat_int, cat_long]) (f_X6_lower_ok hj _ _ _ h o (by simp [lv_args, zlk, zrf_cat, cat_int, cat_long]) (by simp [lv_args, zlk, zrf_cat, cat_int, cat_long]) e)
theorem vk_7_244 : Vk "TaskWeave$Shard" 244 1 6 Y_X5_isAheadOf := ⟨yk_X5_isAheadOf, by decide +kernel, by decide +kernel, by decide +kernel, by decide⟩
def f_X6_candidate_49 (K4 : Nat → Int32 → Int32 → Hp → Option (Int32 × Hp)) (l0 : Nat) (l1 : Int32) (l2 : Int32) (h : Hp) : Option (Int32 × Hp) := bh ((l2) + (1 : Int32)) (fun x11 => K4 (l0) (l1) (x11) (h))
theorem f_X6_candidate_49_ok {G : Gd} {d : Nat} (K4 : Nat → Int32 → Int32 → Hp → Option (Int32 × Hp)) (hj : 3 ≤ d) (hK4 : ∀ (l0 : Nat) (l1 : Int32) (l2 : Int32) (L : List (Nat × Value)) (h : Hp) (o : (Int32 × Hp)), zlk L 0 = some (zrf (l0)) → zlk L 1 = some (.int (l1)) → zlk L 2 = some (.int (l2)) → K4 l0 l1 l2 h = some o → Ev G M_X6_candidate d 4 L [] h (Ret Y_X6_candidate (some (.int o.1)) o.2)) : ∀ (l0 : Nat) (l1 : Int32) (l2 : Int32) (L : List (Nat × Value)) (h : Hp) (o : (Int32 × Hp)), zlk L 0 = some (zrf (l0)) → zlk L 1 = some (.int (l1)) → zlk L 2 = some (.int (l2)) → f_X6_candidate_49 K4 l0 l1 l2 h = some o → Ev G M_X6_candidate d 49 L [] h (Ret Y_X6_candidate (some (.int o.1)) o.2) := by
  intro l0 l1 l2 L h o g0 g1 g2 e
  unfold f_X6_candidate_49 at e
  replace e := bhd e
  obtain ⟨_, rfl, e⟩ := e
  refine s_iinc d_X6_candidate_49 g2 (w := (1 : Int32)) (by decide +kernel) (by decide) (fun L g2 gK => ?_)
  replace g0 := gK _ _ (by decide) (Or.inr (zrf_cat _)) g0
  replace g1 := gK _ _ (by decide) (Or.inr rfl) g1
  refine r_goto d_X6_candidate_52 (tgt := 4) (by decide) ?_
  exact hK4 _ _ _ _ _ _ g0 g1 g2 e

def f_X6_candidate_47 (K4 : Nat → Int32 → Int32 → Hp → Option (Int32 × Hp)) (l0 : Nat) (l2 : Int32) (h : Hp) : Option (Int32 × Hp) := f_X6_candidate_49 K4 (l0) (l2) (l2) (h)
theorem f_X6_candidate_47_ok {G : Gd} {d : Nat} (K4 : Nat → Int32 → Int32 → Hp → Option (Int32 × Hp)) (hj : 3 ≤ d) (hK4 : ∀ (l0 : Nat) (l1 : Int32) (l2 : Int32) (L : List (Nat × Value)) (h : Hp) (o : (Int32 × Hp)), zlk L 0 = some (zrf (l0)) → zlk L 1 = some (.int (l1)) → zlk L 2 = some (.int (l2)) → K4 l0 l1 l2 h = some o → Ev G M_X6_candidate d 4 L [] h (Ret Y_X6_candidate (some (.int o.1)) o.2)) : ∀ (l0 : Nat) (l2 : Int32) (L : List (Nat × Value)) (h : Hp) (o : (Int32 × Hp)), zlk L 0 = some (zrf (l0)) → zlk L 2 = some (.int (l2)) → f_X6_candidate_47 K4 l0 l2 h = some o → Ev G M_X6_candidate d 47 L [] h (Ret Y_X6_candidate (some (.int o.1)) o.2) := by
  intro l0 l2 L h o g0 g2 e
  unfold f_X6_candidate_47 at e
  refine r_iload_n d_X6_candidate_47 rfl g2 ?_
  refine s_istore_n d_X6_candidate_48 rfl (by decide) (fun L g1 gK => ?_)
  replace g0 := gK _ _ (by decide) (Or.inr (zrf_cat _)) g0
  replace g2 := gK _ _ (by decide) (Or.inr rfl) g2
  exact f_X6_candidate_49_ok _ hj hK4 _ _ _ _ _ _ g0 g1 g2 e

def f_X6_candidate_4 : Nat → Nat → Int32 → Int32 → Hp → Option (Int32 × Hp)
  | 0, _, _, _, _ => none
  | n + 1, l0, l1, l2, h => ck (isO (h) (l0) 7) (if (zI (h) 707 (l0)) ≤ (l2) then (some (l1, h)) else (ck (isO (h) (zR (h) 703 (l0)) 25) (ck (inR (l2) (zL (h) (zR (h) 703 (l0)))) (ck (isO (h) (zQ (h) (zR (h) 703 (l0)) (l2).toNatClampNeg) 6) (if (zI (h) 603 (zQ (h) (zR (h) 703 (l0)) (l2).toNatClampNeg)) = (0) then (f_X6_candidate_49 (f_X6_candidate_4 n ) (l0) (l1) (l2) (h)) else (if (l1) = ((-1 : Int32)) then (f_X6_candidate_47 (f_X6_candidate_4 n ) (l0) (l2) (h)) else (ck (inR (l1) (zL (h) (zR (h) 703 (l0)))) ((f_X5_isAheadOf (zQ (h) (zR (h) 703 (l0)) (l2).toNatClampNeg) (zQ (h) (zR (h) 703 (l0)) (l1).toNatClampNeg) (h)).bind (fun q9 => if (q9.1) = (0) then (f_X6_candidate_49 (f_X6_candidate_4 n ) (l0) (l1) (l2) (q9.2)) else (f_X6_candidate_47 (f_X6_candidate_4 n ) (l0) (l2) (q9.2)))))))))))
theorem f_X6_candidate_4_ok {G : Gd} {d : Nat} (hj : 3 ≤ d) : ∀ (n : Nat) (l0 : Nat) (l1 : Int32) (l2 : Int32) (L : List (Nat × Value)) (h : Hp) (o : (Int32 × Hp)), zlk L 0 = some (zrf (l0)) → zlk L 1 = some (.int (l1)) → zlk L 2 = some (.int (l2)) → f_X6_candidate_4 n l0 l1 l2 h = some o → Ev G M_X6_candidate d 4 L [] h (Ret Y_X6_candidate (some (.int o.1)) o.2) := by
  intro n
  induction n with
  | zero =>
    intro l0 l1 l2 L h o g0 g1 g2 e
    cases e
  | succ n ih =>
    intro l0 l1 l2 L h o g0 g1 g2 e
    unfold f_X6_candidate_4 at e
    refine r_iload_n d_X6_candidate_4 rfl g2 ?_
    refine g_ald_n d_X6_candidate_5 rfl g0 ?_
    replace e := ckd e
    obtain ⟨k1, e⟩ := e
    refine g_getI d_X6_candidate_6 (f := 707) k1 fk_7_34 rfl rfl ?_
    refine r_icmp_ge d_X6_candidate_9 (tgt := 55) (by decide) (fun c2 => ?_) (fun c2 => ?_)
    · replace e := (if_pos c2).symm.trans e
      refine r_iload_n d_X6_candidate_55 rfl g1 ?_
      cases e
      exact g_iret d_X6_candidate_56 rfl rfl
    · replace e := (if_neg c2).symm.trans e
      refine g_ald_n d_X6_candidate_12 rfl g0 ?_
      refine g_getR d_X6_candidate_13 (f := 703) k1 fk_7_11 rfl rfl ?_
      refine r_iload_n d_X6_candidate_16 rfl g2 ?_
      replace e := ckd e
      obtain ⟨k3, e⟩ := e
      replace e := ckd e
      obtain ⟨k4, e⟩ := e
      refine g_aald d_X6_candidate_17 k3 (by decide) (by decide) k4 rfl ?_
      replace e := ckd e
      obtain ⟨k5, e⟩ := e
      refine g_getI d_X6_candidate_18 (f := 603) k5 fk_7_94 rfl rfl ?_
      refine r_if_eq d_X6_candidate_21 (tgt := 49) (by decide) (fun c6 => ?_) (fun c6 => ?_)
      · replace e := (if_pos c6).symm.trans e
        exact f_X6_candidate_49_ok _ hj ih _ _ _ _ _ _ g0 g1 g2 e
      · replace e := (if_neg c6).symm.trans e
        refine r_iload_n d_X6_candidate_24 rfl g1 ?_
        refine r_iconst d_X6_candidate_25 (v := (-1 : Int32)) (by decide +kernel) ?_
        refine r_icmp_eq d_X6_candidate_26 (tgt := 47) (by decide) (fun c7 => ?_) (fun c7 => ?_)
        · replace e := (if_pos c7).symm.trans e
          exact f_X6_candidate_47_ok _ hj ih _ _ _ _ _ g0 g2 e
        · replace e := (if_neg c7).symm.trans e
          refine g_ald_n d_X6_candidate_29 rfl g0 ?_
          refine g_getR d_X6_candidate_30 (f := 703) k1 fk_7_11 rfl rfl ?_
          refine r_iload_n d_X6_candidate_33 rfl g2 ?_
          refine g_aald d_X6_candidate_34 k3 (by decide) (by decide) k4 rfl ?_
          refine g_ald_n d_X6_candidate_35 rfl g0 ?_
          refine g_getR d_X6_candidate_36 (f := 703) k1 fk_7_11 rfl rfl ?_
          refine r_iload_n d_X6_candidate_39 rfl g1 ?_
          replace e := ckd e
          obtain ⟨k8, e⟩ := e
          refine g_aald d_X6_candidate_40 k3 (by decide) (by decide) k8 rfl ?_
          replace e := bd e
          obtain ⟨q9, eq9, e⟩ := e
          refine g_callV d_X6_candidate_41 vk_7_244 (as := [_]) rfl k5 rfl (by simp [zrf_cat, cat_int, cat_long]) (j := 2) (by omega) (c_X5_isAheadOf (by omega) eq9) ?_
          refine r_if_eq d_X6_candidate_44 (tgt := 49) (by decide) (fun c10 => ?_) (fun c10 => ?_)
          · replace e := (if_pos c10).symm.trans e
            exact f_X6_candidate_49_ok _ hj ih _ _ _ _ _ _ g0 g1 g2 e
          · replace e := (if_neg c10).symm.trans e
            exact f_X6_candidate_47_ok _ hj ih _ _ _ _ _ g0 g2 e

def f_X6_candidate (l0 : Nat) (h : Hp) : Option (Int32 × Hp) := f_X6_candidate_4 fz (l0) ((-1 : Int32)) ((0 : Int32)) (h)
theorem f_X6_candidate_ok {G : Gd} {d : Nat} (hj : 3 ≤ d) : ∀ (l0 : Nat) (L : List (Nat × Value)) (h : Hp) (o : (Int32 × Hp)), zlk L 0 = some (zrf (l0)) → f_X6_candidate l0 h = some o → Ev G M_X6_candidate d 0 L [] h (Ret Y_X6_candidate (some (.int o.1)) o.2) := by
  intro l0 L h o g0 e
  unfold f_X6_candidate at e
  refine r_iconst d_X6_candidate_0 (v := (-1 : Int32)) (by decide +kernel) ?_
  refine s_istore_n d_X6_candidate_1 rfl (by decide) (fun L g1 gK => ?_)
  replace g0 := gK _ _ (by decide) (Or.inr (zrf_cat _)) g0
  refine r_iconst d_X6_candidate_2 (v := (0 : Int32)) (by decide +kernel) ?_
  refine s_istore_n d_X6_candidate_3 rfl (by decide) (fun L g2 gK => ?_)
  replace g0 := gK _ _ (by decide) (Or.inr (zrf_cat _)) g0
  replace g1 := gK _ _ (by decide) (Or.inr rfl) g1
  exact f_X6_candidate_4_ok hj _ _ _ _ _ _ _ g0 g1 g2 e

theorem c_X6_candidate {G : Gd} {j : Nat} (hj : 3 ≤ j) {l0 : Nat} {h : Hp} {o : (Int32 × Hp)} (e : f_X6_candidate l0 h = some o) : Cal G j Y_X6_candidate [zrf (l0)] h (some (.int o.1)) o.2 := Cal.of (n := 0) (I := false) (by decide +kernel) (by decide) (by simp [lg_sl, zrf_cat, cat_int, cat_long]) (f_X6_candidate_ok hj _ _ h o (by simp [lv_args, zlk, zrf_cat, cat_int, cat_long]) e)
theorem fk_9_7 : Fk "TaskWeave$Task" 7 900 := ⟨by decide, by decide, by decide +kernel⟩
theorem fk_9_13 : Fk "TaskWeave$Task" 13 901 := ⟨by decide, by decide, by decide +kernel⟩
theorem fk_9_16 : Fk "TaskWeave$Task" 16 902 := ⟨by decide, by decide, by decide +kernel⟩
theorem fk_9_19 : Fk "TaskWeave$Task" 19 903 := ⟨by decide, by decide, by decide +kernel⟩
theorem fk_9_22 : Fk "TaskWeave$Task" 22 904 := ⟨by decide, by decide, by decide +kernel⟩
def f_X8_open (l0 : Nat) (l1 : Int32) (l2 : Int32) (l3 : Int32) (h : Hp) : Option Hp := ck (isO (h) (l0) 9) (bh (pI (h) 900 (l0) (l1)) (fun h2 => bh (pI (h2) 901 (l0) (l2)) (fun h3 => bh (pI (h3) 902 (l0) ((1 : Int32))) (fun h4 => bh (pI (h4) 903 (l0) (l3)) (fun h5 => bh (pI (h5) 904 (l0) ((0 : Int32))) (fun h6 => some (h6)))))))
theorem f_X8_open_ok {G : Gd} {d : Nat} (hj : 1 ≤ d) : ∀ (l0 : Nat) (l1 : Int32) (l2 : Int32) (l3 : Int32) (L : List (Nat × Value)) (h : Hp) (o : Hp), zlk L 0 = some (zrf (l0)) → zlk L 1 = some (.int (l1)) → zlk L 2 = some (.int (l2)) → zlk L 3 = some (.int (l3)) → f_X8_open l0 l1 l2 l3 h = some o → Ev G M_X8_open d 0 L [] h (Ret Y_X8_open none o) := by
  intro l0 l1 l2 l3 L h o g0 g1 g2 g3 e
  unfold f_X8_open at e
  refine g_ald_n d_X8_open_0 rfl g0 ?_
  refine r_iload_n d_X8_open_1 rfl g1 ?_
  replace e := ckd e
  obtain ⟨k1, e⟩ := e
  refine g_putI d_X8_open_2 (f := 900) k1 fk_9_7 rfl (Or.inl rfl) ⟨rfl, rfl⟩ ?_
  replace e := bhd e
  obtain ⟨_, rfl, e⟩ := e
  refine g_ald_n d_X8_open_5 rfl g0 ?_
  refine r_iload_n d_X8_open_6 rfl g2 ?_
  refine g_putI d_X8_open_7 (f := 901) (tO_pI k1) fk_9_13 rfl (Or.inl rfl) ⟨rfl, rfl⟩ ?_
  replace e := bhd e
  obtain ⟨_, rfl, e⟩ := e
  refine g_ald_n d_X8_open_10 rfl g0 ?_
  refine r_iconst d_X8_open_11 (v := (1 : Int32)) (by decide +kernel) ?_
  refine g_putI d_X8_open_12 (f := 902) (tO_pI (tO_pI k1)) fk_9_16 rfl (Or.inl rfl) ⟨rfl, rfl⟩ ?_
  replace e := bhd e
  obtain ⟨_, rfl, e⟩ := e
  refine g_ald_n d_X8_open_15 rfl g0 ?_
  refine r_iload_n d_X8_open_16 rfl g3 ?_
  refine g_putI d_X8_open_17 (f := 903) (tO_pI (tO_pI (tO_pI k1))) fk_9_19 rfl (Or.inl rfl) ⟨rfl, rfl⟩ ?_
  replace e := bhd e
  obtain ⟨_, rfl, e⟩ := e
  refine g_ald_n d_X8_open_20 rfl g0 ?_
  refine r_iconst d_X8_open_21 (v := (0 : Int32)) (by decide +kernel) ?_
  refine g_putI d_X8_open_22 (f := 904) (tO_pI (tO_pI (tO_pI (tO_pI k1)))) fk_9_22 rfl (Or.inl rfl) ⟨rfl, rfl⟩ ?_
  replace e := bhd e
  obtain ⟨_, rfl, e⟩ := e
  cases e
  exact g_vret d_X8_open_25 rfl

theorem c_X8_open {G : Gd} {j : Nat} (hj : 1 ≤ j) {l0 : Nat} {l1 : Int32} {l2 : Int32} {l3 : Int32} {h : Hp} {o : Hp} (e : f_X8_open l0 l1 l2 l3 h = some o) : Cal G j Y_X8_open [zrf (l0), .int (l1), .int (l2), .int (l3)] h none o := Cal.of (n := 0) (I := false) (by decide +kernel) (by decide) (by simp [lg_sl, zrf_cat, cat_int, cat_long]) (f_X8_open_ok hj _ _ _ _ _ h o (by simp [lv_args, zlk, zrf_cat, cat_int, cat_long]) (by simp [lv_args, zlk, zrf_cat, cat_int, cat_long]) (by simp [lv_args, zlk, zrf_cat, cat_int, cat_long]) (by simp [lv_args, zlk, zrf_cat, cat_int, cat_long]) e)
def f_X8_ready (l0 : Nat) (l1 : Int32) (l2 : Int32) (h : Hp) : Option Hp := ck (isO (h) (l0) 9) (bh (pI (h) 902 (l0) (l1)) (fun h2 => bh (pI (h2) 903 (l0) (l2)) (fun h3 => bh (pI (h3) 904 (l0) ((0 : Int32))) (fun h4 => some (h4)))))
theorem f_X8_ready_ok {G : Gd} {d : Nat} (hj : 1 ≤ d) : ∀ (l0 : Nat) (l1 : Int32) (l2 : Int32) (L : List (Nat × Value)) (h : Hp) (o : Hp), zlk L 0 = some (zrf (l0)) → zlk L 1 = some (.int (l1)) → zlk L 2 = some (.int (l2)) → f_X8_ready l0 l1 l2 h = some o → Ev G M_X8_ready d 0 L [] h (Ret Y_X8_ready none o) := by
  intro l0 l1 l2 L h o g0 g1 g2 e
  unfold f_X8_ready at e
  refine g_ald_n d_X8_ready_0 rfl g0 ?_
  refine r_iload_n d_X8_ready_1 rfl g1 ?_
  replace e := ckd e
  obtain ⟨k1, e⟩ := e
  refine g_putI d_X8_ready_2 (f := 902) k1 fk_9_16 rfl (Or.inl rfl) ⟨rfl, rfl⟩ ?_
  replace e := bhd e
  obtain ⟨_, rfl, e⟩ := e
  refine g_ald_n d_X8_ready_5 rfl g0 ?_
  refine r_iload_n d_X8_ready_6 rfl g2 ?_
  refine g_putI d_X8_ready_7 (f := 903) (tO_pI k1) fk_9_19 rfl (Or.inl rfl) ⟨rfl, rfl⟩ ?_
  replace e := bhd e
  obtain ⟨_, rfl, e⟩ := e
  refine g_ald_n d_X8_ready_10 rfl g0 ?_
  refine r_iconst d_X8_ready_11 (v := (0 : Int32)) (by decide +kernel) ?_
  refine g_putI d_X8_ready_12 (f := 904) (tO_pI (tO_pI k1)) fk_9_22 rfl (Or.inl rfl) ⟨rfl, rfl⟩ ?_
  replace e := bhd e
  obtain ⟨_, rfl, e⟩ := e
  cases e
  exact g_vret d_X8_ready_15 rfl

theorem c_X8_ready {G : Gd} {j : Nat} (hj : 1 ≤ j) {l0 : Nat} {l1 : Int32} {l2 : Int32} {h : Hp} {o : Hp} (e : f_X8_ready l0 l1 l2 h = some o) : Cal G j Y_X8_ready [zrf (l0), .int (l1), .int (l2)] h none o := Cal.of (n := 0) (I := false) (by decide +kernel) (by decide) (by simp [lg_sl, zrf_cat, cat_int, cat_long]) (f_X8_ready_ok hj _ _ _ _ h o (by simp [lv_args, zlk, zrf_cat, cat_int, cat_long]) (by simp [lv_args, zlk, zrf_cat, cat_int, cat_long]) (by simp [lv_args, zlk, zrf_cat, cat_int, cat_long]) e)
theorem fk_10_33 : Fk "TaskWeave$Workflow" 33 1004 := ⟨by decide, by decide, by decide +kernel⟩
theorem fk_10_37 : Fk "TaskWeave$Workflow" 37 204 := ⟨by decide, by decide, by decide +kernel⟩
theorem vk_10_40 : Vk "TaskWeave$Workflow" 40 4 2 Y_X1_add := ⟨yk_X1_add, by decide +kernel, by decide +kernel, by decide +kernel, by decide⟩
theorem sk_10_44 : Sk "TaskWeave$Workflow" 44 2 Y_J7_fill_53178 := ⟨yk_J7_fill_53178, by decide +kernel, by decide +kernel⟩
theorem fk_10_50 : Fk "TaskWeave$Workflow" 50 904 := ⟨by decide, by decide, by decide +kernel⟩
theorem fk_10_53 : Fk "TaskWeave$Workflow" 53 1005 := ⟨by decide, by decide, by decide +kernel⟩
theorem fk_10_56 : Fk "TaskWeave$Workflow" 56 1006 := ⟨by decide, by decide, by decide +kernel⟩
theorem fk_10_59 : Fk "TaskWeave$Workflow" 59 1007 := ⟨by decide, by decide, by decide +kernel⟩
theorem fk_10_62 : Fk "TaskWeave$Workflow" 62 1009 := ⟨by decide, by decide, by decide +kernel⟩
theorem fk_10_65 : Fk "TaskWeave$Workflow" 65 1010 := ⟨by decide, by decide, by decide +kernel⟩
theorem fk_10_68 : Fk "TaskWeave$Workflow" 68 1011 := ⟨by decide, by decide, by decide +kernel⟩
def f_X9_open (l0 : Nat) (l1 : Nat) (l2 : Int32) (l3 : Int32) (l4 : Int32) (h : Hp) : Option Hp := ck (isO (h) (l0) 10) (bh (pR (h) 1004 (l0) (l1)) (fun h2 => ck (isO (h2) (zR (h2) 1002 (l0)) 2) (bh (pI (h2) 204 (zR (h2) 1002 (l0)) ((0 : Int32))) (fun h4 => ck (isO (h4) (zR (h4) 1002 (l0)) 2) ((f_X1_add (zR (h4) 1002 (l0)) ((0 : Int32)) (l2) (l3) (l4) (h4)).bind (fun q5 => ck (isO (q5) (l0) 10) ((f_J7_fill_53178 (zR (q5) 1001 (l0)) ((0 : Int32)) (q5)).bind (fun q8 => ck (isO (q8) (l0) 10) (ck (isO (q8) (zR (q8) 1001 (l0)) 22) (ck (inR ((0 : Int32)) (zL (q8) (zR (q8) 1001 (l0)))) (bh (pE (q8) (zR (q8) 1001 (l0)) ((0 : Int32)).toNatClampNeg (l3)) (fun h12 => ck (isO (h12) (zR (h12) 1003 (l0)) 9) (bh (pI (h12) 904 (zR (h12) 1003 (l0)) ((0 : Int32))) (fun h14 => bh (pI (h14) 1005 (l0) ((0 : Int32))) (fun h15 => bh (pI (h15) 1006 (l0) ((0 : Int32))) (fun h16 => bh (pI (h16) 1007 (l0) ((5 : Int32))) (fun h17 => bh (pI (h17) 1009 (l0) ((0 : Int32))) (fun h18 => bh (pI (h18) 1010 (l0) ((0 : Int32))) (fun h19 => bh (pI (h19) 1011 (l0) ((0 : Int32))) (fun h20 => some (h20)))))))))))))))))))))
theorem f_X9_open_ok {G : Gd} {d : Nat} (hj : 2 ≤ d) : ∀ (l0 : Nat) (l1 : Nat) (l2 : Int32) (l3 : Int32) (l4 : Int32) (L : List (Nat × Value)) (h : Hp) (o : Hp), zlk L 0 = some (zrf (l0)) → zlk L 1 = some (zrf (l1)) → zlk L 2 = some (.int (l2)) → zlk L 3 = some (.int (l3)) → zlk L 4 = some (.int (l4)) → f_X9_open l0 l1 l2 l3 l4 h = some o → Ev G M_X9_open d 0 L [] h (Ret Y_X9_open none o) := by
  intro l0 l1 l2 l3 l4 L h o g0 g1 g2 g3 g4 e
  unfold f_X9_open at e
  refine g_ald_n d_X9_open_0 rfl g0 ?_
  refine g_ald_n d_X9_open_1 rfl g1 ?_
  replace e := ckd e
  obtain ⟨k1, e⟩ := e
  refine g_putR d_X9_open_2 (f := 1004) k1 fk_10_33 rfl (Or.inl rfl) (Or.inl ⟨_, rfl⟩) ?_
  replace e := bhd e
  obtain ⟨_, rfl, e⟩ := e
  refine g_ald_n d_X9_open_5 rfl g0 ?_
  refine g_getR d_X9_open_6 (f := 1002) (tO_pR k1) fk_10_18 rfl rfl ?_
  refine r_iconst d_X9_open_9 (v := (0 : Int32)) (by decide +kernel) ?_
  replace e := ckd e
  obtain ⟨k3, e⟩ := e
  refine g_putI d_X9_open_10 (f := 204) k3 fk_10_37 rfl (Or.inl rfl) ⟨rfl, rfl⟩ ?_
  replace e := bhd e
  obtain ⟨_, rfl, e⟩ := e
  refine g_ald_n d_X9_open_13 rfl g0 ?_
  refine g_getR d_X9_open_14 (f := 1002) (tO_pI (tO_pR k1)) fk_10_18 rfl rfl ?_
  refine r_iconst d_X9_open_17 (v := (0 : Int32)) (by decide +kernel) ?_
  refine r_iload_n d_X9_open_18 rfl g2 ?_
  refine r_iload_n d_X9_open_19 rfl g3 ?_
  refine r_iload d_X9_open_20 g4 ?_
  replace e := ckd e
  obtain ⟨k6, e⟩ := e
  replace e := bd e
  obtain ⟨q5, eq5, e⟩ := e
  refine g_callV d_X9_open_22 vk_10_40 (as := [_, _, _, _]) rfl k6 rfl (by simp [zrf_cat, cat_int, cat_long]) (j := 1) (by omega) (c_X1_add (by omega) eq5) ?_
  refine g_ald_n d_X9_open_25 rfl g0 ?_
  replace e := ckd e
  obtain ⟨k7, e⟩ := e
  refine g_getR d_X9_open_26 (f := 1001) k7 fk_10_9 rfl rfl ?_
  refine r_iconst d_X9_open_29 (v := (0 : Int32)) (by decide +kernel) ?_
  replace e := bd e
  obtain ⟨q8, eq8, e⟩ := e
  refine g_callS d_X9_open_30 sk_10_44 (as := [_, _]) rfl rfl (by simp [zrf_cat, cat_int, cat_long]) (j := 1) (by omega) (c_J7_fill_53178 (by omega) eq8) ?_
  refine g_ald_n d_X9_open_33 rfl g0 ?_
  replace e := ckd e
  obtain ⟨k9, e⟩ := e
  refine g_getR d_X9_open_34 (f := 1001) k9 fk_10_9 rfl rfl ?_
  refine r_iconst d_X9_open_37 (v := (0 : Int32)) (by decide +kernel) ?_
  refine r_iload_n d_X9_open_38 rfl g3 ?_
  replace e := ckd e
  obtain ⟨k10, e⟩ := e
  replace e := ckd e
  obtain ⟨k11, e⟩ := e
  refine g_iast d_X9_open_39 k10 k11 ?_
  replace e := bhd e
  obtain ⟨_, rfl, e⟩ := e
  refine g_ald_n d_X9_open_40 rfl g0 ?_
  refine g_getR d_X9_open_41 (f := 1003) (tO_pE k9) fk_10_25 rfl rfl ?_
  refine r_iconst d_X9_open_44 (v := (0 : Int32)) (by decide +kernel) ?_
  replace e := ckd e
  obtain ⟨k13, e⟩ := e
  refine g_putI d_X9_open_45 (f := 904) k13 fk_10_50 rfl (Or.inl rfl) ⟨rfl, rfl⟩ ?_
  replace e := bhd e
  obtain ⟨_, rfl, e⟩ := e
  refine g_ald_n d_X9_open_48 rfl g0 ?_
  refine r_iconst d_X9_open_49 (v := (0 : Int32)) (by decide +kernel) ?_
  refine g_putI d_X9_open_50 (f := 1005) (tO_pI (tO_pE k9)) fk_10_53 rfl (Or.inl rfl) ⟨rfl, rfl⟩ ?_
  replace e := bhd e
  obtain ⟨_, rfl, e⟩ := e
  refine g_ald_n d_X9_open_53 rfl g0 ?_
  refine r_iconst d_X9_open_54 (v := (0 : Int32)) (by decide +kernel) ?_
  refine g_putI d_X9_open_55 (f := 1006) (tO_pI (tO_pI (tO_pE k9))) fk_10_56 rfl (Or.inl rfl) ⟨rfl, rfl⟩ ?_
  replace e := bhd e
  obtain ⟨_, rfl, e⟩ := e
  refine g_ald_n d_X9_open_58 rfl g0 ?_
  refine r_iconst d_X9_open_59 (v := (5 : Int32)) (by decide +kernel) ?_
  refine g_putI d_X9_open_60 (f := 1007) (tO_pI (tO_pI (tO_pI (tO_pE k9)))) fk_10_59 rfl (Or.inl rfl) ⟨rfl, rfl⟩ ?_
  replace e := bhd e
  obtain ⟨_, rfl, e⟩ := e
  refine g_ald_n d_X9_open_63 rfl g0 ?_
  refine r_iconst d_X9_open_64 (v := (0 : Int32)) (by decide +kernel) ?_
  refine g_putI d_X9_open_65 (f := 1009) (tO_pI (tO_pI (tO_pI (tO_pI (tO_pE k9))))) fk_10_62 rfl (Or.inl rfl) ⟨rfl, rfl⟩ ?_
  replace e := bhd e
  obtain ⟨_, rfl, e⟩ := e
  refine g_ald_n d_X9_open_68 rfl g0 ?_
  refine r_iconst d_X9_open_69 (v := (0 : Int32)) (by decide +kernel) ?_
  refine g_putI d_X9_open_70 (f := 1010) (tO_pI (tO_pI (tO_pI (tO_pI (tO_pI (tO_pE k9)))))) fk_10_65 rfl (Or.inl rfl) ⟨rfl, rfl⟩ ?_
  replace e := bhd e
  obtain ⟨_, rfl, e⟩ := e
  refine g_ald_n d_X9_open_73 rfl g0 ?_
  refine r_iconst d_X9_open_74 (v := (0 : Int32)) (by decide +kernel) ?_
  refine g_putI d_X9_open_75 (f := 1011) (tO_pI (tO_pI (tO_pI (tO_pI (tO_pI (tO_pI (tO_pE k9))))))) fk_10_68 rfl (Or.inl rfl) ⟨rfl, rfl⟩ ?_
  replace e := bhd e
  obtain ⟨_, rfl, e⟩ := e
  cases e
  exact g_vret d_X9_open_78 rfl

theorem c_X9_open {G : Gd} {j : Nat} (hj : 2 ≤ j) {l0 : Nat} {l1 : Nat} {l2 : Int32} {l3 : Int32} {l4 : Int32} {h : Hp} {o : Hp} (e : f_X9_open l0 l1 l2 l3 l4 h = some o) : Cal G j Y_X9_open [zrf (l0), zrf (l1), .int (l2), .int (l3), .int (l4)] h none o := Cal.of (n := 0) (I := false) (by decide +kernel) (by decide) (by simp [lg_sl, zrf_cat, cat_int, cat_long]) (f_X9_open_ok hj _ _ _ _ _ _ h o (by simp [lv_args, zlk, zrf_cat, cat_int, cat_long]) (by simp [lv_args, zlk, zrf_cat, cat_int, cat_long]) (by simp [lv_args, zlk, zrf_cat, cat_int, cat_long]) (by simp [lv_args, zlk, zrf_cat, cat_int, cat_long]) (by simp [lv_args, zlk, zrf_cat, cat_int, cat_long]) e)
theorem fk_10_71 : Fk "TaskWeave$Workflow" 71 203 := ⟨by decide, by decide, by decide +kernel⟩
def f_X9_parent (l0 : Nat) (h : Hp) : Option (Int32 × Hp) := ck (isO (h) (l0) 10) (ck (isO (h) (zR (h) 1002 (l0)) 2) (ck (isO (h) (zR (h) 203 (zR (h) 1002 (l0))) 22) (ck (inR ((0 : Int32)) (zL (h) (zR (h) 203 (zR (h) 1002 (l0))))) (bh (zE (h) (zR (h) 203 (zR (h) 1002 (l0))) ((0 : Int32)).toNatClampNeg) (fun x5 => if (0) ≤ (x5) then (some ((-1 : Int32), h)) else (some ((((-1 : Int32)) - (x5)) / ((64 : Int32)), h)))))))
theorem f_X9_parent_ok {G : Gd} {d : Nat} (hj : 1 ≤ d) : ∀ (l0 : Nat) (L : List (Nat × Value)) (h : Hp) (o : (Int32 × Hp)), zlk L 0 = some (zrf (l0)) → f_X9_parent l0 h = some o → Ev G M_X9_parent d 0 L [] h (Ret Y_X9_parent (some (.int o.1)) o.2) := by
  intro l0 L h o g0 e
  unfold f_X9_parent at e
  refine g_ald_n d_X9_parent_0 rfl g0 ?_
  replace e := ckd e
  obtain ⟨k1, e⟩ := e
  refine g_getR d_X9_parent_1 (f := 1002) k1 fk_10_18 rfl rfl ?_
  replace e := ckd e
  obtain ⟨k2, e⟩ := e
  refine g_getR d_X9_parent_4 (f := 203) k2 fk_10_71 rfl rfl ?_
  refine r_iconst d_X9_parent_7 (v := (0 : Int32)) (by decide +kernel) ?_
  replace e := ckd e
  obtain ⟨k3, e⟩ := e
  replace e := ckd e
  obtain ⟨k4, e⟩ := e
  refine g_iald d_X9_parent_8 k3 k4 rfl ?_
  replace e := bhd e
  obtain ⟨_, rfl, e⟩ := e
  refine s_istore_n d_X9_parent_9 rfl (by decide) (fun L g1 gK => ?_)
  refine r_iload_n d_X9_parent_10 rfl g1 ?_
  refine r_if_ge d_X9_parent_11 (tgt := 23) (by decide) (fun c6 => ?_) (fun c6 => ?_)
  · replace e := (if_pos c6).symm.trans e
    refine r_iconst d_X9_parent_23 (v := (-1 : Int32)) (by decide +kernel) ?_
    cases e
    exact g_iret d_X9_parent_24 rfl rfl
  · replace e := (if_neg c6).symm.trans e
    refine r_iconst d_X9_parent_14 (v := (-1 : Int32)) (by decide +kernel) ?_
    refine r_iload_n d_X9_parent_15 rfl g1 ?_
    refine r_isub d_X9_parent_16 ?_
    refine r_bipush d_X9_parent_17 (v := (64 : Int32)) (by decide +kernel) ?_
    refine r_idiv d_X9_parent_19 (by decide +kernel) ?_
    refine r_goto d_X9_parent_20 (tgt := 24) (by decide) ?_
    cases e
    exact g_iret d_X9_parent_24 rfl rfl

theorem c_X9_parent {G : Gd} {j : Nat} (hj : 1 ≤ j) {l0 : Nat} {h : Hp} {o : (Int32 × Hp)} (e : f_X9_parent l0 h = some o) : Cal G j Y_X9_parent [zrf (l0)] h (some (.int o.1)) o.2 := Cal.of (n := 0) (I := false) (by decide +kernel) (by decide) (by simp [lg_sl, zrf_cat, cat_int, cat_long]) (f_X9_parent_ok hj _ _ h o (by simp [lv_args, zlk, zrf_cat, cat_int, cat_long]) e)
def f_X9_numberAsChild (l0 : Nat) (h : Hp) : Option (Int32 × Hp) := ck (isO (h) (l0) 10) (ck (isO (h) (zR (h) 1002 (l0)) 2) (ck (isO (h) (zR (h) 203 (zR (h) 1002 (l0))) 22) (ck (inR ((0 : Int32)) (zL (h) (zR (h) 203 (zR (h) 1002 (l0))))) (some ((((-1 : Int32)) - (zE (h) (zR (h) 203 (zR (h) 1002 (l0))) ((0 : Int32)).toNatClampNeg)) - (((-1 : Int32)) - (zE (h) (zR (h) 203 (zR (h) 1002 (l0))) ((0 : Int32)).toNatClampNeg)) / ((64 : Int32)) * ((64 : Int32)), h)))))
theorem f_X9_numberAsChild_ok {G : Gd} {d : Nat} (hj : 1 ≤ d) : ∀ (l0 : Nat) (L : List (Nat × Value)) (h : Hp) (o : (Int32 × Hp)), zlk L 0 = some (zrf (l0)) → f_X9_numberAsChild l0 h = some o → Ev G M_X9_numberAsChild d 0 L [] h (Ret Y_X9_numberAsChild (some (.int o.1)) o.2) := by
  intro l0 L h o g0 e
  unfold f_X9_numberAsChild at e
  refine r_iconst d_X9_numberAsChild_0 (v := (-1 : Int32)) (by decide +kernel) ?_
  refine g_ald_n d_X9_numberAsChild_1 rfl g0 ?_
  replace e := ckd e
  obtain ⟨k1, e⟩ := e
  refine g_getR d_X9_numberAsChild_2 (f := 1002) k1 fk_10_18 rfl rfl ?_
  replace e := ckd e
  obtain ⟨k2, e⟩ := e
  refine g_getR d_X9_numberAsChild_5 (f := 203) k2 fk_10_71 rfl rfl ?_
  refine r_iconst d_X9_numberAsChild_8 (v := (0 : Int32)) (by decide +kernel) ?_
  replace e := ckd e
  obtain ⟨k3, e⟩ := e
  replace e := ckd e
  obtain ⟨k4, e⟩ := e
  refine g_iald d_X9_numberAsChild_9 k3 k4 rfl ?_
  refine r_isub d_X9_numberAsChild_10 ?_
  refine r_bipush d_X9_numberAsChild_11 (v := (64 : Int32)) (by decide +kernel) ?_
  refine r_irem d_X9_numberAsChild_13 (by decide +kernel) ?_
  cases e
  exact g_iret d_X9_numberAsChild_14 rfl rfl

theorem c_X9_numberAsChild {G : Gd} {j : Nat} (hj : 1 ≤ j) {l0 : Nat} {h : Hp} {o : (Int32 × Hp)} (e : f_X9_numberAsChild l0 h = some o) : Cal G j Y_X9_numberAsChild [zrf (l0)] h (some (.int o.1)) o.2 := Cal.of (n := 0) (I := false) (by decide +kernel) (by decide) (by simp [lg_sl, zrf_cat, cat_int, cat_long]) (f_X9_numberAsChild_ok hj _ _ h o (by simp [lv_args, zlk, zrf_cat, cat_int, cat_long]) e)
def f_J9_floorMod_7cf53 (l0 : Int32) (l1 : Int32) (h : Hp) : Option (Int32 × Hp) := ck (¬ (l1) = 0) (bh ((l0) - (l0) / (l1) * (l1)) (fun x2 => if (0) ≤ ((l0) ^^^ (l1)) then (some (x2, h)) else (if (x2) = (0) then (some (x2, h)) else (some ((x2) + (l1), h)))))
theorem f_J9_floorMod_7cf53_ok {G : Gd} {d : Nat} (hj : 1 ≤ d) : ∀ (l0 : Int32) (l1 : Int32) (L : List (Nat × Value)) (h : Hp) (o : (Int32 × Hp)), zlk L 0 = some (.int (l0)) → zlk L 1 = some (.int (l1)) → f_J9_floorMod_7cf53 l0 l1 h = some o → Ev G M_J9_floorMod_7cf53 d 0 L [] h (Ret Y_J9_floorMod_7cf53 (some (.int o.1)) o.2) := by
  intro l0 l1 L h o g0 g1 e
  unfold f_J9_floorMod_7cf53 at e
  refine r_iload_n d_J9_floorMod_7cf53_0 rfl g0 ?_
  refine r_iload_n d_J9_floorMod_7cf53_1 rfl g1 ?_
  replace e := ckd e
  obtain ⟨k1, e⟩ := e
  refine r_irem d_J9_floorMod_7cf53_2 k1 ?_
  replace e := bhd e
  obtain ⟨_, rfl, e⟩ := e
  refine s_istore_n d_J9_floorMod_7cf53_3 rfl (by decide) (fun L g2 gK => ?_)
  replace g0 := gK _ _ (by decide) (Or.inr rfl) g0
  replace g1 := gK _ _ (by decide) (Or.inr rfl) g1
  refine r_iload_n d_J9_floorMod_7cf53_4 rfl g0 ?_
  refine r_iload_n d_J9_floorMod_7cf53_5 rfl g1 ?_
  refine r_ixor d_J9_floorMod_7cf53_6 ?_
  refine r_if_ge d_J9_floorMod_7cf53_7 (tgt := 18) (by decide) (fun c3 => ?_) (fun c3 => ?_)
  · replace e := (if_pos c3).symm.trans e
    refine r_iload_n d_J9_floorMod_7cf53_18 rfl g2 ?_
    cases e
    exact g_iret d_J9_floorMod_7cf53_19 rfl rfl
  · replace e := (if_neg c3).symm.trans e
    refine r_iload_n d_J9_floorMod_7cf53_10 rfl g2 ?_
    refine r_if_eq d_J9_floorMod_7cf53_11 (tgt := 18) (by decide) (fun c4 => ?_) (fun c4 => ?_)
    · replace e := (if_pos c4).symm.trans e
      refine r_iload_n d_J9_floorMod_7cf53_18 rfl g2 ?_
      cases e
      exact g_iret d_J9_floorMod_7cf53_19 rfl rfl
    · replace e := (if_neg c4).symm.trans e
      refine r_iload_n d_J9_floorMod_7cf53_14 rfl g2 ?_
      refine r_iload_n d_J9_floorMod_7cf53_15 rfl g1 ?_
      refine r_iadd d_J9_floorMod_7cf53_16 ?_
      cases e
      exact g_iret d_J9_floorMod_7cf53_17 rfl rfl

theorem c_J9_floorMod_7cf53 {G : Gd} {j : Nat} (hj : 1 ≤ j) {l0 : Int32} {l1 : Int32} {h : Hp} {o : (Int32 × Hp)} (e : f_J9_floorMod_7cf53 l0 l1 h = some o) : Cal G j Y_J9_floorMod_7cf53 [.int (l0), .int (l1)] h (some (.int o.1)) o.2 := Cal.of (n := 0) (I := false) (by decide +kernel) (by decide) (by simp [lg_sl, zrf_cat, cat_int, cat_long]) (f_J9_floorMod_7cf53_ok hj _ _ _ h o (by simp [lv_args, zlk, zrf_cat, cat_int, cat_long]) (by simp [lv_args, zlk, zrf_cat, cat_int, cat_long]) e)
theorem vk_10_74 : Vk "TaskWeave$Workflow" 74 2 2 Y_X1_placeOf := ⟨yk_X1_placeOf, by decide +kernel, by decide +kernel, by decide +kernel, by decide⟩
theorem fk_10_82 : Fk "TaskWeave$Workflow" 82 201 := ⟨by decide, by decide, by decide +kernel⟩
theorem sk_10_85 : Sk "TaskWeave$Workflow" 85 2 Y_J9_floorMod_7cf53 := ⟨yk_J9_floorMod_7cf53, by decide +kernel, by decide +kernel⟩
theorem vk_10_78 : Vk "TaskWeave$Workflow" 78 0 10 Y_X9_parent := ⟨yk_X9_parent, by decide +kernel, by decide +kernel, by decide +kernel, by decide⟩
def f_X9_shardOf (l0 : Nat) (l1 : Int32) (h : Hp) : Option (Int32 × Hp) := ck (isO (h) (l0) 10) (ck (isO (h) (zR (h) 1002 (l0)) 2) ((f_X1_placeOf (zR (h) 1002 (l0)) ((6 : Int32)) (l1) (h)).bind (fun q2 => if (l1) = ((-1 : Int32)) then (ck (isO (q2.2) (l0) 10) ((f_X9_parent (l0) (q2.2)).bind (fun q15 => (f_J9_floorMod_7cf53 (q15.1) ((4 : Int32)) (q15.2)).bind (fun q17 => some (q17.1, q17.2))))) else (if (q2.1) = ((-1 : Int32)) then (ck (isO (q2.2) (l0) 10) (bh (zI (q2.2) 1000 (l0)) (fun x13 => (f_J9_floorMod_7cf53 (x13) ((4 : Int32)) (q2.2)).bind (fun q14 => some (q14.1, q14.2))))) else (ck (isO (q2.2) (l0) 10) (ck (isO (q2.2) (zR (q2.2) 1002 (l0)) 2) (ck (isO (q2.2) (zR (q2.2) 201 (zR (q2.2) 1002 (l0))) 22) (ck (inR (q2.1) (zL (q2.2) (zR (q2.2) 201 (zR (q2.2) 1002 (l0))))) (bh ((zI (q2.2) 1000 (l0)) + (zE (q2.2) (zR (q2.2) 201 (zR (q2.2) 1002 (l0))) (q2.1).toNatClampNeg)) (fun x10 => (f_J9_floorMod_7cf53 (x10) ((4 : Int32)) (q2.2)).bind (fun q11 => some (q11.1, q11.2))))))))))))
theorem f_X9_shardOf_ok {G : Gd} {d : Nat} (hj : 2 ≤ d) : ∀ (l0 : Nat) (l1 : Int32) (L : List (Nat × Value)) (h : Hp) (o : (Int32 × Hp)), zlk L 0 = some (zrf (l0)) → zlk L 1 = some (.int (l1)) → f_X9_shardOf l0 l1 h = some o → Ev G M_X9_shardOf d 0 L [] h (Ret Y_X9_shardOf (some (.int o.1)) o.2) := by
  intro l0 l1 L h o g0 g1 e
  unfold f_X9_shardOf at e
  refine g_ald_n d_X9_shardOf_0 rfl g0 ?_
  replace e := ckd e
  obtain ⟨k1, e⟩ := e
  refine g_getR d_X9_shardOf_1 (f := 1002) k1 fk_10_18 rfl rfl ?_
  refine r_bipush d_X9_shardOf_4 (v := (6 : Int32)) (by decide +kernel) ?_
  refine r_iload_n d_X9_shardOf_6 rfl g1 ?_
  replace e := ckd e
  obtain ⟨k3, e⟩ := e
  replace e := bd e
  obtain ⟨q2, eq2, e⟩ := e
  refine g_callV d_X9_shardOf_7 vk_10_74 (as := [_, _]) rfl k3 rfl (by simp [zrf_cat, cat_int, cat_long]) (j := 1) (by omega) (c_X1_placeOf (by omega) eq2) ?_
  refine s_istore_n d_X9_shardOf_10 rfl (by decide) (fun L g2 gK => ?_)
  replace g0 := gK _ _ (by decide) (Or.inr (zrf_cat _)) g0
  replace g1 := gK _ _ (by decide) (Or.inr rfl) g1
  refine r_iload_n d_X9_shardOf_11 rfl g1 ?_
  refine r_iconst d_X9_shardOf_12 (v := (-1 : Int32)) (by decide +kernel) ?_
  refine r_icmp_ne d_X9_shardOf_13 (tgt := 23) (by decide) (fun c4 => ?_) (fun c4 => ?_)
  · replace e := (if_neg c4).symm.trans e
    refine r_iload_n d_X9_shardOf_23 rfl g2 ?_
    refine r_iconst d_X9_shardOf_24 (v := (-1 : Int32)) (by decide +kernel) ?_
    refine r_icmp_ne d_X9_shardOf_25 (tgt := 35) (by decide) (fun c5 => ?_) (fun c5 => ?_)
    · replace e := (if_neg c5).symm.trans e
      refine g_ald_n d_X9_shardOf_35 rfl g0 ?_
      replace e := ckd e
      obtain ⟨k6, e⟩ := e
      refine g_getI d_X9_shardOf_36 (f := 1000) k6 fk_10_29 rfl rfl ?_
      refine g_ald_n d_X9_shardOf_39 rfl g0 ?_
      refine g_getR d_X9_shardOf_40 (f := 1002) k6 fk_10_18 rfl rfl ?_
      replace e := ckd e
      obtain ⟨k7, e⟩ := e
      refine g_getR d_X9_shardOf_43 (f := 201) k7 fk_10_82 rfl rfl ?_
      refine r_iload_n d_X9_shardOf_46 rfl g2 ?_
      replace e := ckd e
      obtain ⟨k8, e⟩ := e
      replace e := ckd e
      obtain ⟨k9, e⟩ := e
      refine g_iald d_X9_shardOf_47 k8 k9 rfl ?_
      refine r_iadd d_X9_shardOf_48 ?_
      replace e := bhd e
      obtain ⟨_, rfl, e⟩ := e
      refine s_istore_n d_X9_shardOf_49 rfl (by decide) (fun L g3 gK => ?_)
      refine r_iload_n d_X9_shardOf_50 rfl g3 ?_
      refine r_iconst d_X9_shardOf_51 (v := (4 : Int32)) (by decide +kernel) ?_
      replace e := bd e
      obtain ⟨q11, eq11, e⟩ := e
      refine g_callS d_X9_shardOf_52 sk_10_85 (as := [_, _]) rfl rfl (by simp [zrf_cat, cat_int, cat_long]) (j := 1) (by omega) (c_J9_floorMod_7cf53 (by omega) eq11) ?_
      cases e
      exact g_iret d_X9_shardOf_55 rfl rfl
    · replace e := (if_pos c5).symm.trans e
      refine g_ald_n d_X9_shardOf_28 rfl g0 ?_
      replace e := ckd e
      obtain ⟨k12, e⟩ := e
      refine g_getI d_X9_shardOf_29 (f := 1000) k12 fk_10_29 rfl rfl ?_
      refine r_goto d_X9_shardOf_32 (tgt := 49) (by decide) ?_
      replace e := bhd e
      obtain ⟨_, rfl, e⟩ := e
      refine s_istore_n d_X9_shardOf_49 rfl (by decide) (fun L g3 gK => ?_)
      refine r_iload_n d_X9_shardOf_50 rfl g3 ?_
      refine r_iconst d_X9_shardOf_51 (v := (4 : Int32)) (by decide +kernel) ?_
      replace e := bd e
      obtain ⟨q14, eq14, e⟩ := e
      refine g_callS d_X9_shardOf_52 sk_10_85 (as := [_, _]) rfl rfl (by simp [zrf_cat, cat_int, cat_long]) (j := 1) (by omega) (c_J9_floorMod_7cf53 (by omega) eq14) ?_
      cases e
      exact g_iret d_X9_shardOf_55 rfl rfl
  · replace e := (if_pos c4).symm.trans e
    refine g_ald_n d_X9_shardOf_16 rfl g0 ?_
    replace e := ckd e
    obtain ⟨k16, e⟩ := e
    replace e := bd e
    obtain ⟨q15, eq15, e⟩ := e
    refine g_callV d_X9_shardOf_17 vk_10_78 (as := []) rfl k16 rfl (by simp [zrf_cat, cat_int, cat_long]) (j := 1) (by omega) (c_X9_parent (by omega) eq15) ?_
    refine r_goto d_X9_shardOf_20 (tgt := 49) (by decide) ?_
    refine s_istore_n d_X9_shardOf_49 rfl (by decide) (fun L g3 gK => ?_)
    refine r_iload_n d_X9_shardOf_50 rfl g3 ?_
    refine r_iconst d_X9_shardOf_51 (v := (4 : Int32)) (by decide +kernel) ?_
    replace e := bd e
    obtain ⟨q17, eq17, e⟩ := e
    refine g_callS d_X9_shardOf_52 sk_10_85 (as := [_, _]) rfl rfl (by simp [zrf_cat, cat_int, cat_long]) (j := 1) (by omega) (c_J9_floorMod_7cf53 (by omega) eq17) ?_
    cases e
    exact g_iret d_X9_shardOf_55 rfl rfl

theorem c_X9_shardOf {G : Gd} {j : Nat} (hj : 2 ≤ j) {l0 : Nat} {l1 : Int32} {h : Hp} {o : (Int32 × Hp)} (e : f_X9_shardOf l0 l1 h = some o) : Cal G j Y_X9_shardOf [zrf (l0), .int (l1)] h (some (.int o.1)) o.2 := Cal.of (n := 0) (I := false) (by decide +kernel) (by decide) (by simp [lg_sl, zrf_cat, cat_int, cat_long]) (f_X9_shardOf_ok hj _ _ _ h o (by simp [lv_args, zlk, zrf_cat, cat_int, cat_long]) (by simp [lv_args, zlk, zrf_cat, cat_int, cat_long]) e)
theorem fk_10_90 : Fk "TaskWeave$Workflow" 90 900 := ⟨by decide, by decide, by decide +kernel⟩
theorem fk_10_93 : Fk "TaskWeave$Workflow" 93 903 := ⟨by decide, by decide, by decide +kernel⟩
def f_X9_offers (l0 : Nat) (l1 : Int32) (l2 : Int32) (h : Hp) : Option (Int32 × Hp) := ck (isO (h) (l0) 10) (if (zI (h) 1007 (l0)) = (0) then (ck (isO (h) (zR (h) 1003 (l0)) 9) (if (zI (h) 900 (zR (h) 1003 (l0))) = (l1) then (if (zI (h) 904 (zR (h) 1003 (l0))) = (0) then (if (l2) < (zI (h) 903 (zR (h) 1003 (l0))) then (some ((0 : Int32), h)) else (some ((1 : Int32), h))) else (some ((0 : Int32), h))) else (some ((0 : Int32), h)))) else (some ((0 : Int32), h)))
theorem f_X9_offers_ok {G : Gd} {d : Nat} (hj : 1 ≤ d) : ∀ (l0 : Nat) (l1 : Int32) (l2 : Int32) (L : List (Nat × Value)) (h : Hp) (o : (Int32 × Hp)), zlk L 0 = some (zrf (l0)) → zlk L 1 = some (.int (l1)) → zlk L 2 = some (.int (l2)) → f_X9_offers l0 l1 l2 h = some o → Ev G M_X9_offers d 0 L [] h (Ret Y_X9_offers (some (.int o.1)) o.2) := by
  intro l0 l1 l2 L h o g0 g1 g2 e
  unfold f_X9_offers at e
  refine g_ald_n d_X9_offers_0 rfl g0 ?_
  replace e := ckd e
  obtain ⟨k1, e⟩ := e
  refine g_getI d_X9_offers_1 (f := 1007) k1 fk_10_59 rfl rfl ?_
  refine r_if_ne d_X9_offers_4 (tgt := 43) (by decide) (fun c2 => ?_) (fun c2 => ?_)
  · replace e := (if_neg c2).symm.trans e
    refine r_iconst d_X9_offers_43 (v := (0 : Int32)) (by decide +kernel) ?_
    cases e
    exact g_iret d_X9_offers_44 rfl rfl
  · replace e := (if_pos c2).symm.trans e
    refine g_ald_n d_X9_offers_7 rfl g0 ?_
    refine g_getR d_X9_offers_8 (f := 1003) k1 fk_10_25 rfl rfl ?_
    replace e := ckd e
    obtain ⟨k3, e⟩ := e
    refine g_getI d_X9_offers_11 (f := 900) k3 fk_10_90 rfl rfl ?_
    refine r_iload_n d_X9_offers_14 rfl g1 ?_
    refine r_icmp_ne d_X9_offers_15 (tgt := 43) (by decide) (fun c4 => ?_) (fun c4 => ?_)
    · replace e := (if_neg c4).symm.trans e
      refine r_iconst d_X9_offers_43 (v := (0 : Int32)) (by decide +kernel) ?_
      cases e
      exact g_iret d_X9_offers_44 rfl rfl
    · replace e := (if_pos c4).symm.trans e
      refine g_ald_n d_X9_offers_18 rfl g0 ?_
      refine g_getR d_X9_offers_19 (f := 1003) k1 fk_10_25 rfl rfl ?_
      refine g_getI d_X9_offers_22 (f := 904) k3 fk_10_50 rfl rfl ?_
      refine r_if_ne d_X9_offers_25 (tgt := 43) (by decide) (fun c5 => ?_) (fun c5 => ?_)
      · replace e := (if_neg c5).symm.trans e
        refine r_iconst d_X9_offers_43 (v := (0 : Int32)) (by decide +kernel) ?_
        cases e
        exact g_iret d_X9_offers_44 rfl rfl
      · replace e := (if_pos c5).symm.trans e
        refine g_ald_n d_X9_offers_28 rfl g0 ?_
        refine g_getR d_X9_offers_29 (f := 1003) k1 fk_10_25 rfl rfl ?_
        refine g_getI d_X9_offers_32 (f := 903) k3 fk_10_93 rfl rfl ?_
        refine r_iload_n d_X9_offers_35 rfl g2 ?_
        refine r_icmp_gt d_X9_offers_36 (tgt := 43) (by decide) (fun c6 => ?_) (fun c6 => ?_)
        · replace e := (if_pos c6).symm.trans e
          refine r_iconst d_X9_offers_43 (v := (0 : Int32)) (by decide +kernel) ?_
          cases e
          exact g_iret d_X9_offers_44 rfl rfl
        · replace e := (if_neg c6).symm.trans e
          refine r_iconst d_X9_offers_39 (v := (1 : Int32)) (by decide +kernel) ?_
          refine r_goto d_X9_offers_40 (tgt := 44) (by decide) ?_
          cases e
          exact g_iret d_X9_offers_44 rfl rfl

theorem c_X9_offers {G : Gd} {j : Nat} (hj : 1 ≤ j) {l0 : Nat} {l1 : Int32} {l2 : Int32} {h : Hp} {o : (Int32 × Hp)} (e : f_X9_offers l0 l1 l2 h = some o) : Cal G j Y_X9_offers [zrf (l0), .int (l1), .int (l2)] h (some (.int o.1)) o.2 := Cal.of (n := 0) (I := false) (by decide +kernel) (by decide) (by simp [lg_sl, zrf_cat, cat_int, cat_long]) (f_X9_offers_ok hj _ _ _ _ h o (by simp [lv_args, zlk, zrf_cat, cat_int, cat_long]) (by simp [lv_args, zlk, zrf_cat, cat_int, cat_long]) (by simp [lv_args, zlk, zrf_cat, cat_int, cat_long]) e)
def f_X9_hasDeadline (l0 : Nat) (h : Hp) : Option (Int32 × Hp) := ck (isO (h) (l0) 10) (if (zI (h) 1007 (l0)) = ((1 : Int32)) then (some ((1 : Int32), h)) else (if (zI (h) 1007 (l0)) = (0) then (ck (isO (h) (zR (h) 1003 (l0)) 9) (if (zI (h) 904 (zR (h) 1003 (l0))) ≤ (0) then (some ((0 : Int32), h)) else (some ((1 : Int32), h)))) else (some ((0 : Int32), h))))
theorem f_X9_hasDeadline_ok {G : Gd} {d : Nat} (hj : 1 ≤ d) : ∀ (l0 : Nat) (L : List (Nat × Value)) (h : Hp) (o : (Int32 × Hp)), zlk L 0 = some (zrf (l0)) → f_X9_hasDeadline l0 h = some o → Ev G M_X9_hasDeadline d 0 L [] h (Ret Y_X9_hasDeadline (some (.int o.1)) o.2) := by
  intro l0 L h o g0 e
  unfold f_X9_hasDeadline at e
  refine g_ald_n d_X9_hasDeadline_0 rfl g0 ?_
  replace e := ckd e
  obtain ⟨k1, e⟩ := e
  refine g_getI d_X9_hasDeadline_1 (f := 1007) k1 fk_10_59 rfl rfl ?_
  refine r_iconst d_X9_hasDeadline_4 (v := (1 : Int32)) (by decide +kernel) ?_
  refine r_icmp_eq d_X9_hasDeadline_5 (tgt := 25) (by decide) (fun c2 => ?_) (fun c2 => ?_)
  · replace e := (if_pos c2).symm.trans e
    refine r_iconst d_X9_hasDeadline_25 (v := (1 : Int32)) (by decide +kernel) ?_
    refine r_goto d_X9_hasDeadline_26 (tgt := 30) (by decide) ?_
    cases e
    exact g_iret d_X9_hasDeadline_30 rfl rfl
  · replace e := (if_neg c2).symm.trans e
    refine g_ald_n d_X9_hasDeadline_8 rfl g0 ?_
    refine g_getI d_X9_hasDeadline_9 (f := 1007) k1 fk_10_59 rfl rfl ?_
    refine r_if_ne d_X9_hasDeadline_12 (tgt := 29) (by decide) (fun c3 => ?_) (fun c3 => ?_)
    · replace e := (if_neg c3).symm.trans e
      refine r_iconst d_X9_hasDeadline_29 (v := (0 : Int32)) (by decide +kernel) ?_
      cases e
      exact g_iret d_X9_hasDeadline_30 rfl rfl
    · replace e := (if_pos c3).symm.trans e
      refine g_ald_n d_X9_hasDeadline_15 rfl g0 ?_
      refine g_getR d_X9_hasDeadline_16 (f := 1003) k1 fk_10_25 rfl rfl ?_
      replace e := ckd e
      obtain ⟨k4, e⟩ := e
      refine g_getI d_X9_hasDeadline_19 (f := 904) k4 fk_10_50 rfl rfl ?_
      refine r_if_le d_X9_hasDeadline_22 (tgt := 29) (by decide) (fun c5 => ?_) (fun c5 => ?_)
      · replace e := (if_pos c5).symm.trans e
        refine r_iconst d_X9_hasDeadline_29 (v := (0 : Int32)) (by decide +kernel) ?_
        cases e
        exact g_iret d_X9_hasDeadline_30 rfl rfl
      · replace e := (if_neg c5).symm.trans e
        refine r_iconst d_X9_hasDeadline_25 (v := (1 : Int32)) (by decide +kernel) ?_
        refine r_goto d_X9_hasDeadline_26 (tgt := 30) (by decide) ?_
        cases e
        exact g_iret d_X9_hasDeadline_30 rfl rfl

theorem c_X9_hasDeadline {G : Gd} {j : Nat} (hj : 1 ≤ j) {l0 : Nat} {h : Hp} {o : (Int32 × Hp)} (e : f_X9_hasDeadline l0 h = some o) : Cal G j Y_X9_hasDeadline [zrf (l0)] h (some (.int o.1)) o.2 := Cal.of (n := 0) (I := false) (by decide +kernel) (by decide) (by simp [lg_sl, zrf_cat, cat_int, cat_long]) (f_X9_hasDeadline_ok hj _ _ h o (by simp [lv_args, zlk, zrf_cat, cat_int, cat_long]) e)
theorem fk_10_99 : Fk "TaskWeave$Workflow" 99 905 := ⟨by decide, by decide, by decide +kernel⟩
theorem fk_10_96 : Fk "TaskWeave$Workflow" 96 1008 := ⟨by decide, by decide, by decide +kernel⟩
def f_X9_deadline (l0 : Nat) (h : Hp) : Option (Int32 × Hp) := ck (isO (h) (l0) 10) (if (zI (h) 1007 (l0)) = ((1 : Int32)) then (some (zI (h) 1008 (l0), h)) else (ck (isO (h) (zR (h) 1003 (l0)) 9) (some (zI (h) 905 (zR (h) 1003 (l0)), h))))
theorem f_X9_deadline_ok {G : Gd} {d : Nat} (hj : 1 ≤ d) : ∀ (l0 : Nat) (L : List (Nat × Value)) (h : Hp) (o : (Int32 × Hp)), zlk L 0 = some (zrf (l0)) → f_X9_deadline l0 h = some o → Ev G M_X9_deadline d 0 L [] h (Ret Y_X9_deadline (some (.int o.1)) o.2) := by
  intro l0 L h o g0 e
  unfold f_X9_deadline at e
  refine g_ald_n d_X9_deadline_0 rfl g0 ?_
  replace e := ckd e
  obtain ⟨k1, e⟩ := e
  refine g_getI d_X9_deadline_1 (f := 1007) k1 fk_10_59 rfl rfl ?_
  refine r_iconst d_X9_deadline_4 (v := (1 : Int32)) (by decide +kernel) ?_
  refine r_icmp_ne d_X9_deadline_5 (tgt := 15) (by decide) (fun c2 => ?_) (fun c2 => ?_)
  · replace e := (if_neg c2).symm.trans e
    refine g_ald_n d_X9_deadline_15 rfl g0 ?_
    refine g_getR d_X9_deadline_16 (f := 1003) k1 fk_10_25 rfl rfl ?_
    replace e := ckd e
    obtain ⟨k3, e⟩ := e
    refine g_getI d_X9_deadline_19 (f := 905) k3 fk_10_99 rfl rfl ?_
    cases e
    exact g_iret d_X9_deadline_22 rfl rfl
  · replace e := (if_pos c2).symm.trans e
    refine g_ald_n d_X9_deadline_8 rfl g0 ?_
    refine g_getI d_X9_deadline_9 (f := 1008) k1 fk_10_96 rfl rfl ?_
    refine r_goto d_X9_deadline_12 (tgt := 22) (by decide) ?_
    cases e
    exact g_iret d_X9_deadline_22 rfl rfl

theorem c_X9_deadline {G : Gd} {j : Nat} (hj : 1 ≤ j) {l0 : Nat} {h : Hp} {o : (Int32 × Hp)} (e : f_X9_deadline l0 h = some o) : Cal G j Y_X9_deadline [zrf (l0)] h (some (.int o.1)) o.2 := Cal.of (n := 0) (I := false) (by decide +kernel) (by decide) (by simp [lg_sl, zrf_cat, cat_int, cat_long]) (f_X9_deadline_ok hj _ _ h o (by simp [lv_args, zlk, zrf_cat, cat_int, cat_long]) e)
def f_X9_isMessage (l0 : Nat) (l1 : Int32) (h : Hp) : Option (Int32 × Hp) := if (l1) = ((6 : Int32)) then (some ((1 : Int32), h)) else (if (l1) = ((9 : Int32)) then (some ((1 : Int32), h)) else (if (l1) < ((10 : Int32)) then (some ((0 : Int32), h)) else (ck (isO (h) (l0) 10) (ck (isO (h) (zR (h) 1002 (l0)) 2) (ck (isO (h) (zR (h) 203 (zR (h) 1002 (l0))) 22) (ck (inR ((0 : Int32)) (zL (h) (zR (h) 203 (zR (h) 1002 (l0))))) (if (0) ≤ (zE (h) (zR (h) 203 (zR (h) 1002 (l0))) ((0 : Int32)).toNatClampNeg) then (some ((0 : Int32), h)) else (some ((1 : Int32), h)))))))))
theorem f_X9_isMessage_ok {G : Gd} {d : Nat} (hj : 1 ≤ d) : ∀ (l0 : Nat) (l1 : Int32) (L : List (Nat × Value)) (h : Hp) (o : (Int32 × Hp)), zlk L 0 = some (zrf (l0)) → zlk L 1 = some (.int (l1)) → f_X9_isMessage l0 l1 h = some o → Ev G M_X9_isMessage d 0 L [] h (Ret Y_X9_isMessage (some (.int o.1)) o.2) := by
  intro l0 l1 L h o g0 g1 e
  unfold f_X9_isMessage at e
  refine r_iload_n d_X9_isMessage_0 rfl g1 ?_
  refine r_bipush d_X9_isMessage_1 (v := (6 : Int32)) (by decide +kernel) ?_
  refine r_icmp_eq d_X9_isMessage_3 (tgt := 30) (by decide) (fun c1 => ?_) (fun c1 => ?_)
  · replace e := (if_pos c1).symm.trans e
    refine r_iconst d_X9_isMessage_30 (v := (1 : Int32)) (by decide +kernel) ?_
    refine r_goto d_X9_isMessage_31 (tgt := 35) (by decide) ?_
    cases e
    exact g_iret d_X9_isMessage_35 rfl rfl
  · replace e := (if_neg c1).symm.trans e
    refine r_iload_n d_X9_isMessage_6 rfl g1 ?_
    refine r_bipush d_X9_isMessage_7 (v := (9 : Int32)) (by decide +kernel) ?_
    refine r_icmp_eq d_X9_isMessage_9 (tgt := 30) (by decide) (fun c2 => ?_) (fun c2 => ?_)
    · replace e := (if_pos c2).symm.trans e
      refine r_iconst d_X9_isMessage_30 (v := (1 : Int32)) (by decide +kernel) ?_
      refine r_goto d_X9_isMessage_31 (tgt := 35) (by decide) ?_
      cases e
      exact g_iret d_X9_isMessage_35 rfl rfl
    · replace e := (if_neg c2).symm.trans e
      refine r_iload_n d_X9_isMessage_12 rfl g1 ?_
      refine r_bipush d_X9_isMessage_13 (v := (10 : Int32)) (by decide +kernel) ?_
      refine r_icmp_lt d_X9_isMessage_15 (tgt := 34) (by decide) (fun c3 => ?_) (fun c3 => ?_)
      · replace e := (if_pos c3).symm.trans e
        refine r_iconst d_X9_isMessage_34 (v := (0 : Int32)) (by decide +kernel) ?_
        cases e
        exact g_iret d_X9_isMessage_35 rfl rfl
      · replace e := (if_neg c3).symm.trans e
        refine g_ald_n d_X9_isMessage_18 rfl g0 ?_
        replace e := ckd e
        obtain ⟨k4, e⟩ := e
        refine g_getR d_X9_isMessage_19 (f := 1002) k4 fk_10_18 rfl rfl ?_
        replace e := ckd e
        obtain ⟨k5, e⟩ := e
        refine g_getR d_X9_isMessage_22 (f := 203) k5 fk_10_71 rfl rfl ?_
        refine r_iconst d_X9_isMessage_25 (v := (0 : Int32)) (by decide +kernel) ?_
        replace e := ckd e
        obtain ⟨k6, e⟩ := e
        replace e := ckd e
        obtain ⟨k7, e⟩ := e
        refine g_iald d_X9_isMessage_26 k6 k7 rfl ?_
        refine r_if_ge d_X9_isMessage_27 (tgt := 34) (by decide) (fun c8 => ?_) (fun c8 => ?_)
        · replace e := (if_pos c8).symm.trans e
          refine r_iconst d_X9_isMessage_34 (v := (0 : Int32)) (by decide +kernel) ?_
          cases e
          exact g_iret d_X9_isMessage_35 rfl rfl
        · replace e := (if_neg c8).symm.trans e
          refine r_iconst d_X9_isMessage_30 (v := (1 : Int32)) (by decide +kernel) ?_
          refine r_goto d_X9_isMessage_31 (tgt := 35) (by decide) ?_
          cases e
          exact g_iret d_X9_isMessage_35 rfl rfl

theorem c_X9_isMessage {G : Gd} {j : Nat} (hj : 1 ≤ j) {l0 : Nat} {l1 : Int32} {h : Hp} {o : (Int32 × Hp)} (e : f_X9_isMessage l0 l1 h = some o) : Cal G j Y_X9_isMessage [zrf (l0), .int (l1)] h (some (.int o.1)) o.2 := Cal.of (n := 0) (I := false) (by decide +kernel) (by decide) (by simp [lg_sl, zrf_cat, cat_int, cat_long]) (f_X9_isMessage_ok hj _ _ _ h o (by simp [lv_args, zlk, zrf_cat, cat_int, cat_long]) (by simp [lv_args, zlk, zrf_cat, cat_int, cat_long]) e)
def f_X9_leave (l0 : Nat) (l1 : Int32) (h : Hp) : Option Hp := ck (isO (h) (l0) 10) (bh (pI (h) 1005 (l0) (l1)) (fun h2 => bh (pI (h2) 1006 (l0) ((zI (h2) 1006 (l0)) + ((1 : Int32)))) (fun h3 => some (h3))))
theorem f_X9_leave_ok {G : Gd} {d : Nat} (hj : 1 ≤ d) : ∀ (l0 : Nat) (l1 : Int32) (L : List (Nat × Value)) (h : Hp) (o : Hp), zlk L 0 = some (zrf (l0)) → zlk L 1 = some (.int (l1)) → f_X9_leave l0 l1 h = some o → Ev G M_X9_leave d 0 L [] h (Ret Y_X9_leave none o) := by
  intro l0 l1 L h o g0 g1 e
  unfold f_X9_leave at e
  refine g_ald_n d_X9_leave_0 rfl g0 ?_
  refine r_iload_n d_X9_leave_1 rfl g1 ?_
  replace e := ckd e
  obtain ⟨k1, e⟩ := e
  refine g_putI d_X9_leave_2 (f := 1005) k1 fk_10_53 rfl (Or.inl rfl) ⟨rfl, rfl⟩ ?_
  replace e := bhd e
  obtain ⟨_, rfl, e⟩ := e
  refine g_ald_n d_X9_leave_5 rfl g0 ?_
  refine r_dup d_X9_leave_6 (zrf_cat _) ?_
  refine g_getI d_X9_leave_7 (f := 1006) (tO_pI k1) fk_10_56 rfl rfl ?_
  refine r_iconst d_X9_leave_10 (v := (1 : Int32)) (by decide +kernel) ?_
  refine r_iadd d_X9_leave_11 ?_
  refine g_putI d_X9_leave_12 (f := 1006) (tO_pI k1) fk_10_56 rfl (Or.inl rfl) ⟨rfl, rfl⟩ ?_
  replace e := bhd e
  obtain ⟨_, rfl, e⟩ := e
  cases e
  exact g_vret d_X9_leave_15 rfl

theorem c_X9_leave {G : Gd} {j : Nat} (hj : 1 ≤ j) {l0 : Nat} {l1 : Int32} {h : Hp} {o : Hp} (e : f_X9_leave l0 l1 h = some o) : Cal G j Y_X9_leave [zrf (l0), .int (l1)] h none o := Cal.of (n := 0) (I := false) (by decide +kernel) (by decide) (by simp [lg_sl, zrf_cat, cat_int, cat_long]) (f_X9_leave_ok hj _ _ _ h o (by simp [lv_args, zlk, zrf_cat, cat_int, cat_long]) (by simp [lv_args, zlk, zrf_cat, cat_int, cat_long]) e)
def f_X9_reckon (l0 : Int32) (l1 : Int32) (l2 : Int32) (h : Hp) : Option (Int32 × Hp) := if (l0) = (42 : Int32) then (some ((l1) * (l2), h)) else (if (l0) = (45 : Int32) then (some ((l1) - (l2), h)) else (if (l0) = (60 : Int32) then (if (l2) ≤ (l1) then (some ((0 : Int32), h)) else (some ((1 : Int32), h))) else (if (l0) = (61 : Int32) then (if (l1) = (l2) then (some ((1 : Int32), h)) else (some ((0 : Int32), h))) else (some ((l1) + (l2), h)))))
theorem f_X9_reckon_ok {G : Gd} {d : Nat} (hj : 1 ≤ d) : ∀ (l0 : Int32) (l1 : Int32) (l2 : Int32) (L : List (Nat × Value)) (h : Hp) (o : (Int32 × Hp)), zlk L 0 = some (.int (l0)) → zlk L 1 = some (.int (l1)) → zlk L 2 = some (.int (l2)) → f_X9_reckon l0 l1 l2 h = some o → Ev G M_X9_reckon d 0 L [] h (Ret Y_X9_reckon (some (.int o.1)) o.2) := by
  intro l0 l1 l2 L h o g0 g1 g2 e
  unfold f_X9_reckon at e
  refine r_iload_n d_X9_reckon_0 rfl g0 ?_
  rcases ite_or e with ⟨c1, e⟩ | ⟨c1, e⟩
  · refine r_lookup d_X9_reckon_1 (off := 47) (tgt := 48) (by decide +kernel) (by rw [c1] <;> rfl) (by decide) ?_
    refine r_iload_n d_X9_reckon_48 rfl g1 ?_
    refine r_iload_n d_X9_reckon_49 rfl g2 ?_
    refine r_imul d_X9_reckon_50 ?_
    cases e
    exact g_iret d_X9_reckon_51 rfl rfl
  · rcases ite_or e with ⟨c2, e⟩ | ⟨c2, e⟩
    · refine r_lookup d_X9_reckon_1 (off := 43) (tgt := 44) (by decide +kernel) (by rw [c2] <;> rfl) (by decide) ?_
      refine r_iload_n d_X9_reckon_44 rfl g1 ?_
      refine r_iload_n d_X9_reckon_45 rfl g2 ?_
      refine r_isub d_X9_reckon_46 ?_
      cases e
      exact g_iret d_X9_reckon_47 rfl rfl
    · rcases ite_or e with ⟨c3, e⟩ | ⟨c3, e⟩
      · refine r_lookup d_X9_reckon_1 (off := 51) (tgt := 52) (by decide +kernel) (by rw [c3] <;> rfl) (by decide) ?_
        refine r_iload_n d_X9_reckon_52 rfl g1 ?_
        refine r_iload_n d_X9_reckon_53 rfl g2 ?_
        refine r_icmp_ge d_X9_reckon_54 (tgt := 61) (by decide) (fun c4 => ?_) (fun c4 => ?_)
        · replace e := (if_pos c4).symm.trans e
          refine r_iconst d_X9_reckon_61 (v := (0 : Int32)) (by decide +kernel) ?_
          cases e
          exact g_iret d_X9_reckon_62 rfl rfl
        · replace e := (if_neg c4).symm.trans e
          refine r_iconst d_X9_reckon_57 (v := (1 : Int32)) (by decide +kernel) ?_
          refine r_goto d_X9_reckon_58 (tgt := 62) (by decide) ?_
          cases e
          exact g_iret d_X9_reckon_62 rfl rfl
      · rcases ite_or e with ⟨c5, e⟩ | ⟨c5, e⟩
        · refine r_lookup d_X9_reckon_1 (off := 62) (tgt := 63) (by decide +kernel) (by rw [c5] <;> rfl) (by decide) ?_
          refine r_iload_n d_X9_reckon_63 rfl g1 ?_
          refine r_iload_n d_X9_reckon_64 rfl g2 ?_
          refine r_icmp_ne d_X9_reckon_65 (tgt := 72) (by decide) (fun c6 => ?_) (fun c6 => ?_)
          · replace e := (if_neg c6).symm.trans e
            refine r_iconst d_X9_reckon_72 (v := (0 : Int32)) (by decide +kernel) ?_
            cases e
            exact g_iret d_X9_reckon_73 rfl rfl
          · replace e := (if_pos c6).symm.trans e
            refine r_iconst d_X9_reckon_68 (v := (1 : Int32)) (by decide +kernel) ?_
            refine r_goto d_X9_reckon_69 (tgt := 73) (by decide) ?_
            cases e
            exact g_iret d_X9_reckon_73 rfl rfl
        · refine r_lookup d_X9_reckon_1 (off := 73) (tgt := 74) (by decide +kernel) (by rw [lv_osw c1 (by decide +kernel), lv_osw c2 (by decide +kernel), lv_osw c3 (by decide +kernel), lv_osw c5 (by decide +kernel)] <;> rfl) (by decide) ?_
          refine r_iload_n d_X9_reckon_74 rfl g1 ?_
          refine r_iload_n d_X9_reckon_75 rfl g2 ?_
          refine r_iadd d_X9_reckon_76 ?_
          cases e
          exact g_iret d_X9_reckon_77 rfl rfl

theorem c_X9_reckon {G : Gd} {j : Nat} (hj : 1 ≤ j) {l0 : Int32} {l1 : Int32} {l2 : Int32} {h : Hp} {o : (Int32 × Hp)} (e : f_X9_reckon l0 l1 l2 h = some o) : Cal G j Y_X9_reckon [.int (l0), .int (l1), .int (l2)] h (some (.int o.1)) o.2 := Cal.of (n := 0) (I := false) (by decide +kernel) (by decide) (by simp [lg_sl, zrf_cat, cat_int, cat_long]) (f_X9_reckon_ok hj _ _ _ _ h o (by simp [lv_args, zlk, zrf_cat, cat_int, cat_long]) (by simp [lv_args, zlk, zrf_cat, cat_int, cat_long]) (by simp [lv_args, zlk, zrf_cat, cat_int, cat_long]) e)
def f_X9_rest (l0 : Nat) (l1 : Int32) (l2 : Int32) (h : Hp) : Option Hp := ck (isO (h) (l0) 10) (bh (pI (h) 1007 (l0) (l1)) (fun h2 => bh (pI (h2) 1008 (l0) (l2)) (fun h3 => some (h3))))
theorem f_X9_rest_ok {G : Gd} {d : Nat} (hj : 1 ≤ d) : ∀ (l0 : Nat) (l1 : Int32) (l2 : Int32) (L : List (Nat × Value)) (h : Hp) (o : Hp), zlk L 0 = some (zrf (l0)) → zlk L 1 = some (.int (l1)) → zlk L 2 = some (.int (l2)) → f_X9_rest l0 l1 l2 h = some o → Ev G M_X9_rest d 0 L [] h (Ret Y_X9_rest none o) := by
  intro l0 l1 l2 L h o g0 g1 g2 e
  unfold f_X9_rest at e
  refine g_ald_n d_X9_rest_0 rfl g0 ?_
  refine r_iload_n d_X9_rest_1 rfl g1 ?_
  replace e := ckd e
  obtain ⟨k1, e⟩ := e
  refine g_putI d_X9_rest_2 (f := 1007) k1 fk_10_59 rfl (Or.inl rfl) ⟨rfl, rfl⟩ ?_
  replace e := bhd e
  obtain ⟨_, rfl, e⟩ := e
  refine g_ald_n d_X9_rest_5 rfl g0 ?_
  refine r_iload_n d_X9_rest_6 rfl g2 ?_
  refine g_putI d_X9_rest_7 (f := 1008) (tO_pI k1) fk_10_96 rfl (Or.inl rfl) ⟨rfl, rfl⟩ ?_
  replace e := bhd e
  obtain ⟨_, rfl, e⟩ := e
  cases e
  exact g_vret d_X9_rest_10 rfl

theorem c_X9_rest {G : Gd} {j : Nat} (hj : 1 ≤ j) {l0 : Nat} {l1 : Int32} {l2 : Int32} {h : Hp} {o : Hp} (e : f_X9_rest l0 l1 l2 h = some o) : Cal G j Y_X9_rest [zrf (l0), .int (l1), .int (l2)] h none o := Cal.of (n := 0) (I := false) (by decide +kernel) (by decide) (by simp [lg_sl, zrf_cat, cat_int, cat_long]) (f_X9_rest_ok hj _ _ _ _ h o (by simp [lv_args, zlk, zrf_cat, cat_int, cat_long]) (by simp [lv_args, zlk, zrf_cat, cat_int, cat_long]) (by simp [lv_args, zlk, zrf_cat, cat_int, cat_long]) e)
theorem fk_10_109 : Fk "TaskWeave$Workflow" 109 500 := ⟨by decide, by decide, by decide +kernel⟩
theorem fk_10_121 : Fk "TaskWeave$Workflow" 121 501 := ⟨by decide, by decide, by decide +kernel⟩
def f_X9_set_44 (l0 : Nat) (h : Hp) : Option Hp := ck (isO (h) (l0) 10) (bh (pI (h) 1005 (l0) ((zI (h) 1005 (l0)) + ((1 : Int32)))) (fun h11 => bh (pI (h11) 1006 (l0) ((zI (h11) 1006 (l0)) + ((1 : Int32)))) (fun h12 => some (h12))))
theorem f_X9_set_44_ok {G : Gd} {d : Nat} (hj : 1 ≤ d) : ∀ (l0 : Nat) (L : List (Nat × Value)) (h : Hp) (o : Hp), zlk L 0 = some (zrf (l0)) → f_X9_set_44 l0 h = some o → Ev G M_X9_set d 44 L [] h (Ret Y_X9_set none o) := by
  intro l0 L h o g0 e
  unfold f_X9_set_44 at e
  refine g_ald_n d_X9_set_44 rfl g0 ?_
  refine r_dup d_X9_set_45 (zrf_cat _) ?_
  replace e := ckd e
  obtain ⟨k10, e⟩ := e
  refine g_getI d_X9_set_46 (f := 1005) k10 fk_10_53 rfl rfl ?_
  refine r_iconst d_X9_set_49 (v := (1 : Int32)) (by decide +kernel) ?_
  refine r_iadd d_X9_set_50 ?_
  refine g_putI d_X9_set_51 (f := 1005) k10 fk_10_53 rfl (Or.inl rfl) ⟨rfl, rfl⟩ ?_
  replace e := bhd e
  obtain ⟨_, rfl, e⟩ := e
  refine g_ald_n d_X9_set_54 rfl g0 ?_
  refine r_dup d_X9_set_55 (zrf_cat _) ?_
  refine g_getI d_X9_set_56 (f := 1006) (tO_pI k10) fk_10_56 rfl rfl ?_
  refine r_iconst d_X9_set_59 (v := (1 : Int32)) (by decide +kernel) ?_
  refine r_iadd d_X9_set_60 ?_
  refine g_putI d_X9_set_61 (f := 1006) (tO_pI k10) fk_10_56 rfl (Or.inl rfl) ⟨rfl, rfl⟩ ?_
  replace e := bhd e
  obtain ⟨_, rfl, e⟩ := e
  cases e
  exact g_vret d_X9_set_64 rfl

def f_X9_set (l0 : Nat) (l1 : Int32) (h : Hp) : Option Hp := ck (isO (h) (l0) 10) (if (zR (h) 1004 (l0)) = 0 then (f_X9_set_44 (l0) (h)) else (ck (isO (h) (zR (h) 1004 (l0)) 5) (if (zI (h) 500 (zR (h) 1004 (l0))) ≤ (zI (h) 1005 (l0)) then (f_X9_set_44 (l0) (h)) else (ck (isO (h) (zR (h) 501 (zR (h) 1004 (l0))) 22) (ck (inR (((zI (h) 1005 (l0)) * ((8 : Int32))) + ((1 : Int32))) (zL (h) (zR (h) 501 (zR (h) 1004 (l0))))) (ck (isO (h) (zR (h) 1001 (l0)) 22) (ck (inR (zE (h) (zR (h) 501 (zR (h) 1004 (l0))) (((zI (h) 1005 (l0)) * ((8 : Int32))) + ((1 : Int32))).toNatClampNeg) (zL (h) (zR (h) 1001 (l0)))) (bh (pE (h) (zR (h) 1001 (l0)) (zE (h) (zR (h) 501 (zR (h) 1004 (l0))) (((zI (h) 1005 (l0)) * ((8 : Int32))) + ((1 : Int32))).toNatClampNeg).toNatClampNeg (l1)) (fun h9 => f_X9_set_44 (l0) (h9))))))))))
theorem f_X9_set_ok {G : Gd} {d : Nat} (hj : 1 ≤ d) : ∀ (l0 : Nat) (l1 : Int32) (L : List (Nat × Value)) (h : Hp) (o : Hp), zlk L 0 = some (zrf (l0)) → zlk L 1 = some (.int (l1)) → f_X9_set l0 l1 h = some o → Ev G M_X9_set d 0 L [] h (Ret Y_X9_set none o) := by
  intro l0 l1 L h o g0 g1 e
  unfold f_X9_set at e
  refine g_ald_n d_X9_set_0 rfl g0 ?_
  replace e := ckd e
  obtain ⟨k1, e⟩ := e
  refine g_getR d_X9_set_1 (f := 1004) k1 fk_10_33 rfl rfl ?_
  refine g_ifnull d_X9_set_4 (tgt := 44) (by decide) (fun c2 => ?_) (fun c2 => ?_)
  · replace e := (if_pos c2).symm.trans e
    exact f_X9_set_44_ok hj _ _ _ _ g0 e
  · replace e := (if_neg c2).symm.trans e
    refine g_ald_n d_X9_set_7 rfl g0 ?_
    refine g_getI d_X9_set_8 (f := 1005) k1 fk_10_53 rfl rfl ?_
    refine g_ald_n d_X9_set_11 rfl g0 ?_
    refine g_getR d_X9_set_12 (f := 1004) k1 fk_10_33 rfl rfl ?_
    replace e := ckd e
    obtain ⟨k3, e⟩ := e
    refine g_getI d_X9_set_15 (f := 500) k3 fk_10_109 rfl rfl ?_
    refine r_icmp_ge d_X9_set_18 (tgt := 44) (by decide) (fun c4 => ?_) (fun c4 => ?_)
    · replace e := (if_pos c4).symm.trans e
      exact f_X9_set_44_ok hj _ _ _ _ g0 e
    · replace e := (if_neg c4).symm.trans e
      refine g_ald_n d_X9_set_21 rfl g0 ?_
      refine g_getR d_X9_set_22 (f := 1001) k1 fk_10_9 rfl rfl ?_
      refine g_ald_n d_X9_set_25 rfl g0 ?_
      refine g_getR d_X9_set_26 (f := 1004) k1 fk_10_33 rfl rfl ?_
      refine g_getR d_X9_set_29 (f := 501) k3 fk_10_121 rfl rfl ?_
      refine g_ald_n d_X9_set_32 rfl g0 ?_
      refine g_getI d_X9_set_33 (f := 1005) k1 fk_10_53 rfl rfl ?_
      refine r_bipush d_X9_set_36 (v := (8 : Int32)) (by decide +kernel) ?_
      refine r_imul d_X9_set_38 ?_
      refine r_iconst d_X9_set_39 (v := (1 : Int32)) (by decide +kernel) ?_
      refine r_iadd d_X9_set_40 ?_
      replace e := ckd e
      obtain ⟨k5, e⟩ := e
      replace e := ckd e
      obtain ⟨k6, e⟩ := e
      refine g_iald d_X9_set_41 k5 k6 rfl ?_
      refine r_iload_n d_X9_set_42 rfl g1 ?_
      replace e := ckd e
      obtain ⟨k7, e⟩ := e
      replace e := ckd e
      obtain ⟨k8, e⟩ := e
      refine g_iast d_X9_set_43 k7 k8 ?_
      replace e := bhd e
      obtain ⟨_, rfl, e⟩ := e
      exact f_X9_set_44_ok hj _ _ _ _ g0 e

theorem c_X9_set {G : Gd} {j : Nat} (hj : 1 ≤ j) {l0 : Nat} {l1 : Int32} {h : Hp} {o : Hp} (e : f_X9_set l0 l1 h = some o) : Cal G j Y_X9_set [zrf (l0), .int (l1)] h none o := Cal.of (n := 0) (I := false) (by decide +kernel) (by decide) (by simp [lg_sl, zrf_cat, cat_int, cat_long]) (f_X9_set_ok hj _ _ _ h o (by simp [lv_args, zlk, zrf_cat, cat_int, cat_long]) (by simp [lv_args, zlk, zrf_cat, cat_int, cat_long]) e)
def f_X9_value (l0 : Nat) (l1 : Int32) (h : Hp) : Option (Int32 × Hp) := ck (isO (h) (l0) 10) (ck (isO (h) (zR (h) 1004 (l0)) 5) (ck (isO (h) (zR (h) 501 (zR (h) 1004 (l0))) 22) (ck (inR (l1) (zL (h) (zR (h) 501 (zR (h) 1004 (l0))))) (bh (zE (h) (zR (h) 501 (zR (h) 1004 (l0))) (l1).toNatClampNeg) (fun x5 => if (x5) = ((-1 : Int32)) then (ck (inR ((l1) + ((1 : Int32))) (zL (h) (zR (h) 501 (zR (h) 1004 (l0))))) (some (zE (h) (zR (h) 501 (zR (h) 1004 (l0))) ((l1) + ((1 : Int32))).toNatClampNeg, h))) else (ck (isO (h) (zR (h) 1001 (l0)) 22) (ck (inR (x5) (zL (h) (zR (h) 1001 (l0)))) (some (zE (h) (zR (h) 1001 (l0)) (x5).toNatClampNeg, h)))))))))
theorem f_X9_value_ok {G : Gd} {d : Nat} (hj : 1 ≤ d) : ∀ (l0 : Nat) (l1 : Int32) (L : List (Nat × Value)) (h : Hp) (o : (Int32 × Hp)), zlk L 0 = some (zrf (l0)) → zlk L 1 = some (.int (l1)) → f_X9_value l0 l1 h = some o → Ev G M_X9_value d 0 L [] h (Ret Y_X9_value (some (.int o.1)) o.2) := by
  intro l0 l1 L h o g0 g1 e
  unfold f_X9_value at e
  refine g_ald_n d_X9_value_0 rfl g0 ?_
  replace e := ckd e
  obtain ⟨k1, e⟩ := e
  refine g_getR d_X9_value_1 (f := 1004) k1 fk_10_33 rfl rfl ?_
  replace e := ckd e
  obtain ⟨k2, e⟩ := e
  refine g_getR d_X9_value_4 (f := 501) k2 fk_10_121 rfl rfl ?_
  refine r_iload_n d_X9_value_7 rfl g1 ?_
  replace e := ckd e
  obtain ⟨k3, e⟩ := e
  replace e := ckd e
  obtain ⟨k4, e⟩ := e
  refine g_iald d_X9_value_8 k3 k4 rfl ?_
  replace e := bhd e
  obtain ⟨_, rfl, e⟩ := e
  refine s_istore_n d_X9_value_9 rfl (by decide) (fun L g2 gK => ?_)
  replace g0 := gK _ _ (by decide) (Or.inr (zrf_cat _)) g0
  replace g1 := gK _ _ (by decide) (Or.inr rfl) g1
  refine r_iload_n d_X9_value_10 rfl g2 ?_
  refine r_iconst d_X9_value_11 (v := (-1 : Int32)) (by decide +kernel) ?_
  refine r_icmp_ne d_X9_value_12 (tgt := 29) (by decide) (fun c6 => ?_) (fun c6 => ?_)
  · replace e := (if_neg c6).symm.trans e
    refine g_ald_n d_X9_value_29 rfl g0 ?_
    refine g_getR d_X9_value_30 (f := 1001) k1 fk_10_9 rfl rfl ?_
    refine r_iload_n d_X9_value_33 rfl g2 ?_
    replace e := ckd e
    obtain ⟨k7, e⟩ := e
    replace e := ckd e
    obtain ⟨k8, e⟩ := e
    refine g_iald d_X9_value_34 k7 k8 rfl ?_
    cases e
    exact g_iret d_X9_value_35 rfl rfl
  · replace e := (if_pos c6).symm.trans e
    refine g_ald_n d_X9_value_15 rfl g0 ?_
    refine g_getR d_X9_value_16 (f := 1004) k1 fk_10_33 rfl rfl ?_
    refine g_getR d_X9_value_19 (f := 501) k2 fk_10_121 rfl rfl ?_
    refine r_iload_n d_X9_value_22 rfl g1 ?_
    refine r_iconst d_X9_value_23 (v := (1 : Int32)) (by decide +kernel) ?_
    refine r_iadd d_X9_value_24 ?_
    replace e := ckd e
    obtain ⟨k9, e⟩ := e
    refine g_iald d_X9_value_25 k3 k9 rfl ?_
    refine r_goto d_X9_value_26 (tgt := 35) (by decide) ?_
    cases e
    exact g_iret d_X9_value_35 rfl rfl

theorem c_X9_value {G : Gd} {j : Nat} (hj : 1 ≤ j) {l0 : Nat} {l1 : Int32} {h : Hp} {o : (Int32 × Hp)} (e : f_X9_value l0 l1 h = some o) : Cal G j Y_X9_value [zrf (l0), .int (l1)] h (some (.int o.1)) o.2 := Cal.of (n := 0) (I := false) (by decide +kernel) (by decide) (by simp [lg_sl, zrf_cat, cat_int, cat_long]) (f_X9_value_ok hj _ _ _ h o (by simp [lv_args, zlk, zrf_cat, cat_int, cat_long]) (by simp [lv_args, zlk, zrf_cat, cat_int, cat_long]) e)
theorem vk_10_118 : Vk "TaskWeave$Workflow" 118 1 10 Y_X9_value := ⟨yk_X9_value, by decide +kernel, by decide +kernel, by decide +kernel, by decide⟩
theorem vk_10_137 : Vk "TaskWeave$Workflow" 137 1 10 Y_X9_leave := ⟨yk_X9_leave, by decide +kernel, by decide +kernel, by decide +kernel, by decide⟩
theorem vk_10_148 : Vk "TaskWeave$Workflow" 148 1 2 Y_X1_endOfChild := ⟨yk_X1_endOfChild, by decide +kernel, by decide +kernel, by decide +kernel, by decide⟩
theorem vk_10_141 : Vk "TaskWeave$Workflow" 141 2 10 Y_X9_rest := ⟨yk_X9_rest, by decide +kernel, by decide +kernel, by decide +kernel, by decide⟩
theorem vk_10_145 : Vk "TaskWeave$Workflow" 145 1 10 Y_X9_set := ⟨yk_X9_set, by decide +kernel, by decide +kernel, by decide +kernel, by decide⟩
theorem sk_10_154 : Sk "TaskWeave$Workflow" 154 3 Y_X9_reckon := ⟨yk_X9_reckon, by decide +kernel, by decide +kernel⟩
theorem fk_10_151 : Fk "TaskWeave$Workflow" 151 202 := ⟨by decide, by decide, by decide +kernel⟩
def f_X9_walk_236 (l0 : Nat) (l2 : Int32) (l4 : Int32) (h : Hp) : Option Hp := if (l2) < (0) then (ck (isO (h) (l0) 10) ((f_X9_set (l0) ((-1 : Int32)) (h)).bind (fun q44 => some (q44)))) else (ck (isO (h) (l0) 10) (if (zI (h) 1010 (l0)) ≤ (l2) then ((f_X9_set (l0) ((-1 : Int32)) (h)).bind (fun q48 => some (q48))) else (ck (isO (h) (zR (h) 1002 (l0)) 2) (ck (isO (h) (zR (h) 202 (zR (h) 1002 (l0))) 22) (ck (inR (l4) (zL (h) (zR (h) 202 (zR (h) 1002 (l0))))) ((f_X9_set (l0) (zE (h) (zR (h) 202 (zR (h) 1002 (l0))) (l4).toNatClampNeg) (h)).bind (fun q52 => some (q52))))))))
theorem f_X9_walk_236_ok {G : Gd} {d : Nat} (hj : 2 ≤ d) : ∀ (l0 : Nat) (l2 : Int32) (l4 : Int32) (L : List (Nat × Value)) (h : Hp) (o : Hp), zlk L 0 = some (zrf (l0)) → zlk L 2 = some (.int (l2)) → zlk L 4 = some (.int (l4)) → f_X9_walk_236 l0 l2 l4 h = some o → Ev G M_X9_walk d 236 L [] h (Ret Y_X9_walk none o) := by
  intro l0 l2 l4 L h o g0 g2 g4 e
  unfold f_X9_walk_236 at e
  refine g_ald_n d_X9_walk_236 rfl g0 ?_
  refine r_iload_n d_X9_walk_237 rfl g2 ?_
  refine r_if_lt d_X9_walk_238 (tgt := 262) (by decide) (fun c43 => ?_) (fun c43 => ?_)
  · replace e := (if_pos c43).symm.trans e
    refine r_iconst d_X9_walk_262 (v := (-1 : Int32)) (by decide +kernel) ?_
    replace e := ckd e
    obtain ⟨k45, e⟩ := e
    replace e := bd e
    obtain ⟨q44, eq44, e⟩ := e
    refine g_callV d_X9_walk_263 vk_10_145 (as := [_]) rfl k45 rfl (by simp [zrf_cat, cat_int, cat_long]) (j := 1) (by omega) (c_X9_set (by omega) eq44) ?_
    refine r_goto d_X9_walk_266 (tgt := 286) (by decide) ?_
    cases e
    exact g_vret d_X9_walk_286 rfl
  · replace e := (if_neg c43).symm.trans e
    refine r_iload_n d_X9_walk_241 rfl g2 ?_
    refine g_ald_n d_X9_walk_242 rfl g0 ?_
    replace e := ckd e
    obtain ⟨k46, e⟩ := e
    refine g_getI d_X9_walk_243 (f := 1010) k46 fk_10_65 rfl rfl ?_
    refine r_icmp_ge d_X9_walk_246 (tgt := 262) (by decide) (fun c47 => ?_) (fun c47 => ?_)
    · replace e := (if_pos c47).symm.trans e
      refine r_iconst d_X9_walk_262 (v := (-1 : Int32)) (by decide +kernel) ?_
      replace e := bd e
      obtain ⟨q48, eq48, e⟩ := e
      refine g_callV d_X9_walk_263 vk_10_145 (as := [_]) rfl k46 rfl (by simp [zrf_cat, cat_int, cat_long]) (j := 1) (by omega) (c_X9_set (by omega) eq48) ?_
      refine r_goto d_X9_walk_266 (tgt := 286) (by decide) ?_
      cases e
      exact g_vret d_X9_walk_286 rfl
    · replace e := (if_neg c47).symm.trans e
      refine g_ald_n d_X9_walk_249 rfl g0 ?_
      refine g_getR d_X9_walk_250 (f := 1002) k46 fk_10_18 rfl rfl ?_
      replace e := ckd e
      obtain ⟨k49, e⟩ := e
      refine g_getR d_X9_walk_253 (f := 202) k49 fk_10_151 rfl rfl ?_
      refine r_iload d_X9_walk_256 g4 ?_
      replace e := ckd e
      obtain ⟨k50, e⟩ := e
      replace e := ckd e
      obtain ⟨k51, e⟩ := e
      refine g_iald d_X9_walk_258 k50 k51 rfl ?_
      refine r_goto d_X9_walk_259 (tgt := 263) (by decide) ?_
      replace e := bd e
      obtain ⟨q52, eq52, e⟩ := e
      refine g_callV d_X9_walk_263 vk_10_145 (as := [_]) rfl k46 rfl (by simp [zrf_cat, cat_int, cat_long]) (j := 1) (by omega) (c_X9_set (by omega) eq52) ?_
      refine r_goto d_X9_walk_266 (tgt := 286) (by decide) ?_
      cases e
      exact g_vret d_X9_walk_286 rfl

def f_X9_walk (l0 : Nat) (h : Hp) : Option Hp := ck (isO (h) (l0) 10) (bh ((zI (h) 1005 (l0)) * ((8 : Int32))) (fun x2 => (f_X9_value (l0) ((x2) + ((4 : Int32))) (h)).bind (fun q3 => ck (isO (q3.2) (l0) 10) (ck (isO (q3.2) (zR (q3.2) 1004 (l0)) 5) (ck (isO (q3.2) (zR (q3.2) 501 (zR (q3.2) 1004 (l0))) 22) (ck (inR ((x2) + ((0 : Int32))) (zL (q3.2) (zR (q3.2) 501 (zR (q3.2) 1004 (l0))))) (bh (zE (q3.2) (zR (q3.2) 501 (zR (q3.2) 1004 (l0))) ((x2) + ((0 : Int32))).toNatClampNeg) (fun x8 => if (x8) = (71 : Int32) then (ck (inR ((x2) + ((1 : Int32))) (zL (q3.2) (zR (q3.2) 501 (zR (q3.2) 1004 (l0))))) ((f_X9_leave (l0) (zE (q3.2) (zR (q3.2) 501 (zR (q3.2) 1004 (l0))) ((x2) + ((1 : Int32))).toNatClampNeg) (q3.2)).bind (fun q11 => some (q11)))) else (if (x8) = (73 : Int32) then (if (q3.1) = (0) then ((f_X9_leave (l0) ((zI (q3.2) 1005 (l0)) + ((1 : Int32))) (q3.2)).bind (fun q14 => some (q14))) else (ck (inR ((x2) + ((1 : Int32))) (zL (q3.2) (zR (q3.2) 501 (zR (q3.2) 1004 (l0))))) ((f_X9_leave (l0) (zE (q3.2) (zR (q3.2) 501 (zR (q3.2) 1004 (l0))) ((x2) + ((1 : Int32))).toNatClampNeg) (q3.2)).bind (fun q16 => some (q16))))) else (if (x8) = (74 : Int32) then (ck (isO (q3.2) (zR (q3.2) 1002 (l0)) 2) ((f_X1_endOfChild (zR (q3.2) 1002 (l0)) (q3.1) (q3.2)).bind (fun q18 => if (q3.1) < (0) then (f_X9_walk_236 (l0) (q3.1) (q18.1) (q18.2)) else (ck (isO (q18.2) (l0) 10) (if (zI (q18.2) 1010 (l0)) ≤ (q3.1) then (f_X9_walk_236 (l0) (q3.1) (q18.1) (q18.2)) else (if (q18.1) = ((-1 : Int32)) then ((f_X9_rest (l0) ((3 : Int32)) (q3.1) (q18.2)).bind (fun q24 => some (q24))) else (f_X9_walk_236 (l0) (q3.1) (q18.1) (q18.2)))))))) else (if (x8) = (83 : Int32) then ((f_X9_leave (l0) ((zI (q3.2) 1005 (l0)) + ((1 : Int32))) (q3.2)).bind (fun q26 => some (q26))) else (if (x8) = (87 : Int32) then (ck (isO (q3.2) (zR (q3.2) 1002 (l0)) 2) ((f_X1_placeOf (zR (q3.2) 1002 (l0)) ((8 : Int32)) (zI (q3.2) 1009 (l0)) (q3.2)).bind (fun q28 => if (q28.1) = ((-1 : Int32)) then (ck (isO (q28.2) (l0) 10) ((f_X9_rest (l0) ((2 : Int32)) ((0 : Int32)) (q28.2)).bind (fun q37 => some (q37)))) else (ck (isO (q28.2) (l0) 10) (bh (pI (q28.2) 1009 (l0) ((zI (q28.2) 1009 (l0)) + ((1 : Int32)))) (fun h32 => ck (isO (h32) (zR (h32) 1002 (l0)) 2) (ck (isO (h32) (zR (h32) 201 (zR (h32) 1002 (l0))) 22) (ck (inR (q28.1) (zL (h32) (zR (h32) 201 (zR (h32) 1002 (l0))))) ((f_X9_set (l0) (zE (h32) (zR (h32) 201 (zR (h32) 1002 (l0))) (q28.1).toNatClampNeg) (h32)).bind (fun q36 => some (q36))))))))))) else ((f_X9_value (l0) ((x2) + ((6 : Int32))) (q3.2)).bind (fun q39 => (f_X9_reckon (x8) (q3.1) (q39.1) (q39.2)).bind (fun q40 => ck (isO (q40.2) (l0) 10) ((f_X9_set (l0) (q40.1) (q40.2)).bind (fun q41 => some (q41))))))))))))))))))
theorem f_X9_walk_ok {G : Gd} {d : Nat} (hj : 2 ≤ d) : ∀ (l0 : Nat) (L : List (Nat × Value)) (h : Hp) (o : Hp), zlk L 0 = some (zrf (l0)) → f_X9_walk l0 h = some o → Ev G M_X9_walk d 0 L [] h (Ret Y_X9_walk none o) := by
  intro l0 L h o g0 e
  unfold f_X9_walk at e
  refine g_ald_n d_X9_walk_0 rfl g0 ?_
  replace e := ckd e
  obtain ⟨k1, e⟩ := e
  refine g_getI d_X9_walk_1 (f := 1005) k1 fk_10_53 rfl rfl ?_
  refine r_bipush d_X9_walk_4 (v := (8 : Int32)) (by decide +kernel) ?_
  refine r_imul d_X9_walk_6 ?_
  replace e := bhd e
  obtain ⟨_, rfl, e⟩ := e
  refine s_istore_n d_X9_walk_7 rfl (by decide) (fun L g1 gK => ?_)
  replace g0 := gK _ _ (by decide) (Or.inr (zrf_cat _)) g0
  refine g_ald_n d_X9_walk_8 rfl g0 ?_
  refine r_iload_n d_X9_walk_9 rfl g1 ?_
  refine r_iconst d_X9_walk_10 (v := (4 : Int32)) (by decide +kernel) ?_
  refine r_iadd d_X9_walk_11 ?_
  replace e := bd e
  obtain ⟨q3, eq3, e⟩ := e
  refine g_callV d_X9_walk_12 vk_10_118 (as := [_]) rfl k1 rfl (by simp [zrf_cat, cat_int, cat_long]) (j := 1) (by omega) (c_X9_value (by omega) eq3) ?_
  refine s_istore_n d_X9_walk_15 rfl (by decide) (fun L g2 gK => ?_)
  replace g0 := gK _ _ (by decide) (Or.inr (zrf_cat _)) g0
  replace g1 := gK _ _ (by decide) (Or.inr rfl) g1
  refine g_ald_n d_X9_walk_16 rfl g0 ?_
  replace e := ckd e
  obtain ⟨k4, e⟩ := e
  refine g_getR d_X9_walk_17 (f := 1004) k4 fk_10_33 rfl rfl ?_
  replace e := ckd e
  obtain ⟨k5, e⟩ := e
  refine g_getR d_X9_walk_20 (f := 501) k5 fk_10_121 rfl rfl ?_
  refine r_iload_n d_X9_walk_23 rfl g1 ?_
  refine r_iconst d_X9_walk_24 (v := (0 : Int32)) (by decide +kernel) ?_
  refine r_iadd d_X9_walk_25 ?_
  replace e := ckd e
  obtain ⟨k6, e⟩ := e
  replace e := ckd e
  obtain ⟨k7, e⟩ := e
  refine g_iald d_X9_walk_26 k6 k7 rfl ?_
  replace e := bhd e
  obtain ⟨_, rfl, e⟩ := e
  refine s_istore_n d_X9_walk_27 rfl (by decide) (fun L g3 gK => ?_)
  replace g0 := gK _ _ (by decide) (Or.inr (zrf_cat _)) g0
  replace g1 := gK _ _ (by decide) (Or.inr rfl) g1
  replace g2 := gK _ _ (by decide) (Or.inr rfl) g2
  refine r_iload_n d_X9_walk_28 rfl g3 ?_
  rcases ite_or e with ⟨c9, e⟩ | ⟨c9, e⟩
  · refine r_lookup d_X9_walk_29 (off := 51) (tgt := 80) (by decide +kernel) (by rw [c9] <;> rfl) (by decide) ?_
    refine g_ald_n d_X9_walk_80 rfl g0 ?_
    refine g_ald_n d_X9_walk_81 rfl g0 ?_
    refine g_getR d_X9_walk_82 (f := 1004) k4 fk_10_33 rfl rfl ?_
    refine g_getR d_X9_walk_85 (f := 501) k5 fk_10_121 rfl rfl ?_
    refine r_iload_n d_X9_walk_88 rfl g1 ?_
    refine r_iconst d_X9_walk_89 (v := (1 : Int32)) (by decide +kernel) ?_
    refine r_iadd d_X9_walk_90 ?_
    replace e := ckd e
    obtain ⟨k10, e⟩ := e
    refine g_iald d_X9_walk_91 k6 k10 rfl ?_
    replace e := bd e
    obtain ⟨q11, eq11, e⟩ := e
    refine g_callV d_X9_walk_92 vk_10_137 (as := [_]) rfl k4 rfl (by simp [zrf_cat, cat_int, cat_long]) (j := 1) (by omega) (c_X9_leave (by omega) eq11) ?_
    refine r_goto d_X9_walk_95 (tgt := 286) (by decide) ?_
    cases e
    exact g_vret d_X9_walk_286 rfl
  · rcases ite_or e with ⟨c12, e⟩ | ⟨c12, e⟩
    · refine r_lookup d_X9_walk_29 (off := 69) (tgt := 98) (by decide +kernel) (by rw [c12] <;> rfl) (by decide) ?_
      refine g_ald_n d_X9_walk_98 rfl g0 ?_
      refine r_iload_n d_X9_walk_99 rfl g2 ?_
      refine r_if_eq d_X9_walk_100 (tgt := 117) (by decide) (fun c13 => ?_) (fun c13 => ?_)
      · replace e := (if_pos c13).symm.trans e
        refine g_ald_n d_X9_walk_117 rfl g0 ?_
        refine g_getI d_X9_walk_118 (f := 1005) k4 fk_10_53 rfl rfl ?_
        refine r_iconst d_X9_walk_121 (v := (1 : Int32)) (by decide +kernel) ?_
        refine r_iadd d_X9_walk_122 ?_
        replace e := bd e
        obtain ⟨q14, eq14, e⟩ := e
        refine g_callV d_X9_walk_123 vk_10_137 (as := [_]) rfl k4 rfl (by simp [zrf_cat, cat_int, cat_long]) (j := 1) (by omega) (c_X9_leave (by omega) eq14) ?_
        refine r_goto d_X9_walk_126 (tgt := 286) (by decide) ?_
        cases e
        exact g_vret d_X9_walk_286 rfl
      · replace e := (if_neg c13).symm.trans e
        refine g_ald_n d_X9_walk_103 rfl g0 ?_
        refine g_getR d_X9_walk_104 (f := 1004) k4 fk_10_33 rfl rfl ?_
        refine g_getR d_X9_walk_107 (f := 501) k5 fk_10_121 rfl rfl ?_
        refine r_iload_n d_X9_walk_110 rfl g1 ?_
        refine r_iconst d_X9_walk_111 (v := (1 : Int32)) (by decide +kernel) ?_
        refine r_iadd d_X9_walk_112 ?_
        replace e := ckd e
        obtain ⟨k15, e⟩ := e
        refine g_iald d_X9_walk_113 k6 k15 rfl ?_
        refine r_goto d_X9_walk_114 (tgt := 123) (by decide) ?_
        replace e := bd e
        obtain ⟨q16, eq16, e⟩ := e
        refine g_callV d_X9_walk_123 vk_10_137 (as := [_]) rfl k4 rfl (by simp [zrf_cat, cat_int, cat_long]) (j := 1) (by omega) (c_X9_leave (by omega) eq16) ?_
        refine r_goto d_X9_walk_126 (tgt := 286) (by decide) ?_
        cases e
        exact g_vret d_X9_walk_286 rfl
    · rcases ite_or e with ⟨c17, e⟩ | ⟨c17, e⟩
      · refine r_lookup d_X9_walk_29 (off := 170) (tgt := 199) (by decide +kernel) (by rw [c17] <;> rfl) (by decide) ?_
        refine g_ald_n d_X9_walk_199 rfl g0 ?_
        refine g_getR d_X9_walk_200 (f := 1002) k4 fk_10_18 rfl rfl ?_
        refine r_iload_n d_X9_walk_203 rfl g2 ?_
        replace e := ckd e
        obtain ⟨k19, e⟩ := e
        replace e := bd e
        obtain ⟨q18, eq18, e⟩ := e
        refine g_callV d_X9_walk_204 vk_10_148 (as := [_]) rfl k19 rfl (by simp [zrf_cat, cat_int, cat_long]) (j := 1) (by omega) (c_X1_endOfChild (by omega) eq18) ?_
        refine s_istore d_X9_walk_207 (by decide) (fun L g4 gK => ?_)
        replace g0 := gK _ _ (by decide) (Or.inr (zrf_cat _)) g0
        replace g2 := gK _ _ (by decide) (Or.inr rfl) g2
        refine r_iload_n d_X9_walk_209 rfl g2 ?_
        refine r_if_lt d_X9_walk_210 (tgt := 236) (by decide) (fun c20 => ?_) (fun c20 => ?_)
        · replace e := (if_pos c20).symm.trans e
          exact f_X9_walk_236_ok hj _ _ _ _ _ _ g0 g2 g4 e
        · replace e := (if_neg c20).symm.trans e
          refine r_iload_n d_X9_walk_213 rfl g2 ?_
          refine g_ald_n d_X9_walk_214 rfl g0 ?_
          replace e := ckd e
          obtain ⟨k21, e⟩ := e
          refine g_getI d_X9_walk_215 (f := 1010) k21 fk_10_65 rfl rfl ?_
          refine r_icmp_ge d_X9_walk_218 (tgt := 236) (by decide) (fun c22 => ?_) (fun c22 => ?_)
          · replace e := (if_pos c22).symm.trans e
            exact f_X9_walk_236_ok hj _ _ _ _ _ _ g0 g2 g4 e
          · replace e := (if_neg c22).symm.trans e
            refine r_iload d_X9_walk_221 g4 ?_
            refine r_iconst d_X9_walk_223 (v := (-1 : Int32)) (by decide +kernel) ?_
            refine r_icmp_ne d_X9_walk_224 (tgt := 236) (by decide) (fun c23 => ?_) (fun c23 => ?_)
            · replace e := (if_neg c23).symm.trans e
              exact f_X9_walk_236_ok hj _ _ _ _ _ _ g0 g2 g4 e
            · replace e := (if_pos c23).symm.trans e
              refine g_ald_n d_X9_walk_227 rfl g0 ?_
              refine r_iconst d_X9_walk_228 (v := (3 : Int32)) (by decide +kernel) ?_
              refine r_iload_n d_X9_walk_229 rfl g2 ?_
              replace e := bd e
              obtain ⟨q24, eq24, e⟩ := e
              refine g_callV d_X9_walk_230 vk_10_141 (as := [_, _]) rfl k21 rfl (by simp [zrf_cat, cat_int, cat_long]) (j := 1) (by omega) (c_X9_rest (by omega) eq24) ?_
              refine r_goto d_X9_walk_233 (tgt := 286) (by decide) ?_
              cases e
              exact g_vret d_X9_walk_286 rfl
      · rcases ite_or e with ⟨c25, e⟩ | ⟨c25, e⟩
        · refine r_lookup d_X9_walk_29 (off := 100) (tgt := 129) (by decide +kernel) (by rw [c25] <;> rfl) (by decide) ?_
          refine g_ald_n d_X9_walk_129 rfl g0 ?_
          refine g_ald_n d_X9_walk_130 rfl g0 ?_
          refine g_getI d_X9_walk_131 (f := 1005) k4 fk_10_53 rfl rfl ?_
          refine r_iconst d_X9_walk_134 (v := (1 : Int32)) (by decide +kernel) ?_
          refine r_iadd d_X9_walk_135 ?_
          replace e := bd e
          obtain ⟨q26, eq26, e⟩ := e
          refine g_callV d_X9_walk_136 vk_10_137 (as := [_]) rfl k4 rfl (by simp [zrf_cat, cat_int, cat_long]) (j := 1) (by omega) (c_X9_leave (by omega) eq26) ?_
          refine r_goto d_X9_walk_139 (tgt := 286) (by decide) ?_
          cases e
          exact g_vret d_X9_walk_286 rfl
        · rcases ite_or e with ⟨c27, e⟩ | ⟨c27, e⟩
          · refine r_lookup d_X9_walk_29 (off := 113) (tgt := 142) (by decide +kernel) (by rw [c27] <;> rfl) (by decide) ?_
            refine g_ald_n d_X9_walk_142 rfl g0 ?_
            refine g_getR d_X9_walk_143 (f := 1002) k4 fk_10_18 rfl rfl ?_
            refine r_bipush d_X9_walk_146 (v := (8 : Int32)) (by decide +kernel) ?_
            refine g_ald_n d_X9_walk_148 rfl g0 ?_
            refine g_getI d_X9_walk_149 (f := 1009) k4 fk_10_62 rfl rfl ?_
            replace e := ckd e
            obtain ⟨k29, e⟩ := e
            replace e := bd e
            obtain ⟨q28, eq28, e⟩ := e
            refine g_callV d_X9_walk_152 vk_10_74 (as := [_, _]) rfl k29 rfl (by simp [zrf_cat, cat_int, cat_long]) (j := 1) (by omega) (c_X1_placeOf (by omega) eq28) ?_
            refine s_istore d_X9_walk_155 (by decide) (fun L g4 gK => ?_)
            replace g0 := gK _ _ (by decide) (Or.inr (zrf_cat _)) g0
            refine r_iload d_X9_walk_157 g4 ?_
            refine r_iconst d_X9_walk_159 (v := (-1 : Int32)) (by decide +kernel) ?_
            refine r_icmp_ne d_X9_walk_160 (tgt := 172) (by decide) (fun c30 => ?_) (fun c30 => ?_)
            · replace e := (if_neg c30).symm.trans e
              refine g_ald_n d_X9_walk_172 rfl g0 ?_
              refine r_dup d_X9_walk_173 (zrf_cat _) ?_
              replace e := ckd e
              obtain ⟨k31, e⟩ := e
              refine g_getI d_X9_walk_174 (f := 1009) k31 fk_10_62 rfl rfl ?_
              refine r_iconst d_X9_walk_177 (v := (1 : Int32)) (by decide +kernel) ?_
              refine r_iadd d_X9_walk_178 ?_
              refine g_putI d_X9_walk_179 (f := 1009) k31 fk_10_62 rfl (Or.inl rfl) ⟨rfl, rfl⟩ ?_
              replace e := bhd e
              obtain ⟨_, rfl, e⟩ := e
              refine g_ald_n d_X9_walk_182 rfl g0 ?_
              refine g_ald_n d_X9_walk_183 rfl g0 ?_
              refine g_getR d_X9_walk_184 (f := 1002) (tO_pI k31) fk_10_18 rfl rfl ?_
              replace e := ckd e
              obtain ⟨k33, e⟩ := e
              refine g_getR d_X9_walk_187 (f := 201) k33 fk_10_82 rfl rfl ?_
              refine r_iload d_X9_walk_190 g4 ?_
              replace e := ckd e
              obtain ⟨k34, e⟩ := e
              replace e := ckd e
              obtain ⟨k35, e⟩ := e
              refine g_iald d_X9_walk_192 k34 k35 rfl ?_
              replace e := bd e
              obtain ⟨q36, eq36, e⟩ := e
              refine g_callV d_X9_walk_193 vk_10_145 (as := [_]) rfl (tO_pI k31) rfl (by simp [zrf_cat, cat_int, cat_long]) (j := 1) (by omega) (c_X9_set (by omega) eq36) ?_
              refine r_goto d_X9_walk_196 (tgt := 286) (by decide) ?_
              cases e
              exact g_vret d_X9_walk_286 rfl
            · replace e := (if_pos c30).symm.trans e
              refine g_ald_n d_X9_walk_163 rfl g0 ?_
              refine r_iconst d_X9_walk_164 (v := (2 : Int32)) (by decide +kernel) ?_
              refine r_iconst d_X9_walk_165 (v := (0 : Int32)) (by decide +kernel) ?_
              replace e := ckd e
              obtain ⟨k38, e⟩ := e
              replace e := bd e
              obtain ⟨q37, eq37, e⟩ := e
              refine g_callV d_X9_walk_166 vk_10_141 (as := [_, _]) rfl k38 rfl (by simp [zrf_cat, cat_int, cat_long]) (j := 1) (by omega) (c_X9_rest (by omega) eq37) ?_
              refine r_goto d_X9_walk_169 (tgt := 286) (by decide) ?_
              cases e
              exact g_vret d_X9_walk_286 rfl
          · refine r_lookup d_X9_walk_29 (off := 240) (tgt := 269) (by decide +kernel) (by rw [lv_osw c9 (by decide +kernel), lv_osw c12 (by decide +kernel), lv_osw c17 (by decide +kernel), lv_osw c25 (by decide +kernel), lv_osw c27 (by decide +kernel)] <;> rfl) (by decide) ?_
            refine g_ald_n d_X9_walk_269 rfl g0 ?_
            refine r_iload_n d_X9_walk_270 rfl g3 ?_
            refine r_iload_n d_X9_walk_271 rfl g2 ?_
            refine g_ald_n d_X9_walk_272 rfl g0 ?_
            refine r_iload_n d_X9_walk_273 rfl g1 ?_
            refine r_bipush d_X9_walk_274 (v := (6 : Int32)) (by decide +kernel) ?_
            refine r_iadd d_X9_walk_276 ?_
            replace e := bd e
            obtain ⟨q39, eq39, e⟩ := e
            refine g_callV d_X9_walk_277 vk_10_118 (as := [_]) rfl k4 rfl (by simp [zrf_cat, cat_int, cat_long]) (j := 1) (by omega) (c_X9_value (by omega) eq39) ?_
            replace e := bd e
            obtain ⟨q40, eq40, e⟩ := e
            refine g_callS d_X9_walk_280 sk_10_154 (as := [_, _, _]) rfl rfl (by simp [zrf_cat, cat_int, cat_long]) (j := 1) (by omega) (c_X9_reckon (by omega) eq40) ?_
            replace e := ckd e
            obtain ⟨k42, e⟩ := e
            replace e := bd e
            obtain ⟨q41, eq41, e⟩ := e
            refine g_callV d_X9_walk_283 vk_10_145 (as := [_]) rfl k42 rfl (by simp [zrf_cat, cat_int, cat_long]) (j := 1) (by omega) (c_X9_set (by omega) eq41) ?_
            cases e
            exact g_vret d_X9_walk_286 rfl

theorem c_X9_walk {G : Gd} {j : Nat} (hj : 2 ≤ j) {l0 : Nat} {h : Hp} {o : Hp} (e : f_X9_walk l0 h = some o) : Cal G j Y_X9_walk [zrf (l0)] h none o := Cal.of (n := 0) (I := false) (by decide +kernel) (by decide) (by simp [lg_sl, zrf_cat, cat_int, cat_long]) (f_X9_walk_ok hj _ _ h o (by simp [lv_args, zlk, zrf_cat, cat_int, cat_long]) e)
def f_J9_max_7cf53 (l0 : Int32) (l1 : Int32) (h : Hp) : Option (Int32 × Hp) := if (l0) < (l1) then (some (l1, h)) else (some (l0, h))
theorem f_J9_max_7cf53_ok {G : Gd} {d : Nat} (hj : 1 ≤ d) : ∀ (l0 : Int32) (l1 : Int32) (L : List (Nat × Value)) (h : Hp) (o : (Int32 × Hp)), zlk L 0 = some (.int (l0)) → zlk L 1 = some (.int (l1)) → f_J9_max_7cf53 l0 l1 h = some o → Ev G M_J9_max_7cf53 d 0 L [] h (Ret Y_J9_max_7cf53 (some (.int o.1)) o.2) := by
  intro l0 l1 L h o g0 g1 e
  unfold f_J9_max_7cf53 at e
  refine r_iload_n d_J9_max_7cf53_0 rfl g0 ?_
  refine r_iload_n d_J9_max_7cf53_1 rfl g1 ?_
  refine r_icmp_lt d_J9_max_7cf53_2 (tgt := 9) (by decide) (fun c1 => ?_) (fun c1 => ?_)
  · replace e := (if_pos c1).symm.trans e
    refine r_iload_n d_J9_max_7cf53_9 rfl g1 ?_
    cases e
    exact g_iret d_J9_max_7cf53_10 rfl rfl
  · replace e := (if_neg c1).symm.trans e
    refine r_iload_n d_J9_max_7cf53_5 rfl g0 ?_
    refine r_goto d_J9_max_7cf53_6 (tgt := 10) (by decide) ?_
    cases e
    exact g_iret d_J9_max_7cf53_10 rfl rfl

theorem c_J9_max_7cf53 {G : Gd} {j : Nat} (hj : 1 ≤ j) {l0 : Int32} {l1 : Int32} {h : Hp} {o : (Int32 × Hp)} (e : f_J9_max_7cf53 l0 l1 h = some o) : Cal G j Y_J9_max_7cf53 [.int (l0), .int (l1)] h (some (.int o.1)) o.2 := Cal.of (n := 0) (I := false) (by decide +kernel) (by decide) (by simp [lg_sl, zrf_cat, cat_int, cat_long]) (f_J9_max_7cf53_ok hj _ _ _ h o (by simp [lv_args, zlk, zrf_cat, cat_int, cat_long]) (by simp [lv_args, zlk, zrf_cat, cat_int, cat_long]) e)
def f_X9_hasKin (l0 : Nat) (l1 : Int32) (h : Hp) : Option (Int32 × Hp) := if (l1) = ((-1 : Int32)) then (ck (isO (h) (l0) 10) (ck (isO (h) (zR (h) 1002 (l0)) 2) (ck (isO (h) (zR (h) 203 (zR (h) 1002 (l0))) 22) (ck (inR ((0 : Int32)) (zL (h) (zR (h) 203 (zR (h) 1002 (l0))))) (if (0) ≤ (zE (h) (zR (h) 203 (zR (h) 1002 (l0))) ((0 : Int32)).toNatClampNeg) then (some ((0 : Int32), h)) else (some ((1 : Int32), h))))))) else (if (l1) < (0) then (some ((0 : Int32), h)) else (ck (isO (h) (l0) 10) (if (zI (h) 1010 (l0)) ≤ (l1) then (some ((0 : Int32), h)) else (some ((1 : Int32), h)))))
theorem f_X9_hasKin_ok {G : Gd} {d : Nat} (hj : 1 ≤ d) : ∀ (l0 : Nat) (l1 : Int32) (L : List (Nat × Value)) (h : Hp) (o : (Int32 × Hp)), zlk L 0 = some (zrf (l0)) → zlk L 1 = some (.int (l1)) → f_X9_hasKin l0 l1 h = some o → Ev G M_X9_hasKin d 0 L [] h (Ret Y_X9_hasKin (some (.int o.1)) o.2) := by
  intro l0 l1 L h o g0 g1 e
  unfold f_X9_hasKin at e
  refine r_iload_n d_X9_hasKin_0 rfl g1 ?_
  refine r_iconst d_X9_hasKin_1 (v := (-1 : Int32)) (by decide +kernel) ?_
  refine r_icmp_ne d_X9_hasKin_2 (tgt := 25) (by decide) (fun c1 => ?_) (fun c1 => ?_)
  · replace e := (if_neg c1).symm.trans e
    refine r_iload_n d_X9_hasKin_25 rfl g1 ?_
    refine r_if_lt d_X9_hasKin_26 (tgt := 41) (by decide) (fun c2 => ?_) (fun c2 => ?_)
    · replace e := (if_pos c2).symm.trans e
      refine r_iconst d_X9_hasKin_41 (v := (0 : Int32)) (by decide +kernel) ?_
      cases e
      exact g_iret d_X9_hasKin_42 rfl rfl
    · replace e := (if_neg c2).symm.trans e
      refine r_iload_n d_X9_hasKin_29 rfl g1 ?_
      refine g_ald_n d_X9_hasKin_30 rfl g0 ?_
      replace e := ckd e
      obtain ⟨k3, e⟩ := e
      refine g_getI d_X9_hasKin_31 (f := 1010) k3 fk_10_65 rfl rfl ?_
      refine r_icmp_ge d_X9_hasKin_34 (tgt := 41) (by decide) (fun c4 => ?_) (fun c4 => ?_)
      · replace e := (if_pos c4).symm.trans e
        refine r_iconst d_X9_hasKin_41 (v := (0 : Int32)) (by decide +kernel) ?_
        cases e
        exact g_iret d_X9_hasKin_42 rfl rfl
      · replace e := (if_neg c4).symm.trans e
        refine r_iconst d_X9_hasKin_37 (v := (1 : Int32)) (by decide +kernel) ?_
        refine r_goto d_X9_hasKin_38 (tgt := 42) (by decide) ?_
        cases e
        exact g_iret d_X9_hasKin_42 rfl rfl
  · replace e := (if_pos c1).symm.trans e
    refine g_ald_n d_X9_hasKin_5 rfl g0 ?_
    replace e := ckd e
    obtain ⟨k5, e⟩ := e
    refine g_getR d_X9_hasKin_6 (f := 1002) k5 fk_10_18 rfl rfl ?_
    replace e := ckd e
    obtain ⟨k6, e⟩ := e
    refine g_getR d_X9_hasKin_9 (f := 203) k6 fk_10_71 rfl rfl ?_
    refine r_iconst d_X9_hasKin_12 (v := (0 : Int32)) (by decide +kernel) ?_
    replace e := ckd e
    obtain ⟨k7, e⟩ := e
    replace e := ckd e
    obtain ⟨k8, e⟩ := e
    refine g_iald d_X9_hasKin_13 k7 k8 rfl ?_
    refine r_if_ge d_X9_hasKin_14 (tgt := 21) (by decide) (fun c9 => ?_) (fun c9 => ?_)
    · replace e := (if_pos c9).symm.trans e
      refine r_iconst d_X9_hasKin_21 (v := (0 : Int32)) (by decide +kernel) ?_
      refine r_goto d_X9_hasKin_22 (tgt := 42) (by decide) ?_
      cases e
      exact g_iret d_X9_hasKin_42 rfl rfl
    · replace e := (if_neg c9).symm.trans e
      refine r_iconst d_X9_hasKin_17 (v := (1 : Int32)) (by decide +kernel) ?_
      refine r_goto d_X9_hasKin_18 (tgt := 42) (by decide) ?_
      cases e
      exact g_iret d_X9_hasKin_42 rfl rfl

theorem c_X9_hasKin {G : Gd} {j : Nat} (hj : 1 ≤ j) {l0 : Nat} {l1 : Int32} {h : Hp} {o : (Int32 × Hp)} (e : f_X9_hasKin l0 l1 h = some o) : Cal G j Y_X9_hasKin [zrf (l0), .int (l1)] h (some (.int o.1)) o.2 := Cal.of (n := 0) (I := false) (by decide +kernel) (by decide) (by simp [lg_sl, zrf_cat, cat_int, cat_long]) (f_X9_hasKin_ok hj _ _ _ h o (by simp [lv_args, zlk, zrf_cat, cat_int, cat_long]) (by simp [lv_args, zlk, zrf_cat, cat_int, cat_long]) e)
theorem fk_10_131 : Fk "TaskWeave$Workflow" 131 1012 := ⟨by decide, by decide, by decide +kernel⟩
theorem fk_10_134 : Fk "TaskWeave$Workflow" 134 1013 := ⟨by decide, by decide, by decide +kernel⟩
def f_X9_want (l0 : Nat) (l1 : Int32) (l2 : Int32) (l3 : Int32) (h : Hp) : Option (Int32 × Hp) := ck (isO (h) (l0) 10) (bh (pI (h) 1012 (l0) (l2)) (fun h2 => bh (pI (h2) 1013 (l0) (l3)) (fun h3 => some (l1, h3))))
theorem f_X9_want_ok {G : Gd} {d : Nat} (hj : 1 ≤ d) : ∀ (l0 : Nat) (l1 : Int32) (l2 : Int32) (l3 : Int32) (L : List (Nat × Value)) (h : Hp) (o : (Int32 × Hp)), zlk L 0 = some (zrf (l0)) → zlk L 1 = some (.int (l1)) → zlk L 2 = some (.int (l2)) → zlk L 3 = some (.int (l3)) → f_X9_want l0 l1 l2 l3 h = some o → Ev G M_X9_want d 0 L [] h (Ret Y_X9_want (some (.int o.1)) o.2) := by
  intro l0 l1 l2 l3 L h o g0 g1 g2 g3 e
  unfold f_X9_want at e
  refine g_ald_n d_X9_want_0 rfl g0 ?_
  refine r_iload_n d_X9_want_1 rfl g2 ?_
  replace e := ckd e
  obtain ⟨k1, e⟩ := e
  refine g_putI d_X9_want_2 (f := 1012) k1 fk_10_131 rfl (Or.inl rfl) ⟨rfl, rfl⟩ ?_
  replace e := bhd e
  obtain ⟨_, rfl, e⟩ := e
  refine g_ald_n d_X9_want_5 rfl g0 ?_
  refine r_iload_n d_X9_want_6 rfl g3 ?_
  refine g_putI d_X9_want_7 (f := 1013) (tO_pI k1) fk_10_134 rfl (Or.inl rfl) ⟨rfl, rfl⟩ ?_
  replace e := bhd e
  obtain ⟨_, rfl, e⟩ := e
  refine r_iload_n d_X9_want_10 rfl g1 ?_
  cases e
  exact g_iret d_X9_want_11 rfl rfl

theorem c_X9_want {G : Gd} {j : Nat} (hj : 1 ≤ j) {l0 : Nat} {l1 : Int32} {l2 : Int32} {l3 : Int32} {h : Hp} {o : (Int32 × Hp)} (e : f_X9_want l0 l1 l2 l3 h = some o) : Cal G j Y_X9_want [zrf (l0), .int (l1), .int (l2), .int (l3)] h (some (.int o.1)) o.2 := Cal.of (n := 0) (I := false) (by decide +kernel) (by decide) (by simp [lg_sl, zrf_cat, cat_int, cat_long]) (f_X9_want_ok hj _ _ _ _ _ h o (by simp [lv_args, zlk, zrf_cat, cat_int, cat_long]) (by simp [lv_args, zlk, zrf_cat, cat_int, cat_long]) (by simp [lv_args, zlk, zrf_cat, cat_int, cat_long]) (by simp [lv_args, zlk, zrf_cat, cat_int, cat_long]) e)
theorem vk_10_114 : Vk "TaskWeave$Workflow" 114 3 10 Y_X9_want := ⟨yk_X9_want, by decide +kernel, by decide +kernel, by decide +kernel, by decide⟩
theorem vk_10_127 : Vk "TaskWeave$Workflow" 127 1 10 Y_X9_hasKin := ⟨yk_X9_hasKin, by decide +kernel, by decide +kernel, by decide +kernel, by decide⟩
def f_X9_wish (l0 : Nat) (l1 : Int32) (h : Hp) : Option (Int32 × Hp) := ck (isO (h) (l0) 10) (ck (isO (h) (zR (h) 1004 (l0)) 5) (if (zI (h) 1005 (l0)) < (zI (h) 500 (zR (h) 1004 (l0))) then (if (zI (h) 1006 (l0)) < ((200 : Int32)) then (bh ((zI (h) 1005 (l0)) * ((8 : Int32))) (fun x5 => (f_X9_value (l0) ((x5) + ((4 : Int32))) (h)).bind (fun q6 => ck (isO (q6.2) (l0) 10) (ck (isO (q6.2) (zR (q6.2) 1004 (l0)) 5) (ck (isO (q6.2) (zR (q6.2) 501 (zR (q6.2) 1004 (l0))) 22) (ck (inR ((x5) + ((0 : Int32))) (zL (q6.2) (zR (q6.2) 501 (zR (q6.2) 1004 (l0))))) (if (zE (q6.2) (zR (q6.2) 501 (zR (q6.2) 1004 (l0))) ((x5) + ((0 : Int32))).toNatClampNeg) = (65 : Int32) then (ck (inR ((x5) + ((2 : Int32))) (zL (q6.2) (zR (q6.2) 501 (zR (q6.2) 1004 (l0))))) ((f_X9_want (l0) ((1 : Int32)) (zE (q6.2) (zR (q6.2) 501 (zR (q6.2) 1004 (l0))) ((x5) + ((2 : Int32))).toNatClampNeg) (q6.1) (q6.2)).bind (fun q13 => some (q13.1, q13.2)))) else (if (zE (q6.2) (zR (q6.2) 501 (zR (q6.2) 1004 (l0))) ((x5) + ((0 : Int32))).toNatClampNeg) = (67 : Int32) then (ck (inR ((x5) + ((2 : Int32))) (zL (q6.2) (zR (q6.2) 501 (zR (q6.2) 1004 (l0))))) ((f_X9_want (l0) ((6 : Int32)) (zE (q6.2) (zR (q6.2) 501 (zR (q6.2) 1004 (l0))) ((x5) + ((2 : Int32))).toNatClampNeg) (q6.1) (q6.2)).bind (fun q16 => some (q16.1, q16.2)))) else (if (zE (q6.2) (zR (q6.2) 501 (zR (q6.2) 1004 (l0))) ((x5) + ((0 : Int32))).toNatClampNeg) = (69 : Int32) then ((f_X9_want (l0) ((10 : Int32)) (q6.1) ((0 : Int32)) (q6.2)).bind (fun q18 => some (q18.1, q18.2))) else (if (zE (q6.2) (zR (q6.2) 501 (zR (q6.2) 1004 (l0))) ((x5) + ((0 : Int32))).toNatClampNeg) = (83 : Int32) then ((f_X9_hasKin (l0) (q6.1) (q6.2)).bind (fun q20 => if (q20.1) = (0) then (some ((-1 : Int32), q20.2)) else (ck (isO (q20.2) (l0) 10) ((f_X9_value (l0) ((x5) + ((6 : Int32))) (q20.2)).bind (fun q22 => ck (isO (q22.2) (l0) 10) ((f_X9_want (l0) ((9 : Int32)) (q6.1) (q22.1) (q22.2)).bind (fun q24 => some (q24.1, q24.2)))))))) else (if (zE (q6.2) (zR (q6.2) 501 (zR (q6.2) 1004 (l0))) ((x5) + ((0 : Int32))).toNatClampNeg) = (84 : Int32) then ((f_X9_want (l0) ((4 : Int32)) ((l1) + ((if (q6.1) < ((0 : Int32)) then ((0 : Int32)) else (q6.1)))) ((0 : Int32)) (q6.2)).bind (fun q27 => some (q27.1, q27.2))) else (some ((-1 : Int32), q6.2))))))))))))) else ((f_X9_want (l0) ((12 : Int32)) ((-1 : Int32)) ((0 : Int32)) (h)).bind (fun q28 => some (q28.1, q28.2)))) else ((f_X9_want (l0) ((10 : Int32)) ((0 : Int32)) ((0 : Int32)) (h)).bind (fun q29 => some (q29.1, q29.2)))))
theorem f_X9_wish_ok {G : Gd} {d : Nat} (hj : 2 ≤ d) : ∀ (l0 : Nat) (l1 : Int32) (L : List (Nat × Value)) (h : Hp) (o : (Int32 × Hp)), zlk L 0 = some (zrf (l0)) → zlk L 1 = some (.int (l1)) → f_X9_wish l0 l1 h = some o → Ev G M_X9_wish d 0 L [] h (Ret Y_X9_wish (some (.int o.1)) o.2) := by
  intro l0 l1 L h o g0 g1 e
  unfold f_X9_wish at e
  refine g_ald_n d_X9_wish_0 rfl g0 ?_
  replace e := ckd e
  obtain ⟨k1, e⟩ := e
  refine g_getI d_X9_wish_1 (f := 1005) k1 fk_10_53 rfl rfl ?_
  refine g_ald_n d_X9_wish_4 rfl g0 ?_
  refine g_getR d_X9_wish_5 (f := 1004) k1 fk_10_33 rfl rfl ?_
  replace e := ckd e
  obtain ⟨k2, e⟩ := e
  refine g_getI d_X9_wish_8 (f := 500) k2 fk_10_109 rfl rfl ?_
  refine r_icmp_lt d_X9_wish_11 (tgt := 23) (by decide) (fun c3 => ?_) (fun c3 => ?_)
  · replace e := (if_pos c3).symm.trans e
    refine g_ald_n d_X9_wish_23 rfl g0 ?_
    refine g_getI d_X9_wish_24 (f := 1006) k1 fk_10_56 rfl rfl ?_
    refine r_sipush d_X9_wish_27 (v := (200 : Int32)) (by decide +kernel) ?_
    refine r_icmp_lt d_X9_wish_30 (tgt := 42) (by decide) (fun c4 => ?_) (fun c4 => ?_)
    · replace e := (if_pos c4).symm.trans e
      refine g_ald_n d_X9_wish_42 rfl g0 ?_
      refine g_getI d_X9_wish_43 (f := 1005) k1 fk_10_53 rfl rfl ?_
      refine r_bipush d_X9_wish_46 (v := (8 : Int32)) (by decide +kernel) ?_
      refine r_imul d_X9_wish_48 ?_
      replace e := bhd e
      obtain ⟨_, rfl, e⟩ := e
      refine s_istore_n d_X9_wish_49 rfl (by decide) (fun L g2 gK => ?_)
      replace g0 := gK _ _ (by decide) (Or.inr (zrf_cat _)) g0
      replace g1 := gK _ _ (by decide) (Or.inr rfl) g1
      refine g_ald_n d_X9_wish_50 rfl g0 ?_
      refine r_iload_n d_X9_wish_51 rfl g2 ?_
      refine r_iconst d_X9_wish_52 (v := (4 : Int32)) (by decide +kernel) ?_
      refine r_iadd d_X9_wish_53 ?_
      replace e := bd e
      obtain ⟨q6, eq6, e⟩ := e
      refine g_callV d_X9_wish_54 vk_10_118 (as := [_]) rfl k1 rfl (by simp [zrf_cat, cat_int, cat_long]) (j := 1) (by omega) (c_X9_value (by omega) eq6) ?_
      refine s_istore_n d_X9_wish_57 rfl (by decide) (fun L g3 gK => ?_)
      replace g0 := gK _ _ (by decide) (Or.inr (zrf_cat _)) g0
      replace g1 := gK _ _ (by decide) (Or.inr rfl) g1
      replace g2 := gK _ _ (by decide) (Or.inr rfl) g2
      refine g_ald_n d_X9_wish_58 rfl g0 ?_
      replace e := ckd e
      obtain ⟨k7, e⟩ := e
      refine g_getR d_X9_wish_59 (f := 1004) k7 fk_10_33 rfl rfl ?_
      replace e := ckd e
      obtain ⟨k8, e⟩ := e
      refine g_getR d_X9_wish_62 (f := 501) k8 fk_10_121 rfl rfl ?_
      refine r_iload_n d_X9_wish_65 rfl g2 ?_
      refine r_iconst d_X9_wish_66 (v := (0 : Int32)) (by decide +kernel) ?_
      refine r_iadd d_X9_wish_67 ?_
      replace e := ckd e
      obtain ⟨k9, e⟩ := e
      replace e := ckd e
      obtain ⟨k10, e⟩ := e
      refine g_iald d_X9_wish_68 k9 k10 rfl ?_
      rcases ite_or e with ⟨c11, e⟩ | ⟨c11, e⟩
      · refine r_lookup d_X9_wish_69 (off := 51) (tgt := 120) (by decide +kernel) (by rw [c11] <;> rfl) (by decide) ?_
        refine g_ald_n d_X9_wish_120 rfl g0 ?_
        refine r_iconst d_X9_wish_121 (v := (1 : Int32)) (by decide +kernel) ?_
        refine g_ald_n d_X9_wish_122 rfl g0 ?_
        refine g_getR d_X9_wish_123 (f := 1004) k7 fk_10_33 rfl rfl ?_
        refine g_getR d_X9_wish_126 (f := 501) k8 fk_10_121 rfl rfl ?_
        refine r_iload_n d_X9_wish_129 rfl g2 ?_
        refine r_iconst d_X9_wish_130 (v := (2 : Int32)) (by decide +kernel) ?_
        refine r_iadd d_X9_wish_131 ?_
        replace e := ckd e
        obtain ⟨k12, e⟩ := e
        refine g_iald d_X9_wish_132 k9 k12 rfl ?_
        refine r_iload_n d_X9_wish_133 rfl g3 ?_
        replace e := bd e
        obtain ⟨q13, eq13, e⟩ := e
        refine g_callV d_X9_wish_134 vk_10_114 (as := [_, _, _]) rfl k7 rfl (by simp [zrf_cat, cat_int, cat_long]) (j := 1) (by omega) (c_X9_want (by omega) eq13) ?_
        cases e
        exact g_iret d_X9_wish_137 rfl rfl
      · rcases ite_or e with ⟨c14, e⟩ | ⟨c14, e⟩
        · refine r_lookup d_X9_wish_69 (off := 83) (tgt := 152) (by decide +kernel) (by rw [c14] <;> rfl) (by decide) ?_
          refine g_ald_n d_X9_wish_152 rfl g0 ?_
          refine r_bipush d_X9_wish_153 (v := (6 : Int32)) (by decide +kernel) ?_
          refine g_ald_n d_X9_wish_155 rfl g0 ?_
          refine g_getR d_X9_wish_156 (f := 1004) k7 fk_10_33 rfl rfl ?_
          refine g_getR d_X9_wish_159 (f := 501) k8 fk_10_121 rfl rfl ?_
          refine r_iload_n d_X9_wish_162 rfl g2 ?_
          refine r_iconst d_X9_wish_163 (v := (2 : Int32)) (by decide +kernel) ?_
          refine r_iadd d_X9_wish_164 ?_
          replace e := ckd e
          obtain ⟨k15, e⟩ := e
          refine g_iald d_X9_wish_165 k9 k15 rfl ?_
          refine r_iload_n d_X9_wish_166 rfl g3 ?_
          replace e := bd e
          obtain ⟨q16, eq16, e⟩ := e
          refine g_callV d_X9_wish_167 vk_10_114 (as := [_, _, _]) rfl k7 rfl (by simp [zrf_cat, cat_int, cat_long]) (j := 1) (by omega) (c_X9_want (by omega) eq16) ?_
          cases e
          exact g_iret d_X9_wish_170 rfl rfl
        · rcases ite_or e with ⟨c17, e⟩ | ⟨c17, e⟩
          · refine r_lookup d_X9_wish_69 (off := 130) (tgt := 199) (by decide +kernel) (by rw [c17] <;> rfl) (by decide) ?_
            refine g_ald_n d_X9_wish_199 rfl g0 ?_
            refine r_bipush d_X9_wish_200 (v := (10 : Int32)) (by decide +kernel) ?_
            refine r_iload_n d_X9_wish_202 rfl g3 ?_
            refine r_iconst d_X9_wish_203 (v := (0 : Int32)) (by decide +kernel) ?_
            replace e := bd e
            obtain ⟨q18, eq18, e⟩ := e
            refine g_callV d_X9_wish_204 vk_10_114 (as := [_, _, _]) rfl k7 rfl (by simp [zrf_cat, cat_int, cat_long]) (j := 1) (by omega) (c_X9_want (by omega) eq18) ?_
            cases e
            exact g_iret d_X9_wish_207 rfl rfl
          · rcases ite_or e with ⟨c19, e⟩ | ⟨c19, e⟩
            · refine r_lookup d_X9_wish_69 (off := 102) (tgt := 171) (by decide +kernel) (by rw [c19] <;> rfl) (by decide) ?_
              refine g_ald_n d_X9_wish_171 rfl g0 ?_
              refine r_iload_n d_X9_wish_172 rfl g3 ?_
              replace e := bd e
              obtain ⟨q20, eq20, e⟩ := e
              refine g_callV d_X9_wish_173 vk_10_127 (as := [_]) rfl k7 rfl (by simp [zrf_cat, cat_int, cat_long]) (j := 1) (by omega) (c_X9_hasKin (by omega) eq20) ?_
              refine r_if_eq d_X9_wish_176 (tgt := 197) (by decide) (fun c21 => ?_) (fun c21 => ?_)
              · replace e := (if_pos c21).symm.trans e
                refine r_iconst d_X9_wish_197 (v := (-1 : Int32)) (by decide +kernel) ?_
                cases e
                exact g_iret d_X9_wish_198 rfl rfl
              · replace e := (if_neg c21).symm.trans e
                refine g_ald_n d_X9_wish_179 rfl g0 ?_
                refine r_bipush d_X9_wish_180 (v := (9 : Int32)) (by decide +kernel) ?_
                refine r_iload_n d_X9_wish_182 rfl g3 ?_
                refine g_ald_n d_X9_wish_183 rfl g0 ?_
                refine r_iload_n d_X9_wish_184 rfl g2 ?_
                refine r_bipush d_X9_wish_185 (v := (6 : Int32)) (by decide +kernel) ?_
                refine r_iadd d_X9_wish_187 ?_
                replace e := ckd e
                obtain ⟨k23, e⟩ := e
                replace e := bd e
                obtain ⟨q22, eq22, e⟩ := e
                refine g_callV d_X9_wish_188 vk_10_118 (as := [_]) rfl k23 rfl (by simp [zrf_cat, cat_int, cat_long]) (j := 1) (by omega) (c_X9_value (by omega) eq22) ?_
                replace e := ckd e
                obtain ⟨k25, e⟩ := e
                replace e := bd e
                obtain ⟨q24, eq24, e⟩ := e
                refine g_callV d_X9_wish_191 vk_10_114 (as := [_, _, _]) rfl k25 rfl (by simp [zrf_cat, cat_int, cat_long]) (j := 1) (by omega) (c_X9_want (by omega) eq24) ?_
                refine r_goto d_X9_wish_194 (tgt := 198) (by decide) ?_
                cases e
                exact g_iret d_X9_wish_198 rfl rfl
            · rcases ite_or e with ⟨c26, e⟩ | ⟨c26, e⟩
              · refine r_lookup d_X9_wish_69 (off := 69) (tgt := 138) (by decide +kernel) (by rw [c26] <;> rfl) (by decide) ?_
                refine g_ald_n d_X9_wish_138 rfl g0 ?_
                refine r_iconst d_X9_wish_139 (v := (4 : Int32)) (by decide +kernel) ?_
                refine r_iload_n d_X9_wish_140 rfl g1 ?_
                refine r_iload_n d_X9_wish_141 rfl g3 ?_
                refine r_iconst d_X9_wish_142 (v := (0 : Int32)) (by decide +kernel) ?_
                refine g_mmax d_X9_wish_143 (by decide +kernel) (by omega) (by simp [zrf_cat, cat_int, cat_long]) ?_
                refine r_iadd d_X9_wish_146 ?_
                refine r_iconst d_X9_wish_147 (v := (0 : Int32)) (by decide +kernel) ?_
                replace e := bd e
                obtain ⟨q27, eq27, e⟩ := e
                refine g_callV d_X9_wish_148 vk_10_114 (as := [_, _, _]) rfl k7 rfl (by simp [zrf_cat, cat_int, cat_long]) (j := 1) (by omega) (c_X9_want (by omega) eq27) ?_
                cases e
                exact g_iret d_X9_wish_151 rfl rfl
              · refine r_lookup d_X9_wish_69 (off := 139) (tgt := 208) (by decide +kernel) (by rw [lv_osw c11 (by decide +kernel), lv_osw c14 (by decide +kernel), lv_osw c17 (by decide +kernel), lv_osw c19 (by decide +kernel), lv_osw c26 (by decide +kernel)] <;> rfl) (by decide) ?_
                refine r_iconst d_X9_wish_208 (v := (-1 : Int32)) (by decide +kernel) ?_
                cases e
                exact g_iret d_X9_wish_209 rfl rfl
    · replace e := (if_neg c4).symm.trans e
      refine g_ald_n d_X9_wish_33 rfl g0 ?_
      refine r_bipush d_X9_wish_34 (v := (12 : Int32)) (by decide +kernel) ?_
      refine r_iconst d_X9_wish_36 (v := (-1 : Int32)) (by decide +kernel) ?_
      refine r_iconst d_X9_wish_37 (v := (0 : Int32)) (by decide +kernel) ?_
      replace e := bd e
      obtain ⟨q28, eq28, e⟩ := e
      refine g_callV d_X9_wish_38 vk_10_114 (as := [_, _, _]) rfl k1 rfl (by simp [zrf_cat, cat_int, cat_long]) (j := 1) (by omega) (c_X9_want (by omega) eq28) ?_
      cases e
      exact g_iret d_X9_wish_41 rfl rfl
  · replace e := (if_neg c3).symm.trans e
    refine g_ald_n d_X9_wish_14 rfl g0 ?_
    refine r_bipush d_X9_wish_15 (v := (10 : Int32)) (by decide +kernel) ?_
    refine r_iconst d_X9_wish_17 (v := (0 : Int32)) (by decide +kernel) ?_
    refine r_iconst d_X9_wish_18 (v := (0 : Int32)) (by decide +kernel) ?_
    replace e := bd e
    obtain ⟨q29, eq29, e⟩ := e
    refine g_callV d_X9_wish_19 vk_10_114 (as := [_, _, _]) rfl k1 rfl (by simp [zrf_cat, cat_int, cat_long]) (j := 1) (by omega) (c_X9_want (by omega) eq29) ?_
    cases e
    exact g_iret d_X9_wish_22 rfl rfl

theorem c_X9_wish {G : Gd} {j : Nat} (hj : 2 ≤ j) {l0 : Nat} {l1 : Int32} {h : Hp} {o : (Int32 × Hp)} (e : f_X9_wish l0 l1 h = some o) : Cal G j Y_X9_wish [zrf (l0), .int (l1)] h (some (.int o.1)) o.2 := Cal.of (n := 0) (I := false) (by decide +kernel) (by decide) (by simp [lg_sl, zrf_cat, cat_int, cat_long]) (f_X9_wish_ok hj _ _ _ h o (by simp [lv_args, zlk, zrf_cat, cat_int, cat_long]) (by simp [lv_args, zlk, zrf_cat, cat_int, cat_long]) e)
