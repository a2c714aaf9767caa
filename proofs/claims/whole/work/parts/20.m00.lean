abbrev Y_X0_init : Yx := (⟨"TaskWeave$Clock", "<init>", "()V"⟩, prog_2_method_1_code, 1, none)
abbrev M_X0_init : Mx := ("TaskWeave$Clock", prog_2_method_1_code, 1, true)
theorem yk_X0_init : Yk Y_X0_init 0 := ⟨by decide +kernel, by decide +kernel, ⟨by decide, by decide⟩, by decide +kernel, by decide, trivial⟩
theorem d_X0_init_0 : decode prog_2_method_1_code 0 = .ok (.aload_n 0, 1) := by decide +kernel
theorem d_X0_init_1 : decode prog_2_method_1_code 1 = .ok (.invokespecial 1, 3) := by decide +kernel
theorem d_X0_init_4 : decode prog_2_method_1_code 4 = .ok (.return_, 1) := by decide +kernel
abbrev Y_X1_init : Yx := (⟨"TaskWeave$History", "<init>", "()V"⟩, prog_3_method_1_code, 1, none)
abbrev M_X1_init : Mx := ("TaskWeave$History", prog_3_method_1_code, 1, true)
theorem yk_X1_init : Yk Y_X1_init 0 := ⟨by decide +kernel, by decide +kernel, ⟨by decide, by decide⟩, by decide +kernel, by decide, trivial⟩
theorem d_X1_init_0 : decode prog_3_method_1_code 0 = .ok (.aload_n 0, 1) := by decide +kernel
theorem d_X1_init_1 : decode prog_3_method_1_code 1 = .ok (.invokespecial 3, 3) := by decide +kernel
theorem d_X1_init_4 : decode prog_3_method_1_code 4 = .ok (.aload_n 0, 1) := by decide +kernel
theorem d_X1_init_5 : decode prog_3_method_1_code 5 = .ok (.bipush 60, 2) := by decide +kernel
theorem d_X1_init_7 : decode prog_3_method_1_code 7 = .ok (.newarray .int, 2) := by decide +kernel
theorem d_X1_init_9 : decode prog_3_method_1_code 9 = .ok (.putfield 9, 3) := by decide +kernel
theorem d_X1_init_12 : decode prog_3_method_1_code 12 = .ok (.aload_n 0, 1) := by decide +kernel
theorem d_X1_init_13 : decode prog_3_method_1_code 13 = .ok (.bipush 60, 2) := by decide +kernel
theorem d_X1_init_15 : decode prog_3_method_1_code 15 = .ok (.newarray .int, 2) := by decide +kernel
theorem d_X1_init_17 : decode prog_3_method_1_code 17 = .ok (.putfield 15, 3) := by decide +kernel
theorem d_X1_init_20 : decode prog_3_method_1_code 20 = .ok (.aload_n 0, 1) := by decide +kernel
theorem d_X1_init_21 : decode prog_3_method_1_code 21 = .ok (.bipush 60, 2) := by decide +kernel
theorem d_X1_init_23 : decode prog_3_method_1_code 23 = .ok (.newarray .int, 2) := by decide +kernel
theorem d_X1_init_25 : decode prog_3_method_1_code 25 = .ok (.putfield 18, 3) := by decide +kernel
theorem d_X1_init_28 : decode prog_3_method_1_code 28 = .ok (.aload_n 0, 1) := by decide +kernel
theorem d_X1_init_29 : decode prog_3_method_1_code 29 = .ok (.bipush 60, 2) := by decide +kernel
theorem d_X1_init_31 : decode prog_3_method_1_code 31 = .ok (.newarray .int, 2) := by decide +kernel
theorem d_X1_init_33 : decode prog_3_method_1_code 33 = .ok (.putfield 21, 3) := by decide +kernel
theorem d_X1_init_36 : decode prog_3_method_1_code 36 = .ok (.return_, 1) := by decide +kernel
abbrev Y_X1_add : Yx := (⟨"TaskWeave$History", "add", "(IIII)V"⟩, prog_3_method_2_code, 5, none)
abbrev M_X1_add : Mx := ("TaskWeave$History", prog_3_method_2_code, 5, false)
theorem yk_X1_add : Yk Y_X1_add 4 := ⟨by decide +kernel, by decide +kernel, ⟨by decide, by decide⟩, by decide +kernel, by decide, trivial⟩
theorem d_X1_add_0 : decode prog_3_method_2_code 0 = .ok (.aload_n 0, 1) := by decide +kernel
theorem d_X1_add_1 : decode prog_3_method_2_code 1 = .ok (.getfield 24, 3) := by decide +kernel
theorem d_X1_add_4 : decode prog_3_method_2_code 4 = .ok (.bipush 60, 2) := by decide +kernel
theorem d_X1_add_6 : decode prog_3_method_2_code 6 = .ok (.if_icmp .ge 54, 3) := by decide +kernel
theorem d_X1_add_9 : decode prog_3_method_2_code 9 = .ok (.aload_n 0, 1) := by decide +kernel
theorem d_X1_add_10 : decode prog_3_method_2_code 10 = .ok (.getfield 9, 3) := by decide +kernel
theorem d_X1_add_13 : decode prog_3_method_2_code 13 = .ok (.aload_n 0, 1) := by decide +kernel
theorem d_X1_add_14 : decode prog_3_method_2_code 14 = .ok (.getfield 24, 3) := by decide +kernel
theorem d_X1_add_17 : decode prog_3_method_2_code 17 = .ok (.iload_n 1, 1) := by decide +kernel
theorem d_X1_add_18 : decode prog_3_method_2_code 18 = .ok (.iastore, 1) := by decide +kernel
theorem d_X1_add_19 : decode prog_3_method_2_code 19 = .ok (.aload_n 0, 1) := by decide +kernel
theorem d_X1_add_20 : decode prog_3_method_2_code 20 = .ok (.getfield 15, 3) := by decide +kernel
theorem d_X1_add_23 : decode prog_3_method_2_code 23 = .ok (.aload_n 0, 1) := by decide +kernel
theorem d_X1_add_24 : decode prog_3_method_2_code 24 = .ok (.getfield 24, 3) := by decide +kernel
theorem d_X1_add_27 : decode prog_3_method_2_code 27 = .ok (.iload_n 2, 1) := by decide +kernel
theorem d_X1_add_28 : decode prog_3_method_2_code 28 = .ok (.iastore, 1) := by decide +kernel
theorem d_X1_add_29 : decode prog_3_method_2_code 29 = .ok (.aload_n 0, 1) := by decide +kernel
theorem d_X1_add_30 : decode prog_3_method_2_code 30 = .ok (.getfield 18, 3) := by decide +kernel
theorem d_X1_add_33 : decode prog_3_method_2_code 33 = .ok (.aload_n 0, 1) := by decide +kernel
theorem d_X1_add_34 : decode prog_3_method_2_code 34 = .ok (.getfield 24, 3) := by decide +kernel
theorem d_X1_add_37 : decode prog_3_method_2_code 37 = .ok (.iload_n 3, 1) := by decide +kernel
theorem d_X1_add_38 : decode prog_3_method_2_code 38 = .ok (.iastore, 1) := by decide +kernel
theorem d_X1_add_39 : decode prog_3_method_2_code 39 = .ok (.aload_n 0, 1) := by decide +kernel
theorem d_X1_add_40 : decode prog_3_method_2_code 40 = .ok (.getfield 21, 3) := by decide +kernel
theorem d_X1_add_43 : decode prog_3_method_2_code 43 = .ok (.aload_n 0, 1) := by decide +kernel
theorem d_X1_add_44 : decode prog_3_method_2_code 44 = .ok (.getfield 24, 3) := by decide +kernel
theorem d_X1_add_47 : decode prog_3_method_2_code 47 = .ok (.iload 4, 2) := by decide +kernel
theorem d_X1_add_49 : decode prog_3_method_2_code 49 = .ok (.iastore, 1) := by decide +kernel
theorem d_X1_add_50 : decode prog_3_method_2_code 50 = .ok (.aload_n 0, 1) := by decide +kernel
theorem d_X1_add_51 : decode prog_3_method_2_code 51 = .ok (.dup, 1) := by decide +kernel
theorem d_X1_add_52 : decode prog_3_method_2_code 52 = .ok (.getfield 24, 3) := by decide +kernel
theorem d_X1_add_55 : decode prog_3_method_2_code 55 = .ok (.iconst 1, 1) := by decide +kernel
theorem d_X1_add_56 : decode prog_3_method_2_code 56 = .ok (.iadd, 1) := by decide +kernel
theorem d_X1_add_57 : decode prog_3_method_2_code 57 = .ok (.putfield 24, 3) := by decide +kernel
theorem d_X1_add_60 : decode prog_3_method_2_code 60 = .ok (.return_, 1) := by decide +kernel
abbrev Y_X1_count : Yx := (⟨"TaskWeave$History", "count", "(II)I"⟩, prog_3_method_3_code, 5, (some .int))
abbrev M_X1_count : Mx := ("TaskWeave$History", prog_3_method_3_code, 5, false)
theorem yk_X1_count : Yk Y_X1_count 2 := ⟨by decide +kernel, by decide +kernel, ⟨by decide, by decide⟩, by decide +kernel, by decide, trivial⟩
theorem d_X1_count_0 : decode prog_3_method_3_code 0 = .ok (.iconst 0, 1) := by decide +kernel
theorem d_X1_count_1 : decode prog_3_method_3_code 1 = .ok (.istore_n 3, 1) := by decide +kernel
theorem d_X1_count_2 : decode prog_3_method_3_code 2 = .ok (.iconst 0, 1) := by decide +kernel
theorem d_X1_count_3 : decode prog_3_method_3_code 3 = .ok (.istore 4, 2) := by decide +kernel
theorem d_X1_count_5 : decode prog_3_method_3_code 5 = .ok (.iload 4, 2) := by decide +kernel
theorem d_X1_count_7 : decode prog_3_method_3_code 7 = .ok (.iload_n 2, 1) := by decide +kernel
theorem d_X1_count_8 : decode prog_3_method_3_code 8 = .ok (.if_icmp .ge 37, 3) := by decide +kernel
theorem d_X1_count_11 : decode prog_3_method_3_code 11 = .ok (.iload 4, 2) := by decide +kernel
theorem d_X1_count_13 : decode prog_3_method_3_code 13 = .ok (.aload_n 0, 1) := by decide +kernel
theorem d_X1_count_14 : decode prog_3_method_3_code 14 = .ok (.getfield 24, 3) := by decide +kernel
theorem d_X1_count_17 : decode prog_3_method_3_code 17 = .ok (.if_icmp .ge 28, 3) := by decide +kernel
theorem d_X1_count_20 : decode prog_3_method_3_code 20 = .ok (.iload_n 3, 1) := by decide +kernel
theorem d_X1_count_21 : decode prog_3_method_3_code 21 = .ok (.aload_n 0, 1) := by decide +kernel
theorem d_X1_count_22 : decode prog_3_method_3_code 22 = .ok (.getfield 9, 3) := by decide +kernel
theorem d_X1_count_25 : decode prog_3_method_3_code 25 = .ok (.iload 4, 2) := by decide +kernel
theorem d_X1_count_27 : decode prog_3_method_3_code 27 = .ok (.iaload, 1) := by decide +kernel
theorem d_X1_count_28 : decode prog_3_method_3_code 28 = .ok (.iload_n 1, 1) := by decide +kernel
theorem d_X1_count_29 : decode prog_3_method_3_code 29 = .ok (.if_icmp .ne 7, 3) := by decide +kernel
theorem d_X1_count_32 : decode prog_3_method_3_code 32 = .ok (.iconst 1, 1) := by decide +kernel
theorem d_X1_count_33 : decode prog_3_method_3_code 33 = .ok (.goto 4, 3) := by decide +kernel
theorem d_X1_count_36 : decode prog_3_method_3_code 36 = .ok (.iconst 0, 1) := by decide +kernel
theorem d_X1_count_37 : decode prog_3_method_3_code 37 = .ok (.iadd, 1) := by decide +kernel
theorem d_X1_count_38 : decode prog_3_method_3_code 38 = .ok (.istore_n 3, 1) := by decide +kernel
theorem d_X1_count_39 : decode prog_3_method_3_code 39 = .ok (.iinc 4 1, 3) := by decide +kernel
theorem d_X1_count_42 : decode prog_3_method_3_code 42 = .ok (.goto (-37), 3) := by decide +kernel
theorem d_X1_count_45 : decode prog_3_method_3_code 45 = .ok (.iload_n 3, 1) := by decide +kernel
theorem d_X1_count_46 : decode prog_3_method_3_code 46 = .ok (.ireturn, 1) := by decide +kernel
abbrev Y_X1_placeOf : Yx := (⟨"TaskWeave$History", "placeOf", "(II)I"⟩, prog_3_method_4_code, 5, (some .int))
abbrev M_X1_placeOf : Mx := ("TaskWeave$History", prog_3_method_4_code, 5, false)
theorem yk_X1_placeOf : Yk Y_X1_placeOf 2 := ⟨by decide +kernel, by decide +kernel, ⟨by decide, by decide⟩, by decide +kernel, by decide, trivial⟩
theorem d_X1_placeOf_0 : decode prog_3_method_4_code 0 = .ok (.iload_n 2, 1) := by decide +kernel
theorem d_X1_placeOf_1 : decode prog_3_method_4_code 1 = .ok (.istore_n 3, 1) := by decide +kernel
theorem d_X1_placeOf_2 : decode prog_3_method_4_code 2 = .ok (.iconst 0, 1) := by decide +kernel
theorem d_X1_placeOf_3 : decode prog_3_method_4_code 3 = .ok (.istore 4, 2) := by decide +kernel
theorem d_X1_placeOf_5 : decode prog_3_method_4_code 5 = .ok (.iload 4, 2) := by decide +kernel
theorem d_X1_placeOf_7 : decode prog_3_method_4_code 7 = .ok (.aload_n 0, 1) := by decide +kernel
theorem d_X1_placeOf_8 : decode prog_3_method_4_code 8 = .ok (.getfield 24, 3) := by decide +kernel
theorem d_X1_placeOf_11 : decode prog_3_method_4_code 11 = .ok (.if_icmp .ge 30, 3) := by decide +kernel
theorem d_X1_placeOf_14 : decode prog_3_method_4_code 14 = .ok (.aload_n 0, 1) := by decide +kernel
theorem d_X1_placeOf_15 : decode prog_3_method_4_code 15 = .ok (.getfield 9, 3) := by decide +kernel
theorem d_X1_placeOf_18 : decode prog_3_method_4_code 18 = .ok (.iload 4, 2) := by decide +kernel
theorem d_X1_placeOf_20 : decode prog_3_method_4_code 20 = .ok (.iaload, 1) := by decide +kernel
theorem d_X1_placeOf_21 : decode prog_3_method_4_code 21 = .ok (.iload_n 1, 1) := by decide +kernel
theorem d_X1_placeOf_22 : decode prog_3_method_4_code 22 = .ok (.if_icmp .ne 13, 3) := by decide +kernel
theorem d_X1_placeOf_25 : decode prog_3_method_4_code 25 = .ok (.iload_n 3, 1) := by decide +kernel
theorem d_X1_placeOf_26 : decode prog_3_method_4_code 26 = .ok (.ifCond .ne 6, 3) := by decide +kernel
theorem d_X1_placeOf_29 : decode prog_3_method_4_code 29 = .ok (.iload 4, 2) := by decide +kernel
theorem d_X1_placeOf_31 : decode prog_3_method_4_code 31 = .ok (.ireturn, 1) := by decide +kernel
theorem d_X1_placeOf_32 : decode prog_3_method_4_code 32 = .ok (.iinc 3 (-1), 3) := by decide +kernel
theorem d_X1_placeOf_35 : decode prog_3_method_4_code 35 = .ok (.iinc 4 1, 3) := by decide +kernel
theorem d_X1_placeOf_38 : decode prog_3_method_4_code 38 = .ok (.goto (-33), 3) := by decide +kernel
theorem d_X1_placeOf_41 : decode prog_3_method_4_code 41 = .ok (.iconst (-1), 1) := by decide +kernel
theorem d_X1_placeOf_42 : decode prog_3_method_4_code 42 = .ok (.ireturn, 1) := by decide +kernel
abbrev Y_X1_endOfChild : Yx := (⟨"TaskWeave$History", "endOfChild", "(I)I"⟩, prog_3_method_5_code, 3, (some .int))
abbrev M_X1_endOfChild : Mx := ("TaskWeave$History", prog_3_method_5_code, 3, false)
theorem yk_X1_endOfChild : Yk Y_X1_endOfChild 1 := ⟨by decide +kernel, by decide +kernel, ⟨by decide, by decide⟩, by decide +kernel, by decide, trivial⟩
theorem d_X1_endOfChild_0 : decode prog_3_method_5_code 0 = .ok (.iconst 0, 1) := by decide +kernel
theorem d_X1_endOfChild_1 : decode prog_3_method_5_code 1 = .ok (.istore_n 2, 1) := by decide +kernel
theorem d_X1_endOfChild_2 : decode prog_3_method_5_code 2 = .ok (.iload_n 2, 1) := by decide +kernel
theorem d_X1_endOfChild_3 : decode prog_3_method_5_code 3 = .ok (.aload_n 0, 1) := by decide +kernel
theorem d_X1_endOfChild_4 : decode prog_3_method_5_code 4 = .ok (.getfield 24, 3) := by decide +kernel
theorem d_X1_endOfChild_7 : decode prog_3_method_5_code 7 = .ok (.if_icmp .ge 32, 3) := by decide +kernel
theorem d_X1_endOfChild_10 : decode prog_3_method_5_code 10 = .ok (.aload_n 0, 1) := by decide +kernel
theorem d_X1_endOfChild_11 : decode prog_3_method_5_code 11 = .ok (.getfield 9, 3) := by decide +kernel
theorem d_X1_endOfChild_14 : decode prog_3_method_5_code 14 = .ok (.iload_n 2, 1) := by decide +kernel
theorem d_X1_endOfChild_15 : decode prog_3_method_5_code 15 = .ok (.iaload, 1) := by decide +kernel
theorem d_X1_endOfChild_16 : decode prog_3_method_5_code 16 = .ok (.bipush 7, 2) := by decide +kernel
theorem d_X1_endOfChild_18 : decode prog_3_method_5_code 18 = .ok (.if_icmp .ne 15, 3) := by decide +kernel
theorem d_X1_endOfChild_21 : decode prog_3_method_5_code 21 = .ok (.aload_n 0, 1) := by decide +kernel
theorem d_X1_endOfChild_22 : decode prog_3_method_5_code 22 = .ok (.getfield 15, 3) := by decide +kernel
theorem d_X1_endOfChild_25 : decode prog_3_method_5_code 25 = .ok (.iload_n 2, 1) := by decide +kernel
theorem d_X1_endOfChild_26 : decode prog_3_method_5_code 26 = .ok (.iaload, 1) := by decide +kernel
theorem d_X1_endOfChild_27 : decode prog_3_method_5_code 27 = .ok (.iload_n 1, 1) := by decide +kernel
theorem d_X1_endOfChild_28 : decode prog_3_method_5_code 28 = .ok (.if_icmp .ne 5, 3) := by decide +kernel
theorem d_X1_endOfChild_31 : decode prog_3_method_5_code 31 = .ok (.iload_n 2, 1) := by decide +kernel
theorem d_X1_endOfChild_32 : decode prog_3_method_5_code 32 = .ok (.ireturn, 1) := by decide +kernel
theorem d_X1_endOfChild_33 : decode prog_3_method_5_code 33 = .ok (.iinc 2 1, 3) := by decide +kernel
theorem d_X1_endOfChild_36 : decode prog_3_method_5_code 36 = .ok (.goto (-34), 3) := by decide +kernel
theorem d_X1_endOfChild_39 : decode prog_3_method_5_code 39 = .ok (.iconst (-1), 1) := by decide +kernel
theorem d_X1_endOfChild_40 : decode prog_3_method_5_code 40 = .ok (.ireturn, 1) := by decide +kernel
abbrev Y_X1_hasSignalFrom : Yx := (⟨"TaskWeave$History", "hasSignalFrom", "(I)Z"⟩, prog_3_method_6_code, 3, (some .boolean))
abbrev M_X1_hasSignalFrom : Mx := ("TaskWeave$History", prog_3_method_6_code, 3, false)
theorem yk_X1_hasSignalFrom : Yk Y_X1_hasSignalFrom 1 := ⟨by decide +kernel, by decide +kernel, ⟨by decide, by decide⟩, by decide +kernel, by decide, trivial⟩
theorem d_X1_hasSignalFrom_0 : decode prog_3_method_6_code 0 = .ok (.iconst 0, 1) := by decide +kernel
theorem d_X1_hasSignalFrom_1 : decode prog_3_method_6_code 1 = .ok (.istore_n 2, 1) := by decide +kernel
theorem d_X1_hasSignalFrom_2 : decode prog_3_method_6_code 2 = .ok (.iload_n 2, 1) := by decide +kernel
theorem d_X1_hasSignalFrom_3 : decode prog_3_method_6_code 3 = .ok (.aload_n 0, 1) := by decide +kernel
theorem d_X1_hasSignalFrom_4 : decode prog_3_method_6_code 4 = .ok (.getfield 24, 3) := by decide +kernel
theorem d_X1_hasSignalFrom_7 : decode prog_3_method_6_code 7 = .ok (.if_icmp .ge 32, 3) := by decide +kernel
theorem d_X1_hasSignalFrom_10 : decode prog_3_method_6_code 10 = .ok (.aload_n 0, 1) := by decide +kernel
theorem d_X1_hasSignalFrom_11 : decode prog_3_method_6_code 11 = .ok (.getfield 9, 3) := by decide +kernel
theorem d_X1_hasSignalFrom_14 : decode prog_3_method_6_code 14 = .ok (.iload_n 2, 1) := by decide +kernel
theorem d_X1_hasSignalFrom_15 : decode prog_3_method_6_code 15 = .ok (.iaload, 1) := by decide +kernel
theorem d_X1_hasSignalFrom_16 : decode prog_3_method_6_code 16 = .ok (.bipush 8, 2) := by decide +kernel
theorem d_X1_hasSignalFrom_18 : decode prog_3_method_6_code 18 = .ok (.if_icmp .ne 15, 3) := by decide +kernel
theorem d_X1_hasSignalFrom_21 : decode prog_3_method_6_code 21 = .ok (.aload_n 0, 1) := by decide +kernel
theorem d_X1_hasSignalFrom_22 : decode prog_3_method_6_code 22 = .ok (.getfield 21, 3) := by decide +kernel
theorem d_X1_hasSignalFrom_25 : decode prog_3_method_6_code 25 = .ok (.iload_n 2, 1) := by decide +kernel
theorem d_X1_hasSignalFrom_26 : decode prog_3_method_6_code 26 = .ok (.iaload, 1) := by decide +kernel
theorem d_X1_hasSignalFrom_27 : decode prog_3_method_6_code 27 = .ok (.iload_n 1, 1) := by decide +kernel
theorem d_X1_hasSignalFrom_28 : decode prog_3_method_6_code 28 = .ok (.if_icmp .ne 5, 3) := by decide +kernel
theorem d_X1_hasSignalFrom_31 : decode prog_3_method_6_code 31 = .ok (.iconst 1, 1) := by decide +kernel
theorem d_X1_hasSignalFrom_32 : decode prog_3_method_6_code 32 = .ok (.ireturn, 1) := by decide +kernel
theorem d_X1_hasSignalFrom_33 : decode prog_3_method_6_code 33 = .ok (.iinc 2 1, 3) := by decide +kernel
theorem d_X1_hasSignalFrom_36 : decode prog_3_method_6_code 36 = .ok (.goto (-34), 3) := by decide +kernel
theorem d_X1_hasSignalFrom_39 : decode prog_3_method_6_code 39 = .ok (.iconst 0, 1) := by decide +kernel
theorem d_X1_hasSignalFrom_40 : decode prog_3_method_6_code 40 = .ok (.ireturn, 1) := by decide +kernel
abbrev Y_X2_init : Yx := (⟨"TaskWeave$Outbox", "<init>", "()V"⟩, prog_4_method_1_code, 1, none)
abbrev M_X2_init : Mx := ("TaskWeave$Outbox", prog_4_method_1_code, 1, true)
theorem yk_X2_init : Yk Y_X2_init 0 := ⟨by decide +kernel, by decide +kernel, ⟨by decide, by decide⟩, by decide +kernel, by decide, trivial⟩
theorem d_X2_init_0 : decode prog_4_method_1_code 0 = .ok (.aload_n 0, 1) := by decide +kernel
theorem d_X2_init_1 : decode prog_4_method_1_code 1 = .ok (.invokespecial 3, 3) := by decide +kernel
theorem d_X2_init_4 : decode prog_4_method_1_code 4 = .ok (.aload_n 0, 1) := by decide +kernel
theorem d_X2_init_5 : decode prog_4_method_1_code 5 = .ok (.bipush 16, 2) := by decide +kernel
theorem d_X2_init_7 : decode prog_4_method_1_code 7 = .ok (.newarray .int, 2) := by decide +kernel
theorem d_X2_init_9 : decode prog_4_method_1_code 9 = .ok (.putfield 9, 3) := by decide +kernel
theorem d_X2_init_12 : decode prog_4_method_1_code 12 = .ok (.aload_n 0, 1) := by decide +kernel
theorem d_X2_init_13 : decode prog_4_method_1_code 13 = .ok (.bipush 16, 2) := by decide +kernel
theorem d_X2_init_15 : decode prog_4_method_1_code 15 = .ok (.newarray .int, 2) := by decide +kernel
theorem d_X2_init_17 : decode prog_4_method_1_code 17 = .ok (.putfield 15, 3) := by decide +kernel
theorem d_X2_init_20 : decode prog_4_method_1_code 20 = .ok (.aload_n 0, 1) := by decide +kernel
theorem d_X2_init_21 : decode prog_4_method_1_code 21 = .ok (.bipush 16, 2) := by decide +kernel
theorem d_X2_init_23 : decode prog_4_method_1_code 23 = .ok (.newarray .int, 2) := by decide +kernel
theorem d_X2_init_25 : decode prog_4_method_1_code 25 = .ok (.putfield 18, 3) := by decide +kernel
theorem d_X2_init_28 : decode prog_4_method_1_code 28 = .ok (.return_, 1) := by decide +kernel
abbrev Y_J7_copyOf_59c91 : Yx := (⟨"java/util/Arrays", "copyOf", "([II)[I"⟩, prog_29_method_123_code, 3, (some (.array .int)))
abbrev M_J7_copyOf_59c91 : Mx := ("java/util/Arrays", prog_29_method_123_code, 3, false)
theorem yk_J7_copyOf_59c91 : Yk Y_J7_copyOf_59c91 2 := ⟨by decide +kernel, by decide +kernel, ⟨by decide, by decide⟩, by decide +kernel, by decide, trivial⟩
theorem d_J7_copyOf_59c91_0 : decode prog_29_method_123_code 0 = .ok (.iload_n 1, 1) := by decide +kernel
theorem d_J7_copyOf_59c91_1 : decode prog_29_method_123_code 1 = .ok (.aload_n 0, 1) := by decide +kernel
theorem d_J7_copyOf_59c91_2 : decode prog_29_method_123_code 2 = .ok (.arraylength, 1) := by decide +kernel
theorem d_J7_copyOf_59c91_3 : decode prog_29_method_123_code 3 = .ok (.if_icmp .ne 11, 3) := by decide +kernel
theorem d_J7_copyOf_59c91_6 : decode prog_29_method_123_code 6 = .ok (.aload_n 0, 1) := by decide +kernel
theorem d_J7_copyOf_59c91_7 : decode prog_29_method_123_code 7 = .ok (.invokevirtual 316, 3) := by decide +kernel
theorem d_J7_copyOf_59c91_10 : decode prog_29_method_123_code 10 = .ok (.checkcast 317, 3) := by decide +kernel
theorem d_J7_copyOf_59c91_13 : decode prog_29_method_123_code 13 = .ok (.areturn, 1) := by decide +kernel
theorem d_J7_copyOf_59c91_14 : decode prog_29_method_123_code 14 = .ok (.iload_n 1, 1) := by decide +kernel
theorem d_J7_copyOf_59c91_15 : decode prog_29_method_123_code 15 = .ok (.newarray .int, 2) := by decide +kernel
theorem d_J7_copyOf_59c91_17 : decode prog_29_method_123_code 17 = .ok (.astore_n 2, 1) := by decide +kernel
theorem d_J7_copyOf_59c91_18 : decode prog_29_method_123_code 18 = .ok (.aload_n 0, 1) := by decide +kernel
theorem d_J7_copyOf_59c91_19 : decode prog_29_method_123_code 19 = .ok (.iconst 0, 1) := by decide +kernel
theorem d_J7_copyOf_59c91_20 : decode prog_29_method_123_code 20 = .ok (.aload_n 2, 1) := by decide +kernel
theorem d_J7_copyOf_59c91_21 : decode prog_29_method_123_code 21 = .ok (.iconst 0, 1) := by decide +kernel
theorem d_J7_copyOf_59c91_22 : decode prog_29_method_123_code 22 = .ok (.aload_n 0, 1) := by decide +kernel
theorem d_J7_copyOf_59c91_23 : decode prog_29_method_123_code 23 = .ok (.arraylength, 1) := by decide +kernel
theorem d_J7_copyOf_59c91_24 : decode prog_29_method_123_code 24 = .ok (.iload_n 1, 1) := by decide +kernel
theorem d_J7_copyOf_59c91_25 : decode prog_29_method_123_code 25 = .ok (.invokestatic 304, 3) := by decide +kernel
theorem d_J7_copyOf_59c91_28 : decode prog_29_method_123_code 28 = .ok (.invokestatic 150, 3) := by decide +kernel
theorem d_J7_copyOf_59c91_31 : decode prog_29_method_123_code 31 = .ok (.aload_n 2, 1) := by decide +kernel
theorem d_J7_copyOf_59c91_32 : decode prog_29_method_123_code 32 = .ok (.areturn, 1) := by decide +kernel
abbrev Y_X2_add : Yx := (⟨"TaskWeave$Outbox", "add", "(III)V"⟩, prog_4_method_2_code, 4, none)
abbrev M_X2_add : Mx := ("TaskWeave$Outbox", prog_4_method_2_code, 4, false)
theorem yk_X2_add : Yk Y_X2_add 3 := ⟨by decide +kernel, by decide +kernel, ⟨by decide, by decide⟩, by decide +kernel, by decide, trivial⟩
theorem d_X2_add_0 : decode prog_4_method_2_code 0 = .ok (.aload_n 0, 1) := by decide +kernel
theorem d_X2_add_1 : decode prog_4_method_2_code 1 = .ok (.getfield 21, 3) := by decide +kernel
theorem d_X2_add_4 : decode prog_4_method_2_code 4 = .ok (.aload_n 0, 1) := by decide +kernel
theorem d_X2_add_5 : decode prog_4_method_2_code 5 = .ok (.getfield 9, 3) := by decide +kernel
theorem d_X2_add_8 : decode prog_4_method_2_code 8 = .ok (.arraylength, 1) := by decide +kernel
theorem d_X2_add_9 : decode prog_4_method_2_code 9 = .ok (.if_icmp .ne 54, 3) := by decide +kernel
theorem d_X2_add_12 : decode prog_4_method_2_code 12 = .ok (.aload_n 0, 1) := by decide +kernel
theorem d_X2_add_13 : decode prog_4_method_2_code 13 = .ok (.aload_n 0, 1) := by decide +kernel
theorem d_X2_add_14 : decode prog_4_method_2_code 14 = .ok (.getfield 9, 3) := by decide +kernel
theorem d_X2_add_17 : decode prog_4_method_2_code 17 = .ok (.iconst 2, 1) := by decide +kernel
theorem d_X2_add_18 : decode prog_4_method_2_code 18 = .ok (.aload_n 0, 1) := by decide +kernel
theorem d_X2_add_19 : decode prog_4_method_2_code 19 = .ok (.getfield 21, 3) := by decide +kernel
theorem d_X2_add_22 : decode prog_4_method_2_code 22 = .ok (.imul, 1) := by decide +kernel
theorem d_X2_add_23 : decode prog_4_method_2_code 23 = .ok (.invokestatic 25, 3) := by decide +kernel
theorem d_X2_add_26 : decode prog_4_method_2_code 26 = .ok (.putfield 9, 3) := by decide +kernel
theorem d_X2_add_29 : decode prog_4_method_2_code 29 = .ok (.aload_n 0, 1) := by decide +kernel
theorem d_X2_add_30 : decode prog_4_method_2_code 30 = .ok (.aload_n 0, 1) := by decide +kernel
theorem d_X2_add_31 : decode prog_4_method_2_code 31 = .ok (.getfield 15, 3) := by decide +kernel
theorem d_X2_add_34 : decode prog_4_method_2_code 34 = .ok (.iconst 2, 1) := by decide +kernel
theorem d_X2_add_35 : decode prog_4_method_2_code 35 = .ok (.aload_n 0, 1) := by decide +kernel
theorem d_X2_add_36 : decode prog_4_method_2_code 36 = .ok (.getfield 21, 3) := by decide +kernel
theorem d_X2_add_39 : decode prog_4_method_2_code 39 = .ok (.imul, 1) := by decide +kernel
theorem d_X2_add_40 : decode prog_4_method_2_code 40 = .ok (.invokestatic 25, 3) := by decide +kernel
theorem d_X2_add_43 : decode prog_4_method_2_code 43 = .ok (.putfield 15, 3) := by decide +kernel
theorem d_X2_add_46 : decode prog_4_method_2_code 46 = .ok (.aload_n 0, 1) := by decide +kernel
theorem d_X2_add_47 : decode prog_4_method_2_code 47 = .ok (.aload_n 0, 1) := by decide +kernel
theorem d_X2_add_48 : decode prog_4_method_2_code 48 = .ok (.getfield 18, 3) := by decide +kernel
theorem d_X2_add_51 : decode prog_4_method_2_code 51 = .ok (.iconst 2, 1) := by decide +kernel
theorem d_X2_add_52 : decode prog_4_method_2_code 52 = .ok (.aload_n 0, 1) := by decide +kernel
theorem d_X2_add_53 : decode prog_4_method_2_code 53 = .ok (.getfield 21, 3) := by decide +kernel
theorem d_X2_add_56 : decode prog_4_method_2_code 56 = .ok (.imul, 1) := by decide +kernel
theorem d_X2_add_57 : decode prog_4_method_2_code 57 = .ok (.invokestatic 25, 3) := by decide +kernel
theorem d_X2_add_60 : decode prog_4_method_2_code 60 = .ok (.putfield 18, 3) := by decide +kernel
theorem d_X2_add_63 : decode prog_4_method_2_code 63 = .ok (.aload_n 0, 1) := by decide +kernel
theorem d_X2_add_64 : decode prog_4_method_2_code 64 = .ok (.getfield 9, 3) := by decide +kernel
theorem d_X2_add_67 : decode prog_4_method_2_code 67 = .ok (.aload_n 0, 1) := by decide +kernel
theorem d_X2_add_68 : decode prog_4_method_2_code 68 = .ok (.getfield 21, 3) := by decide +kernel
theorem d_X2_add_71 : decode prog_4_method_2_code 71 = .ok (.iload_n 1, 1) := by decide +kernel
theorem d_X2_add_72 : decode prog_4_method_2_code 72 = .ok (.iastore, 1) := by decide +kernel
theorem d_X2_add_73 : decode prog_4_method_2_code 73 = .ok (.aload_n 0, 1) := by decide +kernel
theorem d_X2_add_74 : decode prog_4_method_2_code 74 = .ok (.getfield 15, 3) := by decide +kernel
theorem d_X2_add_77 : decode prog_4_method_2_code 77 = .ok (.aload_n 0, 1) := by decide +kernel
theorem d_X2_add_78 : decode prog_4_method_2_code 78 = .ok (.getfield 21, 3) := by decide +kernel
theorem d_X2_add_81 : decode prog_4_method_2_code 81 = .ok (.iload_n 2, 1) := by decide +kernel
theorem d_X2_add_82 : decode prog_4_method_2_code 82 = .ok (.iastore, 1) := by decide +kernel
theorem d_X2_add_83 : decode prog_4_method_2_code 83 = .ok (.aload_n 0, 1) := by decide +kernel
theorem d_X2_add_84 : decode prog_4_method_2_code 84 = .ok (.getfield 18, 3) := by decide +kernel
theorem d_X2_add_87 : decode prog_4_method_2_code 87 = .ok (.aload_n 0, 1) := by decide +kernel
theorem d_X2_add_88 : decode prog_4_method_2_code 88 = .ok (.getfield 21, 3) := by decide +kernel
theorem d_X2_add_91 : decode prog_4_method_2_code 91 = .ok (.iload_n 3, 1) := by decide +kernel
theorem d_X2_add_92 : decode prog_4_method_2_code 92 = .ok (.iastore, 1) := by decide +kernel
theorem d_X2_add_93 : decode prog_4_method_2_code 93 = .ok (.aload_n 0, 1) := by decide +kernel
theorem d_X2_add_94 : decode prog_4_method_2_code 94 = .ok (.dup, 1) := by decide +kernel
theorem d_X2_add_95 : decode prog_4_method_2_code 95 = .ok (.getfield 21, 3) := by decide +kernel
theorem d_X2_add_98 : decode prog_4_method_2_code 98 = .ok (.iconst 1, 1) := by decide +kernel
theorem d_X2_add_99 : decode prog_4_method_2_code 99 = .ok (.iadd, 1) := by decide +kernel
theorem d_X2_add_100 : decode prog_4_method_2_code 100 = .ok (.putfield 21, 3) := by decide +kernel
theorem d_X2_add_103 : decode prog_4_method_2_code 103 = .ok (.return_, 1) := by decide +kernel
abbrev Y_X2_firstBehind : Yx := (⟨"TaskWeave$Outbox", "firstBehind", "(I)I"⟩, prog_4_method_3_code, 3, (some .int))
abbrev M_X2_firstBehind : Mx := ("TaskWeave$Outbox", prog_4_method_3_code, 3, false)
theorem yk_X2_firstBehind : Yk Y_X2_firstBehind 1 := ⟨by decide +kernel, by decide +kernel, ⟨by decide, by decide⟩, by decide +kernel, by decide, trivial⟩
theorem d_X2_firstBehind_0 : decode prog_4_method_3_code 0 = .ok (.iconst 0, 1) := by decide +kernel
theorem d_X2_firstBehind_1 : decode prog_4_method_3_code 1 = .ok (.istore_n 2, 1) := by decide +kernel
theorem d_X2_firstBehind_2 : decode prog_4_method_3_code 2 = .ok (.iload_n 2, 1) := by decide +kernel
theorem d_X2_firstBehind_3 : decode prog_4_method_3_code 3 = .ok (.aload_n 0, 1) := by decide +kernel
theorem d_X2_firstBehind_4 : decode prog_4_method_3_code 4 = .ok (.getfield 21, 3) := by decide +kernel
theorem d_X2_firstBehind_7 : decode prog_4_method_3_code 7 = .ok (.if_icmp .ge 21, 3) := by decide +kernel
theorem d_X2_firstBehind_10 : decode prog_4_method_3_code 10 = .ok (.aload_n 0, 1) := by decide +kernel
theorem d_X2_firstBehind_11 : decode prog_4_method_3_code 11 = .ok (.getfield 9, 3) := by decide +kernel
theorem d_X2_firstBehind_14 : decode prog_4_method_3_code 14 = .ok (.iload_n 2, 1) := by decide +kernel
theorem d_X2_firstBehind_15 : decode prog_4_method_3_code 15 = .ok (.iaload, 1) := by decide +kernel
theorem d_X2_firstBehind_16 : decode prog_4_method_3_code 16 = .ok (.iload_n 1, 1) := by decide +kernel
theorem d_X2_firstBehind_17 : decode prog_4_method_3_code 17 = .ok (.if_icmp .le 5, 3) := by decide +kernel
theorem d_X2_firstBehind_20 : decode prog_4_method_3_code 20 = .ok (.iload_n 2, 1) := by decide +kernel
theorem d_X2_firstBehind_21 : decode prog_4_method_3_code 21 = .ok (.ireturn, 1) := by decide +kernel
theorem d_X2_firstBehind_22 : decode prog_4_method_3_code 22 = .ok (.iinc 2 1, 3) := by decide +kernel
theorem d_X2_firstBehind_25 : decode prog_4_method_3_code 25 = .ok (.goto (-23), 3) := by decide +kernel
theorem d_X2_firstBehind_28 : decode prog_4_method_3_code 28 = .ok (.iconst (-1), 1) := by decide +kernel
theorem d_X2_firstBehind_29 : decode prog_4_method_3_code 29 = .ok (.ireturn, 1) := by decide +kernel
abbrev Y_X2_remove : Yx := (⟨"TaskWeave$Outbox", "remove", "(I)V"⟩, prog_4_method_4_code, 4, none)
abbrev M_X2_remove : Mx := ("TaskWeave$Outbox", prog_4_method_4_code, 4, false)
theorem yk_X2_remove : Yk Y_X2_remove 1 := ⟨by decide +kernel, by decide +kernel, ⟨by decide, by decide⟩, by decide +kernel, by decide, trivial⟩
theorem d_X2_remove_0 : decode prog_4_method_4_code 0 = .ok (.iconst 0, 1) := by decide +kernel
theorem d_X2_remove_1 : decode prog_4_method_4_code 1 = .ok (.istore_n 2, 1) := by decide +kernel
theorem d_X2_remove_2 : decode prog_4_method_4_code 2 = .ok (.iconst 0, 1) := by decide +kernel
theorem d_X2_remove_3 : decode prog_4_method_4_code 3 = .ok (.istore_n 3, 1) := by decide +kernel
theorem d_X2_remove_4 : decode prog_4_method_4_code 4 = .ok (.iload_n 3, 1) := by decide +kernel
theorem d_X2_remove_5 : decode prog_4_method_4_code 5 = .ok (.aload_n 0, 1) := by decide +kernel
theorem d_X2_remove_6 : decode prog_4_method_4_code 6 = .ok (.getfield 21, 3) := by decide +kernel
theorem d_X2_remove_9 : decode prog_4_method_4_code 9 = .ok (.if_icmp .ge 58, 3) := by decide +kernel
theorem d_X2_remove_12 : decode prog_4_method_4_code 12 = .ok (.aload_n 0, 1) := by decide +kernel
theorem d_X2_remove_13 : decode prog_4_method_4_code 13 = .ok (.getfield 9, 3) := by decide +kernel
theorem d_X2_remove_16 : decode prog_4_method_4_code 16 = .ok (.iload_n 3, 1) := by decide +kernel
theorem d_X2_remove_17 : decode prog_4_method_4_code 17 = .ok (.iaload, 1) := by decide +kernel
theorem d_X2_remove_18 : decode prog_4_method_4_code 18 = .ok (.iload_n 1, 1) := by decide +kernel
theorem d_X2_remove_19 : decode prog_4_method_4_code 19 = .ok (.if_icmp .eq 42, 3) := by decide +kernel
theorem d_X2_remove_22 : decode prog_4_method_4_code 22 = .ok (.aload_n 0, 1) := by decide +kernel
theorem d_X2_remove_23 : decode prog_4_method_4_code 23 = .ok (.getfield 9, 3) := by decide +kernel
theorem d_X2_remove_26 : decode prog_4_method_4_code 26 = .ok (.iload_n 2, 1) := by decide +kernel
theorem d_X2_remove_27 : decode prog_4_method_4_code 27 = .ok (.aload_n 0, 1) := by decide +kernel
theorem d_X2_remove_28 : decode prog_4_method_4_code 28 = .ok (.getfield 9, 3) := by decide +kernel
theorem d_X2_remove_31 : decode prog_4_method_4_code 31 = .ok (.iload_n 3, 1) := by decide +kernel
theorem d_X2_remove_32 : decode prog_4_method_4_code 32 = .ok (.iaload, 1) := by decide +kernel
theorem d_X2_remove_33 : decode prog_4_method_4_code 33 = .ok (.iastore, 1) := by decide +kernel
theorem d_X2_remove_34 : decode prog_4_method_4_code 34 = .ok (.aload_n 0, 1) := by decide +kernel
theorem d_X2_remove_35 : decode prog_4_method_4_code 35 = .ok (.getfield 15, 3) := by decide +kernel
theorem d_X2_remove_38 : decode prog_4_method_4_code 38 = .ok (.iload_n 2, 1) := by decide +kernel
theorem d_X2_remove_39 : decode prog_4_method_4_code 39 = .ok (.aload_n 0, 1) := by decide +kernel
theorem d_X2_remove_40 : decode prog_4_method_4_code 40 = .ok (.getfield 15, 3) := by decide +kernel
theorem d_X2_remove_43 : decode prog_4_method_4_code 43 = .ok (.iload_n 3, 1) := by decide +kernel
theorem d_X2_remove_44 : decode prog_4_method_4_code 44 = .ok (.iaload, 1) := by decide +kernel
theorem d_X2_remove_45 : decode prog_4_method_4_code 45 = .ok (.iastore, 1) := by decide +kernel
theorem d_X2_remove_46 : decode prog_4_method_4_code 46 = .ok (.aload_n 0, 1) := by decide +kernel
theorem d_X2_remove_47 : decode prog_4_method_4_code 47 = .ok (.getfield 18, 3) := by decide +kernel
theorem d_X2_remove_50 : decode prog_4_method_4_code 50 = .ok (.iload_n 2, 1) := by decide +kernel
theorem d_X2_remove_51 : decode prog_4_method_4_code 51 = .ok (.aload_n 0, 1) := by decide +kernel
theorem d_X2_remove_52 : decode prog_4_method_4_code 52 = .ok (.getfield 18, 3) := by decide +kernel
theorem d_X2_remove_55 : decode prog_4_method_4_code 55 = .ok (.iload_n 3, 1) := by decide +kernel
theorem d_X2_remove_56 : decode prog_4_method_4_code 56 = .ok (.iaload, 1) := by decide +kernel
theorem d_X2_remove_57 : decode prog_4_method_4_code 57 = .ok (.iastore, 1) := by decide +kernel
theorem d_X2_remove_58 : decode prog_4_method_4_code 58 = .ok (.iinc 2 1, 3) := by decide +kernel
theorem d_X2_remove_61 : decode prog_4_method_4_code 61 = .ok (.iinc 3 1, 3) := by decide +kernel
theorem d_X2_remove_64 : decode prog_4_method_4_code 64 = .ok (.goto (-60), 3) := by decide +kernel
theorem d_X2_remove_67 : decode prog_4_method_4_code 67 = .ok (.aload_n 0, 1) := by decide +kernel
theorem d_X2_remove_68 : decode prog_4_method_4_code 68 = .ok (.iload_n 2, 1) := by decide +kernel
theorem d_X2_remove_69 : decode prog_4_method_4_code 69 = .ok (.putfield 21, 3) := by decide +kernel
theorem d_X2_remove_72 : decode prog_4_method_4_code 72 = .ok (.return_, 1) := by decide +kernel
abbrev Y_X3_init : Yx := (⟨"TaskWeave$Parser", "<init>", "()V"⟩, prog_5_method_1_code, 1, none)
abbrev M_X3_init : Mx := ("TaskWeave$Parser", prog_5_method_1_code, 1, true)
theorem yk_X3_init : Yk Y_X3_init 0 := ⟨by decide +kernel, by decide +kernel, ⟨by decide, by decide⟩, by decide +kernel, by decide, trivial⟩
theorem d_X3_init_0 : decode prog_5_method_1_code 0 = .ok (.aload_n 0, 1) := by decide +kernel
theorem d_X3_init_1 : decode prog_5_method_1_code 1 = .ok (.invokespecial 3, 3) := by decide +kernel
theorem d_X3_init_4 : decode prog_5_method_1_code 4 = .ok (.aload_n 0, 1) := by decide +kernel
theorem d_X3_init_5 : decode prog_5_method_1_code 5 = .ok (.sipush 300, 3) := by decide +kernel
theorem d_X3_init_8 : decode prog_5_method_1_code 8 = .ok (.newarray .char, 2) := by decide +kernel
theorem d_X3_init_10 : decode prog_5_method_1_code 10 = .ok (.putfield 9, 3) := by decide +kernel
theorem d_X3_init_13 : decode prog_5_method_1_code 13 = .ok (.aload_n 0, 1) := by decide +kernel
theorem d_X3_init_14 : decode prog_5_method_1_code 14 = .ok (.sipush 480, 3) := by decide +kernel
theorem d_X3_init_17 : decode prog_5_method_1_code 17 = .ok (.newarray .int, 2) := by decide +kernel
theorem d_X3_init_19 : decode prog_5_method_1_code 19 = .ok (.putfield 15, 3) := by decide +kernel
theorem d_X3_init_22 : decode prog_5_method_1_code 22 = .ok (.aload_n 0, 1) := by decide +kernel
theorem d_X3_init_23 : decode prog_5_method_1_code 23 = .ok (.bipush 10, 2) := by decide +kernel
theorem d_X3_init_25 : decode prog_5_method_1_code 25 = .ok (.newarray .int, 2) := by decide +kernel
theorem d_X3_init_27 : decode prog_5_method_1_code 27 = .ok (.putfield 19, 3) := by decide +kernel
theorem d_X3_init_30 : decode prog_5_method_1_code 30 = .ok (.aload_n 0, 1) := by decide +kernel
theorem d_X3_init_31 : decode prog_5_method_1_code 31 = .ok (.iconst (-1), 1) := by decide +kernel
theorem d_X3_init_32 : decode prog_5_method_1_code 32 = .ok (.putfield 22, 3) := by decide +kernel
theorem d_X3_init_35 : decode prog_5_method_1_code 35 = .ok (.return_, 1) := by decide +kernel
abbrev Y_X3_append : Yx := (⟨"TaskWeave$Parser", "append", "(JI)Z"⟩, prog_5_method_2_code, 7, (some .boolean))
abbrev M_X3_append : Mx := ("TaskWeave$Parser", prog_5_method_2_code, 7, false)
theorem yk_X3_append : Yk Y_X3_append 2 := ⟨by decide +kernel, by decide +kernel, ⟨by decide, by decide⟩, by decide +kernel, by decide, trivial⟩
theorem d_X3_append_0 : decode prog_5_method_2_code 0 = .ok (.iload_n 3, 1) := by decide +kernel
theorem d_X3_append_1 : decode prog_5_method_2_code 1 = .ok (.iconst 1, 1) := by decide +kernel
theorem d_X3_append_2 : decode prog_5_method_2_code 2 = .ok (.if_icmp .lt 21, 3) := by decide +kernel
theorem d_X3_append_5 : decode prog_5_method_2_code 5 = .ok (.iload_n 3, 1) := by decide +kernel
theorem d_X3_append_6 : decode prog_5_method_2_code 6 = .ok (.bipush 8, 2) := by decide +kernel
theorem d_X3_append_8 : decode prog_5_method_2_code 8 = .ok (.if_icmp .gt 15, 3) := by decide +kernel
theorem d_X3_append_11 : decode prog_5_method_2_code 11 = .ok (.aload_n 0, 1) := by decide +kernel
theorem d_X3_append_12 : decode prog_5_method_2_code 12 = .ok (.getfield 26, 3) := by decide +kernel
theorem d_X3_append_15 : decode prog_5_method_2_code 15 = .ok (.iload_n 3, 1) := by decide +kernel
theorem d_X3_append_16 : decode prog_5_method_2_code 16 = .ok (.iadd, 1) := by decide +kernel
theorem d_X3_append_17 : decode prog_5_method_2_code 17 = .ok (.sipush 300, 3) := by decide +kernel
theorem d_X3_append_20 : decode prog_5_method_2_code 20 = .ok (.if_icmp .le 5, 3) := by decide +kernel
theorem d_X3_append_23 : decode prog_5_method_2_code 23 = .ok (.iconst 0, 1) := by decide +kernel
theorem d_X3_append_24 : decode prog_5_method_2_code 24 = .ok (.ireturn, 1) := by decide +kernel
theorem d_X3_append_25 : decode prog_5_method_2_code 25 = .ok (.iconst 0, 1) := by decide +kernel
theorem d_X3_append_26 : decode prog_5_method_2_code 26 = .ok (.istore 4, 2) := by decide +kernel
theorem d_X3_append_28 : decode prog_5_method_2_code 28 = .ok (.iload 4, 2) := by decide +kernel
theorem d_X3_append_30 : decode prog_5_method_2_code 30 = .ok (.iload_n 3, 1) := by decide +kernel
theorem d_X3_append_31 : decode prog_5_method_2_code 31 = .ok (.if_icmp .ge 42, 3) := by decide +kernel
theorem d_X3_append_34 : decode prog_5_method_2_code 34 = .ok (.lload_n 1, 1) := by decide +kernel
theorem d_X3_append_35 : decode prog_5_method_2_code 35 = .ok (.bipush 8, 2) := by decide +kernel
theorem d_X3_append_37 : decode prog_5_method_2_code 37 = .ok (.iload 4, 2) := by decide +kernel
theorem d_X3_append_39 : decode prog_5_method_2_code 39 = .ok (.imul, 1) := by decide +kernel
theorem d_X3_append_40 : decode prog_5_method_2_code 40 = .ok (.lushr, 1) := by decide +kernel
theorem d_X3_append_41 : decode prog_5_method_2_code 41 = .ok (.ldc2_w 29, 3) := by decide +kernel
theorem d_X3_append_44 : decode prog_5_method_2_code 44 = .ok (.land, 1) := by decide +kernel
theorem d_X3_append_45 : decode prog_5_method_2_code 45 = .ok (.lstore 5, 2) := by decide +kernel
theorem d_X3_append_47 : decode prog_5_method_2_code 47 = .ok (.lload 5, 2) := by decide +kernel
theorem d_X3_append_49 : decode prog_5_method_2_code 49 = .ok (.ldc2_w 31, 3) := by decide +kernel
theorem d_X3_append_52 : decode prog_5_method_2_code 52 = .ok (.lcmp, 1) := by decide +kernel
theorem d_X3_append_53 : decode prog_5_method_2_code 53 = .ok (.ifCond .lt 12, 3) := by decide +kernel
theorem d_X3_append_56 : decode prog_5_method_2_code 56 = .ok (.lload 5, 2) := by decide +kernel
theorem d_X3_append_58 : decode prog_5_method_2_code 58 = .ok (.ldc2_w 33, 3) := by decide +kernel
theorem d_X3_append_61 : decode prog_5_method_2_code 61 = .ok (.lcmp, 1) := by decide +kernel
theorem d_X3_append_62 : decode prog_5_method_2_code 62 = .ok (.ifCond .le 5, 3) := by decide +kernel
theorem d_X3_append_65 : decode prog_5_method_2_code 65 = .ok (.iconst 0, 1) := by decide +kernel
theorem d_X3_append_66 : decode prog_5_method_2_code 66 = .ok (.ireturn, 1) := by decide +kernel
theorem d_X3_append_67 : decode prog_5_method_2_code 67 = .ok (.iinc 4 1, 3) := by decide +kernel
theorem d_X3_append_70 : decode prog_5_method_2_code 70 = .ok (.goto (-42), 3) := by decide +kernel
theorem d_X3_append_73 : decode prog_5_method_2_code 73 = .ok (.iload_n 3, 1) := by decide +kernel
theorem d_X3_append_74 : decode prog_5_method_2_code 74 = .ok (.iconst 1, 1) := by decide +kernel
theorem d_X3_append_75 : decode prog_5_method_2_code 75 = .ok (.isub, 1) := by decide +kernel
theorem d_X3_append_76 : decode prog_5_method_2_code 76 = .ok (.istore 4, 2) := by decide +kernel
theorem d_X3_append_78 : decode prog_5_method_2_code 78 = .ok (.iload 4, 2) := by decide +kernel
theorem d_X3_append_80 : decode prog_5_method_2_code 80 = .ok (.ifCond .lt 41, 3) := by decide +kernel
theorem d_X3_append_83 : decode prog_5_method_2_code 83 = .ok (.aload_n 0, 1) := by decide +kernel
theorem d_X3_append_84 : decode prog_5_method_2_code 84 = .ok (.getfield 9, 3) := by decide +kernel
theorem d_X3_append_87 : decode prog_5_method_2_code 87 = .ok (.aload_n 0, 1) := by decide +kernel
theorem d_X3_append_88 : decode prog_5_method_2_code 88 = .ok (.getfield 26, 3) := by decide +kernel
theorem d_X3_append_91 : decode prog_5_method_2_code 91 = .ok (.lload_n 1, 1) := by decide +kernel
theorem d_X3_append_92 : decode prog_5_method_2_code 92 = .ok (.bipush 8, 2) := by decide +kernel
theorem d_X3_append_94 : decode prog_5_method_2_code 94 = .ok (.iload 4, 2) := by decide +kernel
theorem d_X3_append_96 : decode prog_5_method_2_code 96 = .ok (.imul, 1) := by decide +kernel
theorem d_X3_append_97 : decode prog_5_method_2_code 97 = .ok (.lushr, 1) := by decide +kernel
theorem d_X3_append_98 : decode prog_5_method_2_code 98 = .ok (.ldc2_w 29, 3) := by decide +kernel
theorem d_X3_append_101 : decode prog_5_method_2_code 101 = .ok (.land, 1) := by decide +kernel
theorem d_X3_append_102 : decode prog_5_method_2_code 102 = .ok (.l2i, 1) := by decide +kernel
theorem d_X3_append_103 : decode prog_5_method_2_code 103 = .ok (.i2c, 1) := by decide +kernel
theorem d_X3_append_104 : decode prog_5_method_2_code 104 = .ok (.castore, 1) := by decide +kernel
theorem d_X3_append_105 : decode prog_5_method_2_code 105 = .ok (.aload_n 0, 1) := by decide +kernel
theorem d_X3_append_106 : decode prog_5_method_2_code 106 = .ok (.dup, 1) := by decide +kernel
theorem d_X3_append_107 : decode prog_5_method_2_code 107 = .ok (.getfield 26, 3) := by decide +kernel
theorem d_X3_append_110 : decode prog_5_method_2_code 110 = .ok (.iconst 1, 1) := by decide +kernel
theorem d_X3_append_111 : decode prog_5_method_2_code 111 = .ok (.iadd, 1) := by decide +kernel
theorem d_X3_append_112 : decode prog_5_method_2_code 112 = .ok (.putfield 26, 3) := by decide +kernel
theorem d_X3_append_115 : decode prog_5_method_2_code 115 = .ok (.iinc 4 (-1), 3) := by decide +kernel
theorem d_X3_append_118 : decode prog_5_method_2_code 118 = .ok (.goto (-40), 3) := by decide +kernel
theorem d_X3_append_121 : decode prog_5_method_2_code 121 = .ok (.iconst 1, 1) := by decide +kernel
theorem d_X3_append_122 : decode prog_5_method_2_code 122 = .ok (.ireturn, 1) := by decide +kernel
abbrev Y_X3_clear : Yx := (⟨"TaskWeave$Parser", "clear", "()V"⟩, prog_5_method_3_code, 1, none)
abbrev M_X3_clear : Mx := ("TaskWeave$Parser", prog_5_method_3_code, 1, false)
theorem yk_X3_clear : Yk Y_X3_clear 0 := ⟨by decide +kernel, by decide +kernel, ⟨by decide, by decide⟩, by decide +kernel, by decide, trivial⟩
theorem d_X3_clear_0 : decode prog_5_method_3_code 0 = .ok (.aload_n 0, 1) := by decide +kernel
theorem d_X3_clear_1 : decode prog_5_method_3_code 1 = .ok (.iconst 0, 1) := by decide +kernel
theorem d_X3_clear_2 : decode prog_5_method_3_code 2 = .ok (.putfield 26, 3) := by decide +kernel
theorem d_X3_clear_5 : decode prog_5_method_3_code 5 = .ok (.aload_n 0, 1) := by decide +kernel
theorem d_X3_clear_6 : decode prog_5_method_3_code 6 = .ok (.iconst (-1), 1) := by decide +kernel
theorem d_X3_clear_7 : decode prog_5_method_3_code 7 = .ok (.putfield 22, 3) := by decide +kernel
theorem d_X3_clear_10 : decode prog_5_method_3_code 10 = .ok (.return_, 1) := by decide +kernel
abbrev Y_X3_linkLabels : Yx := (⟨"TaskWeave$Parser", "linkLabels", "(I)I"⟩, prog_5_method_6_code, 4, (some .int))
abbrev M_X3_linkLabels : Mx := ("TaskWeave$Parser", prog_5_method_6_code, 4, false)
theorem yk_X3_linkLabels : Yk Y_X3_linkLabels 1 := ⟨by decide +kernel, by decide +kernel, ⟨by decide, by decide⟩, by decide +kernel, by decide, trivial⟩
theorem d_X3_linkLabels_0 : decode prog_5_method_6_code 0 = .ok (.iconst 0, 1) := by decide +kernel
theorem d_X3_linkLabels_1 : decode prog_5_method_6_code 1 = .ok (.istore_n 2, 1) := by decide +kernel
theorem d_X3_linkLabels_2 : decode prog_5_method_6_code 2 = .ok (.iload_n 2, 1) := by decide +kernel
theorem d_X3_linkLabels_3 : decode prog_5_method_6_code 3 = .ok (.iload_n 1, 1) := by decide +kernel
theorem d_X3_linkLabels_4 : decode prog_5_method_6_code 4 = .ok (.bipush 8, 2) := by decide +kernel
theorem d_X3_linkLabels_6 : decode prog_5_method_6_code 6 = .ok (.imul, 1) := by decide +kernel
theorem d_X3_linkLabels_7 : decode prog_5_method_6_code 7 = .ok (.if_icmp .ge 72, 3) := by decide +kernel
theorem d_X3_linkLabels_10 : decode prog_5_method_6_code 10 = .ok (.aload_n 0, 1) := by decide +kernel
theorem d_X3_linkLabels_11 : decode prog_5_method_6_code 11 = .ok (.getfield 15, 3) := by decide +kernel
theorem d_X3_linkLabels_14 : decode prog_5_method_6_code 14 = .ok (.iload_n 2, 1) := by decide +kernel
theorem d_X3_linkLabels_15 : decode prog_5_method_6_code 15 = .ok (.iconst 0, 1) := by decide +kernel
theorem d_X3_linkLabels_16 : decode prog_5_method_6_code 16 = .ok (.iadd, 1) := by decide +kernel
theorem d_X3_linkLabels_17 : decode prog_5_method_6_code 17 = .ok (.iaload, 1) := by decide +kernel
theorem d_X3_linkLabels_18 : decode prog_5_method_6_code 18 = .ok (.bipush 73, 2) := by decide +kernel
theorem d_X3_linkLabels_20 : decode prog_5_method_6_code 20 = .ok (.if_icmp .eq 16, 3) := by decide +kernel
theorem d_X3_linkLabels_23 : decode prog_5_method_6_code 23 = .ok (.aload_n 0, 1) := by decide +kernel
theorem d_X3_linkLabels_24 : decode prog_5_method_6_code 24 = .ok (.getfield 15, 3) := by decide +kernel
theorem d_X3_linkLabels_27 : decode prog_5_method_6_code 27 = .ok (.iload_n 2, 1) := by decide +kernel
theorem d_X3_linkLabels_28 : decode prog_5_method_6_code 28 = .ok (.iconst 0, 1) := by decide +kernel
theorem d_X3_linkLabels_29 : decode prog_5_method_6_code 29 = .ok (.iadd, 1) := by decide +kernel
theorem d_X3_linkLabels_30 : decode prog_5_method_6_code 30 = .ok (.iaload, 1) := by decide +kernel
theorem d_X3_linkLabels_31 : decode prog_5_method_6_code 31 = .ok (.bipush 71, 2) := by decide +kernel
theorem d_X3_linkLabels_33 : decode prog_5_method_6_code 33 = .ok (.if_icmp .ne 40, 3) := by decide +kernel
theorem d_X3_linkLabels_36 : decode prog_5_method_6_code 36 = .ok (.aload_n 0, 1) := by decide +kernel
theorem d_X3_linkLabels_37 : decode prog_5_method_6_code 37 = .ok (.getfield 19, 3) := by decide +kernel
theorem d_X3_linkLabels_40 : decode prog_5_method_6_code 40 = .ok (.aload_n 0, 1) := by decide +kernel
theorem d_X3_linkLabels_41 : decode prog_5_method_6_code 41 = .ok (.getfield 15, 3) := by decide +kernel
theorem d_X3_linkLabels_44 : decode prog_5_method_6_code 44 = .ok (.iload_n 2, 1) := by decide +kernel
theorem d_X3_linkLabels_45 : decode prog_5_method_6_code 45 = .ok (.iconst 2, 1) := by decide +kernel
theorem d_X3_linkLabels_46 : decode prog_5_method_6_code 46 = .ok (.iadd, 1) := by decide +kernel
theorem d_X3_linkLabels_47 : decode prog_5_method_6_code 47 = .ok (.iaload, 1) := by decide +kernel
theorem d_X3_linkLabels_48 : decode prog_5_method_6_code 48 = .ok (.iaload, 1) := by decide +kernel
theorem d_X3_linkLabels_49 : decode prog_5_method_6_code 49 = .ok (.istore_n 3, 1) := by decide +kernel
theorem d_X3_linkLabels_50 : decode prog_5_method_6_code 50 = .ok (.iload_n 3, 1) := by decide +kernel
theorem d_X3_linkLabels_51 : decode prog_5_method_6_code 51 = .ok (.iconst (-1), 1) := by decide +kernel
theorem d_X3_linkLabels_52 : decode prog_5_method_6_code 52 = .ok (.if_icmp .ne 12, 3) := by decide +kernel
theorem d_X3_linkLabels_55 : decode prog_5_method_6_code 55 = .ok (.aload_n 0, 1) := by decide +kernel
theorem d_X3_linkLabels_56 : decode prog_5_method_6_code 56 = .ok (.getfield 15, 3) := by decide +kernel
theorem d_X3_linkLabels_59 : decode prog_5_method_6_code 59 = .ok (.iload_n 2, 1) := by decide +kernel
theorem d_X3_linkLabels_60 : decode prog_5_method_6_code 60 = .ok (.iconst 3, 1) := by decide +kernel
theorem d_X3_linkLabels_61 : decode prog_5_method_6_code 61 = .ok (.iadd, 1) := by decide +kernel
theorem d_X3_linkLabels_62 : decode prog_5_method_6_code 62 = .ok (.iaload, 1) := by decide +kernel
theorem d_X3_linkLabels_63 : decode prog_5_method_6_code 63 = .ok (.ireturn, 1) := by decide +kernel
theorem d_X3_linkLabels_64 : decode prog_5_method_6_code 64 = .ok (.aload_n 0, 1) := by decide +kernel
theorem d_X3_linkLabels_65 : decode prog_5_method_6_code 65 = .ok (.getfield 15, 3) := by decide +kernel
theorem d_X3_linkLabels_68 : decode prog_5_method_6_code 68 = .ok (.iload_n 2, 1) := by decide +kernel
theorem d_X3_linkLabels_69 : decode prog_5_method_6_code 69 = .ok (.iconst 1, 1) := by decide +kernel
theorem d_X3_linkLabels_70 : decode prog_5_method_6_code 70 = .ok (.iadd, 1) := by decide +kernel
theorem d_X3_linkLabels_71 : decode prog_5_method_6_code 71 = .ok (.iload_n 3, 1) := by decide +kernel
theorem d_X3_linkLabels_72 : decode prog_5_method_6_code 72 = .ok (.iastore, 1) := by decide +kernel
theorem d_X3_linkLabels_73 : decode prog_5_method_6_code 73 = .ok (.iinc 2 8, 3) := by decide +kernel
theorem d_X3_linkLabels_76 : decode prog_5_method_6_code 76 = .ok (.goto (-74), 3) := by decide +kernel
theorem d_X3_linkLabels_79 : decode prog_5_method_6_code 79 = .ok (.iconst (-1), 1) := by decide +kernel
theorem d_X3_linkLabels_80 : decode prog_5_method_6_code 80 = .ok (.ireturn, 1) := by decide +kernel
abbrev Y_J7_fill_53178 : Yx := (⟨"java/util/Arrays", "fill", "([II)V"⟩, prog_29_method_103_code, 4, none)
abbrev M_J7_fill_53178 : Mx := ("java/util/Arrays", prog_29_method_103_code, 4, false)
theorem yk_J7_fill_53178 : Yk Y_J7_fill_53178 2 := ⟨by decide +kernel, by decide +kernel, ⟨by decide, by decide⟩, by decide +kernel, by decide, trivial⟩
theorem d_J7_fill_53178_0 : decode prog_29_method_103_code 0 = .ok (.iconst 0, 1) := by decide +kernel
theorem d_J7_fill_53178_1 : decode prog_29_method_103_code 1 = .ok (.istore_n 2, 1) := by decide +kernel
theorem d_J7_fill_53178_2 : decode prog_29_method_103_code 2 = .ok (.aload_n 0, 1) := by decide +kernel
theorem d_J7_fill_53178_3 : decode prog_29_method_103_code 3 = .ok (.arraylength, 1) := by decide +kernel
theorem d_J7_fill_53178_4 : decode prog_29_method_103_code 4 = .ok (.istore_n 3, 1) := by decide +kernel
theorem d_J7_fill_53178_5 : decode prog_29_method_103_code 5 = .ok (.iload_n 2, 1) := by decide +kernel
theorem d_J7_fill_53178_6 : decode prog_29_method_103_code 6 = .ok (.iload_n 3, 1) := by decide +kernel
theorem d_J7_fill_53178_7 : decode prog_29_method_103_code 7 = .ok (.if_icmp .ge 13, 3) := by decide +kernel
theorem d_J7_fill_53178_10 : decode prog_29_method_103_code 10 = .ok (.aload_n 0, 1) := by decide +kernel
theorem d_J7_fill_53178_11 : decode prog_29_method_103_code 11 = .ok (.iload_n 2, 1) := by decide +kernel
theorem d_J7_fill_53178_12 : decode prog_29_method_103_code 12 = .ok (.iload_n 1, 1) := by decide +kernel
theorem d_J7_fill_53178_13 : decode prog_29_method_103_code 13 = .ok (.iastore, 1) := by decide +kernel
theorem d_J7_fill_53178_14 : decode prog_29_method_103_code 14 = .ok (.iinc 2 1, 3) := by decide +kernel
theorem d_J7_fill_53178_17 : decode prog_29_method_103_code 17 = .ok (.goto (-12), 3) := by decide +kernel
theorem d_J7_fill_53178_20 : decode prog_29_method_103_code 20 = .ok (.return_, 1) := by decide +kernel
abbrev Y_X3_accept : Yx := (⟨"TaskWeave$Parser", "accept", "(C)Z"⟩, prog_5_method_8_code, 3, (some .boolean))
abbrev M_X3_accept : Mx := ("TaskWeave$Parser", prog_5_method_8_code, 3, false)
theorem yk_X3_accept : Yk Y_X3_accept 1 := ⟨by decide +kernel, by decide +kernel, ⟨by decide, by decide⟩, by decide +kernel, by decide, trivial⟩
theorem d_X3_accept_0 : decode prog_5_method_8_code 0 = .ok (.aload_n 0, 1) := by decide +kernel
theorem d_X3_accept_1 : decode prog_5_method_8_code 1 = .ok (.getfield 39, 3) := by decide +kernel
theorem d_X3_accept_4 : decode prog_5_method_8_code 4 = .ok (.aload_n 0, 1) := by decide +kernel
theorem d_X3_accept_5 : decode prog_5_method_8_code 5 = .ok (.getfield 26, 3) := by decide +kernel
theorem d_X3_accept_8 : decode prog_5_method_8_code 8 = .ok (.if_icmp .ge 20, 3) := by decide +kernel
theorem d_X3_accept_11 : decode prog_5_method_8_code 11 = .ok (.aload_n 0, 1) := by decide +kernel
theorem d_X3_accept_12 : decode prog_5_method_8_code 12 = .ok (.getfield 9, 3) := by decide +kernel
theorem d_X3_accept_15 : decode prog_5_method_8_code 15 = .ok (.aload_n 0, 1) := by decide +kernel
theorem d_X3_accept_16 : decode prog_5_method_8_code 16 = .ok (.getfield 39, 3) := by decide +kernel
theorem d_X3_accept_19 : decode prog_5_method_8_code 19 = .ok (.caload, 1) := by decide +kernel
theorem d_X3_accept_20 : decode prog_5_method_8_code 20 = .ok (.iload_n 1, 1) := by decide +kernel
theorem d_X3_accept_21 : decode prog_5_method_8_code 21 = .ok (.if_icmp .ne 7, 3) := by decide +kernel
theorem d_X3_accept_24 : decode prog_5_method_8_code 24 = .ok (.iconst 1, 1) := by decide +kernel
theorem d_X3_accept_25 : decode prog_5_method_8_code 25 = .ok (.goto 4, 3) := by decide +kernel
theorem d_X3_accept_28 : decode prog_5_method_8_code 28 = .ok (.iconst 0, 1) := by decide +kernel
theorem d_X3_accept_29 : decode prog_5_method_8_code 29 = .ok (.istore_n 2, 1) := by decide +kernel
theorem d_X3_accept_30 : decode prog_5_method_8_code 30 = .ok (.aload_n 0, 1) := by decide +kernel
theorem d_X3_accept_31 : decode prog_5_method_8_code 31 = .ok (.dup, 1) := by decide +kernel
theorem d_X3_accept_32 : decode prog_5_method_8_code 32 = .ok (.getfield 39, 3) := by decide +kernel
theorem d_X3_accept_35 : decode prog_5_method_8_code 35 = .ok (.iload_n 2, 1) := by decide +kernel
theorem d_X3_accept_36 : decode prog_5_method_8_code 36 = .ok (.ifCond .eq 7, 3) := by decide +kernel
theorem d_X3_accept_39 : decode prog_5_method_8_code 39 = .ok (.iconst 1, 1) := by decide +kernel
theorem d_X3_accept_40 : decode prog_5_method_8_code 40 = .ok (.goto 4, 3) := by decide +kernel
theorem d_X3_accept_43 : decode prog_5_method_8_code 43 = .ok (.iconst 0, 1) := by decide +kernel
theorem d_X3_accept_44 : decode prog_5_method_8_code 44 = .ok (.iadd, 1) := by decide +kernel
theorem d_X3_accept_45 : decode prog_5_method_8_code 45 = .ok (.putfield 39, 3) := by decide +kernel
theorem d_X3_accept_48 : decode prog_5_method_8_code 48 = .ok (.iload_n 2, 1) := by decide +kernel
theorem d_X3_accept_49 : decode prog_5_method_8_code 49 = .ok (.ireturn, 1) := by decide +kernel
abbrev Y_X3_peek : Yx := (⟨"TaskWeave$Parser", "peek", "()C"⟩, prog_5_method_7_code, 1, (some .char))
abbrev M_X3_peek : Mx := ("TaskWeave$Parser", prog_5_method_7_code, 1, false)
theorem yk_X3_peek : Yk Y_X3_peek 0 := ⟨by decide +kernel, by decide +kernel, ⟨by decide, by decide⟩, by decide +kernel, by decide, trivial⟩
theorem d_X3_peek_0 : decode prog_5_method_7_code 0 = .ok (.aload_n 0, 1) := by decide +kernel
theorem d_X3_peek_1 : decode prog_5_method_7_code 1 = .ok (.getfield 39, 3) := by decide +kernel
theorem d_X3_peek_4 : decode prog_5_method_7_code 4 = .ok (.aload_n 0, 1) := by decide +kernel
theorem d_X3_peek_5 : decode prog_5_method_7_code 5 = .ok (.getfield 26, 3) := by decide +kernel
theorem d_X3_peek_8 : decode prog_5_method_7_code 8 = .ok (.if_icmp .ge 15, 3) := by decide +kernel
theorem d_X3_peek_11 : decode prog_5_method_7_code 11 = .ok (.aload_n 0, 1) := by decide +kernel
theorem d_X3_peek_12 : decode prog_5_method_7_code 12 = .ok (.getfield 9, 3) := by decide +kernel
theorem d_X3_peek_15 : decode prog_5_method_7_code 15 = .ok (.aload_n 0, 1) := by decide +kernel
theorem d_X3_peek_16 : decode prog_5_method_7_code 16 = .ok (.getfield 39, 3) := by decide +kernel
theorem d_X3_peek_19 : decode prog_5_method_7_code 19 = .ok (.caload, 1) := by decide +kernel
theorem d_X3_peek_20 : decode prog_5_method_7_code 20 = .ok (.goto 4, 3) := by decide +kernel
theorem d_X3_peek_23 : decode prog_5_method_7_code 23 = .ok (.iconst 0, 1) := by decide +kernel
theorem d_X3_peek_24 : decode prog_5_method_7_code 24 = .ok (.ireturn, 1) := by decide +kernel
abbrev Y_X3_readLabel : Yx := (⟨"TaskWeave$Parser", "readLabel", "(I)Z"⟩, prog_5_method_9_code, 3, (some .boolean))
abbrev M_X3_readLabel : Mx := ("TaskWeave$Parser", prog_5_method_9_code, 3, false)
theorem yk_X3_readLabel : Yk Y_X3_readLabel 1 := ⟨by decide +kernel, by decide +kernel, ⟨by decide, by decide⟩, by decide +kernel, by decide, trivial⟩
theorem d_X3_readLabel_0 : decode prog_5_method_9_code 0 = .ok (.aload_n 0, 1) := by decide +kernel
theorem d_X3_readLabel_1 : decode prog_5_method_9_code 1 = .ok (.invokevirtual 75, 3) := by decide +kernel
theorem d_X3_readLabel_4 : decode prog_5_method_9_code 4 = .ok (.bipush 48, 2) := by decide +kernel
theorem d_X3_readLabel_6 : decode prog_5_method_9_code 6 = .ok (.isub, 1) := by decide +kernel
theorem d_X3_readLabel_7 : decode prog_5_method_9_code 7 = .ok (.istore_n 2, 1) := by decide +kernel
theorem d_X3_readLabel_8 : decode prog_5_method_9_code 8 = .ok (.iload_n 2, 1) := by decide +kernel
theorem d_X3_readLabel_9 : decode prog_5_method_9_code 9 = .ok (.ifCond .lt 9, 3) := by decide +kernel
theorem d_X3_readLabel_12 : decode prog_5_method_9_code 12 = .ok (.iload_n 2, 1) := by decide +kernel
theorem d_X3_readLabel_13 : decode prog_5_method_9_code 13 = .ok (.bipush 9, 2) := by decide +kernel
theorem d_X3_readLabel_15 : decode prog_5_method_9_code 15 = .ok (.if_icmp .le 5, 3) := by decide +kernel
theorem d_X3_readLabel_18 : decode prog_5_method_9_code 18 = .ok (.iconst 1, 1) := by decide +kernel
theorem d_X3_readLabel_19 : decode prog_5_method_9_code 19 = .ok (.ireturn, 1) := by decide +kernel
theorem d_X3_readLabel_20 : decode prog_5_method_9_code 20 = .ok (.aload_n 0, 1) := by decide +kernel
theorem d_X3_readLabel_21 : decode prog_5_method_9_code 21 = .ok (.getfield 19, 3) := by decide +kernel
theorem d_X3_readLabel_24 : decode prog_5_method_9_code 24 = .ok (.iload_n 2, 1) := by decide +kernel
theorem d_X3_readLabel_25 : decode prog_5_method_9_code 25 = .ok (.iaload, 1) := by decide +kernel
theorem d_X3_readLabel_26 : decode prog_5_method_9_code 26 = .ok (.iconst (-1), 1) := by decide +kernel
theorem d_X3_readLabel_27 : decode prog_5_method_9_code 27 = .ok (.if_icmp .eq 5, 3) := by decide +kernel
theorem d_X3_readLabel_30 : decode prog_5_method_9_code 30 = .ok (.iconst 0, 1) := by decide +kernel
theorem d_X3_readLabel_31 : decode prog_5_method_9_code 31 = .ok (.ireturn, 1) := by decide +kernel
theorem d_X3_readLabel_32 : decode prog_5_method_9_code 32 = .ok (.aload_n 0, 1) := by decide +kernel
theorem d_X3_readLabel_33 : decode prog_5_method_9_code 33 = .ok (.getfield 19, 3) := by decide +kernel
theorem d_X3_readLabel_36 : decode prog_5_method_9_code 36 = .ok (.iload_n 2, 1) := by decide +kernel
theorem d_X3_readLabel_37 : decode prog_5_method_9_code 37 = .ok (.iload_n 1, 1) := by decide +kernel
theorem d_X3_readLabel_38 : decode prog_5_method_9_code 38 = .ok (.iastore, 1) := by decide +kernel
theorem d_X3_readLabel_39 : decode prog_5_method_9_code 39 = .ok (.aload_n 0, 1) := by decide +kernel
theorem d_X3_readLabel_40 : decode prog_5_method_9_code 40 = .ok (.dup, 1) := by decide +kernel
theorem d_X3_readLabel_41 : decode prog_5_method_9_code 41 = .ok (.getfield 39, 3) := by decide +kernel
theorem d_X3_readLabel_44 : decode prog_5_method_9_code 44 = .ok (.iconst 1, 1) := by decide +kernel
theorem d_X3_readLabel_45 : decode prog_5_method_9_code 45 = .ok (.iadd, 1) := by decide +kernel
theorem d_X3_readLabel_46 : decode prog_5_method_9_code 46 = .ok (.putfield 39, 3) := by decide +kernel
theorem d_X3_readLabel_49 : decode prog_5_method_9_code 49 = .ok (.aload_n 0, 1) := by decide +kernel
theorem d_X3_readLabel_50 : decode prog_5_method_9_code 50 = .ok (.bipush 58, 2) := by decide +kernel
theorem d_X3_readLabel_52 : decode prog_5_method_9_code 52 = .ok (.invokevirtual 71, 3) := by decide +kernel
theorem d_X3_readLabel_55 : decode prog_5_method_9_code 55 = .ok (.ireturn, 1) := by decide +kernel
abbrev Y_X3_isLocal : Yx := (⟨"TaskWeave$Parser", "isLocal", "(C)Z"⟩, prog_5_method_16_code, 1, (some .boolean))
abbrev M_X3_isLocal : Mx := ("TaskWeave$Parser", prog_5_method_16_code, 1, false)
theorem yk_X3_isLocal : Yk Y_X3_isLocal 1 := ⟨by decide +kernel, by decide +kernel, ⟨by decide, by decide⟩, by decide +kernel, by decide, trivial⟩
theorem d_X3_isLocal_0 : decode prog_5_method_16_code 0 = .ok (.iload_n 0, 1) := by decide +kernel
theorem d_X3_isLocal_1 : decode prog_5_method_16_code 1 = .ok (.bipush 97, 2) := by decide +kernel
theorem d_X3_isLocal_3 : decode prog_5_method_16_code 3 = .ok (.if_icmp .lt 13, 3) := by decide +kernel
theorem d_X3_isLocal_6 : decode prog_5_method_16_code 6 = .ok (.iload_n 0, 1) := by decide +kernel
theorem d_X3_isLocal_7 : decode prog_5_method_16_code 7 = .ok (.bipush 104, 2) := by decide +kernel
theorem d_X3_isLocal_9 : decode prog_5_method_16_code 9 = .ok (.if_icmp .gt 7, 3) := by decide +kernel
theorem d_X3_isLocal_12 : decode prog_5_method_16_code 12 = .ok (.iconst 1, 1) := by decide +kernel
theorem d_X3_isLocal_13 : decode prog_5_method_16_code 13 = .ok (.goto 4, 3) := by decide +kernel
theorem d_X3_isLocal_16 : decode prog_5_method_16_code 16 = .ok (.iconst 0, 1) := by decide +kernel
theorem d_X3_isLocal_17 : decode prog_5_method_16_code 17 = .ok (.ireturn, 1) := by decide +kernel
abbrev Y_X3_readValue : Yx := (⟨"TaskWeave$Parser", "readValue", "(I)Z"⟩, prog_5_method_15_code, 5, (some .boolean))
abbrev M_X3_readValue : Mx := ("TaskWeave$Parser", prog_5_method_15_code, 5, false)
theorem yk_X3_readValue : Yk Y_X3_readValue 1 := ⟨by decide +kernel, by decide +kernel, ⟨by decide, by decide⟩, by decide +kernel, by decide, trivial⟩
theorem d_X3_readValue_0 : decode prog_5_method_15_code 0 = .ok (.aload_n 0, 1) := by decide +kernel
theorem d_X3_readValue_1 : decode prog_5_method_15_code 1 = .ok (.invokevirtual 75, 3) := by decide +kernel
theorem d_X3_readValue_4 : decode prog_5_method_15_code 4 = .ok (.invokestatic 79, 3) := by decide +kernel
theorem d_X3_readValue_7 : decode prog_5_method_15_code 7 = .ok (.ifCond .eq 28, 3) := by decide +kernel
theorem d_X3_readValue_10 : decode prog_5_method_15_code 10 = .ok (.aload_n 0, 1) := by decide +kernel
theorem d_X3_readValue_11 : decode prog_5_method_15_code 11 = .ok (.getfield 15, 3) := by decide +kernel
theorem d_X3_readValue_14 : decode prog_5_method_15_code 14 = .ok (.iload_n 1, 1) := by decide +kernel
theorem d_X3_readValue_15 : decode prog_5_method_15_code 15 = .ok (.aload_n 0, 1) := by decide +kernel
theorem d_X3_readValue_16 : decode prog_5_method_15_code 16 = .ok (.invokevirtual 75, 3) := by decide +kernel
theorem d_X3_readValue_19 : decode prog_5_method_15_code 19 = .ok (.bipush 97, 2) := by decide +kernel
theorem d_X3_readValue_21 : decode prog_5_method_15_code 21 = .ok (.isub, 1) := by decide +kernel
theorem d_X3_readValue_22 : decode prog_5_method_15_code 22 = .ok (.iastore, 1) := by decide +kernel
theorem d_X3_readValue_23 : decode prog_5_method_15_code 23 = .ok (.aload_n 0, 1) := by decide +kernel
theorem d_X3_readValue_24 : decode prog_5_method_15_code 24 = .ok (.dup, 1) := by decide +kernel
theorem d_X3_readValue_25 : decode prog_5_method_15_code 25 = .ok (.getfield 39, 3) := by decide +kernel
theorem d_X3_readValue_28 : decode prog_5_method_15_code 28 = .ok (.iconst 1, 1) := by decide +kernel
theorem d_X3_readValue_29 : decode prog_5_method_15_code 29 = .ok (.iadd, 1) := by decide +kernel
theorem d_X3_readValue_30 : decode prog_5_method_15_code 30 = .ok (.putfield 39, 3) := by decide +kernel
theorem d_X3_readValue_33 : decode prog_5_method_15_code 33 = .ok (.iconst 1, 1) := by decide +kernel
theorem d_X3_readValue_34 : decode prog_5_method_15_code 34 = .ok (.ireturn, 1) := by decide +kernel
theorem d_X3_readValue_35 : decode prog_5_method_15_code 35 = .ok (.aload_n 0, 1) := by decide +kernel
theorem d_X3_readValue_36 : decode prog_5_method_15_code 36 = .ok (.bipush 45, 2) := by decide +kernel
theorem d_X3_readValue_38 : decode prog_5_method_15_code 38 = .ok (.invokevirtual 71, 3) := by decide +kernel
theorem d_X3_readValue_41 : decode prog_5_method_15_code 41 = .ok (.istore_n 2, 1) := by decide +kernel
theorem d_X3_readValue_42 : decode prog_5_method_15_code 42 = .ok (.iconst 0, 1) := by decide +kernel
theorem d_X3_readValue_43 : decode prog_5_method_15_code 43 = .ok (.istore_n 3, 1) := by decide +kernel
theorem d_X3_readValue_44 : decode prog_5_method_15_code 44 = .ok (.iconst 0, 1) := by decide +kernel
theorem d_X3_readValue_45 : decode prog_5_method_15_code 45 = .ok (.istore 4, 2) := by decide +kernel
theorem d_X3_readValue_47 : decode prog_5_method_15_code 47 = .ok (.iload 4, 2) := by decide +kernel
theorem d_X3_readValue_49 : decode prog_5_method_15_code 49 = .ok (.iconst 5, 1) := by decide +kernel
theorem d_X3_readValue_50 : decode prog_5_method_15_code 50 = .ok (.if_icmp .ge 50, 3) := by decide +kernel
theorem d_X3_readValue_53 : decode prog_5_method_15_code 53 = .ok (.aload_n 0, 1) := by decide +kernel
theorem d_X3_readValue_54 : decode prog_5_method_15_code 54 = .ok (.invokevirtual 75, 3) := by decide +kernel
theorem d_X3_readValue_57 : decode prog_5_method_15_code 57 = .ok (.bipush 48, 2) := by decide +kernel
theorem d_X3_readValue_59 : decode prog_5_method_15_code 59 = .ok (.if_icmp .lt 41, 3) := by decide +kernel
theorem d_X3_readValue_62 : decode prog_5_method_15_code 62 = .ok (.aload_n 0, 1) := by decide +kernel
theorem d_X3_readValue_63 : decode prog_5_method_15_code 63 = .ok (.invokevirtual 75, 3) := by decide +kernel
theorem d_X3_readValue_66 : decode prog_5_method_15_code 66 = .ok (.bipush 57, 2) := by decide +kernel
theorem d_X3_readValue_68 : decode prog_5_method_15_code 68 = .ok (.if_icmp .gt 32, 3) := by decide +kernel
theorem d_X3_readValue_71 : decode prog_5_method_15_code 71 = .ok (.bipush 10, 2) := by decide +kernel
theorem d_X3_readValue_73 : decode prog_5_method_15_code 73 = .ok (.iload_n 3, 1) := by decide +kernel
theorem d_X3_readValue_74 : decode prog_5_method_15_code 74 = .ok (.imul, 1) := by decide +kernel
theorem d_X3_readValue_75 : decode prog_5_method_15_code 75 = .ok (.aload_n 0, 1) := by decide +kernel
theorem d_X3_readValue_76 : decode prog_5_method_15_code 76 = .ok (.invokevirtual 75, 3) := by decide +kernel
theorem d_X3_readValue_79 : decode prog_5_method_15_code 79 = .ok (.iadd, 1) := by decide +kernel
theorem d_X3_readValue_80 : decode prog_5_method_15_code 80 = .ok (.bipush 48, 2) := by decide +kernel
theorem d_X3_readValue_82 : decode prog_5_method_15_code 82 = .ok (.isub, 1) := by decide +kernel
theorem d_X3_readValue_83 : decode prog_5_method_15_code 83 = .ok (.istore_n 3, 1) := by decide +kernel
theorem d_X3_readValue_84 : decode prog_5_method_15_code 84 = .ok (.aload_n 0, 1) := by decide +kernel
theorem d_X3_readValue_85 : decode prog_5_method_15_code 85 = .ok (.dup, 1) := by decide +kernel
theorem d_X3_readValue_86 : decode prog_5_method_15_code 86 = .ok (.getfield 39, 3) := by decide +kernel
theorem d_X3_readValue_89 : decode prog_5_method_15_code 89 = .ok (.iconst 1, 1) := by decide +kernel
theorem d_X3_readValue_90 : decode prog_5_method_15_code 90 = .ok (.iadd, 1) := by decide +kernel
theorem d_X3_readValue_91 : decode prog_5_method_15_code 91 = .ok (.putfield 39, 3) := by decide +kernel
theorem d_X3_readValue_94 : decode prog_5_method_15_code 94 = .ok (.iinc 4 1, 3) := by decide +kernel
theorem d_X3_readValue_97 : decode prog_5_method_15_code 97 = .ok (.goto (-50), 3) := by decide +kernel
theorem d_X3_readValue_100 : decode prog_5_method_15_code 100 = .ok (.aload_n 0, 1) := by decide +kernel
theorem d_X3_readValue_101 : decode prog_5_method_15_code 101 = .ok (.getfield 15, 3) := by decide +kernel
theorem d_X3_readValue_104 : decode prog_5_method_15_code 104 = .ok (.iload_n 1, 1) := by decide +kernel
theorem d_X3_readValue_105 : decode prog_5_method_15_code 105 = .ok (.iconst 1, 1) := by decide +kernel
theorem d_X3_readValue_106 : decode prog_5_method_15_code 106 = .ok (.iadd, 1) := by decide +kernel
theorem d_X3_readValue_107 : decode prog_5_method_15_code 107 = .ok (.iload_n 2, 1) := by decide +kernel
theorem d_X3_readValue_108 : decode prog_5_method_15_code 108 = .ok (.ifCond .eq 8, 3) := by decide +kernel
theorem d_X3_readValue_111 : decode prog_5_method_15_code 111 = .ok (.iload_n 3, 1) := by decide +kernel
theorem d_X3_readValue_112 : decode prog_5_method_15_code 112 = .ok (.ineg, 1) := by decide +kernel
theorem d_X3_readValue_113 : decode prog_5_method_15_code 113 = .ok (.goto 4, 3) := by decide +kernel
theorem d_X3_readValue_116 : decode prog_5_method_15_code 116 = .ok (.iload_n 3, 1) := by decide +kernel
theorem d_X3_readValue_117 : decode prog_5_method_15_code 117 = .ok (.iastore, 1) := by decide +kernel
theorem d_X3_readValue_118 : decode prog_5_method_15_code 118 = .ok (.iload 4, 2) := by decide +kernel
theorem d_X3_readValue_120 : decode prog_5_method_15_code 120 = .ok (.ifCond .le 7, 3) := by decide +kernel
theorem d_X3_readValue_123 : decode prog_5_method_15_code 123 = .ok (.iconst 1, 1) := by decide +kernel
theorem d_X3_readValue_124 : decode prog_5_method_15_code 124 = .ok (.goto 4, 3) := by decide +kernel
theorem d_X3_readValue_127 : decode prog_5_method_15_code 127 = .ok (.iconst 0, 1) := by decide +kernel
theorem d_X3_readValue_128 : decode prog_5_method_15_code 128 = .ok (.ireturn, 1) := by decide +kernel
abbrev Y_X3_readBracket : Yx := (⟨"TaskWeave$Parser", "readBracket", "(I)Z"⟩, prog_5_method_13_code, 2, (some .boolean))
abbrev M_X3_readBracket : Mx := ("TaskWeave$Parser", prog_5_method_13_code, 2, false)
theorem yk_X3_readBracket : Yk Y_X3_readBracket 1 := ⟨by decide +kernel, by decide +kernel, ⟨by decide, by decide⟩, by decide +kernel, by decide, trivial⟩
theorem d_X3_readBracket_0 : decode prog_5_method_13_code 0 = .ok (.aload_n 0, 1) := by decide +kernel
theorem d_X3_readBracket_1 : decode prog_5_method_13_code 1 = .ok (.bipush 40, 2) := by decide +kernel
theorem d_X3_readBracket_3 : decode prog_5_method_13_code 3 = .ok (.invokevirtual 71, 3) := by decide +kernel
theorem d_X3_readBracket_6 : decode prog_5_method_13_code 6 = .ok (.ifCond .eq 26, 3) := by decide +kernel
theorem d_X3_readBracket_9 : decode prog_5_method_13_code 9 = .ok (.aload_n 0, 1) := by decide +kernel
theorem d_X3_readBracket_10 : decode prog_5_method_13_code 10 = .ok (.iload_n 1, 1) := by decide +kernel
theorem d_X3_readBracket_11 : decode prog_5_method_13_code 11 = .ok (.iconst 4, 1) := by decide +kernel
theorem d_X3_readBracket_12 : decode prog_5_method_13_code 12 = .ok (.iadd, 1) := by decide +kernel
theorem d_X3_readBracket_13 : decode prog_5_method_13_code 13 = .ok (.invokevirtual 92, 3) := by decide +kernel
theorem d_X3_readBracket_16 : decode prog_5_method_13_code 16 = .ok (.ifCond .eq 16, 3) := by decide +kernel
theorem d_X3_readBracket_19 : decode prog_5_method_13_code 19 = .ok (.aload_n 0, 1) := by decide +kernel
theorem d_X3_readBracket_20 : decode prog_5_method_13_code 20 = .ok (.bipush 41, 2) := by decide +kernel
theorem d_X3_readBracket_22 : decode prog_5_method_13_code 22 = .ok (.invokevirtual 71, 3) := by decide +kernel
theorem d_X3_readBracket_25 : decode prog_5_method_13_code 25 = .ok (.ifCond .eq 7, 3) := by decide +kernel
theorem d_X3_readBracket_28 : decode prog_5_method_13_code 28 = .ok (.iconst 1, 1) := by decide +kernel
theorem d_X3_readBracket_29 : decode prog_5_method_13_code 29 = .ok (.goto 4, 3) := by decide +kernel
theorem d_X3_readBracket_32 : decode prog_5_method_13_code 32 = .ok (.iconst 0, 1) := by decide +kernel
theorem d_X3_readBracket_33 : decode prog_5_method_13_code 33 = .ok (.ireturn, 1) := by decide +kernel
abbrev Y_X3_readDigit : Yx := (⟨"TaskWeave$Parser", "readDigit", "(IC)Z"⟩, prog_5_method_14_code, 4, (some .boolean))
abbrev M_X3_readDigit : Mx := ("TaskWeave$Parser", prog_5_method_14_code, 4, false)
theorem yk_X3_readDigit : Yk Y_X3_readDigit 2 := ⟨by decide +kernel, by decide +kernel, ⟨by decide, by decide⟩, by decide +kernel, by decide, trivial⟩
theorem d_X3_readDigit_0 : decode prog_5_method_14_code 0 = .ok (.aload_n 0, 1) := by decide +kernel
theorem d_X3_readDigit_1 : decode prog_5_method_14_code 1 = .ok (.invokevirtual 75, 3) := by decide +kernel
theorem d_X3_readDigit_4 : decode prog_5_method_14_code 4 = .ok (.istore_n 3, 1) := by decide +kernel
theorem d_X3_readDigit_5 : decode prog_5_method_14_code 5 = .ok (.iload_n 3, 1) := by decide +kernel
theorem d_X3_readDigit_6 : decode prog_5_method_14_code 6 = .ok (.bipush 48, 2) := by decide +kernel
theorem d_X3_readDigit_8 : decode prog_5_method_14_code 8 = .ok (.if_icmp .lt 8, 3) := by decide +kernel
theorem d_X3_readDigit_11 : decode prog_5_method_14_code 11 = .ok (.iload_n 3, 1) := by decide +kernel
theorem d_X3_readDigit_12 : decode prog_5_method_14_code 12 = .ok (.iload_n 2, 1) := by decide +kernel
theorem d_X3_readDigit_13 : decode prog_5_method_14_code 13 = .ok (.if_icmp .le 5, 3) := by decide +kernel
theorem d_X3_readDigit_16 : decode prog_5_method_14_code 16 = .ok (.iconst 0, 1) := by decide +kernel
theorem d_X3_readDigit_17 : decode prog_5_method_14_code 17 = .ok (.ireturn, 1) := by decide +kernel
theorem d_X3_readDigit_18 : decode prog_5_method_14_code 18 = .ok (.aload_n 0, 1) := by decide +kernel
theorem d_X3_readDigit_19 : decode prog_5_method_14_code 19 = .ok (.getfield 15, 3) := by decide +kernel
theorem d_X3_readDigit_22 : decode prog_5_method_14_code 22 = .ok (.iload_n 1, 1) := by decide +kernel
theorem d_X3_readDigit_23 : decode prog_5_method_14_code 23 = .ok (.iconst 2, 1) := by decide +kernel
theorem d_X3_readDigit_24 : decode prog_5_method_14_code 24 = .ok (.iadd, 1) := by decide +kernel
theorem d_X3_readDigit_25 : decode prog_5_method_14_code 25 = .ok (.iload_n 3, 1) := by decide +kernel
theorem d_X3_readDigit_26 : decode prog_5_method_14_code 26 = .ok (.bipush 48, 2) := by decide +kernel
theorem d_X3_readDigit_28 : decode prog_5_method_14_code 28 = .ok (.isub, 1) := by decide +kernel
theorem d_X3_readDigit_29 : decode prog_5_method_14_code 29 = .ok (.iastore, 1) := by decide +kernel
theorem d_X3_readDigit_30 : decode prog_5_method_14_code 30 = .ok (.aload_n 0, 1) := by decide +kernel
theorem d_X3_readDigit_31 : decode prog_5_method_14_code 31 = .ok (.getfield 15, 3) := by decide +kernel
theorem d_X3_readDigit_34 : decode prog_5_method_14_code 34 = .ok (.iload_n 1, 1) := by decide +kernel
theorem d_X3_readDigit_35 : decode prog_5_method_14_code 35 = .ok (.iconst 3, 1) := by decide +kernel
theorem d_X3_readDigit_36 : decode prog_5_method_14_code 36 = .ok (.iadd, 1) := by decide +kernel
theorem d_X3_readDigit_37 : decode prog_5_method_14_code 37 = .ok (.aload_n 0, 1) := by decide +kernel
theorem d_X3_readDigit_38 : decode prog_5_method_14_code 38 = .ok (.getfield 39, 3) := by decide +kernel
theorem d_X3_readDigit_41 : decode prog_5_method_14_code 41 = .ok (.iastore, 1) := by decide +kernel
theorem d_X3_readDigit_42 : decode prog_5_method_14_code 42 = .ok (.aload_n 0, 1) := by decide +kernel
theorem d_X3_readDigit_43 : decode prog_5_method_14_code 43 = .ok (.dup, 1) := by decide +kernel
theorem d_X3_readDigit_44 : decode prog_5_method_14_code 44 = .ok (.getfield 39, 3) := by decide +kernel
theorem d_X3_readDigit_47 : decode prog_5_method_14_code 47 = .ok (.iconst 1, 1) := by decide +kernel
theorem d_X3_readDigit_48 : decode prog_5_method_14_code 48 = .ok (.iadd, 1) := by decide +kernel
theorem d_X3_readDigit_49 : decode prog_5_method_14_code 49 = .ok (.putfield 39, 3) := by decide +kernel
theorem d_X3_readDigit_52 : decode prog_5_method_14_code 52 = .ok (.iconst 1, 1) := by decide +kernel
theorem d_X3_readDigit_53 : decode prog_5_method_14_code 53 = .ok (.ireturn, 1) := by decide +kernel
def f_X0_init (l0 : Nat) (h : Hp) : Option Hp := ck (isO (h) (l0) 1) (some (h))
theorem f_X0_init_ok {G : Gd} {d : Nat} (hj : 1 ≤ d) : ∀ (l0 : Nat) (L : List (Nat × Value)) (h : Hp) (o : Hp), zlk L 0 = some (zrf (l0)) → f_X0_init l0 h = some o → Ev G M_X0_init d 0 L [] h (Ret Y_X0_init none o) := by
  intro l0 L h o g0 e
  unfold f_X0_init at e
  refine g_ald_n d_X0_init_0 rfl g0 ?_
  replace e := ckd e
  obtain ⟨k1, e⟩ := e
  refine g_objInit k1 d_X0_init_1 (by decide +kernel) (by omega) (by simp [zrf_cat, cat_int, cat_long]) ?_
  obtain rfl := Option.some.inj e
  exact g_vret d_X0_init_4 rfl

theorem c_X0_init {G : Gd} {j : Nat} (hj : 1 ≤ j) {l0 : Nat} {h : Hp} {o : Hp} (e : f_X0_init l0 h = some o) : Cal G j Y_X0_init [zrf (l0)] h none o := Cal.of (n := 0) (I := true) (by first | exact Or.inl (by decide +kernel) | exact Or.inr (by decide +kernel)) (by decide) (by simp [lg_sl, zrf_cat, cat_int, cat_long]) (f_X0_init_ok hj _ _ h o (by simp [lv_args, zlk, zrf_cat, cat_int, cat_long]) e)
theorem fk_0_9 : Fk "TaskWeave$History" 9 200 := ⟨by decide, by decide, by decide +kernel⟩
theorem fk_0_15 : Fk "TaskWeave$History" 15 201 := ⟨by decide, by decide, by decide +kernel⟩
theorem fk_0_18 : Fk "TaskWeave$History" 18 202 := ⟨by decide, by decide, by decide +kernel⟩
theorem fk_0_21 : Fk "TaskWeave$History" 21 203 := ⟨by decide, by decide, by decide +kernel⟩
def f_X1_init (l0 : Nat) (h : Hp) : Option Hp := ck (isO (h) (l0) 2) (ck (8 ≤ zn (h)) (bh (pN (h) 22 ((60 : Int32)).toNatClampNeg) (fun h3 => bh (pR (h3) 200 (l0) (zn (h))) (fun h4 => ck (8 ≤ zn (h4)) (bh (pN (h4) 22 ((60 : Int32)).toNatClampNeg) (fun h6 => bh (pR (h6) 201 (l0) (zn (h4))) (fun h7 => ck (8 ≤ zn (h7)) (bh (pN (h7) 22 ((60 : Int32)).toNatClampNeg) (fun h9 => bh (pR (h9) 202 (l0) (zn (h7))) (fun h10 => ck (8 ≤ zn (h10)) (bh (pN (h10) 22 ((60 : Int32)).toNatClampNeg) (fun h12 => bh (pR (h12) 203 (l0) (zn (h10))) (fun h13 => some (h13))))))))))))))
theorem f_X1_init_ok {G : Gd} {d : Nat} (hj : 1 ≤ d) : ∀ (l0 : Nat) (L : List (Nat × Value)) (h : Hp) (o : Hp), zlk L 0 = some (zrf (l0)) → f_X1_init l0 h = some o → Ev G M_X1_init d 0 L [] h (Ret Y_X1_init none o) := by
  intro l0 L h o g0 e
  unfold f_X1_init at e
  refine g_ald_n d_X1_init_0 rfl g0 ?_
  replace e := ckd e
  obtain ⟨k1, e⟩ := e
  refine g_objInit k1 d_X1_init_1 (by decide +kernel) (by omega) (by simp [zrf_cat, cat_int, cat_long]) ?_
  refine g_ald_n d_X1_init_4 rfl g0 ?_
  refine r_bipush d_X1_init_5 (v := (60 : Int32)) (by decide +kernel) ?_
  replace e := ckd e
  obtain ⟨k2, e⟩ := e
  refine g_newa (t := 22) k2 d_X1_init_7 (by decide) (by decide) rfl (by decide +kernel) (by decide) (by decide +kernel) ?_
  replace e := bhd e
  obtain ⟨_, rfl, e⟩ := e
  refine g_putR d_X1_init_9 (f := 200) (tO_pN k1) fk_0_9 rfl (Or.inr ⟨rfl, rfl⟩) (Or.inr ⟨_, rfl⟩) ?_
  replace e := bhd e
  obtain ⟨_, rfl, e⟩ := e
  refine g_ald_n d_X1_init_12 rfl g0 ?_
  refine r_bipush d_X1_init_13 (v := (60 : Int32)) (by decide +kernel) ?_
  replace e := ckd e
  obtain ⟨k5, e⟩ := e
  refine g_newa (t := 22) k5 d_X1_init_15 (by decide) (by decide) rfl (by decide +kernel) (by decide) (by decide +kernel) ?_
  replace e := bhd e
  obtain ⟨_, rfl, e⟩ := e
  refine g_putR d_X1_init_17 (f := 201) (tO_pN (tO_pR (tO_pN k1))) fk_0_15 rfl (Or.inr ⟨rfl, rfl⟩) (Or.inr ⟨_, rfl⟩) ?_
  replace e := bhd e
  obtain ⟨_, rfl, e⟩ := e
  refine g_ald_n d_X1_init_20 rfl g0 ?_
  refine r_bipush d_X1_init_21 (v := (60 : Int32)) (by decide +kernel) ?_
  replace e := ckd e
  obtain ⟨k8, e⟩ := e
  refine g_newa (t := 22) k8 d_X1_init_23 (by decide) (by decide) rfl (by decide +kernel) (by decide) (by decide +kernel) ?_
  replace e := bhd e
  obtain ⟨_, rfl, e⟩ := e
  refine g_putR d_X1_init_25 (f := 202) (tO_pN (tO_pR (tO_pN (tO_pR (tO_pN k1))))) fk_0_18 rfl (Or.inr ⟨rfl, rfl⟩) (Or.inr ⟨_, rfl⟩) ?_
  replace e := bhd e
  obtain ⟨_, rfl, e⟩ := e
  refine g_ald_n d_X1_init_28 rfl g0 ?_
  refine r_bipush d_X1_init_29 (v := (60 : Int32)) (by decide +kernel) ?_
  replace e := ckd e
  obtain ⟨k11, e⟩ := e
  refine g_newa (t := 22) k11 d_X1_init_31 (by decide) (by decide) rfl (by decide +kernel) (by decide) (by decide +kernel) ?_
  replace e := bhd e
  obtain ⟨_, rfl, e⟩ := e
  refine g_putR d_X1_init_33 (f := 203) (tO_pN (tO_pR (tO_pN (tO_pR (tO_pN (tO_pR (tO_pN k1))))))) fk_0_21 rfl (Or.inr ⟨rfl, rfl⟩) (Or.inr ⟨_, rfl⟩) ?_
  replace e := bhd e
  obtain ⟨_, rfl, e⟩ := e
  obtain rfl := Option.some.inj e
  exact g_vret d_X1_init_36 rfl

theorem c_X1_init {G : Gd} {j : Nat} (hj : 1 ≤ j) {l0 : Nat} {h : Hp} {o : Hp} (e : f_X1_init l0 h = some o) : Cal G j Y_X1_init [zrf (l0)] h none o := Cal.of (n := 0) (I := true) (by first | exact Or.inl (by decide +kernel) | exact Or.inr (by decide +kernel)) (by decide) (by simp [lg_sl, zrf_cat, cat_int, cat_long]) (f_X1_init_ok hj _ _ h o (by simp [lv_args, zlk, zrf_cat, cat_int, cat_long]) e)
theorem fk_0_24 : Fk "TaskWeave$History" 24 204 := ⟨by decide, by decide, by decide +kernel⟩
def f_X1_add (l0 : Nat) (l1 : Int32) (l2 : Int32) (l3 : Int32) (l4 : Int32) (h : Hp) : Option Hp := ck (isO (h) (l0) 2) (if ((60 : Int32)) ≤ (zI (h) 204 (l0)) then (some (h)) else (ck (isO (h) (zR (h) 200 (l0)) 22) (ck (inR (zI (h) 204 (l0)) (zL (h) (zR (h) 200 (l0)))) (bh (pE (h) (zR (h) 200 (l0)) (zI (h) 204 (l0)).toNatClampNeg (l1)) (fun h5 => ck (isO (h5) (zR (h5) 201 (l0)) 22) (ck (inR (zI (h5) 204 (l0)) (zL (h5) (zR (h5) 201 (l0)))) (bh (pE (h5) (zR (h5) 201 (l0)) (zI (h5) 204 (l0)).toNatClampNeg (l2)) (fun h8 => ck (isO (h8) (zR (h8) 202 (l0)) 22) (ck (inR (zI (h8) 204 (l0)) (zL (h8) (zR (h8) 202 (l0)))) (bh (pE (h8) (zR (h8) 202 (l0)) (zI (h8) 204 (l0)).toNatClampNeg (l3)) (fun h11 => ck (isO (h11) (zR (h11) 203 (l0)) 22) (ck (inR (zI (h11) 204 (l0)) (zL (h11) (zR (h11) 203 (l0)))) (bh (pE (h11) (zR (h11) 203 (l0)) (zI (h11) 204 (l0)).toNatClampNeg (l4)) (fun h14 => bh (pI (h14) 204 (l0) ((zI (h14) 204 (l0)) + ((1 : Int32)))) (fun h15 => some (h15))))))))))))))))
theorem f_X1_add_ok {G : Gd} {d : Nat} (hj : 1 ≤ d) : ∀ (l0 : Nat) (l1 : Int32) (l2 : Int32) (l3 : Int32) (l4 : Int32) (L : List (Nat × Value)) (h : Hp) (o : Hp), zlk L 0 = some (zrf (l0)) → zlk L 1 = some (.int (l1)) → zlk L 2 = some (.int (l2)) → zlk L 3 = some (.int (l3)) → zlk L 4 = some (.int (l4)) → f_X1_add l0 l1 l2 l3 l4 h = some o → Ev G M_X1_add d 0 L [] h (Ret Y_X1_add none o) := by
  intro l0 l1 l2 l3 l4 L h o g0 g1 g2 g3 g4 e
  unfold f_X1_add at e
  refine g_ald_n d_X1_add_0 rfl g0 ?_
  replace e := ckd e
  obtain ⟨k1, e⟩ := e
  refine g_getI d_X1_add_1 (f := 204) k1 fk_0_24 rfl rfl ?_
  refine r_bipush d_X1_add_4 (v := (60 : Int32)) (by decide +kernel) ?_
  refine r_icmp_ge d_X1_add_6 (tgt := 60) (by decide) (fun c2 => ?_) (fun c2 => ?_)
  · replace e := (if_pos c2).symm.trans e
    obtain rfl := Option.some.inj e
    exact g_vret d_X1_add_60 rfl
  · replace e := (if_neg c2).symm.trans e
    refine g_ald_n d_X1_add_9 rfl g0 ?_
    refine g_getR d_X1_add_10 (f := 200) k1 fk_0_9 rfl rfl ?_
    refine g_ald_n d_X1_add_13 rfl g0 ?_
    refine g_getI d_X1_add_14 (f := 204) k1 fk_0_24 rfl rfl ?_
    refine r_iload_n d_X1_add_17 rfl g1 ?_
    replace e := ckd e
    obtain ⟨k3, e⟩ := e
    replace e := ckd e
    obtain ⟨k4, e⟩ := e
    refine g_iast d_X1_add_18 k3 k4 ?_
    replace e := bhd e
    obtain ⟨_, rfl, e⟩ := e
    refine g_ald_n d_X1_add_19 rfl g0 ?_
    refine g_getR d_X1_add_20 (f := 201) (tO_pE k1) fk_0_15 rfl rfl ?_
    refine g_ald_n d_X1_add_23 rfl g0 ?_
    refine g_getI d_X1_add_24 (f := 204) (tO_pE k1) fk_0_24 rfl rfl ?_
    refine r_iload_n d_X1_add_27 rfl g2 ?_
    replace e := ckd e
    obtain ⟨k6, e⟩ := e
    replace e := ckd e
    obtain ⟨k7, e⟩ := e
    refine g_iast d_X1_add_28 k6 k7 ?_
    replace e := bhd e
    obtain ⟨_, rfl, e⟩ := e
    refine g_ald_n d_X1_add_29 rfl g0 ?_
    refine g_getR d_X1_add_30 (f := 202) (tO_pE (tO_pE k1)) fk_0_18 rfl rfl ?_
    refine g_ald_n d_X1_add_33 rfl g0 ?_
    refine g_getI d_X1_add_34 (f := 204) (tO_pE (tO_pE k1)) fk_0_24 rfl rfl ?_
    refine r_iload_n d_X1_add_37 rfl g3 ?_
    replace e := ckd e
    obtain ⟨k9, e⟩ := e
    replace e := ckd e
    obtain ⟨k10, e⟩ := e
    refine g_iast d_X1_add_38 k9 k10 ?_
    replace e := bhd e
    obtain ⟨_, rfl, e⟩ := e
    refine g_ald_n d_X1_add_39 rfl g0 ?_
    refine g_getR d_X1_add_40 (f := 203) (tO_pE (tO_pE (tO_pE k1))) fk_0_21 rfl rfl ?_
    refine g_ald_n d_X1_add_43 rfl g0 ?_
    refine g_getI d_X1_add_44 (f := 204) (tO_pE (tO_pE (tO_pE k1))) fk_0_24 rfl rfl ?_
    refine r_iload d_X1_add_47 g4 ?_
    replace e := ckd e
    obtain ⟨k12, e⟩ := e
    replace e := ckd e
    obtain ⟨k13, e⟩ := e
    refine g_iast d_X1_add_49 k12 k13 ?_
    replace e := bhd e
    obtain ⟨_, rfl, e⟩ := e
    refine g_ald_n d_X1_add_50 rfl g0 ?_
    refine r_dup d_X1_add_51 (zrf_cat _) ?_
    refine g_getI d_X1_add_52 (f := 204) (tO_pE (tO_pE (tO_pE (tO_pE k1)))) fk_0_24 rfl rfl ?_
    refine r_iconst d_X1_add_55 (v := (1 : Int32)) (by decide +kernel) ?_
    refine r_iadd d_X1_add_56 ?_
    refine g_putI d_X1_add_57 (f := 204) (tO_pE (tO_pE (tO_pE (tO_pE k1)))) fk_0_24 rfl (Or.inl rfl) ⟨rfl, rfl⟩ ?_
    replace e := bhd e
    obtain ⟨_, rfl, e⟩ := e
    obtain rfl := Option.some.inj e
    exact g_vret d_X1_add_60 rfl

theorem c_X1_add {G : Gd} {j : Nat} (hj : 1 ≤ j) {l0 : Nat} {l1 : Int32} {l2 : Int32} {l3 : Int32} {l4 : Int32} {h : Hp} {o : Hp} (e : f_X1_add l0 l1 l2 l3 l4 h = some o) : Cal G j Y_X1_add [zrf (l0), .int (l1), .int (l2), .int (l3), .int (l4)] h none o := Cal.of (n := 0) (I := false) (by first | exact Or.inl (by decide +kernel) | exact Or.inr (by decide +kernel)) (by decide) (by simp [lg_sl, zrf_cat, cat_int, cat_long]) (f_X1_add_ok hj _ _ _ _ _ _ h o (by simp [lv_args, zlk, zrf_cat, cat_int, cat_long]) (by simp [lv_args, zlk, zrf_cat, cat_int, cat_long]) (by simp [lv_args, zlk, zrf_cat, cat_int, cat_long]) (by simp [lv_args, zlk, zrf_cat, cat_int, cat_long]) (by simp [lv_args, zlk, zrf_cat, cat_int, cat_long]) e)
def f_X1_count_37 (K5 : Nat → Int32 → Int32 → Int32 → Int32 → Hp → Option (Int32 × Hp)) (s0 : Int32) (s1 : Int32) (l0 : Nat) (l1 : Int32) (l2 : Int32) (l4 : Int32) (h : Hp) : Option (Int32 × Hp) := bh ((s0) + (s1)) (fun x7 => bh ((l4) + (1 : Int32)) (fun x8 => K5 (l0) (l1) (l2) (x7) (x8) (h)))
theorem f_X1_count_37_ok {G : Gd} {d : Nat} (K5 : Nat → Int32 → Int32 → Int32 → Int32 → Hp → Option (Int32 × Hp)) (hj : 1 ≤ d) (hK5 : ∀ (l0 : Nat) (l1 : Int32) (l2 : Int32) (l3 : Int32) (l4 : Int32) (L : List (Nat × Value)) (h : Hp) (o : (Int32 × Hp)), zlk L 0 = some (zrf (l0)) → zlk L 1 = some (.int (l1)) → zlk L 2 = some (.int (l2)) → zlk L 3 = some (.int (l3)) → zlk L 4 = some (.int (l4)) → K5 l0 l1 l2 l3 l4 h = some o → Ev G M_X1_count d 5 L [] h (Ret Y_X1_count (some (.int o.1)) o.2)) : ∀ (s0 : Int32) (s1 : Int32) (l0 : Nat) (l1 : Int32) (l2 : Int32) (l4 : Int32) (L : List (Nat × Value)) (h : Hp) (o : (Int32 × Hp)), zlk L 0 = some (zrf (l0)) → zlk L 1 = some (.int (l1)) → zlk L 2 = some (.int (l2)) → zlk L 4 = some (.int (l4)) → f_X1_count_37 K5 s0 s1 l0 l1 l2 l4 h = some o → Ev G M_X1_count d 37 L [.int (s1), .int (s0)] h (Ret Y_X1_count (some (.int o.1)) o.2) := by
  intro s0 s1 l0 l1 l2 l4 L h o g0 g1 g2 g4 e
  unfold f_X1_count_37 at e
  refine r_iadd d_X1_count_37 ?_
  replace e := bhd e
  obtain ⟨_, rfl, e⟩ := e
  refine s_istore_n d_X1_count_38 rfl (by decide) (fun L g3 gK => ?_)
  replace g0 := gK _ _ (by decide) (Or.inr (zrf_cat _)) g0
  replace g1 := gK _ _ (by decide) (Or.inr rfl) g1
  replace g2 := gK _ _ (by decide) (Or.inr rfl) g2
  replace g4 := gK _ _ (by decide) (Or.inr rfl) g4
  replace e := bhd e
  obtain ⟨_, rfl, e⟩ := e
  refine s_iinc d_X1_count_39 g4 (w := (1 : Int32)) (by decide +kernel) (by decide) (fun L g4 gK => ?_)
  replace g0 := gK _ _ (by decide) (Or.inr (zrf_cat _)) g0
  replace g1 := gK _ _ (by decide) (Or.inr rfl) g1
  replace g2 := gK _ _ (by decide) (Or.inr rfl) g2
  replace g3 := gK _ _ (by decide) (Or.inr rfl) g3
  refine r_goto d_X1_count_42 (tgt := 5) (by decide) ?_
  exact hK5 _ _ _ _ _ _ _ _ g0 g1 g2 g3 g4 e

def f_X1_count_5 : Nat → Nat → Int32 → Int32 → Int32 → Int32 → Hp → Option (Int32 × Hp)
  | 0, _, _, _, _, _, _ => none
  | n + 1, l0, l1, l2, l3, l4, h => if (l2) ≤ (l4) then (some (l3, h)) else (ck (isO (h) (l0) 2) (if (zI (h) 204 (l0)) ≤ (l4) then (some (l3, h)) else (ck (isO (h) (zR (h) 200 (l0)) 22) (ck (inR (l4) (zL (h) (zR (h) 200 (l0)))) (if (zE (h) (zR (h) 200 (l0)) (l4).toNatClampNeg) = (l1) then (f_X1_count_37 (f_X1_count_5 n) (l3) ((1 : Int32)) (l0) (l1) (l2) (l4) (h)) else (f_X1_count_37 (f_X1_count_5 n) (l3) ((0 : Int32)) (l0) (l1) (l2) (l4) (h)))))))
theorem f_X1_count_5_ok {G : Gd} {d : Nat} (hj : 1 ≤ d) : ∀ (n : Nat) (l0 : Nat) (l1 : Int32) (l2 : Int32) (l3 : Int32) (l4 : Int32) (L : List (Nat × Value)) (h : Hp) (o : (Int32 × Hp)), zlk L 0 = some (zrf (l0)) → zlk L 1 = some (.int (l1)) → zlk L 2 = some (.int (l2)) → zlk L 3 = some (.int (l3)) → zlk L 4 = some (.int (l4)) → f_X1_count_5 n l0 l1 l2 l3 l4 h = some o → Ev G M_X1_count d 5 L [] h (Ret Y_X1_count (some (.int o.1)) o.2) := by
  intro n
  induction n with
  | zero =>
    intro l0 l1 l2 l3 l4 L h o g0 g1 g2 g3 g4 e
    cases e
  | succ n ih =>
    intro l0 l1 l2 l3 l4 L h o g0 g1 g2 g3 g4 e
    unfold f_X1_count_5 at e
    refine r_iload d_X1_count_5 g4 ?_
    refine r_iload_n d_X1_count_7 rfl g2 ?_
    refine r_icmp_ge d_X1_count_8 (tgt := 45) (by decide) (fun c1 => ?_) (fun c1 => ?_)
    · replace e := (if_pos c1).symm.trans e
      refine r_iload_n d_X1_count_45 rfl g3 ?_
      obtain rfl := Option.some.inj e
      exact g_iret d_X1_count_46 rfl rfl
    · replace e := (if_neg c1).symm.trans e
      refine r_iload d_X1_count_11 g4 ?_
      refine g_ald_n d_X1_count_13 rfl g0 ?_
      replace e := ckd e
      obtain ⟨k2, e⟩ := e
      refine g_getI d_X1_count_14 (f := 204) k2 fk_0_24 rfl rfl ?_
      refine r_icmp_ge d_X1_count_17 (tgt := 45) (by decide) (fun c3 => ?_) (fun c3 => ?_)
      · replace e := (if_pos c3).symm.trans e
        refine r_iload_n d_X1_count_45 rfl g3 ?_
        obtain rfl := Option.some.inj e
        exact g_iret d_X1_count_46 rfl rfl
      · replace e := (if_neg c3).symm.trans e
        refine r_iload_n d_X1_count_20 rfl g3 ?_
        refine g_ald_n d_X1_count_21 rfl g0 ?_
        refine g_getR d_X1_count_22 (f := 200) k2 fk_0_9 rfl rfl ?_
        refine r_iload d_X1_count_25 g4 ?_
        replace e := ckd e
        obtain ⟨k4, e⟩ := e
        replace e := ckd e
        obtain ⟨k5, e⟩ := e
        refine g_iald d_X1_count_27 k4 k5 rfl ?_
        refine r_iload_n d_X1_count_28 rfl g1 ?_
        refine r_icmp_ne d_X1_count_29 (tgt := 36) (by decide) (fun c6 => ?_) (fun c6 => ?_)
        · replace e := (if_neg c6).symm.trans e
          refine r_iconst d_X1_count_36 (v := (0 : Int32)) (by decide +kernel) ?_
          exact f_X1_count_37_ok _ hj ih _ _ _ _ _ _ _ _ _ g0 g1 g2 g4 e
        · replace e := (if_pos c6).symm.trans e
          refine r_iconst d_X1_count_32 (v := (1 : Int32)) (by decide +kernel) ?_
          refine r_goto d_X1_count_33 (tgt := 37) (by decide) ?_
          exact f_X1_count_37_ok _ hj ih _ _ _ _ _ _ _ _ _ g0 g1 g2 g4 e

def f_X1_count (l0 : Nat) (l1 : Int32) (l2 : Int32) (h : Hp) : Option (Int32 × Hp) := f_X1_count_5 fz (l0) (l1) (l2) ((0 : Int32)) ((0 : Int32)) (h)
theorem f_X1_count_ok {G : Gd} {d : Nat} (hj : 1 ≤ d) : ∀ (l0 : Nat) (l1 : Int32) (l2 : Int32) (L : List (Nat × Value)) (h : Hp) (o : (Int32 × Hp)), zlk L 0 = some (zrf (l0)) → zlk L 1 = some (.int (l1)) → zlk L 2 = some (.int (l2)) → f_X1_count l0 l1 l2 h = some o → Ev G M_X1_count d 0 L [] h (Ret Y_X1_count (some (.int o.1)) o.2) := by
  intro l0 l1 l2 L h o g0 g1 g2 e
  unfold f_X1_count at e
  refine r_iconst d_X1_count_0 (v := (0 : Int32)) (by decide +kernel) ?_
  refine s_istore_n d_X1_count_1 rfl (by decide) (fun L g3 gK => ?_)
  replace g0 := gK _ _ (by decide) (Or.inr (zrf_cat _)) g0
  replace g1 := gK _ _ (by decide) (Or.inr rfl) g1
  replace g2 := gK _ _ (by decide) (Or.inr rfl) g2
  refine r_iconst d_X1_count_2 (v := (0 : Int32)) (by decide +kernel) ?_
  refine s_istore d_X1_count_3 (by decide) (fun L g4 gK => ?_)
  replace g0 := gK _ _ (by decide) (Or.inr (zrf_cat _)) g0
  replace g1 := gK _ _ (by decide) (Or.inr rfl) g1
  replace g2 := gK _ _ (by decide) (Or.inr rfl) g2
  replace g3 := gK _ _ (by decide) (Or.inr rfl) g3
  exact f_X1_count_5_ok hj _ _ _ _ _ _ _ _ _ g0 g1 g2 g3 g4 e

theorem c_X1_count {G : Gd} {j : Nat} (hj : 1 ≤ j) {l0 : Nat} {l1 : Int32} {l2 : Int32} {h : Hp} {o : (Int32 × Hp)} (e : f_X1_count l0 l1 l2 h = some o) : Cal G j Y_X1_count [zrf (l0), .int (l1), .int (l2)] h (some (.int o.1)) o.2 := Cal.of (n := 0) (I := false) (by first | exact Or.inl (by decide +kernel) | exact Or.inr (by decide +kernel)) (by decide) (by simp [lg_sl, zrf_cat, cat_int, cat_long]) (f_X1_count_ok hj _ _ _ _ h o (by simp [lv_args, zlk, zrf_cat, cat_int, cat_long]) (by simp [lv_args, zlk, zrf_cat, cat_int, cat_long]) (by simp [lv_args, zlk, zrf_cat, cat_int, cat_long]) e)
def f_X1_placeOf_35 (K5 : Nat → Int32 → Int32 → Int32 → Hp → Option (Int32 × Hp)) (l0 : Nat) (l1 : Int32) (l3 : Int32) (l4 : Int32) (h : Hp) : Option (Int32 × Hp) := bh ((l4) + (1 : Int32)) (fun x8 => K5 (l0) (l1) (l3) (x8) (h))
theorem f_X1_placeOf_35_ok {G : Gd} {d : Nat} (K5 : Nat → Int32 → Int32 → Int32 → Hp → Option (Int32 × Hp)) (hj : 1 ≤ d) (hK5 : ∀ (l0 : Nat) (l1 : Int32) (l3 : Int32) (l4 : Int32) (L : List (Nat × Value)) (h : Hp) (o : (Int32 × Hp)), zlk L 0 = some (zrf (l0)) → zlk L 1 = some (.int (l1)) → zlk L 3 = some (.int (l3)) → zlk L 4 = some (.int (l4)) → K5 l0 l1 l3 l4 h = some o → Ev G M_X1_placeOf d 5 L [] h (Ret Y_X1_placeOf (some (.int o.1)) o.2)) : ∀ (l0 : Nat) (l1 : Int32) (l3 : Int32) (l4 : Int32) (L : List (Nat × Value)) (h : Hp) (o : (Int32 × Hp)), zlk L 0 = some (zrf (l0)) → zlk L 1 = some (.int (l1)) → zlk L 3 = some (.int (l3)) → zlk L 4 = some (.int (l4)) → f_X1_placeOf_35 K5 l0 l1 l3 l4 h = some o → Ev G M_X1_placeOf d 35 L [] h (Ret Y_X1_placeOf (some (.int o.1)) o.2) := by
  intro l0 l1 l3 l4 L h o g0 g1 g3 g4 e
  unfold f_X1_placeOf_35 at e
  replace e := bhd e
  obtain ⟨_, rfl, e⟩ := e
  refine s_iinc d_X1_placeOf_35 g4 (w := (1 : Int32)) (by decide +kernel) (by decide) (fun L g4 gK => ?_)
  replace g0 := gK _ _ (by decide) (Or.inr (zrf_cat _)) g0
  replace g1 := gK _ _ (by decide) (Or.inr rfl) g1
  replace g3 := gK _ _ (by decide) (Or.inr rfl) g3
  refine r_goto d_X1_placeOf_38 (tgt := 5) (by decide) ?_
  exact hK5 _ _ _ _ _ _ _ g0 g1 g3 g4 e

def f_X1_placeOf_5 : Nat → Nat → Int32 → Int32 → Int32 → Hp → Option (Int32 × Hp)
  | 0, _, _, _, _, _ => none
  | n + 1, l0, l1, l3, l4, h => ck (isO (h) (l0) 2) (if (zI (h) 204 (l0)) ≤ (l4) then (some ((-1 : Int32), h)) else (ck (isO (h) (zR (h) 200 (l0)) 22) (ck (inR (l4) (zL (h) (zR (h) 200 (l0)))) (if (zE (h) (zR (h) 200 (l0)) (l4).toNatClampNeg) = (l1) then (if (l3) = (0) then (some (l4, h)) else (bh ((l3) + (-1 : Int32)) (fun x7 => f_X1_placeOf_35 (f_X1_placeOf_5 n) (l0) (l1) (x7) (l4) (h)))) else (f_X1_placeOf_35 (f_X1_placeOf_5 n) (l0) (l1) (l3) (l4) (h))))))
theorem f_X1_placeOf_5_ok {G : Gd} {d : Nat} (hj : 1 ≤ d) : ∀ (n : Nat) (l0 : Nat) (l1 : Int32) (l3 : Int32) (l4 : Int32) (L : List (Nat × Value)) (h : Hp) (o : (Int32 × Hp)), zlk L 0 = some (zrf (l0)) → zlk L 1 = some (.int (l1)) → zlk L 3 = some (.int (l3)) → zlk L 4 = some (.int (l4)) → f_X1_placeOf_5 n l0 l1 l3 l4 h = some o → Ev G M_X1_placeOf d 5 L [] h (Ret Y_X1_placeOf (some (.int o.1)) o.2) := by
  intro n
  induction n with
  | zero =>
    intro l0 l1 l3 l4 L h o g0 g1 g3 g4 e
    cases e
  | succ n ih =>
    intro l0 l1 l3 l4 L h o g0 g1 g3 g4 e
    unfold f_X1_placeOf_5 at e
    refine r_iload d_X1_placeOf_5 g4 ?_
    refine g_ald_n d_X1_placeOf_7 rfl g0 ?_
    replace e := ckd e
    obtain ⟨k1, e⟩ := e
    refine g_getI d_X1_placeOf_8 (f := 204) k1 fk_0_24 rfl rfl ?_
    refine r_icmp_ge d_X1_placeOf_11 (tgt := 41) (by decide) (fun c2 => ?_) (fun c2 => ?_)
    · replace e := (if_pos c2).symm.trans e
      refine r_iconst d_X1_placeOf_41 (v := (-1 : Int32)) (by decide +kernel) ?_
      obtain rfl := Option.some.inj e
      exact g_iret d_X1_placeOf_42 rfl rfl
    · replace e := (if_neg c2).symm.trans e
      refine g_ald_n d_X1_placeOf_14 rfl g0 ?_
      refine g_getR d_X1_placeOf_15 (f := 200) k1 fk_0_9 rfl rfl ?_
      refine r_iload d_X1_placeOf_18 g4 ?_
      replace e := ckd e
      obtain ⟨k3, e⟩ := e
      replace e := ckd e
      obtain ⟨k4, e⟩ := e
      refine g_iald d_X1_placeOf_20 k3 k4 rfl ?_
      refine r_iload_n d_X1_placeOf_21 rfl g1 ?_
      refine r_icmp_ne d_X1_placeOf_22 (tgt := 35) (by decide) (fun c5 => ?_) (fun c5 => ?_)
      · replace e := (if_neg c5).symm.trans e
        exact f_X1_placeOf_35_ok _ hj ih _ _ _ _ _ _ _ g0 g1 g3 g4 e
      · replace e := (if_pos c5).symm.trans e
        refine r_iload_n d_X1_placeOf_25 rfl g3 ?_
        refine r_if_ne d_X1_placeOf_26 (tgt := 32) (by decide) (fun c6 => ?_) (fun c6 => ?_)
        · replace e := (if_neg c6).symm.trans e
          replace e := bhd e
          obtain ⟨_, rfl, e⟩ := e
          refine s_iinc d_X1_placeOf_32 g3 (w := (-1 : Int32)) (by decide +kernel) (by decide) (fun L g3 gK => ?_)
          replace g0 := gK _ _ (by decide) (Or.inr (zrf_cat _)) g0
          replace g1 := gK _ _ (by decide) (Or.inr rfl) g1
          replace g4 := gK _ _ (by decide) (Or.inr rfl) g4
          exact f_X1_placeOf_35_ok _ hj ih _ _ _ _ _ _ _ g0 g1 g3 g4 e
        · replace e := (if_pos c6).symm.trans e
          refine r_iload d_X1_placeOf_29 g4 ?_
          obtain rfl := Option.some.inj e
          exact g_iret d_X1_placeOf_31 rfl rfl

def f_X1_placeOf (l0 : Nat) (l1 : Int32) (l2 : Int32) (h : Hp) : Option (Int32 × Hp) := f_X1_placeOf_5 fz (l0) (l1) (l2) ((0 : Int32)) (h)
theorem f_X1_placeOf_ok {G : Gd} {d : Nat} (hj : 1 ≤ d) : ∀ (l0 : Nat) (l1 : Int32) (l2 : Int32) (L : List (Nat × Value)) (h : Hp) (o : (Int32 × Hp)), zlk L 0 = some (zrf (l0)) → zlk L 1 = some (.int (l1)) → zlk L 2 = some (.int (l2)) → f_X1_placeOf l0 l1 l2 h = some o → Ev G M_X1_placeOf d 0 L [] h (Ret Y_X1_placeOf (some (.int o.1)) o.2) := by
  intro l0 l1 l2 L h o g0 g1 g2 e
  unfold f_X1_placeOf at e
  refine r_iload_n d_X1_placeOf_0 rfl g2 ?_
  refine s_istore_n d_X1_placeOf_1 rfl (by decide) (fun L g3 gK => ?_)
  replace g0 := gK _ _ (by decide) (Or.inr (zrf_cat _)) g0
  replace g1 := gK _ _ (by decide) (Or.inr rfl) g1
  refine r_iconst d_X1_placeOf_2 (v := (0 : Int32)) (by decide +kernel) ?_
  refine s_istore d_X1_placeOf_3 (by decide) (fun L g4 gK => ?_)
  replace g0 := gK _ _ (by decide) (Or.inr (zrf_cat _)) g0
  replace g1 := gK _ _ (by decide) (Or.inr rfl) g1
  replace g3 := gK _ _ (by decide) (Or.inr rfl) g3
  exact f_X1_placeOf_5_ok hj _ _ _ _ _ _ _ _ g0 g1 g3 g4 e

theorem c_X1_placeOf {G : Gd} {j : Nat} (hj : 1 ≤ j) {l0 : Nat} {l1 : Int32} {l2 : Int32} {h : Hp} {o : (Int32 × Hp)} (e : f_X1_placeOf l0 l1 l2 h = some o) : Cal G j Y_X1_placeOf [zrf (l0), .int (l1), .int (l2)] h (some (.int o.1)) o.2 := Cal.of (n := 0) (I := false) (by first | exact Or.inl (by decide +kernel) | exact Or.inr (by decide +kernel)) (by decide) (by simp [lg_sl, zrf_cat, cat_int, cat_long]) (f_X1_placeOf_ok hj _ _ _ _ h o (by simp [lv_args, zlk, zrf_cat, cat_int, cat_long]) (by simp [lv_args, zlk, zrf_cat, cat_int, cat_long]) (by simp [lv_args, zlk, zrf_cat, cat_int, cat_long]) e)
def f_X1_endOfChild_33 (K2 : Nat → Int32 → Int32 → Hp → Option (Int32 × Hp)) (l0 : Nat) (l1 : Int32) (l2 : Int32) (h : Hp) : Option (Int32 × Hp) := bh ((l2) + (1 : Int32)) (fun x9 => K2 (l0) (l1) (x9) (h))
theorem f_X1_endOfChild_33_ok {G : Gd} {d : Nat} (K2 : Nat → Int32 → Int32 → Hp → Option (Int32 × Hp)) (hj : 1 ≤ d) (hK2 : ∀ (l0 : Nat) (l1 : Int32) (l2 : Int32) (L : List (Nat × Value)) (h : Hp) (o : (Int32 × Hp)), zlk L 0 = some (zrf (l0)) → zlk L 1 = some (.int (l1)) → zlk L 2 = some (.int (l2)) → K2 l0 l1 l2 h = some o → Ev G M_X1_endOfChild d 2 L [] h (Ret Y_X1_endOfChild (some (.int o.1)) o.2)) : ∀ (l0 : Nat) (l1 : Int32) (l2 : Int32) (L : List (Nat × Value)) (h : Hp) (o : (Int32 × Hp)), zlk L 0 = some (zrf (l0)) → zlk L 1 = some (.int (l1)) → zlk L 2 = some (.int (l2)) → f_X1_endOfChild_33 K2 l0 l1 l2 h = some o → Ev G M_X1_endOfChild d 33 L [] h (Ret Y_X1_endOfChild (some (.int o.1)) o.2) := by
  intro l0 l1 l2 L h o g0 g1 g2 e
  unfold f_X1_endOfChild_33 at e
  replace e := bhd e
  obtain ⟨_, rfl, e⟩ := e
  refine s_iinc d_X1_endOfChild_33 g2 (w := (1 : Int32)) (by decide +kernel) (by decide) (fun L g2 gK => ?_)
  replace g0 := gK _ _ (by decide) (Or.inr (zrf_cat _)) g0
  replace g1 := gK _ _ (by decide) (Or.inr rfl) g1
  refine r_goto d_X1_endOfChild_36 (tgt := 2) (by decide) ?_
  exact hK2 _ _ _ _ _ _ g0 g1 g2 e

def f_X1_endOfChild_2 : Nat → Nat → Int32 → Int32 → Hp → Option (Int32 × Hp)
  | 0, _, _, _, _ => none
  | n + 1, l0, l1, l2, h => ck (isO (h) (l0) 2) (if (zI (h) 204 (l0)) ≤ (l2) then (some ((-1 : Int32), h)) else (ck (isO (h) (zR (h) 200 (l0)) 22) (ck (inR (l2) (zL (h) (zR (h) 200 (l0)))) (if (zE (h) (zR (h) 200 (l0)) (l2).toNatClampNeg) = ((7 : Int32)) then (ck (isO (h) (zR (h) 201 (l0)) 22) (ck (inR (l2) (zL (h) (zR (h) 201 (l0)))) (if (zE (h) (zR (h) 201 (l0)) (l2).toNatClampNeg) = (l1) then (some (l2, h)) else (f_X1_endOfChild_33 (f_X1_endOfChild_2 n) (l0) (l1) (l2) (h))))) else (f_X1_endOfChild_33 (f_X1_endOfChild_2 n) (l0) (l1) (l2) (h))))))
theorem f_X1_endOfChild_2_ok {G : Gd} {d : Nat} (hj : 1 ≤ d) : ∀ (n : Nat) (l0 : Nat) (l1 : Int32) (l2 : Int32) (L : List (Nat × Value)) (h : Hp) (o : (Int32 × Hp)), zlk L 0 = some (zrf (l0)) → zlk L 1 = some (.int (l1)) → zlk L 2 = some (.int (l2)) → f_X1_endOfChild_2 n l0 l1 l2 h = some o → Ev G M_X1_endOfChild d 2 L [] h (Ret Y_X1_endOfChild (some (.int o.1)) o.2) := by
  intro n
  induction n with
  | zero =>
    intro l0 l1 l2 L h o g0 g1 g2 e
    cases e
  | succ n ih =>
    intro l0 l1 l2 L h o g0 g1 g2 e
    unfold f_X1_endOfChild_2 at e
    refine r_iload_n d_X1_endOfChild_2 rfl g2 ?_
    refine g_ald_n d_X1_endOfChild_3 rfl g0 ?_
    replace e := ckd e
    obtain ⟨k1, e⟩ := e
    refine g_getI d_X1_endOfChild_4 (f := 204) k1 fk_0_24 rfl rfl ?_
    refine r_icmp_ge d_X1_endOfChild_7 (tgt := 39) (by decide) (fun c2 => ?_) (fun c2 => ?_)
    · replace e := (if_pos c2).symm.trans e
      refine r_iconst d_X1_endOfChild_39 (v := (-1 : Int32)) (by decide +kernel) ?_
      obtain rfl := Option.some.inj e
      exact g_iret d_X1_endOfChild_40 rfl rfl
    · replace e := (if_neg c2).symm.trans e
      refine g_ald_n d_X1_endOfChild_10 rfl g0 ?_
      refine g_getR d_X1_endOfChild_11 (f := 200) k1 fk_0_9 rfl rfl ?_
      refine r_iload_n d_X1_endOfChild_14 rfl g2 ?_
      replace e := ckd e
      obtain ⟨k3, e⟩ := e
      replace e := ckd e
      obtain ⟨k4, e⟩ := e
      refine g_iald d_X1_endOfChild_15 k3 k4 rfl ?_
      refine r_bipush d_X1_endOfChild_16 (v := (7 : Int32)) (by decide +kernel) ?_
      refine r_icmp_ne d_X1_endOfChild_18 (tgt := 33) (by decide) (fun c5 => ?_) (fun c5 => ?_)
      · replace e := (if_neg c5).symm.trans e
        exact f_X1_endOfChild_33_ok _ hj ih _ _ _ _ _ _ g0 g1 g2 e
      · replace e := (if_pos c5).symm.trans e
        refine g_ald_n d_X1_endOfChild_21 rfl g0 ?_
        refine g_getR d_X1_endOfChild_22 (f := 201) k1 fk_0_15 rfl rfl ?_
        refine r_iload_n d_X1_endOfChild_25 rfl g2 ?_
        replace e := ckd e
        obtain ⟨k6, e⟩ := e
        replace e := ckd e
        obtain ⟨k7, e⟩ := e
        refine g_iald d_X1_endOfChild_26 k6 k7 rfl ?_
        refine r_iload_n d_X1_endOfChild_27 rfl g1 ?_
        refine r_icmp_ne d_X1_endOfChild_28 (tgt := 33) (by decide) (fun c8 => ?_) (fun c8 => ?_)
        · replace e := (if_neg c8).symm.trans e
          exact f_X1_endOfChild_33_ok _ hj ih _ _ _ _ _ _ g0 g1 g2 e
        · replace e := (if_pos c8).symm.trans e
          refine r_iload_n d_X1_endOfChild_31 rfl g2 ?_
          obtain rfl := Option.some.inj e
          exact g_iret d_X1_endOfChild_32 rfl rfl

def f_X1_endOfChild (l0 : Nat) (l1 : Int32) (h : Hp) : Option (Int32 × Hp) := f_X1_endOfChild_2 fz (l0) (l1) ((0 : Int32)) (h)
theorem f_X1_endOfChild_ok {G : Gd} {d : Nat} (hj : 1 ≤ d) : ∀ (l0 : Nat) (l1 : Int32) (L : List (Nat × Value)) (h : Hp) (o : (Int32 × Hp)), zlk L 0 = some (zrf (l0)) → zlk L 1 = some (.int (l1)) → f_X1_endOfChild l0 l1 h = some o → Ev G M_X1_endOfChild d 0 L [] h (Ret Y_X1_endOfChild (some (.int o.1)) o.2) := by
  intro l0 l1 L h o g0 g1 e
  unfold f_X1_endOfChild at e
  refine r_iconst d_X1_endOfChild_0 (v := (0 : Int32)) (by decide +kernel) ?_
  refine s_istore_n d_X1_endOfChild_1 rfl (by decide) (fun L g2 gK => ?_)
  replace g0 := gK _ _ (by decide) (Or.inr (zrf_cat _)) g0
  replace g1 := gK _ _ (by decide) (Or.inr rfl) g1
  exact f_X1_endOfChild_2_ok hj _ _ _ _ _ _ _ g0 g1 g2 e

theorem c_X1_endOfChild {G : Gd} {j : Nat} (hj : 1 ≤ j) {l0 : Nat} {l1 : Int32} {h : Hp} {o : (Int32 × Hp)} (e : f_X1_endOfChild l0 l1 h = some o) : Cal G j Y_X1_endOfChild [zrf (l0), .int (l1)] h (some (.int o.1)) o.2 := Cal.of (n := 0) (I := false) (by first | exact Or.inl (by decide +kernel) | exact Or.inr (by decide +kernel)) (by decide) (by simp [lg_sl, zrf_cat, cat_int, cat_long]) (f_X1_endOfChild_ok hj _ _ _ h o (by simp [lv_args, zlk, zrf_cat, cat_int, cat_long]) (by simp [lv_args, zlk, zrf_cat, cat_int, cat_long]) e)
def f_X1_hasSignalFrom_33 (K2 : Nat → Int32 → Int32 → Hp → Option (Int32 × Hp)) (l0 : Nat) (l1 : Int32) (l2 : Int32) (h : Hp) : Option (Int32 × Hp) := bh ((l2) + (1 : Int32)) (fun x9 => K2 (l0) (l1) (x9) (h))
theorem f_X1_hasSignalFrom_33_ok {G : Gd} {d : Nat} (K2 : Nat → Int32 → Int32 → Hp → Option (Int32 × Hp)) (hj : 1 ≤ d) (hK2 : ∀ (l0 : Nat) (l1 : Int32) (l2 : Int32) (L : List (Nat × Value)) (h : Hp) (o : (Int32 × Hp)), zlk L 0 = some (zrf (l0)) → zlk L 1 = some (.int (l1)) → zlk L 2 = some (.int (l2)) → K2 l0 l1 l2 h = some o → Ev G M_X1_hasSignalFrom d 2 L [] h (Ret Y_X1_hasSignalFrom (some (.int o.1)) o.2)) : ∀ (l0 : Nat) (l1 : Int32) (l2 : Int32) (L : List (Nat × Value)) (h : Hp) (o : (Int32 × Hp)), zlk L 0 = some (zrf (l0)) → zlk L 1 = some (.int (l1)) → zlk L 2 = some (.int (l2)) → f_X1_hasSignalFrom_33 K2 l0 l1 l2 h = some o → Ev G M_X1_hasSignalFrom d 33 L [] h (Ret Y_X1_hasSignalFrom (some (.int o.1)) o.2) := by
  intro l0 l1 l2 L h o g0 g1 g2 e
  unfold f_X1_hasSignalFrom_33 at e
  replace e := bhd e
  obtain ⟨_, rfl, e⟩ := e
  refine s_iinc d_X1_hasSignalFrom_33 g2 (w := (1 : Int32)) (by decide +kernel) (by decide) (fun L g2 gK => ?_)
  replace g0 := gK _ _ (by decide) (Or.inr (zrf_cat _)) g0
  replace g1 := gK _ _ (by decide) (Or.inr rfl) g1
  refine r_goto d_X1_hasSignalFrom_36 (tgt := 2) (by decide) ?_
  exact hK2 _ _ _ _ _ _ g0 g1 g2 e

def f_X1_hasSignalFrom_2 : Nat → Nat → Int32 → Int32 → Hp → Option (Int32 × Hp)
  | 0, _, _, _, _ => none
  | n + 1, l0, l1, l2, h => ck (isO (h) (l0) 2) (if (zI (h) 204 (l0)) ≤ (l2) then (some ((0 : Int32), h)) else (ck (isO (h) (zR (h) 200 (l0)) 22) (ck (inR (l2) (zL (h) (zR (h) 200 (l0)))) (if (zE (h) (zR (h) 200 (l0)) (l2).toNatClampNeg) = ((8 : Int32)) then (ck (isO (h) (zR (h) 203 (l0)) 22) (ck (inR (l2) (zL (h) (zR (h) 203 (l0)))) (if (zE (h) (zR (h) 203 (l0)) (l2).toNatClampNeg) = (l1) then (some ((1 : Int32), h)) else (f_X1_hasSignalFrom_33 (f_X1_hasSignalFrom_2 n) (l0) (l1) (l2) (h))))) else (f_X1_hasSignalFrom_33 (f_X1_hasSignalFrom_2 n) (l0) (l1) (l2) (h))))))
theorem f_X1_hasSignalFrom_2_ok {G : Gd} {d : Nat} (hj : 1 ≤ d) : ∀ (n : Nat) (l0 : Nat) (l1 : Int32) (l2 : Int32) (L : List (Nat × Value)) (h : Hp) (o : (Int32 × Hp)), zlk L 0 = some (zrf (l0)) → zlk L 1 = some (.int (l1)) → zlk L 2 = some (.int (l2)) → f_X1_hasSignalFrom_2 n l0 l1 l2 h = some o → Ev G M_X1_hasSignalFrom d 2 L [] h (Ret Y_X1_hasSignalFrom (some (.int o.1)) o.2) := by
  intro n
  induction n with
  | zero =>
    intro l0 l1 l2 L h o g0 g1 g2 e
    cases e
  | succ n ih =>
    intro l0 l1 l2 L h o g0 g1 g2 e
    unfold f_X1_hasSignalFrom_2 at e
    refine r_iload_n d_X1_hasSignalFrom_2 rfl g2 ?_
    refine g_ald_n d_X1_hasSignalFrom_3 rfl g0 ?_
    replace e := ckd e
    obtain ⟨k1, e⟩ := e
    refine g_getI d_X1_hasSignalFrom_4 (f := 204) k1 fk_0_24 rfl rfl ?_
    refine r_icmp_ge d_X1_hasSignalFrom_7 (tgt := 39) (by decide) (fun c2 => ?_) (fun c2 => ?_)
    · replace e := (if_pos c2).symm.trans e
      refine r_iconst d_X1_hasSignalFrom_39 (v := (0 : Int32)) (by decide +kernel) ?_
      obtain rfl := Option.some.inj e
      exact g_iret d_X1_hasSignalFrom_40 rfl rfl
    · replace e := (if_neg c2).symm.trans e
      refine g_ald_n d_X1_hasSignalFrom_10 rfl g0 ?_
      refine g_getR d_X1_hasSignalFrom_11 (f := 200) k1 fk_0_9 rfl rfl ?_
      refine r_iload_n d_X1_hasSignalFrom_14 rfl g2 ?_
      replace e := ckd e
      obtain ⟨k3, e⟩ := e
      replace e := ckd e
      obtain ⟨k4, e⟩ := e
      refine g_iald d_X1_hasSignalFrom_15 k3 k4 rfl ?_
      refine r_bipush d_X1_hasSignalFrom_16 (v := (8 : Int32)) (by decide +kernel) ?_
      refine r_icmp_ne d_X1_hasSignalFrom_18 (tgt := 33) (by decide) (fun c5 => ?_) (fun c5 => ?_)
      · replace e := (if_neg c5).symm.trans e
        exact f_X1_hasSignalFrom_33_ok _ hj ih _ _ _ _ _ _ g0 g1 g2 e
      · replace e := (if_pos c5).symm.trans e
        refine g_ald_n d_X1_hasSignalFrom_21 rfl g0 ?_
        refine g_getR d_X1_hasSignalFrom_22 (f := 203) k1 fk_0_21 rfl rfl ?_
        refine r_iload_n d_X1_hasSignalFrom_25 rfl g2 ?_
        replace e := ckd e
        obtain ⟨k6, e⟩ := e
        replace e := ckd e
        obtain ⟨k7, e⟩ := e
        refine g_iald d_X1_hasSignalFrom_26 k6 k7 rfl ?_
        refine r_iload_n d_X1_hasSignalFrom_27 rfl g1 ?_
        refine r_icmp_ne d_X1_hasSignalFrom_28 (tgt := 33) (by decide) (fun c8 => ?_) (fun c8 => ?_)
        · replace e := (if_neg c8).symm.trans e
          exact f_X1_hasSignalFrom_33_ok _ hj ih _ _ _ _ _ _ g0 g1 g2 e
        · replace e := (if_pos c8).symm.trans e
          refine r_iconst d_X1_hasSignalFrom_31 (v := (1 : Int32)) (by decide +kernel) ?_
          obtain rfl := Option.some.inj e
          exact g_iret d_X1_hasSignalFrom_32 rfl rfl

def f_X1_hasSignalFrom (l0 : Nat) (l1 : Int32) (h : Hp) : Option (Int32 × Hp) := f_X1_hasSignalFrom_2 fz (l0) (l1) ((0 : Int32)) (h)
theorem f_X1_hasSignalFrom_ok {G : Gd} {d : Nat} (hj : 1 ≤ d) : ∀ (l0 : Nat) (l1 : Int32) (L : List (Nat × Value)) (h : Hp) (o : (Int32 × Hp)), zlk L 0 = some (zrf (l0)) → zlk L 1 = some (.int (l1)) → f_X1_hasSignalFrom l0 l1 h = some o → Ev G M_X1_hasSignalFrom d 0 L [] h (Ret Y_X1_hasSignalFrom (some (.int o.1)) o.2) := by
  intro l0 l1 L h o g0 g1 e
  unfold f_X1_hasSignalFrom at e
  refine r_iconst d_X1_hasSignalFrom_0 (v := (0 : Int32)) (by decide +kernel) ?_
  refine s_istore_n d_X1_hasSignalFrom_1 rfl (by decide) (fun L g2 gK => ?_)
  replace g0 := gK _ _ (by decide) (Or.inr (zrf_cat _)) g0
  replace g1 := gK _ _ (by decide) (Or.inr rfl) g1
  exact f_X1_hasSignalFrom_2_ok hj _ _ _ _ _ _ _ g0 g1 g2 e

theorem c_X1_hasSignalFrom {G : Gd} {j : Nat} (hj : 1 ≤ j) {l0 : Nat} {l1 : Int32} {h : Hp} {o : (Int32 × Hp)} (e : f_X1_hasSignalFrom l0 l1 h = some o) : Cal G j Y_X1_hasSignalFrom [zrf (l0), .int (l1)] h (some (.int o.1)) o.2 := Cal.of (n := 0) (I := false) (by first | exact Or.inl (by decide +kernel) | exact Or.inr (by decide +kernel)) (by decide) (by simp [lg_sl, zrf_cat, cat_int, cat_long]) (f_X1_hasSignalFrom_ok hj _ _ _ h o (by simp [lv_args, zlk, zrf_cat, cat_int, cat_long]) (by simp [lv_args, zlk, zrf_cat, cat_int, cat_long]) e)
theorem fk_1_9 : Fk "TaskWeave$Outbox" 9 300 := ⟨by decide, by decide, by decide +kernel⟩
theorem fk_1_15 : Fk "TaskWeave$Outbox" 15 301 := ⟨by decide, by decide, by decide +kernel⟩
theorem fk_1_18 : Fk "TaskWeave$Outbox" 18 302 := ⟨by decide, by decide, by decide +kernel⟩
def f_X2_init (l0 : Nat) (h : Hp) : Option Hp := ck (isO (h) (l0) 3) (ck (8 ≤ zn (h)) (bh (pN (h) 22 ((16 : Int32)).toNatClampNeg) (fun h3 => bh (pR (h3) 300 (l0) (zn (h))) (fun h4 => ck (8 ≤ zn (h4)) (bh (pN (h4) 22 ((16 : Int32)).toNatClampNeg) (fun h6 => bh (pR (h6) 301 (l0) (zn (h4))) (fun h7 => ck (8 ≤ zn (h7)) (bh (pN (h7) 22 ((16 : Int32)).toNatClampNeg) (fun h9 => bh (pR (h9) 302 (l0) (zn (h7))) (fun h10 => some (h10)))))))))))
theorem f_X2_init_ok {G : Gd} {d : Nat} (hj : 1 ≤ d) : ∀ (l0 : Nat) (L : List (Nat × Value)) (h : Hp) (o : Hp), zlk L 0 = some (zrf (l0)) → f_X2_init l0 h = some o → Ev G M_X2_init d 0 L [] h (Ret Y_X2_init none o) := by
  intro l0 L h o g0 e
  unfold f_X2_init at e
  refine g_ald_n d_X2_init_0 rfl g0 ?_
  replace e := ckd e
  obtain ⟨k1, e⟩ := e
  refine g_objInit k1 d_X2_init_1 (by decide +kernel) (by omega) (by simp [zrf_cat, cat_int, cat_long]) ?_
  refine g_ald_n d_X2_init_4 rfl g0 ?_
  refine r_bipush d_X2_init_5 (v := (16 : Int32)) (by decide +kernel) ?_
  replace e := ckd e
  obtain ⟨k2, e⟩ := e
  refine g_newa (t := 22) k2 d_X2_init_7 (by decide) (by decide) rfl (by decide +kernel) (by decide) (by decide +kernel) ?_
  replace e := bhd e
  obtain ⟨_, rfl, e⟩ := e
  refine g_putR d_X2_init_9 (f := 300) (tO_pN k1) fk_1_9 rfl (Or.inl rfl) (Or.inr ⟨_, rfl⟩) ?_
  replace e := bhd e
  obtain ⟨_, rfl, e⟩ := e
  refine g_ald_n d_X2_init_12 rfl g0 ?_
  refine r_bipush d_X2_init_13 (v := (16 : Int32)) (by decide +kernel) ?_
  replace e := ckd e
  obtain ⟨k5, e⟩ := e
  refine g_newa (t := 22) k5 d_X2_init_15 (by decide) (by decide) rfl (by decide +kernel) (by decide) (by decide +kernel) ?_
  replace e := bhd e
  obtain ⟨_, rfl, e⟩ := e
  refine g_putR d_X2_init_17 (f := 301) (tO_pN (tO_pR (tO_pN k1))) fk_1_15 rfl (Or.inl rfl) (Or.inr ⟨_, rfl⟩) ?_
  replace e := bhd e
  obtain ⟨_, rfl, e⟩ := e
  refine g_ald_n d_X2_init_20 rfl g0 ?_
  refine r_bipush d_X2_init_21 (v := (16 : Int32)) (by decide +kernel) ?_
  replace e := ckd e
  obtain ⟨k8, e⟩ := e
  refine g_newa (t := 22) k8 d_X2_init_23 (by decide) (by decide) rfl (by decide +kernel) (by decide) (by decide +kernel) ?_
  replace e := bhd e
  obtain ⟨_, rfl, e⟩ := e
  refine g_putR d_X2_init_25 (f := 302) (tO_pN (tO_pR (tO_pN (tO_pR (tO_pN k1))))) fk_1_18 rfl (Or.inl rfl) (Or.inr ⟨_, rfl⟩) ?_
  replace e := bhd e
  obtain ⟨_, rfl, e⟩ := e
  obtain rfl := Option.some.inj e
  exact g_vret d_X2_init_28 rfl

theorem c_X2_init {G : Gd} {j : Nat} (hj : 1 ≤ j) {l0 : Nat} {h : Hp} {o : Hp} (e : f_X2_init l0 h = some o) : Cal G j Y_X2_init [zrf (l0)] h none o := Cal.of (n := 0) (I := true) (by first | exact Or.inl (by decide +kernel) | exact Or.inr (by decide +kernel)) (by decide) (by simp [lg_sl, zrf_cat, cat_int, cat_long]) (f_X2_init_ok hj _ _ h o (by simp [lv_args, zlk, zrf_cat, cat_int, cat_long]) e)
def f_J7_copyOf_59c91 (l0 : Nat) (l1 : Int32) (h : Hp) : Option (Nat × Hp) := ck (isO (h) (l0) 22) (if (l1) = (nI (zL (h) (l0))) then (ck (8 ≤ zn (h)) (ck (∀ i, i < zL (h) (l0) → fits (kA 22) (.int (zE (h) (l0) i)) = true) (bh (pCl (h) 22 (l0)) (fun h13 => ck (isO (h13) (zn (h)) 22) (some (zn (h), h13)))))) else (ck (8 ≤ zn (h)) (ck (¬ (l1) < 0 ∧ (l1).toNatClampNeg ≤ 1000000) (bh (pN (h) 22 (l1).toNatClampNeg) (fun h5 => bh (zn (h)) (fun x6 => ck (isO (h5) (x6) 22) (ck ((¬ ((0 : Int32)) < 0 ∧ ¬ ((0 : Int32)) < 0 ∧ ¬ ((if (l1) < (nI (zL (h5) (l0))) then (l1) else (nI (zL (h5) (l0))))) < 0) ∧ ((0 : Int32)).toNatClampNeg + ((if (l1) < (nI (zL (h5) (l0))) then (l1) else (nI (zL (h5) (l0))))).toNatClampNeg ≤ zL (h5) (l0) ∧ ((0 : Int32)).toNatClampNeg + ((if (l1) < (nI (zL (h5) (l0))) then (l1) else (nI (zL (h5) (l0))))).toNatClampNeg ≤ zL (h5) (x6)) (ck (∀ i, i < ((if (l1) < (nI (zL (h5) (l0))) then (l1) else (nI (zL (h5) (l0))))).toNatClampNeg → fits (kA 22) (.int (zE (h5) (l0) (((0 : Int32)).toNatClampNeg + i))) = true) (bh (pC (h5) (l0) ((0 : Int32)).toNatClampNeg (x6) ((0 : Int32)).toNatClampNeg ((if (l1) < (nI (zL (h5) (l0))) then (l1) else (nI (zL (h5) (l0))))).toNatClampNeg) (fun h10 => some (x6, h10)))))))))))
theorem f_J7_copyOf_59c91_ok {G : Gd} {d : Nat} (hj : 1 ≤ d) : ∀ (l0 : Nat) (l1 : Int32) (L : List (Nat × Value)) (h : Hp) (o : (Nat × Hp)), zlk L 0 = some (zrf (l0)) → zlk L 1 = some (.int (l1)) → f_J7_copyOf_59c91 l0 l1 h = some o → Ev G M_J7_copyOf_59c91 d 0 L [] h (Ret Y_J7_copyOf_59c91 (some (zrf o.1)) o.2) := by
  intro l0 l1 L h o g0 g1 e
  unfold f_J7_copyOf_59c91 at e
  refine r_iload_n d_J7_copyOf_59c91_0 rfl g1 ?_
  refine g_ald_n d_J7_copyOf_59c91_1 rfl g0 ?_
  replace e := ckd e
  obtain ⟨k1, e⟩ := e
  refine g_alen d_J7_copyOf_59c91_2 k1 (by decide) (by decide) rfl ?_
  refine r_icmp_ne d_J7_copyOf_59c91_3 (tgt := 14) (by decide) (fun c2 => ?_) (fun c2 => ?_)
  · replace e := (if_neg c2).symm.trans e
    refine r_iload_n d_J7_copyOf_59c91_14 rfl g1 ?_
    replace e := ckd e
    obtain ⟨k3, e⟩ := e
    replace e := ckd e
    obtain ⟨k4, e⟩ := e
    refine g_newa (t := 22) k3 d_J7_copyOf_59c91_15 (by decide) (by decide) rfl k4 (by decide) (by decide +kernel) ?_
    replace e := bhd e
    obtain ⟨_, rfl, e⟩ := e
    replace e := bhd e
    obtain ⟨_, rfl, e⟩ := e
    refine s_ast_n d_J7_copyOf_59c91_17 rfl (by decide) (fun L g2 gK => ?_)
    replace g0 := gK _ _ (by decide) (Or.inr (zrf_cat _)) g0
    replace g1 := gK _ _ (by decide) (Or.inr rfl) g1
    refine g_ald_n d_J7_copyOf_59c91_18 rfl g0 ?_
    refine r_iconst d_J7_copyOf_59c91_19 (v := (0 : Int32)) (by decide +kernel) ?_
    refine g_ald_n d_J7_copyOf_59c91_20 rfl g2 ?_
    refine r_iconst d_J7_copyOf_59c91_21 (v := (0 : Int32)) (by decide +kernel) ?_
    refine g_ald_n d_J7_copyOf_59c91_22 rfl g0 ?_
    refine g_alen d_J7_copyOf_59c91_23 (tO_pN k1) (by decide) (by decide) rfl ?_
    refine r_iload_n d_J7_copyOf_59c91_24 rfl g1 ?_
    refine g_mmin d_J7_copyOf_59c91_25 (by decide +kernel) (by omega) (by simp [zrf_cat, cat_int, cat_long]) ?_
    replace e := ckd e
    obtain ⟨k7, e⟩ := e
    replace e := ckd e
    obtain ⟨k8, e⟩ := e
    replace e := ckd e
    obtain ⟨k9, e⟩ := e
    refine g_copy d_J7_copyOf_59c91_28 (by decide +kernel) (by omega) (by simp [zrf_cat, cat_int, cat_long]) (tO_pN k1) k7 (by decide) (by decide) k8 k9 ?_
    replace e := bhd e
    obtain ⟨_, rfl, e⟩ := e
    refine g_ald_n d_J7_copyOf_59c91_31 rfl g2 ?_
    obtain rfl := Option.some.inj e
    exact g_aret d_J7_copyOf_59c91_32 rfl (Or.inr ⟨_, rfl⟩)
  · replace e := (if_pos c2).symm.trans e
    refine g_ald_n d_J7_copyOf_59c91_6 rfl g0 ?_
    replace e := ckd e
    obtain ⟨k11, e⟩ := e
    replace e := ckd e
    obtain ⟨k12, e⟩ := e
    refine g_clone (t := 22) (ad := "[I") k11 d_J7_copyOf_59c91_7 (by decide) (by decide) (by decide +kernel) (by decide +kernel) (by decide +kernel) (by decide +kernel) (by decide +kernel) (by omega) (by simp [zrf_cat, cat_int, cat_long]) k1 k12 ?_
    replace e := bhd e
    obtain ⟨_, rfl, e⟩ := e
    replace e := ckd e
    obtain ⟨k14, e⟩ := e
    refine g_castA (ad := "[I") d_J7_copyOf_59c91_10 k14 (by decide) (by decide) (by decide +kernel) (by decide +kernel) ?_
    obtain rfl := Option.some.inj e
    exact g_aret d_J7_copyOf_59c91_13 rfl (Or.inr ⟨_, rfl⟩)

theorem c_J7_copyOf_59c91 {G : Gd} {j : Nat} (hj : 1 ≤ j) {l0 : Nat} {l1 : Int32} {h : Hp} {o : (Nat × Hp)} (e : f_J7_copyOf_59c91 l0 l1 h = some o) : Cal G j Y_J7_copyOf_59c91 [zrf (l0), .int (l1)] h (some (zrf o.1)) o.2 := Cal.of (n := 0) (I := false) (by first | exact Or.inl (by decide +kernel) | exact Or.inr (by decide +kernel)) (by decide) (by simp [lg_sl, zrf_cat, cat_int, cat_long]) (f_J7_copyOf_59c91_ok hj _ _ _ h o (by simp [lv_args, zlk, zrf_cat, cat_int, cat_long]) (by simp [lv_args, zlk, zrf_cat, cat_int, cat_long]) e)
theorem fk_1_21 : Fk "TaskWeave$Outbox" 21 303 := ⟨by decide, by decide, by decide +kernel⟩
theorem sk_1_25 : Sk "TaskWeave$Outbox" 25 2 Y_J7_copyOf_59c91 := ⟨yk_J7_copyOf_59c91, by decide +kernel, by decide +kernel⟩
def f_X2_add_63 (l0 : Nat) (l1 : Int32) (l2 : Int32) (l3 : Int32) (h : Hp) : Option Hp := ck (isO (h) (l0) 3) (ck (isO (h) (zR (h) 300 (l0)) 22) (ck (inR (zI (h) 303 (l0)) (zL (h) (zR (h) 300 (l0)))) (bh (pE (h) (zR (h) 300 (l0)) (zI (h) 303 (l0)).toNatClampNeg (l1)) (fun h16 => ck (isO (h16) (zR (h16) 301 (l0)) 22) (ck (inR (zI (h16) 303 (l0)) (zL (h16) (zR (h16) 301 (l0)))) (bh (pE (h16) (zR (h16) 301 (l0)) (zI (h16) 303 (l0)).toNatClampNeg (l2)) (fun h19 => ck (isO (h19) (zR (h19) 302 (l0)) 22) (ck (inR (zI (h19) 303 (l0)) (zL (h19) (zR (h19) 302 (l0)))) (bh (pE (h19) (zR (h19) 302 (l0)) (zI (h19) 303 (l0)).toNatClampNeg (l3)) (fun h22 => bh (pI (h22) 303 (l0) ((zI (h22) 303 (l0)) + ((1 : Int32)))) (fun h23 => some (h23))))))))))))
theorem f_X2_add_63_ok {G : Gd} {d : Nat} (hj : 2 ≤ d) : ∀ (l0 : Nat) (l1 : Int32) (l2 : Int32) (l3 : Int32) (L : List (Nat × Value)) (h : Hp) (o : Hp), zlk L 0 = some (zrf (l0)) → zlk L 1 = some (.int (l1)) → zlk L 2 = some (.int (l2)) → zlk L 3 = some (.int (l3)) → f_X2_add_63 l0 l1 l2 l3 h = some o → Ev G M_X2_add d 63 L [] h (Ret Y_X2_add none o) := by
  intro l0 l1 l2 l3 L h o g0 g1 g2 g3 e
  unfold f_X2_add_63 at e
  refine g_ald_n d_X2_add_63 rfl g0 ?_
  replace e := ckd e
  obtain ⟨k13, e⟩ := e
  refine g_getR d_X2_add_64 (f := 300) k13 fk_1_9 rfl rfl ?_
  refine g_ald_n d_X2_add_67 rfl g0 ?_
  refine g_getI d_X2_add_68 (f := 303) k13 fk_1_21 rfl rfl ?_
  refine r_iload_n d_X2_add_71 rfl g1 ?_
  replace e := ckd e
  obtain ⟨k14, e⟩ := e
  replace e := ckd e
  obtain ⟨k15, e⟩ := e
  refine g_iast d_X2_add_72 k14 k15 ?_
  replace e := bhd e
  obtain ⟨_, rfl, e⟩ := e
  refine g_ald_n d_X2_add_73 rfl g0 ?_
  refine g_getR d_X2_add_74 (f := 301) (tO_pE k13) fk_1_15 rfl rfl ?_
  refine g_ald_n d_X2_add_77 rfl g0 ?_
  refine g_getI d_X2_add_78 (f := 303) (tO_pE k13) fk_1_21 rfl rfl ?_
  refine r_iload_n d_X2_add_81 rfl g2 ?_
  replace e := ckd e
  obtain ⟨k17, e⟩ := e
  replace e := ckd e
  obtain ⟨k18, e⟩ := e
  refine g_iast d_X2_add_82 k17 k18 ?_
  replace e := bhd e
  obtain ⟨_, rfl, e⟩ := e
  refine g_ald_n d_X2_add_83 rfl g0 ?_
  refine g_getR d_X2_add_84 (f := 302) (tO_pE (tO_pE k13)) fk_1_18 rfl rfl ?_
  refine g_ald_n d_X2_add_87 rfl g0 ?_
  refine g_getI d_X2_add_88 (f := 303) (tO_pE (tO_pE k13)) fk_1_21 rfl rfl ?_
  refine r_iload_n d_X2_add_91 rfl g3 ?_
  replace e := ckd e
  obtain ⟨k20, e⟩ := e
  replace e := ckd e
  obtain ⟨k21, e⟩ := e
  refine g_iast d_X2_add_92 k20 k21 ?_
  replace e := bhd e
  obtain ⟨_, rfl, e⟩ := e
  refine g_ald_n d_X2_add_93 rfl g0 ?_
  refine r_dup d_X2_add_94 (zrf_cat _) ?_
  refine g_getI d_X2_add_95 (f := 303) (tO_pE (tO_pE (tO_pE k13))) fk_1_21 rfl rfl ?_
  refine r_iconst d_X2_add_98 (v := (1 : Int32)) (by decide +kernel) ?_
  refine r_iadd d_X2_add_99 ?_
  refine g_putI d_X2_add_100 (f := 303) (tO_pE (tO_pE (tO_pE k13))) fk_1_21 rfl (Or.inl rfl) ⟨rfl, rfl⟩ ?_
  replace e := bhd e
  obtain ⟨_, rfl, e⟩ := e
  obtain rfl := Option.some.inj e
  exact g_vret d_X2_add_103 rfl

def f_X2_add (l0 : Nat) (l1 : Int32) (l2 : Int32) (l3 : Int32) (h : Hp) : Option Hp := ck (isO (h) (l0) 3) (ck (isO (h) (zR (h) 300 (l0)) 22) (if (zI (h) 303 (l0)) = (nI (zL (h) (zR (h) 300 (l0)))) then ((f_J7_copyOf_59c91 (zR (h) 300 (l0)) (((2 : Int32)) * (zI (h) 303 (l0))) (h)).bind (fun q4 => ck (isO (q4.2) (l0) 3) (bh (pR (q4.2) 300 (l0) (q4.1)) (fun h6 => (f_J7_copyOf_59c91 (zR (h6) 301 (l0)) (((2 : Int32)) * (zI (h6) 303 (l0))) (h6)).bind (fun q7 => ck (isO (q7.2) (l0) 3) (bh (pR (q7.2) 301 (l0) (q7.1)) (fun h9 => (f_J7_copyOf_59c91 (zR (h9) 302 (l0)) (((2 : Int32)) * (zI (h9) 303 (l0))) (h9)).bind (fun q10 => ck (isO (q10.2) (l0) 3) (bh (pR (q10.2) 302 (l0) (q10.1)) (fun h12 => f_X2_add_63 (l0) (l1) (l2) (l3) (h12))))))))))) else (f_X2_add_63 (l0) (l1) (l2) (l3) (h))))
theorem f_X2_add_ok {G : Gd} {d : Nat} (hj : 2 ≤ d) : ∀ (l0 : Nat) (l1 : Int32) (l2 : Int32) (l3 : Int32) (L : List (Nat × Value)) (h : Hp) (o : Hp), zlk L 0 = some (zrf (l0)) → zlk L 1 = some (.int (l1)) → zlk L 2 = some (.int (l2)) → zlk L 3 = some (.int (l3)) → f_X2_add l0 l1 l2 l3 h = some o → Ev G M_X2_add d 0 L [] h (Ret Y_X2_add none o) := by
  intro l0 l1 l2 l3 L h o g0 g1 g2 g3 e
  unfold f_X2_add at e
  refine g_ald_n d_X2_add_0 rfl g0 ?_
  replace e := ckd e
  obtain ⟨k1, e⟩ := e
  refine g_getI d_X2_add_1 (f := 303) k1 fk_1_21 rfl rfl ?_
  refine g_ald_n d_X2_add_4 rfl g0 ?_
  refine g_getR d_X2_add_5 (f := 300) k1 fk_1_9 rfl rfl ?_
  replace e := ckd e
  obtain ⟨k2, e⟩ := e
  refine g_alen d_X2_add_8 k2 (by decide) (by decide) rfl ?_
  refine r_icmp_ne d_X2_add_9 (tgt := 63) (by decide) (fun c3 => ?_) (fun c3 => ?_)
  · replace e := (if_neg c3).symm.trans e
    exact f_X2_add_63_ok hj _ _ _ _ _ _ _ g0 g1 g2 g3 e
  · replace e := (if_pos c3).symm.trans e
    refine g_ald_n d_X2_add_12 rfl g0 ?_
    refine g_ald_n d_X2_add_13 rfl g0 ?_
    refine g_getR d_X2_add_14 (f := 300) k1 fk_1_9 rfl rfl ?_
    refine r_iconst d_X2_add_17 (v := (2 : Int32)) (by decide +kernel) ?_
    refine g_ald_n d_X2_add_18 rfl g0 ?_
    refine g_getI d_X2_add_19 (f := 303) k1 fk_1_21 rfl rfl ?_
    refine r_imul d_X2_add_22 ?_
    replace e := bd e
    obtain ⟨q4, eq4, e⟩ := e
    refine g_callS d_X2_add_23 sk_1_25 (as := [_, _]) rfl rfl (by simp [zrf_cat, cat_int, cat_long]) (j := 1) (by omega) (c_J7_copyOf_59c91 (by omega) eq4) ?_
    replace e := ckd e
    obtain ⟨k5, e⟩ := e
    refine g_putR d_X2_add_26 (f := 300) k5 fk_1_9 rfl (Or.inl rfl) (Or.inr ⟨_, rfl⟩) ?_
    replace e := bhd e
    obtain ⟨_, rfl, e⟩ := e
    refine g_ald_n d_X2_add_29 rfl g0 ?_
    refine g_ald_n d_X2_add_30 rfl g0 ?_
    refine g_getR d_X2_add_31 (f := 301) (tO_pR k5) fk_1_15 rfl rfl ?_
    refine r_iconst d_X2_add_34 (v := (2 : Int32)) (by decide +kernel) ?_
    refine g_ald_n d_X2_add_35 rfl g0 ?_
    refine g_getI d_X2_add_36 (f := 303) (tO_pR k5) fk_1_21 rfl rfl ?_
    refine r_imul d_X2_add_39 ?_
    replace e := bd e
    obtain ⟨q7, eq7, e⟩ := e
    refine g_callS d_X2_add_40 sk_1_25 (as := [_, _]) rfl rfl (by simp [zrf_cat, cat_int, cat_long]) (j := 1) (by omega) (c_J7_copyOf_59c91 (by omega) eq7) ?_
    replace e := ckd e
    obtain ⟨k8, e⟩ := e
    refine g_putR d_X2_add_43 (f := 301) k8 fk_1_15 rfl (Or.inl rfl) (Or.inr ⟨_, rfl⟩) ?_
    replace e := bhd e
    obtain ⟨_, rfl, e⟩ := e
    refine g_ald_n d_X2_add_46 rfl g0 ?_
    refine g_ald_n d_X2_add_47 rfl g0 ?_
    refine g_getR d_X2_add_48 (f := 302) (tO_pR k8) fk_1_18 rfl rfl ?_
    refine r_iconst d_X2_add_51 (v := (2 : Int32)) (by decide +kernel) ?_
    refine g_ald_n d_X2_add_52 rfl g0 ?_
    refine g_getI d_X2_add_53 (f := 303) (tO_pR k8) fk_1_21 rfl rfl ?_
    refine r_imul d_X2_add_56 ?_
    replace e := bd e
    obtain ⟨q10, eq10, e⟩ := e
    refine g_callS d_X2_add_57 sk_1_25 (as := [_, _]) rfl rfl (by simp [zrf_cat, cat_int, cat_long]) (j := 1) (by omega) (c_J7_copyOf_59c91 (by omega) eq10) ?_
    replace e := ckd e
    obtain ⟨k11, e⟩ := e
    refine g_putR d_X2_add_60 (f := 302) k11 fk_1_18 rfl (Or.inl rfl) (Or.inr ⟨_, rfl⟩) ?_
    replace e := bhd e
    obtain ⟨_, rfl, e⟩ := e
    exact f_X2_add_63_ok hj _ _ _ _ _ _ _ g0 g1 g2 g3 e

theorem c_X2_add {G : Gd} {j : Nat} (hj : 2 ≤ j) {l0 : Nat} {l1 : Int32} {l2 : Int32} {l3 : Int32} {h : Hp} {o : Hp} (e : f_X2_add l0 l1 l2 l3 h = some o) : Cal G j Y_X2_add [zrf (l0), .int (l1), .int (l2), .int (l3)] h none o := Cal.of (n := 0) (I := false) (by first | exact Or.inl (by decide +kernel) | exact Or.inr (by decide +kernel)) (by decide) (by simp [lg_sl, zrf_cat, cat_int, cat_long]) (f_X2_add_ok hj _ _ _ _ _ h o (by simp [lv_args, zlk, zrf_cat, cat_int, cat_long]) (by simp [lv_args, zlk, zrf_cat, cat_int, cat_long]) (by simp [lv_args, zlk, zrf_cat, cat_int, cat_long]) (by simp [lv_args, zlk, zrf_cat, cat_int, cat_long]) e)
def f_X2_firstBehind_2 : Nat → Nat → Int32 → Int32 → Hp → Option (Int32 × Hp)
  | 0, _, _, _, _ => none
  | n + 1, l0, l1, l2, h => ck (isO (h) (l0) 3) (if (zI (h) 303 (l0)) ≤ (l2) then (some ((-1 : Int32), h)) else (ck (isO (h) (zR (h) 300 (l0)) 22) (ck (inR (l2) (zL (h) (zR (h) 300 (l0)))) (if (zE (h) (zR (h) 300 (l0)) (l2).toNatClampNeg) ≤ (l1) then (bh ((l2) + (1 : Int32)) (fun x6 => f_X2_firstBehind_2 n (l0) (l1) (x6) (h))) else (some (l2, h))))))
theorem f_X2_firstBehind_2_ok {G : Gd} {d : Nat} (hj : 1 ≤ d) : ∀ (n : Nat) (l0 : Nat) (l1 : Int32) (l2 : Int32) (L : List (Nat × Value)) (h : Hp) (o : (Int32 × Hp)), zlk L 0 = some (zrf (l0)) → zlk L 1 = some (.int (l1)) → zlk L 2 = some (.int (l2)) → f_X2_firstBehind_2 n l0 l1 l2 h = some o → Ev G M_X2_firstBehind d 2 L [] h (Ret Y_X2_firstBehind (some (.int o.1)) o.2) := by
  intro n
  induction n with
  | zero =>
    intro l0 l1 l2 L h o g0 g1 g2 e
    cases e
  | succ n ih =>
    intro l0 l1 l2 L h o g0 g1 g2 e
    unfold f_X2_firstBehind_2 at e
    refine r_iload_n d_X2_firstBehind_2 rfl g2 ?_
    refine g_ald_n d_X2_firstBehind_3 rfl g0 ?_
    replace e := ckd e
    obtain ⟨k1, e⟩ := e
    refine g_getI d_X2_firstBehind_4 (f := 303) k1 fk_1_21 rfl rfl ?_
    refine r_icmp_ge d_X2_firstBehind_7 (tgt := 28) (by decide) (fun c2 => ?_) (fun c2 => ?_)
    · replace e := (if_pos c2).symm.trans e
      refine r_iconst d_X2_firstBehind_28 (v := (-1 : Int32)) (by decide +kernel) ?_
      obtain rfl := Option.some.inj e
      exact g_iret d_X2_firstBehind_29 rfl rfl
    · replace e := (if_neg c2).symm.trans e
      refine g_ald_n d_X2_firstBehind_10 rfl g0 ?_
      refine g_getR d_X2_firstBehind_11 (f := 300) k1 fk_1_9 rfl rfl ?_
      refine r_iload_n d_X2_firstBehind_14 rfl g2 ?_
      replace e := ckd e
      obtain ⟨k3, e⟩ := e
      replace e := ckd e
      obtain ⟨k4, e⟩ := e
      refine g_iald d_X2_firstBehind_15 k3 k4 rfl ?_
      refine r_iload_n d_X2_firstBehind_16 rfl g1 ?_
      refine r_icmp_le d_X2_firstBehind_17 (tgt := 22) (by decide) (fun c5 => ?_) (fun c5 => ?_)
      · replace e := (if_pos c5).symm.trans e
        replace e := bhd e
        obtain ⟨_, rfl, e⟩ := e
        refine s_iinc d_X2_firstBehind_22 g2 (w := (1 : Int32)) (by decide +kernel) (by decide) (fun L g2 gK => ?_)
        replace g0 := gK _ _ (by decide) (Or.inr (zrf_cat _)) g0
        replace g1 := gK _ _ (by decide) (Or.inr rfl) g1
        refine r_goto d_X2_firstBehind_25 (tgt := 2) (by decide) ?_
        exact ih _ _ _ _ _ _ g0 g1 g2 e
      · replace e := (if_neg c5).symm.trans e
        refine r_iload_n d_X2_firstBehind_20 rfl g2 ?_
        obtain rfl := Option.some.inj e
        exact g_iret d_X2_firstBehind_21 rfl rfl

def f_X2_firstBehind (l0 : Nat) (l1 : Int32) (h : Hp) : Option (Int32 × Hp) := f_X2_firstBehind_2 fz (l0) (l1) ((0 : Int32)) (h)
theorem f_X2_firstBehind_ok {G : Gd} {d : Nat} (hj : 1 ≤ d) : ∀ (l0 : Nat) (l1 : Int32) (L : List (Nat × Value)) (h : Hp) (o : (Int32 × Hp)), zlk L 0 = some (zrf (l0)) → zlk L 1 = some (.int (l1)) → f_X2_firstBehind l0 l1 h = some o → Ev G M_X2_firstBehind d 0 L [] h (Ret Y_X2_firstBehind (some (.int o.1)) o.2) := by
  intro l0 l1 L h o g0 g1 e
  unfold f_X2_firstBehind at e
  refine r_iconst d_X2_firstBehind_0 (v := (0 : Int32)) (by decide +kernel) ?_
  refine s_istore_n d_X2_firstBehind_1 rfl (by decide) (fun L g2 gK => ?_)
  replace g0 := gK _ _ (by decide) (Or.inr (zrf_cat _)) g0
  replace g1 := gK _ _ (by decide) (Or.inr rfl) g1
  exact f_X2_firstBehind_2_ok hj _ _ _ _ _ _ _ g0 g1 g2 e

theorem c_X2_firstBehind {G : Gd} {j : Nat} (hj : 1 ≤ j) {l0 : Nat} {l1 : Int32} {h : Hp} {o : (Int32 × Hp)} (e : f_X2_firstBehind l0 l1 h = some o) : Cal G j Y_X2_firstBehind [zrf (l0), .int (l1)] h (some (.int o.1)) o.2 := Cal.of (n := 0) (I := false) (by first | exact Or.inl (by decide +kernel) | exact Or.inr (by decide +kernel)) (by decide) (by simp [lg_sl, zrf_cat, cat_int, cat_long]) (f_X2_firstBehind_ok hj _ _ _ h o (by simp [lv_args, zlk, zrf_cat, cat_int, cat_long]) (by simp [lv_args, zlk, zrf_cat, cat_int, cat_long]) e)
def f_X2_remove_61 (K4 : Nat → Int32 → Int32 → Int32 → Hp → Option Hp) (l0 : Nat) (l1 : Int32) (l2 : Int32) (l3 : Int32) (h : Hp) : Option Hp := bh ((l3) + (1 : Int32)) (fun x18 => K4 (l0) (l1) (l2) (x18) (h))
theorem f_X2_remove_61_ok {G : Gd} {d : Nat} (K4 : Nat → Int32 → Int32 → Int32 → Hp → Option Hp) (hj : 1 ≤ d) (hK4 : ∀ (l0 : Nat) (l1 : Int32) (l2 : Int32) (l3 : Int32) (L : List (Nat × Value)) (h : Hp) (o : Hp), zlk L 0 = some (zrf (l0)) → zlk L 1 = some (.int (l1)) → zlk L 2 = some (.int (l2)) → zlk L 3 = some (.int (l3)) → K4 l0 l1 l2 l3 h = some o → Ev G M_X2_remove d 4 L [] h (Ret Y_X2_remove none o)) : ∀ (l0 : Nat) (l1 : Int32) (l2 : Int32) (l3 : Int32) (L : List (Nat × Value)) (h : Hp) (o : Hp), zlk L 0 = some (zrf (l0)) → zlk L 1 = some (.int (l1)) → zlk L 2 = some (.int (l2)) → zlk L 3 = some (.int (l3)) → f_X2_remove_61 K4 l0 l1 l2 l3 h = some o → Ev G M_X2_remove d 61 L [] h (Ret Y_X2_remove none o) := by
  intro l0 l1 l2 l3 L h o g0 g1 g2 g3 e
  unfold f_X2_remove_61 at e
  replace e := bhd e
  obtain ⟨_, rfl, e⟩ := e
  refine s_iinc d_X2_remove_61 g3 (w := (1 : Int32)) (by decide +kernel) (by decide) (fun L g3 gK => ?_)
  replace g0 := gK _ _ (by decide) (Or.inr (zrf_cat _)) g0
  replace g1 := gK _ _ (by decide) (Or.inr rfl) g1
  replace g2 := gK _ _ (by decide) (Or.inr rfl) g2
  refine r_goto d_X2_remove_64 (tgt := 4) (by decide) ?_
  exact hK4 _ _ _ _ _ _ _ g0 g1 g2 g3 e

def f_X2_remove_4 : Nat → Nat → Int32 → Int32 → Int32 → Hp → Option Hp
  | 0, _, _, _, _, _ => none
  | n + 1, l0, l1, l2, l3, h => ck (isO (h) (l0) 3) (if (zI (h) 303 (l0)) ≤ (l3) then (bh (pI (h) 303 (l0) (l2)) (fun h3 => some (h3))) else (ck (isO (h) (zR (h) 300 (l0)) 22) (ck (inR (l3) (zL (h) (zR (h) 300 (l0)))) (if (zE (h) (zR (h) 300 (l0)) (l3).toNatClampNeg) = (l1) then (f_X2_remove_61 (f_X2_remove_4 n) (l0) (l1) (l2) (l3) (h)) else (ck (inR (l2) (zL (h) (zR (h) 300 (l0)))) (bh (pE (h) (zR (h) 300 (l0)) (l2).toNatClampNeg (zE (h) (zR (h) 300 (l0)) (l3).toNatClampNeg)) (fun h8 => ck (isO (h8) (zR (h8) 301 (l0)) 22) (ck (inR (l3) (zL (h8) (zR (h8) 301 (l0)))) (ck (inR (l2) (zL (h8) (zR (h8) 301 (l0)))) (bh (pE (h8) (zR (h8) 301 (l0)) (l2).toNatClampNeg (zE (h8) (zR (h8) 301 (l0)) (l3).toNatClampNeg)) (fun h12 => ck (isO (h12) (zR (h12) 302 (l0)) 22) (ck (inR (l3) (zL (h12) (zR (h12) 302 (l0)))) (ck (inR (l2) (zL (h12) (zR (h12) 302 (l0)))) (bh (pE (h12) (zR (h12) 302 (l0)) (l2).toNatClampNeg (zE (h12) (zR (h12) 302 (l0)) (l3).toNatClampNeg)) (fun h16 => bh ((l2) + (1 : Int32)) (fun x17 => f_X2_remove_61 (f_X2_remove_4 n) (l0) (l1) (x17) (l3) (h16)))))))))))))))))
theorem f_X2_remove_4_ok {G : Gd} {d : Nat} (hj : 1 ≤ d) : ∀ (n : Nat) (l0 : Nat) (l1 : Int32) (l2 : Int32) (l3 : Int32) (L : List (Nat × Value)) (h : Hp) (o : Hp), zlk L 0 = some (zrf (l0)) → zlk L 1 = some (.int (l1)) → zlk L 2 = some (.int (l2)) → zlk L 3 = some (.int (l3)) → f_X2_remove_4 n l0 l1 l2 l3 h = some o → Ev G M_X2_remove d 4 L [] h (Ret Y_X2_remove none o) := by
  intro n
  induction n with
  | zero =>
    intro l0 l1 l2 l3 L h o g0 g1 g2 g3 e
    cases e
  | succ n ih =>
    intro l0 l1 l2 l3 L h o g0 g1 g2 g3 e
    unfold f_X2_remove_4 at e
    refine r_iload_n d_X2_remove_4 rfl g3 ?_
    refine g_ald_n d_X2_remove_5 rfl g0 ?_
    replace e := ckd e
    obtain ⟨k1, e⟩ := e
    refine g_getI d_X2_remove_6 (f := 303) k1 fk_1_21 rfl rfl ?_
    refine r_icmp_ge d_X2_remove_9 (tgt := 67) (by decide) (fun c2 => ?_) (fun c2 => ?_)
    · replace e := (if_pos c2).symm.trans e
      refine g_ald_n d_X2_remove_67 rfl g0 ?_
      refine r_iload_n d_X2_remove_68 rfl g2 ?_
      refine g_putI d_X2_remove_69 (f := 303) k1 fk_1_21 rfl (Or.inl rfl) ⟨rfl, rfl⟩ ?_
      replace e := bhd e
      obtain ⟨_, rfl, e⟩ := e
      obtain rfl := Option.some.inj e
      exact g_vret d_X2_remove_72 rfl
    · replace e := (if_neg c2).symm.trans e
      refine g_ald_n d_X2_remove_12 rfl g0 ?_
      refine g_getR d_X2_remove_13 (f := 300) k1 fk_1_9 rfl rfl ?_
      refine r_iload_n d_X2_remove_16 rfl g3 ?_
      replace e := ckd e
      obtain ⟨k4, e⟩ := e
      replace e := ckd e
      obtain ⟨k5, e⟩ := e
      refine g_iald d_X2_remove_17 k4 k5 rfl ?_
      refine r_iload_n d_X2_remove_18 rfl g1 ?_
      refine r_icmp_eq d_X2_remove_19 (tgt := 61) (by decide) (fun c6 => ?_) (fun c6 => ?_)
      · replace e := (if_pos c6).symm.trans e
        exact f_X2_remove_61_ok _ hj ih _ _ _ _ _ _ _ g0 g1 g2 g3 e
      · replace e := (if_neg c6).symm.trans e
        refine g_ald_n d_X2_remove_22 rfl g0 ?_
        refine g_getR d_X2_remove_23 (f := 300) k1 fk_1_9 rfl rfl ?_
        refine r_iload_n d_X2_remove_26 rfl g2 ?_
        refine g_ald_n d_X2_remove_27 rfl g0 ?_
        refine g_getR d_X2_remove_28 (f := 300) k1 fk_1_9 rfl rfl ?_
        refine r_iload_n d_X2_remove_31 rfl g3 ?_
        refine g_iald d_X2_remove_32 k4 k5 rfl ?_
        replace e := ckd e
        obtain ⟨k7, e⟩ := e
        refine g_iast d_X2_remove_33 k4 k7 ?_
        replace e := bhd e
        obtain ⟨_, rfl, e⟩ := e
        refine g_ald_n d_X2_remove_34 rfl g0 ?_
        refine g_getR d_X2_remove_35 (f := 301) (tO_pE k1) fk_1_15 rfl rfl ?_
        refine r_iload_n d_X2_remove_38 rfl g2 ?_
        refine g_ald_n d_X2_remove_39 rfl g0 ?_
        refine g_getR d_X2_remove_40 (f := 301) (tO_pE k1) fk_1_15 rfl rfl ?_
        refine r_iload_n d_X2_remove_43 rfl g3 ?_
        replace e := ckd e
        obtain ⟨k9, e⟩ := e
        replace e := ckd e
        obtain ⟨k10, e⟩ := e
        refine g_iald d_X2_remove_44 k9 k10 rfl ?_
        replace e := ckd e
        obtain ⟨k11, e⟩ := e
        refine g_iast d_X2_remove_45 k9 k11 ?_
        replace e := bhd e
        obtain ⟨_, rfl, e⟩ := e
        refine g_ald_n d_X2_remove_46 rfl g0 ?_
        refine g_getR d_X2_remove_47 (f := 302) (tO_pE (tO_pE k1)) fk_1_18 rfl rfl ?_
        refine r_iload_n d_X2_remove_50 rfl g2 ?_
        refine g_ald_n d_X2_remove_51 rfl g0 ?_
        refine g_getR d_X2_remove_52 (f := 302) (tO_pE (tO_pE k1)) fk_1_18 rfl rfl ?_
        refine r_iload_n d_X2_remove_55 rfl g3 ?_
        replace e := ckd e
        obtain ⟨k13, e⟩ := e
        replace e := ckd e
        obtain ⟨k14, e⟩ := e
        refine g_iald d_X2_remove_56 k13 k14 rfl ?_
        replace e := ckd e
        obtain ⟨k15, e⟩ := e
        refine g_iast d_X2_remove_57 k13 k15 ?_
        replace e := bhd e
        obtain ⟨_, rfl, e⟩ := e
        replace e := bhd e
        obtain ⟨_, rfl, e⟩ := e
        refine s_iinc d_X2_remove_58 g2 (w := (1 : Int32)) (by decide +kernel) (by decide) (fun L g2 gK => ?_)
        replace g0 := gK _ _ (by decide) (Or.inr (zrf_cat _)) g0
        replace g1 := gK _ _ (by decide) (Or.inr rfl) g1
        replace g3 := gK _ _ (by decide) (Or.inr rfl) g3
        exact f_X2_remove_61_ok _ hj ih _ _ _ _ _ _ _ g0 g1 g2 g3 e

def f_X2_remove (l0 : Nat) (l1 : Int32) (h : Hp) : Option Hp := f_X2_remove_4 fz (l0) (l1) ((0 : Int32)) ((0 : Int32)) (h)
theorem f_X2_remove_ok {G : Gd} {d : Nat} (hj : 1 ≤ d) : ∀ (l0 : Nat) (l1 : Int32) (L : List (Nat × Value)) (h : Hp) (o : Hp), zlk L 0 = some (zrf (l0)) → zlk L 1 = some (.int (l1)) → f_X2_remove l0 l1 h = some o → Ev G M_X2_remove d 0 L [] h (Ret Y_X2_remove none o) := by
  intro l0 l1 L h o g0 g1 e
  unfold f_X2_remove at e
  refine r_iconst d_X2_remove_0 (v := (0 : Int32)) (by decide +kernel) ?_
  refine s_istore_n d_X2_remove_1 rfl (by decide) (fun L g2 gK => ?_)
  replace g0 := gK _ _ (by decide) (Or.inr (zrf_cat _)) g0
  replace g1 := gK _ _ (by decide) (Or.inr rfl) g1
  refine r_iconst d_X2_remove_2 (v := (0 : Int32)) (by decide +kernel) ?_
  refine s_istore_n d_X2_remove_3 rfl (by decide) (fun L g3 gK => ?_)
  replace g0 := gK _ _ (by decide) (Or.inr (zrf_cat _)) g0
  replace g1 := gK _ _ (by decide) (Or.inr rfl) g1
  replace g2 := gK _ _ (by decide) (Or.inr rfl) g2
  exact f_X2_remove_4_ok hj _ _ _ _ _ _ _ _ g0 g1 g2 g3 e

theorem c_X2_remove {G : Gd} {j : Nat} (hj : 1 ≤ j) {l0 : Nat} {l1 : Int32} {h : Hp} {o : Hp} (e : f_X2_remove l0 l1 h = some o) : Cal G j Y_X2_remove [zrf (l0), .int (l1)] h none o := Cal.of (n := 0) (I := false) (by first | exact Or.inl (by decide +kernel) | exact Or.inr (by decide +kernel)) (by decide) (by simp [lg_sl, zrf_cat, cat_int, cat_long]) (f_X2_remove_ok hj _ _ _ h o (by simp [lv_args, zlk, zrf_cat, cat_int, cat_long]) (by simp [lv_args, zlk, zrf_cat, cat_int, cat_long]) e)
theorem fk_2_9 : Fk "TaskWeave$Parser" 9 400 := ⟨by decide, by decide, by decide +kernel⟩
theorem fk_2_15 : Fk "TaskWeave$Parser" 15 401 := ⟨by decide, by decide, by decide +kernel⟩
theorem fk_2_19 : Fk "TaskWeave$Parser" 19 402 := ⟨by decide, by decide, by decide +kernel⟩
theorem fk_2_22 : Fk "TaskWeave$Parser" 22 405 := ⟨by decide, by decide, by decide +kernel⟩
def f_X3_init (l0 : Nat) (h : Hp) : Option Hp := ck (isO (h) (l0) 4) (ck (8 ≤ zn (h)) (bh (pN (h) 21 ((300 : Int32)).toNatClampNeg) (fun h3 => bh (pR (h3) 400 (l0) (zn (h))) (fun h4 => ck (8 ≤ zn (h4)) (bh (pN (h4) 22 ((480 : Int32)).toNatClampNeg) (fun h6 => bh (pR (h6) 401 (l0) (zn (h4))) (fun h7 => ck (8 ≤ zn (h7)) (bh (pN (h7) 22 ((10 : Int32)).toNatClampNeg) (fun h9 => bh (pR (h9) 402 (l0) (zn (h7))) (fun h10 => bh (pI (h10) 405 (l0) ((-1 : Int32))) (fun h11 => some (h11))))))))))))
theorem f_X3_init_ok {G : Gd} {d : Nat} (hj : 1 ≤ d) : ∀ (l0 : Nat) (L : List (Nat × Value)) (h : Hp) (o : Hp), zlk L 0 = some (zrf (l0)) → f_X3_init l0 h = some o → Ev G M_X3_init d 0 L [] h (Ret Y_X3_init none o) := by
  intro l0 L h o g0 e
  unfold f_X3_init at e
  refine g_ald_n d_X3_init_0 rfl g0 ?_
  replace e := ckd e
  obtain ⟨k1, e⟩ := e
  refine g_objInit k1 d_X3_init_1 (by decide +kernel) (by omega) (by simp [zrf_cat, cat_int, cat_long]) ?_
  refine g_ald_n d_X3_init_4 rfl g0 ?_
  refine r_sipush d_X3_init_5 (v := (300 : Int32)) (by decide +kernel) ?_
  replace e := ckd e
  obtain ⟨k2, e⟩ := e
  refine g_newa (t := 21) k2 d_X3_init_8 (by decide) (by decide) rfl (by decide +kernel) (by decide) (by decide +kernel) ?_
  replace e := bhd e
  obtain ⟨_, rfl, e⟩ := e
  refine g_putR d_X3_init_10 (f := 400) (tO_pN k1) fk_2_9 rfl (Or.inr ⟨rfl, rfl⟩) (Or.inr ⟨_, rfl⟩) ?_
  replace e := bhd e
  obtain ⟨_, rfl, e⟩ := e
  refine g_ald_n d_X3_init_13 rfl g0 ?_
  refine r_sipush d_X3_init_14 (v := (480 : Int32)) (by decide +kernel) ?_
  replace e := ckd e
  obtain ⟨k5, e⟩ := e
  refine g_newa (t := 22) k5 d_X3_init_17 (by decide) (by decide) rfl (by decide +kernel) (by decide) (by decide +kernel) ?_
  replace e := bhd e
  obtain ⟨_, rfl, e⟩ := e
  refine g_putR d_X3_init_19 (f := 401) (tO_pN (tO_pR (tO_pN k1))) fk_2_15 rfl (Or.inr ⟨rfl, rfl⟩) (Or.inr ⟨_, rfl⟩) ?_
  replace e := bhd e
  obtain ⟨_, rfl, e⟩ := e
  refine g_ald_n d_X3_init_22 rfl g0 ?_
  refine r_bipush d_X3_init_23 (v := (10 : Int32)) (by decide +kernel) ?_
  replace e := ckd e
  obtain ⟨k8, e⟩ := e
  refine g_newa (t := 22) k8 d_X3_init_25 (by decide) (by decide) rfl (by decide +kernel) (by decide) (by decide +kernel) ?_
  replace e := bhd e
  obtain ⟨_, rfl, e⟩ := e
  refine g_putR d_X3_init_27 (f := 402) (tO_pN (tO_pR (tO_pN (tO_pR (tO_pN k1))))) fk_2_19 rfl (Or.inr ⟨rfl, rfl⟩) (Or.inr ⟨_, rfl⟩) ?_
  replace e := bhd e
  obtain ⟨_, rfl, e⟩ := e
  refine g_ald_n d_X3_init_30 rfl g0 ?_
  refine r_iconst d_X3_init_31 (v := (-1 : Int32)) (by decide +kernel) ?_
  refine g_putI d_X3_init_32 (f := 405) (tO_pR (tO_pN (tO_pR (tO_pN (tO_pR (tO_pN k1)))))) fk_2_22 rfl (Or.inl rfl) ⟨rfl, rfl⟩ ?_
  replace e := bhd e
  obtain ⟨_, rfl, e⟩ := e
  obtain rfl := Option.some.inj e
  exact g_vret d_X3_init_35 rfl

theorem c_X3_init {G : Gd} {j : Nat} (hj : 1 ≤ j) {l0 : Nat} {h : Hp} {o : Hp} (e : f_X3_init l0 h = some o) : Cal G j Y_X3_init [zrf (l0)] h none o := Cal.of (n := 0) (I := true) (by first | exact Or.inl (by decide +kernel) | exact Or.inr (by decide +kernel)) (by decide) (by simp [lg_sl, zrf_cat, cat_int, cat_long]) (f_X3_init_ok hj _ _ h o (by simp [lv_args, zlk, zrf_cat, cat_int, cat_long]) e)
theorem fk_2_26 : Fk "TaskWeave$Parser" 26 403 := ⟨by decide, by decide, by decide +kernel⟩
def f_X3_append_78 : Nat → Nat → Int64 → Int32 → Hp → Option (Int32 × Hp)
  | 0, _, _, _, _ => none
  | n + 1, l0, l1, l4, h => if (l4) < (0) then (some ((1 : Int32), h)) else (ck (isO (h) (l0) 4) (ck (isO (h) (zR (h) 400 (l0)) 21) (ck (inR (zI (h) 403 (l0)) (zL (h) (zR (h) 400 (l0)))) (bh (pE (h) (zR (h) 400 (l0)) (zI (h) 403 (l0)).toNatClampNeg (((((((((l1).toUInt64 >>> ((((8 : Int32)) * (l4)).toInt64.toUInt64 &&& Int64.toUInt64 63)).toInt64) &&& ((255 : Int64))).toInt32).toUInt32 % 65536).toInt32).toUInt32 % 65536).toInt32)) (fun h15 => bh (pI (h15) 403 (l0) ((zI (h15) 403 (l0)) + ((1 : Int32)))) (fun h16 => bh ((l4) + (-1 : Int32)) (fun x17 => f_X3_append_78 n (l0) (l1) (x17) (h16))))))))
theorem f_X3_append_78_ok {G : Gd} {d : Nat} (hj : 1 ≤ d) : ∀ (n : Nat) (l0 : Nat) (l1 : Int64) (l4 : Int32) (L : List (Nat × Value)) (h : Hp) (o : (Int32 × Hp)), zlk L 0 = some (zrf (l0)) → zlk L 1 = some (.long (l1)) → zlk L 4 = some (.int (l4)) → f_X3_append_78 n l0 l1 l4 h = some o → Ev G M_X3_append d 78 L [] h (Ret Y_X3_append (some (.int o.1)) o.2) := by
  intro n
  induction n with
  | zero =>
    intro l0 l1 l4 L h o g0 g1 g4 e
    cases e
  | succ n ih =>
    intro l0 l1 l4 L h o g0 g1 g4 e
    unfold f_X3_append_78 at e
    refine r_iload d_X3_append_78 g4 ?_
    refine r_if_lt d_X3_append_80 (tgt := 121) (by decide) (fun c11 => ?_) (fun c11 => ?_)
    · replace e := (if_pos c11).symm.trans e
      refine r_iconst d_X3_append_121 (v := (1 : Int32)) (by decide +kernel) ?_
      obtain rfl := Option.some.inj e
      exact g_iret d_X3_append_122 rfl rfl
    · replace e := (if_neg c11).symm.trans e
      refine g_ald_n d_X3_append_83 rfl g0 ?_
      replace e := ckd e
      obtain ⟨k12, e⟩ := e
      refine g_getR d_X3_append_84 (f := 400) k12 fk_2_9 rfl rfl ?_
      refine g_ald_n d_X3_append_87 rfl g0 ?_
      refine g_getI d_X3_append_88 (f := 403) k12 fk_2_26 rfl rfl ?_
      refine r_lload_n d_X3_append_91 rfl g1 ?_
      refine r_bipush d_X3_append_92 (v := (8 : Int32)) (by decide +kernel) ?_
      refine r_iload d_X3_append_94 g4 ?_
      refine r_imul d_X3_append_96 ?_
      refine r_lushr d_X3_append_97 ?_
      refine r_ldc2 d_X3_append_98 (v := (255 : Int64)) (by decide +kernel) ?_
      refine r_land d_X3_append_101 ?_
      refine r_l2i d_X3_append_102 ?_
      refine r_i2c d_X3_append_103 ?_
      replace e := ckd e
      obtain ⟨k13, e⟩ := e
      replace e := ckd e
      obtain ⟨k14, e⟩ := e
      refine g_cast d_X3_append_104 k13 k14 ?_
      replace e := bhd e
      obtain ⟨_, rfl, e⟩ := e
      refine g_ald_n d_X3_append_105 rfl g0 ?_
      refine r_dup d_X3_append_106 (zrf_cat _) ?_
      refine g_getI d_X3_append_107 (f := 403) (tO_pE k12) fk_2_26 rfl rfl ?_
      refine r_iconst d_X3_append_110 (v := (1 : Int32)) (by decide +kernel) ?_
      refine r_iadd d_X3_append_111 ?_
      refine g_putI d_X3_append_112 (f := 403) (tO_pE k12) fk_2_26 rfl (Or.inl rfl) ⟨rfl, rfl⟩ ?_
      replace e := bhd e
      obtain ⟨_, rfl, e⟩ := e
      replace e := bhd e
      obtain ⟨_, rfl, e⟩ := e
      refine s_iinc d_X3_append_115 g4 (w := (-1 : Int32)) (by decide +kernel) (by decide) (fun L g4 gK => ?_)
      replace g0 := gK _ _ (by decide) (Or.inr (zrf_cat _)) g0
      replace g1 := gK _ _ (by decide) (Or.inl (by decide)) g1
      refine r_goto d_X3_append_118 (tgt := 78) (by decide) ?_
      exact ih _ _ _ _ _ _ g0 g1 g4 e

def f_X3_append_28 : Nat → Nat → Int64 → Int32 → Int32 → Hp → Option (Int32 × Hp)
  | 0, _, _, _, _, _ => none
  | n + 1, l0, l1, l3, l4, h => if (l3) ≤ (l4) then (bh ((l3) - ((1 : Int32))) (fun x6 => f_X3_append_78 fz (l0) (l1) (x6) (h))) else (bh ((((l1).toUInt64 >>> ((((8 : Int32)) * (l4)).toInt64.toUInt64 &&& Int64.toUInt64 63)).toInt64) &&& ((255 : Int64))) (fun x7 => if (lg_cmp (x7) ((33 : Int64))) < (0) then (some ((0 : Int32), h)) else (if (lg_cmp (x7) ((126 : Int64))) ≤ (0) then (bh ((l4) + (1 : Int32)) (fun x10 => f_X3_append_28 n (l0) (l1) (l3) (x10) (h))) else (some ((0 : Int32), h)))))
theorem f_X3_append_28_ok {G : Gd} {d : Nat} (hj : 1 ≤ d) : ∀ (n : Nat) (l0 : Nat) (l1 : Int64) (l3 : Int32) (l4 : Int32) (L : List (Nat × Value)) (h : Hp) (o : (Int32 × Hp)), zlk L 0 = some (zrf (l0)) → zlk L 1 = some (.long (l1)) → zlk L 3 = some (.int (l3)) → zlk L 4 = some (.int (l4)) → f_X3_append_28 n l0 l1 l3 l4 h = some o → Ev G M_X3_append d 28 L [] h (Ret Y_X3_append (some (.int o.1)) o.2) := by
  intro n
  induction n with
  | zero =>
    intro l0 l1 l3 l4 L h o g0 g1 g3 g4 e
    cases e
  | succ n ih =>
    intro l0 l1 l3 l4 L h o g0 g1 g3 g4 e
    unfold f_X3_append_28 at e
    refine r_iload d_X3_append_28 g4 ?_
    refine r_iload_n d_X3_append_30 rfl g3 ?_
    refine r_icmp_ge d_X3_append_31 (tgt := 73) (by decide) (fun c5 => ?_) (fun c5 => ?_)
    · replace e := (if_pos c5).symm.trans e
      refine r_iload_n d_X3_append_73 rfl g3 ?_
      refine r_iconst d_X3_append_74 (v := (1 : Int32)) (by decide +kernel) ?_
      refine r_isub d_X3_append_75 ?_
      replace e := bhd e
      obtain ⟨_, rfl, e⟩ := e
      refine s_istore d_X3_append_76 (by decide) (fun L g4 gK => ?_)
      replace g0 := gK _ _ (by decide) (Or.inr (zrf_cat _)) g0
      replace g1 := gK _ _ (by decide) (Or.inl (by decide)) g1
      exact f_X3_append_78_ok hj _ _ _ _ _ _ _ g0 g1 g4 e
    · replace e := (if_neg c5).symm.trans e
      refine r_lload_n d_X3_append_34 rfl g1 ?_
      refine r_bipush d_X3_append_35 (v := (8 : Int32)) (by decide +kernel) ?_
      refine r_iload d_X3_append_37 g4 ?_
      refine r_imul d_X3_append_39 ?_
      refine r_lushr d_X3_append_40 ?_
      refine r_ldc2 d_X3_append_41 (v := (255 : Int64)) (by decide +kernel) ?_
      refine r_land d_X3_append_44 ?_
      replace e := bhd e
      obtain ⟨_, rfl, e⟩ := e
      refine s_lstore d_X3_append_45 (by decide) (fun L g5 gK => ?_)
      replace g0 := gK _ _ (by decide) (by decide) (Or.inr (zrf_cat _)) g0
      replace g1 := gK _ _ (by decide) (by decide) (Or.inl (by decide)) g1
      replace g3 := gK _ _ (by decide) (by decide) (Or.inr rfl) g3
      replace g4 := gK _ _ (by decide) (by decide) (Or.inr rfl) g4
      refine r_lload d_X3_append_47 g5 ?_
      refine r_ldc2 d_X3_append_49 (v := (33 : Int64)) (by decide +kernel) ?_
      refine r_lcmp d_X3_append_52 ?_
      refine r_if_lt d_X3_append_53 (tgt := 65) (by decide) (fun c8 => ?_) (fun c8 => ?_)
      · replace e := (if_pos c8).symm.trans e
        refine r_iconst d_X3_append_65 (v := (0 : Int32)) (by decide +kernel) ?_
        obtain rfl := Option.some.inj e
        exact g_iret d_X3_append_66 rfl rfl
      · replace e := (if_neg c8).symm.trans e
        refine r_lload d_X3_append_56 g5 ?_
        refine r_ldc2 d_X3_append_58 (v := (126 : Int64)) (by decide +kernel) ?_
        refine r_lcmp d_X3_append_61 ?_
        refine r_if_le d_X3_append_62 (tgt := 67) (by decide) (fun c9 => ?_) (fun c9 => ?_)
        · replace e := (if_pos c9).symm.trans e
          replace e := bhd e
          obtain ⟨_, rfl, e⟩ := e
          refine s_iinc d_X3_append_67 g4 (w := (1 : Int32)) (by decide +kernel) (by decide) (fun L g4 gK => ?_)
          replace g0 := gK _ _ (by decide) (Or.inr (zrf_cat _)) g0
          replace g1 := gK _ _ (by decide) (Or.inl (by decide)) g1
          replace g3 := gK _ _ (by decide) (Or.inr rfl) g3
          refine r_goto d_X3_append_70 (tgt := 28) (by decide) ?_
          exact ih _ _ _ _ _ _ _ g0 g1 g3 g4 e
        · replace e := (if_neg c9).symm.trans e
          refine r_iconst d_X3_append_65 (v := (0 : Int32)) (by decide +kernel) ?_
          obtain rfl := Option.some.inj e
          exact g_iret d_X3_append_66 rfl rfl

def f_X3_append (l0 : Nat) (l1 : Int64) (l3 : Int32) (h : Hp) : Option (Int32 × Hp) := if (l3) < ((1 : Int32)) then (some ((0 : Int32), h)) else (if ((8 : Int32)) < (l3) then (some ((0 : Int32), h)) else (ck (isO (h) (l0) 4) (if ((zI (h) 403 (l0)) + (l3)) ≤ ((300 : Int32)) then (f_X3_append_28 fz (l0) (l1) (l3) ((0 : Int32)) (h)) else (some ((0 : Int32), h)))))
theorem f_X3_append_ok {G : Gd} {d : Nat} (hj : 1 ≤ d) : ∀ (l0 : Nat) (l1 : Int64) (l3 : Int32) (L : List (Nat × Value)) (h : Hp) (o : (Int32 × Hp)), zlk L 0 = some (zrf (l0)) → zlk L 1 = some (.long (l1)) → zlk L 3 = some (.int (l3)) → f_X3_append l0 l1 l3 h = some o → Ev G M_X3_append d 0 L [] h (Ret Y_X3_append (some (.int o.1)) o.2) := by
  intro l0 l1 l3 L h o g0 g1 g3 e
  unfold f_X3_append at e
  refine r_iload_n d_X3_append_0 rfl g3 ?_
  refine r_iconst d_X3_append_1 (v := (1 : Int32)) (by decide +kernel) ?_
  refine r_icmp_lt d_X3_append_2 (tgt := 23) (by decide) (fun c1 => ?_) (fun c1 => ?_)
  · replace e := (if_pos c1).symm.trans e
    refine r_iconst d_X3_append_23 (v := (0 : Int32)) (by decide +kernel) ?_
    obtain rfl := Option.some.inj e
    exact g_iret d_X3_append_24 rfl rfl
  · replace e := (if_neg c1).symm.trans e
    refine r_iload_n d_X3_append_5 rfl g3 ?_
    refine r_bipush d_X3_append_6 (v := (8 : Int32)) (by decide +kernel) ?_
    refine r_icmp_gt d_X3_append_8 (tgt := 23) (by decide) (fun c2 => ?_) (fun c2 => ?_)
    · replace e := (if_pos c2).symm.trans e
      refine r_iconst d_X3_append_23 (v := (0 : Int32)) (by decide +kernel) ?_
      obtain rfl := Option.some.inj e
      exact g_iret d_X3_append_24 rfl rfl
    · replace e := (if_neg c2).symm.trans e
      refine g_ald_n d_X3_append_11 rfl g0 ?_
      replace e := ckd e
      obtain ⟨k3, e⟩ := e
      refine g_getI d_X3_append_12 (f := 403) k3 fk_2_26 rfl rfl ?_
      refine r_iload_n d_X3_append_15 rfl g3 ?_
      refine r_iadd d_X3_append_16 ?_
      refine r_sipush d_X3_append_17 (v := (300 : Int32)) (by decide +kernel) ?_
      refine r_icmp_le d_X3_append_20 (tgt := 25) (by decide) (fun c4 => ?_) (fun c4 => ?_)
      · replace e := (if_pos c4).symm.trans e
        refine r_iconst d_X3_append_25 (v := (0 : Int32)) (by decide +kernel) ?_
        refine s_istore d_X3_append_26 (by decide) (fun L g4 gK => ?_)
        replace g0 := gK _ _ (by decide) (Or.inr (zrf_cat _)) g0
        replace g1 := gK _ _ (by decide) (Or.inl (by decide)) g1
        replace g3 := gK _ _ (by decide) (Or.inr rfl) g3
        exact f_X3_append_28_ok hj _ _ _ _ _ _ _ _ g0 g1 g3 g4 e
      · replace e := (if_neg c4).symm.trans e
        refine r_iconst d_X3_append_23 (v := (0 : Int32)) (by decide +kernel) ?_
        obtain rfl := Option.some.inj e
        exact g_iret d_X3_append_24 rfl rfl

theorem c_X3_append {G : Gd} {j : Nat} (hj : 1 ≤ j) {l0 : Nat} {l1 : Int64} {l3 : Int32} {h : Hp} {o : (Int32 × Hp)} (e : f_X3_append l0 l1 l3 h = some o) : Cal G j Y_X3_append [zrf (l0), .long (l1), .int (l3)] h (some (.int o.1)) o.2 := Cal.of (n := 0) (I := false) (by first | exact Or.inl (by decide +kernel) | exact Or.inr (by decide +kernel)) (by decide) (by simp [lg_sl, zrf_cat, cat_int, cat_long]) (f_X3_append_ok hj _ _ _ _ h o (by simp [lv_args, zlk, zrf_cat, cat_int, cat_long]) (by simp [lv_args, zlk, zrf_cat, cat_int, cat_long]) (by simp [lv_args, zlk, zrf_cat, cat_int, cat_long]) e)
def f_X3_clear (l0 : Nat) (h : Hp) : Option Hp := ck (isO (h) (l0) 4) (bh (pI (h) 403 (l0) ((0 : Int32))) (fun h2 => bh (pI (h2) 405 (l0) ((-1 : Int32))) (fun h3 => some (h3))))
theorem f_X3_clear_ok {G : Gd} {d : Nat} (hj : 1 ≤ d) : ∀ (l0 : Nat) (L : List (Nat × Value)) (h : Hp) (o : Hp), zlk L 0 = some (zrf (l0)) → f_X3_clear l0 h = some o → Ev G M_X3_clear d 0 L [] h (Ret Y_X3_clear none o) := by
  intro l0 L h o g0 e
  unfold f_X3_clear at e
  refine g_ald_n d_X3_clear_0 rfl g0 ?_
  refine r_iconst d_X3_clear_1 (v := (0 : Int32)) (by decide +kernel) ?_
  replace e := ckd e
  obtain ⟨k1, e⟩ := e
  refine g_putI d_X3_clear_2 (f := 403) k1 fk_2_26 rfl (Or.inl rfl) ⟨rfl, rfl⟩ ?_
  replace e := bhd e
  obtain ⟨_, rfl, e⟩ := e
  refine g_ald_n d_X3_clear_5 rfl g0 ?_
  refine r_iconst d_X3_clear_6 (v := (-1 : Int32)) (by decide +kernel) ?_
  refine g_putI d_X3_clear_7 (f := 405) (tO_pI k1) fk_2_22 rfl (Or.inl rfl) ⟨rfl, rfl⟩ ?_
  replace e := bhd e
  obtain ⟨_, rfl, e⟩ := e
  obtain rfl := Option.some.inj e
  exact g_vret d_X3_clear_10 rfl

theorem c_X3_clear {G : Gd} {j : Nat} (hj : 1 ≤ j) {l0 : Nat} {h : Hp} {o : Hp} (e : f_X3_clear l0 h = some o) : Cal G j Y_X3_clear [zrf (l0)] h none o := Cal.of (n := 0) (I := false) (by first | exact Or.inl (by decide +kernel) | exact Or.inr (by decide +kernel)) (by decide) (by simp [lg_sl, zrf_cat, cat_int, cat_long]) (f_X3_clear_ok hj _ _ h o (by simp [lv_args, zlk, zrf_cat, cat_int, cat_long]) e)
def f_X3_linkLabels_73 (K2 : Nat → Int32 → Int32 → Hp → Option (Int32 × Hp)) (l0 : Nat) (l1 : Int32) (l2 : Int32) (h : Hp) : Option (Int32 × Hp) := bh ((l2) + (8 : Int32)) (fun x17 => K2 (l0) (l1) (x17) (h))
theorem f_X3_linkLabels_73_ok {G : Gd} {d : Nat} (K2 : Nat → Int32 → Int32 → Hp → Option (Int32 × Hp)) (hj : 1 ≤ d) (hK2 : ∀ (l0 : Nat) (l1 : Int32) (l2 : Int32) (L : List (Nat × Value)) (h : Hp) (o : (Int32 × Hp)), zlk L 0 = some (zrf (l0)) → zlk L 1 = some (.int (l1)) → zlk L 2 = some (.int (l2)) → K2 l0 l1 l2 h = some o → Ev G M_X3_linkLabels d 2 L [] h (Ret Y_X3_linkLabels (some (.int o.1)) o.2)) : ∀ (l0 : Nat) (l1 : Int32) (l2 : Int32) (L : List (Nat × Value)) (h : Hp) (o : (Int32 × Hp)), zlk L 0 = some (zrf (l0)) → zlk L 1 = some (.int (l1)) → zlk L 2 = some (.int (l2)) → f_X3_linkLabels_73 K2 l0 l1 l2 h = some o → Ev G M_X3_linkLabels d 73 L [] h (Ret Y_X3_linkLabels (some (.int o.1)) o.2) := by
  intro l0 l1 l2 L h o g0 g1 g2 e
  unfold f_X3_linkLabels_73 at e
  replace e := bhd e
  obtain ⟨_, rfl, e⟩ := e
  refine s_iinc d_X3_linkLabels_73 g2 (w := (8 : Int32)) (by decide +kernel) (by decide) (fun L g2 gK => ?_)
  replace g0 := gK _ _ (by decide) (Or.inr (zrf_cat _)) g0
  replace g1 := gK _ _ (by decide) (Or.inr rfl) g1
  refine r_goto d_X3_linkLabels_76 (tgt := 2) (by decide) ?_
  exact hK2 _ _ _ _ _ _ g0 g1 g2 e

def f_X3_linkLabels_36 (K2 : Nat → Int32 → Int32 → Hp → Option (Int32 × Hp)) (l0 : Nat) (l1 : Int32) (l2 : Int32) (h : Hp) : Option (Int32 × Hp) := ck (isO (h) (l0) 4) (ck (isO (h) (zR (h) 401 (l0)) 22) (ck (inR ((l2) + ((2 : Int32))) (zL (h) (zR (h) 401 (l0)))) (ck (isO (h) (zR (h) 402 (l0)) 22) (ck (inR (zE (h) (zR (h) 401 (l0)) ((l2) + ((2 : Int32))).toNatClampNeg) (zL (h) (zR (h) 402 (l0)))) (bh (zE (h) (zR (h) 402 (l0)) (zE (h) (zR (h) 401 (l0)) ((l2) + ((2 : Int32))).toNatClampNeg).toNatClampNeg) (fun x12 => if (x12) = ((-1 : Int32)) then (ck (inR ((l2) + ((3 : Int32))) (zL (h) (zR (h) 401 (l0)))) (some (zE (h) (zR (h) 401 (l0)) ((l2) + ((3 : Int32))).toNatClampNeg, h))) else (ck (inR ((l2) + ((1 : Int32))) (zL (h) (zR (h) 401 (l0)))) (bh (pE (h) (zR (h) 401 (l0)) ((l2) + ((1 : Int32))).toNatClampNeg (x12)) (fun h15 => f_X3_linkLabels_73 K2 (l0) (l1) (l2) (h15))))))))))
theorem f_X3_linkLabels_36_ok {G : Gd} {d : Nat} (K2 : Nat → Int32 → Int32 → Hp → Option (Int32 × Hp)) (hj : 1 ≤ d) (hK2 : ∀ (l0 : Nat) (l1 : Int32) (l2 : Int32) (L : List (Nat × Value)) (h : Hp) (o : (Int32 × Hp)), zlk L 0 = some (zrf (l0)) → zlk L 1 = some (.int (l1)) → zlk L 2 = some (.int (l2)) → K2 l0 l1 l2 h = some o → Ev G M_X3_linkLabels d 2 L [] h (Ret Y_X3_linkLabels (some (.int o.1)) o.2)) : ∀ (l0 : Nat) (l1 : Int32) (l2 : Int32) (L : List (Nat × Value)) (h : Hp) (o : (Int32 × Hp)), zlk L 0 = some (zrf (l0)) → zlk L 1 = some (.int (l1)) → zlk L 2 = some (.int (l2)) → f_X3_linkLabels_36 K2 l0 l1 l2 h = some o → Ev G M_X3_linkLabels d 36 L [] h (Ret Y_X3_linkLabels (some (.int o.1)) o.2) := by
  intro l0 l1 l2 L h o g0 g1 g2 e
  unfold f_X3_linkLabels_36 at e
  refine g_ald_n d_X3_linkLabels_36 rfl g0 ?_
  replace e := ckd e
  obtain ⟨k7, e⟩ := e
  refine g_getR d_X3_linkLabels_37 (f := 402) k7 fk_2_19 rfl rfl ?_
  refine g_ald_n d_X3_linkLabels_40 rfl g0 ?_
  refine g_getR d_X3_linkLabels_41 (f := 401) k7 fk_2_15 rfl rfl ?_
  refine r_iload_n d_X3_linkLabels_44 rfl g2 ?_
  refine r_iconst d_X3_linkLabels_45 (v := (2 : Int32)) (by decide +kernel) ?_
  refine r_iadd d_X3_linkLabels_46 ?_
  replace e := ckd e
  obtain ⟨k8, e⟩ := e
  replace e := ckd e
  obtain ⟨k9, e⟩ := e
  refine g_iald d_X3_linkLabels_47 k8 k9 rfl ?_
  replace e := ckd e
  obtain ⟨k10, e⟩ := e
  replace e := ckd e
  obtain ⟨k11, e⟩ := e
  refine g_iald d_X3_linkLabels_48 k10 k11 rfl ?_
  replace e := bhd e
  obtain ⟨_, rfl, e⟩ := e
  refine s_istore_n d_X3_linkLabels_49 rfl (by decide) (fun L g3 gK => ?_)
  replace g0 := gK _ _ (by decide) (Or.inr (zrf_cat _)) g0
  replace g1 := gK _ _ (by decide) (Or.inr rfl) g1
  replace g2 := gK _ _ (by decide) (Or.inr rfl) g2
  refine r_iload_n d_X3_linkLabels_50 rfl g3 ?_
  refine r_iconst d_X3_linkLabels_51 (v := (-1 : Int32)) (by decide +kernel) ?_
  refine r_icmp_ne d_X3_linkLabels_52 (tgt := 64) (by decide) (fun c13 => ?_) (fun c13 => ?_)
  · replace e := (if_neg c13).symm.trans e
    refine g_ald_n d_X3_linkLabels_64 rfl g0 ?_
    refine g_getR d_X3_linkLabels_65 (f := 401) k7 fk_2_15 rfl rfl ?_
    refine r_iload_n d_X3_linkLabels_68 rfl g2 ?_
    refine r_iconst d_X3_linkLabels_69 (v := (1 : Int32)) (by decide +kernel) ?_
    refine r_iadd d_X3_linkLabels_70 ?_
    refine r_iload_n d_X3_linkLabels_71 rfl g3 ?_
    replace e := ckd e
    obtain ⟨k14, e⟩ := e
    refine g_iast d_X3_linkLabels_72 k8 k14 ?_
    replace e := bhd e
    obtain ⟨_, rfl, e⟩ := e
    exact f_X3_linkLabels_73_ok _ hj hK2 _ _ _ _ _ _ g0 g1 g2 e
  · replace e := (if_pos c13).symm.trans e
    refine g_ald_n d_X3_linkLabels_55 rfl g0 ?_
    refine g_getR d_X3_linkLabels_56 (f := 401) k7 fk_2_15 rfl rfl ?_
    refine r_iload_n d_X3_linkLabels_59 rfl g2 ?_
    refine r_iconst d_X3_linkLabels_60 (v := (3 : Int32)) (by decide +kernel) ?_
    refine r_iadd d_X3_linkLabels_61 ?_
    replace e := ckd e
    obtain ⟨k16, e⟩ := e
    refine g_iald d_X3_linkLabels_62 k8 k16 rfl ?_
    obtain rfl := Option.some.inj e
    exact g_iret d_X3_linkLabels_63 rfl rfl

def f_X3_linkLabels_2 : Nat → Nat → Int32 → Int32 → Hp → Option (Int32 × Hp)
  | 0, _, _, _, _ => none
  | n + 1, l0, l1, l2, h => if ((l1) * ((8 : Int32))) ≤ (l2) then (some ((-1 : Int32), h)) else (ck (isO (h) (l0) 4) (ck (isO (h) (zR (h) 401 (l0)) 22) (ck (inR ((l2) + ((0 : Int32))) (zL (h) (zR (h) 401 (l0)))) (if (zE (h) (zR (h) 401 (l0)) ((l2) + ((0 : Int32))).toNatClampNeg) = ((73 : Int32)) then (f_X3_linkLabels_36 (f_X3_linkLabels_2 n) (l0) (l1) (l2) (h)) else (if (zE (h) (zR (h) 401 (l0)) ((l2) + ((0 : Int32))).toNatClampNeg) = ((71 : Int32)) then (f_X3_linkLabels_36 (f_X3_linkLabels_2 n) (l0) (l1) (l2) (h)) else (f_X3_linkLabels_73 (f_X3_linkLabels_2 n) (l0) (l1) (l2) (h)))))))
theorem f_X3_linkLabels_2_ok {G : Gd} {d : Nat} (hj : 1 ≤ d) : ∀ (n : Nat) (l0 : Nat) (l1 : Int32) (l2 : Int32) (L : List (Nat × Value)) (h : Hp) (o : (Int32 × Hp)), zlk L 0 = some (zrf (l0)) → zlk L 1 = some (.int (l1)) → zlk L 2 = some (.int (l2)) → f_X3_linkLabels_2 n l0 l1 l2 h = some o → Ev G M_X3_linkLabels d 2 L [] h (Ret Y_X3_linkLabels (some (.int o.1)) o.2) := by
  intro n
  induction n with
  | zero =>
    intro l0 l1 l2 L h o g0 g1 g2 e
    cases e
  | succ n ih =>
    intro l0 l1 l2 L h o g0 g1 g2 e
    unfold f_X3_linkLabels_2 at e
    refine r_iload_n d_X3_linkLabels_2 rfl g2 ?_
    refine r_iload_n d_X3_linkLabels_3 rfl g1 ?_
    refine r_bipush d_X3_linkLabels_4 (v := (8 : Int32)) (by decide +kernel) ?_
    refine r_imul d_X3_linkLabels_6 ?_
    refine r_icmp_ge d_X3_linkLabels_7 (tgt := 79) (by decide) (fun c1 => ?_) (fun c1 => ?_)
    · replace e := (if_pos c1).symm.trans e
      refine r_iconst d_X3_linkLabels_79 (v := (-1 : Int32)) (by decide +kernel) ?_
      obtain rfl := Option.some.inj e
      exact g_iret d_X3_linkLabels_80 rfl rfl
    · replace e := (if_neg c1).symm.trans e
      refine g_ald_n d_X3_linkLabels_10 rfl g0 ?_
      replace e := ckd e
      obtain ⟨k2, e⟩ := e
      refine g_getR d_X3_linkLabels_11 (f := 401) k2 fk_2_15 rfl rfl ?_
      refine r_iload_n d_X3_linkLabels_14 rfl g2 ?_
      refine r_iconst d_X3_linkLabels_15 (v := (0 : Int32)) (by decide +kernel) ?_
      refine r_iadd d_X3_linkLabels_16 ?_
      replace e := ckd e
      obtain ⟨k3, e⟩ := e
      replace e := ckd e
      obtain ⟨k4, e⟩ := e
      refine g_iald d_X3_linkLabels_17 k3 k4 rfl ?_
      refine r_bipush d_X3_linkLabels_18 (v := (73 : Int32)) (by decide +kernel) ?_
      refine r_icmp_eq d_X3_linkLabels_20 (tgt := 36) (by decide) (fun c5 => ?_) (fun c5 => ?_)
      · replace e := (if_pos c5).symm.trans e
        exact f_X3_linkLabels_36_ok _ hj ih _ _ _ _ _ _ g0 g1 g2 e
      · replace e := (if_neg c5).symm.trans e
        refine g_ald_n d_X3_linkLabels_23 rfl g0 ?_
        refine g_getR d_X3_linkLabels_24 (f := 401) k2 fk_2_15 rfl rfl ?_
        refine r_iload_n d_X3_linkLabels_27 rfl g2 ?_
        refine r_iconst d_X3_linkLabels_28 (v := (0 : Int32)) (by decide +kernel) ?_
        refine r_iadd d_X3_linkLabels_29 ?_
        refine g_iald d_X3_linkLabels_30 k3 k4 rfl ?_
        refine r_bipush d_X3_linkLabels_31 (v := (71 : Int32)) (by decide +kernel) ?_
        refine r_icmp_ne d_X3_linkLabels_33 (tgt := 73) (by decide) (fun c6 => ?_) (fun c6 => ?_)
        · replace e := (if_neg c6).symm.trans e
          exact f_X3_linkLabels_73_ok _ hj ih _ _ _ _ _ _ g0 g1 g2 e
        · replace e := (if_pos c6).symm.trans e
          exact f_X3_linkLabels_36_ok _ hj ih _ _ _ _ _ _ g0 g1 g2 e

def f_X3_linkLabels (l0 : Nat) (l1 : Int32) (h : Hp) : Option (Int32 × Hp) := f_X3_linkLabels_2 fz (l0) (l1) ((0 : Int32)) (h)
theorem f_X3_linkLabels_ok {G : Gd} {d : Nat} (hj : 1 ≤ d) : ∀ (l0 : Nat) (l1 : Int32) (L : List (Nat × Value)) (h : Hp) (o : (Int32 × Hp)), zlk L 0 = some (zrf (l0)) → zlk L 1 = some (.int (l1)) → f_X3_linkLabels l0 l1 h = some o → Ev G M_X3_linkLabels d 0 L [] h (Ret Y_X3_linkLabels (some (.int o.1)) o.2) := by
  intro l0 l1 L h o g0 g1 e
  unfold f_X3_linkLabels at e
  refine r_iconst d_X3_linkLabels_0 (v := (0 : Int32)) (by decide +kernel) ?_
  refine s_istore_n d_X3_linkLabels_1 rfl (by decide) (fun L g2 gK => ?_)
  replace g0 := gK _ _ (by decide) (Or.inr (zrf_cat _)) g0
  replace g1 := gK _ _ (by decide) (Or.inr rfl) g1
  exact f_X3_linkLabels_2_ok hj _ _ _ _ _ _ _ g0 g1 g2 e

theorem c_X3_linkLabels {G : Gd} {j : Nat} (hj : 1 ≤ j) {l0 : Nat} {l1 : Int32} {h : Hp} {o : (Int32 × Hp)} (e : f_X3_linkLabels l0 l1 h = some o) : Cal G j Y_X3_linkLabels [zrf (l0), .int (l1)] h (some (.int o.1)) o.2 := Cal.of (n := 0) (I := false) (by first | exact Or.inl (by decide +kernel) | exact Or.inr (by decide +kernel)) (by decide) (by simp [lg_sl, zrf_cat, cat_int, cat_long]) (f_X3_linkLabels_ok hj _ _ _ h o (by simp [lv_args, zlk, zrf_cat, cat_int, cat_long]) (by simp [lv_args, zlk, zrf_cat, cat_int, cat_long]) e)
def f_J7_fill_53178_5 : Nat → Nat → Int32 → Int32 → Int32 → Hp → Option Hp
  | 0, _, _, _, _, _ => none
  | n + 1, l0, l1, l2, l3, h => if (l3) ≤ (l2) then (some (h)) else (ck (isO (h) (l0) 22) (ck (inR (l2) (zL (h) (l0))) (bh (pE (h) (l0) (l2).toNatClampNeg (l1)) (fun h6 => bh ((l2) + (1 : Int32)) (fun x7 => f_J7_fill_53178_5 n (l0) (l1) (x7) (l3) (h6))))))
theorem f_J7_fill_53178_5_ok {G : Gd} {d : Nat} (hj : 1 ≤ d) : ∀ (n : Nat) (l0 : Nat) (l1 : Int32) (l2 : Int32) (l3 : Int32) (L : List (Nat × Value)) (h : Hp) (o : Hp), zlk L 0 = some (zrf (l0)) → zlk L 1 = some (.int (l1)) → zlk L 2 = some (.int (l2)) → zlk L 3 = some (.int (l3)) → f_J7_fill_53178_5 n l0 l1 l2 l3 h = some o → Ev G M_J7_fill_53178 d 5 L [] h (Ret Y_J7_fill_53178 none o) := by
  intro n
  induction n with
  | zero =>
    intro l0 l1 l2 l3 L h o g0 g1 g2 g3 e
    cases e
  | succ n ih =>
    intro l0 l1 l2 l3 L h o g0 g1 g2 g3 e
    unfold f_J7_fill_53178_5 at e
    refine r_iload_n d_J7_fill_53178_5 rfl g2 ?_
    refine r_iload_n d_J7_fill_53178_6 rfl g3 ?_
    refine r_icmp_ge d_J7_fill_53178_7 (tgt := 20) (by decide) (fun c3 => ?_) (fun c3 => ?_)
    · replace e := (if_pos c3).symm.trans e
      obtain rfl := Option.some.inj e
      exact g_vret d_J7_fill_53178_20 rfl
    · replace e := (if_neg c3).symm.trans e
      refine g_ald_n d_J7_fill_53178_10 rfl g0 ?_
      refine r_iload_n d_J7_fill_53178_11 rfl g2 ?_
      refine r_iload_n d_J7_fill_53178_12 rfl g1 ?_
      replace e := ckd e
      obtain ⟨k4, e⟩ := e
      replace e := ckd e
      obtain ⟨k5, e⟩ := e
      refine g_iast d_J7_fill_53178_13 k4 k5 ?_
      replace e := bhd e
      obtain ⟨_, rfl, e⟩ := e
      replace e := bhd e
      obtain ⟨_, rfl, e⟩ := e
      refine s_iinc d_J7_fill_53178_14 g2 (w := (1 : Int32)) (by decide +kernel) (by decide) (fun L g2 gK => ?_)
      replace g0 := gK _ _ (by decide) (Or.inr (zrf_cat _)) g0
      replace g1 := gK _ _ (by decide) (Or.inr rfl) g1
      replace g3 := gK _ _ (by decide) (Or.inr rfl) g3
      refine r_goto d_J7_fill_53178_17 (tgt := 5) (by decide) ?_
      exact ih _ _ _ _ _ _ _ g0 g1 g2 g3 e

def f_J7_fill_53178 (l0 : Nat) (l1 : Int32) (h : Hp) : Option Hp := ck (isO (h) (l0) 22) (bh (nI (zL (h) (l0))) (fun x2 => f_J7_fill_53178_5 fz (l0) (l1) ((0 : Int32)) (x2) (h)))
theorem f_J7_fill_53178_ok {G : Gd} {d : Nat} (hj : 1 ≤ d) : ∀ (l0 : Nat) (l1 : Int32) (L : List (Nat × Value)) (h : Hp) (o : Hp), zlk L 0 = some (zrf (l0)) → zlk L 1 = some (.int (l1)) → f_J7_fill_53178 l0 l1 h = some o → Ev G M_J7_fill_53178 d 0 L [] h (Ret Y_J7_fill_53178 none o) := by
  intro l0 l1 L h o g0 g1 e
  unfold f_J7_fill_53178 at e
  refine r_iconst d_J7_fill_53178_0 (v := (0 : Int32)) (by decide +kernel) ?_
  refine s_istore_n d_J7_fill_53178_1 rfl (by decide) (fun L g2 gK => ?_)
  replace g0 := gK _ _ (by decide) (Or.inr (zrf_cat _)) g0
  replace g1 := gK _ _ (by decide) (Or.inr rfl) g1
  refine g_ald_n d_J7_fill_53178_2 rfl g0 ?_
  replace e := ckd e
  obtain ⟨k1, e⟩ := e
  refine g_alen d_J7_fill_53178_3 k1 (by decide) (by decide) rfl ?_
  replace e := bhd e
  obtain ⟨_, rfl, e⟩ := e
  refine s_istore_n d_J7_fill_53178_4 rfl (by decide) (fun L g3 gK => ?_)
  replace g0 := gK _ _ (by decide) (Or.inr (zrf_cat _)) g0
  replace g1 := gK _ _ (by decide) (Or.inr rfl) g1
  replace g2 := gK _ _ (by decide) (Or.inr rfl) g2
  exact f_J7_fill_53178_5_ok hj _ _ _ _ _ _ _ _ g0 g1 g2 g3 e

theorem c_J7_fill_53178 {G : Gd} {j : Nat} (hj : 1 ≤ j) {l0 : Nat} {l1 : Int32} {h : Hp} {o : Hp} (e : f_J7_fill_53178 l0 l1 h = some o) : Cal G j Y_J7_fill_53178 [zrf (l0), .int (l1)] h none o := Cal.of (n := 0) (I := false) (by first | exact Or.inl (by decide +kernel) | exact Or.inr (by decide +kernel)) (by decide) (by simp [lg_sl, zrf_cat, cat_int, cat_long]) (f_J7_fill_53178_ok hj _ _ _ h o (by simp [lv_args, zlk, zrf_cat, cat_int, cat_long]) (by simp [lv_args, zlk, zrf_cat, cat_int, cat_long]) e)
theorem fk_2_39 : Fk "TaskWeave$Parser" 39 404 := ⟨by decide, by decide, by decide +kernel⟩
def f_X3_accept_29 (s0 : Int32) (l0 : Nat) (h : Hp) : Option (Int32 × Hp) := ck (isO (h) (l0) 4) (if (s0) = (0) then (bh (pI (h) 404 (l0) ((zI (h) 404 (l0)) + ((0 : Int32)))) (fun h8 => ck (isB (s0)) (some (s0, h8)))) else (bh (pI (h) 404 (l0) ((zI (h) 404 (l0)) + ((1 : Int32)))) (fun h10 => ck (isB (s0)) (some (s0, h10)))))
theorem f_X3_accept_29_ok {G : Gd} {d : Nat} (hj : 1 ≤ d) : ∀ (s0 : Int32) (l0 : Nat) (L : List (Nat × Value)) (h : Hp) (o : (Int32 × Hp)), zlk L 0 = some (zrf (l0)) → f_X3_accept_29 s0 l0 h = some o → Ev G M_X3_accept d 29 L [.int (s0)] h (Ret Y_X3_accept (some (.int o.1)) o.2) := by
  intro s0 l0 L h o g0 e
  unfold f_X3_accept_29 at e
  refine s_istore_n d_X3_accept_29 rfl (by decide) (fun L g2 gK => ?_)
  replace g0 := gK _ _ (by decide) (Or.inr (zrf_cat _)) g0
  refine g_ald_n d_X3_accept_30 rfl g0 ?_
  refine r_dup d_X3_accept_31 (zrf_cat _) ?_
  replace e := ckd e
  obtain ⟨k6, e⟩ := e
  refine g_getI d_X3_accept_32 (f := 404) k6 fk_2_39 rfl rfl ?_
  refine r_iload_n d_X3_accept_35 rfl g2 ?_
  refine r_if_eq d_X3_accept_36 (tgt := 43) (by decide) (fun c7 => ?_) (fun c7 => ?_)
  · replace e := (if_pos c7).symm.trans e
    refine r_iconst d_X3_accept_43 (v := (0 : Int32)) (by decide +kernel) ?_
    refine r_iadd d_X3_accept_44 ?_
    refine g_putI d_X3_accept_45 (f := 404) k6 fk_2_39 rfl (Or.inl rfl) ⟨rfl, rfl⟩ ?_
    replace e := bhd e
    obtain ⟨_, rfl, e⟩ := e
    refine r_iload_n d_X3_accept_48 rfl g2 ?_
    replace e := ckd e
    obtain ⟨k9, e⟩ := e
    obtain rfl := Option.some.inj e
    exact g_iret d_X3_accept_49 rfl k9
  · replace e := (if_neg c7).symm.trans e
    refine r_iconst d_X3_accept_39 (v := (1 : Int32)) (by decide +kernel) ?_
    refine r_goto d_X3_accept_40 (tgt := 44) (by decide) ?_
    refine r_iadd d_X3_accept_44 ?_
    refine g_putI d_X3_accept_45 (f := 404) k6 fk_2_39 rfl (Or.inl rfl) ⟨rfl, rfl⟩ ?_
    replace e := bhd e
    obtain ⟨_, rfl, e⟩ := e
    refine r_iload_n d_X3_accept_48 rfl g2 ?_
    replace e := ckd e
    obtain ⟨k11, e⟩ := e
    obtain rfl := Option.some.inj e
    exact g_iret d_X3_accept_49 rfl k11

def f_X3_accept_28 (l0 : Nat) (h : Hp) : Option (Int32 × Hp) := f_X3_accept_29 ((0 : Int32)) (l0) (h)
theorem f_X3_accept_28_ok {G : Gd} {d : Nat} (hj : 1 ≤ d) : ∀ (l0 : Nat) (L : List (Nat × Value)) (h : Hp) (o : (Int32 × Hp)), zlk L 0 = some (zrf (l0)) → f_X3_accept_28 l0 h = some o → Ev G M_X3_accept d 28 L [] h (Ret Y_X3_accept (some (.int o.1)) o.2) := by
  intro l0 L h o g0 e
  unfold f_X3_accept_28 at e
  refine r_iconst d_X3_accept_28 (v := (0 : Int32)) (by decide +kernel) ?_
  exact f_X3_accept_29_ok hj _ _ _ _ _ g0 e

def f_X3_accept (l0 : Nat) (l1 : Int32) (h : Hp) : Option (Int32 × Hp) := ck (isO (h) (l0) 4) (if (zI (h) 403 (l0)) ≤ (zI (h) 404 (l0)) then (f_X3_accept_28 (l0) (h)) else (ck (isO (h) (zR (h) 400 (l0)) 21) (ck (inR (zI (h) 404 (l0)) (zL (h) (zR (h) 400 (l0)))) (if (zE (h) (zR (h) 400 (l0)) (zI (h) 404 (l0)).toNatClampNeg) = (l1) then (f_X3_accept_29 ((1 : Int32)) (l0) (h)) else (f_X3_accept_28 (l0) (h))))))
theorem f_X3_accept_ok {G : Gd} {d : Nat} (hj : 1 ≤ d) : ∀ (l0 : Nat) (l1 : Int32) (L : List (Nat × Value)) (h : Hp) (o : (Int32 × Hp)), zlk L 0 = some (zrf (l0)) → zlk L 1 = some (.int (l1)) → f_X3_accept l0 l1 h = some o → Ev G M_X3_accept d 0 L [] h (Ret Y_X3_accept (some (.int o.1)) o.2) := by
  intro l0 l1 L h o g0 g1 e
  unfold f_X3_accept at e
  refine g_ald_n d_X3_accept_0 rfl g0 ?_
  replace e := ckd e
  obtain ⟨k1, e⟩ := e
  refine g_getI d_X3_accept_1 (f := 404) k1 fk_2_39 rfl rfl ?_
  refine g_ald_n d_X3_accept_4 rfl g0 ?_
  refine g_getI d_X3_accept_5 (f := 403) k1 fk_2_26 rfl rfl ?_
  refine r_icmp_ge d_X3_accept_8 (tgt := 28) (by decide) (fun c2 => ?_) (fun c2 => ?_)
  · replace e := (if_pos c2).symm.trans e
    exact f_X3_accept_28_ok hj _ _ _ _ g0 e
  · replace e := (if_neg c2).symm.trans e
    refine g_ald_n d_X3_accept_11 rfl g0 ?_
    refine g_getR d_X3_accept_12 (f := 400) k1 fk_2_9 rfl rfl ?_
    refine g_ald_n d_X3_accept_15 rfl g0 ?_
    refine g_getI d_X3_accept_16 (f := 404) k1 fk_2_39 rfl rfl ?_
    replace e := ckd e
    obtain ⟨k3, e⟩ := e
    replace e := ckd e
    obtain ⟨k4, e⟩ := e
    refine g_cald d_X3_accept_19 k3 k4 rfl ?_
    refine r_iload_n d_X3_accept_20 rfl g1 ?_
    refine r_icmp_ne d_X3_accept_21 (tgt := 28) (by decide) (fun c5 => ?_) (fun c5 => ?_)
    · replace e := (if_neg c5).symm.trans e
      exact f_X3_accept_28_ok hj _ _ _ _ g0 e
    · replace e := (if_pos c5).symm.trans e
      refine r_iconst d_X3_accept_24 (v := (1 : Int32)) (by decide +kernel) ?_
      refine r_goto d_X3_accept_25 (tgt := 29) (by decide) ?_
      exact f_X3_accept_29_ok hj _ _ _ _ _ g0 e

theorem c_X3_accept {G : Gd} {j : Nat} (hj : 1 ≤ j) {l0 : Nat} {l1 : Int32} {h : Hp} {o : (Int32 × Hp)} (e : f_X3_accept l0 l1 h = some o) : Cal G j Y_X3_accept [zrf (l0), .int (l1)] h (some (.int o.1)) o.2 := Cal.of (n := 0) (I := false) (by first | exact Or.inl (by decide +kernel) | exact Or.inr (by decide +kernel)) (by decide) (by simp [lg_sl, zrf_cat, cat_int, cat_long]) (f_X3_accept_ok hj _ _ _ h o (by simp [lv_args, zlk, zrf_cat, cat_int, cat_long]) (by simp [lv_args, zlk, zrf_cat, cat_int, cat_long]) e)
def f_X3_peek (l0 : Nat) (h : Hp) : Option (Int32 × Hp) := ck (isO (h) (l0) 4) (if (zI (h) 403 (l0)) ≤ (zI (h) 404 (l0)) then (some ((0 : Int32), h)) else (ck (isO (h) (zR (h) 400 (l0)) 21) (ck (inR (zI (h) 404 (l0)) (zL (h) (zR (h) 400 (l0)))) (ck (isC (zE (h) (zR (h) 400 (l0)) (zI (h) 404 (l0)).toNatClampNeg)) (some (zE (h) (zR (h) 400 (l0)) (zI (h) 404 (l0)).toNatClampNeg, h))))))
theorem f_X3_peek_ok {G : Gd} {d : Nat} (hj : 1 ≤ d) : ∀ (l0 : Nat) (L : List (Nat × Value)) (h : Hp) (o : (Int32 × Hp)), zlk L 0 = some (zrf (l0)) → f_X3_peek l0 h = some o → Ev G M_X3_peek d 0 L [] h (Ret Y_X3_peek (some (.int o.1)) o.2) := by
  intro l0 L h o g0 e
  unfold f_X3_peek at e
  refine g_ald_n d_X3_peek_0 rfl g0 ?_
  replace e := ckd e
  obtain ⟨k1, e⟩ := e
  refine g_getI d_X3_peek_1 (f := 404) k1 fk_2_39 rfl rfl ?_
  refine g_ald_n d_X3_peek_4 rfl g0 ?_
  refine g_getI d_X3_peek_5 (f := 403) k1 fk_2_26 rfl rfl ?_
  refine r_icmp_ge d_X3_peek_8 (tgt := 23) (by decide) (fun c2 => ?_) (fun c2 => ?_)
  · replace e := (if_pos c2).symm.trans e
    refine r_iconst d_X3_peek_23 (v := (0 : Int32)) (by decide +kernel) ?_
    obtain rfl := Option.some.inj e
    exact g_iret d_X3_peek_24 rfl rfl
  · replace e := (if_neg c2).symm.trans e
    refine g_ald_n d_X3_peek_11 rfl g0 ?_
    refine g_getR d_X3_peek_12 (f := 400) k1 fk_2_9 rfl rfl ?_
    refine g_ald_n d_X3_peek_15 rfl g0 ?_
    refine g_getI d_X3_peek_16 (f := 404) k1 fk_2_39 rfl rfl ?_
    replace e := ckd e
    obtain ⟨k3, e⟩ := e
    replace e := ckd e
    obtain ⟨k4, e⟩ := e
    refine g_cald d_X3_peek_19 k3 k4 rfl ?_
    refine r_goto d_X3_peek_20 (tgt := 24) (by decide) ?_
    replace e := ckd e
    obtain ⟨k5, e⟩ := e
    obtain rfl := Option.some.inj e
    exact g_iret d_X3_peek_24 rfl k5

theorem c_X3_peek {G : Gd} {j : Nat} (hj : 1 ≤ j) {l0 : Nat} {h : Hp} {o : (Int32 × Hp)} (e : f_X3_peek l0 h = some o) : Cal G j Y_X3_peek [zrf (l0)] h (some (.int o.1)) o.2 := Cal.of (n := 0) (I := false) (by first | exact Or.inl (by decide +kernel) | exact Or.inr (by decide +kernel)) (by decide) (by simp [lg_sl, zrf_cat, cat_int, cat_long]) (f_X3_peek_ok hj _ _ h o (by simp [lv_args, zlk, zrf_cat, cat_int, cat_long]) e)
theorem vk_2_75 : Vk "TaskWeave$Parser" 75 0 4 Y_X3_peek := ⟨yk_X3_peek, by decide +kernel, by decide +kernel, by decide +kernel, by decide⟩
theorem vk_2_71 : Vk "TaskWeave$Parser" 71 1 4 Y_X3_accept := ⟨yk_X3_accept, by decide +kernel, by decide +kernel, by decide +kernel, by decide⟩
def f_X3_readLabel (l0 : Nat) (l1 : Int32) (h : Hp) : Option (Int32 × Hp) := ck (isO (h) (l0) 4) ((f_X3_peek (l0) (h)).bind (fun q1 => bh ((q1.1) - ((48 : Int32))) (fun x3 => if (x3) < (0) then (some ((1 : Int32), q1.2)) else (if (x3) ≤ ((9 : Int32)) then (ck (isO (q1.2) (l0) 4) (ck (isO (q1.2) (zR (q1.2) 402 (l0)) 22) (ck (inR (x3) (zL (q1.2) (zR (q1.2) 402 (l0)))) (if (zE (q1.2) (zR (q1.2) 402 (l0)) (x3).toNatClampNeg) = ((-1 : Int32)) then (bh (pE (q1.2) (zR (q1.2) 402 (l0)) (x3).toNatClampNeg (l1)) (fun h10 => bh (pI (h10) 404 (l0) ((zI (h10) 404 (l0)) + ((1 : Int32)))) (fun h11 => (f_X3_accept (l0) ((58 : Int32)) (h11)).bind (fun q12 => ck (isB (q12.1)) (some (q12.1, q12.2)))))) else (some ((0 : Int32), q1.2)))))) else (some ((1 : Int32), q1.2))))))
theorem f_X3_readLabel_ok {G : Gd} {d : Nat} (hj : 2 ≤ d) : ∀ (l0 : Nat) (l1 : Int32) (L : List (Nat × Value)) (h : Hp) (o : (Int32 × Hp)), zlk L 0 = some (zrf (l0)) → zlk L 1 = some (.int (l1)) → f_X3_readLabel l0 l1 h = some o → Ev G M_X3_readLabel d 0 L [] h (Ret Y_X3_readLabel (some (.int o.1)) o.2) := by
  intro l0 l1 L h o g0 g1 e
  unfold f_X3_readLabel at e
  refine g_ald_n d_X3_readLabel_0 rfl g0 ?_
  replace e := ckd e
  obtain ⟨k2, e⟩ := e
  replace e := bd e
  obtain ⟨q1, eq1, e⟩ := e
  refine g_callV d_X3_readLabel_1 vk_2_75 (as := []) rfl k2 rfl (by simp [zrf_cat, cat_int, cat_long]) (j := 1) (by omega) (c_X3_peek (by omega) eq1) ?_
  refine r_bipush d_X3_readLabel_4 (v := (48 : Int32)) (by decide +kernel) ?_
  refine r_isub d_X3_readLabel_6 ?_
  replace e := bhd e
  obtain ⟨_, rfl, e⟩ := e
  refine s_istore_n d_X3_readLabel_7 rfl (by decide) (fun L g2 gK => ?_)
  replace g0 := gK _ _ (by decide) (Or.inr (zrf_cat _)) g0
  replace g1 := gK _ _ (by decide) (Or.inr rfl) g1
  refine r_iload_n d_X3_readLabel_8 rfl g2 ?_
  refine r_if_lt d_X3_readLabel_9 (tgt := 18) (by decide) (fun c4 => ?_) (fun c4 => ?_)
  · replace e := (if_pos c4).symm.trans e
    refine r_iconst d_X3_readLabel_18 (v := (1 : Int32)) (by decide +kernel) ?_
    obtain rfl := Option.some.inj e
    exact g_iret d_X3_readLabel_19 rfl rfl
  · replace e := (if_neg c4).symm.trans e
    refine r_iload_n d_X3_readLabel_12 rfl g2 ?_
    refine r_bipush d_X3_readLabel_13 (v := (9 : Int32)) (by decide +kernel) ?_
    refine r_icmp_le d_X3_readLabel_15 (tgt := 20) (by decide) (fun c5 => ?_) (fun c5 => ?_)
    · replace e := (if_pos c5).symm.trans e
      refine g_ald_n d_X3_readLabel_20 rfl g0 ?_
      replace e := ckd e
      obtain ⟨k6, e⟩ := e
      refine g_getR d_X3_readLabel_21 (f := 402) k6 fk_2_19 rfl rfl ?_
      refine r_iload_n d_X3_readLabel_24 rfl g2 ?_
      replace e := ckd e
      obtain ⟨k7, e⟩ := e
      replace e := ckd e
      obtain ⟨k8, e⟩ := e
      refine g_iald d_X3_readLabel_25 k7 k8 rfl ?_
      refine r_iconst d_X3_readLabel_26 (v := (-1 : Int32)) (by decide +kernel) ?_
      refine r_icmp_eq d_X3_readLabel_27 (tgt := 32) (by decide) (fun c9 => ?_) (fun c9 => ?_)
      · replace e := (if_pos c9).symm.trans e
        refine g_ald_n d_X3_readLabel_32 rfl g0 ?_
        refine g_getR d_X3_readLabel_33 (f := 402) k6 fk_2_19 rfl rfl ?_
        refine r_iload_n d_X3_readLabel_36 rfl g2 ?_
        refine r_iload_n d_X3_readLabel_37 rfl g1 ?_
        refine g_iast d_X3_readLabel_38 k7 k8 ?_
        replace e := bhd e
        obtain ⟨_, rfl, e⟩ := e
        refine g_ald_n d_X3_readLabel_39 rfl g0 ?_
        refine r_dup d_X3_readLabel_40 (zrf_cat _) ?_
        refine g_getI d_X3_readLabel_41 (f := 404) (tO_pE k6) fk_2_39 rfl rfl ?_
        refine r_iconst d_X3_readLabel_44 (v := (1 : Int32)) (by decide +kernel) ?_
        refine r_iadd d_X3_readLabel_45 ?_
        refine g_putI d_X3_readLabel_46 (f := 404) (tO_pE k6) fk_2_39 rfl (Or.inl rfl) ⟨rfl, rfl⟩ ?_
        replace e := bhd e
        obtain ⟨_, rfl, e⟩ := e
        refine g_ald_n d_X3_readLabel_49 rfl g0 ?_
        refine r_bipush d_X3_readLabel_50 (v := (58 : Int32)) (by decide +kernel) ?_
        replace e := bd e
        obtain ⟨q12, eq12, e⟩ := e
        refine g_callV d_X3_readLabel_52 vk_2_71 (as := [_]) rfl (tO_pI (tO_pE k6)) rfl (by simp [zrf_cat, cat_int, cat_long]) (j := 1) (by omega) (c_X3_accept (by omega) eq12) ?_
        replace e := ckd e
        obtain ⟨k13, e⟩ := e
        obtain rfl := Option.some.inj e
        exact g_iret d_X3_readLabel_55 rfl k13
      · replace e := (if_neg c9).symm.trans e
        refine r_iconst d_X3_readLabel_30 (v := (0 : Int32)) (by decide +kernel) ?_
        obtain rfl := Option.some.inj e
        exact g_iret d_X3_readLabel_31 rfl rfl
    · replace e := (if_neg c5).symm.trans e
      refine r_iconst d_X3_readLabel_18 (v := (1 : Int32)) (by decide +kernel) ?_
      obtain rfl := Option.some.inj e
      exact g_iret d_X3_readLabel_19 rfl rfl

theorem c_X3_readLabel {G : Gd} {j : Nat} (hj : 2 ≤ j) {l0 : Nat} {l1 : Int32} {h : Hp} {o : (Int32 × Hp)} (e : f_X3_readLabel l0 l1 h = some o) : Cal G j Y_X3_readLabel [zrf (l0), .int (l1)] h (some (.int o.1)) o.2 := Cal.of (n := 0) (I := false) (by first | exact Or.inl (by decide +kernel) | exact Or.inr (by decide +kernel)) (by decide) (by simp [lg_sl, zrf_cat, cat_int, cat_long]) (f_X3_readLabel_ok hj _ _ _ h o (by simp [lv_args, zlk, zrf_cat, cat_int, cat_long]) (by simp [lv_args, zlk, zrf_cat, cat_int, cat_long]) e)
def f_X3_isLocal (l0 : Int32) (h : Hp) : Option (Int32 × Hp) := if (l0) < ((97 : Int32)) then (some ((0 : Int32), h)) else (if ((104 : Int32)) < (l0) then (some ((0 : Int32), h)) else (some ((1 : Int32), h)))
theorem f_X3_isLocal_ok {G : Gd} {d : Nat} (hj : 1 ≤ d) : ∀ (l0 : Int32) (L : List (Nat × Value)) (h : Hp) (o : (Int32 × Hp)), zlk L 0 = some (.int (l0)) → f_X3_isLocal l0 h = some o → Ev G M_X3_isLocal d 0 L [] h (Ret Y_X3_isLocal (some (.int o.1)) o.2) := by
  intro l0 L h o g0 e
  unfold f_X3_isLocal at e
  refine r_iload_n d_X3_isLocal_0 rfl g0 ?_
  refine r_bipush d_X3_isLocal_1 (v := (97 : Int32)) (by decide +kernel) ?_
  refine r_icmp_lt d_X3_isLocal_3 (tgt := 16) (by decide) (fun c1 => ?_) (fun c1 => ?_)
  · replace e := (if_pos c1).symm.trans e
    refine r_iconst d_X3_isLocal_16 (v := (0 : Int32)) (by decide +kernel) ?_
    obtain rfl := Option.some.inj e
    exact g_iret d_X3_isLocal_17 rfl rfl
  · replace e := (if_neg c1).symm.trans e
    refine r_iload_n d_X3_isLocal_6 rfl g0 ?_
    refine r_bipush d_X3_isLocal_7 (v := (104 : Int32)) (by decide +kernel) ?_
    refine r_icmp_gt d_X3_isLocal_9 (tgt := 16) (by decide) (fun c2 => ?_) (fun c2 => ?_)
    · replace e := (if_pos c2).symm.trans e
      refine r_iconst d_X3_isLocal_16 (v := (0 : Int32)) (by decide +kernel) ?_
      obtain rfl := Option.some.inj e
      exact g_iret d_X3_isLocal_17 rfl rfl
    · replace e := (if_neg c2).symm.trans e
      refine r_iconst d_X3_isLocal_12 (v := (1 : Int32)) (by decide +kernel) ?_
      refine r_goto d_X3_isLocal_13 (tgt := 17) (by decide) ?_
      obtain rfl := Option.some.inj e
      exact g_iret d_X3_isLocal_17 rfl rfl

theorem c_X3_isLocal {G : Gd} {j : Nat} (hj : 1 ≤ j) {l0 : Int32} {h : Hp} {o : (Int32 × Hp)} (e : f_X3_isLocal l0 h = some o) : Cal G j Y_X3_isLocal [.int (l0)] h (some (.int o.1)) o.2 := Cal.of (n := 0) (I := false) (by first | exact Or.inl (by decide +kernel) | exact Or.inr (by decide +kernel)) (by decide) (by simp [lg_sl, zrf_cat, cat_int, cat_long]) (f_X3_isLocal_ok hj _ _ h o (by simp [lv_args, zlk, zrf_cat, cat_int, cat_long]) e)
theorem sk_2_79 : Sk "TaskWeave$Parser" 79 1 Y_X3_isLocal := ⟨yk_X3_isLocal, by decide +kernel, by decide +kernel⟩
def f_X3_readValue_100 (l0 : Nat) (l1 : Int32) (l2 : Int32) (l3 : Int32) (l4 : Int32) (h : Hp) : Option (Int32 × Hp) := ck (isO (h) (l0) 4) (if (l2) = (0) then (ck (isO (h) (zR (h) 401 (l0)) 22) (ck (inR ((l1) + ((1 : Int32))) (zL (h) (zR (h) 401 (l0)))) (bh (pE (h) (zR (h) 401 (l0)) ((l1) + ((1 : Int32))).toNatClampNeg (l3)) (fun h31 => if (l4) ≤ (0) then (some ((0 : Int32), h31)) else (some ((1 : Int32), h31)))))) else (ck (isO (h) (zR (h) 401 (l0)) 22) (ck (inR ((l1) + ((1 : Int32))) (zL (h) (zR (h) 401 (l0)))) (bh (pE (h) (zR (h) 401 (l0)) ((l1) + ((1 : Int32))).toNatClampNeg (-(l3))) (fun h35 => if (l4) ≤ (0) then (some ((0 : Int32), h35)) else (some ((1 : Int32), h35)))))))
theorem f_X3_readValue_100_ok {G : Gd} {d : Nat} (hj : 2 ≤ d) : ∀ (l0 : Nat) (l1 : Int32) (l2 : Int32) (l3 : Int32) (l4 : Int32) (L : List (Nat × Value)) (h : Hp) (o : (Int32 × Hp)), zlk L 0 = some (zrf (l0)) → zlk L 1 = some (.int (l1)) → zlk L 2 = some (.int (l2)) → zlk L 3 = some (.int (l3)) → zlk L 4 = some (.int (l4)) → f_X3_readValue_100 l0 l1 l2 l3 l4 h = some o → Ev G M_X3_readValue d 100 L [] h (Ret Y_X3_readValue (some (.int o.1)) o.2) := by
  intro l0 l1 l2 l3 l4 L h o g0 g1 g2 g3 g4 e
  unfold f_X3_readValue_100 at e
  refine g_ald_n d_X3_readValue_100 rfl g0 ?_
  replace e := ckd e
  obtain ⟨k27, e⟩ := e
  refine g_getR d_X3_readValue_101 (f := 401) k27 fk_2_15 rfl rfl ?_
  refine r_iload_n d_X3_readValue_104 rfl g1 ?_
  refine r_iconst d_X3_readValue_105 (v := (1 : Int32)) (by decide +kernel) ?_
  refine r_iadd d_X3_readValue_106 ?_
  refine r_iload_n d_X3_readValue_107 rfl g2 ?_
  refine r_if_eq d_X3_readValue_108 (tgt := 116) (by decide) (fun c28 => ?_) (fun c28 => ?_)
  · replace e := (if_pos c28).symm.trans e
    refine r_iload_n d_X3_readValue_116 rfl g3 ?_
    replace e := ckd e
    obtain ⟨k29, e⟩ := e
    replace e := ckd e
    obtain ⟨k30, e⟩ := e
    refine g_iast d_X3_readValue_117 k29 k30 ?_
    replace e := bhd e
    obtain ⟨_, rfl, e⟩ := e
    refine r_iload d_X3_readValue_118 g4 ?_
    refine r_if_le d_X3_readValue_120 (tgt := 127) (by decide) (fun c32 => ?_) (fun c32 => ?_)
    · replace e := (if_pos c32).symm.trans e
      refine r_iconst d_X3_readValue_127 (v := (0 : Int32)) (by decide +kernel) ?_
      obtain rfl := Option.some.inj e
      exact g_iret d_X3_readValue_128 rfl rfl
    · replace e := (if_neg c32).symm.trans e
      refine r_iconst d_X3_readValue_123 (v := (1 : Int32)) (by decide +kernel) ?_
      refine r_goto d_X3_readValue_124 (tgt := 128) (by decide) ?_
      obtain rfl := Option.some.inj e
      exact g_iret d_X3_readValue_128 rfl rfl
  · replace e := (if_neg c28).symm.trans e
    refine r_iload_n d_X3_readValue_111 rfl g3 ?_
    refine r_ineg d_X3_readValue_112 ?_
    refine r_goto d_X3_readValue_113 (tgt := 117) (by decide) ?_
    replace e := ckd e
    obtain ⟨k33, e⟩ := e
    replace e := ckd e
    obtain ⟨k34, e⟩ := e
    refine g_iast d_X3_readValue_117 k33 k34 ?_
    replace e := bhd e
    obtain ⟨_, rfl, e⟩ := e
    refine r_iload d_X3_readValue_118 g4 ?_
    refine r_if_le d_X3_readValue_120 (tgt := 127) (by decide) (fun c36 => ?_) (fun c36 => ?_)
    · replace e := (if_pos c36).symm.trans e
      refine r_iconst d_X3_readValue_127 (v := (0 : Int32)) (by decide +kernel) ?_
      obtain rfl := Option.some.inj e
      exact g_iret d_X3_readValue_128 rfl rfl
    · replace e := (if_neg c36).symm.trans e
      refine r_iconst d_X3_readValue_123 (v := (1 : Int32)) (by decide +kernel) ?_
      refine r_goto d_X3_readValue_124 (tgt := 128) (by decide) ?_
      obtain rfl := Option.some.inj e
      exact g_iret d_X3_readValue_128 rfl rfl

def f_X3_readValue_47 : Nat → Nat → Int32 → Int32 → Int32 → Int32 → Hp → Option (Int32 × Hp)
  | 0, _, _, _, _, _, _ => none
  | n + 1, l0, l1, l2, l3, l4, h => if ((5 : Int32)) ≤ (l4) then (f_X3_readValue_100 (l0) (l1) (l2) (l3) (l4) (h)) else (ck (isO (h) (l0) 4) ((f_X3_peek (l0) (h)).bind (fun q15 => if (q15.1) < ((48 : Int32)) then (f_X3_readValue_100 (l0) (l1) (l2) (l3) (l4) (q15.2)) else (ck (isO (q15.2) (l0) 4) ((f_X3_peek (l0) (q15.2)).bind (fun q18 => if ((57 : Int32)) < (q18.1) then (f_X3_readValue_100 (l0) (l1) (l2) (l3) (l4) (q18.2)) else (ck (isO (q18.2) (l0) 4) ((f_X3_peek (l0) (q18.2)).bind (fun q21 => bh (((((10 : Int32)) * (l3)) + (q21.1)) - ((48 : Int32))) (fun x23 => ck (isO (q21.2) (l0) 4) (bh (pI (q21.2) 404 (l0) ((zI (q21.2) 404 (l0)) + ((1 : Int32)))) (fun h25 => bh ((l4) + (1 : Int32)) (fun x26 => f_X3_readValue_47 n (l0) (l1) (l2) (x23) (x26) (h25))))))))))))))
theorem f_X3_readValue_47_ok {G : Gd} {d : Nat} (hj : 2 ≤ d) : ∀ (n : Nat) (l0 : Nat) (l1 : Int32) (l2 : Int32) (l3 : Int32) (l4 : Int32) (L : List (Nat × Value)) (h : Hp) (o : (Int32 × Hp)), zlk L 0 = some (zrf (l0)) → zlk L 1 = some (.int (l1)) → zlk L 2 = some (.int (l2)) → zlk L 3 = some (.int (l3)) → zlk L 4 = some (.int (l4)) → f_X3_readValue_47 n l0 l1 l2 l3 l4 h = some o → Ev G M_X3_readValue d 47 L [] h (Ret Y_X3_readValue (some (.int o.1)) o.2) := by
  intro n
  induction n with
  | zero =>
    intro l0 l1 l2 l3 l4 L h o g0 g1 g2 g3 g4 e
    cases e
  | succ n ih =>
    intro l0 l1 l2 l3 l4 L h o g0 g1 g2 g3 g4 e
    unfold f_X3_readValue_47 at e
    refine r_iload d_X3_readValue_47 g4 ?_
    refine r_iconst d_X3_readValue_49 (v := (5 : Int32)) (by decide +kernel) ?_
    refine r_icmp_ge d_X3_readValue_50 (tgt := 100) (by decide) (fun c14 => ?_) (fun c14 => ?_)
    · replace e := (if_pos c14).symm.trans e
      exact f_X3_readValue_100_ok hj _ _ _ _ _ _ _ _ g0 g1 g2 g3 g4 e
    · replace e := (if_neg c14).symm.trans e
      refine g_ald_n d_X3_readValue_53 rfl g0 ?_
      replace e := ckd e
      obtain ⟨k16, e⟩ := e
      replace e := bd e
      obtain ⟨q15, eq15, e⟩ := e
      refine g_callV d_X3_readValue_54 vk_2_75 (as := []) rfl k16 rfl (by simp [zrf_cat, cat_int, cat_long]) (j := 1) (by omega) (c_X3_peek (by omega) eq15) ?_
      refine r_bipush d_X3_readValue_57 (v := (48 : Int32)) (by decide +kernel) ?_
      refine r_icmp_lt d_X3_readValue_59 (tgt := 100) (by decide) (fun c17 => ?_) (fun c17 => ?_)
      · replace e := (if_pos c17).symm.trans e
        exact f_X3_readValue_100_ok hj _ _ _ _ _ _ _ _ g0 g1 g2 g3 g4 e
      · replace e := (if_neg c17).symm.trans e
        refine g_ald_n d_X3_readValue_62 rfl g0 ?_
        replace e := ckd e
        obtain ⟨k19, e⟩ := e
        replace e := bd e
        obtain ⟨q18, eq18, e⟩ := e
        refine g_callV d_X3_readValue_63 vk_2_75 (as := []) rfl k19 rfl (by simp [zrf_cat, cat_int, cat_long]) (j := 1) (by omega) (c_X3_peek (by omega) eq18) ?_
        refine r_bipush d_X3_readValue_66 (v := (57 : Int32)) (by decide +kernel) ?_
        refine r_icmp_gt d_X3_readValue_68 (tgt := 100) (by decide) (fun c20 => ?_) (fun c20 => ?_)
        · replace e := (if_pos c20).symm.trans e
          exact f_X3_readValue_100_ok hj _ _ _ _ _ _ _ _ g0 g1 g2 g3 g4 e
        · replace e := (if_neg c20).symm.trans e
          refine r_bipush d_X3_readValue_71 (v := (10 : Int32)) (by decide +kernel) ?_
          refine r_iload_n d_X3_readValue_73 rfl g3 ?_
          refine r_imul d_X3_readValue_74 ?_
          refine g_ald_n d_X3_readValue_75 rfl g0 ?_
          replace e := ckd e
          obtain ⟨k22, e⟩ := e
          replace e := bd e
          obtain ⟨q21, eq21, e⟩ := e
          refine g_callV d_X3_readValue_76 vk_2_75 (as := []) rfl k22 rfl (by simp [zrf_cat, cat_int, cat_long]) (j := 1) (by omega) (c_X3_peek (by omega) eq21) ?_
          refine r_iadd d_X3_readValue_79 ?_
          refine r_bipush d_X3_readValue_80 (v := (48 : Int32)) (by decide +kernel) ?_
          refine r_isub d_X3_readValue_82 ?_
          replace e := bhd e
          obtain ⟨_, rfl, e⟩ := e
          refine s_istore_n d_X3_readValue_83 rfl (by decide) (fun L g3 gK => ?_)
          replace g0 := gK _ _ (by decide) (Or.inr (zrf_cat _)) g0
          replace g1 := gK _ _ (by decide) (Or.inr rfl) g1
          replace g2 := gK _ _ (by decide) (Or.inr rfl) g2
          replace g4 := gK _ _ (by decide) (Or.inr rfl) g4
          refine g_ald_n d_X3_readValue_84 rfl g0 ?_
          refine r_dup d_X3_readValue_85 (zrf_cat _) ?_
          replace e := ckd e
          obtain ⟨k24, e⟩ := e
          refine g_getI d_X3_readValue_86 (f := 404) k24 fk_2_39 rfl rfl ?_
          refine r_iconst d_X3_readValue_89 (v := (1 : Int32)) (by decide +kernel) ?_
          refine r_iadd d_X3_readValue_90 ?_
          refine g_putI d_X3_readValue_91 (f := 404) k24 fk_2_39 rfl (Or.inl rfl) ⟨rfl, rfl⟩ ?_
          replace e := bhd e
          obtain ⟨_, rfl, e⟩ := e
          replace e := bhd e
          obtain ⟨_, rfl, e⟩ := e
          refine s_iinc d_X3_readValue_94 g4 (w := (1 : Int32)) (by decide +kernel) (by decide) (fun L g4 gK => ?_)
          replace g0 := gK _ _ (by decide) (Or.inr (zrf_cat _)) g0
          replace g1 := gK _ _ (by decide) (Or.inr rfl) g1
          replace g2 := gK _ _ (by decide) (Or.inr rfl) g2
          replace g3 := gK _ _ (by decide) (Or.inr rfl) g3
          refine r_goto d_X3_readValue_97 (tgt := 47) (by decide) ?_
          exact ih _ _ _ _ _ _ _ _ g0 g1 g2 g3 g4 e

def f_X3_readValue (l0 : Nat) (l1 : Int32) (h : Hp) : Option (Int32 × Hp) := ck (isO (h) (l0) 4) ((f_X3_peek (l0) (h)).bind (fun q1 => (f_X3_isLocal (q1.1) (q1.2)).bind (fun q3 => if (q3.1) = (0) then (ck (isO (q3.2) (l0) 4) ((f_X3_accept (l0) ((45 : Int32)) (q3.2)).bind (fun q5 => f_X3_readValue_47 fz (l0) (l1) (q5.1) ((0 : Int32)) ((0 : Int32)) (q5.2)))) else (ck (isO (q3.2) (l0) 4) ((f_X3_peek (l0) (q3.2)).bind (fun q8 => ck (isO (q8.2) (zR (q3.2) 401 (l0)) 22) (ck (inR (l1) (zL (q8.2) (zR (q3.2) 401 (l0)))) (bh (pE (q8.2) (zR (q3.2) 401 (l0)) (l1).toNatClampNeg ((q8.1) - ((97 : Int32)))) (fun h11 => ck (isO (h11) (l0) 4) (bh (pI (h11) 404 (l0) ((zI (h11) 404 (l0)) + ((1 : Int32)))) (fun h13 => some ((1 : Int32), h13))))))))))))
theorem f_X3_readValue_ok {G : Gd} {d : Nat} (hj : 2 ≤ d) : ∀ (l0 : Nat) (l1 : Int32) (L : List (Nat × Value)) (h : Hp) (o : (Int32 × Hp)), zlk L 0 = some (zrf (l0)) → zlk L 1 = some (.int (l1)) → f_X3_readValue l0 l1 h = some o → Ev G M_X3_readValue d 0 L [] h (Ret Y_X3_readValue (some (.int o.1)) o.2) := by
  intro l0 l1 L h o g0 g1 e
  unfold f_X3_readValue at e
  refine g_ald_n d_X3_readValue_0 rfl g0 ?_
  replace e := ckd e
  obtain ⟨k2, e⟩ := e
  replace e := bd e
  obtain ⟨q1, eq1, e⟩ := e
  refine g_callV d_X3_readValue_1 vk_2_75 (as := []) rfl k2 rfl (by simp [zrf_cat, cat_int, cat_long]) (j := 1) (by omega) (c_X3_peek (by omega) eq1) ?_
  replace e := bd e
  obtain ⟨q3, eq3, e⟩ := e
  refine g_callS d_X3_readValue_4 sk_2_79 (as := [_]) rfl rfl (by simp [zrf_cat, cat_int, cat_long]) (j := 1) (by omega) (c_X3_isLocal (by omega) eq3) ?_
  refine r_if_eq d_X3_readValue_7 (tgt := 35) (by decide) (fun c4 => ?_) (fun c4 => ?_)
  · replace e := (if_pos c4).symm.trans e
    refine g_ald_n d_X3_readValue_35 rfl g0 ?_
    refine r_bipush d_X3_readValue_36 (v := (45 : Int32)) (by decide +kernel) ?_
    replace e := ckd e
    obtain ⟨k6, e⟩ := e
    replace e := bd e
    obtain ⟨q5, eq5, e⟩ := e
    refine g_callV d_X3_readValue_38 vk_2_71 (as := [_]) rfl k6 rfl (by simp [zrf_cat, cat_int, cat_long]) (j := 1) (by omega) (c_X3_accept (by omega) eq5) ?_
    refine s_istore_n d_X3_readValue_41 rfl (by decide) (fun L g2 gK => ?_)
    replace g0 := gK _ _ (by decide) (Or.inr (zrf_cat _)) g0
    replace g1 := gK _ _ (by decide) (Or.inr rfl) g1
    refine r_iconst d_X3_readValue_42 (v := (0 : Int32)) (by decide +kernel) ?_
    refine s_istore_n d_X3_readValue_43 rfl (by decide) (fun L g3 gK => ?_)
    replace g0 := gK _ _ (by decide) (Or.inr (zrf_cat _)) g0
    replace g1 := gK _ _ (by decide) (Or.inr rfl) g1
    replace g2 := gK _ _ (by decide) (Or.inr rfl) g2
    refine r_iconst d_X3_readValue_44 (v := (0 : Int32)) (by decide +kernel) ?_
    refine s_istore d_X3_readValue_45 (by decide) (fun L g4 gK => ?_)
    replace g0 := gK _ _ (by decide) (Or.inr (zrf_cat _)) g0
    replace g1 := gK _ _ (by decide) (Or.inr rfl) g1
    replace g2 := gK _ _ (by decide) (Or.inr rfl) g2
    replace g3 := gK _ _ (by decide) (Or.inr rfl) g3
    exact f_X3_readValue_47_ok hj _ _ _ _ _ _ _ _ _ g0 g1 g2 g3 g4 e
  · replace e := (if_neg c4).symm.trans e
    refine g_ald_n d_X3_readValue_10 rfl g0 ?_
    replace e := ckd e
    obtain ⟨k7, e⟩ := e
    refine g_getR d_X3_readValue_11 (f := 401) k7 fk_2_15 rfl rfl ?_
    refine r_iload_n d_X3_readValue_14 rfl g1 ?_
    refine g_ald_n d_X3_readValue_15 rfl g0 ?_
    replace e := bd e
    obtain ⟨q8, eq8, e⟩ := e
    refine g_callV d_X3_readValue_16 vk_2_75 (as := []) rfl k7 rfl (by simp [zrf_cat, cat_int, cat_long]) (j := 1) (by omega) (c_X3_peek (by omega) eq8) ?_
    refine r_bipush d_X3_readValue_19 (v := (97 : Int32)) (by decide +kernel) ?_
    refine r_isub d_X3_readValue_21 ?_
    replace e := ckd e
    obtain ⟨k9, e⟩ := e
    replace e := ckd e
    obtain ⟨k10, e⟩ := e
    refine g_iast d_X3_readValue_22 k9 k10 ?_
    replace e := bhd e
    obtain ⟨_, rfl, e⟩ := e
    refine g_ald_n d_X3_readValue_23 rfl g0 ?_
    refine r_dup d_X3_readValue_24 (zrf_cat _) ?_
    replace e := ckd e
    obtain ⟨k12, e⟩ := e
    refine g_getI d_X3_readValue_25 (f := 404) k12 fk_2_39 rfl rfl ?_
    refine r_iconst d_X3_readValue_28 (v := (1 : Int32)) (by decide +kernel) ?_
    refine r_iadd d_X3_readValue_29 ?_
    refine g_putI d_X3_readValue_30 (f := 404) k12 fk_2_39 rfl (Or.inl rfl) ⟨rfl, rfl⟩ ?_
    replace e := bhd e
    obtain ⟨_, rfl, e⟩ := e
    refine r_iconst d_X3_readValue_33 (v := (1 : Int32)) (by decide +kernel) ?_
    obtain rfl := Option.some.inj e
    exact g_iret d_X3_readValue_34 rfl rfl

theorem c_X3_readValue {G : Gd} {j : Nat} (hj : 2 ≤ j) {l0 : Nat} {l1 : Int32} {h : Hp} {o : (Int32 × Hp)} (e : f_X3_readValue l0 l1 h = some o) : Cal G j Y_X3_readValue [zrf (l0), .int (l1)] h (some (.int o.1)) o.2 := Cal.of (n := 0) (I := false) (by first | exact Or.inl (by decide +kernel) | exact Or.inr (by decide +kernel)) (by decide) (by simp [lg_sl, zrf_cat, cat_int, cat_long]) (f_X3_readValue_ok hj _ _ _ h o (by simp [lv_args, zlk, zrf_cat, cat_int, cat_long]) (by simp [lv_args, zlk, zrf_cat, cat_int, cat_long]) e)
theorem vk_2_92 : Vk "TaskWeave$Parser" 92 1 4 Y_X3_readValue := ⟨yk_X3_readValue, by decide +kernel, by decide +kernel, by decide +kernel, by decide⟩
def f_X3_readBracket (l0 : Nat) (l1 : Int32) (h : Hp) : Option (Int32 × Hp) := ck (isO (h) (l0) 4) ((f_X3_accept (l0) ((40 : Int32)) (h)).bind (fun q1 => if (q1.1) = (0) then (some ((0 : Int32), q1.2)) else (ck (isO (q1.2) (l0) 4) ((f_X3_readValue (l0) ((l1) + ((4 : Int32))) (q1.2)).bind (fun q4 => if (q4.1) = (0) then (some ((0 : Int32), q4.2)) else (ck (isO (q4.2) (l0) 4) ((f_X3_accept (l0) ((41 : Int32)) (q4.2)).bind (fun q7 => if (q7.1) = (0) then (some ((0 : Int32), q7.2)) else (some ((1 : Int32), q7.2))))))))))
theorem f_X3_readBracket_ok {G : Gd} {d : Nat} (hj : 3 ≤ d) : ∀ (l0 : Nat) (l1 : Int32) (L : List (Nat × Value)) (h : Hp) (o : (Int32 × Hp)), zlk L 0 = some (zrf (l0)) → zlk L 1 = some (.int (l1)) → f_X3_readBracket l0 l1 h = some o → Ev G M_X3_readBracket d 0 L [] h (Ret Y_X3_readBracket (some (.int o.1)) o.2) := by
  intro l0 l1 L h o g0 g1 e
  unfold f_X3_readBracket at e
  refine g_ald_n d_X3_readBracket_0 rfl g0 ?_
  refine r_bipush d_X3_readBracket_1 (v := (40 : Int32)) (by decide +kernel) ?_
  replace e := ckd e
  obtain ⟨k2, e⟩ := e
  replace e := bd e
  obtain ⟨q1, eq1, e⟩ := e
  refine g_callV d_X3_readBracket_3 vk_2_71 (as := [_]) rfl k2 rfl (by simp [zrf_cat, cat_int, cat_long]) (j := 1) (by omega) (c_X3_accept (by omega) eq1) ?_
  refine r_if_eq d_X3_readBracket_6 (tgt := 32) (by decide) (fun c3 => ?_) (fun c3 => ?_)
  · replace e := (if_pos c3).symm.trans e
    refine r_iconst d_X3_readBracket_32 (v := (0 : Int32)) (by decide +kernel) ?_
    obtain rfl := Option.some.inj e
    exact g_iret d_X3_readBracket_33 rfl rfl
  · replace e := (if_neg c3).symm.trans e
    refine g_ald_n d_X3_readBracket_9 rfl g0 ?_
    refine r_iload_n d_X3_readBracket_10 rfl g1 ?_
    refine r_iconst d_X3_readBracket_11 (v := (4 : Int32)) (by decide +kernel) ?_
    refine r_iadd d_X3_readBracket_12 ?_
    replace e := ckd e
    obtain ⟨k5, e⟩ := e
    replace e := bd e
    obtain ⟨q4, eq4, e⟩ := e
    refine g_callV d_X3_readBracket_13 vk_2_92 (as := [_]) rfl k5 rfl (by simp [zrf_cat, cat_int, cat_long]) (j := 2) (by omega) (c_X3_readValue (by omega) eq4) ?_
    refine r_if_eq d_X3_readBracket_16 (tgt := 32) (by decide) (fun c6 => ?_) (fun c6 => ?_)
    · replace e := (if_pos c6).symm.trans e
      refine r_iconst d_X3_readBracket_32 (v := (0 : Int32)) (by decide +kernel) ?_
      obtain rfl := Option.some.inj e
      exact g_iret d_X3_readBracket_33 rfl rfl
    · replace e := (if_neg c6).symm.trans e
      refine g_ald_n d_X3_readBracket_19 rfl g0 ?_
      refine r_bipush d_X3_readBracket_20 (v := (41 : Int32)) (by decide +kernel) ?_
      replace e := ckd e
      obtain ⟨k8, e⟩ := e
      replace e := bd e
      obtain ⟨q7, eq7, e⟩ := e
      refine g_callV d_X3_readBracket_22 vk_2_71 (as := [_]) rfl k8 rfl (by simp [zrf_cat, cat_int, cat_long]) (j := 1) (by omega) (c_X3_accept (by omega) eq7) ?_
      refine r_if_eq d_X3_readBracket_25 (tgt := 32) (by decide) (fun c9 => ?_) (fun c9 => ?_)
      · replace e := (if_pos c9).symm.trans e
        refine r_iconst d_X3_readBracket_32 (v := (0 : Int32)) (by decide +kernel) ?_
        obtain rfl := Option.some.inj e
        exact g_iret d_X3_readBracket_33 rfl rfl
      · replace e := (if_neg c9).symm.trans e
        refine r_iconst d_X3_readBracket_28 (v := (1 : Int32)) (by decide +kernel) ?_
        refine r_goto d_X3_readBracket_29 (tgt := 33) (by decide) ?_
        obtain rfl := Option.some.inj e
        exact g_iret d_X3_readBracket_33 rfl rfl

theorem c_X3_readBracket {G : Gd} {j : Nat} (hj : 3 ≤ j) {l0 : Nat} {l1 : Int32} {h : Hp} {o : (Int32 × Hp)} (e : f_X3_readBracket l0 l1 h = some o) : Cal G j Y_X3_readBracket [zrf (l0), .int (l1)] h (some (.int o.1)) o.2 := Cal.of (n := 0) (I := false) (by first | exact Or.inl (by decide +kernel) | exact Or.inr (by decide +kernel)) (by decide) (by simp [lg_sl, zrf_cat, cat_int, cat_long]) (f_X3_readBracket_ok hj _ _ _ h o (by simp [lv_args, zlk, zrf_cat, cat_int, cat_long]) (by simp [lv_args, zlk, zrf_cat, cat_int, cat_long]) e)
def f_X3_readDigit (l0 : Nat) (l1 : Int32) (l2 : Int32) (h : Hp) : Option (Int32 × Hp) := ck (isO (h) (l0) 4) ((f_X3_peek (l0) (h)).bind (fun q1 => if (q1.1) < ((48 : Int32)) then (some ((0 : Int32), q1.2)) else (if (q1.1) ≤ (l2) then (ck (isO (q1.2) (l0) 4) (ck (isO (q1.2) (zR (q1.2) 401 (l0)) 22) (ck (inR ((l1) + ((2 : Int32))) (zL (q1.2) (zR (q1.2) 401 (l0)))) (bh (pE (q1.2) (zR (q1.2) 401 (l0)) ((l1) + ((2 : Int32))).toNatClampNeg ((q1.1) - ((48 : Int32)))) (fun h8 => ck (isO (h8) (zR (h8) 401 (l0)) 22) (ck (inR ((l1) + ((3 : Int32))) (zL (h8) (zR (h8) 401 (l0)))) (bh (pE (h8) (zR (h8) 401 (l0)) ((l1) + ((3 : Int32))).toNatClampNeg (zI (h8) 404 (l0))) (fun h11 => bh (pI (h11) 404 (l0) ((zI (h11) 404 (l0)) + ((1 : Int32)))) (fun h12 => some ((1 : Int32), h12)))))))))) else (some ((0 : Int32), q1.2)))))
theorem f_X3_readDigit_ok {G : Gd} {d : Nat} (hj : 2 ≤ d) : ∀ (l0 : Nat) (l1 : Int32) (l2 : Int32) (L : List (Nat × Value)) (h : Hp) (o : (Int32 × Hp)), zlk L 0 = some (zrf (l0)) → zlk L 1 = some (.int (l1)) → zlk L 2 = some (.int (l2)) → f_X3_readDigit l0 l1 l2 h = some o → Ev G M_X3_readDigit d 0 L [] h (Ret Y_X3_readDigit (some (.int o.1)) o.2) := by
  intro l0 l1 l2 L h o g0 g1 g2 e
  unfold f_X3_readDigit at e
  refine g_ald_n d_X3_readDigit_0 rfl g0 ?_
  replace e := ckd e
  obtain ⟨k2, e⟩ := e
  replace e := bd e
  obtain ⟨q1, eq1, e⟩ := e
  refine g_callV d_X3_readDigit_1 vk_2_75 (as := []) rfl k2 rfl (by simp [zrf_cat, cat_int, cat_long]) (j := 1) (by omega) (c_X3_peek (by omega) eq1) ?_
  refine s_istore_n d_X3_readDigit_4 rfl (by decide) (fun L g3 gK => ?_)
  replace g0 := gK _ _ (by decide) (Or.inr (zrf_cat _)) g0
  replace g1 := gK _ _ (by decide) (Or.inr rfl) g1
  replace g2 := gK _ _ (by decide) (Or.inr rfl) g2
  refine r_iload_n d_X3_readDigit_5 rfl g3 ?_
  refine r_bipush d_X3_readDigit_6 (v := (48 : Int32)) (by decide +kernel) ?_
  refine r_icmp_lt d_X3_readDigit_8 (tgt := 16) (by decide) (fun c3 => ?_) (fun c3 => ?_)
  · replace e := (if_pos c3).symm.trans e
    refine r_iconst d_X3_readDigit_16 (v := (0 : Int32)) (by decide +kernel) ?_
    obtain rfl := Option.some.inj e
    exact g_iret d_X3_readDigit_17 rfl rfl
  · replace e := (if_neg c3).symm.trans e
    refine r_iload_n d_X3_readDigit_11 rfl g3 ?_
    refine r_iload_n d_X3_readDigit_12 rfl g2 ?_
    refine r_icmp_le d_X3_readDigit_13 (tgt := 18) (by decide) (fun c4 => ?_) (fun c4 => ?_)
    · replace e := (if_pos c4).symm.trans e
      refine g_ald_n d_X3_readDigit_18 rfl g0 ?_
      replace e := ckd e
      obtain ⟨k5, e⟩ := e
      refine g_getR d_X3_readDigit_19 (f := 401) k5 fk_2_15 rfl rfl ?_
      refine r_iload_n d_X3_readDigit_22 rfl g1 ?_
      refine r_iconst d_X3_readDigit_23 (v := (2 : Int32)) (by decide +kernel) ?_
      refine r_iadd d_X3_readDigit_24 ?_
      refine r_iload_n d_X3_readDigit_25 rfl g3 ?_
      refine r_bipush d_X3_readDigit_26 (v := (48 : Int32)) (by decide +kernel) ?_
      refine r_isub d_X3_readDigit_28 ?_
      replace e := ckd e
      obtain ⟨k6, e⟩ := e
      replace e := ckd e
      obtain ⟨k7, e⟩ := e
      refine g_iast d_X3_readDigit_29 k6 k7 ?_
      replace e := bhd e
      obtain ⟨_, rfl, e⟩ := e
      refine g_ald_n d_X3_readDigit_30 rfl g0 ?_
      refine g_getR d_X3_readDigit_31 (f := 401) (tO_pE k5) fk_2_15 rfl rfl ?_
      refine r_iload_n d_X3_readDigit_34 rfl g1 ?_
      refine r_iconst d_X3_readDigit_35 (v := (3 : Int32)) (by decide +kernel) ?_
      refine r_iadd d_X3_readDigit_36 ?_
      refine g_ald_n d_X3_readDigit_37 rfl g0 ?_
      refine g_getI d_X3_readDigit_38 (f := 404) (tO_pE k5) fk_2_39 rfl rfl ?_
      replace e := ckd e
      obtain ⟨k9, e⟩ := e
      replace e := ckd e
      obtain ⟨k10, e⟩ := e
      refine g_iast d_X3_readDigit_41 k9 k10 ?_
      replace e := bhd e
      obtain ⟨_, rfl, e⟩ := e
      refine g_ald_n d_X3_readDigit_42 rfl g0 ?_
      refine r_dup d_X3_readDigit_43 (zrf_cat _) ?_
      refine g_getI d_X3_readDigit_44 (f := 404) (tO_pE (tO_pE k5)) fk_2_39 rfl rfl ?_
      refine r_iconst d_X3_readDigit_47 (v := (1 : Int32)) (by decide +kernel) ?_
      refine r_iadd d_X3_readDigit_48 ?_
      refine g_putI d_X3_readDigit_49 (f := 404) (tO_pE (tO_pE k5)) fk_2_39 rfl (Or.inl rfl) ⟨rfl, rfl⟩ ?_
      replace e := bhd e
      obtain ⟨_, rfl, e⟩ := e
      refine r_iconst d_X3_readDigit_52 (v := (1 : Int32)) (by decide +kernel) ?_
      obtain rfl := Option.some.inj e
      exact g_iret d_X3_readDigit_53 rfl rfl
    · replace e := (if_neg c4).symm.trans e
      refine r_iconst d_X3_readDigit_16 (v := (0 : Int32)) (by decide +kernel) ?_
      obtain rfl := Option.some.inj e
      exact g_iret d_X3_readDigit_17 rfl rfl

theorem c_X3_readDigit {G : Gd} {j : Nat} (hj : 2 ≤ j) {l0 : Nat} {l1 : Int32} {l2 : Int32} {h : Hp} {o : (Int32 × Hp)} (e : f_X3_readDigit l0 l1 l2 h = some o) : Cal G j Y_X3_readDigit [zrf (l0), .int (l1), .int (l2)] h (some (.int o.1)) o.2 := Cal.of (n := 0) (I := false) (by first | exact Or.inl (by decide +kernel) | exact Or.inr (by decide +kernel)) (by decide) (by simp [lg_sl, zrf_cat, cat_int, cat_long]) (f_X3_readDigit_ok hj _ _ _ _ h o (by simp [lv_args, zlk, zrf_cat, cat_int, cat_long]) (by simp [lv_args, zlk, zrf_cat, cat_int, cat_long]) (by simp [lv_args, zlk, zrf_cat, cat_int, cat_long]) e)
