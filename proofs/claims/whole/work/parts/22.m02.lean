abbrev Y_X6_rowWithOrigin : Yx := (⟨"TaskWeave$Shard", "rowWithOrigin", "(I)LTaskWeave$Workflow;"⟩, prog_8_method_4_code, 3, (some (.object "TaskWeave$Workflow")))
abbrev M_X6_rowWithOrigin : Mx := ("TaskWeave$Shard", prog_8_method_4_code, 3, false)
theorem yk_X6_rowWithOrigin : Yk Y_X6_rowWithOrigin 1 := ⟨by decide +kernel, by decide +kernel, ⟨by decide, by decide⟩, by decide +kernel, by decide, trivial⟩
theorem d_X6_rowWithOrigin_0 : decode prog_8_method_4_code 0 = .ok (.iconst 0, 1) := by decide +kernel
theorem d_X6_rowWithOrigin_1 : decode prog_8_method_4_code 1 = .ok (.istore_n 2, 1) := by decide +kernel
theorem d_X6_rowWithOrigin_2 : decode prog_8_method_4_code 2 = .ok (.iload_n 2, 1) := by decide +kernel
theorem d_X6_rowWithOrigin_3 : decode prog_8_method_4_code 3 = .ok (.aload_n 0, 1) := by decide +kernel
theorem d_X6_rowWithOrigin_4 : decode prog_8_method_4_code 4 = .ok (.getfield 56, 3) := by decide +kernel
theorem d_X6_rowWithOrigin_7 : decode prog_8_method_4_code 7 = .ok (.if_icmp .ge 34, 3) := by decide +kernel
theorem d_X6_rowWithOrigin_10 : decode prog_8_method_4_code 10 = .ok (.aload_n 0, 1) := by decide +kernel
theorem d_X6_rowWithOrigin_11 : decode prog_8_method_4_code 11 = .ok (.getfield 19, 3) := by decide +kernel
theorem d_X6_rowWithOrigin_14 : decode prog_8_method_4_code 14 = .ok (.iload_n 2, 1) := by decide +kernel
theorem d_X6_rowWithOrigin_15 : decode prog_8_method_4_code 15 = .ok (.aaload, 1) := by decide +kernel
theorem d_X6_rowWithOrigin_16 : decode prog_8_method_4_code 16 = .ok (.getfield 59, 3) := by decide +kernel
theorem d_X6_rowWithOrigin_19 : decode prog_8_method_4_code 19 = .ok (.getfield 63, 3) := by decide +kernel
theorem d_X6_rowWithOrigin_22 : decode prog_8_method_4_code 22 = .ok (.iconst 0, 1) := by decide +kernel
theorem d_X6_rowWithOrigin_23 : decode prog_8_method_4_code 23 = .ok (.iaload, 1) := by decide +kernel
theorem d_X6_rowWithOrigin_24 : decode prog_8_method_4_code 24 = .ok (.iload_n 1, 1) := by decide +kernel
theorem d_X6_rowWithOrigin_25 : decode prog_8_method_4_code 25 = .ok (.if_icmp .ne 10, 3) := by decide +kernel
theorem d_X6_rowWithOrigin_28 : decode prog_8_method_4_code 28 = .ok (.aload_n 0, 1) := by decide +kernel
theorem d_X6_rowWithOrigin_29 : decode prog_8_method_4_code 29 = .ok (.getfield 19, 3) := by decide +kernel
theorem d_X6_rowWithOrigin_32 : decode prog_8_method_4_code 32 = .ok (.iload_n 2, 1) := by decide +kernel
theorem d_X6_rowWithOrigin_33 : decode prog_8_method_4_code 33 = .ok (.aaload, 1) := by decide +kernel
theorem d_X6_rowWithOrigin_34 : decode prog_8_method_4_code 34 = .ok (.areturn, 1) := by decide +kernel
theorem d_X6_rowWithOrigin_35 : decode prog_8_method_4_code 35 = .ok (.iinc 2 1, 3) := by decide +kernel
theorem d_X6_rowWithOrigin_38 : decode prog_8_method_4_code 38 = .ok (.goto (-36), 3) := by decide +kernel
theorem d_X6_rowWithOrigin_41 : decode prog_8_method_4_code 41 = .ok (.aconst_null, 1) := by decide +kernel
theorem d_X6_rowWithOrigin_42 : decode prog_8_method_4_code 42 = .ok (.areturn, 1) := by decide +kernel
abbrev Y_X6_records : Yx := (⟨"TaskWeave$Shard", "records", "()I"⟩, prog_8_method_5_code, 1, (some .int))
abbrev M_X6_records : Mx := ("TaskWeave$Shard", prog_8_method_5_code, 1, false)
theorem yk_X6_records : Yk Y_X6_records 0 := ⟨by decide +kernel, by decide +kernel, ⟨by decide, by decide⟩, by decide +kernel, by decide, trivial⟩
theorem d_X6_records_0 : decode prog_8_method_5_code 0 = .ok (.aload_n 0, 1) := by decide +kernel
theorem d_X6_records_1 : decode prog_8_method_5_code 1 = .ok (.getfield 53, 3) := by decide +kernel
theorem d_X6_records_4 : decode prog_8_method_5_code 4 = .ok (.iconst (-1), 1) := by decide +kernel
theorem d_X6_records_5 : decode prog_8_method_5_code 5 = .ok (.if_icmp .ne 7, 3) := by decide +kernel
theorem d_X6_records_8 : decode prog_8_method_5_code 8 = .ok (.iconst 0, 1) := by decide +kernel
theorem d_X6_records_9 : decode prog_8_method_5_code 9 = .ok (.goto 18, 3) := by decide +kernel
theorem d_X6_records_12 : decode prog_8_method_5_code 12 = .ok (.aload_n 0, 1) := by decide +kernel
theorem d_X6_records_13 : decode prog_8_method_5_code 13 = .ok (.getfield 11, 3) := by decide +kernel
theorem d_X6_records_16 : decode prog_8_method_5_code 16 = .ok (.aload_n 0, 1) := by decide +kernel
theorem d_X6_records_17 : decode prog_8_method_5_code 17 = .ok (.getfield 53, 3) := by decide +kernel
theorem d_X6_records_20 : decode prog_8_method_5_code 20 = .ok (.aaload, 1) := by decide +kernel
theorem d_X6_records_21 : decode prog_8_method_5_code 21 = .ok (.getfield 69, 3) := by decide +kernel
theorem d_X6_records_24 : decode prog_8_method_5_code 24 = .ok (.bipush 16, 2) := by decide +kernel
theorem d_X6_records_26 : decode prog_8_method_5_code 26 = .ok (.idiv, 1) := by decide +kernel
theorem d_X6_records_27 : decode prog_8_method_5_code 27 = .ok (.ireturn, 1) := by decide +kernel
abbrev Y_Jx4a65c_isEmpty_aae02 : Yx := (⟨"java/util/ArrayList", "isEmpty", "()Z"⟩, prog_28_method_9_code, 1, (some .boolean))
abbrev M_Jx4a65c_isEmpty_aae02 : Mx := ("java/util/ArrayList", prog_28_method_9_code, 1, false)
theorem yk_Jx4a65c_isEmpty_aae02 : Yk Y_Jx4a65c_isEmpty_aae02 0 := ⟨by decide +kernel, by decide +kernel, ⟨by decide, by decide⟩, by decide +kernel, by decide, trivial⟩
theorem d_Jx4a65c_isEmpty_aae02_0 : decode prog_28_method_9_code 0 = .ok (.aload_n 0, 1) := by decide +kernel
theorem d_Jx4a65c_isEmpty_aae02_1 : decode prog_28_method_9_code 1 = .ok (.getfield 48, 3) := by decide +kernel
theorem d_Jx4a65c_isEmpty_aae02_4 : decode prog_28_method_9_code 4 = .ok (.ifCond .ne 7, 3) := by decide +kernel
theorem d_Jx4a65c_isEmpty_aae02_7 : decode prog_28_method_9_code 7 = .ok (.iconst 1, 1) := by decide +kernel
theorem d_Jx4a65c_isEmpty_aae02_8 : decode prog_28_method_9_code 8 = .ok (.goto 4, 3) := by decide +kernel
theorem d_Jx4a65c_isEmpty_aae02_11 : decode prog_28_method_9_code 11 = .ok (.iconst 0, 1) := by decide +kernel
theorem d_Jx4a65c_isEmpty_aae02_12 : decode prog_28_method_9_code 12 = .ok (.ireturn, 1) := by decide +kernel
abbrev Y_X6_hasRoomFor : Yx := (⟨"TaskWeave$Shard", "hasRoomFor", "(I)Z"⟩, prog_8_method_6_code, 2, (some .boolean))
abbrev M_X6_hasRoomFor : Mx := ("TaskWeave$Shard", prog_8_method_6_code, 2, false)
theorem yk_X6_hasRoomFor : Yk Y_X6_hasRoomFor 1 := ⟨by decide +kernel, by decide +kernel, ⟨by decide, by decide⟩, by decide +kernel, by decide, trivial⟩
theorem d_X6_hasRoomFor_0 : decode prog_8_method_6_code 0 = .ok (.aload_n 0, 1) := by decide +kernel
theorem d_X6_hasRoomFor_1 : decode prog_8_method_6_code 1 = .ok (.getfield 56, 3) := by decide +kernel
theorem d_X6_hasRoomFor_4 : decode prog_8_method_6_code 4 = .ok (.bipush 16, 2) := by decide +kernel
theorem d_X6_hasRoomFor_6 : decode prog_8_method_6_code 6 = .ok (.if_icmp .ge 32, 3) := by decide +kernel
theorem d_X6_hasRoomFor_9 : decode prog_8_method_6_code 9 = .ok (.iload_n 1, 1) := by decide +kernel
theorem d_X6_hasRoomFor_10 : decode prog_8_method_6_code 10 = .ok (.ifCond .lt 28, 3) := by decide +kernel
theorem d_X6_hasRoomFor_13 : decode prog_8_method_6_code 13 = .ok (.iload_n 1, 1) := by decide +kernel
theorem d_X6_hasRoomFor_14 : decode prog_8_method_6_code 14 = .ok (.bipush 8, 2) := by decide +kernel
theorem d_X6_hasRoomFor_16 : decode prog_8_method_6_code 16 = .ok (.if_icmp .ge 22, 3) := by decide +kernel
theorem d_X6_hasRoomFor_19 : decode prog_8_method_6_code 19 = .ok (.aload_n 0, 1) := by decide +kernel
theorem d_X6_hasRoomFor_20 : decode prog_8_method_6_code 20 = .ok (.getfield 45, 3) := by decide +kernel
theorem d_X6_hasRoomFor_23 : decode prog_8_method_6_code 23 = .ok (.iload_n 1, 1) := by decide +kernel
theorem d_X6_hasRoomFor_24 : decode prog_8_method_6_code 24 = .ok (.aaload, 1) := by decide +kernel
theorem d_X6_hasRoomFor_25 : decode prog_8_method_6_code 25 = .ok (.getfield 70, 3) := by decide +kernel
theorem d_X6_hasRoomFor_28 : decode prog_8_method_6_code 28 = .ok (.invokevirtual 76, 3) := by decide +kernel
theorem d_X6_hasRoomFor_31 : decode prog_8_method_6_code 31 = .ok (.ifCond .ne 7, 3) := by decide +kernel
theorem d_X6_hasRoomFor_34 : decode prog_8_method_6_code 34 = .ok (.iconst 1, 1) := by decide +kernel
theorem d_X6_hasRoomFor_35 : decode prog_8_method_6_code 35 = .ok (.goto 4, 3) := by decide +kernel
theorem d_X6_hasRoomFor_38 : decode prog_8_method_6_code 38 = .ok (.iconst 0, 1) := by decide +kernel
theorem d_X6_hasRoomFor_39 : decode prog_8_method_6_code 39 = .ok (.ireturn, 1) := by decide +kernel
abbrev Y_X6_countTasks : Yx := (⟨"TaskWeave$Shard", "countTasks", "(Z)I"⟩, prog_8_method_7_code, 5, (some .int))
abbrev M_X6_countTasks : Mx := ("TaskWeave$Shard", prog_8_method_7_code, 5, false)
theorem yk_X6_countTasks : Yk Y_X6_countTasks 1 := ⟨by decide +kernel, by decide +kernel, ⟨by decide, by decide⟩, by decide +kernel, by decide, trivial⟩
theorem d_X6_countTasks_0 : decode prog_8_method_7_code 0 = .ok (.iconst 0, 1) := by decide +kernel
theorem d_X6_countTasks_1 : decode prog_8_method_7_code 1 = .ok (.istore_n 2, 1) := by decide +kernel
theorem d_X6_countTasks_2 : decode prog_8_method_7_code 2 = .ok (.iconst 0, 1) := by decide +kernel
theorem d_X6_countTasks_3 : decode prog_8_method_7_code 3 = .ok (.istore_n 3, 1) := by decide +kernel
theorem d_X6_countTasks_4 : decode prog_8_method_7_code 4 = .ok (.iload_n 3, 1) := by decide +kernel
theorem d_X6_countTasks_5 : decode prog_8_method_7_code 5 = .ok (.aload_n 0, 1) := by decide +kernel
theorem d_X6_countTasks_6 : decode prog_8_method_7_code 6 = .ok (.getfield 56, 3) := by decide +kernel
theorem d_X6_countTasks_9 : decode prog_8_method_7_code 9 = .ok (.if_icmp .ge 60, 3) := by decide +kernel
theorem d_X6_countTasks_12 : decode prog_8_method_7_code 12 = .ok (.aload_n 0, 1) := by decide +kernel
theorem d_X6_countTasks_13 : decode prog_8_method_7_code 13 = .ok (.getfield 19, 3) := by decide +kernel
theorem d_X6_countTasks_16 : decode prog_8_method_7_code 16 = .ok (.iload_n 3, 1) := by decide +kernel
theorem d_X6_countTasks_17 : decode prog_8_method_7_code 17 = .ok (.aaload, 1) := by decide +kernel
theorem d_X6_countTasks_18 : decode prog_8_method_7_code 18 = .ok (.getfield 82, 3) := by decide +kernel
theorem d_X6_countTasks_21 : decode prog_8_method_7_code 21 = .ok (.ifCond .ne 26, 3) := by decide +kernel
theorem d_X6_countTasks_24 : decode prog_8_method_7_code 24 = .ok (.iload_n 1, 1) := by decide +kernel
theorem d_X6_countTasks_25 : decode prog_8_method_7_code 25 = .ok (.ifCond .eq 18, 3) := by decide +kernel
theorem d_X6_countTasks_28 : decode prog_8_method_7_code 28 = .ok (.aload_n 0, 1) := by decide +kernel
theorem d_X6_countTasks_29 : decode prog_8_method_7_code 29 = .ok (.getfield 19, 3) := by decide +kernel
theorem d_X6_countTasks_32 : decode prog_8_method_7_code 32 = .ok (.iload_n 3, 1) := by decide +kernel
theorem d_X6_countTasks_33 : decode prog_8_method_7_code 33 = .ok (.aaload, 1) := by decide +kernel
theorem d_X6_countTasks_34 : decode prog_8_method_7_code 34 = .ok (.getfield 85, 3) := by decide +kernel
theorem d_X6_countTasks_37 : decode prog_8_method_7_code 37 = .ok (.getfield 89, 3) := by decide +kernel
theorem d_X6_countTasks_40 : decode prog_8_method_7_code 40 = .ok (.ifCond .le 7, 3) := by decide +kernel
theorem d_X6_countTasks_43 : decode prog_8_method_7_code 43 = .ok (.iconst 1, 1) := by decide +kernel
theorem d_X6_countTasks_44 : decode prog_8_method_7_code 44 = .ok (.goto 4, 3) := by decide +kernel
theorem d_X6_countTasks_47 : decode prog_8_method_7_code 47 = .ok (.iconst 0, 1) := by decide +kernel
theorem d_X6_countTasks_48 : decode prog_8_method_7_code 48 = .ok (.istore 4, 2) := by decide +kernel
theorem d_X6_countTasks_50 : decode prog_8_method_7_code 50 = .ok (.iload_n 2, 1) := by decide +kernel
theorem d_X6_countTasks_51 : decode prog_8_method_7_code 51 = .ok (.iload 4, 2) := by decide +kernel
theorem d_X6_countTasks_53 : decode prog_8_method_7_code 53 = .ok (.ifCond .eq 7, 3) := by decide +kernel
theorem d_X6_countTasks_56 : decode prog_8_method_7_code 56 = .ok (.iconst 1, 1) := by decide +kernel
theorem d_X6_countTasks_57 : decode prog_8_method_7_code 57 = .ok (.goto 4, 3) := by decide +kernel
theorem d_X6_countTasks_60 : decode prog_8_method_7_code 60 = .ok (.iconst 0, 1) := by decide +kernel
theorem d_X6_countTasks_61 : decode prog_8_method_7_code 61 = .ok (.iadd, 1) := by decide +kernel
theorem d_X6_countTasks_62 : decode prog_8_method_7_code 62 = .ok (.istore_n 2, 1) := by decide +kernel
theorem d_X6_countTasks_63 : decode prog_8_method_7_code 63 = .ok (.iinc 3 1, 3) := by decide +kernel
theorem d_X6_countTasks_66 : decode prog_8_method_7_code 66 = .ok (.goto (-62), 3) := by decide +kernel
theorem d_X6_countTasks_69 : decode prog_8_method_7_code 69 = .ok (.iload_n 2, 1) := by decide +kernel
theorem d_X6_countTasks_70 : decode prog_8_method_7_code 70 = .ok (.ireturn, 1) := by decide +kernel
abbrev Y_X6_mostAreUp : Yx := (⟨"TaskWeave$Shard", "mostAreUp", "()Z"⟩, prog_8_method_8_code, 3, (some .boolean))
abbrev M_X6_mostAreUp : Mx := ("TaskWeave$Shard", prog_8_method_8_code, 3, false)
theorem yk_X6_mostAreUp : Yk Y_X6_mostAreUp 0 := ⟨by decide +kernel, by decide +kernel, ⟨by decide, by decide⟩, by decide +kernel, by decide, trivial⟩
theorem d_X6_mostAreUp_0 : decode prog_8_method_8_code 0 = .ok (.iconst 0, 1) := by decide +kernel
theorem d_X6_mostAreUp_1 : decode prog_8_method_8_code 1 = .ok (.istore_n 1, 1) := by decide +kernel
theorem d_X6_mostAreUp_2 : decode prog_8_method_8_code 2 = .ok (.iconst 0, 1) := by decide +kernel
theorem d_X6_mostAreUp_3 : decode prog_8_method_8_code 3 = .ok (.istore_n 2, 1) := by decide +kernel
theorem d_X6_mostAreUp_4 : decode prog_8_method_8_code 4 = .ok (.iload_n 2, 1) := by decide +kernel
theorem d_X6_mostAreUp_5 : decode prog_8_method_8_code 5 = .ok (.aload_n 0, 1) := by decide +kernel
theorem d_X6_mostAreUp_6 : decode prog_8_method_8_code 6 = .ok (.getfield 34, 3) := by decide +kernel
theorem d_X6_mostAreUp_9 : decode prog_8_method_8_code 9 = .ok (.if_icmp .ge 29, 3) := by decide +kernel
theorem d_X6_mostAreUp_12 : decode prog_8_method_8_code 12 = .ok (.iload_n 1, 1) := by decide +kernel
theorem d_X6_mostAreUp_13 : decode prog_8_method_8_code 13 = .ok (.aload_n 0, 1) := by decide +kernel
theorem d_X6_mostAreUp_14 : decode prog_8_method_8_code 14 = .ok (.getfield 11, 3) := by decide +kernel
theorem d_X6_mostAreUp_17 : decode prog_8_method_8_code 17 = .ok (.iload_n 2, 1) := by decide +kernel
theorem d_X6_mostAreUp_18 : decode prog_8_method_8_code 18 = .ok (.aaload, 1) := by decide +kernel
theorem d_X6_mostAreUp_19 : decode prog_8_method_8_code 19 = .ok (.getfield 94, 3) := by decide +kernel
theorem d_X6_mostAreUp_22 : decode prog_8_method_8_code 22 = .ok (.ifCond .eq 7, 3) := by decide +kernel
theorem d_X6_mostAreUp_25 : decode prog_8_method_8_code 25 = .ok (.iconst 1, 1) := by decide +kernel
theorem d_X6_mostAreUp_26 : decode prog_8_method_8_code 26 = .ok (.goto 4, 3) := by decide +kernel
theorem d_X6_mostAreUp_29 : decode prog_8_method_8_code 29 = .ok (.iconst 0, 1) := by decide +kernel
theorem d_X6_mostAreUp_30 : decode prog_8_method_8_code 30 = .ok (.iadd, 1) := by decide +kernel
theorem d_X6_mostAreUp_31 : decode prog_8_method_8_code 31 = .ok (.istore_n 1, 1) := by decide +kernel
theorem d_X6_mostAreUp_32 : decode prog_8_method_8_code 32 = .ok (.iinc 2 1, 3) := by decide +kernel
theorem d_X6_mostAreUp_35 : decode prog_8_method_8_code 35 = .ok (.goto (-31), 3) := by decide +kernel
theorem d_X6_mostAreUp_38 : decode prog_8_method_8_code 38 = .ok (.iconst 2, 1) := by decide +kernel
theorem d_X6_mostAreUp_39 : decode prog_8_method_8_code 39 = .ok (.iload_n 1, 1) := by decide +kernel
theorem d_X6_mostAreUp_40 : decode prog_8_method_8_code 40 = .ok (.imul, 1) := by decide +kernel
theorem d_X6_mostAreUp_41 : decode prog_8_method_8_code 41 = .ok (.aload_n 0, 1) := by decide +kernel
theorem d_X6_mostAreUp_42 : decode prog_8_method_8_code 42 = .ok (.getfield 34, 3) := by decide +kernel
theorem d_X6_mostAreUp_45 : decode prog_8_method_8_code 45 = .ok (.if_icmp .le 7, 3) := by decide +kernel
theorem d_X6_mostAreUp_48 : decode prog_8_method_8_code 48 = .ok (.iconst 1, 1) := by decide +kernel
theorem d_X6_mostAreUp_49 : decode prog_8_method_8_code 49 = .ok (.goto 4, 3) := by decide +kernel
theorem d_X6_mostAreUp_52 : decode prog_8_method_8_code 52 = .ok (.iconst 0, 1) := by decide +kernel
theorem d_X6_mostAreUp_53 : decode prog_8_method_8_code 53 = .ok (.ireturn, 1) := by decide +kernel
abbrev Y_X6_loseLeader : Yx := (⟨"TaskWeave$Shard", "loseLeader", "()V"⟩, prog_8_method_9_code, 2, none)
abbrev M_X6_loseLeader : Mx := ("TaskWeave$Shard", prog_8_method_9_code, 2, false)
theorem yk_X6_loseLeader : Yk Y_X6_loseLeader 0 := ⟨by decide +kernel, by decide +kernel, ⟨by decide, by decide⟩, by decide +kernel, by decide, trivial⟩
theorem d_X6_loseLeader_0 : decode prog_8_method_9_code 0 = .ok (.aload_n 0, 1) := by decide +kernel
theorem d_X6_loseLeader_1 : decode prog_8_method_9_code 1 = .ok (.iconst (-1), 1) := by decide +kernel
theorem d_X6_loseLeader_2 : decode prog_8_method_9_code 2 = .ok (.putfield 53, 3) := by decide +kernel
theorem d_X6_loseLeader_5 : decode prog_8_method_9_code 5 = .ok (.iconst 0, 1) := by decide +kernel
theorem d_X6_loseLeader_6 : decode prog_8_method_9_code 6 = .ok (.istore_n 1, 1) := by decide +kernel
theorem d_X6_loseLeader_7 : decode prog_8_method_9_code 7 = .ok (.iload_n 1, 1) := by decide +kernel
theorem d_X6_loseLeader_8 : decode prog_8_method_9_code 8 = .ok (.aload_n 0, 1) := by decide +kernel
theorem d_X6_loseLeader_9 : decode prog_8_method_9_code 9 = .ok (.getfield 56, 3) := by decide +kernel
theorem d_X6_loseLeader_12 : decode prog_8_method_9_code 12 = .ok (.if_icmp .ge 22, 3) := by decide +kernel
theorem d_X6_loseLeader_15 : decode prog_8_method_9_code 15 = .ok (.aload_n 0, 1) := by decide +kernel
theorem d_X6_loseLeader_16 : decode prog_8_method_9_code 16 = .ok (.getfield 19, 3) := by decide +kernel
theorem d_X6_loseLeader_19 : decode prog_8_method_9_code 19 = .ok (.iload_n 1, 1) := by decide +kernel
theorem d_X6_loseLeader_20 : decode prog_8_method_9_code 20 = .ok (.aaload, 1) := by decide +kernel
theorem d_X6_loseLeader_21 : decode prog_8_method_9_code 21 = .ok (.getfield 85, 3) := by decide +kernel
theorem d_X6_loseLeader_24 : decode prog_8_method_9_code 24 = .ok (.iconst 0, 1) := by decide +kernel
theorem d_X6_loseLeader_25 : decode prog_8_method_9_code 25 = .ok (.putfield 89, 3) := by decide +kernel
theorem d_X6_loseLeader_28 : decode prog_8_method_9_code 28 = .ok (.iinc 1 1, 3) := by decide +kernel
theorem d_X6_loseLeader_31 : decode prog_8_method_9_code 31 = .ok (.goto (-24), 3) := by decide +kernel
theorem d_X6_loseLeader_34 : decode prog_8_method_9_code 34 = .ok (.return_, 1) := by decide +kernel
abbrev Y_X6_commit : Yx := (⟨"TaskWeave$Shard", "commit", "(IIIII)Z"⟩, prog_8_method_10_code, 8, (some .boolean))
abbrev M_X6_commit : Mx := ("TaskWeave$Shard", prog_8_method_10_code, 8, false)
theorem yk_X6_commit : Yk Y_X6_commit 5 := ⟨by decide +kernel, by decide +kernel, ⟨by decide, by decide⟩, by decide +kernel, by decide, trivial⟩
theorem d_X6_commit_0 : decode prog_8_method_10_code 0 = .ok (.aload_n 0, 1) := by decide +kernel
theorem d_X6_commit_1 : decode prog_8_method_10_code 1 = .ok (.dup, 1) := by decide +kernel
theorem d_X6_commit_2 : decode prog_8_method_10_code 2 = .ok (.getfield 98, 3) := by decide +kernel
theorem d_X6_commit_5 : decode prog_8_method_10_code 5 = .ok (.lconst 1, 1) := by decide +kernel
theorem d_X6_commit_6 : decode prog_8_method_10_code 6 = .ok (.ladd, 1) := by decide +kernel
theorem d_X6_commit_7 : decode prog_8_method_10_code 7 = .ok (.putfield 98, 3) := by decide +kernel
theorem d_X6_commit_10 : decode prog_8_method_10_code 10 = .ok (.aload_n 0, 1) := by decide +kernel
theorem d_X6_commit_11 : decode prog_8_method_10_code 11 = .ok (.getfield 23, 3) := by decide +kernel
theorem d_X6_commit_14 : decode prog_8_method_10_code 14 = .ok (.iconst 0, 1) := by decide +kernel
theorem d_X6_commit_15 : decode prog_8_method_10_code 15 = .ok (.bipush 16, 2) := by decide +kernel
theorem d_X6_commit_17 : decode prog_8_method_10_code 17 = .ok (.iload_n 2, 1) := by decide +kernel
theorem d_X6_commit_18 : decode prog_8_method_10_code 18 = .ok (.imul, 1) := by decide +kernel
theorem d_X6_commit_19 : decode prog_8_method_10_code 19 = .ok (.iload_n 1, 1) := by decide +kernel
theorem d_X6_commit_20 : decode prog_8_method_10_code 20 = .ok (.iadd, 1) := by decide +kernel
theorem d_X6_commit_21 : decode prog_8_method_10_code 21 = .ok (.i2b, 1) := by decide +kernel
theorem d_X6_commit_22 : decode prog_8_method_10_code 22 = .ok (.bastore, 1) := by decide +kernel
theorem d_X6_commit_23 : decode prog_8_method_10_code 23 = .ok (.aload_n 0, 1) := by decide +kernel
theorem d_X6_commit_24 : decode prog_8_method_10_code 24 = .ok (.getfield 23, 3) := by decide +kernel
theorem d_X6_commit_27 : decode prog_8_method_10_code 27 = .ok (.iconst 1, 1) := by decide +kernel
theorem d_X6_commit_28 : decode prog_8_method_10_code 28 = .ok (.aload_n 0, 1) := by decide +kernel
theorem d_X6_commit_29 : decode prog_8_method_10_code 29 = .ok (.getfield 102, 3) := by decide +kernel
theorem d_X6_commit_32 : decode prog_8_method_10_code 32 = .ok (.bipush 8, 2) := by decide +kernel
theorem d_X6_commit_34 : decode prog_8_method_10_code 34 = .ok (.ishr, 1) := by decide +kernel
theorem d_X6_commit_35 : decode prog_8_method_10_code 35 = .ok (.i2b, 1) := by decide +kernel
theorem d_X6_commit_36 : decode prog_8_method_10_code 36 = .ok (.bastore, 1) := by decide +kernel
theorem d_X6_commit_37 : decode prog_8_method_10_code 37 = .ok (.aload_n 0, 1) := by decide +kernel
theorem d_X6_commit_38 : decode prog_8_method_10_code 38 = .ok (.getfield 23, 3) := by decide +kernel
theorem d_X6_commit_41 : decode prog_8_method_10_code 41 = .ok (.iconst 2, 1) := by decide +kernel
theorem d_X6_commit_42 : decode prog_8_method_10_code 42 = .ok (.aload_n 0, 1) := by decide +kernel
theorem d_X6_commit_43 : decode prog_8_method_10_code 43 = .ok (.getfield 102, 3) := by decide +kernel
theorem d_X6_commit_46 : decode prog_8_method_10_code 46 = .ok (.i2b, 1) := by decide +kernel
theorem d_X6_commit_47 : decode prog_8_method_10_code 47 = .ok (.bastore, 1) := by decide +kernel
theorem d_X6_commit_48 : decode prog_8_method_10_code 48 = .ok (.iconst 0, 1) := by decide +kernel
theorem d_X6_commit_49 : decode prog_8_method_10_code 49 = .ok (.istore 6, 2) := by decide +kernel
theorem d_X6_commit_51 : decode prog_8_method_10_code 51 = .ok (.iload 6, 2) := by decide +kernel
theorem d_X6_commit_53 : decode prog_8_method_10_code 53 = .ok (.iconst 4, 1) := by decide +kernel
theorem d_X6_commit_54 : decode prog_8_method_10_code 54 = .ok (.if_icmp .ge 65, 3) := by decide +kernel
theorem d_X6_commit_57 : decode prog_8_method_10_code 57 = .ok (.bipush 24, 2) := by decide +kernel
theorem d_X6_commit_59 : decode prog_8_method_10_code 59 = .ok (.bipush 8, 2) := by decide +kernel
theorem d_X6_commit_61 : decode prog_8_method_10_code 61 = .ok (.iload 6, 2) := by decide +kernel
theorem d_X6_commit_63 : decode prog_8_method_10_code 63 = .ok (.imul, 1) := by decide +kernel
theorem d_X6_commit_64 : decode prog_8_method_10_code 64 = .ok (.isub, 1) := by decide +kernel
theorem d_X6_commit_65 : decode prog_8_method_10_code 65 = .ok (.istore 7, 2) := by decide +kernel
theorem d_X6_commit_67 : decode prog_8_method_10_code 67 = .ok (.aload_n 0, 1) := by decide +kernel
theorem d_X6_commit_68 : decode prog_8_method_10_code 68 = .ok (.getfield 23, 3) := by decide +kernel
theorem d_X6_commit_71 : decode prog_8_method_10_code 71 = .ok (.iconst 3, 1) := by decide +kernel
theorem d_X6_commit_72 : decode prog_8_method_10_code 72 = .ok (.iload 6, 2) := by decide +kernel
theorem d_X6_commit_74 : decode prog_8_method_10_code 74 = .ok (.iadd, 1) := by decide +kernel
theorem d_X6_commit_75 : decode prog_8_method_10_code 75 = .ok (.iload_n 3, 1) := by decide +kernel
theorem d_X6_commit_76 : decode prog_8_method_10_code 76 = .ok (.iload 7, 2) := by decide +kernel
theorem d_X6_commit_78 : decode prog_8_method_10_code 78 = .ok (.ishr, 1) := by decide +kernel
theorem d_X6_commit_79 : decode prog_8_method_10_code 79 = .ok (.i2b, 1) := by decide +kernel
theorem d_X6_commit_80 : decode prog_8_method_10_code 80 = .ok (.bastore, 1) := by decide +kernel
theorem d_X6_commit_81 : decode prog_8_method_10_code 81 = .ok (.aload_n 0, 1) := by decide +kernel
theorem d_X6_commit_82 : decode prog_8_method_10_code 82 = .ok (.getfield 23, 3) := by decide +kernel
theorem d_X6_commit_85 : decode prog_8_method_10_code 85 = .ok (.bipush 7, 2) := by decide +kernel
theorem d_X6_commit_87 : decode prog_8_method_10_code 87 = .ok (.iload 6, 2) := by decide +kernel
theorem d_X6_commit_89 : decode prog_8_method_10_code 89 = .ok (.iadd, 1) := by decide +kernel
theorem d_X6_commit_90 : decode prog_8_method_10_code 90 = .ok (.iload 4, 2) := by decide +kernel
theorem d_X6_commit_92 : decode prog_8_method_10_code 92 = .ok (.iload 7, 2) := by decide +kernel
theorem d_X6_commit_94 : decode prog_8_method_10_code 94 = .ok (.ishr, 1) := by decide +kernel
theorem d_X6_commit_95 : decode prog_8_method_10_code 95 = .ok (.i2b, 1) := by decide +kernel
theorem d_X6_commit_96 : decode prog_8_method_10_code 96 = .ok (.bastore, 1) := by decide +kernel
theorem d_X6_commit_97 : decode prog_8_method_10_code 97 = .ok (.aload_n 0, 1) := by decide +kernel
theorem d_X6_commit_98 : decode prog_8_method_10_code 98 = .ok (.getfield 23, 3) := by decide +kernel
theorem d_X6_commit_101 : decode prog_8_method_10_code 101 = .ok (.bipush 11, 2) := by decide +kernel
theorem d_X6_commit_103 : decode prog_8_method_10_code 103 = .ok (.iload 6, 2) := by decide +kernel
theorem d_X6_commit_105 : decode prog_8_method_10_code 105 = .ok (.iadd, 1) := by decide +kernel
theorem d_X6_commit_106 : decode prog_8_method_10_code 106 = .ok (.iload 5, 2) := by decide +kernel
theorem d_X6_commit_108 : decode prog_8_method_10_code 108 = .ok (.iload 7, 2) := by decide +kernel
theorem d_X6_commit_110 : decode prog_8_method_10_code 110 = .ok (.ishr, 1) := by decide +kernel
theorem d_X6_commit_111 : decode prog_8_method_10_code 111 = .ok (.i2b, 1) := by decide +kernel
theorem d_X6_commit_112 : decode prog_8_method_10_code 112 = .ok (.bastore, 1) := by decide +kernel
theorem d_X6_commit_113 : decode prog_8_method_10_code 113 = .ok (.iinc 6 1, 3) := by decide +kernel
theorem d_X6_commit_116 : decode prog_8_method_10_code 116 = .ok (.goto (-65), 3) := by decide +kernel
theorem d_X6_commit_119 : decode prog_8_method_10_code 119 = .ok (.aload_n 0, 1) := by decide +kernel
theorem d_X6_commit_120 : decode prog_8_method_10_code 120 = .ok (.getfield 23, 3) := by decide +kernel
theorem d_X6_commit_123 : decode prog_8_method_10_code 123 = .ok (.bipush 15, 2) := by decide +kernel
theorem d_X6_commit_125 : decode prog_8_method_10_code 125 = .ok (.iconst 1, 1) := by decide +kernel
theorem d_X6_commit_126 : decode prog_8_method_10_code 126 = .ok (.bastore, 1) := by decide +kernel
theorem d_X6_commit_127 : decode prog_8_method_10_code 127 = .ok (.aload_n 0, 1) := by decide +kernel
theorem d_X6_commit_128 : decode prog_8_method_10_code 128 = .ok (.getfield 53, 3) := by decide +kernel
theorem d_X6_commit_131 : decode prog_8_method_10_code 131 = .ok (.iconst (-1), 1) := by decide +kernel
theorem d_X6_commit_132 : decode prog_8_method_10_code 132 = .ok (.if_icmp .eq 7, 3) := by decide +kernel
theorem d_X6_commit_135 : decode prog_8_method_10_code 135 = .ok (.iconst 1, 1) := by decide +kernel
theorem d_X6_commit_136 : decode prog_8_method_10_code 136 = .ok (.goto 4, 3) := by decide +kernel
theorem d_X6_commit_139 : decode prog_8_method_10_code 139 = .ok (.iconst 0, 1) := by decide +kernel
theorem d_X6_commit_140 : decode prog_8_method_10_code 140 = .ok (.istore 6, 2) := by decide +kernel
theorem d_X6_commit_142 : decode prog_8_method_10_code 142 = .ok (.iload 6, 2) := by decide +kernel
theorem d_X6_commit_144 : decode prog_8_method_10_code 144 = .ok (.ifCond .eq 36, 3) := by decide +kernel
theorem d_X6_commit_147 : decode prog_8_method_10_code 147 = .ok (.aload_n 0, 1) := by decide +kernel
theorem d_X6_commit_148 : decode prog_8_method_10_code 148 = .ok (.getfield 11, 3) := by decide +kernel
theorem d_X6_commit_151 : decode prog_8_method_10_code 151 = .ok (.aload_n 0, 1) := by decide +kernel
theorem d_X6_commit_152 : decode prog_8_method_10_code 152 = .ok (.getfield 53, 3) := by decide +kernel
theorem d_X6_commit_155 : decode prog_8_method_10_code 155 = .ok (.aaload, 1) := by decide +kernel
theorem d_X6_commit_156 : decode prog_8_method_10_code 156 = .ok (.aload_n 0, 1) := by decide +kernel
theorem d_X6_commit_157 : decode prog_8_method_10_code 157 = .ok (.getfield 23, 3) := by decide +kernel
theorem d_X6_commit_160 : decode prog_8_method_10_code 160 = .ok (.iconst 0, 1) := by decide +kernel
theorem d_X6_commit_161 : decode prog_8_method_10_code 161 = .ok (.bipush 16, 2) := by decide +kernel
theorem d_X6_commit_163 : decode prog_8_method_10_code 163 = .ok (.invokevirtual 105, 3) := by decide +kernel
theorem d_X6_commit_166 : decode prog_8_method_10_code 166 = .ok (.aload_n 0, 1) := by decide +kernel
theorem d_X6_commit_167 : decode prog_8_method_10_code 167 = .ok (.getfield 11, 3) := by decide +kernel
theorem d_X6_commit_170 : decode prog_8_method_10_code 170 = .ok (.aload_n 0, 1) := by decide +kernel
theorem d_X6_commit_171 : decode prog_8_method_10_code 171 = .ok (.getfield 53, 3) := by decide +kernel
theorem d_X6_commit_174 : decode prog_8_method_10_code 174 = .ok (.aaload, 1) := by decide +kernel
theorem d_X6_commit_175 : decode prog_8_method_10_code 175 = .ok (.getfield 94, 3) := by decide +kernel
theorem d_X6_commit_178 : decode prog_8_method_10_code 178 = .ok (.istore 6, 2) := by decide +kernel
theorem d_X6_commit_180 : decode prog_8_method_10_code 180 = .ok (.iconst 0, 1) := by decide +kernel
theorem d_X6_commit_181 : decode prog_8_method_10_code 181 = .ok (.istore 7, 2) := by decide +kernel
theorem d_X6_commit_183 : decode prog_8_method_10_code 183 = .ok (.iload 7, 2) := by decide +kernel
theorem d_X6_commit_185 : decode prog_8_method_10_code 185 = .ok (.aload_n 0, 1) := by decide +kernel
theorem d_X6_commit_186 : decode prog_8_method_10_code 186 = .ok (.getfield 34, 3) := by decide +kernel
theorem d_X6_commit_189 : decode prog_8_method_10_code 189 = .ok (.if_icmp .ge 40, 3) := by decide +kernel
theorem d_X6_commit_192 : decode prog_8_method_10_code 192 = .ok (.iload 6, 2) := by decide +kernel
theorem d_X6_commit_194 : decode prog_8_method_10_code 194 = .ok (.ifCond .eq 35, 3) := by decide +kernel
theorem d_X6_commit_197 : decode prog_8_method_10_code 197 = .ok (.iload 7, 2) := by decide +kernel
theorem d_X6_commit_199 : decode prog_8_method_10_code 199 = .ok (.aload_n 0, 1) := by decide +kernel
theorem d_X6_commit_200 : decode prog_8_method_10_code 200 = .ok (.getfield 53, 3) := by decide +kernel
theorem d_X6_commit_203 : decode prog_8_method_10_code 203 = .ok (.if_icmp .eq 20, 3) := by decide +kernel
theorem d_X6_commit_206 : decode prog_8_method_10_code 206 = .ok (.aload_n 0, 1) := by decide +kernel
theorem d_X6_commit_207 : decode prog_8_method_10_code 207 = .ok (.getfield 11, 3) := by decide +kernel
theorem d_X6_commit_210 : decode prog_8_method_10_code 210 = .ok (.iload 7, 2) := by decide +kernel
theorem d_X6_commit_212 : decode prog_8_method_10_code 212 = .ok (.aaload, 1) := by decide +kernel
theorem d_X6_commit_213 : decode prog_8_method_10_code 213 = .ok (.aload_n 0, 1) := by decide +kernel
theorem d_X6_commit_214 : decode prog_8_method_10_code 214 = .ok (.getfield 23, 3) := by decide +kernel
theorem d_X6_commit_217 : decode prog_8_method_10_code 217 = .ok (.iconst 0, 1) := by decide +kernel
theorem d_X6_commit_218 : decode prog_8_method_10_code 218 = .ok (.bipush 16, 2) := by decide +kernel
theorem d_X6_commit_220 : decode prog_8_method_10_code 220 = .ok (.invokevirtual 105, 3) := by decide +kernel
theorem d_X6_commit_223 : decode prog_8_method_10_code 223 = .ok (.iinc 7 1, 3) := by decide +kernel
theorem d_X6_commit_226 : decode prog_8_method_10_code 226 = .ok (.goto (-43), 3) := by decide +kernel
theorem d_X6_commit_229 : decode prog_8_method_10_code 229 = .ok (.iload 6, 2) := by decide +kernel
theorem d_X6_commit_231 : decode prog_8_method_10_code 231 = .ok (.ifCond .eq 12, 3) := by decide +kernel
theorem d_X6_commit_234 : decode prog_8_method_10_code 234 = .ok (.aload_n 0, 1) := by decide +kernel
theorem d_X6_commit_235 : decode prog_8_method_10_code 235 = .ok (.invokevirtual 109, 3) := by decide +kernel
theorem d_X6_commit_238 : decode prog_8_method_10_code 238 = .ok (.ifCond .eq 5, 3) := by decide +kernel
theorem d_X6_commit_241 : decode prog_8_method_10_code 241 = .ok (.iconst 1, 1) := by decide +kernel
theorem d_X6_commit_242 : decode prog_8_method_10_code 242 = .ok (.ireturn, 1) := by decide +kernel
theorem d_X6_commit_243 : decode prog_8_method_10_code 243 = .ok (.aload_n 0, 1) := by decide +kernel
theorem d_X6_commit_244 : decode prog_8_method_10_code 244 = .ok (.invokevirtual 112, 3) := by decide +kernel
theorem d_X6_commit_247 : decode prog_8_method_10_code 247 = .ok (.iconst 0, 1) := by decide +kernel
theorem d_X6_commit_248 : decode prog_8_method_10_code 248 = .ok (.ireturn, 1) := by decide +kernel
abbrev Y_X9_isMessage : Yx := (⟨"TaskWeave$Workflow", "isMessage", "(I)Z"⟩, prog_11_method_9_code, 2, (some .boolean))
abbrev M_X9_isMessage : Mx := ("TaskWeave$Workflow", prog_11_method_9_code, 2, false)
theorem yk_X9_isMessage : Yk Y_X9_isMessage 1 := ⟨by decide +kernel, by decide +kernel, ⟨by decide, by decide⟩, by decide +kernel, by decide, trivial⟩
theorem d_X9_isMessage_0 : decode prog_11_method_9_code 0 = .ok (.iload_n 1, 1) := by decide +kernel
theorem d_X9_isMessage_1 : decode prog_11_method_9_code 1 = .ok (.bipush 6, 2) := by decide +kernel
theorem d_X9_isMessage_3 : decode prog_11_method_9_code 3 = .ok (.if_icmp .eq 27, 3) := by decide +kernel
theorem d_X9_isMessage_6 : decode prog_11_method_9_code 6 = .ok (.iload_n 1, 1) := by decide +kernel
theorem d_X9_isMessage_7 : decode prog_11_method_9_code 7 = .ok (.bipush 9, 2) := by decide +kernel
theorem d_X9_isMessage_9 : decode prog_11_method_9_code 9 = .ok (.if_icmp .eq 21, 3) := by decide +kernel
theorem d_X9_isMessage_12 : decode prog_11_method_9_code 12 = .ok (.iload_n 1, 1) := by decide +kernel
theorem d_X9_isMessage_13 : decode prog_11_method_9_code 13 = .ok (.bipush 10, 2) := by decide +kernel
theorem d_X9_isMessage_15 : decode prog_11_method_9_code 15 = .ok (.if_icmp .lt 19, 3) := by decide +kernel
theorem d_X9_isMessage_18 : decode prog_11_method_9_code 18 = .ok (.aload_n 0, 1) := by decide +kernel
theorem d_X9_isMessage_19 : decode prog_11_method_9_code 19 = .ok (.getfield 18, 3) := by decide +kernel
theorem d_X9_isMessage_22 : decode prog_11_method_9_code 22 = .ok (.getfield 71, 3) := by decide +kernel
theorem d_X9_isMessage_25 : decode prog_11_method_9_code 25 = .ok (.iconst 0, 1) := by decide +kernel
theorem d_X9_isMessage_26 : decode prog_11_method_9_code 26 = .ok (.iaload, 1) := by decide +kernel
theorem d_X9_isMessage_27 : decode prog_11_method_9_code 27 = .ok (.ifCond .ge 7, 3) := by decide +kernel
theorem d_X9_isMessage_30 : decode prog_11_method_9_code 30 = .ok (.iconst 1, 1) := by decide +kernel
theorem d_X9_isMessage_31 : decode prog_11_method_9_code 31 = .ok (.goto 4, 3) := by decide +kernel
theorem d_X9_isMessage_34 : decode prog_11_method_9_code 34 = .ok (.iconst 0, 1) := by decide +kernel
theorem d_X9_isMessage_35 : decode prog_11_method_9_code 35 = .ok (.ireturn, 1) := by decide +kernel
abbrev Y_X8_open : Yx := (⟨"TaskWeave$Task", "open", "(III)V"⟩, prog_10_method_2_code, 4, none)
abbrev M_X8_open : Mx := ("TaskWeave$Task", prog_10_method_2_code, 4, false)
theorem yk_X8_open : Yk Y_X8_open 3 := ⟨by decide +kernel, by decide +kernel, ⟨by decide, by decide⟩, by decide +kernel, by decide, trivial⟩
theorem d_X8_open_0 : decode prog_10_method_2_code 0 = .ok (.aload_n 0, 1) := by decide +kernel
theorem d_X8_open_1 : decode prog_10_method_2_code 1 = .ok (.iload_n 1, 1) := by decide +kernel
theorem d_X8_open_2 : decode prog_10_method_2_code 2 = .ok (.putfield 7, 3) := by decide +kernel
theorem d_X8_open_5 : decode prog_10_method_2_code 5 = .ok (.aload_n 0, 1) := by decide +kernel
theorem d_X8_open_6 : decode prog_10_method_2_code 6 = .ok (.iload_n 2, 1) := by decide +kernel
theorem d_X8_open_7 : decode prog_10_method_2_code 7 = .ok (.putfield 13, 3) := by decide +kernel
theorem d_X8_open_10 : decode prog_10_method_2_code 10 = .ok (.aload_n 0, 1) := by decide +kernel
theorem d_X8_open_11 : decode prog_10_method_2_code 11 = .ok (.iconst 1, 1) := by decide +kernel
theorem d_X8_open_12 : decode prog_10_method_2_code 12 = .ok (.putfield 16, 3) := by decide +kernel
theorem d_X8_open_15 : decode prog_10_method_2_code 15 = .ok (.aload_n 0, 1) := by decide +kernel
theorem d_X8_open_16 : decode prog_10_method_2_code 16 = .ok (.iload_n 3, 1) := by decide +kernel
theorem d_X8_open_17 : decode prog_10_method_2_code 17 = .ok (.putfield 19, 3) := by decide +kernel
theorem d_X8_open_20 : decode prog_10_method_2_code 20 = .ok (.aload_n 0, 1) := by decide +kernel
theorem d_X8_open_21 : decode prog_10_method_2_code 21 = .ok (.iconst 0, 1) := by decide +kernel
theorem d_X8_open_22 : decode prog_10_method_2_code 22 = .ok (.putfield 22, 3) := by decide +kernel
theorem d_X8_open_25 : decode prog_10_method_2_code 25 = .ok (.return_, 1) := by decide +kernel
abbrev Y_X9_leave : Yx := (⟨"TaskWeave$Workflow", "leave", "(I)V"⟩, prog_11_method_17_code, 2, none)
abbrev M_X9_leave : Mx := ("TaskWeave$Workflow", prog_11_method_17_code, 2, false)
theorem yk_X9_leave : Yk Y_X9_leave 1 := ⟨by decide +kernel, by decide +kernel, ⟨by decide, by decide⟩, by decide +kernel, by decide, trivial⟩
theorem d_X9_leave_0 : decode prog_11_method_17_code 0 = .ok (.aload_n 0, 1) := by decide +kernel
theorem d_X9_leave_1 : decode prog_11_method_17_code 1 = .ok (.iload_n 1, 1) := by decide +kernel
theorem d_X9_leave_2 : decode prog_11_method_17_code 2 = .ok (.putfield 53, 3) := by decide +kernel
theorem d_X9_leave_5 : decode prog_11_method_17_code 5 = .ok (.aload_n 0, 1) := by decide +kernel
theorem d_X9_leave_6 : decode prog_11_method_17_code 6 = .ok (.dup, 1) := by decide +kernel
theorem d_X9_leave_7 : decode prog_11_method_17_code 7 = .ok (.getfield 56, 3) := by decide +kernel
theorem d_X9_leave_10 : decode prog_11_method_17_code 10 = .ok (.iconst 1, 1) := by decide +kernel
theorem d_X9_leave_11 : decode prog_11_method_17_code 11 = .ok (.iadd, 1) := by decide +kernel
theorem d_X9_leave_12 : decode prog_11_method_17_code 12 = .ok (.putfield 56, 3) := by decide +kernel
theorem d_X9_leave_15 : decode prog_11_method_17_code 15 = .ok (.return_, 1) := by decide +kernel
abbrev Y_X9_rest : Yx := (⟨"TaskWeave$Workflow", "rest", "(II)V"⟩, prog_11_method_19_code, 3, none)
abbrev M_X9_rest : Mx := ("TaskWeave$Workflow", prog_11_method_19_code, 3, false)
theorem yk_X9_rest : Yk Y_X9_rest 2 := ⟨by decide +kernel, by decide +kernel, ⟨by decide, by decide⟩, by decide +kernel, by decide, trivial⟩
theorem d_X9_rest_0 : decode prog_11_method_19_code 0 = .ok (.aload_n 0, 1) := by decide +kernel
theorem d_X9_rest_1 : decode prog_11_method_19_code 1 = .ok (.iload_n 1, 1) := by decide +kernel
theorem d_X9_rest_2 : decode prog_11_method_19_code 2 = .ok (.putfield 59, 3) := by decide +kernel
theorem d_X9_rest_5 : decode prog_11_method_19_code 5 = .ok (.aload_n 0, 1) := by decide +kernel
theorem d_X9_rest_6 : decode prog_11_method_19_code 6 = .ok (.iload_n 2, 1) := by decide +kernel
theorem d_X9_rest_7 : decode prog_11_method_19_code 7 = .ok (.putfield 96, 3) := by decide +kernel
theorem d_X9_rest_10 : decode prog_11_method_19_code 10 = .ok (.return_, 1) := by decide +kernel
abbrev Y_X9_resume : Yx := (⟨"TaskWeave$Workflow", "resume", "()V"⟩, prog_11_method_20_code, 1, none)
abbrev M_X9_resume : Mx := ("TaskWeave$Workflow", prog_11_method_20_code, 1, false)
theorem yk_X9_resume : Yk Y_X9_resume 0 := ⟨by decide +kernel, by decide +kernel, ⟨by decide, by decide⟩, by decide +kernel, by decide, trivial⟩
theorem d_X9_resume_0 : decode prog_11_method_20_code 0 = .ok (.aload_n 0, 1) := by decide +kernel
theorem d_X9_resume_1 : decode prog_11_method_20_code 1 = .ok (.iconst 0, 1) := by decide +kernel
theorem d_X9_resume_2 : decode prog_11_method_20_code 2 = .ok (.putfield 56, 3) := by decide +kernel
theorem d_X9_resume_5 : decode prog_11_method_20_code 5 = .ok (.aload_n 0, 1) := by decide +kernel
theorem d_X9_resume_6 : decode prog_11_method_20_code 6 = .ok (.iconst 5, 1) := by decide +kernel
theorem d_X9_resume_7 : decode prog_11_method_20_code 7 = .ok (.putfield 59, 3) := by decide +kernel
theorem d_X9_resume_10 : decode prog_11_method_20_code 10 = .ok (.return_, 1) := by decide +kernel
abbrev Y_X9_set : Yx := (⟨"TaskWeave$Workflow", "set", "(I)V"⟩, prog_11_method_18_code, 2, none)
abbrev M_X9_set : Mx := ("TaskWeave$Workflow", prog_11_method_18_code, 2, false)
theorem yk_X9_set : Yk Y_X9_set 1 := ⟨by decide +kernel, by decide +kernel, ⟨by decide, by decide⟩, by decide +kernel, by decide, trivial⟩
theorem d_X9_set_0 : decode prog_11_method_18_code 0 = .ok (.aload_n 0, 1) := by decide +kernel
theorem d_X9_set_1 : decode prog_11_method_18_code 1 = .ok (.getfield 33, 3) := by decide +kernel
theorem d_X9_set_4 : decode prog_11_method_18_code 4 = .ok (.ifnull 40, 3) := by decide +kernel
theorem d_X9_set_7 : decode prog_11_method_18_code 7 = .ok (.aload_n 0, 1) := by decide +kernel
theorem d_X9_set_8 : decode prog_11_method_18_code 8 = .ok (.getfield 53, 3) := by decide +kernel
theorem d_X9_set_11 : decode prog_11_method_18_code 11 = .ok (.aload_n 0, 1) := by decide +kernel
theorem d_X9_set_12 : decode prog_11_method_18_code 12 = .ok (.getfield 33, 3) := by decide +kernel
theorem d_X9_set_15 : decode prog_11_method_18_code 15 = .ok (.getfield 109, 3) := by decide +kernel
theorem d_X9_set_18 : decode prog_11_method_18_code 18 = .ok (.if_icmp .ge 26, 3) := by decide +kernel
theorem d_X9_set_21 : decode prog_11_method_18_code 21 = .ok (.aload_n 0, 1) := by decide +kernel
theorem d_X9_set_22 : decode prog_11_method_18_code 22 = .ok (.getfield 9, 3) := by decide +kernel
theorem d_X9_set_25 : decode prog_11_method_18_code 25 = .ok (.aload_n 0, 1) := by decide +kernel
theorem d_X9_set_26 : decode prog_11_method_18_code 26 = .ok (.getfield 33, 3) := by decide +kernel
theorem d_X9_set_29 : decode prog_11_method_18_code 29 = .ok (.getfield 121, 3) := by decide +kernel
theorem d_X9_set_32 : decode prog_11_method_18_code 32 = .ok (.aload_n 0, 1) := by decide +kernel
theorem d_X9_set_33 : decode prog_11_method_18_code 33 = .ok (.getfield 53, 3) := by decide +kernel
theorem d_X9_set_36 : decode prog_11_method_18_code 36 = .ok (.bipush 8, 2) := by decide +kernel
theorem d_X9_set_38 : decode prog_11_method_18_code 38 = .ok (.imul, 1) := by decide +kernel
theorem d_X9_set_39 : decode prog_11_method_18_code 39 = .ok (.iconst 1, 1) := by decide +kernel
theorem d_X9_set_40 : decode prog_11_method_18_code 40 = .ok (.iadd, 1) := by decide +kernel
theorem d_X9_set_41 : decode prog_11_method_18_code 41 = .ok (.iaload, 1) := by decide +kernel
theorem d_X9_set_42 : decode prog_11_method_18_code 42 = .ok (.iload_n 1, 1) := by decide +kernel
theorem d_X9_set_43 : decode prog_11_method_18_code 43 = .ok (.iastore, 1) := by decide +kernel
theorem d_X9_set_44 : decode prog_11_method_18_code 44 = .ok (.aload_n 0, 1) := by decide +kernel
theorem d_X9_set_45 : decode prog_11_method_18_code 45 = .ok (.dup, 1) := by decide +kernel
theorem d_X9_set_46 : decode prog_11_method_18_code 46 = .ok (.getfield 53, 3) := by decide +kernel
theorem d_X9_set_49 : decode prog_11_method_18_code 49 = .ok (.iconst 1, 1) := by decide +kernel
theorem d_X9_set_50 : decode prog_11_method_18_code 50 = .ok (.iadd, 1) := by decide +kernel
theorem d_X9_set_51 : decode prog_11_method_18_code 51 = .ok (.putfield 53, 3) := by decide +kernel
theorem d_X9_set_54 : decode prog_11_method_18_code 54 = .ok (.aload_n 0, 1) := by decide +kernel
theorem d_X9_set_55 : decode prog_11_method_18_code 55 = .ok (.dup, 1) := by decide +kernel
theorem d_X9_set_56 : decode prog_11_method_18_code 56 = .ok (.getfield 56, 3) := by decide +kernel
theorem d_X9_set_59 : decode prog_11_method_18_code 59 = .ok (.iconst 1, 1) := by decide +kernel
theorem d_X9_set_60 : decode prog_11_method_18_code 60 = .ok (.iadd, 1) := by decide +kernel
theorem d_X9_set_61 : decode prog_11_method_18_code 61 = .ok (.putfield 56, 3) := by decide +kernel
theorem d_X9_set_64 : decode prog_11_method_18_code 64 = .ok (.return_, 1) := by decide +kernel
abbrev Y_X9_take : Yx := (⟨"TaskWeave$Workflow", "take", "(IIIII)V"⟩, prog_11_method_21_code, 6, none)
abbrev M_X9_take : Mx := ("TaskWeave$Workflow", prog_11_method_21_code, 6, false)
theorem yk_X9_take : Yk Y_X9_take 5 := ⟨by decide +kernel, by decide +kernel, ⟨by decide, by decide⟩, by decide +kernel, by decide, trivial⟩
theorem d_X9_take_0 : decode prog_11_method_21_code 0 = .ok (.aload_n 0, 1) := by decide +kernel
theorem d_X9_take_1 : decode prog_11_method_21_code 1 = .ok (.getfield 18, 3) := by decide +kernel
theorem d_X9_take_4 : decode prog_11_method_21_code 4 = .ok (.iload_n 1, 1) := by decide +kernel
theorem d_X9_take_5 : decode prog_11_method_21_code 5 = .ok (.iload_n 2, 1) := by decide +kernel
theorem d_X9_take_6 : decode prog_11_method_21_code 6 = .ok (.iload_n 3, 1) := by decide +kernel
theorem d_X9_take_7 : decode prog_11_method_21_code 7 = .ok (.iload 4, 2) := by decide +kernel
theorem d_X9_take_9 : decode prog_11_method_21_code 9 = .ok (.invokevirtual 40, 3) := by decide +kernel
theorem d_X9_take_12 : decode prog_11_method_21_code 12 = .ok (.iload_n 1, 1) := by decide +kernel
theorem d_X9_take_13 : decode prog_11_method_21_code 13 = .ok (.tableswitch 209 1 9 #[51, 114, 114, 71, 134, 80, 181, 151, 101], 51) := by decide +kernel
theorem d_X9_take_64 : decode prog_11_method_21_code 64 = .ok (.aload_n 0, 1) := by decide +kernel
theorem d_X9_take_65 : decode prog_11_method_21_code 65 = .ok (.getfield 25, 3) := by decide +kernel
theorem d_X9_take_68 : decode prog_11_method_21_code 68 = .ok (.iload_n 2, 1) := by decide +kernel
theorem d_X9_take_69 : decode prog_11_method_21_code 69 = .ok (.iload_n 3, 1) := by decide +kernel
theorem d_X9_take_70 : decode prog_11_method_21_code 70 = .ok (.iload 5, 2) := by decide +kernel
theorem d_X9_take_72 : decode prog_11_method_21_code 72 = .ok (.invokevirtual 157, 3) := by decide +kernel
theorem d_X9_take_75 : decode prog_11_method_21_code 75 = .ok (.aload_n 0, 1) := by decide +kernel
theorem d_X9_take_76 : decode prog_11_method_21_code 76 = .ok (.iconst 0, 1) := by decide +kernel
theorem d_X9_take_77 : decode prog_11_method_21_code 77 = .ok (.iconst 0, 1) := by decide +kernel
theorem d_X9_take_78 : decode prog_11_method_21_code 78 = .ok (.invokevirtual 141, 3) := by decide +kernel
theorem d_X9_take_81 : decode prog_11_method_21_code 81 = .ok (.goto 159, 3) := by decide +kernel
theorem d_X9_take_84 : decode prog_11_method_21_code 84 = .ok (.aload_n 0, 1) := by decide +kernel
theorem d_X9_take_85 : decode prog_11_method_21_code 85 = .ok (.iconst 1, 1) := by decide +kernel
theorem d_X9_take_86 : decode prog_11_method_21_code 86 = .ok (.iload_n 2, 1) := by decide +kernel
theorem d_X9_take_87 : decode prog_11_method_21_code 87 = .ok (.invokevirtual 141, 3) := by decide +kernel
theorem d_X9_take_90 : decode prog_11_method_21_code 90 = .ok (.goto 150, 3) := by decide +kernel
theorem d_X9_take_93 : decode prog_11_method_21_code 93 = .ok (.aload_n 0, 1) := by decide +kernel
theorem d_X9_take_94 : decode prog_11_method_21_code 94 = .ok (.aload_n 0, 1) := by decide +kernel
theorem d_X9_take_95 : decode prog_11_method_21_code 95 = .ok (.getfield 65, 3) := by decide +kernel
theorem d_X9_take_98 : decode prog_11_method_21_code 98 = .ok (.invokevirtual 145, 3) := by decide +kernel
theorem d_X9_take_101 : decode prog_11_method_21_code 101 = .ok (.aload_n 0, 1) := by decide +kernel
theorem d_X9_take_102 : decode prog_11_method_21_code 102 = .ok (.dup, 1) := by decide +kernel
theorem d_X9_take_103 : decode prog_11_method_21_code 103 = .ok (.getfield 65, 3) := by decide +kernel
theorem d_X9_take_106 : decode prog_11_method_21_code 106 = .ok (.iconst 1, 1) := by decide +kernel
theorem d_X9_take_107 : decode prog_11_method_21_code 107 = .ok (.iadd, 1) := by decide +kernel
theorem d_X9_take_108 : decode prog_11_method_21_code 108 = .ok (.putfield 65, 3) := by decide +kernel
theorem d_X9_take_111 : decode prog_11_method_21_code 111 = .ok (.goto 129, 3) := by decide +kernel
theorem d_X9_take_114 : decode prog_11_method_21_code 114 = .ok (.aload_n 0, 1) := by decide +kernel
theorem d_X9_take_115 : decode prog_11_method_21_code 115 = .ok (.aload_n 0, 1) := by decide +kernel
theorem d_X9_take_116 : decode prog_11_method_21_code 116 = .ok (.getfield 53, 3) := by decide +kernel
theorem d_X9_take_119 : decode prog_11_method_21_code 119 = .ok (.iconst 1, 1) := by decide +kernel
theorem d_X9_take_120 : decode prog_11_method_21_code 120 = .ok (.iadd, 1) := by decide +kernel
theorem d_X9_take_121 : decode prog_11_method_21_code 121 = .ok (.invokevirtual 137, 3) := by decide +kernel
theorem d_X9_take_124 : decode prog_11_method_21_code 124 = .ok (.goto 116, 3) := by decide +kernel
theorem d_X9_take_127 : decode prog_11_method_21_code 127 = .ok (.aload_n 0, 1) := by decide +kernel
theorem d_X9_take_128 : decode prog_11_method_21_code 128 = .ok (.getfield 25, 3) := by decide +kernel
theorem d_X9_take_131 : decode prog_11_method_21_code 131 = .ok (.iconst 0, 1) := by decide +kernel
theorem d_X9_take_132 : decode prog_11_method_21_code 132 = .ok (.putfield 50, 3) := by decide +kernel
theorem d_X9_take_135 : decode prog_11_method_21_code 135 = .ok (.aload_n 0, 1) := by decide +kernel
theorem d_X9_take_136 : decode prog_11_method_21_code 136 = .ok (.iload_n 2, 1) := by decide +kernel
theorem d_X9_take_137 : decode prog_11_method_21_code 137 = .ok (.invokevirtual 145, 3) := by decide +kernel
theorem d_X9_take_140 : decode prog_11_method_21_code 140 = .ok (.aload_n 0, 1) := by decide +kernel
theorem d_X9_take_141 : decode prog_11_method_21_code 141 = .ok (.invokevirtual 161, 3) := by decide +kernel
theorem d_X9_take_144 : decode prog_11_method_21_code 144 = .ok (.goto 96, 3) := by decide +kernel
theorem d_X9_take_147 : decode prog_11_method_21_code 147 = .ok (.aload_n 0, 1) := by decide +kernel
theorem d_X9_take_148 : decode prog_11_method_21_code 148 = .ok (.aload_n 0, 1) := by decide +kernel
theorem d_X9_take_149 : decode prog_11_method_21_code 149 = .ok (.getfield 53, 3) := by decide +kernel
theorem d_X9_take_152 : decode prog_11_method_21_code 152 = .ok (.iconst 1, 1) := by decide +kernel
theorem d_X9_take_153 : decode prog_11_method_21_code 153 = .ok (.iadd, 1) := by decide +kernel
theorem d_X9_take_154 : decode prog_11_method_21_code 154 = .ok (.invokevirtual 137, 3) := by decide +kernel
theorem d_X9_take_157 : decode prog_11_method_21_code 157 = .ok (.aload_n 0, 1) := by decide +kernel
theorem d_X9_take_158 : decode prog_11_method_21_code 158 = .ok (.invokevirtual 161, 3) := by decide +kernel
theorem d_X9_take_161 : decode prog_11_method_21_code 161 = .ok (.goto 79, 3) := by decide +kernel
theorem d_X9_take_164 : decode prog_11_method_21_code 164 = .ok (.aload_n 0, 1) := by decide +kernel
theorem d_X9_take_165 : decode prog_11_method_21_code 165 = .ok (.getfield 59, 3) := by decide +kernel
theorem d_X9_take_168 : decode prog_11_method_21_code 168 = .ok (.iconst 2, 1) := by decide +kernel
theorem d_X9_take_169 : decode prog_11_method_21_code 169 = .ok (.if_icmp .ne 71, 3) := by decide +kernel
theorem d_X9_take_172 : decode prog_11_method_21_code 172 = .ok (.aload_n 0, 1) := by decide +kernel
theorem d_X9_take_173 : decode prog_11_method_21_code 173 = .ok (.dup, 1) := by decide +kernel
theorem d_X9_take_174 : decode prog_11_method_21_code 174 = .ok (.getfield 62, 3) := by decide +kernel
theorem d_X9_take_177 : decode prog_11_method_21_code 177 = .ok (.iconst 1, 1) := by decide +kernel
theorem d_X9_take_178 : decode prog_11_method_21_code 178 = .ok (.iadd, 1) := by decide +kernel
theorem d_X9_take_179 : decode prog_11_method_21_code 179 = .ok (.putfield 62, 3) := by decide +kernel
theorem d_X9_take_182 : decode prog_11_method_21_code 182 = .ok (.aload_n 0, 1) := by decide +kernel
theorem d_X9_take_183 : decode prog_11_method_21_code 183 = .ok (.iload_n 2, 1) := by decide +kernel
theorem d_X9_take_184 : decode prog_11_method_21_code 184 = .ok (.invokevirtual 145, 3) := by decide +kernel
theorem d_X9_take_187 : decode prog_11_method_21_code 187 = .ok (.aload_n 0, 1) := by decide +kernel
theorem d_X9_take_188 : decode prog_11_method_21_code 188 = .ok (.invokevirtual 161, 3) := by decide +kernel
theorem d_X9_take_191 : decode prog_11_method_21_code 191 = .ok (.goto 49, 3) := by decide +kernel
theorem d_X9_take_194 : decode prog_11_method_21_code 194 = .ok (.aload_n 0, 1) := by decide +kernel
theorem d_X9_take_195 : decode prog_11_method_21_code 195 = .ok (.getfield 59, 3) := by decide +kernel
theorem d_X9_take_198 : decode prog_11_method_21_code 198 = .ok (.iconst 3, 1) := by decide +kernel
theorem d_X9_take_199 : decode prog_11_method_21_code 199 = .ok (.if_icmp .ne 41, 3) := by decide +kernel
theorem d_X9_take_202 : decode prog_11_method_21_code 202 = .ok (.aload_n 0, 1) := by decide +kernel
theorem d_X9_take_203 : decode prog_11_method_21_code 203 = .ok (.getfield 96, 3) := by decide +kernel
theorem d_X9_take_206 : decode prog_11_method_21_code 206 = .ok (.iload_n 2, 1) := by decide +kernel
theorem d_X9_take_207 : decode prog_11_method_21_code 207 = .ok (.if_icmp .ne 33, 3) := by decide +kernel
theorem d_X9_take_210 : decode prog_11_method_21_code 210 = .ok (.aload_n 0, 1) := by decide +kernel
theorem d_X9_take_211 : decode prog_11_method_21_code 211 = .ok (.iload_n 3, 1) := by decide +kernel
theorem d_X9_take_212 : decode prog_11_method_21_code 212 = .ok (.invokevirtual 145, 3) := by decide +kernel
theorem d_X9_take_215 : decode prog_11_method_21_code 215 = .ok (.aload_n 0, 1) := by decide +kernel
theorem d_X9_take_216 : decode prog_11_method_21_code 216 = .ok (.invokevirtual 161, 3) := by decide +kernel
theorem d_X9_take_219 : decode prog_11_method_21_code 219 = .ok (.goto 21, 3) := by decide +kernel
theorem d_X9_take_222 : decode prog_11_method_21_code 222 = .ok (.aload_n 0, 1) := by decide +kernel
theorem d_X9_take_223 : decode prog_11_method_21_code 223 = .ok (.getfield 25, 3) := by decide +kernel
theorem d_X9_take_226 : decode prog_11_method_21_code 226 = .ok (.iconst 0, 1) := by decide +kernel
theorem d_X9_take_227 : decode prog_11_method_21_code 227 = .ok (.putfield 50, 3) := by decide +kernel
theorem d_X9_take_230 : decode prog_11_method_21_code 230 = .ok (.aload_n 0, 1) := by decide +kernel
theorem d_X9_take_231 : decode prog_11_method_21_code 231 = .ok (.iconst 4, 1) := by decide +kernel
theorem d_X9_take_232 : decode prog_11_method_21_code 232 = .ok (.putfield 59, 3) := by decide +kernel
theorem d_X9_take_235 : decode prog_11_method_21_code 235 = .ok (.aload_n 0, 1) := by decide +kernel
theorem d_X9_take_236 : decode prog_11_method_21_code 236 = .ok (.iload_n 2, 1) := by decide +kernel
theorem d_X9_take_237 : decode prog_11_method_21_code 237 = .ok (.putfield 68, 3) := by decide +kernel
theorem d_X9_take_240 : decode prog_11_method_21_code 240 = .ok (.return_, 1) := by decide +kernel
abbrev Y_X6_happen : Yx := (⟨"TaskWeave$Shard", "happen", "(LTaskWeave$Workflow;IIII)Z"⟩, prog_8_method_11_code, 12, (some .boolean))
abbrev M_X6_happen : Mx := ("TaskWeave$Shard", prog_8_method_11_code, 12, false)
theorem yk_X6_happen : Yk Y_X6_happen 5 := ⟨by decide +kernel, by decide +kernel, ⟨by decide, by decide⟩, by decide +kernel, by decide, trivial⟩
theorem d_X6_happen_0 : decode prog_8_method_11_code 0 = .ok (.iload_n 2, 1) := by decide +kernel
theorem d_X6_happen_1 : decode prog_8_method_11_code 1 = .ok (.bipush 10, 2) := by decide +kernel
theorem d_X6_happen_3 : decode prog_8_method_11_code 3 = .ok (.if_icmp .ge 19, 3) := by decide +kernel
theorem d_X6_happen_6 : decode prog_8_method_11_code 6 = .ok (.aload_n 1, 1) := by decide +kernel
theorem d_X6_happen_7 : decode prog_8_method_11_code 7 = .ok (.getfield 59, 3) := by decide +kernel
theorem d_X6_happen_10 : decode prog_8_method_11_code 10 = .ok (.getfield 115, 3) := by decide +kernel
theorem d_X6_happen_13 : decode prog_8_method_11_code 13 = .ok (.bipush 59, 2) := by decide +kernel
theorem d_X6_happen_15 : decode prog_8_method_11_code 15 = .ok (.if_icmp .lt 7, 3) := by decide +kernel
theorem d_X6_happen_18 : decode prog_8_method_11_code 18 = .ok (.iconst 1, 1) := by decide +kernel
theorem d_X6_happen_19 : decode prog_8_method_11_code 19 = .ok (.goto 4, 3) := by decide +kernel
theorem d_X6_happen_22 : decode prog_8_method_11_code 22 = .ok (.iconst 0, 1) := by decide +kernel
theorem d_X6_happen_23 : decode prog_8_method_11_code 23 = .ok (.istore 6, 2) := by decide +kernel
theorem d_X6_happen_25 : decode prog_8_method_11_code 25 = .ok (.iload 6, 2) := by decide +kernel
theorem d_X6_happen_27 : decode prog_8_method_11_code 27 = .ok (.ifCond .eq 8, 3) := by decide +kernel
theorem d_X6_happen_30 : decode prog_8_method_11_code 30 = .ok (.bipush 12, 2) := by decide +kernel
theorem d_X6_happen_32 : decode prog_8_method_11_code 32 = .ok (.goto 4, 3) := by decide +kernel
theorem d_X6_happen_35 : decode prog_8_method_11_code 35 = .ok (.iload_n 2, 1) := by decide +kernel
theorem d_X6_happen_36 : decode prog_8_method_11_code 36 = .ok (.istore 7, 2) := by decide +kernel
theorem d_X6_happen_38 : decode prog_8_method_11_code 38 = .ok (.iload 6, 2) := by decide +kernel
theorem d_X6_happen_40 : decode prog_8_method_11_code 40 = .ok (.ifCond .eq 7, 3) := by decide +kernel
theorem d_X6_happen_43 : decode prog_8_method_11_code 43 = .ok (.iconst (-1), 1) := by decide +kernel
theorem d_X6_happen_44 : decode prog_8_method_11_code 44 = .ok (.goto 4, 3) := by decide +kernel
theorem d_X6_happen_47 : decode prog_8_method_11_code 47 = .ok (.iload_n 3, 1) := by decide +kernel
theorem d_X6_happen_48 : decode prog_8_method_11_code 48 = .ok (.istore 8, 2) := by decide +kernel
theorem d_X6_happen_50 : decode prog_8_method_11_code 50 = .ok (.iload 6, 2) := by decide +kernel
theorem d_X6_happen_52 : decode prog_8_method_11_code 52 = .ok (.ifCond .eq 7, 3) := by decide +kernel
theorem d_X6_happen_55 : decode prog_8_method_11_code 55 = .ok (.iconst 0, 1) := by decide +kernel
theorem d_X6_happen_56 : decode prog_8_method_11_code 56 = .ok (.goto 5, 3) := by decide +kernel
theorem d_X6_happen_59 : decode prog_8_method_11_code 59 = .ok (.iload 4, 2) := by decide +kernel
theorem d_X6_happen_61 : decode prog_8_method_11_code 61 = .ok (.istore 9, 2) := by decide +kernel
theorem d_X6_happen_63 : decode prog_8_method_11_code 63 = .ok (.iload 6, 2) := by decide +kernel
theorem d_X6_happen_65 : decode prog_8_method_11_code 65 = .ok (.ifCond .eq 7, 3) := by decide +kernel
theorem d_X6_happen_68 : decode prog_8_method_11_code 68 = .ok (.iconst 0, 1) := by decide +kernel
theorem d_X6_happen_69 : decode prog_8_method_11_code 69 = .ok (.goto 5, 3) := by decide +kernel
theorem d_X6_happen_72 : decode prog_8_method_11_code 72 = .ok (.iload 5, 2) := by decide +kernel
theorem d_X6_happen_74 : decode prog_8_method_11_code 74 = .ok (.istore 10, 2) := by decide +kernel
theorem d_X6_happen_76 : decode prog_8_method_11_code 76 = .ok (.aload_n 0, 1) := by decide +kernel
theorem d_X6_happen_77 : decode prog_8_method_11_code 77 = .ok (.invokevirtual 116, 3) := by decide +kernel
theorem d_X6_happen_80 : decode prog_8_method_11_code 80 = .ok (.istore 11, 2) := by decide +kernel
theorem d_X6_happen_82 : decode prog_8_method_11_code 82 = .ok (.aload_n 0, 1) := by decide +kernel
theorem d_X6_happen_83 : decode prog_8_method_11_code 83 = .ok (.iload 7, 2) := by decide +kernel
theorem d_X6_happen_85 : decode prog_8_method_11_code 85 = .ok (.aload_n 1, 1) := by decide +kernel
theorem d_X6_happen_86 : decode prog_8_method_11_code 86 = .ok (.getfield 120, 3) := by decide +kernel
theorem d_X6_happen_89 : decode prog_8_method_11_code 89 = .ok (.iconst 4, 1) := by decide +kernel
theorem d_X6_happen_90 : decode prog_8_method_11_code 90 = .ok (.idiv, 1) := by decide +kernel
theorem d_X6_happen_91 : decode prog_8_method_11_code 91 = .ok (.iload 8, 2) := by decide +kernel
theorem d_X6_happen_93 : decode prog_8_method_11_code 93 = .ok (.iload 9, 2) := by decide +kernel
theorem d_X6_happen_95 : decode prog_8_method_11_code 95 = .ok (.iload 10, 2) := by decide +kernel
theorem d_X6_happen_97 : decode prog_8_method_11_code 97 = .ok (.invokevirtual 123, 3) := by decide +kernel
theorem d_X6_happen_100 : decode prog_8_method_11_code 100 = .ok (.ifCond .ne 5, 3) := by decide +kernel
theorem d_X6_happen_103 : decode prog_8_method_11_code 103 = .ok (.iconst 0, 1) := by decide +kernel
theorem d_X6_happen_104 : decode prog_8_method_11_code 104 = .ok (.ireturn, 1) := by decide +kernel
theorem d_X6_happen_105 : decode prog_8_method_11_code 105 = .ok (.aload_n 1, 1) := by decide +kernel
theorem d_X6_happen_106 : decode prog_8_method_11_code 106 = .ok (.iload 7, 2) := by decide +kernel
theorem d_X6_happen_108 : decode prog_8_method_11_code 108 = .ok (.iload 8, 2) := by decide +kernel
theorem d_X6_happen_110 : decode prog_8_method_11_code 110 = .ok (.iload 9, 2) := by decide +kernel
theorem d_X6_happen_112 : decode prog_8_method_11_code 112 = .ok (.iload 10, 2) := by decide +kernel
theorem d_X6_happen_114 : decode prog_8_method_11_code 114 = .ok (.aload_n 0, 1) := by decide +kernel
theorem d_X6_happen_115 : decode prog_8_method_11_code 115 = .ok (.getfield 41, 3) := by decide +kernel
theorem d_X6_happen_118 : decode prog_8_method_11_code 118 = .ok (.getfield 127, 3) := by decide +kernel
theorem d_X6_happen_121 : decode prog_8_method_11_code 121 = .ok (.invokevirtual 132, 3) := by decide +kernel
theorem d_X6_happen_124 : decode prog_8_method_11_code 124 = .ok (.aload_n 1, 1) := by decide +kernel
theorem d_X6_happen_125 : decode prog_8_method_11_code 125 = .ok (.iload 7, 2) := by decide +kernel
theorem d_X6_happen_127 : decode prog_8_method_11_code 127 = .ok (.invokevirtual 136, 3) := by decide +kernel
theorem d_X6_happen_130 : decode prog_8_method_11_code 130 = .ok (.ifCond .eq 27, 3) := by decide +kernel
theorem d_X6_happen_133 : decode prog_8_method_11_code 133 = .ok (.aload_n 0, 1) := by decide +kernel
theorem d_X6_happen_134 : decode prog_8_method_11_code 134 = .ok (.getfield 30, 3) := by decide +kernel
theorem d_X6_happen_137 : decode prog_8_method_11_code 137 = .ok (.iload 11, 2) := by decide +kernel
theorem d_X6_happen_139 : decode prog_8_method_11_code 139 = .ok (.aload_n 1, 1) := by decide +kernel
theorem d_X6_happen_140 : decode prog_8_method_11_code 140 = .ok (.getfield 120, 3) := by decide +kernel
theorem d_X6_happen_143 : decode prog_8_method_11_code 143 = .ok (.iconst 4, 1) := by decide +kernel
theorem d_X6_happen_144 : decode prog_8_method_11_code 144 = .ok (.idiv, 1) := by decide +kernel
theorem d_X6_happen_145 : decode prog_8_method_11_code 145 = .ok (.aload_n 1, 1) := by decide +kernel
theorem d_X6_happen_146 : decode prog_8_method_11_code 146 = .ok (.getfield 59, 3) := by decide +kernel
theorem d_X6_happen_149 : decode prog_8_method_11_code 149 = .ok (.getfield 115, 3) := by decide +kernel
theorem d_X6_happen_152 : decode prog_8_method_11_code 152 = .ok (.iconst 1, 1) := by decide +kernel
theorem d_X6_happen_153 : decode prog_8_method_11_code 153 = .ok (.isub, 1) := by decide +kernel
theorem d_X6_happen_154 : decode prog_8_method_11_code 154 = .ok (.invokevirtual 140, 3) := by decide +kernel
theorem d_X6_happen_157 : decode prog_8_method_11_code 157 = .ok (.iconst 1, 1) := by decide +kernel
theorem d_X6_happen_158 : decode prog_8_method_11_code 158 = .ok (.ireturn, 1) := by decide +kernel
abbrev Y_X9_reckon : Yx := (⟨"TaskWeave$Workflow", "reckon", "(III)I"⟩, prog_11_method_16_code, 3, (some .int))
abbrev M_X9_reckon : Mx := ("TaskWeave$Workflow", prog_11_method_16_code, 3, false)
theorem yk_X9_reckon : Yk Y_X9_reckon 3 := ⟨by decide +kernel, by decide +kernel, ⟨by decide, by decide⟩, by decide +kernel, by decide, trivial⟩
theorem d_X9_reckon_0 : decode prog_11_method_16_code 0 = .ok (.iload_n 0, 1) := by decide +kernel
theorem d_X9_reckon_1 : decode prog_11_method_16_code 1 = .ok (.lookupswitch 73 #[(42, 47), (45, 43), (60, 51), (61, 62)], 43) := by decide +kernel
theorem d_X9_reckon_44 : decode prog_11_method_16_code 44 = .ok (.iload_n 1, 1) := by decide +kernel
theorem d_X9_reckon_45 : decode prog_11_method_16_code 45 = .ok (.iload_n 2, 1) := by decide +kernel
theorem d_X9_reckon_46 : decode prog_11_method_16_code 46 = .ok (.isub, 1) := by decide +kernel
theorem d_X9_reckon_47 : decode prog_11_method_16_code 47 = .ok (.ireturn, 1) := by decide +kernel
theorem d_X9_reckon_48 : decode prog_11_method_16_code 48 = .ok (.iload_n 1, 1) := by decide +kernel
theorem d_X9_reckon_49 : decode prog_11_method_16_code 49 = .ok (.iload_n 2, 1) := by decide +kernel
theorem d_X9_reckon_50 : decode prog_11_method_16_code 50 = .ok (.imul, 1) := by decide +kernel
theorem d_X9_reckon_51 : decode prog_11_method_16_code 51 = .ok (.ireturn, 1) := by decide +kernel
theorem d_X9_reckon_52 : decode prog_11_method_16_code 52 = .ok (.iload_n 1, 1) := by decide +kernel
theorem d_X9_reckon_53 : decode prog_11_method_16_code 53 = .ok (.iload_n 2, 1) := by decide +kernel
theorem d_X9_reckon_54 : decode prog_11_method_16_code 54 = .ok (.if_icmp .ge 7, 3) := by decide +kernel
theorem d_X9_reckon_57 : decode prog_11_method_16_code 57 = .ok (.iconst 1, 1) := by decide +kernel
theorem d_X9_reckon_58 : decode prog_11_method_16_code 58 = .ok (.goto 4, 3) := by decide +kernel
theorem d_X9_reckon_61 : decode prog_11_method_16_code 61 = .ok (.iconst 0, 1) := by decide +kernel
theorem d_X9_reckon_62 : decode prog_11_method_16_code 62 = .ok (.ireturn, 1) := by decide +kernel
theorem d_X9_reckon_63 : decode prog_11_method_16_code 63 = .ok (.iload_n 1, 1) := by decide +kernel
theorem d_X9_reckon_64 : decode prog_11_method_16_code 64 = .ok (.iload_n 2, 1) := by decide +kernel
theorem d_X9_reckon_65 : decode prog_11_method_16_code 65 = .ok (.if_icmp .ne 7, 3) := by decide +kernel
theorem d_X9_reckon_68 : decode prog_11_method_16_code 68 = .ok (.iconst 1, 1) := by decide +kernel
theorem d_X9_reckon_69 : decode prog_11_method_16_code 69 = .ok (.goto 4, 3) := by decide +kernel
theorem d_X9_reckon_72 : decode prog_11_method_16_code 72 = .ok (.iconst 0, 1) := by decide +kernel
theorem d_X9_reckon_73 : decode prog_11_method_16_code 73 = .ok (.ireturn, 1) := by decide +kernel
theorem d_X9_reckon_74 : decode prog_11_method_16_code 74 = .ok (.iload_n 1, 1) := by decide +kernel
theorem d_X9_reckon_75 : decode prog_11_method_16_code 75 = .ok (.iload_n 2, 1) := by decide +kernel
theorem d_X9_reckon_76 : decode prog_11_method_16_code 76 = .ok (.iadd, 1) := by decide +kernel
theorem d_X9_reckon_77 : decode prog_11_method_16_code 77 = .ok (.ireturn, 1) := by decide +kernel
abbrev Y_X9_value : Yx := (⟨"TaskWeave$Workflow", "value", "(I)I"⟩, prog_11_method_14_code, 3, (some .int))
abbrev M_X9_value : Mx := ("TaskWeave$Workflow", prog_11_method_14_code, 3, false)
theorem yk_X9_value : Yk Y_X9_value 1 := ⟨by decide +kernel, by decide +kernel, ⟨by decide, by decide⟩, by decide +kernel, by decide, trivial⟩
theorem d_X9_value_0 : decode prog_11_method_14_code 0 = .ok (.aload_n 0, 1) := by decide +kernel
theorem d_X9_value_1 : decode prog_11_method_14_code 1 = .ok (.getfield 33, 3) := by decide +kernel
theorem d_X9_value_4 : decode prog_11_method_14_code 4 = .ok (.getfield 121, 3) := by decide +kernel
theorem d_X9_value_7 : decode prog_11_method_14_code 7 = .ok (.iload_n 1, 1) := by decide +kernel
theorem d_X9_value_8 : decode prog_11_method_14_code 8 = .ok (.iaload, 1) := by decide +kernel
theorem d_X9_value_9 : decode prog_11_method_14_code 9 = .ok (.istore_n 2, 1) := by decide +kernel
theorem d_X9_value_10 : decode prog_11_method_14_code 10 = .ok (.iload_n 2, 1) := by decide +kernel
theorem d_X9_value_11 : decode prog_11_method_14_code 11 = .ok (.iconst (-1), 1) := by decide +kernel
theorem d_X9_value_12 : decode prog_11_method_14_code 12 = .ok (.if_icmp .ne 17, 3) := by decide +kernel
theorem d_X9_value_15 : decode prog_11_method_14_code 15 = .ok (.aload_n 0, 1) := by decide +kernel
theorem d_X9_value_16 : decode prog_11_method_14_code 16 = .ok (.getfield 33, 3) := by decide +kernel
theorem d_X9_value_19 : decode prog_11_method_14_code 19 = .ok (.getfield 121, 3) := by decide +kernel
theorem d_X9_value_22 : decode prog_11_method_14_code 22 = .ok (.iload_n 1, 1) := by decide +kernel
theorem d_X9_value_23 : decode prog_11_method_14_code 23 = .ok (.iconst 1, 1) := by decide +kernel
theorem d_X9_value_24 : decode prog_11_method_14_code 24 = .ok (.iadd, 1) := by decide +kernel
theorem d_X9_value_25 : decode prog_11_method_14_code 25 = .ok (.iaload, 1) := by decide +kernel
theorem d_X9_value_26 : decode prog_11_method_14_code 26 = .ok (.goto 9, 3) := by decide +kernel
theorem d_X9_value_29 : decode prog_11_method_14_code 29 = .ok (.aload_n 0, 1) := by decide +kernel
theorem d_X9_value_30 : decode prog_11_method_14_code 30 = .ok (.getfield 9, 3) := by decide +kernel
theorem d_X9_value_33 : decode prog_11_method_14_code 33 = .ok (.iload_n 2, 1) := by decide +kernel
theorem d_X9_value_34 : decode prog_11_method_14_code 34 = .ok (.iaload, 1) := by decide +kernel
theorem d_X9_value_35 : decode prog_11_method_14_code 35 = .ok (.ireturn, 1) := by decide +kernel
theorem fk_5_59 : Fk "TaskWeave$Shard" 59 1002 := ⟨by decide, by decide, by decide +kernel⟩
theorem fk_5_63 : Fk "TaskWeave$Shard" 63 203 := ⟨by decide, by decide, by decide +kernel⟩
def f_X6_rowWithOrigin_2 : Nat → Nat → Int32 → Int32 → Hp → Option (Nat × Hp)
  | 0, _, _, _, _ => none
  | n + 1, l0, l1, l2, h => ck (isO (h) (l0) 7) (if (zI (h) 710 (l0)) ≤ (l2) then (some (0, h)) else (ck (isO (h) (zR (h) 704 (l0)) 28) (ck (inR (l2) (zL (h) (zR (h) 704 (l0)))) (ck (isO (h) (zQ (h) (zR (h) 704 (l0)) (l2).toNatClampNeg) 10) (ck (isO (h) (zR (h) 1002 (zQ (h) (zR (h) 704 (l0)) (l2).toNatClampNeg)) 2) (ck (isO (h) (zR (h) 203 (zR (h) 1002 (zQ (h) (zR (h) 704 (l0)) (l2).toNatClampNeg))) 22) (ck (inR ((0 : Int32)) (zL (h) (zR (h) 203 (zR (h) 1002 (zQ (h) (zR (h) 704 (l0)) (l2).toNatClampNeg))))) (if (zE (h) (zR (h) 203 (zR (h) 1002 (zQ (h) (zR (h) 704 (l0)) (l2).toNatClampNeg))) ((0 : Int32)).toNatClampNeg) = (l1) then (some (zQ (h) (zR (h) 704 (l0)) (l2).toNatClampNeg, h)) else (bh ((l2) + (1 : Int32)) (fun x10 => f_X6_rowWithOrigin_2 n (l0) (l1) (x10) (h)))))))))))
theorem f_X6_rowWithOrigin_2_ok {G : Gd} {d : Nat} (hj : 1 ≤ d) : ∀ (n : Nat) (l0 : Nat) (l1 : Int32) (l2 : Int32) (L : List (Nat × Value)) (h : Hp) (o : (Nat × Hp)), zlk L 0 = some (zrf (l0)) → zlk L 1 = some (.int (l1)) → zlk L 2 = some (.int (l2)) → f_X6_rowWithOrigin_2 n l0 l1 l2 h = some o → Ev G M_X6_rowWithOrigin d 2 L [] h (Ret Y_X6_rowWithOrigin (some (zrf o.1)) o.2) := by
  intro n
  induction n with
  | zero =>
    intro l0 l1 l2 L h o g0 g1 g2 e
    cases e
  | succ n ih =>
    intro l0 l1 l2 L h o g0 g1 g2 e
    unfold f_X6_rowWithOrigin_2 at e
    refine r_iload_n d_X6_rowWithOrigin_2 rfl g2 ?_
    refine g_ald_n d_X6_rowWithOrigin_3 rfl g0 ?_
    replace e := ckd e
    obtain ⟨k1, e⟩ := e
    refine g_getI d_X6_rowWithOrigin_4 (f := 710) k1 fk_5_56 rfl rfl ?_
    refine r_icmp_ge d_X6_rowWithOrigin_7 (tgt := 41) (by decide) (fun c2 => ?_) (fun c2 => ?_)
    · replace e := (if_pos c2).symm.trans e
      refine g_null d_X6_rowWithOrigin_41 ?_
      obtain rfl := Option.some.inj e
      exact g_aret d_X6_rowWithOrigin_42 rfl (Or.inl ⟨_, rfl⟩)
    · replace e := (if_neg c2).symm.trans e
      refine g_ald_n d_X6_rowWithOrigin_10 rfl g0 ?_
      refine g_getR d_X6_rowWithOrigin_11 (f := 704) k1 fk_5_19 rfl rfl ?_
      refine r_iload_n d_X6_rowWithOrigin_14 rfl g2 ?_
      replace e := ckd e
      obtain ⟨k3, e⟩ := e
      replace e := ckd e
      obtain ⟨k4, e⟩ := e
      refine g_aald d_X6_rowWithOrigin_15 k3 (by decide) (by decide) k4 rfl ?_
      replace e := ckd e
      obtain ⟨k5, e⟩ := e
      refine g_getR d_X6_rowWithOrigin_16 (f := 1002) k5 fk_5_59 rfl rfl ?_
      replace e := ckd e
      obtain ⟨k6, e⟩ := e
      refine g_getR d_X6_rowWithOrigin_19 (f := 203) k6 fk_5_63 rfl rfl ?_
      refine r_iconst d_X6_rowWithOrigin_22 (v := (0 : Int32)) (by decide +kernel) ?_
      replace e := ckd e
      obtain ⟨k7, e⟩ := e
      replace e := ckd e
      obtain ⟨k8, e⟩ := e
      refine g_iald d_X6_rowWithOrigin_23 k7 k8 rfl ?_
      refine r_iload_n d_X6_rowWithOrigin_24 rfl g1 ?_
      refine r_icmp_ne d_X6_rowWithOrigin_25 (tgt := 35) (by decide) (fun c9 => ?_) (fun c9 => ?_)
      · replace e := (if_neg c9).symm.trans e
        replace e := bhd e
        obtain ⟨_, rfl, e⟩ := e
        refine s_iinc d_X6_rowWithOrigin_35 g2 (w := (1 : Int32)) (by decide +kernel) (by decide) (fun L g2 gK => ?_)
        replace g0 := gK _ _ (by decide) (Or.inr (zrf_cat _)) g0
        replace g1 := gK _ _ (by decide) (Or.inr rfl) g1
        refine r_goto d_X6_rowWithOrigin_38 (tgt := 2) (by decide) ?_
        exact ih _ _ _ _ _ _ g0 g1 g2 e
      · replace e := (if_pos c9).symm.trans e
        refine g_ald_n d_X6_rowWithOrigin_28 rfl g0 ?_
        refine g_getR d_X6_rowWithOrigin_29 (f := 704) k1 fk_5_19 rfl rfl ?_
        refine r_iload_n d_X6_rowWithOrigin_32 rfl g2 ?_
        refine g_aald d_X6_rowWithOrigin_33 k3 (by decide) (by decide) k4 rfl ?_
        obtain rfl := Option.some.inj e
        exact g_aret d_X6_rowWithOrigin_34 rfl (Or.inl ⟨_, rfl⟩)

def f_X6_rowWithOrigin (l0 : Nat) (l1 : Int32) (h : Hp) : Option (Nat × Hp) := f_X6_rowWithOrigin_2 fz (l0) (l1) ((0 : Int32)) (h)
theorem f_X6_rowWithOrigin_ok {G : Gd} {d : Nat} (hj : 1 ≤ d) : ∀ (l0 : Nat) (l1 : Int32) (L : List (Nat × Value)) (h : Hp) (o : (Nat × Hp)), zlk L 0 = some (zrf (l0)) → zlk L 1 = some (.int (l1)) → f_X6_rowWithOrigin l0 l1 h = some o → Ev G M_X6_rowWithOrigin d 0 L [] h (Ret Y_X6_rowWithOrigin (some (zrf o.1)) o.2) := by
  intro l0 l1 L h o g0 g1 e
  unfold f_X6_rowWithOrigin at e
  refine r_iconst d_X6_rowWithOrigin_0 (v := (0 : Int32)) (by decide +kernel) ?_
  refine s_istore_n d_X6_rowWithOrigin_1 rfl (by decide) (fun L g2 gK => ?_)
  replace g0 := gK _ _ (by decide) (Or.inr (zrf_cat _)) g0
  replace g1 := gK _ _ (by decide) (Or.inr rfl) g1
  exact f_X6_rowWithOrigin_2_ok hj _ _ _ _ _ _ _ g0 g1 g2 e

theorem c_X6_rowWithOrigin {G : Gd} {j : Nat} (hj : 1 ≤ j) {l0 : Nat} {l1 : Int32} {h : Hp} {o : (Nat × Hp)} (e : f_X6_rowWithOrigin l0 l1 h = some o) : Cal G j Y_X6_rowWithOrigin [zrf (l0), .int (l1)] h (some (zrf o.1)) o.2 := Cal.of (n := 0) (I := false) (by first | exact Or.inl (by decide +kernel) | exact Or.inr (by decide +kernel)) (by decide) (by simp [lg_sl, zrf_cat, cat_int, cat_long]) (f_X6_rowWithOrigin_ok hj _ _ _ h o (by simp [lv_args, zlk, zrf_cat, cat_int, cat_long]) (by simp [lv_args, zlk, zrf_cat, cat_int, cat_long]) e)
theorem fk_5_69 : Fk "TaskWeave$Shard" 69 602 := ⟨by decide, by decide, by decide +kernel⟩
def f_X6_records (l0 : Nat) (h : Hp) : Option (Int32 × Hp) := ck (isO (h) (l0) 7) (if (zI (h) 708 (l0)) = ((-1 : Int32)) then (some ((0 : Int32), h)) else (ck (isO (h) (zR (h) 703 (l0)) 25) (ck (inR (zI (h) 708 (l0)) (zL (h) (zR (h) 703 (l0)))) (ck (isO (h) (zQ (h) (zR (h) 703 (l0)) (zI (h) 708 (l0)).toNatClampNeg) 6) (some ((zI (h) 602 (zQ (h) (zR (h) 703 (l0)) (zI (h) 708 (l0)).toNatClampNeg)) / ((16 : Int32)), h))))))
theorem f_X6_records_ok {G : Gd} {d : Nat} (hj : 1 ≤ d) : ∀ (l0 : Nat) (L : List (Nat × Value)) (h : Hp) (o : (Int32 × Hp)), zlk L 0 = some (zrf (l0)) → f_X6_records l0 h = some o → Ev G M_X6_records d 0 L [] h (Ret Y_X6_records (some (.int o.1)) o.2) := by
  intro l0 L h o g0 e
  unfold f_X6_records at e
  refine g_ald_n d_X6_records_0 rfl g0 ?_
  replace e := ckd e
  obtain ⟨k1, e⟩ := e
  refine g_getI d_X6_records_1 (f := 708) k1 fk_5_53 rfl rfl ?_
  refine r_iconst d_X6_records_4 (v := (-1 : Int32)) (by decide +kernel) ?_
  refine r_icmp_ne d_X6_records_5 (tgt := 12) (by decide) (fun c2 => ?_) (fun c2 => ?_)
  · replace e := (if_neg c2).symm.trans e
    refine g_ald_n d_X6_records_12 rfl g0 ?_
    refine g_getR d_X6_records_13 (f := 703) k1 fk_5_11 rfl rfl ?_
    refine g_ald_n d_X6_records_16 rfl g0 ?_
    refine g_getI d_X6_records_17 (f := 708) k1 fk_5_53 rfl rfl ?_
    replace e := ckd e
    obtain ⟨k3, e⟩ := e
    replace e := ckd e
    obtain ⟨k4, e⟩ := e
    refine g_aald d_X6_records_20 k3 (by decide) (by decide) k4 rfl ?_
    replace e := ckd e
    obtain ⟨k5, e⟩ := e
    refine g_getI d_X6_records_21 (f := 602) k5 fk_5_69 rfl rfl ?_
    refine r_bipush d_X6_records_24 (v := (16 : Int32)) (by decide +kernel) ?_
    refine r_idiv d_X6_records_26 (by decide +kernel) ?_
    obtain rfl := Option.some.inj e
    exact g_iret d_X6_records_27 rfl rfl
  · replace e := (if_pos c2).symm.trans e
    refine r_iconst d_X6_records_8 (v := (0 : Int32)) (by decide +kernel) ?_
    refine r_goto d_X6_records_9 (tgt := 27) (by decide) ?_
    obtain rfl := Option.some.inj e
    exact g_iret d_X6_records_27 rfl rfl

theorem c_X6_records {G : Gd} {j : Nat} (hj : 1 ≤ j) {l0 : Nat} {h : Hp} {o : (Int32 × Hp)} (e : f_X6_records l0 h = some o) : Cal G j Y_X6_records [zrf (l0)] h (some (.int o.1)) o.2 := Cal.of (n := 0) (I := false) (by first | exact Or.inl (by decide +kernel) | exact Or.inr (by decide +kernel)) (by decide) (by simp [lg_sl, zrf_cat, cat_int, cat_long]) (f_X6_records_ok hj _ _ h o (by simp [lv_args, zlk, zrf_cat, cat_int, cat_long]) e)
theorem fk_12_48 : Fk "java/util/ArrayList" 48 2 := ⟨by decide, by decide, by decide +kernel⟩
def f_Jx4a65c_isEmpty_aae02 (l0 : Nat) (h : Hp) : Option (Int32 × Hp) := ck (isO (h) (l0) 0) (if (zI (h) 2 (l0)) = (0) then (some ((1 : Int32), h)) else (some ((0 : Int32), h)))
theorem f_Jx4a65c_isEmpty_aae02_ok {G : Gd} {d : Nat} (hj : 1 ≤ d) : ∀ (l0 : Nat) (L : List (Nat × Value)) (h : Hp) (o : (Int32 × Hp)), zlk L 0 = some (zrf (l0)) → f_Jx4a65c_isEmpty_aae02 l0 h = some o → Ev G M_Jx4a65c_isEmpty_aae02 d 0 L [] h (Ret Y_Jx4a65c_isEmpty_aae02 (some (.int o.1)) o.2) := by
  intro l0 L h o g0 e
  unfold f_Jx4a65c_isEmpty_aae02 at e
  refine g_ald_n d_Jx4a65c_isEmpty_aae02_0 rfl g0 ?_
  replace e := ckd e
  obtain ⟨k1, e⟩ := e
  refine g_getI d_Jx4a65c_isEmpty_aae02_1 (f := 2) k1 fk_12_48 rfl rfl ?_
  refine r_if_ne d_Jx4a65c_isEmpty_aae02_4 (tgt := 11) (by decide) (fun c2 => ?_) (fun c2 => ?_)
  · replace e := (if_neg c2).symm.trans e
    refine r_iconst d_Jx4a65c_isEmpty_aae02_11 (v := (0 : Int32)) (by decide +kernel) ?_
    obtain rfl := Option.some.inj e
    exact g_iret d_Jx4a65c_isEmpty_aae02_12 rfl rfl
  · replace e := (if_pos c2).symm.trans e
    refine r_iconst d_Jx4a65c_isEmpty_aae02_7 (v := (1 : Int32)) (by decide +kernel) ?_
    refine r_goto d_Jx4a65c_isEmpty_aae02_8 (tgt := 12) (by decide) ?_
    obtain rfl := Option.some.inj e
    exact g_iret d_Jx4a65c_isEmpty_aae02_12 rfl rfl

theorem c_Jx4a65c_isEmpty_aae02 {G : Gd} {j : Nat} (hj : 1 ≤ j) {l0 : Nat} {h : Hp} {o : (Int32 × Hp)} (e : f_Jx4a65c_isEmpty_aae02 l0 h = some o) : Cal G j Y_Jx4a65c_isEmpty_aae02 [zrf (l0)] h (some (.int o.1)) o.2 := Cal.of (n := 0) (I := false) (by first | exact Or.inl (by decide +kernel) | exact Or.inr (by decide +kernel)) (by decide) (by simp [lg_sl, zrf_cat, cat_int, cat_long]) (f_Jx4a65c_isEmpty_aae02_ok hj _ _ h o (by simp [lv_args, zlk, zrf_cat, cat_int, cat_long]) e)
theorem fk_5_70 : Fk "TaskWeave$Shard" 70 800 := ⟨by decide, by decide, by decide +kernel⟩
theorem vk_5_76 : Vk "TaskWeave$Shard" 76 0 0 Y_Jx4a65c_isEmpty_aae02 := ⟨yk_Jx4a65c_isEmpty_aae02, by decide +kernel, by decide +kernel, by decide +kernel, by decide⟩
def f_X6_hasRoomFor (l0 : Nat) (l1 : Int32) (h : Hp) : Option (Int32 × Hp) := ck (isO (h) (l0) 7) (if ((16 : Int32)) ≤ (zI (h) 710 (l0)) then (some ((0 : Int32), h)) else (if (l1) < (0) then (some ((0 : Int32), h)) else (if ((8 : Int32)) ≤ (l1) then (some ((0 : Int32), h)) else (ck (isO (h) (zR (h) 702 (l0)) 27) (ck (inR (l1) (zL (h) (zR (h) 702 (l0)))) (ck (isO (h) (zQ (h) (zR (h) 702 (l0)) (l1).toNatClampNeg) 8) (ck (isO (h) (zR (h) 800 (zQ (h) (zR (h) 702 (l0)) (l1).toNatClampNeg)) 0) ((f_Jx4a65c_isEmpty_aae02 (zR (h) 800 (zQ (h) (zR (h) 702 (l0)) (l1).toNatClampNeg)) (h)).bind (fun q8 => if (q8.1) = (0) then (some ((1 : Int32), q8.2)) else (some ((0 : Int32), q8.2)))))))))))
theorem f_X6_hasRoomFor_ok {G : Gd} {d : Nat} (hj : 2 ≤ d) : ∀ (l0 : Nat) (l1 : Int32) (L : List (Nat × Value)) (h : Hp) (o : (Int32 × Hp)), zlk L 0 = some (zrf (l0)) → zlk L 1 = some (.int (l1)) → f_X6_hasRoomFor l0 l1 h = some o → Ev G M_X6_hasRoomFor d 0 L [] h (Ret Y_X6_hasRoomFor (some (.int o.1)) o.2) := by
  intro l0 l1 L h o g0 g1 e
  unfold f_X6_hasRoomFor at e
  refine g_ald_n d_X6_hasRoomFor_0 rfl g0 ?_
  replace e := ckd e
  obtain ⟨k1, e⟩ := e
  refine g_getI d_X6_hasRoomFor_1 (f := 710) k1 fk_5_56 rfl rfl ?_
  refine r_bipush d_X6_hasRoomFor_4 (v := (16 : Int32)) (by decide +kernel) ?_
  refine r_icmp_ge d_X6_hasRoomFor_6 (tgt := 38) (by decide) (fun c2 => ?_) (fun c2 => ?_)
  · replace e := (if_pos c2).symm.trans e
    refine r_iconst d_X6_hasRoomFor_38 (v := (0 : Int32)) (by decide +kernel) ?_
    obtain rfl := Option.some.inj e
    exact g_iret d_X6_hasRoomFor_39 rfl rfl
  · replace e := (if_neg c2).symm.trans e
    refine r_iload_n d_X6_hasRoomFor_9 rfl g1 ?_
    refine r_if_lt d_X6_hasRoomFor_10 (tgt := 38) (by decide) (fun c3 => ?_) (fun c3 => ?_)
    · replace e := (if_pos c3).symm.trans e
      refine r_iconst d_X6_hasRoomFor_38 (v := (0 : Int32)) (by decide +kernel) ?_
      obtain rfl := Option.some.inj e
      exact g_iret d_X6_hasRoomFor_39 rfl rfl
    · replace e := (if_neg c3).symm.trans e
      refine r_iload_n d_X6_hasRoomFor_13 rfl g1 ?_
      refine r_bipush d_X6_hasRoomFor_14 (v := (8 : Int32)) (by decide +kernel) ?_
      refine r_icmp_ge d_X6_hasRoomFor_16 (tgt := 38) (by decide) (fun c4 => ?_) (fun c4 => ?_)
      · replace e := (if_pos c4).symm.trans e
        refine r_iconst d_X6_hasRoomFor_38 (v := (0 : Int32)) (by decide +kernel) ?_
        obtain rfl := Option.some.inj e
        exact g_iret d_X6_hasRoomFor_39 rfl rfl
      · replace e := (if_neg c4).symm.trans e
        refine g_ald_n d_X6_hasRoomFor_19 rfl g0 ?_
        refine g_getR d_X6_hasRoomFor_20 (f := 702) k1 fk_5_45 rfl rfl ?_
        refine r_iload_n d_X6_hasRoomFor_23 rfl g1 ?_
        replace e := ckd e
        obtain ⟨k5, e⟩ := e
        replace e := ckd e
        obtain ⟨k6, e⟩ := e
        refine g_aald d_X6_hasRoomFor_24 k5 (by decide) (by decide) k6 rfl ?_
        replace e := ckd e
        obtain ⟨k7, e⟩ := e
        refine g_getR d_X6_hasRoomFor_25 (f := 800) k7 fk_5_70 rfl rfl ?_
        replace e := ckd e
        obtain ⟨k9, e⟩ := e
        replace e := bd e
        obtain ⟨q8, eq8, e⟩ := e
        refine g_callV d_X6_hasRoomFor_28 vk_5_76 (as := []) rfl k9 rfl (by simp [zrf_cat, cat_int, cat_long]) (j := 1) (by omega) (c_Jx4a65c_isEmpty_aae02 (by omega) eq8) ?_
        refine r_if_ne d_X6_hasRoomFor_31 (tgt := 38) (by decide) (fun c10 => ?_) (fun c10 => ?_)
        · replace e := (if_neg c10).symm.trans e
          refine r_iconst d_X6_hasRoomFor_38 (v := (0 : Int32)) (by decide +kernel) ?_
          obtain rfl := Option.some.inj e
          exact g_iret d_X6_hasRoomFor_39 rfl rfl
        · replace e := (if_pos c10).symm.trans e
          refine r_iconst d_X6_hasRoomFor_34 (v := (1 : Int32)) (by decide +kernel) ?_
          refine r_goto d_X6_hasRoomFor_35 (tgt := 39) (by decide) ?_
          obtain rfl := Option.some.inj e
          exact g_iret d_X6_hasRoomFor_39 rfl rfl

theorem c_X6_hasRoomFor {G : Gd} {j : Nat} (hj : 2 ≤ j) {l0 : Nat} {l1 : Int32} {h : Hp} {o : (Int32 × Hp)} (e : f_X6_hasRoomFor l0 l1 h = some o) : Cal G j Y_X6_hasRoomFor [zrf (l0), .int (l1)] h (some (.int o.1)) o.2 := Cal.of (n := 0) (I := false) (by first | exact Or.inl (by decide +kernel) | exact Or.inr (by decide +kernel)) (by decide) (by simp [lg_sl, zrf_cat, cat_int, cat_long]) (f_X6_hasRoomFor_ok hj _ _ _ h o (by simp [lv_args, zlk, zrf_cat, cat_int, cat_long]) (by simp [lv_args, zlk, zrf_cat, cat_int, cat_long]) e)
theorem fk_5_82 : Fk "TaskWeave$Shard" 82 1007 := ⟨by decide, by decide, by decide +kernel⟩
theorem fk_5_85 : Fk "TaskWeave$Shard" 85 1003 := ⟨by decide, by decide, by decide +kernel⟩
theorem fk_5_89 : Fk "TaskWeave$Shard" 89 904 := ⟨by decide, by decide, by decide +kernel⟩
def f_X6_countTasks_61 (K4 : Nat → Int32 → Int32 → Int32 → Hp → Option (Int32 × Hp)) (s0 : Int32) (s1 : Int32) (l0 : Nat) (l1 : Int32) (l3 : Int32) (h : Hp) : Option (Int32 × Hp) := bh ((s0) + (s1)) (fun x11 => bh ((l3) + (1 : Int32)) (fun x12 => K4 (l0) (l1) (x11) (x12) (h)))
theorem f_X6_countTasks_61_ok {G : Gd} {d : Nat} (K4 : Nat → Int32 → Int32 → Int32 → Hp → Option (Int32 × Hp)) (hj : 1 ≤ d) (hK4 : ∀ (l0 : Nat) (l1 : Int32) (l2 : Int32) (l3 : Int32) (L : List (Nat × Value)) (h : Hp) (o : (Int32 × Hp)), zlk L 0 = some (zrf (l0)) → zlk L 1 = some (.int (l1)) → zlk L 2 = some (.int (l2)) → zlk L 3 = some (.int (l3)) → K4 l0 l1 l2 l3 h = some o → Ev G M_X6_countTasks d 4 L [] h (Ret Y_X6_countTasks (some (.int o.1)) o.2)) : ∀ (s0 : Int32) (s1 : Int32) (l0 : Nat) (l1 : Int32) (l3 : Int32) (L : List (Nat × Value)) (h : Hp) (o : (Int32 × Hp)), zlk L 0 = some (zrf (l0)) → zlk L 1 = some (.int (l1)) → zlk L 3 = some (.int (l3)) → f_X6_countTasks_61 K4 s0 s1 l0 l1 l3 h = some o → Ev G M_X6_countTasks d 61 L [.int (s1), .int (s0)] h (Ret Y_X6_countTasks (some (.int o.1)) o.2) := by
  intro s0 s1 l0 l1 l3 L h o g0 g1 g3 e
  unfold f_X6_countTasks_61 at e
  refine r_iadd d_X6_countTasks_61 ?_
  replace e := bhd e
  obtain ⟨_, rfl, e⟩ := e
  refine s_istore_n d_X6_countTasks_62 rfl (by decide) (fun L g2 gK => ?_)
  replace g0 := gK _ _ (by decide) (Or.inr (zrf_cat _)) g0
  replace g1 := gK _ _ (by decide) (Or.inr rfl) g1
  replace g3 := gK _ _ (by decide) (Or.inr rfl) g3
  replace e := bhd e
  obtain ⟨_, rfl, e⟩ := e
  refine s_iinc d_X6_countTasks_63 g3 (w := (1 : Int32)) (by decide +kernel) (by decide) (fun L g3 gK => ?_)
  replace g0 := gK _ _ (by decide) (Or.inr (zrf_cat _)) g0
  replace g1 := gK _ _ (by decide) (Or.inr rfl) g1
  replace g2 := gK _ _ (by decide) (Or.inr rfl) g2
  refine r_goto d_X6_countTasks_66 (tgt := 4) (by decide) ?_
  exact hK4 _ _ _ _ _ _ _ g0 g1 g2 g3 e

def f_X6_countTasks_48 (K4 : Nat → Int32 → Int32 → Int32 → Hp → Option (Int32 × Hp)) (s0 : Int32) (l0 : Nat) (l1 : Int32) (l2 : Int32) (l3 : Int32) (h : Hp) : Option (Int32 × Hp) := if (s0) = (0) then (f_X6_countTasks_61 K4 (l2) ((0 : Int32)) (l0) (l1) (l3) (h)) else (f_X6_countTasks_61 K4 (l2) ((1 : Int32)) (l0) (l1) (l3) (h))
theorem f_X6_countTasks_48_ok {G : Gd} {d : Nat} (K4 : Nat → Int32 → Int32 → Int32 → Hp → Option (Int32 × Hp)) (hj : 1 ≤ d) (hK4 : ∀ (l0 : Nat) (l1 : Int32) (l2 : Int32) (l3 : Int32) (L : List (Nat × Value)) (h : Hp) (o : (Int32 × Hp)), zlk L 0 = some (zrf (l0)) → zlk L 1 = some (.int (l1)) → zlk L 2 = some (.int (l2)) → zlk L 3 = some (.int (l3)) → K4 l0 l1 l2 l3 h = some o → Ev G M_X6_countTasks d 4 L [] h (Ret Y_X6_countTasks (some (.int o.1)) o.2)) : ∀ (s0 : Int32) (l0 : Nat) (l1 : Int32) (l2 : Int32) (l3 : Int32) (L : List (Nat × Value)) (h : Hp) (o : (Int32 × Hp)), zlk L 0 = some (zrf (l0)) → zlk L 1 = some (.int (l1)) → zlk L 2 = some (.int (l2)) → zlk L 3 = some (.int (l3)) → f_X6_countTasks_48 K4 s0 l0 l1 l2 l3 h = some o → Ev G M_X6_countTasks d 48 L [.int (s0)] h (Ret Y_X6_countTasks (some (.int o.1)) o.2) := by
  intro s0 l0 l1 l2 l3 L h o g0 g1 g2 g3 e
  unfold f_X6_countTasks_48 at e
  refine s_istore d_X6_countTasks_48 (by decide) (fun L g4 gK => ?_)
  replace g0 := gK _ _ (by decide) (Or.inr (zrf_cat _)) g0
  replace g1 := gK _ _ (by decide) (Or.inr rfl) g1
  replace g2 := gK _ _ (by decide) (Or.inr rfl) g2
  replace g3 := gK _ _ (by decide) (Or.inr rfl) g3
  refine r_iload_n d_X6_countTasks_50 rfl g2 ?_
  refine r_iload d_X6_countTasks_51 g4 ?_
  refine r_if_eq d_X6_countTasks_53 (tgt := 60) (by decide) (fun c10 => ?_) (fun c10 => ?_)
  · replace e := (if_pos c10).symm.trans e
    refine r_iconst d_X6_countTasks_60 (v := (0 : Int32)) (by decide +kernel) ?_
    exact f_X6_countTasks_61_ok _ hj hK4 _ _ _ _ _ _ _ _ g0 g1 g3 e
  · replace e := (if_neg c10).symm.trans e
    refine r_iconst d_X6_countTasks_56 (v := (1 : Int32)) (by decide +kernel) ?_
    refine r_goto d_X6_countTasks_57 (tgt := 61) (by decide) ?_
    exact f_X6_countTasks_61_ok _ hj hK4 _ _ _ _ _ _ _ _ g0 g1 g3 e

def f_X6_countTasks_43 (K4 : Nat → Int32 → Int32 → Int32 → Hp → Option (Int32 × Hp)) (l0 : Nat) (l1 : Int32) (l2 : Int32) (l3 : Int32) (h : Hp) : Option (Int32 × Hp) := f_X6_countTasks_48 K4 ((1 : Int32)) (l0) (l1) (l2) (l3) (h)
theorem f_X6_countTasks_43_ok {G : Gd} {d : Nat} (K4 : Nat → Int32 → Int32 → Int32 → Hp → Option (Int32 × Hp)) (hj : 1 ≤ d) (hK4 : ∀ (l0 : Nat) (l1 : Int32) (l2 : Int32) (l3 : Int32) (L : List (Nat × Value)) (h : Hp) (o : (Int32 × Hp)), zlk L 0 = some (zrf (l0)) → zlk L 1 = some (.int (l1)) → zlk L 2 = some (.int (l2)) → zlk L 3 = some (.int (l3)) → K4 l0 l1 l2 l3 h = some o → Ev G M_X6_countTasks d 4 L [] h (Ret Y_X6_countTasks (some (.int o.1)) o.2)) : ∀ (l0 : Nat) (l1 : Int32) (l2 : Int32) (l3 : Int32) (L : List (Nat × Value)) (h : Hp) (o : (Int32 × Hp)), zlk L 0 = some (zrf (l0)) → zlk L 1 = some (.int (l1)) → zlk L 2 = some (.int (l2)) → zlk L 3 = some (.int (l3)) → f_X6_countTasks_43 K4 l0 l1 l2 l3 h = some o → Ev G M_X6_countTasks d 43 L [] h (Ret Y_X6_countTasks (some (.int o.1)) o.2) := by
  intro l0 l1 l2 l3 L h o g0 g1 g2 g3 e
  unfold f_X6_countTasks_43 at e
  refine r_iconst d_X6_countTasks_43 (v := (1 : Int32)) (by decide +kernel) ?_
  refine r_goto d_X6_countTasks_44 (tgt := 48) (by decide) ?_
  exact f_X6_countTasks_48_ok _ hj hK4 _ _ _ _ _ _ _ _ g0 g1 g2 g3 e

def f_X6_countTasks_47 (K4 : Nat → Int32 → Int32 → Int32 → Hp → Option (Int32 × Hp)) (l0 : Nat) (l1 : Int32) (l2 : Int32) (l3 : Int32) (h : Hp) : Option (Int32 × Hp) := f_X6_countTasks_48 K4 ((0 : Int32)) (l0) (l1) (l2) (l3) (h)
theorem f_X6_countTasks_47_ok {G : Gd} {d : Nat} (K4 : Nat → Int32 → Int32 → Int32 → Hp → Option (Int32 × Hp)) (hj : 1 ≤ d) (hK4 : ∀ (l0 : Nat) (l1 : Int32) (l2 : Int32) (l3 : Int32) (L : List (Nat × Value)) (h : Hp) (o : (Int32 × Hp)), zlk L 0 = some (zrf (l0)) → zlk L 1 = some (.int (l1)) → zlk L 2 = some (.int (l2)) → zlk L 3 = some (.int (l3)) → K4 l0 l1 l2 l3 h = some o → Ev G M_X6_countTasks d 4 L [] h (Ret Y_X6_countTasks (some (.int o.1)) o.2)) : ∀ (l0 : Nat) (l1 : Int32) (l2 : Int32) (l3 : Int32) (L : List (Nat × Value)) (h : Hp) (o : (Int32 × Hp)), zlk L 0 = some (zrf (l0)) → zlk L 1 = some (.int (l1)) → zlk L 2 = some (.int (l2)) → zlk L 3 = some (.int (l3)) → f_X6_countTasks_47 K4 l0 l1 l2 l3 h = some o → Ev G M_X6_countTasks d 47 L [] h (Ret Y_X6_countTasks (some (.int o.1)) o.2) := by
  intro l0 l1 l2 l3 L h o g0 g1 g2 g3 e
  unfold f_X6_countTasks_47 at e
  refine r_iconst d_X6_countTasks_47 (v := (0 : Int32)) (by decide +kernel) ?_
  exact f_X6_countTasks_48_ok _ hj hK4 _ _ _ _ _ _ _ _ g0 g1 g2 g3 e

def f_X6_countTasks_4 : Nat → Nat → Int32 → Int32 → Int32 → Hp → Option (Int32 × Hp)
  | 0, _, _, _, _, _ => none
  | n + 1, l0, l1, l2, l3, h => ck (isO (h) (l0) 7) (if (zI (h) 710 (l0)) ≤ (l3) then (some (l2, h)) else (ck (isO (h) (zR (h) 704 (l0)) 28) (ck (inR (l3) (zL (h) (zR (h) 704 (l0)))) (ck (isO (h) (zQ (h) (zR (h) 704 (l0)) (l3).toNatClampNeg) 10) (if (zI (h) 1007 (zQ (h) (zR (h) 704 (l0)) (l3).toNatClampNeg)) = (0) then (if (l1) = (0) then (f_X6_countTasks_43 (f_X6_countTasks_4 n) (l0) (l1) (l2) (l3) (h)) else (ck (isO (h) (zR (h) 1003 (zQ (h) (zR (h) 704 (l0)) (l3).toNatClampNeg)) 9) (if (zI (h) 904 (zR (h) 1003 (zQ (h) (zR (h) 704 (l0)) (l3).toNatClampNeg))) ≤ (0) then (f_X6_countTasks_47 (f_X6_countTasks_4 n) (l0) (l1) (l2) (l3) (h)) else (f_X6_countTasks_43 (f_X6_countTasks_4 n) (l0) (l1) (l2) (l3) (h))))) else (f_X6_countTasks_47 (f_X6_countTasks_4 n) (l0) (l1) (l2) (l3) (h)))))))
theorem f_X6_countTasks_4_ok {G : Gd} {d : Nat} (hj : 1 ≤ d) : ∀ (n : Nat) (l0 : Nat) (l1 : Int32) (l2 : Int32) (l3 : Int32) (L : List (Nat × Value)) (h : Hp) (o : (Int32 × Hp)), zlk L 0 = some (zrf (l0)) → zlk L 1 = some (.int (l1)) → zlk L 2 = some (.int (l2)) → zlk L 3 = some (.int (l3)) → f_X6_countTasks_4 n l0 l1 l2 l3 h = some o → Ev G M_X6_countTasks d 4 L [] h (Ret Y_X6_countTasks (some (.int o.1)) o.2) := by
  intro n
  induction n with
  | zero =>
    intro l0 l1 l2 l3 L h o g0 g1 g2 g3 e
    cases e
  | succ n ih =>
    intro l0 l1 l2 l3 L h o g0 g1 g2 g3 e
    unfold f_X6_countTasks_4 at e
    refine r_iload_n d_X6_countTasks_4 rfl g3 ?_
    refine g_ald_n d_X6_countTasks_5 rfl g0 ?_
    replace e := ckd e
    obtain ⟨k1, e⟩ := e
    refine g_getI d_X6_countTasks_6 (f := 710) k1 fk_5_56 rfl rfl ?_
    refine r_icmp_ge d_X6_countTasks_9 (tgt := 69) (by decide) (fun c2 => ?_) (fun c2 => ?_)
    · replace e := (if_pos c2).symm.trans e
      refine r_iload_n d_X6_countTasks_69 rfl g2 ?_
      obtain rfl := Option.some.inj e
      exact g_iret d_X6_countTasks_70 rfl rfl
    · replace e := (if_neg c2).symm.trans e
      refine g_ald_n d_X6_countTasks_12 rfl g0 ?_
      refine g_getR d_X6_countTasks_13 (f := 704) k1 fk_5_19 rfl rfl ?_
      refine r_iload_n d_X6_countTasks_16 rfl g3 ?_
      replace e := ckd e
      obtain ⟨k3, e⟩ := e
      replace e := ckd e
      obtain ⟨k4, e⟩ := e
      refine g_aald d_X6_countTasks_17 k3 (by decide) (by decide) k4 rfl ?_
      replace e := ckd e
      obtain ⟨k5, e⟩ := e
      refine g_getI d_X6_countTasks_18 (f := 1007) k5 fk_5_82 rfl rfl ?_
      refine r_if_ne d_X6_countTasks_21 (tgt := 47) (by decide) (fun c6 => ?_) (fun c6 => ?_)
      · replace e := (if_neg c6).symm.trans e
        exact f_X6_countTasks_47_ok _ hj ih _ _ _ _ _ _ _ g0 g1 g2 g3 e
      · replace e := (if_pos c6).symm.trans e
        refine r_iload_n d_X6_countTasks_24 rfl g1 ?_
        refine r_if_eq d_X6_countTasks_25 (tgt := 43) (by decide) (fun c7 => ?_) (fun c7 => ?_)
        · replace e := (if_pos c7).symm.trans e
          exact f_X6_countTasks_43_ok _ hj ih _ _ _ _ _ _ _ g0 g1 g2 g3 e
        · replace e := (if_neg c7).symm.trans e
          refine g_ald_n d_X6_countTasks_28 rfl g0 ?_
          refine g_getR d_X6_countTasks_29 (f := 704) k1 fk_5_19 rfl rfl ?_
          refine r_iload_n d_X6_countTasks_32 rfl g3 ?_
          refine g_aald d_X6_countTasks_33 k3 (by decide) (by decide) k4 rfl ?_
          refine g_getR d_X6_countTasks_34 (f := 1003) k5 fk_5_85 rfl rfl ?_
          replace e := ckd e
          obtain ⟨k8, e⟩ := e
          refine g_getI d_X6_countTasks_37 (f := 904) k8 fk_5_89 rfl rfl ?_
          refine r_if_le d_X6_countTasks_40 (tgt := 47) (by decide) (fun c9 => ?_) (fun c9 => ?_)
          · replace e := (if_pos c9).symm.trans e
            exact f_X6_countTasks_47_ok _ hj ih _ _ _ _ _ _ _ g0 g1 g2 g3 e
          · replace e := (if_neg c9).symm.trans e
            exact f_X6_countTasks_43_ok _ hj ih _ _ _ _ _ _ _ g0 g1 g2 g3 e

def f_X6_countTasks (l0 : Nat) (l1 : Int32) (h : Hp) : Option (Int32 × Hp) := f_X6_countTasks_4 fz (l0) (l1) ((0 : Int32)) ((0 : Int32)) (h)
theorem f_X6_countTasks_ok {G : Gd} {d : Nat} (hj : 1 ≤ d) : ∀ (l0 : Nat) (l1 : Int32) (L : List (Nat × Value)) (h : Hp) (o : (Int32 × Hp)), zlk L 0 = some (zrf (l0)) → zlk L 1 = some (.int (l1)) → f_X6_countTasks l0 l1 h = some o → Ev G M_X6_countTasks d 0 L [] h (Ret Y_X6_countTasks (some (.int o.1)) o.2) := by
  intro l0 l1 L h o g0 g1 e
  unfold f_X6_countTasks at e
  refine r_iconst d_X6_countTasks_0 (v := (0 : Int32)) (by decide +kernel) ?_
  refine s_istore_n d_X6_countTasks_1 rfl (by decide) (fun L g2 gK => ?_)
  replace g0 := gK _ _ (by decide) (Or.inr (zrf_cat _)) g0
  replace g1 := gK _ _ (by decide) (Or.inr rfl) g1
  refine r_iconst d_X6_countTasks_2 (v := (0 : Int32)) (by decide +kernel) ?_
  refine s_istore_n d_X6_countTasks_3 rfl (by decide) (fun L g3 gK => ?_)
  replace g0 := gK _ _ (by decide) (Or.inr (zrf_cat _)) g0
  replace g1 := gK _ _ (by decide) (Or.inr rfl) g1
  replace g2 := gK _ _ (by decide) (Or.inr rfl) g2
  exact f_X6_countTasks_4_ok hj _ _ _ _ _ _ _ _ g0 g1 g2 g3 e

theorem c_X6_countTasks {G : Gd} {j : Nat} (hj : 1 ≤ j) {l0 : Nat} {l1 : Int32} {h : Hp} {o : (Int32 × Hp)} (e : f_X6_countTasks l0 l1 h = some o) : Cal G j Y_X6_countTasks [zrf (l0), .int (l1)] h (some (.int o.1)) o.2 := Cal.of (n := 0) (I := false) (by first | exact Or.inl (by decide +kernel) | exact Or.inr (by decide +kernel)) (by decide) (by simp [lg_sl, zrf_cat, cat_int, cat_long]) (f_X6_countTasks_ok hj _ _ _ h o (by simp [lv_args, zlk, zrf_cat, cat_int, cat_long]) (by simp [lv_args, zlk, zrf_cat, cat_int, cat_long]) e)
theorem fk_5_94 : Fk "TaskWeave$Shard" 94 603 := ⟨by decide, by decide, by decide +kernel⟩
def f_X6_mostAreUp_30 (K4 : Nat → Int32 → Int32 → Hp → Option (Int32 × Hp)) (s0 : Int32) (s1 : Int32) (l0 : Nat) (l2 : Int32) (h : Hp) : Option (Int32 × Hp) := bh ((s0) + (s1)) (fun x8 => bh ((l2) + (1 : Int32)) (fun x9 => K4 (l0) (x8) (x9) (h)))
theorem f_X6_mostAreUp_30_ok {G : Gd} {d : Nat} (K4 : Nat → Int32 → Int32 → Hp → Option (Int32 × Hp)) (hj : 1 ≤ d) (hK4 : ∀ (l0 : Nat) (l1 : Int32) (l2 : Int32) (L : List (Nat × Value)) (h : Hp) (o : (Int32 × Hp)), zlk L 0 = some (zrf (l0)) → zlk L 1 = some (.int (l1)) → zlk L 2 = some (.int (l2)) → K4 l0 l1 l2 h = some o → Ev G M_X6_mostAreUp d 4 L [] h (Ret Y_X6_mostAreUp (some (.int o.1)) o.2)) : ∀ (s0 : Int32) (s1 : Int32) (l0 : Nat) (l2 : Int32) (L : List (Nat × Value)) (h : Hp) (o : (Int32 × Hp)), zlk L 0 = some (zrf (l0)) → zlk L 2 = some (.int (l2)) → f_X6_mostAreUp_30 K4 s0 s1 l0 l2 h = some o → Ev G M_X6_mostAreUp d 30 L [.int (s1), .int (s0)] h (Ret Y_X6_mostAreUp (some (.int o.1)) o.2) := by
  intro s0 s1 l0 l2 L h o g0 g2 e
  unfold f_X6_mostAreUp_30 at e
  refine r_iadd d_X6_mostAreUp_30 ?_
  replace e := bhd e
  obtain ⟨_, rfl, e⟩ := e
  refine s_istore_n d_X6_mostAreUp_31 rfl (by decide) (fun L g1 gK => ?_)
  replace g0 := gK _ _ (by decide) (Or.inr (zrf_cat _)) g0
  replace g2 := gK _ _ (by decide) (Or.inr rfl) g2
  replace e := bhd e
  obtain ⟨_, rfl, e⟩ := e
  refine s_iinc d_X6_mostAreUp_32 g2 (w := (1 : Int32)) (by decide +kernel) (by decide) (fun L g2 gK => ?_)
  replace g0 := gK _ _ (by decide) (Or.inr (zrf_cat _)) g0
  replace g1 := gK _ _ (by decide) (Or.inr rfl) g1
  refine r_goto d_X6_mostAreUp_35 (tgt := 4) (by decide) ?_
  exact hK4 _ _ _ _ _ _ g0 g1 g2 e

def f_X6_mostAreUp_4 : Nat → Nat → Int32 → Int32 → Hp → Option (Int32 × Hp)
  | 0, _, _, _, _ => none
  | n + 1, l0, l1, l2, h => ck (isO (h) (l0) 7) (if (zI (h) 707 (l0)) ≤ (l2) then (if (((2 : Int32)) * (l1)) ≤ (zI (h) 707 (l0)) then (some ((0 : Int32), h)) else (some ((1 : Int32), h))) else (ck (isO (h) (zR (h) 703 (l0)) 25) (ck (inR (l2) (zL (h) (zR (h) 703 (l0)))) (ck (isO (h) (zQ (h) (zR (h) 703 (l0)) (l2).toNatClampNeg) 6) (if (zI (h) 603 (zQ (h) (zR (h) 703 (l0)) (l2).toNatClampNeg)) = (0) then (f_X6_mostAreUp_30 (f_X6_mostAreUp_4 n) (l1) ((0 : Int32)) (l0) (l2) (h)) else (f_X6_mostAreUp_30 (f_X6_mostAreUp_4 n) (l1) ((1 : Int32)) (l0) (l2) (h)))))))
theorem f_X6_mostAreUp_4_ok {G : Gd} {d : Nat} (hj : 1 ≤ d) : ∀ (n : Nat) (l0 : Nat) (l1 : Int32) (l2 : Int32) (L : List (Nat × Value)) (h : Hp) (o : (Int32 × Hp)), zlk L 0 = some (zrf (l0)) → zlk L 1 = some (.int (l1)) → zlk L 2 = some (.int (l2)) → f_X6_mostAreUp_4 n l0 l1 l2 h = some o → Ev G M_X6_mostAreUp d 4 L [] h (Ret Y_X6_mostAreUp (some (.int o.1)) o.2) := by
  intro n
  induction n with
  | zero =>
    intro l0 l1 l2 L h o g0 g1 g2 e
    cases e
  | succ n ih =>
    intro l0 l1 l2 L h o g0 g1 g2 e
    unfold f_X6_mostAreUp_4 at e
    refine r_iload_n d_X6_mostAreUp_4 rfl g2 ?_
    refine g_ald_n d_X6_mostAreUp_5 rfl g0 ?_
    replace e := ckd e
    obtain ⟨k1, e⟩ := e
    refine g_getI d_X6_mostAreUp_6 (f := 707) k1 fk_5_34 rfl rfl ?_
    refine r_icmp_ge d_X6_mostAreUp_9 (tgt := 38) (by decide) (fun c2 => ?_) (fun c2 => ?_)
    · replace e := (if_pos c2).symm.trans e
      refine r_iconst d_X6_mostAreUp_38 (v := (2 : Int32)) (by decide +kernel) ?_
      refine r_iload_n d_X6_mostAreUp_39 rfl g1 ?_
      refine r_imul d_X6_mostAreUp_40 ?_
      refine g_ald_n d_X6_mostAreUp_41 rfl g0 ?_
      refine g_getI d_X6_mostAreUp_42 (f := 707) k1 fk_5_34 rfl rfl ?_
      refine r_icmp_le d_X6_mostAreUp_45 (tgt := 52) (by decide) (fun c3 => ?_) (fun c3 => ?_)
      · replace e := (if_pos c3).symm.trans e
        refine r_iconst d_X6_mostAreUp_52 (v := (0 : Int32)) (by decide +kernel) ?_
        obtain rfl := Option.some.inj e
        exact g_iret d_X6_mostAreUp_53 rfl rfl
      · replace e := (if_neg c3).symm.trans e
        refine r_iconst d_X6_mostAreUp_48 (v := (1 : Int32)) (by decide +kernel) ?_
        refine r_goto d_X6_mostAreUp_49 (tgt := 53) (by decide) ?_
        obtain rfl := Option.some.inj e
        exact g_iret d_X6_mostAreUp_53 rfl rfl
    · replace e := (if_neg c2).symm.trans e
      refine r_iload_n d_X6_mostAreUp_12 rfl g1 ?_
      refine g_ald_n d_X6_mostAreUp_13 rfl g0 ?_
      refine g_getR d_X6_mostAreUp_14 (f := 703) k1 fk_5_11 rfl rfl ?_
      refine r_iload_n d_X6_mostAreUp_17 rfl g2 ?_
      replace e := ckd e
      obtain ⟨k4, e⟩ := e
      replace e := ckd e
      obtain ⟨k5, e⟩ := e
      refine g_aald d_X6_mostAreUp_18 k4 (by decide) (by decide) k5 rfl ?_
      replace e := ckd e
      obtain ⟨k6, e⟩ := e
      refine g_getI d_X6_mostAreUp_19 (f := 603) k6 fk_5_94 rfl rfl ?_
      refine r_if_eq d_X6_mostAreUp_22 (tgt := 29) (by decide) (fun c7 => ?_) (fun c7 => ?_)
      · replace e := (if_pos c7).symm.trans e
        refine r_iconst d_X6_mostAreUp_29 (v := (0 : Int32)) (by decide +kernel) ?_
        exact f_X6_mostAreUp_30_ok _ hj ih _ _ _ _ _ _ _ g0 g2 e
      · replace e := (if_neg c7).symm.trans e
        refine r_iconst d_X6_mostAreUp_25 (v := (1 : Int32)) (by decide +kernel) ?_
        refine r_goto d_X6_mostAreUp_26 (tgt := 30) (by decide) ?_
        exact f_X6_mostAreUp_30_ok _ hj ih _ _ _ _ _ _ _ g0 g2 e

def f_X6_mostAreUp (l0 : Nat) (h : Hp) : Option (Int32 × Hp) := f_X6_mostAreUp_4 fz (l0) ((0 : Int32)) ((0 : Int32)) (h)
theorem f_X6_mostAreUp_ok {G : Gd} {d : Nat} (hj : 1 ≤ d) : ∀ (l0 : Nat) (L : List (Nat × Value)) (h : Hp) (o : (Int32 × Hp)), zlk L 0 = some (zrf (l0)) → f_X6_mostAreUp l0 h = some o → Ev G M_X6_mostAreUp d 0 L [] h (Ret Y_X6_mostAreUp (some (.int o.1)) o.2) := by
  intro l0 L h o g0 e
  unfold f_X6_mostAreUp at e
  refine r_iconst d_X6_mostAreUp_0 (v := (0 : Int32)) (by decide +kernel) ?_
  refine s_istore_n d_X6_mostAreUp_1 rfl (by decide) (fun L g1 gK => ?_)
  replace g0 := gK _ _ (by decide) (Or.inr (zrf_cat _)) g0
  refine r_iconst d_X6_mostAreUp_2 (v := (0 : Int32)) (by decide +kernel) ?_
  refine s_istore_n d_X6_mostAreUp_3 rfl (by decide) (fun L g2 gK => ?_)
  replace g0 := gK _ _ (by decide) (Or.inr (zrf_cat _)) g0
  replace g1 := gK _ _ (by decide) (Or.inr rfl) g1
  exact f_X6_mostAreUp_4_ok hj _ _ _ _ _ _ _ g0 g1 g2 e

theorem c_X6_mostAreUp {G : Gd} {j : Nat} (hj : 1 ≤ j) {l0 : Nat} {h : Hp} {o : (Int32 × Hp)} (e : f_X6_mostAreUp l0 h = some o) : Cal G j Y_X6_mostAreUp [zrf (l0)] h (some (.int o.1)) o.2 := Cal.of (n := 0) (I := false) (by first | exact Or.inl (by decide +kernel) | exact Or.inr (by decide +kernel)) (by decide) (by simp [lg_sl, zrf_cat, cat_int, cat_long]) (f_X6_mostAreUp_ok hj _ _ h o (by simp [lv_args, zlk, zrf_cat, cat_int, cat_long]) e)
def f_X6_loseLeader_7 : Nat → Nat → Int32 → Hp → Option Hp
  | 0, _, _, _ => none
  | n + 1, l0, l1, h => ck (isO (h) (l0) 7) (if (zI (h) 710 (l0)) ≤ (l1) then (some (h)) else (ck (isO (h) (zR (h) 704 (l0)) 28) (ck (inR (l1) (zL (h) (zR (h) 704 (l0)))) (ck (isO (h) (zQ (h) (zR (h) 704 (l0)) (l1).toNatClampNeg) 10) (ck (isO (h) (zR (h) 1003 (zQ (h) (zR (h) 704 (l0)) (l1).toNatClampNeg)) 9) (bh (pI (h) 904 (zR (h) 1003 (zQ (h) (zR (h) 704 (l0)) (l1).toNatClampNeg)) ((0 : Int32))) (fun h9 => bh ((l1) + (1 : Int32)) (fun x10 => f_X6_loseLeader_7 n (l0) (x10) (h9)))))))))
theorem f_X6_loseLeader_7_ok {G : Gd} {d : Nat} (hj : 1 ≤ d) : ∀ (n : Nat) (l0 : Nat) (l1 : Int32) (L : List (Nat × Value)) (h : Hp) (o : Hp), zlk L 0 = some (zrf (l0)) → zlk L 1 = some (.int (l1)) → f_X6_loseLeader_7 n l0 l1 h = some o → Ev G M_X6_loseLeader d 7 L [] h (Ret Y_X6_loseLeader none o) := by
  intro n
  induction n with
  | zero =>
    intro l0 l1 L h o g0 g1 e
    cases e
  | succ n ih =>
    intro l0 l1 L h o g0 g1 e
    unfold f_X6_loseLeader_7 at e
    refine r_iload_n d_X6_loseLeader_7 rfl g1 ?_
    refine g_ald_n d_X6_loseLeader_8 rfl g0 ?_
    replace e := ckd e
    obtain ⟨k3, e⟩ := e
    refine g_getI d_X6_loseLeader_9 (f := 710) k3 fk_5_56 rfl rfl ?_
    refine r_icmp_ge d_X6_loseLeader_12 (tgt := 34) (by decide) (fun c4 => ?_) (fun c4 => ?_)
    · replace e := (if_pos c4).symm.trans e
      obtain rfl := Option.some.inj e
      exact g_vret d_X6_loseLeader_34 rfl
    · replace e := (if_neg c4).symm.trans e
      refine g_ald_n d_X6_loseLeader_15 rfl g0 ?_
      refine g_getR d_X6_loseLeader_16 (f := 704) k3 fk_5_19 rfl rfl ?_
      refine r_iload_n d_X6_loseLeader_19 rfl g1 ?_
      replace e := ckd e
      obtain ⟨k5, e⟩ := e
      replace e := ckd e
      obtain ⟨k6, e⟩ := e
      refine g_aald d_X6_loseLeader_20 k5 (by decide) (by decide) k6 rfl ?_
      replace e := ckd e
      obtain ⟨k7, e⟩ := e
      refine g_getR d_X6_loseLeader_21 (f := 1003) k7 fk_5_85 rfl rfl ?_
      refine r_iconst d_X6_loseLeader_24 (v := (0 : Int32)) (by decide +kernel) ?_
      replace e := ckd e
      obtain ⟨k8, e⟩ := e
      refine g_putI d_X6_loseLeader_25 (f := 904) k8 fk_5_89 rfl (Or.inl rfl) ⟨rfl, rfl⟩ ?_
      replace e := bhd e
      obtain ⟨_, rfl, e⟩ := e
      replace e := bhd e
      obtain ⟨_, rfl, e⟩ := e
      refine s_iinc d_X6_loseLeader_28 g1 (w := (1 : Int32)) (by decide +kernel) (by decide) (fun L g1 gK => ?_)
      replace g0 := gK _ _ (by decide) (Or.inr (zrf_cat _)) g0
      refine r_goto d_X6_loseLeader_31 (tgt := 7) (by decide) ?_
      exact ih _ _ _ _ _ g0 g1 e

def f_X6_loseLeader (l0 : Nat) (h : Hp) : Option Hp := ck (isO (h) (l0) 7) (bh (pI (h) 708 (l0) ((-1 : Int32))) (fun h2 => f_X6_loseLeader_7 fz (l0) ((0 : Int32)) (h2)))
theorem f_X6_loseLeader_ok {G : Gd} {d : Nat} (hj : 1 ≤ d) : ∀ (l0 : Nat) (L : List (Nat × Value)) (h : Hp) (o : Hp), zlk L 0 = some (zrf (l0)) → f_X6_loseLeader l0 h = some o → Ev G M_X6_loseLeader d 0 L [] h (Ret Y_X6_loseLeader none o) := by
  intro l0 L h o g0 e
  unfold f_X6_loseLeader at e
  refine g_ald_n d_X6_loseLeader_0 rfl g0 ?_
  refine r_iconst d_X6_loseLeader_1 (v := (-1 : Int32)) (by decide +kernel) ?_
  replace e := ckd e
  obtain ⟨k1, e⟩ := e
  refine g_putI d_X6_loseLeader_2 (f := 708) k1 fk_5_53 rfl (Or.inl rfl) ⟨rfl, rfl⟩ ?_
  replace e := bhd e
  obtain ⟨_, rfl, e⟩ := e
  refine r_iconst d_X6_loseLeader_5 (v := (0 : Int32)) (by decide +kernel) ?_
  refine s_istore_n d_X6_loseLeader_6 rfl (by decide) (fun L g1 gK => ?_)
  replace g0 := gK _ _ (by decide) (Or.inr (zrf_cat _)) g0
  exact f_X6_loseLeader_7_ok hj _ _ _ _ _ _ g0 g1 e

theorem c_X6_loseLeader {G : Gd} {j : Nat} (hj : 1 ≤ j) {l0 : Nat} {h : Hp} {o : Hp} (e : f_X6_loseLeader l0 h = some o) : Cal G j Y_X6_loseLeader [zrf (l0)] h none o := Cal.of (n := 0) (I := false) (by first | exact Or.inl (by decide +kernel) | exact Or.inr (by decide +kernel)) (by decide) (by simp [lg_sl, zrf_cat, cat_int, cat_long]) (f_X6_loseLeader_ok hj _ _ h o (by simp [lv_args, zlk, zrf_cat, cat_int, cat_long]) e)
theorem fk_5_98 : Fk "TaskWeave$Shard" 98 711 := ⟨by decide, by decide, by decide +kernel⟩
theorem fk_5_102 : Fk "TaskWeave$Shard" 102 709 := ⟨by decide, by decide, by decide +kernel⟩
theorem vk_5_105 : Vk "TaskWeave$Shard" 105 3 6 Y_X5_write := ⟨yk_X5_write, by decide +kernel, by decide +kernel, by decide +kernel, by decide⟩
theorem vk_5_112 : Vk "TaskWeave$Shard" 112 0 7 Y_X6_loseLeader := ⟨yk_X6_loseLeader, by decide +kernel, by decide +kernel, by decide +kernel, by decide⟩
theorem vk_5_109 : Vk "TaskWeave$Shard" 109 0 7 Y_X6_mostAreUp := ⟨yk_X6_mostAreUp, by decide +kernel, by decide +kernel, by decide +kernel, by decide⟩
def f_X6_commit_223 (K183 : Nat → Int32 → Int32 → Hp → Option (Int32 × Hp)) (l0 : Nat) (l6 : Int32) (l7 : Int32) (h : Hp) : Option (Int32 × Hp) := bh ((l7) + (1 : Int32)) (fun x61 => K183 (l0) (l6) (x61) (h))
theorem f_X6_commit_223_ok {G : Gd} {d : Nat} (K183 : Nat → Int32 → Int32 → Hp → Option (Int32 × Hp)) (hj : 3 ≤ d) (hK183 : ∀ (l0 : Nat) (l6 : Int32) (l7 : Int32) (L : List (Nat × Value)) (h : Hp) (o : (Int32 × Hp)), zlk L 0 = some (zrf (l0)) → zlk L 6 = some (.int (l6)) → zlk L 7 = some (.int (l7)) → K183 l0 l6 l7 h = some o → Ev G M_X6_commit d 183 L [] h (Ret Y_X6_commit (some (.int o.1)) o.2)) : ∀ (l0 : Nat) (l6 : Int32) (l7 : Int32) (L : List (Nat × Value)) (h : Hp) (o : (Int32 × Hp)), zlk L 0 = some (zrf (l0)) → zlk L 6 = some (.int (l6)) → zlk L 7 = some (.int (l7)) → f_X6_commit_223 K183 l0 l6 l7 h = some o → Ev G M_X6_commit d 223 L [] h (Ret Y_X6_commit (some (.int o.1)) o.2) := by
  intro l0 l6 l7 L h o g0 g6 g7 e
  unfold f_X6_commit_223 at e
  replace e := bhd e
  obtain ⟨_, rfl, e⟩ := e
  refine s_iinc d_X6_commit_223 g7 (w := (1 : Int32)) (by decide +kernel) (by decide) (fun L g7 gK => ?_)
  replace g0 := gK _ _ (by decide) (Or.inr (zrf_cat _)) g0
  replace g6 := gK _ _ (by decide) (Or.inr rfl) g6
  refine r_goto d_X6_commit_226 (tgt := 183) (by decide) ?_
  exact hK183 _ _ _ _ _ _ g0 g6 g7 e

def f_X6_commit_183 : Nat → Nat → Int32 → Int32 → Hp → Option (Int32 × Hp)
  | 0, _, _, _, _ => none
  | n + 1, l0, l6, l7, h => ck (isO (h) (l0) 7) (if (zI (h) 707 (l0)) ≤ (l7) then (if (l6) = (0) then ((f_X6_loseLeader (l0) (h)).bind (fun q44 => some ((0 : Int32), q44))) else ((f_X6_mostAreUp (l0) (h)).bind (fun q45 => if (q45.1) = (0) then (ck (isO (q45.2) (l0) 7) ((f_X6_loseLeader (l0) (q45.2)).bind (fun q47 => some ((0 : Int32), q47)))) else (some ((1 : Int32), q45.2))))) else (if (l6) = (0) then (if (l6) = (0) then ((f_X6_loseLeader (l0) (h)).bind (fun q51 => some ((0 : Int32), q51))) else ((f_X6_mostAreUp (l0) (h)).bind (fun q52 => if (q52.1) = (0) then (ck (isO (q52.2) (l0) 7) ((f_X6_loseLeader (l0) (q52.2)).bind (fun q54 => some ((0 : Int32), q54)))) else (some ((1 : Int32), q52.2))))) else (if (l7) = (zI (h) 708 (l0)) then (f_X6_commit_223 (f_X6_commit_183 n) (l0) (l6) (l7) (h)) else (ck (isO (h) (zR (h) 703 (l0)) 25) (ck (inR (l7) (zL (h) (zR (h) 703 (l0)))) (ck (isO (h) (zQ (h) (zR (h) 703 (l0)) (l7).toNatClampNeg) 6) ((f_X5_write (zQ (h) (zR (h) 703 (l0)) (l7).toNatClampNeg) (zR (h) 705 (l0)) ((0 : Int32)) ((16 : Int32)) (h)).bind (fun q59 => f_X6_commit_223 (f_X6_commit_183 n) (l0) (l6) (l7) (q59)))))))))
theorem f_X6_commit_183_ok {G : Gd} {d : Nat} (hj : 3 ≤ d) : ∀ (n : Nat) (l0 : Nat) (l6 : Int32) (l7 : Int32) (L : List (Nat × Value)) (h : Hp) (o : (Int32 × Hp)), zlk L 0 = some (zrf (l0)) → zlk L 6 = some (.int (l6)) → zlk L 7 = some (.int (l7)) → f_X6_commit_183 n l0 l6 l7 h = some o → Ev G M_X6_commit d 183 L [] h (Ret Y_X6_commit (some (.int o.1)) o.2) := by
  intro n
  induction n with
  | zero =>
    intro l0 l6 l7 L h o g0 g6 g7 e
    cases e
  | succ n ih =>
    intro l0 l6 l7 L h o g0 g6 g7 e
    unfold f_X6_commit_183 at e
    refine r_iload d_X6_commit_183 g7 ?_
    refine g_ald_n d_X6_commit_185 rfl g0 ?_
    replace e := ckd e
    obtain ⟨k41, e⟩ := e
    refine g_getI d_X6_commit_186 (f := 707) k41 fk_5_34 rfl rfl ?_
    refine r_icmp_ge d_X6_commit_189 (tgt := 229) (by decide) (fun c42 => ?_) (fun c42 => ?_)
    · replace e := (if_pos c42).symm.trans e
      refine r_iload d_X6_commit_229 g6 ?_
      refine r_if_eq d_X6_commit_231 (tgt := 243) (by decide) (fun c43 => ?_) (fun c43 => ?_)
      · replace e := (if_pos c43).symm.trans e
        refine g_ald_n d_X6_commit_243 rfl g0 ?_
        replace e := bd e
        obtain ⟨q44, eq44, e⟩ := e
        refine g_callV d_X6_commit_244 vk_5_112 (as := []) rfl k41 rfl (by simp [zrf_cat, cat_int, cat_long]) (j := 1) (by omega) (c_X6_loseLeader (by omega) eq44) ?_
        refine r_iconst d_X6_commit_247 (v := (0 : Int32)) (by decide +kernel) ?_
        obtain rfl := Option.some.inj e
        exact g_iret d_X6_commit_248 rfl rfl
      · replace e := (if_neg c43).symm.trans e
        refine g_ald_n d_X6_commit_234 rfl g0 ?_
        replace e := bd e
        obtain ⟨q45, eq45, e⟩ := e
        refine g_callV d_X6_commit_235 vk_5_109 (as := []) rfl k41 rfl (by simp [zrf_cat, cat_int, cat_long]) (j := 1) (by omega) (c_X6_mostAreUp (by omega) eq45) ?_
        refine r_if_eq d_X6_commit_238 (tgt := 243) (by decide) (fun c46 => ?_) (fun c46 => ?_)
        · replace e := (if_pos c46).symm.trans e
          refine g_ald_n d_X6_commit_243 rfl g0 ?_
          replace e := ckd e
          obtain ⟨k48, e⟩ := e
          replace e := bd e
          obtain ⟨q47, eq47, e⟩ := e
          refine g_callV d_X6_commit_244 vk_5_112 (as := []) rfl k48 rfl (by simp [zrf_cat, cat_int, cat_long]) (j := 1) (by omega) (c_X6_loseLeader (by omega) eq47) ?_
          refine r_iconst d_X6_commit_247 (v := (0 : Int32)) (by decide +kernel) ?_
          obtain rfl := Option.some.inj e
          exact g_iret d_X6_commit_248 rfl rfl
        · replace e := (if_neg c46).symm.trans e
          refine r_iconst d_X6_commit_241 (v := (1 : Int32)) (by decide +kernel) ?_
          obtain rfl := Option.some.inj e
          exact g_iret d_X6_commit_242 rfl rfl
    · replace e := (if_neg c42).symm.trans e
      refine r_iload d_X6_commit_192 g6 ?_
      refine r_if_eq d_X6_commit_194 (tgt := 229) (by decide) (fun c49 => ?_) (fun c49 => ?_)
      · replace e := (if_pos c49).symm.trans e
        refine r_iload d_X6_commit_229 g6 ?_
        refine r_if_eq d_X6_commit_231 (tgt := 243) (by decide) (fun c50 => ?_) (fun c50 => ?_)
        · replace e := (if_pos c50).symm.trans e
          refine g_ald_n d_X6_commit_243 rfl g0 ?_
          replace e := bd e
          obtain ⟨q51, eq51, e⟩ := e
          refine g_callV d_X6_commit_244 vk_5_112 (as := []) rfl k41 rfl (by simp [zrf_cat, cat_int, cat_long]) (j := 1) (by omega) (c_X6_loseLeader (by omega) eq51) ?_
          refine r_iconst d_X6_commit_247 (v := (0 : Int32)) (by decide +kernel) ?_
          obtain rfl := Option.some.inj e
          exact g_iret d_X6_commit_248 rfl rfl
        · replace e := (if_neg c50).symm.trans e
          refine g_ald_n d_X6_commit_234 rfl g0 ?_
          replace e := bd e
          obtain ⟨q52, eq52, e⟩ := e
          refine g_callV d_X6_commit_235 vk_5_109 (as := []) rfl k41 rfl (by simp [zrf_cat, cat_int, cat_long]) (j := 1) (by omega) (c_X6_mostAreUp (by omega) eq52) ?_
          refine r_if_eq d_X6_commit_238 (tgt := 243) (by decide) (fun c53 => ?_) (fun c53 => ?_)
          · replace e := (if_pos c53).symm.trans e
            refine g_ald_n d_X6_commit_243 rfl g0 ?_
            replace e := ckd e
            obtain ⟨k55, e⟩ := e
            replace e := bd e
            obtain ⟨q54, eq54, e⟩ := e
            refine g_callV d_X6_commit_244 vk_5_112 (as := []) rfl k55 rfl (by simp [zrf_cat, cat_int, cat_long]) (j := 1) (by omega) (c_X6_loseLeader (by omega) eq54) ?_
            refine r_iconst d_X6_commit_247 (v := (0 : Int32)) (by decide +kernel) ?_
            obtain rfl := Option.some.inj e
            exact g_iret d_X6_commit_248 rfl rfl
          · replace e := (if_neg c53).symm.trans e
            refine r_iconst d_X6_commit_241 (v := (1 : Int32)) (by decide +kernel) ?_
            obtain rfl := Option.some.inj e
            exact g_iret d_X6_commit_242 rfl rfl
      · replace e := (if_neg c49).symm.trans e
        refine r_iload d_X6_commit_197 g7 ?_
        refine g_ald_n d_X6_commit_199 rfl g0 ?_
        refine g_getI d_X6_commit_200 (f := 708) k41 fk_5_53 rfl rfl ?_
        refine r_icmp_eq d_X6_commit_203 (tgt := 223) (by decide) (fun c56 => ?_) (fun c56 => ?_)
        · replace e := (if_pos c56).symm.trans e
          exact f_X6_commit_223_ok _ hj ih _ _ _ _ _ _ g0 g6 g7 e
        · replace e := (if_neg c56).symm.trans e
          refine g_ald_n d_X6_commit_206 rfl g0 ?_
          refine g_getR d_X6_commit_207 (f := 703) k41 fk_5_11 rfl rfl ?_
          refine r_iload d_X6_commit_210 g7 ?_
          replace e := ckd e
          obtain ⟨k57, e⟩ := e
          replace e := ckd e
          obtain ⟨k58, e⟩ := e
          refine g_aald d_X6_commit_212 k57 (by decide) (by decide) k58 rfl ?_
          refine g_ald_n d_X6_commit_213 rfl g0 ?_
          refine g_getR d_X6_commit_214 (f := 705) k41 fk_5_23 rfl rfl ?_
          refine r_iconst d_X6_commit_217 (v := (0 : Int32)) (by decide +kernel) ?_
          refine r_bipush d_X6_commit_218 (v := (16 : Int32)) (by decide +kernel) ?_
          replace e := ckd e
          obtain ⟨k60, e⟩ := e
          replace e := bd e
          obtain ⟨q59, eq59, e⟩ := e
          refine g_callV d_X6_commit_220 vk_5_105 (as := [_, _, _]) rfl k60 rfl (by simp [zrf_cat, cat_int, cat_long]) (j := 2) (by omega) (c_X5_write (by omega) eq59) ?_
          exact f_X6_commit_223_ok _ hj ih _ _ _ _ _ _ g0 g6 g7 e

def f_X6_commit_180 (l0 : Nat) (l6 : Int32) (h : Hp) : Option (Int32 × Hp) := f_X6_commit_183 fz (l0) (l6) ((0 : Int32)) (h)
theorem f_X6_commit_180_ok {G : Gd} {d : Nat} (hj : 3 ≤ d) : ∀ (l0 : Nat) (l6 : Int32) (L : List (Nat × Value)) (h : Hp) (o : (Int32 × Hp)), zlk L 0 = some (zrf (l0)) → zlk L 6 = some (.int (l6)) → f_X6_commit_180 l0 l6 h = some o → Ev G M_X6_commit d 180 L [] h (Ret Y_X6_commit (some (.int o.1)) o.2) := by
  intro l0 l6 L h o g0 g6 e
  unfold f_X6_commit_180 at e
  refine r_iconst d_X6_commit_180 (v := (0 : Int32)) (by decide +kernel) ?_
  refine s_istore d_X6_commit_181 (by decide) (fun L g7 gK => ?_)
  replace g0 := gK _ _ (by decide) (Or.inr (zrf_cat _)) g0
  replace g6 := gK _ _ (by decide) (Or.inr rfl) g6
  exact f_X6_commit_183_ok hj _ _ _ _ _ _ _ g0 g6 g7 e

def f_X6_commit_140 (s0 : Int32) (l0 : Nat) (h : Hp) : Option (Int32 × Hp) := if (s0) = (0) then (f_X6_commit_180 (l0) (s0) (h)) else (ck (isO (h) (l0) 7) (ck (isO (h) (zR (h) 703 (l0)) 25) (ck (inR (zI (h) 708 (l0)) (zL (h) (zR (h) 703 (l0)))) (ck (isO (h) (zQ (h) (zR (h) 703 (l0)) (zI (h) 708 (l0)).toNatClampNeg) 6) ((f_X5_write (zQ (h) (zR (h) 703 (l0)) (zI (h) 708 (l0)).toNatClampNeg) (zR (h) 705 (l0)) ((0 : Int32)) ((16 : Int32)) (h)).bind (fun q34 => ck (isO (q34) (l0) 7) (ck (isO (q34) (zR (q34) 703 (l0)) 25) (ck (inR (zI (q34) 708 (l0)) (zL (q34) (zR (q34) 703 (l0)))) (ck (isO (q34) (zQ (q34) (zR (q34) 703 (l0)) (zI (q34) 708 (l0)).toNatClampNeg) 6) (bh (zI (q34) 603 (zQ (q34) (zR (q34) 703 (l0)) (zI (q34) 708 (l0)).toNatClampNeg)) (fun x40 => f_X6_commit_180 (l0) (x40) (q34))))))))))))
theorem f_X6_commit_140_ok {G : Gd} {d : Nat} (hj : 3 ≤ d) : ∀ (s0 : Int32) (l0 : Nat) (L : List (Nat × Value)) (h : Hp) (o : (Int32 × Hp)), zlk L 0 = some (zrf (l0)) → f_X6_commit_140 s0 l0 h = some o → Ev G M_X6_commit d 140 L [.int (s0)] h (Ret Y_X6_commit (some (.int o.1)) o.2) := by
  intro s0 l0 L h o g0 e
  unfold f_X6_commit_140 at e
  refine s_istore d_X6_commit_140 (by decide) (fun L g6 gK => ?_)
  replace g0 := gK _ _ (by decide) (Or.inr (zrf_cat _)) g0
  refine r_iload d_X6_commit_142 g6 ?_
  refine r_if_eq d_X6_commit_144 (tgt := 180) (by decide) (fun c30 => ?_) (fun c30 => ?_)
  · replace e := (if_pos c30).symm.trans e
    exact f_X6_commit_180_ok hj _ _ _ _ _ g0 g6 e
  · replace e := (if_neg c30).symm.trans e
    refine g_ald_n d_X6_commit_147 rfl g0 ?_
    replace e := ckd e
    obtain ⟨k31, e⟩ := e
    refine g_getR d_X6_commit_148 (f := 703) k31 fk_5_11 rfl rfl ?_
    refine g_ald_n d_X6_commit_151 rfl g0 ?_
    refine g_getI d_X6_commit_152 (f := 708) k31 fk_5_53 rfl rfl ?_
    replace e := ckd e
    obtain ⟨k32, e⟩ := e
    replace e := ckd e
    obtain ⟨k33, e⟩ := e
    refine g_aald d_X6_commit_155 k32 (by decide) (by decide) k33 rfl ?_
    refine g_ald_n d_X6_commit_156 rfl g0 ?_
    refine g_getR d_X6_commit_157 (f := 705) k31 fk_5_23 rfl rfl ?_
    refine r_iconst d_X6_commit_160 (v := (0 : Int32)) (by decide +kernel) ?_
    refine r_bipush d_X6_commit_161 (v := (16 : Int32)) (by decide +kernel) ?_
    replace e := ckd e
    obtain ⟨k35, e⟩ := e
    replace e := bd e
    obtain ⟨q34, eq34, e⟩ := e
    refine g_callV d_X6_commit_163 vk_5_105 (as := [_, _, _]) rfl k35 rfl (by simp [zrf_cat, cat_int, cat_long]) (j := 2) (by omega) (c_X5_write (by omega) eq34) ?_
    refine g_ald_n d_X6_commit_166 rfl g0 ?_
    replace e := ckd e
    obtain ⟨k36, e⟩ := e
    refine g_getR d_X6_commit_167 (f := 703) k36 fk_5_11 rfl rfl ?_
    refine g_ald_n d_X6_commit_170 rfl g0 ?_
    refine g_getI d_X6_commit_171 (f := 708) k36 fk_5_53 rfl rfl ?_
    replace e := ckd e
    obtain ⟨k37, e⟩ := e
    replace e := ckd e
    obtain ⟨k38, e⟩ := e
    refine g_aald d_X6_commit_174 k37 (by decide) (by decide) k38 rfl ?_
    replace e := ckd e
    obtain ⟨k39, e⟩ := e
    refine g_getI d_X6_commit_175 (f := 603) k39 fk_5_94 rfl rfl ?_
    replace e := bhd e
    obtain ⟨_, rfl, e⟩ := e
    refine s_istore d_X6_commit_178 (by decide) (fun L g6 gK => ?_)
    replace g0 := gK _ _ (by decide) (Or.inr (zrf_cat _)) g0
    exact f_X6_commit_180_ok hj _ _ _ _ _ g0 g6 e

def f_X6_commit_51 : Nat → Nat → Int32 → Int32 → Int32 → Int32 → Hp → Option (Int32 × Hp)
  | 0, _, _, _, _, _, _ => none
  | n + 1, l0, l3, l4, l5, l6, h => if ((4 : Int32)) ≤ (l6) then (ck (isO (h) (l0) 7) (ck (isO (h) (zR (h) 705 (l0)) 20) (ck (inR ((15 : Int32)) (zL (h) (zR (h) 705 (l0)))) (bh (pE (h) (zR (h) 705 (l0)) ((15 : Int32)).toNatClampNeg (((1 : Int32)).toInt8.toInt32)) (fun h16 => if (zI (h16) 708 (l0)) = ((-1 : Int32)) then (f_X6_commit_140 ((0 : Int32)) (l0) (h16)) else (f_X6_commit_140 ((1 : Int32)) (l0) (h16))))))) else (bh (((24 : Int32)) - (((8 : Int32)) * (l6))) (fun x18 => ck (isO (h) (l0) 7) (ck (isO (h) (zR (h) 705 (l0)) 20) (ck (inR (((3 : Int32)) + (l6)) (zL (h) (zR (h) 705 (l0)))) (bh (pE (h) (zR (h) 705 (l0)) (((3 : Int32)) + (l6)).toNatClampNeg ((((l3) >>> ((x18) &&& 31)).toInt8.toInt32).toInt8.toInt32)) (fun h22 => ck (isO (h22) (zR (h22) 705 (l0)) 20) (ck (inR (((7 : Int32)) + (l6)) (zL (h22) (zR (h22) 705 (l0)))) (bh (pE (h22) (zR (h22) 705 (l0)) (((7 : Int32)) + (l6)).toNatClampNeg ((((l4) >>> ((x18) &&& 31)).toInt8.toInt32).toInt8.toInt32)) (fun h25 => ck (isO (h25) (zR (h25) 705 (l0)) 20) (ck (inR (((11 : Int32)) + (l6)) (zL (h25) (zR (h25) 705 (l0)))) (bh (pE (h25) (zR (h25) 705 (l0)) (((11 : Int32)) + (l6)).toNatClampNeg ((((l5) >>> ((x18) &&& 31)).toInt8.toInt32).toInt8.toInt32)) (fun h28 => bh ((l6) + (1 : Int32)) (fun x29 => f_X6_commit_51 n (l0) (l3) (l4) (l5) (x29) (h28))))))))))))))
theorem f_X6_commit_51_ok {G : Gd} {d : Nat} (hj : 3 ≤ d) : ∀ (n : Nat) (l0 : Nat) (l3 : Int32) (l4 : Int32) (l5 : Int32) (l6 : Int32) (L : List (Nat × Value)) (h : Hp) (o : (Int32 × Hp)), zlk L 0 = some (zrf (l0)) → zlk L 3 = some (.int (l3)) → zlk L 4 = some (.int (l4)) → zlk L 5 = some (.int (l5)) → zlk L 6 = some (.int (l6)) → f_X6_commit_51 n l0 l3 l4 l5 l6 h = some o → Ev G M_X6_commit d 51 L [] h (Ret Y_X6_commit (some (.int o.1)) o.2) := by
  intro n
  induction n with
  | zero =>
    intro l0 l3 l4 l5 l6 L h o g0 g3 g4 g5 g6 e
    cases e
  | succ n ih =>
    intro l0 l3 l4 l5 l6 L h o g0 g3 g4 g5 g6 e
    unfold f_X6_commit_51 at e
    refine r_iload d_X6_commit_51 g6 ?_
    refine r_iconst d_X6_commit_53 (v := (4 : Int32)) (by decide +kernel) ?_
    refine r_icmp_ge d_X6_commit_54 (tgt := 119) (by decide) (fun c12 => ?_) (fun c12 => ?_)
    · replace e := (if_pos c12).symm.trans e
      refine g_ald_n d_X6_commit_119 rfl g0 ?_
      replace e := ckd e
      obtain ⟨k13, e⟩ := e
      refine g_getR d_X6_commit_120 (f := 705) k13 fk_5_23 rfl rfl ?_
      refine r_bipush d_X6_commit_123 (v := (15 : Int32)) (by decide +kernel) ?_
      refine r_iconst d_X6_commit_125 (v := (1 : Int32)) (by decide +kernel) ?_
      replace e := ckd e
      obtain ⟨k14, e⟩ := e
      replace e := ckd e
      obtain ⟨k15, e⟩ := e
      refine g_bast d_X6_commit_126 k14 k15 ?_
      replace e := bhd e
      obtain ⟨_, rfl, e⟩ := e
      refine g_ald_n d_X6_commit_127 rfl g0 ?_
      refine g_getI d_X6_commit_128 (f := 708) (tO_pE k13) fk_5_53 rfl rfl ?_
      refine r_iconst d_X6_commit_131 (v := (-1 : Int32)) (by decide +kernel) ?_
      refine r_icmp_eq d_X6_commit_132 (tgt := 139) (by decide) (fun c17 => ?_) (fun c17 => ?_)
      · replace e := (if_pos c17).symm.trans e
        refine r_iconst d_X6_commit_139 (v := (0 : Int32)) (by decide +kernel) ?_
        exact f_X6_commit_140_ok hj _ _ _ _ _ g0 e
      · replace e := (if_neg c17).symm.trans e
        refine r_iconst d_X6_commit_135 (v := (1 : Int32)) (by decide +kernel) ?_
        refine r_goto d_X6_commit_136 (tgt := 140) (by decide) ?_
        exact f_X6_commit_140_ok hj _ _ _ _ _ g0 e
    · replace e := (if_neg c12).symm.trans e
      refine r_bipush d_X6_commit_57 (v := (24 : Int32)) (by decide +kernel) ?_
      refine r_bipush d_X6_commit_59 (v := (8 : Int32)) (by decide +kernel) ?_
      refine r_iload d_X6_commit_61 g6 ?_
      refine r_imul d_X6_commit_63 ?_
      refine r_isub d_X6_commit_64 ?_
      replace e := bhd e
      obtain ⟨_, rfl, e⟩ := e
      refine s_istore d_X6_commit_65 (by decide) (fun L g7 gK => ?_)
      replace g0 := gK _ _ (by decide) (Or.inr (zrf_cat _)) g0
      replace g3 := gK _ _ (by decide) (Or.inr rfl) g3
      replace g4 := gK _ _ (by decide) (Or.inr rfl) g4
      replace g5 := gK _ _ (by decide) (Or.inr rfl) g5
      replace g6 := gK _ _ (by decide) (Or.inr rfl) g6
      refine g_ald_n d_X6_commit_67 rfl g0 ?_
      replace e := ckd e
      obtain ⟨k19, e⟩ := e
      refine g_getR d_X6_commit_68 (f := 705) k19 fk_5_23 rfl rfl ?_
      refine r_iconst d_X6_commit_71 (v := (3 : Int32)) (by decide +kernel) ?_
      refine r_iload d_X6_commit_72 g6 ?_
      refine r_iadd d_X6_commit_74 ?_
      refine r_iload_n d_X6_commit_75 rfl g3 ?_
      refine r_iload d_X6_commit_76 g7 ?_
      refine r_ishr d_X6_commit_78 ?_
      refine r_i2b d_X6_commit_79 ?_
      replace e := ckd e
      obtain ⟨k20, e⟩ := e
      replace e := ckd e
      obtain ⟨k21, e⟩ := e
      refine g_bast d_X6_commit_80 k20 k21 ?_
      replace e := bhd e
      obtain ⟨_, rfl, e⟩ := e
      refine g_ald_n d_X6_commit_81 rfl g0 ?_
      refine g_getR d_X6_commit_82 (f := 705) (tO_pE k19) fk_5_23 rfl rfl ?_
      refine r_bipush d_X6_commit_85 (v := (7 : Int32)) (by decide +kernel) ?_
      refine r_iload d_X6_commit_87 g6 ?_
      refine r_iadd d_X6_commit_89 ?_
      refine r_iload d_X6_commit_90 g4 ?_
      refine r_iload d_X6_commit_92 g7 ?_
      refine r_ishr d_X6_commit_94 ?_
      refine r_i2b d_X6_commit_95 ?_
      replace e := ckd e
      obtain ⟨k23, e⟩ := e
      replace e := ckd e
      obtain ⟨k24, e⟩ := e
      refine g_bast d_X6_commit_96 k23 k24 ?_
      replace e := bhd e
      obtain ⟨_, rfl, e⟩ := e
      refine g_ald_n d_X6_commit_97 rfl g0 ?_
      refine g_getR d_X6_commit_98 (f := 705) (tO_pE (tO_pE k19)) fk_5_23 rfl rfl ?_
      refine r_bipush d_X6_commit_101 (v := (11 : Int32)) (by decide +kernel) ?_
      refine r_iload d_X6_commit_103 g6 ?_
      refine r_iadd d_X6_commit_105 ?_
      refine r_iload d_X6_commit_106 g5 ?_
      refine r_iload d_X6_commit_108 g7 ?_
      refine r_ishr d_X6_commit_110 ?_
      refine r_i2b d_X6_commit_111 ?_
      replace e := ckd e
      obtain ⟨k26, e⟩ := e
      replace e := ckd e
      obtain ⟨k27, e⟩ := e
      refine g_bast d_X6_commit_112 k26 k27 ?_
      replace e := bhd e
      obtain ⟨_, rfl, e⟩ := e
      replace e := bhd e
      obtain ⟨_, rfl, e⟩ := e
      refine s_iinc d_X6_commit_113 g6 (w := (1 : Int32)) (by decide +kernel) (by decide) (fun L g6 gK => ?_)
      replace g0 := gK _ _ (by decide) (Or.inr (zrf_cat _)) g0
      replace g3 := gK _ _ (by decide) (Or.inr rfl) g3
      replace g4 := gK _ _ (by decide) (Or.inr rfl) g4
      replace g5 := gK _ _ (by decide) (Or.inr rfl) g5
      refine r_goto d_X6_commit_116 (tgt := 51) (by decide) ?_
      exact ih _ _ _ _ _ _ _ _ g0 g3 g4 g5 g6 e

def f_X6_commit (l0 : Nat) (l1 : Int32) (l2 : Int32) (l3 : Int32) (l4 : Int32) (l5 : Int32) (h : Hp) : Option (Int32 × Hp) := ck (isO (h) (l0) 7) (bh (pJ (h) 711 (l0) ((zJ (h) 711 (l0)) + ((1 : Int64)))) (fun h2 => ck (isO (h2) (zR (h2) 705 (l0)) 20) (ck (inR ((0 : Int32)) (zL (h2) (zR (h2) 705 (l0)))) (bh (pE (h2) (zR (h2) 705 (l0)) ((0 : Int32)).toNatClampNeg ((((((16 : Int32)) * (l2)) + (l1)).toInt8.toInt32).toInt8.toInt32)) (fun h5 => ck (isO (h5) (zR (h5) 705 (l0)) 20) (ck (inR ((1 : Int32)) (zL (h5) (zR (h5) 705 (l0)))) (bh (pE (h5) (zR (h5) 705 (l0)) ((1 : Int32)).toNatClampNeg ((((zI (h5) 709 (l0)) >>> (((8 : Int32)) &&& 31)).toInt8.toInt32).toInt8.toInt32)) (fun h8 => ck (isO (h8) (zR (h8) 705 (l0)) 20) (ck (inR ((2 : Int32)) (zL (h8) (zR (h8) 705 (l0)))) (bh (pE (h8) (zR (h8) 705 (l0)) ((2 : Int32)).toNatClampNeg (((zI (h8) 709 (l0)).toInt8.toInt32).toInt8.toInt32)) (fun h11 => f_X6_commit_51 fz (l0) (l3) (l4) (l5) ((0 : Int32)) (h11))))))))))))
theorem f_X6_commit_ok {G : Gd} {d : Nat} (hj : 3 ≤ d) : ∀ (l0 : Nat) (l1 : Int32) (l2 : Int32) (l3 : Int32) (l4 : Int32) (l5 : Int32) (L : List (Nat × Value)) (h : Hp) (o : (Int32 × Hp)), zlk L 0 = some (zrf (l0)) → zlk L 1 = some (.int (l1)) → zlk L 2 = some (.int (l2)) → zlk L 3 = some (.int (l3)) → zlk L 4 = some (.int (l4)) → zlk L 5 = some (.int (l5)) → f_X6_commit l0 l1 l2 l3 l4 l5 h = some o → Ev G M_X6_commit d 0 L [] h (Ret Y_X6_commit (some (.int o.1)) o.2) := by
  intro l0 l1 l2 l3 l4 l5 L h o g0 g1 g2 g3 g4 g5 e
  unfold f_X6_commit at e
  refine g_ald_n d_X6_commit_0 rfl g0 ?_
  refine r_dup d_X6_commit_1 (zrf_cat _) ?_
  replace e := ckd e
  obtain ⟨k1, e⟩ := e
  refine g_getJ d_X6_commit_2 (f := 711) k1 fk_5_98 rfl rfl ?_
  refine r_lconst d_X6_commit_5 (v := (1 : Int64)) (by decide +kernel) ?_
  refine r_ladd d_X6_commit_6 ?_
  refine g_putJ d_X6_commit_7 (f := 711) k1 fk_5_98 rfl (Or.inl rfl) ⟨rfl, rfl⟩ ?_
  replace e := bhd e
  obtain ⟨_, rfl, e⟩ := e
  refine g_ald_n d_X6_commit_10 rfl g0 ?_
  refine g_getR d_X6_commit_11 (f := 705) (tO_pJ k1) fk_5_23 rfl rfl ?_
  refine r_iconst d_X6_commit_14 (v := (0 : Int32)) (by decide +kernel) ?_
  refine r_bipush d_X6_commit_15 (v := (16 : Int32)) (by decide +kernel) ?_
  refine r_iload_n d_X6_commit_17 rfl g2 ?_
  refine r_imul d_X6_commit_18 ?_
  refine r_iload_n d_X6_commit_19 rfl g1 ?_
  refine r_iadd d_X6_commit_20 ?_
  refine r_i2b d_X6_commit_21 ?_
  replace e := ckd e
  obtain ⟨k3, e⟩ := e
  replace e := ckd e
  obtain ⟨k4, e⟩ := e
  refine g_bast d_X6_commit_22 k3 k4 ?_
  replace e := bhd e
  obtain ⟨_, rfl, e⟩ := e
  refine g_ald_n d_X6_commit_23 rfl g0 ?_
  refine g_getR d_X6_commit_24 (f := 705) (tO_pE (tO_pJ k1)) fk_5_23 rfl rfl ?_
  refine r_iconst d_X6_commit_27 (v := (1 : Int32)) (by decide +kernel) ?_
  refine g_ald_n d_X6_commit_28 rfl g0 ?_
  refine g_getI d_X6_commit_29 (f := 709) (tO_pE (tO_pJ k1)) fk_5_102 rfl rfl ?_
  refine r_bipush d_X6_commit_32 (v := (8 : Int32)) (by decide +kernel) ?_
  refine r_ishr d_X6_commit_34 ?_
  refine r_i2b d_X6_commit_35 ?_
  replace e := ckd e
  obtain ⟨k6, e⟩ := e
  replace e := ckd e
  obtain ⟨k7, e⟩ := e
  refine g_bast d_X6_commit_36 k6 k7 ?_
  replace e := bhd e
  obtain ⟨_, rfl, e⟩ := e
  refine g_ald_n d_X6_commit_37 rfl g0 ?_
  refine g_getR d_X6_commit_38 (f := 705) (tO_pE (tO_pE (tO_pJ k1))) fk_5_23 rfl rfl ?_
  refine r_iconst d_X6_commit_41 (v := (2 : Int32)) (by decide +kernel) ?_
  refine g_ald_n d_X6_commit_42 rfl g0 ?_
  refine g_getI d_X6_commit_43 (f := 709) (tO_pE (tO_pE (tO_pJ k1))) fk_5_102 rfl rfl ?_
  refine r_i2b d_X6_commit_46 ?_
  replace e := ckd e
  obtain ⟨k9, e⟩ := e
  replace e := ckd e
  obtain ⟨k10, e⟩ := e
  refine g_bast d_X6_commit_47 k9 k10 ?_
  replace e := bhd e
  obtain ⟨_, rfl, e⟩ := e
  refine r_iconst d_X6_commit_48 (v := (0 : Int32)) (by decide +kernel) ?_
  refine s_istore d_X6_commit_49 (by decide) (fun L g6 gK => ?_)
  replace g0 := gK _ _ (by decide) (Or.inr (zrf_cat _)) g0
  replace g3 := gK _ _ (by decide) (Or.inr rfl) g3
  replace g4 := gK _ _ (by decide) (Or.inr rfl) g4
  replace g5 := gK _ _ (by decide) (Or.inr rfl) g5
  exact f_X6_commit_51_ok hj _ _ _ _ _ _ _ _ _ g0 g3 g4 g5 g6 e

theorem c_X6_commit {G : Gd} {j : Nat} (hj : 3 ≤ j) {l0 : Nat} {l1 : Int32} {l2 : Int32} {l3 : Int32} {l4 : Int32} {l5 : Int32} {h : Hp} {o : (Int32 × Hp)} (e : f_X6_commit l0 l1 l2 l3 l4 l5 h = some o) : Cal G j Y_X6_commit [zrf (l0), .int (l1), .int (l2), .int (l3), .int (l4), .int (l5)] h (some (.int o.1)) o.2 := Cal.of (n := 0) (I := false) (by first | exact Or.inl (by decide +kernel) | exact Or.inr (by decide +kernel)) (by decide) (by simp [lg_sl, zrf_cat, cat_int, cat_long]) (f_X6_commit_ok hj _ _ _ _ _ _ _ h o (by simp [lv_args, zlk, zrf_cat, cat_int, cat_long]) (by simp [lv_args, zlk, zrf_cat, cat_int, cat_long]) (by simp [lv_args, zlk, zrf_cat, cat_int, cat_long]) (by simp [lv_args, zlk, zrf_cat, cat_int, cat_long]) (by simp [lv_args, zlk, zrf_cat, cat_int, cat_long]) (by simp [lv_args, zlk, zrf_cat, cat_int, cat_long]) e)
theorem fk_8_71 : Fk "TaskWeave$Workflow" 71 203 := ⟨by decide, by decide, by decide +kernel⟩
def f_X9_isMessage (l0 : Nat) (l1 : Int32) (h : Hp) : Option (Int32 × Hp) := if (l1) = ((6 : Int32)) then (some ((1 : Int32), h)) else (if (l1) = ((9 : Int32)) then (some ((1 : Int32), h)) else (if (l1) < ((10 : Int32)) then (some ((0 : Int32), h)) else (ck (isO (h) (l0) 10) (ck (isO (h) (zR (h) 1002 (l0)) 2) (ck (isO (h) (zR (h) 203 (zR (h) 1002 (l0))) 22) (ck (inR ((0 : Int32)) (zL (h) (zR (h) 203 (zR (h) 1002 (l0))))) (if (0) ≤ (zE (h) (zR (h) 203 (zR (h) 1002 (l0))) ((0 : Int32)).toNatClampNeg) then (some ((0 : Int32), h)) else (some ((1 : Int32), h)))))))))
theorem f_X9_isMessage_ok {G : Gd} {d : Nat} (hj : 1 ≤ d) : ∀ (l0 : Nat) (l1 : Int32) (L : List (Nat × Value)) (h : Hp) (o : (Int32 × Hp)), zlk L 0 = some (zrf (l0)) → zlk L 1 = some (.int (l1)) → f_X9_isMessage l0 l1 h = some o → Ev G M_X9_isMessage d 0 L [] h (Ret Y_X9_isMessage (some (.int o.1)) o.2) := by
  intro l0 l1 L h o g0 g1 e
  unfold f_X9_isMessage at e
  refine r_iload_n d_X9_isMessage_0 rfl g1 ?_
  refine r_bipush d_X9_isMessage_1 (v := (6 : Int32)) (by decide +kernel) ?_
  refine r_icmp_eq d_X9_isMessage_3 (tgt := 30) (by decide) (fun c1 => ?_) (fun c1 => ?_)
  · replace e := (if_pos c1).symm.trans e
    refine r_iconst d_X9_isMessage_30 (v := (1 : Int32)) (by decide +kernel) ?_
    refine r_goto d_X9_isMessage_31 (tgt := 35) (by decide) ?_
    obtain rfl := Option.some.inj e
    exact g_iret d_X9_isMessage_35 rfl rfl
  · replace e := (if_neg c1).symm.trans e
    refine r_iload_n d_X9_isMessage_6 rfl g1 ?_
    refine r_bipush d_X9_isMessage_7 (v := (9 : Int32)) (by decide +kernel) ?_
    refine r_icmp_eq d_X9_isMessage_9 (tgt := 30) (by decide) (fun c2 => ?_) (fun c2 => ?_)
    · replace e := (if_pos c2).symm.trans e
      refine r_iconst d_X9_isMessage_30 (v := (1 : Int32)) (by decide +kernel) ?_
      refine r_goto d_X9_isMessage_31 (tgt := 35) (by decide) ?_
      obtain rfl := Option.some.inj e
      exact g_iret d_X9_isMessage_35 rfl rfl
    · replace e := (if_neg c2).symm.trans e
      refine r_iload_n d_X9_isMessage_12 rfl g1 ?_
      refine r_bipush d_X9_isMessage_13 (v := (10 : Int32)) (by decide +kernel) ?_
      refine r_icmp_lt d_X9_isMessage_15 (tgt := 34) (by decide) (fun c3 => ?_) (fun c3 => ?_)
      · replace e := (if_pos c3).symm.trans e
        refine r_iconst d_X9_isMessage_34 (v := (0 : Int32)) (by decide +kernel) ?_
        obtain rfl := Option.some.inj e
        exact g_iret d_X9_isMessage_35 rfl rfl
      · replace e := (if_neg c3).symm.trans e
        refine g_ald_n d_X9_isMessage_18 rfl g0 ?_
        replace e := ckd e
        obtain ⟨k4, e⟩ := e
        refine g_getR d_X9_isMessage_19 (f := 1002) k4 fk_8_18 rfl rfl ?_
        replace e := ckd e
        obtain ⟨k5, e⟩ := e
        refine g_getR d_X9_isMessage_22 (f := 203) k5 fk_8_71 rfl rfl ?_
        refine r_iconst d_X9_isMessage_25 (v := (0 : Int32)) (by decide +kernel) ?_
        replace e := ckd e
        obtain ⟨k6, e⟩ := e
        replace e := ckd e
        obtain ⟨k7, e⟩ := e
        refine g_iald d_X9_isMessage_26 k6 k7 rfl ?_
        refine r_if_ge d_X9_isMessage_27 (tgt := 34) (by decide) (fun c8 => ?_) (fun c8 => ?_)
        · replace e := (if_pos c8).symm.trans e
          refine r_iconst d_X9_isMessage_34 (v := (0 : Int32)) (by decide +kernel) ?_
          obtain rfl := Option.some.inj e
          exact g_iret d_X9_isMessage_35 rfl rfl
        · replace e := (if_neg c8).symm.trans e
          refine r_iconst d_X9_isMessage_30 (v := (1 : Int32)) (by decide +kernel) ?_
          refine r_goto d_X9_isMessage_31 (tgt := 35) (by decide) ?_
          obtain rfl := Option.some.inj e
          exact g_iret d_X9_isMessage_35 rfl rfl

theorem c_X9_isMessage {G : Gd} {j : Nat} (hj : 1 ≤ j) {l0 : Nat} {l1 : Int32} {h : Hp} {o : (Int32 × Hp)} (e : f_X9_isMessage l0 l1 h = some o) : Cal G j Y_X9_isMessage [zrf (l0), .int (l1)] h (some (.int o.1)) o.2 := Cal.of (n := 0) (I := false) (by first | exact Or.inl (by decide +kernel) | exact Or.inr (by decide +kernel)) (by decide) (by simp [lg_sl, zrf_cat, cat_int, cat_long]) (f_X9_isMessage_ok hj _ _ _ h o (by simp [lv_args, zlk, zrf_cat, cat_int, cat_long]) (by simp [lv_args, zlk, zrf_cat, cat_int, cat_long]) e)
theorem fk_7_7 : Fk "TaskWeave$Task" 7 900 := ⟨by decide, by decide, by decide +kernel⟩
theorem fk_7_13 : Fk "TaskWeave$Task" 13 901 := ⟨by decide, by decide, by decide +kernel⟩
theorem fk_7_16 : Fk "TaskWeave$Task" 16 902 := ⟨by decide, by decide, by decide +kernel⟩
theorem fk_7_19 : Fk "TaskWeave$Task" 19 903 := ⟨by decide, by decide, by decide +kernel⟩
theorem fk_7_22 : Fk "TaskWeave$Task" 22 904 := ⟨by decide, by decide, by decide +kernel⟩
def f_X8_open (l0 : Nat) (l1 : Int32) (l2 : Int32) (l3 : Int32) (h : Hp) : Option Hp := ck (isO (h) (l0) 9) (bh (pI (h) 900 (l0) (l1)) (fun h2 => bh (pI (h2) 901 (l0) (l2)) (fun h3 => bh (pI (h3) 902 (l0) ((1 : Int32))) (fun h4 => bh (pI (h4) 903 (l0) (l3)) (fun h5 => bh (pI (h5) 904 (l0) ((0 : Int32))) (fun h6 => some (h6)))))))
theorem f_X8_open_ok {G : Gd} {d : Nat} (hj : 1 ≤ d) : ∀ (l0 : Nat) (l1 : Int32) (l2 : Int32) (l3 : Int32) (L : List (Nat × Value)) (h : Hp) (o : Hp), zlk L 0 = some (zrf (l0)) → zlk L 1 = some (.int (l1)) → zlk L 2 = some (.int (l2)) → zlk L 3 = some (.int (l3)) → f_X8_open l0 l1 l2 l3 h = some o → Ev G M_X8_open d 0 L [] h (Ret Y_X8_open none o) := by
  intro l0 l1 l2 l3 L h o g0 g1 g2 g3 e
  unfold f_X8_open at e
  refine g_ald_n d_X8_open_0 rfl g0 ?_
  refine r_iload_n d_X8_open_1 rfl g1 ?_
  replace e := ckd e
  obtain ⟨k1, e⟩ := e
  refine g_putI d_X8_open_2 (f := 900) k1 fk_7_7 rfl (Or.inl rfl) ⟨rfl, rfl⟩ ?_
  replace e := bhd e
  obtain ⟨_, rfl, e⟩ := e
  refine g_ald_n d_X8_open_5 rfl g0 ?_
  refine r_iload_n d_X8_open_6 rfl g2 ?_
  refine g_putI d_X8_open_7 (f := 901) (tO_pI k1) fk_7_13 rfl (Or.inl rfl) ⟨rfl, rfl⟩ ?_
  replace e := bhd e
  obtain ⟨_, rfl, e⟩ := e
  refine g_ald_n d_X8_open_10 rfl g0 ?_
  refine r_iconst d_X8_open_11 (v := (1 : Int32)) (by decide +kernel) ?_
  refine g_putI d_X8_open_12 (f := 902) (tO_pI (tO_pI k1)) fk_7_16 rfl (Or.inl rfl) ⟨rfl, rfl⟩ ?_
  replace e := bhd e
  obtain ⟨_, rfl, e⟩ := e
  refine g_ald_n d_X8_open_15 rfl g0 ?_
  refine r_iload_n d_X8_open_16 rfl g3 ?_
  refine g_putI d_X8_open_17 (f := 903) (tO_pI (tO_pI (tO_pI k1))) fk_7_19 rfl (Or.inl rfl) ⟨rfl, rfl⟩ ?_
  replace e := bhd e
  obtain ⟨_, rfl, e⟩ := e
  refine g_ald_n d_X8_open_20 rfl g0 ?_
  refine r_iconst d_X8_open_21 (v := (0 : Int32)) (by decide +kernel) ?_
  refine g_putI d_X8_open_22 (f := 904) (tO_pI (tO_pI (tO_pI (tO_pI k1)))) fk_7_22 rfl (Or.inl rfl) ⟨rfl, rfl⟩ ?_
  replace e := bhd e
  obtain ⟨_, rfl, e⟩ := e
  obtain rfl := Option.some.inj e
  exact g_vret d_X8_open_25 rfl

theorem c_X8_open {G : Gd} {j : Nat} (hj : 1 ≤ j) {l0 : Nat} {l1 : Int32} {l2 : Int32} {l3 : Int32} {h : Hp} {o : Hp} (e : f_X8_open l0 l1 l2 l3 h = some o) : Cal G j Y_X8_open [zrf (l0), .int (l1), .int (l2), .int (l3)] h none o := Cal.of (n := 0) (I := false) (by first | exact Or.inl (by decide +kernel) | exact Or.inr (by decide +kernel)) (by decide) (by simp [lg_sl, zrf_cat, cat_int, cat_long]) (f_X8_open_ok hj _ _ _ _ _ h o (by simp [lv_args, zlk, zrf_cat, cat_int, cat_long]) (by simp [lv_args, zlk, zrf_cat, cat_int, cat_long]) (by simp [lv_args, zlk, zrf_cat, cat_int, cat_long]) (by simp [lv_args, zlk, zrf_cat, cat_int, cat_long]) e)
theorem fk_8_53 : Fk "TaskWeave$Workflow" 53 1005 := ⟨by decide, by decide, by decide +kernel⟩
theorem fk_8_56 : Fk "TaskWeave$Workflow" 56 1006 := ⟨by decide, by decide, by decide +kernel⟩
def f_X9_leave (l0 : Nat) (l1 : Int32) (h : Hp) : Option Hp := ck (isO (h) (l0) 10) (bh (pI (h) 1005 (l0) (l1)) (fun h2 => bh (pI (h2) 1006 (l0) ((zI (h2) 1006 (l0)) + ((1 : Int32)))) (fun h3 => some (h3))))
theorem f_X9_leave_ok {G : Gd} {d : Nat} (hj : 1 ≤ d) : ∀ (l0 : Nat) (l1 : Int32) (L : List (Nat × Value)) (h : Hp) (o : Hp), zlk L 0 = some (zrf (l0)) → zlk L 1 = some (.int (l1)) → f_X9_leave l0 l1 h = some o → Ev G M_X9_leave d 0 L [] h (Ret Y_X9_leave none o) := by
  intro l0 l1 L h o g0 g1 e
  unfold f_X9_leave at e
  refine g_ald_n d_X9_leave_0 rfl g0 ?_
  refine r_iload_n d_X9_leave_1 rfl g1 ?_
  replace e := ckd e
  obtain ⟨k1, e⟩ := e
  refine g_putI d_X9_leave_2 (f := 1005) k1 fk_8_53 rfl (Or.inl rfl) ⟨rfl, rfl⟩ ?_
  replace e := bhd e
  obtain ⟨_, rfl, e⟩ := e
  refine g_ald_n d_X9_leave_5 rfl g0 ?_
  refine r_dup d_X9_leave_6 (zrf_cat _) ?_
  refine g_getI d_X9_leave_7 (f := 1006) (tO_pI k1) fk_8_56 rfl rfl ?_
  refine r_iconst d_X9_leave_10 (v := (1 : Int32)) (by decide +kernel) ?_
  refine r_iadd d_X9_leave_11 ?_
  refine g_putI d_X9_leave_12 (f := 1006) (tO_pI k1) fk_8_56 rfl (Or.inl rfl) ⟨rfl, rfl⟩ ?_
  replace e := bhd e
  obtain ⟨_, rfl, e⟩ := e
  obtain rfl := Option.some.inj e
  exact g_vret d_X9_leave_15 rfl

theorem c_X9_leave {G : Gd} {j : Nat} (hj : 1 ≤ j) {l0 : Nat} {l1 : Int32} {h : Hp} {o : Hp} (e : f_X9_leave l0 l1 h = some o) : Cal G j Y_X9_leave [zrf (l0), .int (l1)] h none o := Cal.of (n := 0) (I := false) (by first | exact Or.inl (by decide +kernel) | exact Or.inr (by decide +kernel)) (by decide) (by simp [lg_sl, zrf_cat, cat_int, cat_long]) (f_X9_leave_ok hj _ _ _ h o (by simp [lv_args, zlk, zrf_cat, cat_int, cat_long]) (by simp [lv_args, zlk, zrf_cat, cat_int, cat_long]) e)
theorem fk_8_59 : Fk "TaskWeave$Workflow" 59 1007 := ⟨by decide, by decide, by decide +kernel⟩
theorem fk_8_96 : Fk "TaskWeave$Workflow" 96 1008 := ⟨by decide, by decide, by decide +kernel⟩
def f_X9_rest (l0 : Nat) (l1 : Int32) (l2 : Int32) (h : Hp) : Option Hp := ck (isO (h) (l0) 10) (bh (pI (h) 1007 (l0) (l1)) (fun h2 => bh (pI (h2) 1008 (l0) (l2)) (fun h3 => some (h3))))
theorem f_X9_rest_ok {G : Gd} {d : Nat} (hj : 1 ≤ d) : ∀ (l0 : Nat) (l1 : Int32) (l2 : Int32) (L : List (Nat × Value)) (h : Hp) (o : Hp), zlk L 0 = some (zrf (l0)) → zlk L 1 = some (.int (l1)) → zlk L 2 = some (.int (l2)) → f_X9_rest l0 l1 l2 h = some o → Ev G M_X9_rest d 0 L [] h (Ret Y_X9_rest none o) := by
  intro l0 l1 l2 L h o g0 g1 g2 e
  unfold f_X9_rest at e
  refine g_ald_n d_X9_rest_0 rfl g0 ?_
  refine r_iload_n d_X9_rest_1 rfl g1 ?_
  replace e := ckd e
  obtain ⟨k1, e⟩ := e
  refine g_putI d_X9_rest_2 (f := 1007) k1 fk_8_59 rfl (Or.inl rfl) ⟨rfl, rfl⟩ ?_
  replace e := bhd e
  obtain ⟨_, rfl, e⟩ := e
  refine g_ald_n d_X9_rest_5 rfl g0 ?_
  refine r_iload_n d_X9_rest_6 rfl g2 ?_
  refine g_putI d_X9_rest_7 (f := 1008) (tO_pI k1) fk_8_96 rfl (Or.inl rfl) ⟨rfl, rfl⟩ ?_
  replace e := bhd e
  obtain ⟨_, rfl, e⟩ := e
  obtain rfl := Option.some.inj e
  exact g_vret d_X9_rest_10 rfl

theorem c_X9_rest {G : Gd} {j : Nat} (hj : 1 ≤ j) {l0 : Nat} {l1 : Int32} {l2 : Int32} {h : Hp} {o : Hp} (e : f_X9_rest l0 l1 l2 h = some o) : Cal G j Y_X9_rest [zrf (l0), .int (l1), .int (l2)] h none o := Cal.of (n := 0) (I := false) (by first | exact Or.inl (by decide +kernel) | exact Or.inr (by decide +kernel)) (by decide) (by simp [lg_sl, zrf_cat, cat_int, cat_long]) (f_X9_rest_ok hj _ _ _ _ h o (by simp [lv_args, zlk, zrf_cat, cat_int, cat_long]) (by simp [lv_args, zlk, zrf_cat, cat_int, cat_long]) (by simp [lv_args, zlk, zrf_cat, cat_int, cat_long]) e)
def f_X9_resume (l0 : Nat) (h : Hp) : Option Hp := ck (isO (h) (l0) 10) (bh (pI (h) 1006 (l0) ((0 : Int32))) (fun h2 => bh (pI (h2) 1007 (l0) ((5 : Int32))) (fun h3 => some (h3))))
theorem f_X9_resume_ok {G : Gd} {d : Nat} (hj : 1 ≤ d) : ∀ (l0 : Nat) (L : List (Nat × Value)) (h : Hp) (o : Hp), zlk L 0 = some (zrf (l0)) → f_X9_resume l0 h = some o → Ev G M_X9_resume d 0 L [] h (Ret Y_X9_resume none o) := by
  intro l0 L h o g0 e
  unfold f_X9_resume at e
  refine g_ald_n d_X9_resume_0 rfl g0 ?_
  refine r_iconst d_X9_resume_1 (v := (0 : Int32)) (by decide +kernel) ?_
  replace e := ckd e
  obtain ⟨k1, e⟩ := e
  refine g_putI d_X9_resume_2 (f := 1006) k1 fk_8_56 rfl (Or.inl rfl) ⟨rfl, rfl⟩ ?_
  replace e := bhd e
  obtain ⟨_, rfl, e⟩ := e
  refine g_ald_n d_X9_resume_5 rfl g0 ?_
  refine r_iconst d_X9_resume_6 (v := (5 : Int32)) (by decide +kernel) ?_
  refine g_putI d_X9_resume_7 (f := 1007) (tO_pI k1) fk_8_59 rfl (Or.inl rfl) ⟨rfl, rfl⟩ ?_
  replace e := bhd e
  obtain ⟨_, rfl, e⟩ := e
  obtain rfl := Option.some.inj e
  exact g_vret d_X9_resume_10 rfl

theorem c_X9_resume {G : Gd} {j : Nat} (hj : 1 ≤ j) {l0 : Nat} {h : Hp} {o : Hp} (e : f_X9_resume l0 h = some o) : Cal G j Y_X9_resume [zrf (l0)] h none o := Cal.of (n := 0) (I := false) (by first | exact Or.inl (by decide +kernel) | exact Or.inr (by decide +kernel)) (by decide) (by simp [lg_sl, zrf_cat, cat_int, cat_long]) (f_X9_resume_ok hj _ _ h o (by simp [lv_args, zlk, zrf_cat, cat_int, cat_long]) e)
theorem fk_8_33 : Fk "TaskWeave$Workflow" 33 1004 := ⟨by decide, by decide, by decide +kernel⟩
theorem fk_8_109 : Fk "TaskWeave$Workflow" 109 500 := ⟨by decide, by decide, by decide +kernel⟩
theorem fk_8_121 : Fk "TaskWeave$Workflow" 121 501 := ⟨by decide, by decide, by decide +kernel⟩
def f_X9_set_44 (l0 : Nat) (h : Hp) : Option Hp := ck (isO (h) (l0) 10) (bh (pI (h) 1005 (l0) ((zI (h) 1005 (l0)) + ((1 : Int32)))) (fun h11 => bh (pI (h11) 1006 (l0) ((zI (h11) 1006 (l0)) + ((1 : Int32)))) (fun h12 => some (h12))))
theorem f_X9_set_44_ok {G : Gd} {d : Nat} (hj : 1 ≤ d) : ∀ (l0 : Nat) (L : List (Nat × Value)) (h : Hp) (o : Hp), zlk L 0 = some (zrf (l0)) → f_X9_set_44 l0 h = some o → Ev G M_X9_set d 44 L [] h (Ret Y_X9_set none o) := by
  intro l0 L h o g0 e
  unfold f_X9_set_44 at e
  refine g_ald_n d_X9_set_44 rfl g0 ?_
  refine r_dup d_X9_set_45 (zrf_cat _) ?_
  replace e := ckd e
  obtain ⟨k10, e⟩ := e
  refine g_getI d_X9_set_46 (f := 1005) k10 fk_8_53 rfl rfl ?_
  refine r_iconst d_X9_set_49 (v := (1 : Int32)) (by decide +kernel) ?_
  refine r_iadd d_X9_set_50 ?_
  refine g_putI d_X9_set_51 (f := 1005) k10 fk_8_53 rfl (Or.inl rfl) ⟨rfl, rfl⟩ ?_
  replace e := bhd e
  obtain ⟨_, rfl, e⟩ := e
  refine g_ald_n d_X9_set_54 rfl g0 ?_
  refine r_dup d_X9_set_55 (zrf_cat _) ?_
  refine g_getI d_X9_set_56 (f := 1006) (tO_pI k10) fk_8_56 rfl rfl ?_
  refine r_iconst d_X9_set_59 (v := (1 : Int32)) (by decide +kernel) ?_
  refine r_iadd d_X9_set_60 ?_
  refine g_putI d_X9_set_61 (f := 1006) (tO_pI k10) fk_8_56 rfl (Or.inl rfl) ⟨rfl, rfl⟩ ?_
  replace e := bhd e
  obtain ⟨_, rfl, e⟩ := e
  obtain rfl := Option.some.inj e
  exact g_vret d_X9_set_64 rfl

def f_X9_set (l0 : Nat) (l1 : Int32) (h : Hp) : Option Hp := ck (isO (h) (l0) 10) (if (zR (h) 1004 (l0)) = 0 then (f_X9_set_44 (l0) (h)) else (ck (isO (h) (zR (h) 1004 (l0)) 5) (if (zI (h) 500 (zR (h) 1004 (l0))) ≤ (zI (h) 1005 (l0)) then (f_X9_set_44 (l0) (h)) else (ck (isO (h) (zR (h) 501 (zR (h) 1004 (l0))) 22) (ck (inR (((zI (h) 1005 (l0)) * ((8 : Int32))) + ((1 : Int32))) (zL (h) (zR (h) 501 (zR (h) 1004 (l0))))) (ck (isO (h) (zR (h) 1001 (l0)) 22) (ck (inR (zE (h) (zR (h) 501 (zR (h) 1004 (l0))) (((zI (h) 1005 (l0)) * ((8 : Int32))) + ((1 : Int32))).toNatClampNeg) (zL (h) (zR (h) 1001 (l0)))) (bh (pE (h) (zR (h) 1001 (l0)) (zE (h) (zR (h) 501 (zR (h) 1004 (l0))) (((zI (h) 1005 (l0)) * ((8 : Int32))) + ((1 : Int32))).toNatClampNeg).toNatClampNeg (l1)) (fun h9 => f_X9_set_44 (l0) (h9))))))))))
theorem f_X9_set_ok {G : Gd} {d : Nat} (hj : 1 ≤ d) : ∀ (l0 : Nat) (l1 : Int32) (L : List (Nat × Value)) (h : Hp) (o : Hp), zlk L 0 = some (zrf (l0)) → zlk L 1 = some (.int (l1)) → f_X9_set l0 l1 h = some o → Ev G M_X9_set d 0 L [] h (Ret Y_X9_set none o) := by
  intro l0 l1 L h o g0 g1 e
  unfold f_X9_set at e
  refine g_ald_n d_X9_set_0 rfl g0 ?_
  replace e := ckd e
  obtain ⟨k1, e⟩ := e
  refine g_getR d_X9_set_1 (f := 1004) k1 fk_8_33 rfl rfl ?_
  refine g_ifnull d_X9_set_4 (tgt := 44) (by decide) (fun c2 => ?_) (fun c2 => ?_)
  · replace e := (if_pos c2).symm.trans e
    exact f_X9_set_44_ok hj _ _ _ _ g0 e
  · replace e := (if_neg c2).symm.trans e
    refine g_ald_n d_X9_set_7 rfl g0 ?_
    refine g_getI d_X9_set_8 (f := 1005) k1 fk_8_53 rfl rfl ?_
    refine g_ald_n d_X9_set_11 rfl g0 ?_
    refine g_getR d_X9_set_12 (f := 1004) k1 fk_8_33 rfl rfl ?_
    replace e := ckd e
    obtain ⟨k3, e⟩ := e
    refine g_getI d_X9_set_15 (f := 500) k3 fk_8_109 rfl rfl ?_
    refine r_icmp_ge d_X9_set_18 (tgt := 44) (by decide) (fun c4 => ?_) (fun c4 => ?_)
    · replace e := (if_pos c4).symm.trans e
      exact f_X9_set_44_ok hj _ _ _ _ g0 e
    · replace e := (if_neg c4).symm.trans e
      refine g_ald_n d_X9_set_21 rfl g0 ?_
      refine g_getR d_X9_set_22 (f := 1001) k1 fk_8_9 rfl rfl ?_
      refine g_ald_n d_X9_set_25 rfl g0 ?_
      refine g_getR d_X9_set_26 (f := 1004) k1 fk_8_33 rfl rfl ?_
      refine g_getR d_X9_set_29 (f := 501) k3 fk_8_121 rfl rfl ?_
      refine g_ald_n d_X9_set_32 rfl g0 ?_
      refine g_getI d_X9_set_33 (f := 1005) k1 fk_8_53 rfl rfl ?_
      refine r_bipush d_X9_set_36 (v := (8 : Int32)) (by decide +kernel) ?_
      refine r_imul d_X9_set_38 ?_
      refine r_iconst d_X9_set_39 (v := (1 : Int32)) (by decide +kernel) ?_
      refine r_iadd d_X9_set_40 ?_
      replace e := ckd e
      obtain ⟨k5, e⟩ := e
      replace e := ckd e
      obtain ⟨k6, e⟩ := e
      refine g_iald d_X9_set_41 k5 k6 rfl ?_
      refine r_iload_n d_X9_set_42 rfl g1 ?_
      replace e := ckd e
      obtain ⟨k7, e⟩ := e
      replace e := ckd e
      obtain ⟨k8, e⟩ := e
      refine g_iast d_X9_set_43 k7 k8 ?_
      replace e := bhd e
      obtain ⟨_, rfl, e⟩ := e
      exact f_X9_set_44_ok hj _ _ _ _ g0 e

theorem c_X9_set {G : Gd} {j : Nat} (hj : 1 ≤ j) {l0 : Nat} {l1 : Int32} {h : Hp} {o : Hp} (e : f_X9_set l0 l1 h = some o) : Cal G j Y_X9_set [zrf (l0), .int (l1)] h none o := Cal.of (n := 0) (I := false) (by first | exact Or.inl (by decide +kernel) | exact Or.inr (by decide +kernel)) (by decide) (by simp [lg_sl, zrf_cat, cat_int, cat_long]) (f_X9_set_ok hj _ _ _ h o (by simp [lv_args, zlk, zrf_cat, cat_int, cat_long]) (by simp [lv_args, zlk, zrf_cat, cat_int, cat_long]) e)
theorem vk_8_40 : Vk "TaskWeave$Workflow" 40 4 2 Y_X1_add := ⟨yk_X1_add, by decide +kernel, by decide +kernel, by decide +kernel, by decide⟩
theorem vk_8_157 : Vk "TaskWeave$Workflow" 157 3 9 Y_X8_open := ⟨yk_X8_open, by decide +kernel, by decide +kernel, by decide +kernel, by decide⟩
theorem vk_8_141 : Vk "TaskWeave$Workflow" 141 2 10 Y_X9_rest := ⟨yk_X9_rest, by decide +kernel, by decide +kernel, by decide +kernel, by decide⟩
theorem fk_8_50 : Fk "TaskWeave$Workflow" 50 904 := ⟨by decide, by decide, by decide +kernel⟩
theorem vk_8_145 : Vk "TaskWeave$Workflow" 145 1 10 Y_X9_set := ⟨yk_X9_set, by decide +kernel, by decide +kernel, by decide +kernel, by decide⟩
theorem vk_8_161 : Vk "TaskWeave$Workflow" 161 0 10 Y_X9_resume := ⟨yk_X9_resume, by decide +kernel, by decide +kernel, by decide +kernel, by decide⟩
theorem vk_8_137 : Vk "TaskWeave$Workflow" 137 1 10 Y_X9_leave := ⟨yk_X9_leave, by decide +kernel, by decide +kernel, by decide +kernel, by decide⟩
theorem fk_8_65 : Fk "TaskWeave$Workflow" 65 1010 := ⟨by decide, by decide, by decide +kernel⟩
theorem fk_8_62 : Fk "TaskWeave$Workflow" 62 1009 := ⟨by decide, by decide, by decide +kernel⟩
theorem fk_8_68 : Fk "TaskWeave$Workflow" 68 1011 := ⟨by decide, by decide, by decide +kernel⟩
def f_X9_take (l0 : Nat) (l1 : Int32) (l2 : Int32) (l3 : Int32) (l4 : Int32) (l5 : Int32) (h : Hp) : Option Hp := ck (isO (h) (l0) 10) (ck (isO (h) (zR (h) 1002 (l0)) 2) ((f_X1_add (zR (h) 1002 (l0)) (l1) (l2) (l3) (l4) (h)).bind (fun q2 => if (l1) = (1 : Int32) then (ck (isO (q2) (l0) 10) (ck (isO (q2) (zR (q2) 1003 (l0)) 9) ((f_X8_open (zR (q2) 1003 (l0)) (l2) (l3) (l5) (q2)).bind (fun q6 => ck (isO (q6) (l0) 10) ((f_X9_rest (l0) ((0 : Int32)) ((0 : Int32)) (q6)).bind (fun q8 => some (q8))))))) else (if (l1) = (2 : Int32) then (ck (isO (q2) (l0) 10) (ck (isO (q2) (zR (q2) 1003 (l0)) 9) (bh (pI (q2) 904 (zR (q2) 1003 (l0)) ((0 : Int32))) (fun h13 => (f_X9_set (l0) (l2) (h13)).bind (fun q14 => ck (isO (q14) (l0) 10) ((f_X9_resume (l0) (q14)).bind (fun q15 => some (q15)))))))) else (if (l1) = (3 : Int32) then (ck (isO (q2) (l0) 10) (ck (isO (q2) (zR (q2) 1003 (l0)) 9) (bh (pI (q2) 904 (zR (q2) 1003 (l0)) ((0 : Int32))) (fun h20 => (f_X9_set (l0) (l2) (h20)).bind (fun q21 => ck (isO (q21) (l0) 10) ((f_X9_resume (l0) (q21)).bind (fun q22 => some (q22)))))))) else (if (l1) = (4 : Int32) then (ck (isO (q2) (l0) 10) ((f_X9_rest (l0) ((1 : Int32)) (l2) (q2)).bind (fun q25 => some (q25)))) else (if (l1) = (5 : Int32) then (ck (isO (q2) (l0) 10) ((f_X9_leave (l0) ((zI (q2) 1005 (l0)) + ((1 : Int32))) (q2)).bind (fun q29 => ck (isO (q29) (l0) 10) ((f_X9_resume (l0) (q29)).bind (fun q30 => some (q30)))))) else (if (l1) = (6 : Int32) then (ck (isO (q2) (l0) 10) ((f_X9_set (l0) (zI (q2) 1010 (l0)) (q2)).bind (fun q34 => ck (isO (q34) (l0) 10) (bh (pI (q34) 1010 (l0) ((zI (q34) 1010 (l0)) + ((1 : Int32)))) (fun h36 => some (h36)))))) else (if (l1) = (7 : Int32) then (ck (isO (q2) (l0) 10) (if (zI (q2) 1007 (l0)) = ((3 : Int32)) then (if (zI (q2) 1008 (l0)) = (l2) then ((f_X9_set (l0) (l3) (q2)).bind (fun q41 => ck (isO (q41) (l0) 10) ((f_X9_resume (l0) (q41)).bind (fun q42 => some (q42))))) else (some (q2))) else (some (q2)))) else (if (l1) = (8 : Int32) then (ck (isO (q2) (l0) 10) (if (zI (q2) 1007 (l0)) = ((2 : Int32)) then (bh (pI (q2) 1009 (l0) ((zI (q2) 1009 (l0)) + ((1 : Int32)))) (fun h47 => (f_X9_set (l0) (l2) (h47)).bind (fun q48 => ck (isO (q48) (l0) 10) ((f_X9_resume (l0) (q48)).bind (fun q49 => some (q49)))))) else (some (q2)))) else (if (l1) = (9 : Int32) then (ck (isO (q2) (l0) 10) ((f_X9_leave (l0) ((zI (q2) 1005 (l0)) + ((1 : Int32))) (q2)).bind (fun q53 => some (q53)))) else (ck (isO (q2) (l0) 10) (ck (isO (q2) (zR (q2) 1003 (l0)) 9) (bh (pI (q2) 904 (zR (q2) 1003 (l0)) ((0 : Int32))) (fun h56 => bh (pI (h56) 1007 (l0) ((4 : Int32))) (fun h57 => bh (pI (h57) 1011 (l0) (l2)) (fun h58 => some (h58))))))))))))))))))
theorem f_X9_take_ok {G : Gd} {d : Nat} (hj : 2 ≤ d) : ∀ (l0 : Nat) (l1 : Int32) (l2 : Int32) (l3 : Int32) (l4 : Int32) (l5 : Int32) (L : List (Nat × Value)) (h : Hp) (o : Hp), zlk L 0 = some (zrf (l0)) → zlk L 1 = some (.int (l1)) → zlk L 2 = some (.int (l2)) → zlk L 3 = some (.int (l3)) → zlk L 4 = some (.int (l4)) → zlk L 5 = some (.int (l5)) → f_X9_take l0 l1 l2 l3 l4 l5 h = some o → Ev G M_X9_take d 0 L [] h (Ret Y_X9_take none o) := by
  intro l0 l1 l2 l3 l4 l5 L h o g0 g1 g2 g3 g4 g5 e
  unfold f_X9_take at e
  refine g_ald_n d_X9_take_0 rfl g0 ?_
  replace e := ckd e
  obtain ⟨k1, e⟩ := e
  refine g_getR d_X9_take_1 (f := 1002) k1 fk_8_18 rfl rfl ?_
  refine r_iload_n d_X9_take_4 rfl g1 ?_
  refine r_iload_n d_X9_take_5 rfl g2 ?_
  refine r_iload_n d_X9_take_6 rfl g3 ?_
  refine r_iload d_X9_take_7 g4 ?_
  replace e := ckd e
  obtain ⟨k3, e⟩ := e
  replace e := bd e
  obtain ⟨q2, eq2, e⟩ := e
  refine g_callV d_X9_take_9 vk_8_40 (as := [_, _, _, _]) rfl k3 rfl (by simp [zrf_cat, cat_int, cat_long]) (j := 1) (by omega) (c_X1_add (by omega) eq2) ?_
  refine r_iload_n d_X9_take_12 rfl g1 ?_
  rcases ite_or e with ⟨c4, e⟩ | ⟨c4, e⟩
  · refine r_tableIn d_X9_take_13 (off := 51) (tgt := 64) (by rw [c4]; decide +kernel) (by rw [c4]; decide +kernel) (by rw [c4] <;> rfl) (by decide) ?_
    refine g_ald_n d_X9_take_64 rfl g0 ?_
    replace e := ckd e
    obtain ⟨k5, e⟩ := e
    refine g_getR d_X9_take_65 (f := 1003) k5 fk_8_25 rfl rfl ?_
    refine r_iload_n d_X9_take_68 rfl g2 ?_
    refine r_iload_n d_X9_take_69 rfl g3 ?_
    refine r_iload d_X9_take_70 g5 ?_
    replace e := ckd e
    obtain ⟨k7, e⟩ := e
    replace e := bd e
    obtain ⟨q6, eq6, e⟩ := e
    refine g_callV d_X9_take_72 vk_8_157 (as := [_, _, _]) rfl k7 rfl (by simp [zrf_cat, cat_int, cat_long]) (j := 1) (by omega) (c_X8_open (by omega) eq6) ?_
    refine g_ald_n d_X9_take_75 rfl g0 ?_
    refine r_iconst d_X9_take_76 (v := (0 : Int32)) (by decide +kernel) ?_
    refine r_iconst d_X9_take_77 (v := (0 : Int32)) (by decide +kernel) ?_
    replace e := ckd e
    obtain ⟨k9, e⟩ := e
    replace e := bd e
    obtain ⟨q8, eq8, e⟩ := e
    refine g_callV d_X9_take_78 vk_8_141 (as := [_, _]) rfl k9 rfl (by simp [zrf_cat, cat_int, cat_long]) (j := 1) (by omega) (c_X9_rest (by omega) eq8) ?_
    refine r_goto d_X9_take_81 (tgt := 240) (by decide) ?_
    obtain rfl := Option.some.inj e
    exact g_vret d_X9_take_240 rfl
  · rcases ite_or e with ⟨c10, e⟩ | ⟨c10, e⟩
    · refine r_tableIn d_X9_take_13 (off := 114) (tgt := 127) (by rw [c10]; decide +kernel) (by rw [c10]; decide +kernel) (by rw [c10] <;> rfl) (by decide) ?_
      refine g_ald_n d_X9_take_127 rfl g0 ?_
      replace e := ckd e
      obtain ⟨k11, e⟩ := e
      refine g_getR d_X9_take_128 (f := 1003) k11 fk_8_25 rfl rfl ?_
      refine r_iconst d_X9_take_131 (v := (0 : Int32)) (by decide +kernel) ?_
      replace e := ckd e
      obtain ⟨k12, e⟩ := e
      refine g_putI d_X9_take_132 (f := 904) k12 fk_8_50 rfl (Or.inl rfl) ⟨rfl, rfl⟩ ?_
      replace e := bhd e
      obtain ⟨_, rfl, e⟩ := e
      refine g_ald_n d_X9_take_135 rfl g0 ?_
      refine r_iload_n d_X9_take_136 rfl g2 ?_
      replace e := bd e
      obtain ⟨q14, eq14, e⟩ := e
      refine g_callV d_X9_take_137 vk_8_145 (as := [_]) rfl (tO_pI k11) rfl (by simp [zrf_cat, cat_int, cat_long]) (j := 1) (by omega) (c_X9_set (by omega) eq14) ?_
      refine g_ald_n d_X9_take_140 rfl g0 ?_
      replace e := ckd e
      obtain ⟨k16, e⟩ := e
      replace e := bd e
      obtain ⟨q15, eq15, e⟩ := e
      refine g_callV d_X9_take_141 vk_8_161 (as := []) rfl k16 rfl (by simp [zrf_cat, cat_int, cat_long]) (j := 1) (by omega) (c_X9_resume (by omega) eq15) ?_
      refine r_goto d_X9_take_144 (tgt := 240) (by decide) ?_
      obtain rfl := Option.some.inj e
      exact g_vret d_X9_take_240 rfl
    · rcases ite_or e with ⟨c17, e⟩ | ⟨c17, e⟩
      · refine r_tableIn d_X9_take_13 (off := 114) (tgt := 127) (by rw [c17]; decide +kernel) (by rw [c17]; decide +kernel) (by rw [c17] <;> rfl) (by decide) ?_
        refine g_ald_n d_X9_take_127 rfl g0 ?_
        replace e := ckd e
        obtain ⟨k18, e⟩ := e
        refine g_getR d_X9_take_128 (f := 1003) k18 fk_8_25 rfl rfl ?_
        refine r_iconst d_X9_take_131 (v := (0 : Int32)) (by decide +kernel) ?_
        replace e := ckd e
        obtain ⟨k19, e⟩ := e
        refine g_putI d_X9_take_132 (f := 904) k19 fk_8_50 rfl (Or.inl rfl) ⟨rfl, rfl⟩ ?_
        replace e := bhd e
        obtain ⟨_, rfl, e⟩ := e
        refine g_ald_n d_X9_take_135 rfl g0 ?_
        refine r_iload_n d_X9_take_136 rfl g2 ?_
        replace e := bd e
        obtain ⟨q21, eq21, e⟩ := e
        refine g_callV d_X9_take_137 vk_8_145 (as := [_]) rfl (tO_pI k18) rfl (by simp [zrf_cat, cat_int, cat_long]) (j := 1) (by omega) (c_X9_set (by omega) eq21) ?_
        refine g_ald_n d_X9_take_140 rfl g0 ?_
        replace e := ckd e
        obtain ⟨k23, e⟩ := e
        replace e := bd e
        obtain ⟨q22, eq22, e⟩ := e
        refine g_callV d_X9_take_141 vk_8_161 (as := []) rfl k23 rfl (by simp [zrf_cat, cat_int, cat_long]) (j := 1) (by omega) (c_X9_resume (by omega) eq22) ?_
        refine r_goto d_X9_take_144 (tgt := 240) (by decide) ?_
        obtain rfl := Option.some.inj e
        exact g_vret d_X9_take_240 rfl
      · rcases ite_or e with ⟨c24, e⟩ | ⟨c24, e⟩
        · refine r_tableIn d_X9_take_13 (off := 71) (tgt := 84) (by rw [c24]; decide +kernel) (by rw [c24]; decide +kernel) (by rw [c24] <;> rfl) (by decide) ?_
          refine g_ald_n d_X9_take_84 rfl g0 ?_
          refine r_iconst d_X9_take_85 (v := (1 : Int32)) (by decide +kernel) ?_
          refine r_iload_n d_X9_take_86 rfl g2 ?_
          replace e := ckd e
          obtain ⟨k26, e⟩ := e
          replace e := bd e
          obtain ⟨q25, eq25, e⟩ := e
          refine g_callV d_X9_take_87 vk_8_141 (as := [_, _]) rfl k26 rfl (by simp [zrf_cat, cat_int, cat_long]) (j := 1) (by omega) (c_X9_rest (by omega) eq25) ?_
          refine r_goto d_X9_take_90 (tgt := 240) (by decide) ?_
          obtain rfl := Option.some.inj e
          exact g_vret d_X9_take_240 rfl
        · rcases ite_or e with ⟨c27, e⟩ | ⟨c27, e⟩
          · refine r_tableIn d_X9_take_13 (off := 134) (tgt := 147) (by rw [c27]; decide +kernel) (by rw [c27]; decide +kernel) (by rw [c27] <;> rfl) (by decide) ?_
            refine g_ald_n d_X9_take_147 rfl g0 ?_
            refine g_ald_n d_X9_take_148 rfl g0 ?_
            replace e := ckd e
            obtain ⟨k28, e⟩ := e
            refine g_getI d_X9_take_149 (f := 1005) k28 fk_8_53 rfl rfl ?_
            refine r_iconst d_X9_take_152 (v := (1 : Int32)) (by decide +kernel) ?_
            refine r_iadd d_X9_take_153 ?_
            replace e := bd e
            obtain ⟨q29, eq29, e⟩ := e
            refine g_callV d_X9_take_154 vk_8_137 (as := [_]) rfl k28 rfl (by simp [zrf_cat, cat_int, cat_long]) (j := 1) (by omega) (c_X9_leave (by omega) eq29) ?_
            refine g_ald_n d_X9_take_157 rfl g0 ?_
            replace e := ckd e
            obtain ⟨k31, e⟩ := e
            replace e := bd e
            obtain ⟨q30, eq30, e⟩ := e
            refine g_callV d_X9_take_158 vk_8_161 (as := []) rfl k31 rfl (by simp [zrf_cat, cat_int, cat_long]) (j := 1) (by omega) (c_X9_resume (by omega) eq30) ?_
            refine r_goto d_X9_take_161 (tgt := 240) (by decide) ?_
            obtain rfl := Option.some.inj e
            exact g_vret d_X9_take_240 rfl
          · rcases ite_or e with ⟨c32, e⟩ | ⟨c32, e⟩
            · refine r_tableIn d_X9_take_13 (off := 80) (tgt := 93) (by rw [c32]; decide +kernel) (by rw [c32]; decide +kernel) (by rw [c32] <;> rfl) (by decide) ?_
              refine g_ald_n d_X9_take_93 rfl g0 ?_
              refine g_ald_n d_X9_take_94 rfl g0 ?_
              replace e := ckd e
              obtain ⟨k33, e⟩ := e
              refine g_getI d_X9_take_95 (f := 1010) k33 fk_8_65 rfl rfl ?_
              replace e := bd e
              obtain ⟨q34, eq34, e⟩ := e
              refine g_callV d_X9_take_98 vk_8_145 (as := [_]) rfl k33 rfl (by simp [zrf_cat, cat_int, cat_long]) (j := 1) (by omega) (c_X9_set (by omega) eq34) ?_
              refine g_ald_n d_X9_take_101 rfl g0 ?_
              refine r_dup d_X9_take_102 (zrf_cat _) ?_
              replace e := ckd e
              obtain ⟨k35, e⟩ := e
              refine g_getI d_X9_take_103 (f := 1010) k35 fk_8_65 rfl rfl ?_
              refine r_iconst d_X9_take_106 (v := (1 : Int32)) (by decide +kernel) ?_
              refine r_iadd d_X9_take_107 ?_
              refine g_putI d_X9_take_108 (f := 1010) k35 fk_8_65 rfl (Or.inl rfl) ⟨rfl, rfl⟩ ?_
              replace e := bhd e
              obtain ⟨_, rfl, e⟩ := e
              refine r_goto d_X9_take_111 (tgt := 240) (by decide) ?_
              obtain rfl := Option.some.inj e
              exact g_vret d_X9_take_240 rfl
            · rcases ite_or e with ⟨c37, e⟩ | ⟨c37, e⟩
              · refine r_tableIn d_X9_take_13 (off := 181) (tgt := 194) (by rw [c37]; decide +kernel) (by rw [c37]; decide +kernel) (by rw [c37] <;> rfl) (by decide) ?_
                refine g_ald_n d_X9_take_194 rfl g0 ?_
                replace e := ckd e
                obtain ⟨k38, e⟩ := e
                refine g_getI d_X9_take_195 (f := 1007) k38 fk_8_59 rfl rfl ?_
                refine r_iconst d_X9_take_198 (v := (3 : Int32)) (by decide +kernel) ?_
                refine r_icmp_ne d_X9_take_199 (tgt := 240) (by decide) (fun c39 => ?_) (fun c39 => ?_)
                · replace e := (if_neg c39).symm.trans e
                  obtain rfl := Option.some.inj e
                  exact g_vret d_X9_take_240 rfl
                · replace e := (if_pos c39).symm.trans e
                  refine g_ald_n d_X9_take_202 rfl g0 ?_
                  refine g_getI d_X9_take_203 (f := 1008) k38 fk_8_96 rfl rfl ?_
                  refine r_iload_n d_X9_take_206 rfl g2 ?_
                  refine r_icmp_ne d_X9_take_207 (tgt := 240) (by decide) (fun c40 => ?_) (fun c40 => ?_)
                  · replace e := (if_neg c40).symm.trans e
                    obtain rfl := Option.some.inj e
                    exact g_vret d_X9_take_240 rfl
                  · replace e := (if_pos c40).symm.trans e
                    refine g_ald_n d_X9_take_210 rfl g0 ?_
                    refine r_iload_n d_X9_take_211 rfl g3 ?_
                    replace e := bd e
                    obtain ⟨q41, eq41, e⟩ := e
                    refine g_callV d_X9_take_212 vk_8_145 (as := [_]) rfl k38 rfl (by simp [zrf_cat, cat_int, cat_long]) (j := 1) (by omega) (c_X9_set (by omega) eq41) ?_
                    refine g_ald_n d_X9_take_215 rfl g0 ?_
                    replace e := ckd e
                    obtain ⟨k43, e⟩ := e
                    replace e := bd e
                    obtain ⟨q42, eq42, e⟩ := e
                    refine g_callV d_X9_take_216 vk_8_161 (as := []) rfl k43 rfl (by simp [zrf_cat, cat_int, cat_long]) (j := 1) (by omega) (c_X9_resume (by omega) eq42) ?_
                    refine r_goto d_X9_take_219 (tgt := 240) (by decide) ?_
                    obtain rfl := Option.some.inj e
                    exact g_vret d_X9_take_240 rfl
              · rcases ite_or e with ⟨c44, e⟩ | ⟨c44, e⟩
                · refine r_tableIn d_X9_take_13 (off := 151) (tgt := 164) (by rw [c44]; decide +kernel) (by rw [c44]; decide +kernel) (by rw [c44] <;> rfl) (by decide) ?_
                  refine g_ald_n d_X9_take_164 rfl g0 ?_
                  replace e := ckd e
                  obtain ⟨k45, e⟩ := e
                  refine g_getI d_X9_take_165 (f := 1007) k45 fk_8_59 rfl rfl ?_
                  refine r_iconst d_X9_take_168 (v := (2 : Int32)) (by decide +kernel) ?_
                  refine r_icmp_ne d_X9_take_169 (tgt := 240) (by decide) (fun c46 => ?_) (fun c46 => ?_)
                  · replace e := (if_neg c46).symm.trans e
                    obtain rfl := Option.some.inj e
                    exact g_vret d_X9_take_240 rfl
                  · replace e := (if_pos c46).symm.trans e
                    refine g_ald_n d_X9_take_172 rfl g0 ?_
                    refine r_dup d_X9_take_173 (zrf_cat _) ?_
                    refine g_getI d_X9_take_174 (f := 1009) k45 fk_8_62 rfl rfl ?_
                    refine r_iconst d_X9_take_177 (v := (1 : Int32)) (by decide +kernel) ?_
                    refine r_iadd d_X9_take_178 ?_
                    refine g_putI d_X9_take_179 (f := 1009) k45 fk_8_62 rfl (Or.inl rfl) ⟨rfl, rfl⟩ ?_
                    replace e := bhd e
                    obtain ⟨_, rfl, e⟩ := e
                    refine g_ald_n d_X9_take_182 rfl g0 ?_
                    refine r_iload_n d_X9_take_183 rfl g2 ?_
                    replace e := bd e
                    obtain ⟨q48, eq48, e⟩ := e
                    refine g_callV d_X9_take_184 vk_8_145 (as := [_]) rfl (tO_pI k45) rfl (by simp [zrf_cat, cat_int, cat_long]) (j := 1) (by omega) (c_X9_set (by omega) eq48) ?_
                    refine g_ald_n d_X9_take_187 rfl g0 ?_
                    replace e := ckd e
                    obtain ⟨k50, e⟩ := e
                    replace e := bd e
                    obtain ⟨q49, eq49, e⟩ := e
                    refine g_callV d_X9_take_188 vk_8_161 (as := []) rfl k50 rfl (by simp [zrf_cat, cat_int, cat_long]) (j := 1) (by omega) (c_X9_resume (by omega) eq49) ?_
                    refine r_goto d_X9_take_191 (tgt := 240) (by decide) ?_
                    obtain rfl := Option.some.inj e
                    exact g_vret d_X9_take_240 rfl
                · rcases ite_or e with ⟨c51, e⟩ | ⟨c51, e⟩
                  · refine r_tableIn d_X9_take_13 (off := 101) (tgt := 114) (by rw [c51]; decide +kernel) (by rw [c51]; decide +kernel) (by rw [c51] <;> rfl) (by decide) ?_
                    refine g_ald_n d_X9_take_114 rfl g0 ?_
                    refine g_ald_n d_X9_take_115 rfl g0 ?_
                    replace e := ckd e
                    obtain ⟨k52, e⟩ := e
                    refine g_getI d_X9_take_116 (f := 1005) k52 fk_8_53 rfl rfl ?_
                    refine r_iconst d_X9_take_119 (v := (1 : Int32)) (by decide +kernel) ?_
                    refine r_iadd d_X9_take_120 ?_
                    replace e := bd e
                    obtain ⟨q53, eq53, e⟩ := e
                    refine g_callV d_X9_take_121 vk_8_137 (as := [_]) rfl k52 rfl (by simp [zrf_cat, cat_int, cat_long]) (j := 1) (by omega) (c_X9_leave (by omega) eq53) ?_
                    refine r_goto d_X9_take_124 (tgt := 240) (by decide) ?_
                    obtain rfl := Option.some.inj e
                    exact g_vret d_X9_take_240 rfl
                  · refine r_tableOut d_X9_take_13 (tgt := 222) (by have := lv_neT (a := 1) c4 (by decide +kernel); have := lv_neT (a := 2) c10 (by decide +kernel); have := lv_neT (a := 3) c17 (by decide +kernel); have := lv_neT (a := 4) c24 (by decide +kernel); have := lv_neT (a := 5) c27 (by decide +kernel); have := lv_neT (a := 6) c32 (by decide +kernel); have := lv_neT (a := 7) c37 (by decide +kernel); have := lv_neT (a := 8) c44 (by decide +kernel); have := lv_neT (a := 9) c51 (by decide +kernel); omega) (by decide) ?_
                    refine g_ald_n d_X9_take_222 rfl g0 ?_
                    replace e := ckd e
                    obtain ⟨k54, e⟩ := e
                    refine g_getR d_X9_take_223 (f := 1003) k54 fk_8_25 rfl rfl ?_
                    refine r_iconst d_X9_take_226 (v := (0 : Int32)) (by decide +kernel) ?_
                    replace e := ckd e
                    obtain ⟨k55, e⟩ := e
                    refine g_putI d_X9_take_227 (f := 904) k55 fk_8_50 rfl (Or.inl rfl) ⟨rfl, rfl⟩ ?_
                    replace e := bhd e
                    obtain ⟨_, rfl, e⟩ := e
                    refine g_ald_n d_X9_take_230 rfl g0 ?_
                    refine r_iconst d_X9_take_231 (v := (4 : Int32)) (by decide +kernel) ?_
                    refine g_putI d_X9_take_232 (f := 1007) (tO_pI k54) fk_8_59 rfl (Or.inl rfl) ⟨rfl, rfl⟩ ?_
                    replace e := bhd e
                    obtain ⟨_, rfl, e⟩ := e
                    refine g_ald_n d_X9_take_235 rfl g0 ?_
                    refine r_iload_n d_X9_take_236 rfl g2 ?_
                    refine g_putI d_X9_take_237 (f := 1011) (tO_pI (tO_pI k54)) fk_8_68 rfl (Or.inl rfl) ⟨rfl, rfl⟩ ?_
                    replace e := bhd e
                    obtain ⟨_, rfl, e⟩ := e
                    obtain rfl := Option.some.inj e
                    exact g_vret d_X9_take_240 rfl

theorem c_X9_take {G : Gd} {j : Nat} (hj : 2 ≤ j) {l0 : Nat} {l1 : Int32} {l2 : Int32} {l3 : Int32} {l4 : Int32} {l5 : Int32} {h : Hp} {o : Hp} (e : f_X9_take l0 l1 l2 l3 l4 l5 h = some o) : Cal G j Y_X9_take [zrf (l0), .int (l1), .int (l2), .int (l3), .int (l4), .int (l5)] h none o := Cal.of (n := 0) (I := false) (by first | exact Or.inl (by decide +kernel) | exact Or.inr (by decide +kernel)) (by decide) (by simp [lg_sl, zrf_cat, cat_int, cat_long]) (f_X9_take_ok hj _ _ _ _ _ _ _ h o (by simp [lv_args, zlk, zrf_cat, cat_int, cat_long]) (by simp [lv_args, zlk, zrf_cat, cat_int, cat_long]) (by simp [lv_args, zlk, zrf_cat, cat_int, cat_long]) (by simp [lv_args, zlk, zrf_cat, cat_int, cat_long]) (by simp [lv_args, zlk, zrf_cat, cat_int, cat_long]) (by simp [lv_args, zlk, zrf_cat, cat_int, cat_long]) e)
theorem fk_5_115 : Fk "TaskWeave$Shard" 115 204 := ⟨by decide, by decide, by decide +kernel⟩
theorem vk_5_116 : Vk "TaskWeave$Shard" 116 0 7 Y_X6_records := ⟨yk_X6_records, by decide +kernel, by decide +kernel, by decide +kernel, by decide⟩
theorem fk_5_120 : Fk "TaskWeave$Shard" 120 1000 := ⟨by decide, by decide, by decide +kernel⟩
theorem vk_5_123 : Vk "TaskWeave$Shard" 123 5 7 Y_X6_commit := ⟨yk_X6_commit, by decide +kernel, by decide +kernel, by decide +kernel, by decide⟩
theorem fk_5_127 : Fk "TaskWeave$Shard" 127 100 := ⟨by decide, by decide, by decide +kernel⟩
theorem vk_5_132 : Vk "TaskWeave$Shard" 132 5 10 Y_X9_take := ⟨yk_X9_take, by decide +kernel, by decide +kernel, by decide +kernel, by decide⟩
theorem vk_5_136 : Vk "TaskWeave$Shard" 136 1 10 Y_X9_isMessage := ⟨yk_X9_isMessage, by decide +kernel, by decide +kernel, by decide +kernel, by decide⟩
theorem vk_5_140 : Vk "TaskWeave$Shard" 140 3 3 Y_X2_add := ⟨yk_X2_add, by decide +kernel, by decide +kernel, by decide +kernel, by decide⟩
def f_X6_happen_74 (s0 : Int32) (l0 : Nat) (l1 : Nat) (l7 : Int32) (l8 : Int32) (l9 : Int32) (h : Hp) : Option (Int32 × Hp) := ck (isO (h) (l0) 7) ((f_X6_records (l0) (h)).bind (fun q9 => ck (isO (q9.2) (l1) 10) (ck (isO (q9.2) (l0) 7) ((f_X6_commit (l0) (l7) ((zI (q9.2) 1000 (l1)) / ((4 : Int32))) (l8) (l9) (s0) (q9.2)).bind (fun q12 => if (q12.1) = (0) then (some ((0 : Int32), q12.2)) else (ck (isO (q12.2) (l0) 7) (ck (isO (q12.2) (zR (q12.2) 701 (l0)) 1) (ck (isO (q12.2) (l1) 10) ((f_X9_take (l1) (l7) (l8) (l9) (s0) (zI (q12.2) 100 (zR (q12.2) 701 (l0))) (q12.2)).bind (fun q17 => ck (isO (q17) (l1) 10) ((f_X9_isMessage (l1) (l7) (q17)).bind (fun q19 => if (q19.1) = (0) then (some ((1 : Int32), q19.2)) else (ck (isO (q19.2) (l0) 7) (ck (isO (q19.2) (l1) 10) (ck (isO (q19.2) (zR (q19.2) 1002 (l1)) 2) (ck (isO (q19.2) (zR (q19.2) 706 (l0)) 3) ((f_X2_add (zR (q19.2) 706 (l0)) (q9.1) ((zI (q19.2) 1000 (l1)) / ((4 : Int32))) ((zI (q19.2) 204 (zR (q19.2) 1002 (l1))) - ((1 : Int32))) (q19.2)).bind (fun q25 => some ((1 : Int32), q25)))))))))))))))))))
theorem f_X6_happen_74_ok {G : Gd} {d : Nat} (hj : 4 ≤ d) : ∀ (s0 : Int32) (l0 : Nat) (l1 : Nat) (l7 : Int32) (l8 : Int32) (l9 : Int32) (L : List (Nat × Value)) (h : Hp) (o : (Int32 × Hp)), zlk L 0 = some (zrf (l0)) → zlk L 1 = some (zrf (l1)) → zlk L 7 = some (.int (l7)) → zlk L 8 = some (.int (l8)) → zlk L 9 = some (.int (l9)) → f_X6_happen_74 s0 l0 l1 l7 l8 l9 h = some o → Ev G M_X6_happen d 74 L [.int (s0)] h (Ret Y_X6_happen (some (.int o.1)) o.2) := by
  intro s0 l0 l1 l7 l8 l9 L h o g0 g1 g7 g8 g9 e
  unfold f_X6_happen_74 at e
  refine s_istore d_X6_happen_74 (by decide) (fun L g10 gK => ?_)
  replace g0 := gK _ _ (by decide) (Or.inr (zrf_cat _)) g0
  replace g1 := gK _ _ (by decide) (Or.inr (zrf_cat _)) g1
  replace g7 := gK _ _ (by decide) (Or.inr rfl) g7
  replace g8 := gK _ _ (by decide) (Or.inr rfl) g8
  replace g9 := gK _ _ (by decide) (Or.inr rfl) g9
  refine g_ald_n d_X6_happen_76 rfl g0 ?_
  replace e := ckd e
  obtain ⟨k10, e⟩ := e
  replace e := bd e
  obtain ⟨q9, eq9, e⟩ := e
  refine g_callV d_X6_happen_77 vk_5_116 (as := []) rfl k10 rfl (by simp [zrf_cat, cat_int, cat_long]) (j := 1) (by omega) (c_X6_records (by omega) eq9) ?_
  refine s_istore d_X6_happen_80 (by decide) (fun L g11 gK => ?_)
  replace g0 := gK _ _ (by decide) (Or.inr (zrf_cat _)) g0
  replace g1 := gK _ _ (by decide) (Or.inr (zrf_cat _)) g1
  replace g7 := gK _ _ (by decide) (Or.inr rfl) g7
  replace g8 := gK _ _ (by decide) (Or.inr rfl) g8
  replace g9 := gK _ _ (by decide) (Or.inr rfl) g9
  replace g10 := gK _ _ (by decide) (Or.inr rfl) g10
  refine g_ald_n d_X6_happen_82 rfl g0 ?_
  refine r_iload d_X6_happen_83 g7 ?_
  refine g_ald_n d_X6_happen_85 rfl g1 ?_
  replace e := ckd e
  obtain ⟨k11, e⟩ := e
  refine g_getI d_X6_happen_86 (f := 1000) k11 fk_5_120 rfl rfl ?_
  refine r_iconst d_X6_happen_89 (v := (4 : Int32)) (by decide +kernel) ?_
  refine r_idiv d_X6_happen_90 (by decide +kernel) ?_
  refine r_iload d_X6_happen_91 g8 ?_
  refine r_iload d_X6_happen_93 g9 ?_
  refine r_iload d_X6_happen_95 g10 ?_
  replace e := ckd e
  obtain ⟨k13, e⟩ := e
  replace e := bd e
  obtain ⟨q12, eq12, e⟩ := e
  refine g_callV d_X6_happen_97 vk_5_123 (as := [_, _, _, _, _]) rfl k13 rfl (by simp [zrf_cat, cat_int, cat_long]) (j := 3) (by omega) (c_X6_commit (by omega) eq12) ?_
  refine r_if_ne d_X6_happen_100 (tgt := 105) (by decide) (fun c14 => ?_) (fun c14 => ?_)
  · replace e := (if_neg c14).symm.trans e
    refine g_ald_n d_X6_happen_105 rfl g1 ?_
    refine r_iload d_X6_happen_106 g7 ?_
    refine r_iload d_X6_happen_108 g8 ?_
    refine r_iload d_X6_happen_110 g9 ?_
    refine r_iload d_X6_happen_112 g10 ?_
    refine g_ald_n d_X6_happen_114 rfl g0 ?_
    replace e := ckd e
    obtain ⟨k15, e⟩ := e
    refine g_getR d_X6_happen_115 (f := 701) k15 fk_5_41 rfl rfl ?_
    replace e := ckd e
    obtain ⟨k16, e⟩ := e
    refine g_getI d_X6_happen_118 (f := 100) k16 fk_5_127 rfl rfl ?_
    replace e := ckd e
    obtain ⟨k18, e⟩ := e
    replace e := bd e
    obtain ⟨q17, eq17, e⟩ := e
    refine g_callV d_X6_happen_121 vk_5_132 (as := [_, _, _, _, _]) rfl k18 rfl (by simp [zrf_cat, cat_int, cat_long]) (j := 2) (by omega) (c_X9_take (by omega) eq17) ?_
    refine g_ald_n d_X6_happen_124 rfl g1 ?_
    refine r_iload d_X6_happen_125 g7 ?_
    replace e := ckd e
    obtain ⟨k20, e⟩ := e
    replace e := bd e
    obtain ⟨q19, eq19, e⟩ := e
    refine g_callV d_X6_happen_127 vk_5_136 (as := [_]) rfl k20 rfl (by simp [zrf_cat, cat_int, cat_long]) (j := 1) (by omega) (c_X9_isMessage (by omega) eq19) ?_
    refine r_if_eq d_X6_happen_130 (tgt := 157) (by decide) (fun c21 => ?_) (fun c21 => ?_)
    · replace e := (if_pos c21).symm.trans e
      refine r_iconst d_X6_happen_157 (v := (1 : Int32)) (by decide +kernel) ?_
      obtain rfl := Option.some.inj e
      exact g_iret d_X6_happen_158 rfl rfl
    · replace e := (if_neg c21).symm.trans e
      refine g_ald_n d_X6_happen_133 rfl g0 ?_
      replace e := ckd e
      obtain ⟨k22, e⟩ := e
      refine g_getR d_X6_happen_134 (f := 706) k22 fk_5_30 rfl rfl ?_
      refine r_iload d_X6_happen_137 g11 ?_
      refine g_ald_n d_X6_happen_139 rfl g1 ?_
      replace e := ckd e
      obtain ⟨k23, e⟩ := e
      refine g_getI d_X6_happen_140 (f := 1000) k23 fk_5_120 rfl rfl ?_
      refine r_iconst d_X6_happen_143 (v := (4 : Int32)) (by decide +kernel) ?_
      refine r_idiv d_X6_happen_144 (by decide +kernel) ?_
      refine g_ald_n d_X6_happen_145 rfl g1 ?_
      refine g_getR d_X6_happen_146 (f := 1002) k23 fk_5_59 rfl rfl ?_
      replace e := ckd e
      obtain ⟨k24, e⟩ := e
      refine g_getI d_X6_happen_149 (f := 204) k24 fk_5_115 rfl rfl ?_
      refine r_iconst d_X6_happen_152 (v := (1 : Int32)) (by decide +kernel) ?_
      refine r_isub d_X6_happen_153 ?_
      replace e := ckd e
      obtain ⟨k26, e⟩ := e
      replace e := bd e
      obtain ⟨q25, eq25, e⟩ := e
      refine g_callV d_X6_happen_154 vk_5_140 (as := [_, _, _]) rfl k26 rfl (by simp [zrf_cat, cat_int, cat_long]) (j := 2) (by omega) (c_X2_add (by omega) eq25) ?_
      refine r_iconst d_X6_happen_157 (v := (1 : Int32)) (by decide +kernel) ?_
      obtain rfl := Option.some.inj e
      exact g_iret d_X6_happen_158 rfl rfl
  · replace e := (if_pos c14).symm.trans e
    refine r_iconst d_X6_happen_103 (v := (0 : Int32)) (by decide +kernel) ?_
    obtain rfl := Option.some.inj e
    exact g_iret d_X6_happen_104 rfl rfl

def f_X6_happen_61 (s0 : Int32) (l0 : Nat) (l1 : Nat) (l5 : Int32) (l6 : Int32) (l7 : Int32) (l8 : Int32) (h : Hp) : Option (Int32 × Hp) := if (l6) = (0) then (f_X6_happen_74 (l5) (l0) (l1) (l7) (l8) (s0) (h)) else (f_X6_happen_74 ((0 : Int32)) (l0) (l1) (l7) (l8) (s0) (h))
theorem f_X6_happen_61_ok {G : Gd} {d : Nat} (hj : 4 ≤ d) : ∀ (s0 : Int32) (l0 : Nat) (l1 : Nat) (l5 : Int32) (l6 : Int32) (l7 : Int32) (l8 : Int32) (L : List (Nat × Value)) (h : Hp) (o : (Int32 × Hp)), zlk L 0 = some (zrf (l0)) → zlk L 1 = some (zrf (l1)) → zlk L 5 = some (.int (l5)) → zlk L 6 = some (.int (l6)) → zlk L 7 = some (.int (l7)) → zlk L 8 = some (.int (l8)) → f_X6_happen_61 s0 l0 l1 l5 l6 l7 l8 h = some o → Ev G M_X6_happen d 61 L [.int (s0)] h (Ret Y_X6_happen (some (.int o.1)) o.2) := by
  intro s0 l0 l1 l5 l6 l7 l8 L h o g0 g1 g5 g6 g7 g8 e
  unfold f_X6_happen_61 at e
  refine s_istore d_X6_happen_61 (by decide) (fun L g9 gK => ?_)
  replace g0 := gK _ _ (by decide) (Or.inr (zrf_cat _)) g0
  replace g1 := gK _ _ (by decide) (Or.inr (zrf_cat _)) g1
  replace g5 := gK _ _ (by decide) (Or.inr rfl) g5
  replace g6 := gK _ _ (by decide) (Or.inr rfl) g6
  replace g7 := gK _ _ (by decide) (Or.inr rfl) g7
  replace g8 := gK _ _ (by decide) (Or.inr rfl) g8
  refine r_iload d_X6_happen_63 g6 ?_
  refine r_if_eq d_X6_happen_65 (tgt := 72) (by decide) (fun c8 => ?_) (fun c8 => ?_)
  · replace e := (if_pos c8).symm.trans e
    refine r_iload d_X6_happen_72 g5 ?_
    exact f_X6_happen_74_ok hj _ _ _ _ _ _ _ _ _ g0 g1 g7 g8 g9 e
  · replace e := (if_neg c8).symm.trans e
    refine r_iconst d_X6_happen_68 (v := (0 : Int32)) (by decide +kernel) ?_
    refine r_goto d_X6_happen_69 (tgt := 74) (by decide) ?_
    exact f_X6_happen_74_ok hj _ _ _ _ _ _ _ _ _ g0 g1 g7 g8 g9 e

def f_X6_happen_48 (s0 : Int32) (l0 : Nat) (l1 : Nat) (l4 : Int32) (l5 : Int32) (l6 : Int32) (l7 : Int32) (h : Hp) : Option (Int32 × Hp) := if (l6) = (0) then (f_X6_happen_61 (l4) (l0) (l1) (l5) (l6) (l7) (s0) (h)) else (f_X6_happen_61 ((0 : Int32)) (l0) (l1) (l5) (l6) (l7) (s0) (h))
theorem f_X6_happen_48_ok {G : Gd} {d : Nat} (hj : 4 ≤ d) : ∀ (s0 : Int32) (l0 : Nat) (l1 : Nat) (l4 : Int32) (l5 : Int32) (l6 : Int32) (l7 : Int32) (L : List (Nat × Value)) (h : Hp) (o : (Int32 × Hp)), zlk L 0 = some (zrf (l0)) → zlk L 1 = some (zrf (l1)) → zlk L 4 = some (.int (l4)) → zlk L 5 = some (.int (l5)) → zlk L 6 = some (.int (l6)) → zlk L 7 = some (.int (l7)) → f_X6_happen_48 s0 l0 l1 l4 l5 l6 l7 h = some o → Ev G M_X6_happen d 48 L [.int (s0)] h (Ret Y_X6_happen (some (.int o.1)) o.2) := by
  intro s0 l0 l1 l4 l5 l6 l7 L h o g0 g1 g4 g5 g6 g7 e
  unfold f_X6_happen_48 at e
  refine s_istore d_X6_happen_48 (by decide) (fun L g8 gK => ?_)
  replace g0 := gK _ _ (by decide) (Or.inr (zrf_cat _)) g0
  replace g1 := gK _ _ (by decide) (Or.inr (zrf_cat _)) g1
  replace g4 := gK _ _ (by decide) (Or.inr rfl) g4
  replace g5 := gK _ _ (by decide) (Or.inr rfl) g5
  replace g6 := gK _ _ (by decide) (Or.inr rfl) g6
  replace g7 := gK _ _ (by decide) (Or.inr rfl) g7
  refine r_iload d_X6_happen_50 g6 ?_
  refine r_if_eq d_X6_happen_52 (tgt := 59) (by decide) (fun c7 => ?_) (fun c7 => ?_)
  · replace e := (if_pos c7).symm.trans e
    refine r_iload d_X6_happen_59 g4 ?_
    exact f_X6_happen_61_ok hj _ _ _ _ _ _ _ _ _ _ g0 g1 g5 g6 g7 g8 e
  · replace e := (if_neg c7).symm.trans e
    refine r_iconst d_X6_happen_55 (v := (0 : Int32)) (by decide +kernel) ?_
    refine r_goto d_X6_happen_56 (tgt := 61) (by decide) ?_
    exact f_X6_happen_61_ok hj _ _ _ _ _ _ _ _ _ _ g0 g1 g5 g6 g7 g8 e

def f_X6_happen_36 (s0 : Int32) (l0 : Nat) (l1 : Nat) (l3 : Int32) (l4 : Int32) (l5 : Int32) (l6 : Int32) (h : Hp) : Option (Int32 × Hp) := if (l6) = (0) then (f_X6_happen_48 (l3) (l0) (l1) (l4) (l5) (l6) (s0) (h)) else (f_X6_happen_48 ((-1 : Int32)) (l0) (l1) (l4) (l5) (l6) (s0) (h))
theorem f_X6_happen_36_ok {G : Gd} {d : Nat} (hj : 4 ≤ d) : ∀ (s0 : Int32) (l0 : Nat) (l1 : Nat) (l3 : Int32) (l4 : Int32) (l5 : Int32) (l6 : Int32) (L : List (Nat × Value)) (h : Hp) (o : (Int32 × Hp)), zlk L 0 = some (zrf (l0)) → zlk L 1 = some (zrf (l1)) → zlk L 3 = some (.int (l3)) → zlk L 4 = some (.int (l4)) → zlk L 5 = some (.int (l5)) → zlk L 6 = some (.int (l6)) → f_X6_happen_36 s0 l0 l1 l3 l4 l5 l6 h = some o → Ev G M_X6_happen d 36 L [.int (s0)] h (Ret Y_X6_happen (some (.int o.1)) o.2) := by
  intro s0 l0 l1 l3 l4 l5 l6 L h o g0 g1 g3 g4 g5 g6 e
  unfold f_X6_happen_36 at e
  refine s_istore d_X6_happen_36 (by decide) (fun L g7 gK => ?_)
  replace g0 := gK _ _ (by decide) (Or.inr (zrf_cat _)) g0
  replace g1 := gK _ _ (by decide) (Or.inr (zrf_cat _)) g1
  replace g3 := gK _ _ (by decide) (Or.inr rfl) g3
  replace g4 := gK _ _ (by decide) (Or.inr rfl) g4
  replace g5 := gK _ _ (by decide) (Or.inr rfl) g5
  replace g6 := gK _ _ (by decide) (Or.inr rfl) g6
  refine r_iload d_X6_happen_38 g6 ?_
  refine r_if_eq d_X6_happen_40 (tgt := 47) (by decide) (fun c6 => ?_) (fun c6 => ?_)
  · replace e := (if_pos c6).symm.trans e
    refine r_iload_n d_X6_happen_47 rfl g3 ?_
    exact f_X6_happen_48_ok hj _ _ _ _ _ _ _ _ _ _ g0 g1 g4 g5 g6 g7 e
  · replace e := (if_neg c6).symm.trans e
    refine r_iconst d_X6_happen_43 (v := (-1 : Int32)) (by decide +kernel) ?_
    refine r_goto d_X6_happen_44 (tgt := 48) (by decide) ?_
    exact f_X6_happen_48_ok hj _ _ _ _ _ _ _ _ _ _ g0 g1 g4 g5 g6 g7 e

def f_X6_happen_23 (s0 : Int32) (l0 : Nat) (l1 : Nat) (l2 : Int32) (l3 : Int32) (l4 : Int32) (l5 : Int32) (h : Hp) : Option (Int32 × Hp) := if (s0) = (0) then (f_X6_happen_36 (l2) (l0) (l1) (l3) (l4) (l5) (s0) (h)) else (f_X6_happen_36 ((12 : Int32)) (l0) (l1) (l3) (l4) (l5) (s0) (h))
theorem f_X6_happen_23_ok {G : Gd} {d : Nat} (hj : 4 ≤ d) : ∀ (s0 : Int32) (l0 : Nat) (l1 : Nat) (l2 : Int32) (l3 : Int32) (l4 : Int32) (l5 : Int32) (L : List (Nat × Value)) (h : Hp) (o : (Int32 × Hp)), zlk L 0 = some (zrf (l0)) → zlk L 1 = some (zrf (l1)) → zlk L 2 = some (.int (l2)) → zlk L 3 = some (.int (l3)) → zlk L 4 = some (.int (l4)) → zlk L 5 = some (.int (l5)) → f_X6_happen_23 s0 l0 l1 l2 l3 l4 l5 h = some o → Ev G M_X6_happen d 23 L [.int (s0)] h (Ret Y_X6_happen (some (.int o.1)) o.2) := by
  intro s0 l0 l1 l2 l3 l4 l5 L h o g0 g1 g2 g3 g4 g5 e
  unfold f_X6_happen_23 at e
  refine s_istore d_X6_happen_23 (by decide) (fun L g6 gK => ?_)
  replace g0 := gK _ _ (by decide) (Or.inr (zrf_cat _)) g0
  replace g1 := gK _ _ (by decide) (Or.inr (zrf_cat _)) g1
  replace g2 := gK _ _ (by decide) (Or.inr rfl) g2
  replace g3 := gK _ _ (by decide) (Or.inr rfl) g3
  replace g4 := gK _ _ (by decide) (Or.inr rfl) g4
  replace g5 := gK _ _ (by decide) (Or.inr rfl) g5
  refine r_iload d_X6_happen_25 g6 ?_
  refine r_if_eq d_X6_happen_27 (tgt := 35) (by decide) (fun c5 => ?_) (fun c5 => ?_)
  · replace e := (if_pos c5).symm.trans e
    refine r_iload_n d_X6_happen_35 rfl g2 ?_
    exact f_X6_happen_36_ok hj _ _ _ _ _ _ _ _ _ _ g0 g1 g3 g4 g5 g6 e
  · replace e := (if_neg c5).symm.trans e
    refine r_bipush d_X6_happen_30 (v := (12 : Int32)) (by decide +kernel) ?_
    refine r_goto d_X6_happen_32 (tgt := 36) (by decide) ?_
    exact f_X6_happen_36_ok hj _ _ _ _ _ _ _ _ _ _ g0 g1 g3 g4 g5 g6 e

def f_X6_happen_22 (l0 : Nat) (l1 : Nat) (l2 : Int32) (l3 : Int32) (l4 : Int32) (l5 : Int32) (h : Hp) : Option (Int32 × Hp) := f_X6_happen_23 ((0 : Int32)) (l0) (l1) (l2) (l3) (l4) (l5) (h)
theorem f_X6_happen_22_ok {G : Gd} {d : Nat} (hj : 4 ≤ d) : ∀ (l0 : Nat) (l1 : Nat) (l2 : Int32) (l3 : Int32) (l4 : Int32) (l5 : Int32) (L : List (Nat × Value)) (h : Hp) (o : (Int32 × Hp)), zlk L 0 = some (zrf (l0)) → zlk L 1 = some (zrf (l1)) → zlk L 2 = some (.int (l2)) → zlk L 3 = some (.int (l3)) → zlk L 4 = some (.int (l4)) → zlk L 5 = some (.int (l5)) → f_X6_happen_22 l0 l1 l2 l3 l4 l5 h = some o → Ev G M_X6_happen d 22 L [] h (Ret Y_X6_happen (some (.int o.1)) o.2) := by
  intro l0 l1 l2 l3 l4 l5 L h o g0 g1 g2 g3 g4 g5 e
  unfold f_X6_happen_22 at e
  refine r_iconst d_X6_happen_22 (v := (0 : Int32)) (by decide +kernel) ?_
  exact f_X6_happen_23_ok hj _ _ _ _ _ _ _ _ _ _ g0 g1 g2 g3 g4 g5 e

def f_X6_happen (l0 : Nat) (l1 : Nat) (l2 : Int32) (l3 : Int32) (l4 : Int32) (l5 : Int32) (h : Hp) : Option (Int32 × Hp) := if ((10 : Int32)) ≤ (l2) then (f_X6_happen_22 (l0) (l1) (l2) (l3) (l4) (l5) (h)) else (ck (isO (h) (l1) 10) (ck (isO (h) (zR (h) 1002 (l1)) 2) (if (zI (h) 204 (zR (h) 1002 (l1))) < ((59 : Int32)) then (f_X6_happen_22 (l0) (l1) (l2) (l3) (l4) (l5) (h)) else (f_X6_happen_23 ((1 : Int32)) (l0) (l1) (l2) (l3) (l4) (l5) (h)))))
theorem f_X6_happen_ok {G : Gd} {d : Nat} (hj : 4 ≤ d) : ∀ (l0 : Nat) (l1 : Nat) (l2 : Int32) (l3 : Int32) (l4 : Int32) (l5 : Int32) (L : List (Nat × Value)) (h : Hp) (o : (Int32 × Hp)), zlk L 0 = some (zrf (l0)) → zlk L 1 = some (zrf (l1)) → zlk L 2 = some (.int (l2)) → zlk L 3 = some (.int (l3)) → zlk L 4 = some (.int (l4)) → zlk L 5 = some (.int (l5)) → f_X6_happen l0 l1 l2 l3 l4 l5 h = some o → Ev G M_X6_happen d 0 L [] h (Ret Y_X6_happen (some (.int o.1)) o.2) := by
  intro l0 l1 l2 l3 l4 l5 L h o g0 g1 g2 g3 g4 g5 e
  unfold f_X6_happen at e
  refine r_iload_n d_X6_happen_0 rfl g2 ?_
  refine r_bipush d_X6_happen_1 (v := (10 : Int32)) (by decide +kernel) ?_
  refine r_icmp_ge d_X6_happen_3 (tgt := 22) (by decide) (fun c1 => ?_) (fun c1 => ?_)
  · replace e := (if_pos c1).symm.trans e
    exact f_X6_happen_22_ok hj _ _ _ _ _ _ _ _ _ g0 g1 g2 g3 g4 g5 e
  · replace e := (if_neg c1).symm.trans e
    refine g_ald_n d_X6_happen_6 rfl g1 ?_
    replace e := ckd e
    obtain ⟨k2, e⟩ := e
    refine g_getR d_X6_happen_7 (f := 1002) k2 fk_5_59 rfl rfl ?_
    replace e := ckd e
    obtain ⟨k3, e⟩ := e
    refine g_getI d_X6_happen_10 (f := 204) k3 fk_5_115 rfl rfl ?_
    refine r_bipush d_X6_happen_13 (v := (59 : Int32)) (by decide +kernel) ?_
    refine r_icmp_lt d_X6_happen_15 (tgt := 22) (by decide) (fun c4 => ?_) (fun c4 => ?_)
    · replace e := (if_pos c4).symm.trans e
      exact f_X6_happen_22_ok hj _ _ _ _ _ _ _ _ _ g0 g1 g2 g3 g4 g5 e
    · replace e := (if_neg c4).symm.trans e
      refine r_iconst d_X6_happen_18 (v := (1 : Int32)) (by decide +kernel) ?_
      refine r_goto d_X6_happen_19 (tgt := 23) (by decide) ?_
      exact f_X6_happen_23_ok hj _ _ _ _ _ _ _ _ _ _ g0 g1 g2 g3 g4 g5 e

theorem c_X6_happen {G : Gd} {j : Nat} (hj : 4 ≤ j) {l0 : Nat} {l1 : Nat} {l2 : Int32} {l3 : Int32} {l4 : Int32} {l5 : Int32} {h : Hp} {o : (Int32 × Hp)} (e : f_X6_happen l0 l1 l2 l3 l4 l5 h = some o) : Cal G j Y_X6_happen [zrf (l0), zrf (l1), .int (l2), .int (l3), .int (l4), .int (l5)] h (some (.int o.1)) o.2 := Cal.of (n := 0) (I := false) (by first | exact Or.inl (by decide +kernel) | exact Or.inr (by decide +kernel)) (by decide) (by simp [lg_sl, zrf_cat, cat_int, cat_long]) (f_X6_happen_ok hj _ _ _ _ _ _ _ h o (by simp [lv_args, zlk, zrf_cat, cat_int, cat_long]) (by simp [lv_args, zlk, zrf_cat, cat_int, cat_long]) (by simp [lv_args, zlk, zrf_cat, cat_int, cat_long]) (by simp [lv_args, zlk, zrf_cat, cat_int, cat_long]) (by simp [lv_args, zlk, zrf_cat, cat_int, cat_long]) (by simp [lv_args, zlk, zrf_cat, cat_int, cat_long]) e)
def f_X9_reckon (l0 : Int32) (l1 : Int32) (l2 : Int32) (h : Hp) : Option (Int32 × Hp) := if (l0) = (42 : Int32) then (some ((l1) * (l2), h)) else (if (l0) = (45 : Int32) then (some ((l1) - (l2), h)) else (if (l0) = (60 : Int32) then (if (l2) ≤ (l1) then (some ((0 : Int32), h)) else (some ((1 : Int32), h))) else (if (l0) = (61 : Int32) then (if (l1) = (l2) then (some ((1 : Int32), h)) else (some ((0 : Int32), h))) else (some ((l1) + (l2), h)))))
theorem f_X9_reckon_ok {G : Gd} {d : Nat} (hj : 1 ≤ d) : ∀ (l0 : Int32) (l1 : Int32) (l2 : Int32) (L : List (Nat × Value)) (h : Hp) (o : (Int32 × Hp)), zlk L 0 = some (.int (l0)) → zlk L 1 = some (.int (l1)) → zlk L 2 = some (.int (l2)) → f_X9_reckon l0 l1 l2 h = some o → Ev G M_X9_reckon d 0 L [] h (Ret Y_X9_reckon (some (.int o.1)) o.2) := by
  intro l0 l1 l2 L h o g0 g1 g2 e
  unfold f_X9_reckon at e
  refine r_iload_n d_X9_reckon_0 rfl g0 ?_
  rcases ite_or e with ⟨c1, e⟩ | ⟨c1, e⟩
  · refine r_lookup d_X9_reckon_1 (off := 47) (tgt := 48) (by decide +kernel) (by rw [c1] <;> rfl) (by decide) ?_
    refine r_iload_n d_X9_reckon_48 rfl g1 ?_
    refine r_iload_n d_X9_reckon_49 rfl g2 ?_
    refine r_imul d_X9_reckon_50 ?_
    obtain rfl := Option.some.inj e
    exact g_iret d_X9_reckon_51 rfl rfl
  · rcases ite_or e with ⟨c2, e⟩ | ⟨c2, e⟩
    · refine r_lookup d_X9_reckon_1 (off := 43) (tgt := 44) (by decide +kernel) (by rw [c2] <;> rfl) (by decide) ?_
      refine r_iload_n d_X9_reckon_44 rfl g1 ?_
      refine r_iload_n d_X9_reckon_45 rfl g2 ?_
      refine r_isub d_X9_reckon_46 ?_
      obtain rfl := Option.some.inj e
      exact g_iret d_X9_reckon_47 rfl rfl
    · rcases ite_or e with ⟨c3, e⟩ | ⟨c3, e⟩
      · refine r_lookup d_X9_reckon_1 (off := 51) (tgt := 52) (by decide +kernel) (by rw [c3] <;> rfl) (by decide) ?_
        refine r_iload_n d_X9_reckon_52 rfl g1 ?_
        refine r_iload_n d_X9_reckon_53 rfl g2 ?_
        refine r_icmp_ge d_X9_reckon_54 (tgt := 61) (by decide) (fun c4 => ?_) (fun c4 => ?_)
        · replace e := (if_pos c4).symm.trans e
          refine r_iconst d_X9_reckon_61 (v := (0 : Int32)) (by decide +kernel) ?_
          obtain rfl := Option.some.inj e
          exact g_iret d_X9_reckon_62 rfl rfl
        · replace e := (if_neg c4).symm.trans e
          refine r_iconst d_X9_reckon_57 (v := (1 : Int32)) (by decide +kernel) ?_
          refine r_goto d_X9_reckon_58 (tgt := 62) (by decide) ?_
          obtain rfl := Option.some.inj e
          exact g_iret d_X9_reckon_62 rfl rfl
      · rcases ite_or e with ⟨c5, e⟩ | ⟨c5, e⟩
        · refine r_lookup d_X9_reckon_1 (off := 62) (tgt := 63) (by decide +kernel) (by rw [c5] <;> rfl) (by decide) ?_
          refine r_iload_n d_X9_reckon_63 rfl g1 ?_
          refine r_iload_n d_X9_reckon_64 rfl g2 ?_
          refine r_icmp_ne d_X9_reckon_65 (tgt := 72) (by decide) (fun c6 => ?_) (fun c6 => ?_)
          · replace e := (if_neg c6).symm.trans e
            refine r_iconst d_X9_reckon_72 (v := (0 : Int32)) (by decide +kernel) ?_
            obtain rfl := Option.some.inj e
            exact g_iret d_X9_reckon_73 rfl rfl
          · replace e := (if_pos c6).symm.trans e
            refine r_iconst d_X9_reckon_68 (v := (1 : Int32)) (by decide +kernel) ?_
            refine r_goto d_X9_reckon_69 (tgt := 73) (by decide) ?_
            obtain rfl := Option.some.inj e
            exact g_iret d_X9_reckon_73 rfl rfl
        · refine r_lookup d_X9_reckon_1 (off := 73) (tgt := 74) (by decide +kernel) (by rw [lv_osw c1 (by decide +kernel), lv_osw c2 (by decide +kernel), lv_osw c3 (by decide +kernel), lv_osw c5 (by decide +kernel)] <;> rfl) (by decide) ?_
          refine r_iload_n d_X9_reckon_74 rfl g1 ?_
          refine r_iload_n d_X9_reckon_75 rfl g2 ?_
          refine r_iadd d_X9_reckon_76 ?_
          obtain rfl := Option.some.inj e
          exact g_iret d_X9_reckon_77 rfl rfl

theorem c_X9_reckon {G : Gd} {j : Nat} (hj : 1 ≤ j) {l0 : Int32} {l1 : Int32} {l2 : Int32} {h : Hp} {o : (Int32 × Hp)} (e : f_X9_reckon l0 l1 l2 h = some o) : Cal G j Y_X9_reckon [.int (l0), .int (l1), .int (l2)] h (some (.int o.1)) o.2 := Cal.of (n := 0) (I := false) (by first | exact Or.inl (by decide +kernel) | exact Or.inr (by decide +kernel)) (by decide) (by simp [lg_sl, zrf_cat, cat_int, cat_long]) (f_X9_reckon_ok hj _ _ _ _ h o (by simp [lv_args, zlk, zrf_cat, cat_int, cat_long]) (by simp [lv_args, zlk, zrf_cat, cat_int, cat_long]) (by simp [lv_args, zlk, zrf_cat, cat_int, cat_long]) e)
def f_X9_value (l0 : Nat) (l1 : Int32) (h : Hp) : Option (Int32 × Hp) := ck (isO (h) (l0) 10) (ck (isO (h) (zR (h) 1004 (l0)) 5) (ck (isO (h) (zR (h) 501 (zR (h) 1004 (l0))) 22) (ck (inR (l1) (zL (h) (zR (h) 501 (zR (h) 1004 (l0))))) (bh (zE (h) (zR (h) 501 (zR (h) 1004 (l0))) (l1).toNatClampNeg) (fun x5 => if (x5) = ((-1 : Int32)) then (ck (inR ((l1) + ((1 : Int32))) (zL (h) (zR (h) 501 (zR (h) 1004 (l0))))) (some (zE (h) (zR (h) 501 (zR (h) 1004 (l0))) ((l1) + ((1 : Int32))).toNatClampNeg, h))) else (ck (isO (h) (zR (h) 1001 (l0)) 22) (ck (inR (x5) (zL (h) (zR (h) 1001 (l0)))) (some (zE (h) (zR (h) 1001 (l0)) (x5).toNatClampNeg, h)))))))))
theorem f_X9_value_ok {G : Gd} {d : Nat} (hj : 1 ≤ d) : ∀ (l0 : Nat) (l1 : Int32) (L : List (Nat × Value)) (h : Hp) (o : (Int32 × Hp)), zlk L 0 = some (zrf (l0)) → zlk L 1 = some (.int (l1)) → f_X9_value l0 l1 h = some o → Ev G M_X9_value d 0 L [] h (Ret Y_X9_value (some (.int o.1)) o.2) := by
  intro l0 l1 L h o g0 g1 e
  unfold f_X9_value at e
  refine g_ald_n d_X9_value_0 rfl g0 ?_
  replace e := ckd e
  obtain ⟨k1, e⟩ := e
  refine g_getR d_X9_value_1 (f := 1004) k1 fk_8_33 rfl rfl ?_
  replace e := ckd e
  obtain ⟨k2, e⟩ := e
  refine g_getR d_X9_value_4 (f := 501) k2 fk_8_121 rfl rfl ?_
  refine r_iload_n d_X9_value_7 rfl g1 ?_
  replace e := ckd e
  obtain ⟨k3, e⟩ := e
  replace e := ckd e
  obtain ⟨k4, e⟩ := e
  refine g_iald d_X9_value_8 k3 k4 rfl ?_
  replace e := bhd e
  obtain ⟨_, rfl, e⟩ := e
  refine s_istore_n d_X9_value_9 rfl (by decide) (fun L g2 gK => ?_)
  replace g0 := gK _ _ (by decide) (Or.inr (zrf_cat _)) g0
  replace g1 := gK _ _ (by decide) (Or.inr rfl) g1
  refine r_iload_n d_X9_value_10 rfl g2 ?_
  refine r_iconst d_X9_value_11 (v := (-1 : Int32)) (by decide +kernel) ?_
  refine r_icmp_ne d_X9_value_12 (tgt := 29) (by decide) (fun c6 => ?_) (fun c6 => ?_)
  · replace e := (if_neg c6).symm.trans e
    refine g_ald_n d_X9_value_29 rfl g0 ?_
    refine g_getR d_X9_value_30 (f := 1001) k1 fk_8_9 rfl rfl ?_
    refine r_iload_n d_X9_value_33 rfl g2 ?_
    replace e := ckd e
    obtain ⟨k7, e⟩ := e
    replace e := ckd e
    obtain ⟨k8, e⟩ := e
    refine g_iald d_X9_value_34 k7 k8 rfl ?_
    obtain rfl := Option.some.inj e
    exact g_iret d_X9_value_35 rfl rfl
  · replace e := (if_pos c6).symm.trans e
    refine g_ald_n d_X9_value_15 rfl g0 ?_
    refine g_getR d_X9_value_16 (f := 1004) k1 fk_8_33 rfl rfl ?_
    refine g_getR d_X9_value_19 (f := 501) k2 fk_8_121 rfl rfl ?_
    refine r_iload_n d_X9_value_22 rfl g1 ?_
    refine r_iconst d_X9_value_23 (v := (1 : Int32)) (by decide +kernel) ?_
    refine r_iadd d_X9_value_24 ?_
    replace e := ckd e
    obtain ⟨k9, e⟩ := e
    refine g_iald d_X9_value_25 k3 k9 rfl ?_
    refine r_goto d_X9_value_26 (tgt := 35) (by decide) ?_
    obtain rfl := Option.some.inj e
    exact g_iret d_X9_value_35 rfl rfl

theorem c_X9_value {G : Gd} {j : Nat} (hj : 1 ≤ j) {l0 : Nat} {l1 : Int32} {h : Hp} {o : (Int32 × Hp)} (e : f_X9_value l0 l1 h = some o) : Cal G j Y_X9_value [zrf (l0), .int (l1)] h (some (.int o.1)) o.2 := Cal.of (n := 0) (I := false) (by first | exact Or.inl (by decide +kernel) | exact Or.inr (by decide +kernel)) (by decide) (by simp [lg_sl, zrf_cat, cat_int, cat_long]) (f_X9_value_ok hj _ _ _ h o (by simp [lv_args, zlk, zrf_cat, cat_int, cat_long]) (by simp [lv_args, zlk, zrf_cat, cat_int, cat_long]) e)
