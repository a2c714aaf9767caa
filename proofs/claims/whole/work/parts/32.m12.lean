abbrev Y_X11_isReplica : Yx := (⟨"TaskWeaveModel", "isReplica", "(II)Z"⟩, prog_13_method_85_code, 3, (some .boolean))
abbrev M_X11_isReplica : Mx := ("TaskWeaveModel", prog_13_method_85_code, 3, false)
theorem yk_X11_isReplica : Yk Y_X11_isReplica 2 := ⟨by decide +kernel, by decide +kernel, ⟨by decide, by decide⟩, by decide +kernel, by decide, trivial⟩
theorem d_X11_isReplica_0 : decode prog_13_method_85_code 0 = .ok (.iload_n 1, 1) := by decide +kernel
theorem d_X11_isReplica_1 : decode prog_13_method_85_code 1 = .ok (.iconst 4, 1) := by decide +kernel
theorem d_X11_isReplica_2 : decode prog_13_method_85_code 2 = .ok (.invokestatic 230, 3) := by decide +kernel
theorem d_X11_isReplica_5 : decode prog_13_method_85_code 5 = .ok (.ifCond .eq 32, 3) := by decide +kernel
theorem d_X11_isReplica_8 : decode prog_13_method_85_code 8 = .ok (.iload_n 2, 1) := by decide +kernel
theorem d_X11_isReplica_9 : decode prog_13_method_85_code 9 = .ok (.aload_n 0, 1) := by decide +kernel
theorem d_X11_isReplica_10 : decode prog_13_method_85_code 10 = .ok (.getfield 98, 3) := by decide +kernel
theorem d_X11_isReplica_13 : decode prog_13_method_85_code 13 = .ok (.iload_n 1, 1) := by decide +kernel
theorem d_X11_isReplica_14 : decode prog_13_method_85_code 14 = .ok (.iconst 4, 1) := by decide +kernel
theorem d_X11_isReplica_15 : decode prog_13_method_85_code 15 = .ok (.invokestatic 230, 3) := by decide +kernel
theorem d_X11_isReplica_18 : decode prog_13_method_85_code 18 = .ok (.ifCond .eq 7, 3) := by decide +kernel
theorem d_X11_isReplica_21 : decode prog_13_method_85_code 21 = .ok (.iload_n 1, 1) := by decide +kernel
theorem d_X11_isReplica_22 : decode prog_13_method_85_code 22 = .ok (.goto 4, 3) := by decide +kernel
theorem d_X11_isReplica_25 : decode prog_13_method_85_code 25 = .ok (.iconst 0, 1) := by decide +kernel
theorem d_X11_isReplica_26 : decode prog_13_method_85_code 26 = .ok (.iaload, 1) := by decide +kernel
theorem d_X11_isReplica_27 : decode prog_13_method_85_code 27 = .ok (.invokestatic 230, 3) := by decide +kernel
theorem d_X11_isReplica_30 : decode prog_13_method_85_code 30 = .ok (.ifCond .eq 7, 3) := by decide +kernel
theorem d_X11_isReplica_33 : decode prog_13_method_85_code 33 = .ok (.iconst 1, 1) := by decide +kernel
theorem d_X11_isReplica_34 : decode prog_13_method_85_code 34 = .ok (.goto 4, 3) := by decide +kernel
theorem d_X11_isReplica_37 : decode prog_13_method_85_code 37 = .ok (.iconst 0, 1) := by decide +kernel
theorem d_X11_isReplica_38 : decode prog_13_method_85_code 38 = .ok (.ireturn, 1) := by decide +kernel
abbrev Y_X11_power : Yx := (⟨"TaskWeaveModel", "power", "(IIZ)Z"⟩, prog_13_method_86_code, 5, (some .boolean))
abbrev M_X11_power : Mx := ("TaskWeaveModel", prog_13_method_86_code, 5, false)
theorem yk_X11_power : Yk Y_X11_power 3 := ⟨by decide +kernel, by decide +kernel, ⟨by decide, by decide⟩, by decide +kernel, by decide, trivial⟩
theorem d_X11_power_0 : decode prog_13_method_86_code 0 = .ok (.aload_n 0, 1) := by decide +kernel
theorem d_X11_power_1 : decode prog_13_method_86_code 1 = .ok (.iconst 0, 1) := by decide +kernel
theorem d_X11_power_2 : decode prog_13_method_86_code 2 = .ok (.putfield 183, 3) := by decide +kernel
theorem d_X11_power_5 : decode prog_13_method_86_code 5 = .ok (.aload_n 0, 1) := by decide +kernel
theorem d_X11_power_6 : decode prog_13_method_86_code 6 = .ok (.iload_n 1, 1) := by decide +kernel
theorem d_X11_power_7 : decode prog_13_method_86_code 7 = .ok (.iload_n 2, 1) := by decide +kernel
theorem d_X11_power_8 : decode prog_13_method_86_code 8 = .ok (.invokevirtual 441, 3) := by decide +kernel
theorem d_X11_power_11 : decode prog_13_method_86_code 11 = .ok (.ifCond .eq 17, 3) := by decide +kernel
theorem d_X11_power_14 : decode prog_13_method_86_code 14 = .ok (.aload_n 0, 1) := by decide +kernel
theorem d_X11_power_15 : decode prog_13_method_86_code 15 = .ok (.getfield 92, 3) := by decide +kernel
theorem d_X11_power_18 : decode prog_13_method_86_code 18 = .ok (.iconst 5, 1) := by decide +kernel
theorem d_X11_power_19 : decode prog_13_method_86_code 19 = .ok (.iload_n 1, 1) := by decide +kernel
theorem d_X11_power_20 : decode prog_13_method_86_code 20 = .ok (.imul, 1) := by decide +kernel
theorem d_X11_power_21 : decode prog_13_method_86_code 21 = .ok (.iload_n 2, 1) := by decide +kernel
theorem d_X11_power_22 : decode prog_13_method_86_code 22 = .ok (.iadd, 1) := by decide +kernel
theorem d_X11_power_23 : decode prog_13_method_86_code 23 = .ok (.baload, 1) := by decide +kernel
theorem d_X11_power_24 : decode prog_13_method_86_code 24 = .ok (.iload_n 3, 1) := by decide +kernel
theorem d_X11_power_25 : decode prog_13_method_86_code 25 = .ok (.if_icmp .ne 5, 3) := by decide +kernel
theorem d_X11_power_28 : decode prog_13_method_86_code 28 = .ok (.iconst 0, 1) := by decide +kernel
theorem d_X11_power_29 : decode prog_13_method_86_code 29 = .ok (.ireturn, 1) := by decide +kernel
theorem d_X11_power_30 : decode prog_13_method_86_code 30 = .ok (.iconst 5, 1) := by decide +kernel
theorem d_X11_power_31 : decode prog_13_method_86_code 31 = .ok (.iload_n 1, 1) := by decide +kernel
theorem d_X11_power_32 : decode prog_13_method_86_code 32 = .ok (.imul, 1) := by decide +kernel
theorem d_X11_power_33 : decode prog_13_method_86_code 33 = .ok (.iload_n 2, 1) := by decide +kernel
theorem d_X11_power_34 : decode prog_13_method_86_code 34 = .ok (.iadd, 1) := by decide +kernel
theorem d_X11_power_35 : decode prog_13_method_86_code 35 = .ok (.istore 4, 2) := by decide +kernel
theorem d_X11_power_37 : decode prog_13_method_86_code 37 = .ok (.iload_n 3, 1) := by decide +kernel
theorem d_X11_power_38 : decode prog_13_method_86_code 38 = .ok (.ifCond .ne 52, 3) := by decide +kernel
theorem d_X11_power_41 : decode prog_13_method_86_code 41 = .ok (.aload_n 0, 1) := by decide +kernel
theorem d_X11_power_42 : decode prog_13_method_86_code 42 = .ok (.iload 4, 2) := by decide +kernel
theorem d_X11_power_44 : decode prog_13_method_86_code 44 = .ok (.invokevirtual 247, 3) := by decide +kernel
theorem d_X11_power_47 : decode prog_13_method_86_code 47 = .ok (.aload_n 0, 1) := by decide +kernel
theorem d_X11_power_48 : decode prog_13_method_86_code 48 = .ok (.getfield 101, 3) := by decide +kernel
theorem d_X11_power_51 : decode prog_13_method_86_code 51 = .ok (.iload_n 1, 1) := by decide +kernel
theorem d_X11_power_52 : decode prog_13_method_86_code 52 = .ok (.iaload, 1) := by decide +kernel
theorem d_X11_power_53 : decode prog_13_method_86_code 53 = .ok (.iload_n 2, 1) := by decide +kernel
theorem d_X11_power_54 : decode prog_13_method_86_code 54 = .ok (.if_icmp .eq 29, 3) := by decide +kernel
theorem d_X11_power_57 : decode prog_13_method_86_code 57 = .ok (.aload_n 0, 1) := by decide +kernel
theorem d_X11_power_58 : decode prog_13_method_86_code 58 = .ok (.getfield 101, 3) := by decide +kernel
theorem d_X11_power_61 : decode prog_13_method_86_code 61 = .ok (.iload_n 1, 1) := by decide +kernel
theorem d_X11_power_62 : decode prog_13_method_86_code 62 = .ok (.iaload, 1) := by decide +kernel
theorem d_X11_power_63 : decode prog_13_method_86_code 63 = .ok (.iconst (-1), 1) := by decide +kernel
theorem d_X11_power_64 : decode prog_13_method_86_code 64 = .ok (.if_icmp .eq 24, 3) := by decide +kernel
theorem d_X11_power_67 : decode prog_13_method_86_code 67 = .ok (.iconst 2, 1) := by decide +kernel
theorem d_X11_power_68 : decode prog_13_method_86_code 68 = .ok (.aload_n 0, 1) := by decide +kernel
theorem d_X11_power_69 : decode prog_13_method_86_code 69 = .ok (.iload_n 1, 1) := by decide +kernel
theorem d_X11_power_70 : decode prog_13_method_86_code 70 = .ok (.invokevirtual 265, 3) := by decide +kernel
theorem d_X11_power_73 : decode prog_13_method_86_code 73 = .ok (.imul, 1) := by decide +kernel
theorem d_X11_power_74 : decode prog_13_method_86_code 74 = .ok (.aload_n 0, 1) := by decide +kernel
theorem d_X11_power_75 : decode prog_13_method_86_code 75 = .ok (.getfield 98, 3) := by decide +kernel
theorem d_X11_power_78 : decode prog_13_method_86_code 78 = .ok (.iload_n 1, 1) := by decide +kernel
theorem d_X11_power_79 : decode prog_13_method_86_code 79 = .ok (.iaload, 1) := by decide +kernel
theorem d_X11_power_80 : decode prog_13_method_86_code 80 = .ok (.if_icmp .gt 8, 3) := by decide +kernel
theorem d_X11_power_83 : decode prog_13_method_86_code 83 = .ok (.aload_n 0, 1) := by decide +kernel
theorem d_X11_power_84 : decode prog_13_method_86_code 84 = .ok (.iload_n 1, 1) := by decide +kernel
theorem d_X11_power_85 : decode prog_13_method_86_code 85 = .ok (.invokevirtual 262, 3) := by decide +kernel
theorem d_X11_power_88 : decode prog_13_method_86_code 88 = .ok (.iconst 1, 1) := by decide +kernel
theorem d_X11_power_89 : decode prog_13_method_86_code 89 = .ok (.ireturn, 1) := by decide +kernel
theorem d_X11_power_90 : decode prog_13_method_86_code 90 = .ok (.aload_n 0, 1) := by decide +kernel
theorem d_X11_power_91 : decode prog_13_method_86_code 91 = .ok (.getfield 92, 3) := by decide +kernel
theorem d_X11_power_94 : decode prog_13_method_86_code 94 = .ok (.iload 4, 2) := by decide +kernel
theorem d_X11_power_96 : decode prog_13_method_86_code 96 = .ok (.iconst 1, 1) := by decide +kernel
theorem d_X11_power_97 : decode prog_13_method_86_code 97 = .ok (.bastore, 1) := by decide +kernel
theorem d_X11_power_98 : decode prog_13_method_86_code 98 = .ok (.aload_n 0, 1) := by decide +kernel
theorem d_X11_power_99 : decode prog_13_method_86_code 99 = .ok (.getfield 86, 3) := by decide +kernel
theorem d_X11_power_102 : decode prog_13_method_86_code 102 = .ok (.iload 4, 2) := by decide +kernel
theorem d_X11_power_104 : decode prog_13_method_86_code 104 = .ok (.iconst 0, 1) := by decide +kernel
theorem d_X11_power_105 : decode prog_13_method_86_code 105 = .ok (.iastore, 1) := by decide +kernel
theorem d_X11_power_106 : decode prog_13_method_86_code 106 = .ok (.aload_n 0, 1) := by decide +kernel
theorem d_X11_power_107 : decode prog_13_method_86_code 107 = .ok (.getfield 101, 3) := by decide +kernel
theorem d_X11_power_110 : decode prog_13_method_86_code 110 = .ok (.iload_n 1, 1) := by decide +kernel
theorem d_X11_power_111 : decode prog_13_method_86_code 111 = .ok (.iaload, 1) := by decide +kernel
theorem d_X11_power_112 : decode prog_13_method_86_code 112 = .ok (.iconst (-1), 1) := by decide +kernel
theorem d_X11_power_113 : decode prog_13_method_86_code 113 = .ok (.if_icmp .eq 22, 3) := by decide +kernel
theorem d_X11_power_116 : decode prog_13_method_86_code 116 = .ok (.aload_n 0, 1) := by decide +kernel
theorem d_X11_power_117 : decode prog_13_method_86_code 117 = .ok (.iload 4, 2) := by decide +kernel
theorem d_X11_power_119 : decode prog_13_method_86_code 119 = .ok (.iconst 5, 1) := by decide +kernel
theorem d_X11_power_120 : decode prog_13_method_86_code 120 = .ok (.iload_n 1, 1) := by decide +kernel
theorem d_X11_power_121 : decode prog_13_method_86_code 121 = .ok (.imul, 1) := by decide +kernel
theorem d_X11_power_122 : decode prog_13_method_86_code 122 = .ok (.aload_n 0, 1) := by decide +kernel
theorem d_X11_power_123 : decode prog_13_method_86_code 123 = .ok (.getfield 101, 3) := by decide +kernel
theorem d_X11_power_126 : decode prog_13_method_86_code 126 = .ok (.iload_n 1, 1) := by decide +kernel
theorem d_X11_power_127 : decode prog_13_method_86_code 127 = .ok (.iaload, 1) := by decide +kernel
theorem d_X11_power_128 : decode prog_13_method_86_code 128 = .ok (.iadd, 1) := by decide +kernel
theorem d_X11_power_129 : decode prog_13_method_86_code 129 = .ok (.invokevirtual 277, 3) := by decide +kernel
theorem d_X11_power_132 : decode prog_13_method_86_code 132 = .ok (.goto 8, 3) := by decide +kernel
theorem d_X11_power_135 : decode prog_13_method_86_code 135 = .ok (.aload_n 0, 1) := by decide +kernel
theorem d_X11_power_136 : decode prog_13_method_86_code 136 = .ok (.iload_n 1, 1) := by decide +kernel
theorem d_X11_power_137 : decode prog_13_method_86_code 137 = .ok (.invokevirtual 262, 3) := by decide +kernel
theorem d_X11_power_140 : decode prog_13_method_86_code 140 = .ok (.iconst 1, 1) := by decide +kernel
theorem d_X11_power_141 : decode prog_13_method_86_code 141 = .ok (.ireturn, 1) := by decide +kernel
abbrev Y_X11_fuse : Yx := (⟨"TaskWeaveModel", "fuse", "(III)Z"⟩, prog_13_method_87_code, 4, (some .boolean))
abbrev M_X11_fuse : Mx := ("TaskWeaveModel", prog_13_method_87_code, 4, false)
theorem yk_X11_fuse : Yk Y_X11_fuse 3 := ⟨by decide +kernel, by decide +kernel, ⟨by decide, by decide⟩, by decide +kernel, by decide, trivial⟩
theorem d_X11_fuse_0 : decode prog_13_method_87_code 0 = .ok (.aload_n 0, 1) := by decide +kernel
theorem d_X11_fuse_1 : decode prog_13_method_87_code 1 = .ok (.iconst 0, 1) := by decide +kernel
theorem d_X11_fuse_2 : decode prog_13_method_87_code 2 = .ok (.putfield 183, 3) := by decide +kernel
theorem d_X11_fuse_5 : decode prog_13_method_87_code 5 = .ok (.aload_n 0, 1) := by decide +kernel
theorem d_X11_fuse_6 : decode prog_13_method_87_code 6 = .ok (.iload_n 1, 1) := by decide +kernel
theorem d_X11_fuse_7 : decode prog_13_method_87_code 7 = .ok (.iload_n 2, 1) := by decide +kernel
theorem d_X11_fuse_8 : decode prog_13_method_87_code 8 = .ok (.invokevirtual 441, 3) := by decide +kernel
theorem d_X11_fuse_11 : decode prog_13_method_87_code 11 = .ok (.ifCond .eq 27, 3) := by decide +kernel
theorem d_X11_fuse_14 : decode prog_13_method_87_code 14 = .ok (.aload_n 0, 1) := by decide +kernel
theorem d_X11_fuse_15 : decode prog_13_method_87_code 15 = .ok (.getfield 92, 3) := by decide +kernel
theorem d_X11_fuse_18 : decode prog_13_method_87_code 18 = .ok (.iconst 5, 1) := by decide +kernel
theorem d_X11_fuse_19 : decode prog_13_method_87_code 19 = .ok (.iload_n 1, 1) := by decide +kernel
theorem d_X11_fuse_20 : decode prog_13_method_87_code 20 = .ok (.imul, 1) := by decide +kernel
theorem d_X11_fuse_21 : decode prog_13_method_87_code 21 = .ok (.iload_n 2, 1) := by decide +kernel
theorem d_X11_fuse_22 : decode prog_13_method_87_code 22 = .ok (.iadd, 1) := by decide +kernel
theorem d_X11_fuse_23 : decode prog_13_method_87_code 23 = .ok (.baload, 1) := by decide +kernel
theorem d_X11_fuse_24 : decode prog_13_method_87_code 24 = .ok (.ifCond .eq 14, 3) := by decide +kernel
theorem d_X11_fuse_27 : decode prog_13_method_87_code 27 = .ok (.iload_n 3, 1) := by decide +kernel
theorem d_X11_fuse_28 : decode prog_13_method_87_code 28 = .ok (.ifCond .lt 10, 3) := by decide +kernel
theorem d_X11_fuse_31 : decode prog_13_method_87_code 31 = .ok (.iload_n 3, 1) := by decide +kernel
theorem d_X11_fuse_32 : decode prog_13_method_87_code 32 = .ok (.ldc_w 444, 3) := by decide +kernel
theorem d_X11_fuse_35 : decode prog_13_method_87_code 35 = .ok (.if_icmp .le 5, 3) := by decide +kernel
theorem d_X11_fuse_38 : decode prog_13_method_87_code 38 = .ok (.iconst 0, 1) := by decide +kernel
theorem d_X11_fuse_39 : decode prog_13_method_87_code 39 = .ok (.ireturn, 1) := by decide +kernel
theorem d_X11_fuse_40 : decode prog_13_method_87_code 40 = .ok (.aload_n 0, 1) := by decide +kernel
theorem d_X11_fuse_41 : decode prog_13_method_87_code 41 = .ok (.getfield 95, 3) := by decide +kernel
theorem d_X11_fuse_44 : decode prog_13_method_87_code 44 = .ok (.iconst 5, 1) := by decide +kernel
theorem d_X11_fuse_45 : decode prog_13_method_87_code 45 = .ok (.iload_n 1, 1) := by decide +kernel
theorem d_X11_fuse_46 : decode prog_13_method_87_code 46 = .ok (.imul, 1) := by decide +kernel
theorem d_X11_fuse_47 : decode prog_13_method_87_code 47 = .ok (.iload_n 2, 1) := by decide +kernel
theorem d_X11_fuse_48 : decode prog_13_method_87_code 48 = .ok (.iadd, 1) := by decide +kernel
theorem d_X11_fuse_49 : decode prog_13_method_87_code 49 = .ok (.iload_n 3, 1) := by decide +kernel
theorem d_X11_fuse_50 : decode prog_13_method_87_code 50 = .ok (.iastore, 1) := by decide +kernel
theorem d_X11_fuse_51 : decode prog_13_method_87_code 51 = .ok (.iconst 1, 1) := by decide +kernel
theorem d_X11_fuse_52 : decode prog_13_method_87_code 52 = .ok (.ireturn, 1) := by decide +kernel
abbrev Y_X11_workflow : Yx := (⟨"TaskWeaveModel", "workflow", "(II)I"⟩, prog_13_method_88_code, 4, (some .int))
abbrev M_X11_workflow : Mx := ("TaskWeaveModel", prog_13_method_88_code, 4, false)
theorem yk_X11_workflow : Yk Y_X11_workflow 2 := ⟨by decide +kernel, by decide +kernel, ⟨by decide, by decide⟩, by decide +kernel, by decide, trivial⟩
theorem d_X11_workflow_0 : decode prog_13_method_88_code 0 = .ok (.aload_n 0, 1) := by decide +kernel
theorem d_X11_workflow_1 : decode prog_13_method_88_code 1 = .ok (.iconst 0, 1) := by decide +kernel
theorem d_X11_workflow_2 : decode prog_13_method_88_code 2 = .ok (.putfield 183, 3) := by decide +kernel
theorem d_X11_workflow_5 : decode prog_13_method_88_code 5 = .ok (.aload_n 0, 1) := by decide +kernel
theorem d_X11_workflow_6 : decode prog_13_method_88_code 6 = .ok (.iload_n 1, 1) := by decide +kernel
theorem d_X11_workflow_7 : decode prog_13_method_88_code 7 = .ok (.invokevirtual 382, 3) := by decide +kernel
theorem d_X11_workflow_10 : decode prog_13_method_88_code 10 = .ok (.ifCond .ne 5, 3) := by decide +kernel
theorem d_X11_workflow_13 : decode prog_13_method_88_code 13 = .ok (.iconst (-1), 1) := by decide +kernel
theorem d_X11_workflow_14 : decode prog_13_method_88_code 14 = .ok (.ireturn, 1) := by decide +kernel
theorem d_X11_workflow_15 : decode prog_13_method_88_code 15 = .ok (.iload_n 1, 1) := by decide +kernel
theorem d_X11_workflow_16 : decode prog_13_method_88_code 16 = .ok (.invokestatic 385, 3) := by decide +kernel
theorem d_X11_workflow_19 : decode prog_13_method_88_code 19 = .ok (.istore_n 3, 1) := by decide +kernel
theorem d_X11_workflow_20 : decode prog_13_method_88_code 20 = .ok (.iload_n 2, 1) := by decide +kernel
theorem d_X11_workflow_21 : decode prog_13_method_88_code 21 = .ok (.tableswitch 113 0 6 #[43, 50, 71, 78, 93, 100, 107], 43) := by decide +kernel
theorem d_X11_workflow_64 : decode prog_13_method_88_code 64 = .ok (.aload_n 0, 1) := by decide +kernel
theorem d_X11_workflow_65 : decode prog_13_method_88_code 65 = .ok (.getfield 119, 3) := by decide +kernel
theorem d_X11_workflow_68 : decode prog_13_method_88_code 68 = .ok (.iload_n 3, 1) := by decide +kernel
theorem d_X11_workflow_69 : decode prog_13_method_88_code 69 = .ok (.iaload, 1) := by decide +kernel
theorem d_X11_workflow_70 : decode prog_13_method_88_code 70 = .ok (.ireturn, 1) := by decide +kernel
theorem d_X11_workflow_71 : decode prog_13_method_88_code 71 = .ok (.aload_n 0, 1) := by decide +kernel
theorem d_X11_workflow_72 : decode prog_13_method_88_code 72 = .ok (.getfield 119, 3) := by decide +kernel
theorem d_X11_workflow_75 : decode prog_13_method_88_code 75 = .ok (.iload_n 3, 1) := by decide +kernel
theorem d_X11_workflow_76 : decode prog_13_method_88_code 76 = .ok (.iaload, 1) := by decide +kernel
theorem d_X11_workflow_77 : decode prog_13_method_88_code 77 = .ok (.iconst 4, 1) := by decide +kernel
theorem d_X11_workflow_78 : decode prog_13_method_88_code 78 = .ok (.if_icmp .ne 12, 3) := by decide +kernel
theorem d_X11_workflow_81 : decode prog_13_method_88_code 81 = .ok (.aload_n 0, 1) := by decide +kernel
theorem d_X11_workflow_82 : decode prog_13_method_88_code 82 = .ok (.getfield 122, 3) := by decide +kernel
theorem d_X11_workflow_85 : decode prog_13_method_88_code 85 = .ok (.iload_n 3, 1) := by decide +kernel
theorem d_X11_workflow_86 : decode prog_13_method_88_code 86 = .ok (.iaload, 1) := by decide +kernel
theorem d_X11_workflow_87 : decode prog_13_method_88_code 87 = .ok (.goto 4, 3) := by decide +kernel
theorem d_X11_workflow_90 : decode prog_13_method_88_code 90 = .ok (.iconst 0, 1) := by decide +kernel
theorem d_X11_workflow_91 : decode prog_13_method_88_code 91 = .ok (.ireturn, 1) := by decide +kernel
theorem d_X11_workflow_92 : decode prog_13_method_88_code 92 = .ok (.aload_n 0, 1) := by decide +kernel
theorem d_X11_workflow_93 : decode prog_13_method_88_code 93 = .ok (.getfield 113, 3) := by decide +kernel
theorem d_X11_workflow_96 : decode prog_13_method_88_code 96 = .ok (.iload_n 3, 1) := by decide +kernel
theorem d_X11_workflow_97 : decode prog_13_method_88_code 97 = .ok (.iaload, 1) := by decide +kernel
theorem d_X11_workflow_98 : decode prog_13_method_88_code 98 = .ok (.ireturn, 1) := by decide +kernel
theorem d_X11_workflow_99 : decode prog_13_method_88_code 99 = .ok (.aload_n 0, 1) := by decide +kernel
theorem d_X11_workflow_100 : decode prog_13_method_88_code 100 = .ok (.getfield 70, 3) := by decide +kernel
theorem d_X11_workflow_103 : decode prog_13_method_88_code 103 = .ok (.aload_n 0, 1) := by decide +kernel
theorem d_X11_workflow_104 : decode prog_13_method_88_code 104 = .ok (.iload_n 3, 1) := by decide +kernel
theorem d_X11_workflow_105 : decode prog_13_method_88_code 105 = .ok (.iconst 0, 1) := by decide +kernel
theorem d_X11_workflow_106 : decode prog_13_method_88_code 106 = .ok (.invokevirtual 305, 3) := by decide +kernel
theorem d_X11_workflow_109 : decode prog_13_method_88_code 109 = .ok (.iaload, 1) := by decide +kernel
theorem d_X11_workflow_110 : decode prog_13_method_88_code 110 = .ok (.bipush 8, 2) := by decide +kernel
theorem d_X11_workflow_112 : decode prog_13_method_88_code 112 = .ok (.irem, 1) := by decide +kernel
theorem d_X11_workflow_113 : decode prog_13_method_88_code 113 = .ok (.ireturn, 1) := by decide +kernel
theorem d_X11_workflow_114 : decode prog_13_method_88_code 114 = .ok (.aload_n 0, 1) := by decide +kernel
theorem d_X11_workflow_115 : decode prog_13_method_88_code 115 = .ok (.getfield 128, 3) := by decide +kernel
theorem d_X11_workflow_118 : decode prog_13_method_88_code 118 = .ok (.iload_n 3, 1) := by decide +kernel
theorem d_X11_workflow_119 : decode prog_13_method_88_code 119 = .ok (.iaload, 1) := by decide +kernel
theorem d_X11_workflow_120 : decode prog_13_method_88_code 120 = .ok (.ireturn, 1) := by decide +kernel
theorem d_X11_workflow_121 : decode prog_13_method_88_code 121 = .ok (.aload_n 0, 1) := by decide +kernel
theorem d_X11_workflow_122 : decode prog_13_method_88_code 122 = .ok (.getfield 131, 3) := by decide +kernel
theorem d_X11_workflow_125 : decode prog_13_method_88_code 125 = .ok (.iload_n 3, 1) := by decide +kernel
theorem d_X11_workflow_126 : decode prog_13_method_88_code 126 = .ok (.iaload, 1) := by decide +kernel
theorem d_X11_workflow_127 : decode prog_13_method_88_code 127 = .ok (.ireturn, 1) := by decide +kernel
theorem d_X11_workflow_128 : decode prog_13_method_88_code 128 = .ok (.aload_n 0, 1) := by decide +kernel
theorem d_X11_workflow_129 : decode prog_13_method_88_code 129 = .ok (.iload_n 3, 1) := by decide +kernel
theorem d_X11_workflow_130 : decode prog_13_method_88_code 130 = .ok (.invokevirtual 302, 3) := by decide +kernel
theorem d_X11_workflow_133 : decode prog_13_method_88_code 133 = .ok (.ireturn, 1) := by decide +kernel
theorem d_X11_workflow_134 : decode prog_13_method_88_code 134 = .ok (.iconst (-1), 1) := by decide +kernel
theorem d_X11_workflow_135 : decode prog_13_method_88_code 135 = .ok (.ireturn, 1) := by decide +kernel
abbrev Y_X11_event_ : Yx := (⟨"TaskWeaveModel", "event", "(III)I"⟩, prog_13_method_89_code, 5, (some .int))
abbrev M_X11_event_ : Mx := ("TaskWeaveModel", prog_13_method_89_code, 5, false)
theorem yk_X11_event_ : Yk Y_X11_event_ 3 := ⟨by decide +kernel, by decide +kernel, ⟨by decide, by decide⟩, by decide +kernel, by decide, trivial⟩
theorem d_X11_event__0 : decode prog_13_method_89_code 0 = .ok (.aload_n 0, 1) := by decide +kernel
theorem d_X11_event__1 : decode prog_13_method_89_code 1 = .ok (.aload_n 0, 1) := by decide +kernel
theorem d_X11_event__2 : decode prog_13_method_89_code 2 = .ok (.iload_n 1, 1) := by decide +kernel
theorem d_X11_event__3 : decode prog_13_method_89_code 3 = .ok (.invokevirtual 382, 3) := by decide +kernel
theorem d_X11_event__6 : decode prog_13_method_89_code 6 = .ok (.ifCond .eq 31, 3) := by decide +kernel
theorem d_X11_event__9 : decode prog_13_method_89_code 9 = .ok (.iload_n 2, 1) := by decide +kernel
theorem d_X11_event__10 : decode prog_13_method_89_code 10 = .ok (.aload_n 0, 1) := by decide +kernel
theorem d_X11_event__11 : decode prog_13_method_89_code 11 = .ok (.iload_n 1, 1) := by decide +kernel
theorem d_X11_event__12 : decode prog_13_method_89_code 12 = .ok (.invokevirtual 382, 3) := by decide +kernel
theorem d_X11_event__15 : decode prog_13_method_89_code 15 = .ok (.ifCond .eq 15, 3) := by decide +kernel
theorem d_X11_event__18 : decode prog_13_method_89_code 18 = .ok (.aload_n 0, 1) := by decide +kernel
theorem d_X11_event__19 : decode prog_13_method_89_code 19 = .ok (.getfield 113, 3) := by decide +kernel
theorem d_X11_event__22 : decode prog_13_method_89_code 22 = .ok (.iload_n 1, 1) := by decide +kernel
theorem d_X11_event__23 : decode prog_13_method_89_code 23 = .ok (.invokestatic 385, 3) := by decide +kernel
theorem d_X11_event__26 : decode prog_13_method_89_code 26 = .ok (.iaload, 1) := by decide +kernel
theorem d_X11_event__27 : decode prog_13_method_89_code 27 = .ok (.goto 4, 3) := by decide +kernel
theorem d_X11_event__30 : decode prog_13_method_89_code 30 = .ok (.iconst 0, 1) := by decide +kernel
theorem d_X11_event__31 : decode prog_13_method_89_code 31 = .ok (.invokestatic 230, 3) := by decide +kernel
theorem d_X11_event__34 : decode prog_13_method_89_code 34 = .ok (.ifCond .ne 7, 3) := by decide +kernel
theorem d_X11_event__37 : decode prog_13_method_89_code 37 = .ok (.iconst 1, 1) := by decide +kernel
theorem d_X11_event__38 : decode prog_13_method_89_code 38 = .ok (.goto 16, 3) := by decide +kernel
theorem d_X11_event__41 : decode prog_13_method_89_code 41 = .ok (.iload_n 3, 1) := by decide +kernel
theorem d_X11_event__42 : decode prog_13_method_89_code 42 = .ok (.iconst 4, 1) := by decide +kernel
theorem d_X11_event__43 : decode prog_13_method_89_code 43 = .ok (.invokestatic 230, 3) := by decide +kernel
theorem d_X11_event__46 : decode prog_13_method_89_code 46 = .ok (.ifCond .ne 7, 3) := by decide +kernel
theorem d_X11_event__49 : decode prog_13_method_89_code 49 = .ok (.iconst 2, 1) := by decide +kernel
theorem d_X11_event__50 : decode prog_13_method_89_code 50 = .ok (.goto 4, 3) := by decide +kernel
theorem d_X11_event__53 : decode prog_13_method_89_code 53 = .ok (.iconst 0, 1) := by decide +kernel
theorem d_X11_event__54 : decode prog_13_method_89_code 54 = .ok (.putfield 183, 3) := by decide +kernel
theorem d_X11_event__57 : decode prog_13_method_89_code 57 = .ok (.aload_n 0, 1) := by decide +kernel
theorem d_X11_event__58 : decode prog_13_method_89_code 58 = .ok (.getfield 183, 3) := by decide +kernel
theorem d_X11_event__61 : decode prog_13_method_89_code 61 = .ok (.ifCond .le 5, 3) := by decide +kernel
theorem d_X11_event__64 : decode prog_13_method_89_code 64 = .ok (.iconst 0, 1) := by decide +kernel
theorem d_X11_event__65 : decode prog_13_method_89_code 65 = .ok (.ireturn, 1) := by decide +kernel
theorem d_X11_event__66 : decode prog_13_method_89_code 66 = .ok (.aload_n 0, 1) := by decide +kernel
theorem d_X11_event__67 : decode prog_13_method_89_code 67 = .ok (.iload_n 1, 1) := by decide +kernel
theorem d_X11_event__68 : decode prog_13_method_89_code 68 = .ok (.invokestatic 385, 3) := by decide +kernel
theorem d_X11_event__71 : decode prog_13_method_89_code 71 = .ok (.iload_n 2, 1) := by decide +kernel
theorem d_X11_event__72 : decode prog_13_method_89_code 72 = .ok (.invokevirtual 305, 3) := by decide +kernel
theorem d_X11_event__75 : decode prog_13_method_89_code 75 = .ok (.istore 4, 2) := by decide +kernel
theorem d_X11_event__77 : decode prog_13_method_89_code 77 = .ok (.iload_n 3, 1) := by decide +kernel
theorem d_X11_event__78 : decode prog_13_method_89_code 78 = .ok (.ifCond .ne 12, 3) := by decide +kernel
theorem d_X11_event__81 : decode prog_13_method_89_code 81 = .ok (.aload_n 0, 1) := by decide +kernel
theorem d_X11_event__82 : decode prog_13_method_89_code 82 = .ok (.iload 4, 2) := by decide +kernel
theorem d_X11_event__84 : decode prog_13_method_89_code 84 = .ok (.invokevirtual 286, 3) := by decide +kernel
theorem d_X11_event__87 : decode prog_13_method_89_code 87 = .ok (.goto 40, 3) := by decide +kernel
theorem d_X11_event__90 : decode prog_13_method_89_code 90 = .ok (.iload_n 3, 1) := by decide +kernel
theorem d_X11_event__91 : decode prog_13_method_89_code 91 = .ok (.iconst 1, 1) := by decide +kernel
theorem d_X11_event__92 : decode prog_13_method_89_code 92 = .ok (.if_icmp .ne 13, 3) := by decide +kernel
theorem d_X11_event__95 : decode prog_13_method_89_code 95 = .ok (.aload_n 0, 1) := by decide +kernel
theorem d_X11_event__96 : decode prog_13_method_89_code 96 = .ok (.getfield 70, 3) := by decide +kernel
theorem d_X11_event__99 : decode prog_13_method_89_code 99 = .ok (.iload 4, 2) := by decide +kernel
theorem d_X11_event__101 : decode prog_13_method_89_code 101 = .ok (.iaload, 1) := by decide +kernel
theorem d_X11_event__102 : decode prog_13_method_89_code 102 = .ok (.goto 25, 3) := by decide +kernel
theorem d_X11_event__105 : decode prog_13_method_89_code 105 = .ok (.iload_n 3, 1) := by decide +kernel
theorem d_X11_event__106 : decode prog_13_method_89_code 106 = .ok (.iconst 2, 1) := by decide +kernel
theorem d_X11_event__107 : decode prog_13_method_89_code 107 = .ok (.if_icmp .ne 13, 3) := by decide +kernel
theorem d_X11_event__110 : decode prog_13_method_89_code 110 = .ok (.aload_n 0, 1) := by decide +kernel
theorem d_X11_event__111 : decode prog_13_method_89_code 111 = .ok (.getfield 73, 3) := by decide +kernel
theorem d_X11_event__114 : decode prog_13_method_89_code 114 = .ok (.iload 4, 2) := by decide +kernel
theorem d_X11_event__116 : decode prog_13_method_89_code 116 = .ok (.iaload, 1) := by decide +kernel
theorem d_X11_event__117 : decode prog_13_method_89_code 117 = .ok (.goto 10, 3) := by decide +kernel
theorem d_X11_event__120 : decode prog_13_method_89_code 120 = .ok (.aload_n 0, 1) := by decide +kernel
theorem d_X11_event__121 : decode prog_13_method_89_code 121 = .ok (.getfield 76, 3) := by decide +kernel
theorem d_X11_event__124 : decode prog_13_method_89_code 124 = .ok (.iload 4, 2) := by decide +kernel
theorem d_X11_event__126 : decode prog_13_method_89_code 126 = .ok (.iaload, 1) := by decide +kernel
theorem d_X11_event__127 : decode prog_13_method_89_code 127 = .ok (.ireturn, 1) := by decide +kernel
abbrev Y_X11_tasks : Yx := (⟨"TaskWeaveModel", "tasks", "(II)I"⟩, prog_13_method_90_code, 5, (some .int))
abbrev M_X11_tasks : Mx := ("TaskWeaveModel", prog_13_method_90_code, 5, false)
theorem yk_X11_tasks : Yk Y_X11_tasks 2 := ⟨by decide +kernel, by decide +kernel, ⟨by decide, by decide⟩, by decide +kernel, by decide, trivial⟩
theorem d_X11_tasks_0 : decode prog_13_method_90_code 0 = .ok (.iconst 0, 1) := by decide +kernel
theorem d_X11_tasks_1 : decode prog_13_method_90_code 1 = .ok (.istore_n 3, 1) := by decide +kernel
theorem d_X11_tasks_2 : decode prog_13_method_90_code 2 = .ok (.bipush 16, 2) := by decide +kernel
theorem d_X11_tasks_4 : decode prog_13_method_90_code 4 = .ok (.iload_n 1, 1) := by decide +kernel
theorem d_X11_tasks_5 : decode prog_13_method_90_code 5 = .ok (.imul, 1) := by decide +kernel
theorem d_X11_tasks_6 : decode prog_13_method_90_code 6 = .ok (.istore 4, 2) := by decide +kernel
theorem d_X11_tasks_8 : decode prog_13_method_90_code 8 = .ok (.iload 4, 2) := by decide +kernel
theorem d_X11_tasks_10 : decode prog_13_method_90_code 10 = .ok (.bipush 16, 2) := by decide +kernel
theorem d_X11_tasks_12 : decode prog_13_method_90_code 12 = .ok (.iload_n 1, 1) := by decide +kernel
theorem d_X11_tasks_13 : decode prog_13_method_90_code 13 = .ok (.imul, 1) := by decide +kernel
theorem d_X11_tasks_14 : decode prog_13_method_90_code 14 = .ok (.aload_n 0, 1) := by decide +kernel
theorem d_X11_tasks_15 : decode prog_13_method_90_code 15 = .ok (.getfield 107, 3) := by decide +kernel
theorem d_X11_tasks_18 : decode prog_13_method_90_code 18 = .ok (.iload_n 1, 1) := by decide +kernel
theorem d_X11_tasks_19 : decode prog_13_method_90_code 19 = .ok (.iaload, 1) := by decide +kernel
theorem d_X11_tasks_20 : decode prog_13_method_90_code 20 = .ok (.iadd, 1) := by decide +kernel
theorem d_X11_tasks_21 : decode prog_13_method_90_code 21 = .ok (.if_icmp .ge 28, 3) := by decide +kernel
theorem d_X11_tasks_24 : decode prog_13_method_90_code 24 = .ok (.iload_n 3, 1) := by decide +kernel
theorem d_X11_tasks_25 : decode prog_13_method_90_code 25 = .ok (.aload_n 0, 1) := by decide +kernel
theorem d_X11_tasks_26 : decode prog_13_method_90_code 26 = .ok (.getfield 146, 3) := by decide +kernel
theorem d_X11_tasks_29 : decode prog_13_method_90_code 29 = .ok (.iload 4, 2) := by decide +kernel
theorem d_X11_tasks_31 : decode prog_13_method_90_code 31 = .ok (.iaload, 1) := by decide +kernel
theorem d_X11_tasks_32 : decode prog_13_method_90_code 32 = .ok (.iload_n 2, 1) := by decide +kernel
theorem d_X11_tasks_33 : decode prog_13_method_90_code 33 = .ok (.if_icmp .lt 7, 3) := by decide +kernel
theorem d_X11_tasks_36 : decode prog_13_method_90_code 36 = .ok (.iconst 1, 1) := by decide +kernel
theorem d_X11_tasks_37 : decode prog_13_method_90_code 37 = .ok (.goto 4, 3) := by decide +kernel
theorem d_X11_tasks_40 : decode prog_13_method_90_code 40 = .ok (.iconst 0, 1) := by decide +kernel
theorem d_X11_tasks_41 : decode prog_13_method_90_code 41 = .ok (.iadd, 1) := by decide +kernel
theorem d_X11_tasks_42 : decode prog_13_method_90_code 42 = .ok (.istore_n 3, 1) := by decide +kernel
theorem d_X11_tasks_43 : decode prog_13_method_90_code 43 = .ok (.iinc 4 1, 3) := by decide +kernel
theorem d_X11_tasks_46 : decode prog_13_method_90_code 46 = .ok (.goto (-38), 3) := by decide +kernel
theorem d_X11_tasks_49 : decode prog_13_method_90_code 49 = .ok (.iload_n 3, 1) := by decide +kernel
theorem d_X11_tasks_50 : decode prog_13_method_90_code 50 = .ok (.ireturn, 1) := by decide +kernel
abbrev Y_X11_shard : Yx := (⟨"TaskWeaveModel", "shard", "(II)I"⟩, prog_13_method_91_code, 3, (some .int))
abbrev M_X11_shard : Mx := ("TaskWeaveModel", prog_13_method_91_code, 3, false)
theorem yk_X11_shard : Yk Y_X11_shard 2 := ⟨by decide +kernel, by decide +kernel, ⟨by decide, by decide⟩, by decide +kernel, by decide, trivial⟩
theorem d_X11_shard_0 : decode prog_13_method_91_code 0 = .ok (.aload_n 0, 1) := by decide +kernel
theorem d_X11_shard_1 : decode prog_13_method_91_code 1 = .ok (.iconst 0, 1) := by decide +kernel
theorem d_X11_shard_2 : decode prog_13_method_91_code 2 = .ok (.putfield 183, 3) := by decide +kernel
theorem d_X11_shard_5 : decode prog_13_method_91_code 5 = .ok (.iload_n 1, 1) := by decide +kernel
theorem d_X11_shard_6 : decode prog_13_method_91_code 6 = .ok (.iconst 4, 1) := by decide +kernel
theorem d_X11_shard_7 : decode prog_13_method_91_code 7 = .ok (.invokestatic 230, 3) := by decide +kernel
theorem d_X11_shard_10 : decode prog_13_method_91_code 10 = .ok (.ifCond .ne 5, 3) := by decide +kernel
theorem d_X11_shard_13 : decode prog_13_method_91_code 13 = .ok (.iconst (-1), 1) := by decide +kernel
theorem d_X11_shard_14 : decode prog_13_method_91_code 14 = .ok (.ireturn, 1) := by decide +kernel
theorem d_X11_shard_15 : decode prog_13_method_91_code 15 = .ok (.iload_n 2, 1) := by decide +kernel
theorem d_X11_shard_16 : decode prog_13_method_91_code 16 = .ok (.tableswitch 93 0 6 #[44, 51, 58, 65, 72, 79, 86], 44) := by decide +kernel
theorem d_X11_shard_60 : decode prog_13_method_91_code 60 = .ok (.aload_n 0, 1) := by decide +kernel
theorem d_X11_shard_61 : decode prog_13_method_91_code 61 = .ok (.getfield 101, 3) := by decide +kernel
theorem d_X11_shard_64 : decode prog_13_method_91_code 64 = .ok (.iload_n 1, 1) := by decide +kernel
theorem d_X11_shard_65 : decode prog_13_method_91_code 65 = .ok (.iaload, 1) := by decide +kernel
theorem d_X11_shard_66 : decode prog_13_method_91_code 66 = .ok (.ireturn, 1) := by decide +kernel
theorem d_X11_shard_67 : decode prog_13_method_91_code 67 = .ok (.aload_n 0, 1) := by decide +kernel
theorem d_X11_shard_68 : decode prog_13_method_91_code 68 = .ok (.getfield 104, 3) := by decide +kernel
theorem d_X11_shard_71 : decode prog_13_method_91_code 71 = .ok (.iload_n 1, 1) := by decide +kernel
theorem d_X11_shard_72 : decode prog_13_method_91_code 72 = .ok (.iaload, 1) := by decide +kernel
theorem d_X11_shard_73 : decode prog_13_method_91_code 73 = .ok (.ireturn, 1) := by decide +kernel
theorem d_X11_shard_74 : decode prog_13_method_91_code 74 = .ok (.aload_n 0, 1) := by decide +kernel
theorem d_X11_shard_75 : decode prog_13_method_91_code 75 = .ok (.getfield 98, 3) := by decide +kernel
theorem d_X11_shard_78 : decode prog_13_method_91_code 78 = .ok (.iload_n 1, 1) := by decide +kernel
theorem d_X11_shard_79 : decode prog_13_method_91_code 79 = .ok (.iaload, 1) := by decide +kernel
theorem d_X11_shard_80 : decode prog_13_method_91_code 80 = .ok (.ireturn, 1) := by decide +kernel
theorem d_X11_shard_81 : decode prog_13_method_91_code 81 = .ok (.aload_n 0, 1) := by decide +kernel
theorem d_X11_shard_82 : decode prog_13_method_91_code 82 = .ok (.getfield 107, 3) := by decide +kernel
theorem d_X11_shard_85 : decode prog_13_method_91_code 85 = .ok (.iload_n 1, 1) := by decide +kernel
theorem d_X11_shard_86 : decode prog_13_method_91_code 86 = .ok (.iaload, 1) := by decide +kernel
theorem d_X11_shard_87 : decode prog_13_method_91_code 87 = .ok (.ireturn, 1) := by decide +kernel
theorem d_X11_shard_88 : decode prog_13_method_91_code 88 = .ok (.aload_n 0, 1) := by decide +kernel
theorem d_X11_shard_89 : decode prog_13_method_91_code 89 = .ok (.getfield 161, 3) := by decide +kernel
theorem d_X11_shard_92 : decode prog_13_method_91_code 92 = .ok (.iload_n 1, 1) := by decide +kernel
theorem d_X11_shard_93 : decode prog_13_method_91_code 93 = .ok (.iaload, 1) := by decide +kernel
theorem d_X11_shard_94 : decode prog_13_method_91_code 94 = .ok (.ireturn, 1) := by decide +kernel
theorem d_X11_shard_95 : decode prog_13_method_91_code 95 = .ok (.aload_n 0, 1) := by decide +kernel
theorem d_X11_shard_96 : decode prog_13_method_91_code 96 = .ok (.iload_n 1, 1) := by decide +kernel
theorem d_X11_shard_97 : decode prog_13_method_91_code 97 = .ok (.iconst 1, 1) := by decide +kernel
theorem d_X11_shard_98 : decode prog_13_method_91_code 98 = .ok (.invokevirtual 445, 3) := by decide +kernel
theorem d_X11_shard_101 : decode prog_13_method_91_code 101 = .ok (.ireturn, 1) := by decide +kernel
theorem d_X11_shard_102 : decode prog_13_method_91_code 102 = .ok (.aload_n 0, 1) := by decide +kernel
theorem d_X11_shard_103 : decode prog_13_method_91_code 103 = .ok (.iload_n 1, 1) := by decide +kernel
theorem d_X11_shard_104 : decode prog_13_method_91_code 104 = .ok (.iconst 2, 1) := by decide +kernel
theorem d_X11_shard_105 : decode prog_13_method_91_code 105 = .ok (.invokevirtual 445, 3) := by decide +kernel
theorem d_X11_shard_108 : decode prog_13_method_91_code 108 = .ok (.ireturn, 1) := by decide +kernel
theorem d_X11_shard_109 : decode prog_13_method_91_code 109 = .ok (.iconst (-1), 1) := by decide +kernel
theorem d_X11_shard_110 : decode prog_13_method_91_code 110 = .ok (.ireturn, 1) := by decide +kernel
abbrev Y_X11_replica : Yx := (⟨"TaskWeaveModel", "replica", "(III)I"⟩, prog_13_method_92_code, 5, (some .int))
abbrev M_X11_replica : Mx := ("TaskWeaveModel", prog_13_method_92_code, 5, false)
theorem yk_X11_replica : Yk Y_X11_replica 3 := ⟨by decide +kernel, by decide +kernel, ⟨by decide, by decide⟩, by decide +kernel, by decide, trivial⟩
theorem d_X11_replica_0 : decode prog_13_method_92_code 0 = .ok (.aload_n 0, 1) := by decide +kernel
theorem d_X11_replica_1 : decode prog_13_method_92_code 1 = .ok (.iconst 0, 1) := by decide +kernel
theorem d_X11_replica_2 : decode prog_13_method_92_code 2 = .ok (.putfield 183, 3) := by decide +kernel
theorem d_X11_replica_5 : decode prog_13_method_92_code 5 = .ok (.aload_n 0, 1) := by decide +kernel
theorem d_X11_replica_6 : decode prog_13_method_92_code 6 = .ok (.iload_n 1, 1) := by decide +kernel
theorem d_X11_replica_7 : decode prog_13_method_92_code 7 = .ok (.iload_n 2, 1) := by decide +kernel
theorem d_X11_replica_8 : decode prog_13_method_92_code 8 = .ok (.invokevirtual 441, 3) := by decide +kernel
theorem d_X11_replica_11 : decode prog_13_method_92_code 11 = .ok (.ifCond .ne 5, 3) := by decide +kernel
theorem d_X11_replica_14 : decode prog_13_method_92_code 14 = .ok (.iconst (-1), 1) := by decide +kernel
theorem d_X11_replica_15 : decode prog_13_method_92_code 15 = .ok (.ireturn, 1) := by decide +kernel
theorem d_X11_replica_16 : decode prog_13_method_92_code 16 = .ok (.iconst 5, 1) := by decide +kernel
theorem d_X11_replica_17 : decode prog_13_method_92_code 17 = .ok (.iload_n 1, 1) := by decide +kernel
theorem d_X11_replica_18 : decode prog_13_method_92_code 18 = .ok (.imul, 1) := by decide +kernel
theorem d_X11_replica_19 : decode prog_13_method_92_code 19 = .ok (.iload_n 2, 1) := by decide +kernel
theorem d_X11_replica_20 : decode prog_13_method_92_code 20 = .ok (.iadd, 1) := by decide +kernel
theorem d_X11_replica_21 : decode prog_13_method_92_code 21 = .ok (.istore 4, 2) := by decide +kernel
theorem d_X11_replica_23 : decode prog_13_method_92_code 23 = .ok (.iload_n 3, 1) := by decide +kernel
theorem d_X11_replica_24 : decode prog_13_method_92_code 24 = .ok (.tableswitch 72 0 3 #[32, 48, 56, 64], 32) := by decide +kernel
theorem d_X11_replica_56 : decode prog_13_method_92_code 56 = .ok (.aload_n 0, 1) := by decide +kernel
theorem d_X11_replica_57 : decode prog_13_method_92_code 57 = .ok (.getfield 92, 3) := by decide +kernel
theorem d_X11_replica_60 : decode prog_13_method_92_code 60 = .ok (.iload 4, 2) := by decide +kernel
theorem d_X11_replica_62 : decode prog_13_method_92_code 62 = .ok (.baload, 1) := by decide +kernel
theorem d_X11_replica_63 : decode prog_13_method_92_code 63 = .ok (.ifCond .eq 7, 3) := by decide +kernel
theorem d_X11_replica_66 : decode prog_13_method_92_code 66 = .ok (.iconst 1, 1) := by decide +kernel
theorem d_X11_replica_67 : decode prog_13_method_92_code 67 = .ok (.goto 4, 3) := by decide +kernel
theorem d_X11_replica_70 : decode prog_13_method_92_code 70 = .ok (.iconst 0, 1) := by decide +kernel
theorem d_X11_replica_71 : decode prog_13_method_92_code 71 = .ok (.ireturn, 1) := by decide +kernel
theorem d_X11_replica_72 : decode prog_13_method_92_code 72 = .ok (.aload_n 0, 1) := by decide +kernel
theorem d_X11_replica_73 : decode prog_13_method_92_code 73 = .ok (.getfield 83, 3) := by decide +kernel
theorem d_X11_replica_76 : decode prog_13_method_92_code 76 = .ok (.iload 4, 2) := by decide +kernel
theorem d_X11_replica_78 : decode prog_13_method_92_code 78 = .ok (.iaload, 1) := by decide +kernel
theorem d_X11_replica_79 : decode prog_13_method_92_code 79 = .ok (.ireturn, 1) := by decide +kernel
theorem d_X11_replica_80 : decode prog_13_method_92_code 80 = .ok (.aload_n 0, 1) := by decide +kernel
theorem d_X11_replica_81 : decode prog_13_method_92_code 81 = .ok (.getfield 86, 3) := by decide +kernel
theorem d_X11_replica_84 : decode prog_13_method_92_code 84 = .ok (.iload 4, 2) := by decide +kernel
theorem d_X11_replica_86 : decode prog_13_method_92_code 86 = .ok (.iaload, 1) := by decide +kernel
theorem d_X11_replica_87 : decode prog_13_method_92_code 87 = .ok (.ireturn, 1) := by decide +kernel
theorem d_X11_replica_88 : decode prog_13_method_92_code 88 = .ok (.aload_n 0, 1) := by decide +kernel
theorem d_X11_replica_89 : decode prog_13_method_92_code 89 = .ok (.getfield 95, 3) := by decide +kernel
theorem d_X11_replica_92 : decode prog_13_method_92_code 92 = .ok (.iload 4, 2) := by decide +kernel
theorem d_X11_replica_94 : decode prog_13_method_92_code 94 = .ok (.iaload, 1) := by decide +kernel
theorem d_X11_replica_95 : decode prog_13_method_92_code 95 = .ok (.ireturn, 1) := by decide +kernel
theorem d_X11_replica_96 : decode prog_13_method_92_code 96 = .ok (.iconst (-1), 1) := by decide +kernel
theorem d_X11_replica_97 : decode prog_13_method_92_code 97 = .ok (.ireturn, 1) := by decide +kernel
abbrev Y_X11_byteOf : Yx := (⟨"TaskWeaveModel", "byteOf", "(II)I"⟩, prog_13_method_93_code, 2, (some .int))
abbrev M_X11_byteOf : Mx := ("TaskWeaveModel", prog_13_method_93_code, 2, false)
theorem yk_X11_byteOf : Yk Y_X11_byteOf 2 := ⟨by decide +kernel, by decide +kernel, ⟨by decide, by decide⟩, by decide +kernel, by decide, trivial⟩
theorem d_X11_byteOf_0 : decode prog_13_method_93_code 0 = .ok (.iload_n 0, 1) := by decide +kernel
theorem d_X11_byteOf_1 : decode prog_13_method_93_code 1 = .ok (.bipush 8, 2) := by decide +kernel
theorem d_X11_byteOf_3 : decode prog_13_method_93_code 3 = .ok (.iload_n 1, 1) := by decide +kernel
theorem d_X11_byteOf_4 : decode prog_13_method_93_code 4 = .ok (.imul, 1) := by decide +kernel
theorem d_X11_byteOf_5 : decode prog_13_method_93_code 5 = .ok (.ishr, 1) := by decide +kernel
theorem d_X11_byteOf_6 : decode prog_13_method_93_code 6 = .ok (.sipush 255, 3) := by decide +kernel
theorem d_X11_byteOf_9 : decode prog_13_method_93_code 9 = .ok (.iand, 1) := by decide +kernel
theorem d_X11_byteOf_10 : decode prog_13_method_93_code 10 = .ok (.ireturn, 1) := by decide +kernel
abbrev Y_X11_disk : Yx := (⟨"TaskWeaveModel", "disk", "(IIII)I"⟩, prog_13_method_94_code, 11, (some .int))
abbrev M_X11_disk : Mx := ("TaskWeaveModel", prog_13_method_94_code, 11, false)
theorem yk_X11_disk : Yk Y_X11_disk 4 := ⟨by decide +kernel, by decide +kernel, ⟨by decide, by decide⟩, by decide +kernel, by decide, trivial⟩
theorem d_X11_disk_0 : decode prog_13_method_94_code 0 = .ok (.aload_n 0, 1) := by decide +kernel
theorem d_X11_disk_1 : decode prog_13_method_94_code 1 = .ok (.iconst 0, 1) := by decide +kernel
theorem d_X11_disk_2 : decode prog_13_method_94_code 2 = .ok (.putfield 183, 3) := by decide +kernel
theorem d_X11_disk_5 : decode prog_13_method_94_code 5 = .ok (.aload_n 0, 1) := by decide +kernel
theorem d_X11_disk_6 : decode prog_13_method_94_code 6 = .ok (.iload_n 1, 1) := by decide +kernel
theorem d_X11_disk_7 : decode prog_13_method_94_code 7 = .ok (.iload_n 2, 1) := by decide +kernel
theorem d_X11_disk_8 : decode prog_13_method_94_code 8 = .ok (.invokevirtual 441, 3) := by decide +kernel
theorem d_X11_disk_11 : decode prog_13_method_94_code 11 = .ok (.ifCond .eq 24, 3) := by decide +kernel
theorem d_X11_disk_14 : decode prog_13_method_94_code 14 = .ok (.iload_n 3, 1) := by decide +kernel
theorem d_X11_disk_15 : decode prog_13_method_94_code 15 = .ok (.sipush 256, 3) := by decide +kernel
theorem d_X11_disk_18 : decode prog_13_method_94_code 18 = .ok (.invokestatic 230, 3) := by decide +kernel
theorem d_X11_disk_21 : decode prog_13_method_94_code 21 = .ok (.ifCond .eq 14, 3) := by decide +kernel
theorem d_X11_disk_24 : decode prog_13_method_94_code 24 = .ok (.iload 4, 2) := by decide +kernel
theorem d_X11_disk_26 : decode prog_13_method_94_code 26 = .ok (.sipush 512, 3) := by decide +kernel
theorem d_X11_disk_29 : decode prog_13_method_94_code 29 = .ok (.invokestatic 230, 3) := by decide +kernel
theorem d_X11_disk_32 : decode prog_13_method_94_code 32 = .ok (.ifCond .ne 5, 3) := by decide +kernel
theorem d_X11_disk_35 : decode prog_13_method_94_code 35 = .ok (.iconst (-1), 1) := by decide +kernel
theorem d_X11_disk_36 : decode prog_13_method_94_code 36 = .ok (.ireturn, 1) := by decide +kernel
theorem d_X11_disk_37 : decode prog_13_method_94_code 37 = .ok (.iconst 5, 1) := by decide +kernel
theorem d_X11_disk_38 : decode prog_13_method_94_code 38 = .ok (.iload_n 1, 1) := by decide +kernel
theorem d_X11_disk_39 : decode prog_13_method_94_code 39 = .ok (.imul, 1) := by decide +kernel
theorem d_X11_disk_40 : decode prog_13_method_94_code 40 = .ok (.iload_n 2, 1) := by decide +kernel
theorem d_X11_disk_41 : decode prog_13_method_94_code 41 = .ok (.iadd, 1) := by decide +kernel
theorem d_X11_disk_42 : decode prog_13_method_94_code 42 = .ok (.istore 5, 2) := by decide +kernel
theorem d_X11_disk_44 : decode prog_13_method_94_code 44 = .ok (.bipush 16, 2) := by decide +kernel
theorem d_X11_disk_46 : decode prog_13_method_94_code 46 = .ok (.aload_n 0, 1) := by decide +kernel
theorem d_X11_disk_47 : decode prog_13_method_94_code 47 = .ok (.getfield 83, 3) := by decide +kernel
theorem d_X11_disk_50 : decode prog_13_method_94_code 50 = .ok (.iload 5, 2) := by decide +kernel
theorem d_X11_disk_52 : decode prog_13_method_94_code 52 = .ok (.iaload, 1) := by decide +kernel
theorem d_X11_disk_53 : decode prog_13_method_94_code 53 = .ok (.imul, 1) := by decide +kernel
theorem d_X11_disk_54 : decode prog_13_method_94_code 54 = .ok (.aload_n 0, 1) := by decide +kernel
theorem d_X11_disk_55 : decode prog_13_method_94_code 55 = .ok (.getfield 86, 3) := by decide +kernel
theorem d_X11_disk_58 : decode prog_13_method_94_code 58 = .ok (.iload 5, 2) := by decide +kernel
theorem d_X11_disk_60 : decode prog_13_method_94_code 60 = .ok (.iaload, 1) := by decide +kernel
theorem d_X11_disk_61 : decode prog_13_method_94_code 61 = .ok (.iadd, 1) := by decide +kernel
theorem d_X11_disk_62 : decode prog_13_method_94_code 62 = .ok (.istore 6, 2) := by decide +kernel
theorem d_X11_disk_64 : decode prog_13_method_94_code 64 = .ok (.sipush 512, 3) := by decide +kernel
theorem d_X11_disk_67 : decode prog_13_method_94_code 67 = .ok (.iload_n 3, 1) := by decide +kernel
theorem d_X11_disk_68 : decode prog_13_method_94_code 68 = .ok (.imul, 1) := by decide +kernel
theorem d_X11_disk_69 : decode prog_13_method_94_code 69 = .ok (.iload 4, 2) := by decide +kernel
theorem d_X11_disk_71 : decode prog_13_method_94_code 71 = .ok (.iadd, 1) := by decide +kernel
theorem d_X11_disk_72 : decode prog_13_method_94_code 72 = .ok (.istore 7, 2) := by decide +kernel
theorem d_X11_disk_74 : decode prog_13_method_94_code 74 = .ok (.sipush 512, 3) := by decide +kernel
theorem d_X11_disk_77 : decode prog_13_method_94_code 77 = .ok (.iload_n 3, 1) := by decide +kernel
theorem d_X11_disk_78 : decode prog_13_method_94_code 78 = .ok (.imul, 1) := by decide +kernel
theorem d_X11_disk_79 : decode prog_13_method_94_code 79 = .ok (.iload 6, 2) := by decide +kernel
theorem d_X11_disk_81 : decode prog_13_method_94_code 81 = .ok (.if_icmp .lt 5, 3) := by decide +kernel
theorem d_X11_disk_84 : decode prog_13_method_94_code 84 = .ok (.iconst (-1), 1) := by decide +kernel
theorem d_X11_disk_85 : decode prog_13_method_94_code 85 = .ok (.ireturn, 1) := by decide +kernel
theorem d_X11_disk_86 : decode prog_13_method_94_code 86 = .ok (.iload 7, 2) := by decide +kernel
theorem d_X11_disk_88 : decode prog_13_method_94_code 88 = .ok (.iload 6, 2) := by decide +kernel
theorem d_X11_disk_90 : decode prog_13_method_94_code 90 = .ok (.if_icmp .lt 5, 3) := by decide +kernel
theorem d_X11_disk_93 : decode prog_13_method_94_code 93 = .ok (.iconst 0, 1) := by decide +kernel
theorem d_X11_disk_94 : decode prog_13_method_94_code 94 = .ok (.ireturn, 1) := by decide +kernel
theorem d_X11_disk_95 : decode prog_13_method_94_code 95 = .ok (.iload 7, 2) := by decide +kernel
theorem d_X11_disk_97 : decode prog_13_method_94_code 97 = .ok (.bipush 16, 2) := by decide +kernel
theorem d_X11_disk_99 : decode prog_13_method_94_code 99 = .ok (.idiv, 1) := by decide +kernel
theorem d_X11_disk_100 : decode prog_13_method_94_code 100 = .ok (.aload_n 0, 1) := by decide +kernel
theorem d_X11_disk_101 : decode prog_13_method_94_code 101 = .ok (.getfield 83, 3) := by decide +kernel
theorem d_X11_disk_104 : decode prog_13_method_94_code 104 = .ok (.iload 5, 2) := by decide +kernel
theorem d_X11_disk_106 : decode prog_13_method_94_code 106 = .ok (.iaload, 1) := by decide +kernel
theorem d_X11_disk_107 : decode prog_13_method_94_code 107 = .ok (.if_icmp .ge 23, 3) := by decide +kernel
theorem d_X11_disk_110 : decode prog_13_method_94_code 110 = .ok (.aload_n 0, 1) := by decide +kernel
theorem d_X11_disk_111 : decode prog_13_method_94_code 111 = .ok (.getfield 80, 3) := by decide +kernel
theorem d_X11_disk_114 : decode prog_13_method_94_code 114 = .ok (.sipush 8192, 3) := by decide +kernel
theorem d_X11_disk_117 : decode prog_13_method_94_code 117 = .ok (.iload 5, 2) := by decide +kernel
theorem d_X11_disk_119 : decode prog_13_method_94_code 119 = .ok (.imul, 1) := by decide +kernel
theorem d_X11_disk_120 : decode prog_13_method_94_code 120 = .ok (.iload 7, 2) := by decide +kernel
theorem d_X11_disk_122 : decode prog_13_method_94_code 122 = .ok (.bipush 16, 2) := by decide +kernel
theorem d_X11_disk_124 : decode prog_13_method_94_code 124 = .ok (.idiv, 1) := by decide +kernel
theorem d_X11_disk_125 : decode prog_13_method_94_code 125 = .ok (.iadd, 1) := by decide +kernel
theorem d_X11_disk_126 : decode prog_13_method_94_code 126 = .ok (.iaload, 1) := by decide +kernel
theorem d_X11_disk_127 : decode prog_13_method_94_code 127 = .ok (.goto 10, 3) := by decide +kernel
theorem d_X11_disk_130 : decode prog_13_method_94_code 130 = .ok (.aload_n 0, 1) := by decide +kernel
theorem d_X11_disk_131 : decode prog_13_method_94_code 131 = .ok (.getfield 89, 3) := by decide +kernel
theorem d_X11_disk_134 : decode prog_13_method_94_code 134 = .ok (.iload 5, 2) := by decide +kernel
theorem d_X11_disk_136 : decode prog_13_method_94_code 136 = .ok (.iaload, 1) := by decide +kernel
theorem d_X11_disk_137 : decode prog_13_method_94_code 137 = .ok (.istore 8, 2) := by decide +kernel
theorem d_X11_disk_139 : decode prog_13_method_94_code 139 = .ok (.iload 7, 2) := by decide +kernel
theorem d_X11_disk_141 : decode prog_13_method_94_code 141 = .ok (.bipush 16, 2) := by decide +kernel
theorem d_X11_disk_143 : decode prog_13_method_94_code 143 = .ok (.irem, 1) := by decide +kernel
theorem d_X11_disk_144 : decode prog_13_method_94_code 144 = .ok (.istore 9, 2) := by decide +kernel
theorem d_X11_disk_146 : decode prog_13_method_94_code 146 = .ok (.iload 9, 2) := by decide +kernel
theorem d_X11_disk_148 : decode prog_13_method_94_code 148 = .ok (.ifCond .ne 11, 3) := by decide +kernel
theorem d_X11_disk_151 : decode prog_13_method_94_code 151 = .ok (.aload_n 0, 1) := by decide +kernel
theorem d_X11_disk_152 : decode prog_13_method_94_code 152 = .ok (.getfield 64, 3) := by decide +kernel
theorem d_X11_disk_155 : decode prog_13_method_94_code 155 = .ok (.iload 8, 2) := by decide +kernel
theorem d_X11_disk_157 : decode prog_13_method_94_code 157 = .ok (.iaload, 1) := by decide +kernel
theorem d_X11_disk_158 : decode prog_13_method_94_code 158 = .ok (.ireturn, 1) := by decide +kernel
theorem d_X11_disk_159 : decode prog_13_method_94_code 159 = .ok (.iload 9, 2) := by decide +kernel
theorem d_X11_disk_161 : decode prog_13_method_94_code 161 = .ok (.iconst 3, 1) := by decide +kernel
theorem d_X11_disk_162 : decode prog_13_method_94_code 162 = .ok (.if_icmp .ge 18, 3) := by decide +kernel
theorem d_X11_disk_165 : decode prog_13_method_94_code 165 = .ok (.aload_n 0, 1) := by decide +kernel
theorem d_X11_disk_166 : decode prog_13_method_94_code 166 = .ok (.getfield 67, 3) := by decide +kernel
theorem d_X11_disk_169 : decode prog_13_method_94_code 169 = .ok (.iload 8, 2) := by decide +kernel
theorem d_X11_disk_171 : decode prog_13_method_94_code 171 = .ok (.iaload, 1) := by decide +kernel
theorem d_X11_disk_172 : decode prog_13_method_94_code 172 = .ok (.iconst 2, 1) := by decide +kernel
theorem d_X11_disk_173 : decode prog_13_method_94_code 173 = .ok (.iload 9, 2) := by decide +kernel
theorem d_X11_disk_175 : decode prog_13_method_94_code 175 = .ok (.isub, 1) := by decide +kernel
theorem d_X11_disk_176 : decode prog_13_method_94_code 176 = .ok (.invokestatic 448, 3) := by decide +kernel
theorem d_X11_disk_179 : decode prog_13_method_94_code 179 = .ok (.ireturn, 1) := by decide +kernel
theorem d_X11_disk_180 : decode prog_13_method_94_code 180 = .ok (.iload 9, 2) := by decide +kernel
theorem d_X11_disk_182 : decode prog_13_method_94_code 182 = .ok (.bipush 15, 2) := by decide +kernel
theorem d_X11_disk_184 : decode prog_13_method_94_code 184 = .ok (.if_icmp .ne 5, 3) := by decide +kernel
theorem d_X11_disk_187 : decode prog_13_method_94_code 187 = .ok (.iconst 1, 1) := by decide +kernel
theorem d_X11_disk_188 : decode prog_13_method_94_code 188 = .ok (.ireturn, 1) := by decide +kernel
theorem d_X11_disk_189 : decode prog_13_method_94_code 189 = .ok (.iload 9, 2) := by decide +kernel
theorem d_X11_disk_191 : decode prog_13_method_94_code 191 = .ok (.bipush 7, 2) := by decide +kernel
theorem d_X11_disk_193 : decode prog_13_method_94_code 193 = .ok (.if_icmp .ge 13, 3) := by decide +kernel
theorem d_X11_disk_196 : decode prog_13_method_94_code 196 = .ok (.aload_n 0, 1) := by decide +kernel
theorem d_X11_disk_197 : decode prog_13_method_94_code 197 = .ok (.getfield 70, 3) := by decide +kernel
theorem d_X11_disk_200 : decode prog_13_method_94_code 200 = .ok (.iload 8, 2) := by decide +kernel
theorem d_X11_disk_202 : decode prog_13_method_94_code 202 = .ok (.iaload, 1) := by decide +kernel
theorem d_X11_disk_203 : decode prog_13_method_94_code 203 = .ok (.goto 27, 3) := by decide +kernel
theorem d_X11_disk_206 : decode prog_13_method_94_code 206 = .ok (.iload 9, 2) := by decide +kernel
theorem d_X11_disk_208 : decode prog_13_method_94_code 208 = .ok (.bipush 11, 2) := by decide +kernel
theorem d_X11_disk_210 : decode prog_13_method_94_code 210 = .ok (.if_icmp .ge 13, 3) := by decide +kernel
theorem d_X11_disk_213 : decode prog_13_method_94_code 213 = .ok (.aload_n 0, 1) := by decide +kernel
theorem d_X11_disk_214 : decode prog_13_method_94_code 214 = .ok (.getfield 73, 3) := by decide +kernel
theorem d_X11_disk_217 : decode prog_13_method_94_code 217 = .ok (.iload 8, 2) := by decide +kernel
theorem d_X11_disk_219 : decode prog_13_method_94_code 219 = .ok (.iaload, 1) := by decide +kernel
theorem d_X11_disk_220 : decode prog_13_method_94_code 220 = .ok (.goto 10, 3) := by decide +kernel
theorem d_X11_disk_223 : decode prog_13_method_94_code 223 = .ok (.aload_n 0, 1) := by decide +kernel
theorem d_X11_disk_224 : decode prog_13_method_94_code 224 = .ok (.getfield 76, 3) := by decide +kernel
theorem d_X11_disk_227 : decode prog_13_method_94_code 227 = .ok (.iload 8, 2) := by decide +kernel
theorem d_X11_disk_229 : decode prog_13_method_94_code 229 = .ok (.iaload, 1) := by decide +kernel
theorem d_X11_disk_230 : decode prog_13_method_94_code 230 = .ok (.istore 10, 2) := by decide +kernel
theorem d_X11_disk_232 : decode prog_13_method_94_code 232 = .ok (.iload 10, 2) := by decide +kernel
theorem d_X11_disk_234 : decode prog_13_method_94_code 234 = .ok (.iconst 3, 1) := by decide +kernel
theorem d_X11_disk_235 : decode prog_13_method_94_code 235 = .ok (.iload 9, 2) := by decide +kernel
theorem d_X11_disk_237 : decode prog_13_method_94_code 237 = .ok (.iconst 3, 1) := by decide +kernel
theorem d_X11_disk_238 : decode prog_13_method_94_code 238 = .ok (.isub, 1) := by decide +kernel
theorem d_X11_disk_239 : decode prog_13_method_94_code 239 = .ok (.iconst 4, 1) := by decide +kernel
theorem d_X11_disk_240 : decode prog_13_method_94_code 240 = .ok (.irem, 1) := by decide +kernel
theorem d_X11_disk_241 : decode prog_13_method_94_code 241 = .ok (.isub, 1) := by decide +kernel
theorem d_X11_disk_242 : decode prog_13_method_94_code 242 = .ok (.invokestatic 448, 3) := by decide +kernel
theorem d_X11_disk_245 : decode prog_13_method_94_code 245 = .ok (.ireturn, 1) := by decide +kernel
abbrev Y_J7_copyOf_6403c : Yx := (⟨"java/util/Arrays", "copyOf", "([Ljava/lang/Object;ILjava/lang/Class;)[Ljava/lang/Object;"⟩, prog_29_method_120_code, 4, (some (.array (.object "java/lang/Object"))))
abbrev M_J7_copyOf_6403c : Mx := ("java/util/Arrays", prog_29_method_120_code, 4, false)
theorem yk_J7_copyOf_6403c : Yk Y_J7_copyOf_6403c 3 := ⟨by decide +kernel, by decide +kernel, ⟨by decide, by decide⟩, by decide +kernel, by decide, trivial⟩
theorem d_J7_copyOf_6403c_0 : decode prog_29_method_120_code 0 = .ok (.aload_n 2, 1) := by decide +kernel
theorem d_J7_copyOf_6403c_1 : decode prog_29_method_120_code 1 = .ok (.ldc 110, 2) := by decide +kernel
theorem d_J7_copyOf_6403c_3 : decode prog_29_method_120_code 3 = .ok (.if_acmp .ne 10, 3) := by decide +kernel
theorem d_J7_copyOf_6403c_6 : decode prog_29_method_120_code 6 = .ok (.iload_n 1, 1) := by decide +kernel
theorem d_J7_copyOf_6403c_7 : decode prog_29_method_120_code 7 = .ok (.anewarray 2, 3) := by decide +kernel
theorem d_J7_copyOf_6403c_10 : decode prog_29_method_120_code 10 = .ok (.goto 14, 3) := by decide +kernel
theorem d_J7_copyOf_6403c_13 : decode prog_29_method_120_code 13 = .ok (.aload_n 2, 1) := by decide +kernel
theorem d_J7_copyOf_6403c_14 : decode prog_29_method_120_code 14 = .ok (.invokevirtual 90, 3) := by decide +kernel
theorem d_J7_copyOf_6403c_17 : decode prog_29_method_120_code 17 = .ok (.iload_n 1, 1) := by decide +kernel
theorem d_J7_copyOf_6403c_18 : decode prog_29_method_120_code 18 = .ok (.invokestatic 95, 3) := by decide +kernel
theorem d_J7_copyOf_6403c_21 : decode prog_29_method_120_code 21 = .ok (.checkcast 110, 3) := by decide +kernel
theorem d_J7_copyOf_6403c_24 : decode prog_29_method_120_code 24 = .ok (.astore_n 3, 1) := by decide +kernel
theorem d_J7_copyOf_6403c_25 : decode prog_29_method_120_code 25 = .ok (.aload_n 0, 1) := by decide +kernel
theorem d_J7_copyOf_6403c_26 : decode prog_29_method_120_code 26 = .ok (.iconst 0, 1) := by decide +kernel
theorem d_J7_copyOf_6403c_27 : decode prog_29_method_120_code 27 = .ok (.aload_n 3, 1) := by decide +kernel
theorem d_J7_copyOf_6403c_28 : decode prog_29_method_120_code 28 = .ok (.iconst 0, 1) := by decide +kernel
theorem d_J7_copyOf_6403c_29 : decode prog_29_method_120_code 29 = .ok (.aload_n 0, 1) := by decide +kernel
theorem d_J7_copyOf_6403c_30 : decode prog_29_method_120_code 30 = .ok (.arraylength, 1) := by decide +kernel
theorem d_J7_copyOf_6403c_31 : decode prog_29_method_120_code 31 = .ok (.iload_n 1, 1) := by decide +kernel
theorem d_J7_copyOf_6403c_32 : decode prog_29_method_120_code 32 = .ok (.invokestatic 304, 3) := by decide +kernel
theorem d_J7_copyOf_6403c_35 : decode prog_29_method_120_code 35 = .ok (.invokestatic 150, 3) := by decide +kernel
theorem d_J7_copyOf_6403c_38 : decode prog_29_method_120_code 38 = .ok (.aload_n 3, 1) := by decide +kernel
theorem d_J7_copyOf_6403c_39 : decode prog_29_method_120_code 39 = .ok (.areturn, 1) := by decide +kernel
abbrev Y_J7_copyOf_1904c : Yx := (⟨"java/util/Arrays", "copyOf", "([Ljava/lang/Object;I)[Ljava/lang/Object;"⟩, prog_29_method_119_code, 2, (some (.array (.object "java/lang/Object"))))
abbrev M_J7_copyOf_1904c : Mx := ("java/util/Arrays", prog_29_method_119_code, 2, false)
theorem yk_J7_copyOf_1904c : Yk Y_J7_copyOf_1904c 2 := ⟨by decide +kernel, by decide +kernel, ⟨by decide, by decide⟩, by decide +kernel, by decide, trivial⟩
theorem d_J7_copyOf_1904c_0 : decode prog_29_method_119_code 0 = .ok (.aload_n 0, 1) := by decide +kernel
theorem d_J7_copyOf_1904c_1 : decode prog_29_method_119_code 1 = .ok (.iload_n 1, 1) := by decide +kernel
theorem d_J7_copyOf_1904c_2 : decode prog_29_method_119_code 2 = .ok (.aload_n 0, 1) := by decide +kernel
theorem d_J7_copyOf_1904c_3 : decode prog_29_method_119_code 3 = .ok (.invokevirtual 86, 3) := by decide +kernel
theorem d_J7_copyOf_1904c_6 : decode prog_29_method_119_code 6 = .ok (.invokestatic 300, 3) := by decide +kernel
theorem d_J7_copyOf_1904c_9 : decode prog_29_method_119_code 9 = .ok (.areturn, 1) := by decide +kernel
abbrev Y_J8_hugeLength_7cf53 : Yx := (⟨"jdk/internal/util/ArraysSupport", "hugeLength", "(II)I"⟩, prog_36_method_28_code, 3, (some .int))
abbrev M_J8_hugeLength_7cf53 : Mx := ("jdk/internal/util/ArraysSupport", prog_36_method_28_code, 3, false)
theorem yk_J8_hugeLength_7cf53 : Yk Y_J8_hugeLength_7cf53 2 := ⟨by decide +kernel, by decide +kernel, ⟨by decide, by decide⟩, by decide +kernel, by decide, trivial⟩
theorem d_J8_hugeLength_7cf53_0 : decode prog_36_method_28_code 0 = .ok (.iload_n 0, 1) := by decide +kernel
theorem d_J8_hugeLength_7cf53_1 : decode prog_36_method_28_code 1 = .ok (.iload_n 1, 1) := by decide +kernel
theorem d_J8_hugeLength_7cf53_2 : decode prog_36_method_28_code 2 = .ok (.iadd, 1) := by decide +kernel
theorem d_J8_hugeLength_7cf53_3 : decode prog_36_method_28_code 3 = .ok (.istore_n 2, 1) := by decide +kernel
theorem d_J8_hugeLength_7cf53_4 : decode prog_36_method_28_code 4 = .ok (.iload_n 2, 1) := by decide +kernel
theorem d_J8_hugeLength_7cf53_5 : decode prog_36_method_28_code 5 = .ok (.ifCond .ge 44, 3) := by decide +kernel
theorem d_J8_hugeLength_7cf53_8 : decode prog_36_method_28_code 8 = .ok (.new 204, 3) := by decide +kernel
theorem d_J8_hugeLength_7cf53_11 : decode prog_36_method_28_code 11 = .ok (.dup, 1) := by decide +kernel
theorem d_J8_hugeLength_7cf53_12 : decode prog_36_method_28_code 12 = .ok (.new 89, 3) := by decide +kernel
theorem d_J8_hugeLength_7cf53_15 : decode prog_36_method_28_code 15 = .ok (.dup, 1) := by decide +kernel
theorem d_J8_hugeLength_7cf53_16 : decode prog_36_method_28_code 16 = .ok (.invokespecial 91, 3) := by decide +kernel
theorem d_J8_hugeLength_7cf53_19 : decode prog_36_method_28_code 19 = .ok (.ldc 206, 2) := by decide +kernel
theorem d_J8_hugeLength_7cf53_21 : decode prog_36_method_28_code 21 = .ok (.invokevirtual 94, 3) := by decide +kernel
theorem d_J8_hugeLength_7cf53_24 : decode prog_36_method_28_code 24 = .ok (.iload_n 0, 1) := by decide +kernel
theorem d_J8_hugeLength_7cf53_25 : decode prog_36_method_28_code 25 = .ok (.invokevirtual 98, 3) := by decide +kernel
theorem d_J8_hugeLength_7cf53_28 : decode prog_36_method_28_code 28 = .ok (.ldc 208, 2) := by decide +kernel
theorem d_J8_hugeLength_7cf53_30 : decode prog_36_method_28_code 30 = .ok (.invokevirtual 94, 3) := by decide +kernel
theorem d_J8_hugeLength_7cf53_33 : decode prog_36_method_28_code 33 = .ok (.iload_n 1, 1) := by decide +kernel
theorem d_J8_hugeLength_7cf53_34 : decode prog_36_method_28_code 34 = .ok (.invokevirtual 98, 3) := by decide +kernel
theorem d_J8_hugeLength_7cf53_37 : decode prog_36_method_28_code 37 = .ok (.ldc 210, 2) := by decide +kernel
theorem d_J8_hugeLength_7cf53_39 : decode prog_36_method_28_code 39 = .ok (.invokevirtual 94, 3) := by decide +kernel
theorem d_J8_hugeLength_7cf53_42 : decode prog_36_method_28_code 42 = .ok (.invokevirtual 101, 3) := by decide +kernel
theorem d_J8_hugeLength_7cf53_45 : decode prog_36_method_28_code 45 = .ok (.invokespecial 212, 3) := by decide +kernel
theorem d_J8_hugeLength_7cf53_48 : decode prog_36_method_28_code 48 = .ok (.athrow, 1) := by decide +kernel
theorem d_J8_hugeLength_7cf53_49 : decode prog_36_method_28_code 49 = .ok (.iload_n 2, 1) := by decide +kernel
theorem d_J8_hugeLength_7cf53_50 : decode prog_36_method_28_code 50 = .ok (.ldc 200, 2) := by decide +kernel
theorem d_J8_hugeLength_7cf53_52 : decode prog_36_method_28_code 52 = .ok (.if_icmp .gt 6, 3) := by decide +kernel
theorem d_J8_hugeLength_7cf53_55 : decode prog_36_method_28_code 55 = .ok (.ldc 200, 2) := by decide +kernel
theorem d_J8_hugeLength_7cf53_57 : decode prog_36_method_28_code 57 = .ok (.ireturn, 1) := by decide +kernel
theorem d_J8_hugeLength_7cf53_58 : decode prog_36_method_28_code 58 = .ok (.iload_n 2, 1) := by decide +kernel
theorem d_J8_hugeLength_7cf53_59 : decode prog_36_method_28_code 59 = .ok (.ireturn, 1) := by decide +kernel
abbrev Y_J8_newLength_cabcc : Yx := (⟨"jdk/internal/util/ArraysSupport", "newLength", "(III)I"⟩, prog_36_method_27_code, 4, (some .int))
abbrev M_J8_newLength_cabcc : Mx := ("jdk/internal/util/ArraysSupport", prog_36_method_27_code, 4, false)
theorem yk_J8_newLength_cabcc : Yk Y_J8_newLength_cabcc 3 := ⟨by decide +kernel, by decide +kernel, ⟨by decide, by decide⟩, by decide +kernel, by decide, trivial⟩
theorem d_J8_newLength_cabcc_0 : decode prog_36_method_27_code 0 = .ok (.iload_n 0, 1) := by decide +kernel
theorem d_J8_newLength_cabcc_1 : decode prog_36_method_27_code 1 = .ok (.iload_n 1, 1) := by decide +kernel
theorem d_J8_newLength_cabcc_2 : decode prog_36_method_27_code 2 = .ok (.iload_n 2, 1) := by decide +kernel
theorem d_J8_newLength_cabcc_3 : decode prog_36_method_27_code 3 = .ok (.invokestatic 194, 3) := by decide +kernel
theorem d_J8_newLength_cabcc_6 : decode prog_36_method_27_code 6 = .ok (.iadd, 1) := by decide +kernel
theorem d_J8_newLength_cabcc_7 : decode prog_36_method_27_code 7 = .ok (.istore_n 3, 1) := by decide +kernel
theorem d_J8_newLength_cabcc_8 : decode prog_36_method_27_code 8 = .ok (.iconst 0, 1) := by decide +kernel
theorem d_J8_newLength_cabcc_9 : decode prog_36_method_27_code 9 = .ok (.iload_n 3, 1) := by decide +kernel
theorem d_J8_newLength_cabcc_10 : decode prog_36_method_27_code 10 = .ok (.if_icmp .ge 11, 3) := by decide +kernel
theorem d_J8_newLength_cabcc_13 : decode prog_36_method_27_code 13 = .ok (.iload_n 3, 1) := by decide +kernel
theorem d_J8_newLength_cabcc_14 : decode prog_36_method_27_code 14 = .ok (.ldc 200, 2) := by decide +kernel
theorem d_J8_newLength_cabcc_16 : decode prog_36_method_27_code 16 = .ok (.if_icmp .gt 5, 3) := by decide +kernel
theorem d_J8_newLength_cabcc_19 : decode prog_36_method_27_code 19 = .ok (.iload_n 3, 1) := by decide +kernel
theorem d_J8_newLength_cabcc_20 : decode prog_36_method_27_code 20 = .ok (.ireturn, 1) := by decide +kernel
theorem d_J8_newLength_cabcc_21 : decode prog_36_method_27_code 21 = .ok (.iload_n 0, 1) := by decide +kernel
theorem d_J8_newLength_cabcc_22 : decode prog_36_method_27_code 22 = .ok (.iload_n 1, 1) := by decide +kernel
theorem d_J8_newLength_cabcc_23 : decode prog_36_method_27_code 23 = .ok (.invokestatic 201, 3) := by decide +kernel
theorem d_J8_newLength_cabcc_26 : decode prog_36_method_27_code 26 = .ok (.ireturn, 1) := by decide +kernel
abbrev Y_Jx4a65c_grow_92f84 : Yx := (⟨"java/util/ArrayList", "grow", "(I)[Ljava/lang/Object;"⟩, prog_28_method_6_code, 4, (some (.array (.object "java/lang/Object"))))
abbrev M_Jx4a65c_grow_92f84 : Mx := ("java/util/ArrayList", prog_28_method_6_code, 4, false)
theorem yk_Jx4a65c_grow_92f84 : Yk Y_Jx4a65c_grow_92f84 1 := ⟨by decide +kernel, by decide +kernel, ⟨by decide, by decide⟩, by decide +kernel, by decide, trivial⟩
theorem d_Jx4a65c_grow_92f84_0 : decode prog_28_method_6_code 0 = .ok (.aload_n 0, 1) := by decide +kernel
theorem d_Jx4a65c_grow_92f84_1 : decode prog_28_method_6_code 1 = .ok (.getfield 9, 3) := by decide +kernel
theorem d_Jx4a65c_grow_92f84_4 : decode prog_28_method_6_code 4 = .ok (.arraylength, 1) := by decide +kernel
theorem d_Jx4a65c_grow_92f84_5 : decode prog_28_method_6_code 5 = .ok (.istore_n 2, 1) := by decide +kernel
theorem d_Jx4a65c_grow_92f84_6 : decode prog_28_method_6_code 6 = .ok (.iload_n 2, 1) := by decide +kernel
theorem d_Jx4a65c_grow_92f84_7 : decode prog_28_method_6_code 7 = .ok (.ifCond .gt 13, 3) := by decide +kernel
theorem d_Jx4a65c_grow_92f84_10 : decode prog_28_method_6_code 10 = .ok (.aload_n 0, 1) := by decide +kernel
theorem d_Jx4a65c_grow_92f84_11 : decode prog_28_method_6_code 11 = .ok (.getfield 9, 3) := by decide +kernel
theorem d_Jx4a65c_grow_92f84_14 : decode prog_28_method_6_code 14 = .ok (.getstatic 39, 3) := by decide +kernel
theorem d_Jx4a65c_grow_92f84_17 : decode prog_28_method_6_code 17 = .ok (.if_acmp .eq 28, 3) := by decide +kernel
theorem d_Jx4a65c_grow_92f84_20 : decode prog_28_method_6_code 20 = .ok (.iload_n 2, 1) := by decide +kernel
theorem d_Jx4a65c_grow_92f84_21 : decode prog_28_method_6_code 21 = .ok (.iload_n 1, 1) := by decide +kernel
theorem d_Jx4a65c_grow_92f84_22 : decode prog_28_method_6_code 22 = .ok (.iload_n 2, 1) := by decide +kernel
theorem d_Jx4a65c_grow_92f84_23 : decode prog_28_method_6_code 23 = .ok (.isub, 1) := by decide +kernel
theorem d_Jx4a65c_grow_92f84_24 : decode prog_28_method_6_code 24 = .ok (.iload_n 2, 1) := by decide +kernel
theorem d_Jx4a65c_grow_92f84_25 : decode prog_28_method_6_code 25 = .ok (.iconst 1, 1) := by decide +kernel
theorem d_Jx4a65c_grow_92f84_26 : decode prog_28_method_6_code 26 = .ok (.ishr, 1) := by decide +kernel
theorem d_Jx4a65c_grow_92f84_27 : decode prog_28_method_6_code 27 = .ok (.invokestatic 73, 3) := by decide +kernel
theorem d_Jx4a65c_grow_92f84_30 : decode prog_28_method_6_code 30 = .ok (.istore_n 3, 1) := by decide +kernel
theorem d_Jx4a65c_grow_92f84_31 : decode prog_28_method_6_code 31 = .ok (.aload_n 0, 1) := by decide +kernel
theorem d_Jx4a65c_grow_92f84_32 : decode prog_28_method_6_code 32 = .ok (.aload_n 0, 1) := by decide +kernel
theorem d_Jx4a65c_grow_92f84_33 : decode prog_28_method_6_code 33 = .ok (.getfield 9, 3) := by decide +kernel
theorem d_Jx4a65c_grow_92f84_36 : decode prog_28_method_6_code 36 = .ok (.iload_n 3, 1) := by decide +kernel
theorem d_Jx4a65c_grow_92f84_37 : decode prog_28_method_6_code 37 = .ok (.invokestatic 66, 3) := by decide +kernel
theorem d_Jx4a65c_grow_92f84_40 : decode prog_28_method_6_code 40 = .ok (.dup_x1, 1) := by decide +kernel
theorem d_Jx4a65c_grow_92f84_41 : decode prog_28_method_6_code 41 = .ok (.putfield 9, 3) := by decide +kernel
theorem d_Jx4a65c_grow_92f84_44 : decode prog_28_method_6_code 44 = .ok (.areturn, 1) := by decide +kernel
theorem d_Jx4a65c_grow_92f84_45 : decode prog_28_method_6_code 45 = .ok (.aload_n 0, 1) := by decide +kernel
theorem d_Jx4a65c_grow_92f84_46 : decode prog_28_method_6_code 46 = .ok (.bipush 10, 2) := by decide +kernel
theorem d_Jx4a65c_grow_92f84_48 : decode prog_28_method_6_code 48 = .ok (.iload_n 1, 1) := by decide +kernel
theorem d_Jx4a65c_grow_92f84_49 : decode prog_28_method_6_code 49 = .ok (.invokestatic 79, 3) := by decide +kernel
theorem d_Jx4a65c_grow_92f84_52 : decode prog_28_method_6_code 52 = .ok (.anewarray 7, 3) := by decide +kernel
theorem d_Jx4a65c_grow_92f84_55 : decode prog_28_method_6_code 55 = .ok (.dup_x1, 1) := by decide +kernel
theorem d_Jx4a65c_grow_92f84_56 : decode prog_28_method_6_code 56 = .ok (.putfield 9, 3) := by decide +kernel
theorem d_Jx4a65c_grow_92f84_59 : decode prog_28_method_6_code 59 = .ok (.areturn, 1) := by decide +kernel
abbrev Y_Jx4a65c_grow_d5877 : Yx := (⟨"java/util/ArrayList", "grow", "()[Ljava/lang/Object;"⟩, prog_28_method_7_code, 1, (some (.array (.object "java/lang/Object"))))
abbrev M_Jx4a65c_grow_d5877 : Mx := ("java/util/ArrayList", prog_28_method_7_code, 1, false)
theorem yk_Jx4a65c_grow_d5877 : Yk Y_Jx4a65c_grow_d5877 0 := ⟨by decide +kernel, by decide +kernel, ⟨by decide, by decide⟩, by decide +kernel, by decide, trivial⟩
theorem d_Jx4a65c_grow_d5877_0 : decode prog_28_method_7_code 0 = .ok (.aload_n 0, 1) := by decide +kernel
theorem d_Jx4a65c_grow_d5877_1 : decode prog_28_method_7_code 1 = .ok (.aload_n 0, 1) := by decide +kernel
theorem d_Jx4a65c_grow_d5877_2 : decode prog_28_method_7_code 2 = .ok (.getfield 48, 3) := by decide +kernel
theorem d_Jx4a65c_grow_d5877_5 : decode prog_28_method_7_code 5 = .ok (.iconst 1, 1) := by decide +kernel
theorem d_Jx4a65c_grow_d5877_6 : decode prog_28_method_7_code 6 = .ok (.iadd, 1) := by decide +kernel
theorem d_Jx4a65c_grow_d5877_7 : decode prog_28_method_7_code 7 = .ok (.invokevirtual 69, 3) := by decide +kernel
theorem d_Jx4a65c_grow_d5877_10 : decode prog_28_method_7_code 10 = .ok (.areturn, 1) := by decide +kernel
abbrev Y_Jx4a65c_add_72be8 : Yx := (⟨"java/util/ArrayList", "add", "(Ljava/lang/Object;[Ljava/lang/Object;I)V"⟩, prog_28_method_24_code, 4, none)
abbrev M_Jx4a65c_add_72be8 : Mx := ("java/util/ArrayList", prog_28_method_24_code, 4, false)
theorem yk_Jx4a65c_add_72be8 : Yk Y_Jx4a65c_add_72be8 3 := ⟨by decide +kernel, by decide +kernel, ⟨by decide, by decide⟩, by decide +kernel, by decide, trivial⟩
theorem d_Jx4a65c_add_72be8_0 : decode prog_28_method_24_code 0 = .ok (.iload_n 3, 1) := by decide +kernel
theorem d_Jx4a65c_add_72be8_1 : decode prog_28_method_24_code 1 = .ok (.aload_n 2, 1) := by decide +kernel
theorem d_Jx4a65c_add_72be8_2 : decode prog_28_method_24_code 2 = .ok (.arraylength, 1) := by decide +kernel
theorem d_Jx4a65c_add_72be8_3 : decode prog_28_method_24_code 3 = .ok (.if_icmp .ne 8, 3) := by decide +kernel
theorem d_Jx4a65c_add_72be8_6 : decode prog_28_method_24_code 6 = .ok (.aload_n 0, 1) := by decide +kernel
theorem d_Jx4a65c_add_72be8_7 : decode prog_28_method_24_code 7 = .ok (.invokevirtual 129, 3) := by decide +kernel
theorem d_Jx4a65c_add_72be8_10 : decode prog_28_method_24_code 10 = .ok (.astore_n 2, 1) := by decide +kernel
theorem d_Jx4a65c_add_72be8_11 : decode prog_28_method_24_code 11 = .ok (.aload_n 2, 1) := by decide +kernel
theorem d_Jx4a65c_add_72be8_12 : decode prog_28_method_24_code 12 = .ok (.iload_n 3, 1) := by decide +kernel
theorem d_Jx4a65c_add_72be8_13 : decode prog_28_method_24_code 13 = .ok (.aload_n 1, 1) := by decide +kernel
theorem d_Jx4a65c_add_72be8_14 : decode prog_28_method_24_code 14 = .ok (.aastore, 1) := by decide +kernel
theorem d_Jx4a65c_add_72be8_15 : decode prog_28_method_24_code 15 = .ok (.aload_n 0, 1) := by decide +kernel
theorem d_Jx4a65c_add_72be8_16 : decode prog_28_method_24_code 16 = .ok (.iload_n 3, 1) := by decide +kernel
theorem d_Jx4a65c_add_72be8_17 : decode prog_28_method_24_code 17 = .ok (.iconst 1, 1) := by decide +kernel
theorem d_Jx4a65c_add_72be8_18 : decode prog_28_method_24_code 18 = .ok (.iadd, 1) := by decide +kernel
theorem d_Jx4a65c_add_72be8_19 : decode prog_28_method_24_code 19 = .ok (.putfield 48, 3) := by decide +kernel
theorem d_Jx4a65c_add_72be8_22 : decode prog_28_method_24_code 22 = .ok (.return_, 1) := by decide +kernel
abbrev Y_Jx4a65c_add_9ea2d : Yx := (⟨"java/util/ArrayList", "add", "(Ljava/lang/Object;)Z"⟩, prog_28_method_25_code, 2, (some .boolean))
abbrev M_Jx4a65c_add_9ea2d : Mx := ("java/util/ArrayList", prog_28_method_25_code, 2, false)
theorem yk_Jx4a65c_add_9ea2d : Yk Y_Jx4a65c_add_9ea2d 1 := ⟨by decide +kernel, by decide +kernel, ⟨by decide, by decide⟩, by decide +kernel, by decide, trivial⟩
theorem d_Jx4a65c_add_9ea2d_0 : decode prog_28_method_25_code 0 = .ok (.aload_n 0, 1) := by decide +kernel
theorem d_Jx4a65c_add_9ea2d_1 : decode prog_28_method_25_code 1 = .ok (.dup, 1) := by decide +kernel
theorem d_Jx4a65c_add_9ea2d_2 : decode prog_28_method_25_code 2 = .ok (.getfield 63, 3) := by decide +kernel
theorem d_Jx4a65c_add_9ea2d_5 : decode prog_28_method_25_code 5 = .ok (.iconst 1, 1) := by decide +kernel
theorem d_Jx4a65c_add_9ea2d_6 : decode prog_28_method_25_code 6 = .ok (.iadd, 1) := by decide +kernel
theorem d_Jx4a65c_add_9ea2d_7 : decode prog_28_method_25_code 7 = .ok (.putfield 63, 3) := by decide +kernel
theorem d_Jx4a65c_add_9ea2d_10 : decode prog_28_method_25_code 10 = .ok (.aload_n 0, 1) := by decide +kernel
theorem d_Jx4a65c_add_9ea2d_11 : decode prog_28_method_25_code 11 = .ok (.aload_n 1, 1) := by decide +kernel
theorem d_Jx4a65c_add_9ea2d_12 : decode prog_28_method_25_code 12 = .ok (.aload_n 0, 1) := by decide +kernel
theorem d_Jx4a65c_add_9ea2d_13 : decode prog_28_method_25_code 13 = .ok (.getfield 9, 3) := by decide +kernel
theorem d_Jx4a65c_add_9ea2d_16 : decode prog_28_method_25_code 16 = .ok (.aload_n 0, 1) := by decide +kernel
theorem d_Jx4a65c_add_9ea2d_17 : decode prog_28_method_25_code 17 = .ok (.getfield 48, 3) := by decide +kernel
theorem d_Jx4a65c_add_9ea2d_20 : decode prog_28_method_25_code 20 = .ok (.invokevirtual 131, 3) := by decide +kernel
theorem d_Jx4a65c_add_9ea2d_23 : decode prog_28_method_25_code 23 = .ok (.iconst 1, 1) := by decide +kernel
theorem d_Jx4a65c_add_9ea2d_24 : decode prog_28_method_25_code 24 = .ok (.ireturn, 1) := by decide +kernel
def f_X11_isReplica (l0 : Nat) (l1 : Int32) (l2 : Int32) (h : Hp) : Option (Int32 × Hp) := (f_X11_in (l1) ((4 : Int32)) (h)).bind (fun q1 => if (q1.1) = (0) then (some ((0 : Int32), q1.2)) else (ck (isO (q1.2) (l0) 12) ((f_X11_in (l1) ((4 : Int32)) (q1.2)).bind (fun q4 => if (q4.1) = (0) then (ck (isO (q4.2) (zR (q1.2) 1236 (l0)) 22) (ck (inR ((0 : Int32)) (zL (q4.2) (zR (q1.2) 1236 (l0)))) ((f_X11_in (l2) (zE (q4.2) (zR (q1.2) 1236 (l0)) ((0 : Int32)).toNatClampNeg) (q4.2)).bind (fun q8 => if (q8.1) = (0) then (some ((0 : Int32), q8.2)) else (some ((1 : Int32), q8.2)))))) else (ck (isO (q4.2) (zR (q1.2) 1236 (l0)) 22) (ck (inR (l1) (zL (q4.2) (zR (q1.2) 1236 (l0)))) ((f_X11_in (l2) (zE (q4.2) (zR (q1.2) 1236 (l0)) (l1).toNatClampNeg) (q4.2)).bind (fun q12 => if (q12.1) = (0) then (some ((0 : Int32), q12.2)) else (some ((1 : Int32), q12.2))))))))))
theorem f_X11_isReplica_ok {G : Gd} {d : Nat} (hj : 2 ≤ d) : ∀ (l0 : Nat) (l1 : Int32) (l2 : Int32) (L : List (Nat × Value)) (h : Hp) (o : (Int32 × Hp)), zlk L 0 = some (zrf (l0)) → zlk L 1 = some (.int (l1)) → zlk L 2 = some (.int (l2)) → f_X11_isReplica l0 l1 l2 h = some o → Ev G M_X11_isReplica d 0 L [] h (Ret Y_X11_isReplica (some (.int o.1)) o.2) := by
  intro l0 l1 l2 L h o g0 g1 g2 e
  unfold f_X11_isReplica at e
  refine r_iload_n d_X11_isReplica_0 rfl g1 ?_
  refine r_iconst d_X11_isReplica_1 (v := (4 : Int32)) (by decide +kernel) ?_
  replace e := bd e
  obtain ⟨q1, eq1, e⟩ := e
  refine g_callS d_X11_isReplica_2 sk_10_230 (as := [_, _]) rfl rfl (by simp [zrf_cat, cat_int, cat_long]) (j := 1) (by omega) (c_X11_in (by omega) eq1) ?_
  refine r_if_eq d_X11_isReplica_5 (tgt := 37) (by decide) (fun c2 => ?_) (fun c2 => ?_)
  · replace e := (if_pos c2).symm.trans e
    refine r_iconst d_X11_isReplica_37 (v := (0 : Int32)) (by decide +kernel) ?_
    obtain rfl := Option.some.inj e
    exact g_iret d_X11_isReplica_38 rfl rfl
  · replace e := (if_neg c2).symm.trans e
    refine r_iload_n d_X11_isReplica_8 rfl g2 ?_
    refine g_ald_n d_X11_isReplica_9 rfl g0 ?_
    replace e := ckd e
    obtain ⟨k3, e⟩ := e
    refine g_getR d_X11_isReplica_10 (f := 1236) k3 fk_10_98 rfl rfl ?_
    refine r_iload_n d_X11_isReplica_13 rfl g1 ?_
    refine r_iconst d_X11_isReplica_14 (v := (4 : Int32)) (by decide +kernel) ?_
    replace e := bd e
    obtain ⟨q4, eq4, e⟩ := e
    refine g_callS d_X11_isReplica_15 sk_10_230 (as := [_, _]) rfl rfl (by simp [zrf_cat, cat_int, cat_long]) (j := 1) (by omega) (c_X11_in (by omega) eq4) ?_
    refine r_if_eq d_X11_isReplica_18 (tgt := 25) (by decide) (fun c5 => ?_) (fun c5 => ?_)
    · replace e := (if_pos c5).symm.trans e
      refine r_iconst d_X11_isReplica_25 (v := (0 : Int32)) (by decide +kernel) ?_
      replace e := ckd e
      obtain ⟨k6, e⟩ := e
      replace e := ckd e
      obtain ⟨k7, e⟩ := e
      refine g_iald d_X11_isReplica_26 k6 k7 rfl ?_
      replace e := bd e
      obtain ⟨q8, eq8, e⟩ := e
      refine g_callS d_X11_isReplica_27 sk_10_230 (as := [_, _]) rfl rfl (by simp [zrf_cat, cat_int, cat_long]) (j := 1) (by omega) (c_X11_in (by omega) eq8) ?_
      refine r_if_eq d_X11_isReplica_30 (tgt := 37) (by decide) (fun c9 => ?_) (fun c9 => ?_)
      · replace e := (if_pos c9).symm.trans e
        refine r_iconst d_X11_isReplica_37 (v := (0 : Int32)) (by decide +kernel) ?_
        obtain rfl := Option.some.inj e
        exact g_iret d_X11_isReplica_38 rfl rfl
      · replace e := (if_neg c9).symm.trans e
        refine r_iconst d_X11_isReplica_33 (v := (1 : Int32)) (by decide +kernel) ?_
        refine r_goto d_X11_isReplica_34 (tgt := 38) (by decide) ?_
        obtain rfl := Option.some.inj e
        exact g_iret d_X11_isReplica_38 rfl rfl
    · replace e := (if_neg c5).symm.trans e
      refine r_iload_n d_X11_isReplica_21 rfl g1 ?_
      refine r_goto d_X11_isReplica_22 (tgt := 26) (by decide) ?_
      replace e := ckd e
      obtain ⟨k10, e⟩ := e
      replace e := ckd e
      obtain ⟨k11, e⟩ := e
      refine g_iald d_X11_isReplica_26 k10 k11 rfl ?_
      replace e := bd e
      obtain ⟨q12, eq12, e⟩ := e
      refine g_callS d_X11_isReplica_27 sk_10_230 (as := [_, _]) rfl rfl (by simp [zrf_cat, cat_int, cat_long]) (j := 1) (by omega) (c_X11_in (by omega) eq12) ?_
      refine r_if_eq d_X11_isReplica_30 (tgt := 37) (by decide) (fun c13 => ?_) (fun c13 => ?_)
      · replace e := (if_pos c13).symm.trans e
        refine r_iconst d_X11_isReplica_37 (v := (0 : Int32)) (by decide +kernel) ?_
        obtain rfl := Option.some.inj e
        exact g_iret d_X11_isReplica_38 rfl rfl
      · replace e := (if_neg c13).symm.trans e
        refine r_iconst d_X11_isReplica_33 (v := (1 : Int32)) (by decide +kernel) ?_
        refine r_goto d_X11_isReplica_34 (tgt := 38) (by decide) ?_
        obtain rfl := Option.some.inj e
        exact g_iret d_X11_isReplica_38 rfl rfl

theorem c_X11_isReplica {G : Gd} {j : Nat} (hj : 2 ≤ j) {l0 : Nat} {l1 : Int32} {l2 : Int32} {h : Hp} {o : (Int32 × Hp)} (e : f_X11_isReplica l0 l1 l2 h = some o) : Cal G j Y_X11_isReplica [zrf (l0), .int (l1), .int (l2)] h (some (.int o.1)) o.2 := Cal.of (n := 0) (I := false) (by first | exact Or.inl (by decide +kernel) | exact Or.inr (by decide +kernel)) (by decide) (by simp [lg_sl, zrf_cat, cat_int, cat_long]) (f_X11_isReplica_ok hj _ _ _ _ h o (by simp [lv_args, zlk, zrf_cat, cat_int, cat_long]) (by simp [lv_args, zlk, zrf_cat, cat_int, cat_long]) (by simp [lv_args, zlk, zrf_cat, cat_int, cat_long]) e)
theorem vk_10_441 : Vk "TaskWeaveModel" 441 2 12 Y_X11_isReplica := ⟨yk_X11_isReplica, by decide +kernel, by decide +kernel, by decide +kernel, by decide⟩
def f_X11_power (l0 : Nat) (l1 : Int32) (l2 : Int32) (l3 : Int32) (h : Hp) : Option (Int32 × Hp) := ck (isO (h) (l0) 12) (bh (pI (h) 1200 (l0) ((0 : Int32))) (fun h2 => (f_X11_isReplica (l0) (l1) (l2) (h2)).bind (fun q3 => if (q3.1) = (0) then (some ((0 : Int32), q3.2)) else (ck (isO (q3.2) (l0) 12) (ck (isO (q3.2) (zR (q3.2) 1234 (l0)) 23) (ck (inR ((((5 : Int32)) * (l1)) + (l2)) (zL (q3.2) (zR (q3.2) 1234 (l0)))) (if (zE (q3.2) (zR (q3.2) 1234 (l0)) ((((5 : Int32)) * (l1)) + (l2)).toNatClampNeg) = (l3) then (some ((0 : Int32), q3.2)) else (bh ((((5 : Int32)) * (l1)) + (l2)) (fun x9 => if (l3) = (0) then ((f_X11_down (l0) (x9) (q3.2)).bind (fun q21 => ck (isO (q21) (l0) 12) (ck (isO (q21) (zR (q21) 1237 (l0)) 22) (ck (inR (l1) (zL (q21) (zR (q21) 1237 (l0)))) (if (zE (q21) (zR (q21) 1237 (l0)) (l1).toNatClampNeg) = (l2) then ((f_losesD 30 (l0) (l1) (q21)).bind (fun q26 => some ((1 : Int32), q26))) else (if (zE (q21) (zR (q21) 1237 (l0)) (l1).toNatClampNeg) = ((-1 : Int32)) then (some ((1 : Int32), q21)) else ((f_X11_ups (l0) (l1) (q21)).bind (fun q28 => ck (isO (q28.2) (l0) 12) (ck (isO (q28.2) (zR (q28.2) 1236 (l0)) 22) (ck (inR (l1) (zL (q28.2) (zR (q28.2) 1236 (l0)))) (if (zE (q28.2) (zR (q28.2) 1236 (l0)) (l1).toNatClampNeg) < (((2 : Int32)) * (q28.1)) then (some ((1 : Int32), q28.2)) else ((f_losesD 30 (l0) (l1) (q28.2)).bind (fun q33 => some ((1 : Int32), q33)))))))))))))) else (ck (inR (x9) (zL (q3.2) (zR (q3.2) 1234 (l0)))) (bh (pE (q3.2) (zR (q3.2) 1234 (l0)) (x9).toNatClampNeg ((((1 : Int32)) &&& 1))) (fun h12 => ck (isO (h12) (zR (h12) 1232 (l0)) 22) (ck (inR (x9) (zL (h12) (zR (h12) 1232 (l0)))) (bh (pE (h12) (zR (h12) 1232 (l0)) (x9).toNatClampNeg ((0 : Int32))) (fun h15 => ck (isO (h15) (zR (h15) 1237 (l0)) 22) (ck (inR (l1) (zL (h15) (zR (h15) 1237 (l0)))) (if (zE (h15) (zR (h15) 1237 (l0)) (l1).toNatClampNeg) = ((-1 : Int32)) then ((f_losesD 30 (l0) (l1) (h15)).bind (fun q19 => some ((1 : Int32), q19))) else ((f_X11_makeAlike (l0) (x9) ((((5 : Int32)) * (l1)) + (zE (h15) (zR (h15) 1237 (l0)) (l1).toNatClampNeg)) (h15)).bind (fun q20 => some ((1 : Int32), q20))))))))))))))))))))
theorem f_X11_power_ok {G : Gd} {d : Nat} (hj : 641 ≤ d) : ∀ (l0 : Nat) (l1 : Int32) (l2 : Int32) (l3 : Int32) (L : List (Nat × Value)) (h : Hp) (o : (Int32 × Hp)), zlk L 0 = some (zrf (l0)) → zlk L 1 = some (.int (l1)) → zlk L 2 = some (.int (l2)) → zlk L 3 = some (.int (l3)) → f_X11_power l0 l1 l2 l3 h = some o → Ev G M_X11_power d 0 L [] h (Ret Y_X11_power (some (.int o.1)) o.2) := by
  intro l0 l1 l2 l3 L h o g0 g1 g2 g3 e
  unfold f_X11_power at e
  refine g_ald_n d_X11_power_0 rfl g0 ?_
  refine r_iconst d_X11_power_1 (v := (0 : Int32)) (by decide +kernel) ?_
  replace e := ckd e
  obtain ⟨k1, e⟩ := e
  refine g_putI d_X11_power_2 (f := 1200) k1 fk_10_183 rfl (Or.inl rfl) ⟨rfl, rfl⟩ ?_
  replace e := bhd e
  obtain ⟨_, rfl, e⟩ := e
  refine g_ald_n d_X11_power_5 rfl g0 ?_
  refine r_iload_n d_X11_power_6 rfl g1 ?_
  refine r_iload_n d_X11_power_7 rfl g2 ?_
  replace e := bd e
  obtain ⟨q3, eq3, e⟩ := e
  refine g_callV d_X11_power_8 vk_10_441 (as := [_, _]) rfl (tO_pI k1) rfl (by simp [zrf_cat, cat_int, cat_long]) (j := 2) (by omega) (c_X11_isReplica (by omega) eq3) ?_
  refine r_if_eq d_X11_power_11 (tgt := 28) (by decide) (fun c4 => ?_) (fun c4 => ?_)
  · replace e := (if_pos c4).symm.trans e
    refine r_iconst d_X11_power_28 (v := (0 : Int32)) (by decide +kernel) ?_
    obtain rfl := Option.some.inj e
    exact g_iret d_X11_power_29 rfl rfl
  · replace e := (if_neg c4).symm.trans e
    refine g_ald_n d_X11_power_14 rfl g0 ?_
    replace e := ckd e
    obtain ⟨k5, e⟩ := e
    refine g_getR d_X11_power_15 (f := 1234) k5 fk_10_92 rfl rfl ?_
    refine r_iconst d_X11_power_18 (v := (5 : Int32)) (by decide +kernel) ?_
    refine r_iload_n d_X11_power_19 rfl g1 ?_
    refine r_imul d_X11_power_20 ?_
    refine r_iload_n d_X11_power_21 rfl g2 ?_
    refine r_iadd d_X11_power_22 ?_
    replace e := ckd e
    obtain ⟨k6, e⟩ := e
    replace e := ckd e
    obtain ⟨k7, e⟩ := e
    refine g_zald d_X11_power_23 k6 k7 rfl ?_
    refine r_iload_n d_X11_power_24 rfl g3 ?_
    refine r_icmp_ne d_X11_power_25 (tgt := 30) (by decide) (fun c8 => ?_) (fun c8 => ?_)
    · replace e := (if_neg c8).symm.trans e
      refine r_iconst d_X11_power_30 (v := (5 : Int32)) (by decide +kernel) ?_
      refine r_iload_n d_X11_power_31 rfl g1 ?_
      refine r_imul d_X11_power_32 ?_
      refine r_iload_n d_X11_power_33 rfl g2 ?_
      refine r_iadd d_X11_power_34 ?_
      replace e := bhd e
      obtain ⟨_, rfl, e⟩ := e
      refine s_istore d_X11_power_35 (by decide) (fun L g4 gK => ?_)
      replace g0 := gK _ _ (by decide) (Or.inr (zrf_cat _)) g0
      replace g1 := gK _ _ (by decide) (Or.inr rfl) g1
      replace g2 := gK _ _ (by decide) (Or.inr rfl) g2
      replace g3 := gK _ _ (by decide) (Or.inr rfl) g3
      refine r_iload_n d_X11_power_37 rfl g3 ?_
      refine r_if_ne d_X11_power_38 (tgt := 90) (by decide) (fun c10 => ?_) (fun c10 => ?_)
      · replace e := (if_neg c10).symm.trans e
        refine g_ald_n d_X11_power_90 rfl g0 ?_
        refine g_getR d_X11_power_91 (f := 1234) k5 fk_10_92 rfl rfl ?_
        refine r_iload d_X11_power_94 g4 ?_
        refine r_iconst d_X11_power_96 (v := (1 : Int32)) (by decide +kernel) ?_
        replace e := ckd e
        obtain ⟨k11, e⟩ := e
        refine g_zast d_X11_power_97 k6 k11 ?_
        replace e := bhd e
        obtain ⟨_, rfl, e⟩ := e
        refine g_ald_n d_X11_power_98 rfl g0 ?_
        refine g_getR d_X11_power_99 (f := 1232) (tO_pE k5) fk_10_86 rfl rfl ?_
        refine r_iload d_X11_power_102 g4 ?_
        refine r_iconst d_X11_power_104 (v := (0 : Int32)) (by decide +kernel) ?_
        replace e := ckd e
        obtain ⟨k13, e⟩ := e
        replace e := ckd e
        obtain ⟨k14, e⟩ := e
        refine g_iast d_X11_power_105 k13 k14 ?_
        replace e := bhd e
        obtain ⟨_, rfl, e⟩ := e
        refine g_ald_n d_X11_power_106 rfl g0 ?_
        refine g_getR d_X11_power_107 (f := 1237) (tO_pE (tO_pE k5)) fk_10_101 rfl rfl ?_
        refine r_iload_n d_X11_power_110 rfl g1 ?_
        replace e := ckd e
        obtain ⟨k16, e⟩ := e
        replace e := ckd e
        obtain ⟨k17, e⟩ := e
        refine g_iald d_X11_power_111 k16 k17 rfl ?_
        refine r_iconst d_X11_power_112 (v := (-1 : Int32)) (by decide +kernel) ?_
        refine r_icmp_eq d_X11_power_113 (tgt := 135) (by decide) (fun c18 => ?_) (fun c18 => ?_)
        · replace e := (if_pos c18).symm.trans e
          refine g_ald_n d_X11_power_135 rfl g0 ?_
          refine r_iload_n d_X11_power_136 rfl g1 ?_
          replace e := bd e
          obtain ⟨q19, eq19, e⟩ := e
          refine g_callV d_X11_power_137 vk_10_262 (as := [_]) rfl (tO_pE (tO_pE k5)) rfl (by simp [zrf_cat, cat_int, cat_long]) (j := 640) (by omega) (c_losesD 30 (by omega) eq19) ?_
          refine r_iconst d_X11_power_140 (v := (1 : Int32)) (by decide +kernel) ?_
          obtain rfl := Option.some.inj e
          exact g_iret d_X11_power_141 rfl rfl
        · replace e := (if_neg c18).symm.trans e
          refine g_ald_n d_X11_power_116 rfl g0 ?_
          refine r_iload d_X11_power_117 g4 ?_
          refine r_iconst d_X11_power_119 (v := (5 : Int32)) (by decide +kernel) ?_
          refine r_iload_n d_X11_power_120 rfl g1 ?_
          refine r_imul d_X11_power_121 ?_
          refine g_ald_n d_X11_power_122 rfl g0 ?_
          refine g_getR d_X11_power_123 (f := 1237) (tO_pE (tO_pE k5)) fk_10_101 rfl rfl ?_
          refine r_iload_n d_X11_power_126 rfl g1 ?_
          refine g_iald d_X11_power_127 k16 k17 rfl ?_
          refine r_iadd d_X11_power_128 ?_
          replace e := bd e
          obtain ⟨q20, eq20, e⟩ := e
          refine g_callV d_X11_power_129 vk_10_277 (as := [_, _]) rfl (tO_pE (tO_pE k5)) rfl (by simp [zrf_cat, cat_int, cat_long]) (j := 3) (by omega) (c_X11_makeAlike (by omega) eq20) ?_
          refine r_goto d_X11_power_132 (tgt := 140) (by decide) ?_
          refine r_iconst d_X11_power_140 (v := (1 : Int32)) (by decide +kernel) ?_
          obtain rfl := Option.some.inj e
          exact g_iret d_X11_power_141 rfl rfl
      · replace e := (if_pos c10).symm.trans e
        refine g_ald_n d_X11_power_41 rfl g0 ?_
        refine r_iload d_X11_power_42 g4 ?_
        replace e := bd e
        obtain ⟨q21, eq21, e⟩ := e
        refine g_callV d_X11_power_44 vk_10_247 (as := [_]) rfl k5 rfl (by simp [zrf_cat, cat_int, cat_long]) (j := 1) (by omega) (c_X11_down (by omega) eq21) ?_
        refine g_ald_n d_X11_power_47 rfl g0 ?_
        replace e := ckd e
        obtain ⟨k22, e⟩ := e
        refine g_getR d_X11_power_48 (f := 1237) k22 fk_10_101 rfl rfl ?_
        refine r_iload_n d_X11_power_51 rfl g1 ?_
        replace e := ckd e
        obtain ⟨k23, e⟩ := e
        replace e := ckd e
        obtain ⟨k24, e⟩ := e
        refine g_iald d_X11_power_52 k23 k24 rfl ?_
        refine r_iload_n d_X11_power_53 rfl g2 ?_
        refine r_icmp_eq d_X11_power_54 (tgt := 83) (by decide) (fun c25 => ?_) (fun c25 => ?_)
        · replace e := (if_pos c25).symm.trans e
          refine g_ald_n d_X11_power_83 rfl g0 ?_
          refine r_iload_n d_X11_power_84 rfl g1 ?_
          replace e := bd e
          obtain ⟨q26, eq26, e⟩ := e
          refine g_callV d_X11_power_85 vk_10_262 (as := [_]) rfl k22 rfl (by simp [zrf_cat, cat_int, cat_long]) (j := 640) (by omega) (c_losesD 30 (by omega) eq26) ?_
          refine r_iconst d_X11_power_88 (v := (1 : Int32)) (by decide +kernel) ?_
          obtain rfl := Option.some.inj e
          exact g_iret d_X11_power_89 rfl rfl
        · replace e := (if_neg c25).symm.trans e
          refine g_ald_n d_X11_power_57 rfl g0 ?_
          refine g_getR d_X11_power_58 (f := 1237) k22 fk_10_101 rfl rfl ?_
          refine r_iload_n d_X11_power_61 rfl g1 ?_
          refine g_iald d_X11_power_62 k23 k24 rfl ?_
          refine r_iconst d_X11_power_63 (v := (-1 : Int32)) (by decide +kernel) ?_
          refine r_icmp_eq d_X11_power_64 (tgt := 88) (by decide) (fun c27 => ?_) (fun c27 => ?_)
          · replace e := (if_pos c27).symm.trans e
            refine r_iconst d_X11_power_88 (v := (1 : Int32)) (by decide +kernel) ?_
            obtain rfl := Option.some.inj e
            exact g_iret d_X11_power_89 rfl rfl
          · replace e := (if_neg c27).symm.trans e
            refine r_iconst d_X11_power_67 (v := (2 : Int32)) (by decide +kernel) ?_
            refine g_ald_n d_X11_power_68 rfl g0 ?_
            refine r_iload_n d_X11_power_69 rfl g1 ?_
            replace e := bd e
            obtain ⟨q28, eq28, e⟩ := e
            refine g_callV d_X11_power_70 vk_10_265 (as := [_]) rfl k22 rfl (by simp [zrf_cat, cat_int, cat_long]) (j := 1) (by omega) (c_X11_ups (by omega) eq28) ?_
            refine r_imul d_X11_power_73 ?_
            refine g_ald_n d_X11_power_74 rfl g0 ?_
            replace e := ckd e
            obtain ⟨k29, e⟩ := e
            refine g_getR d_X11_power_75 (f := 1236) k29 fk_10_98 rfl rfl ?_
            refine r_iload_n d_X11_power_78 rfl g1 ?_
            replace e := ckd e
            obtain ⟨k30, e⟩ := e
            replace e := ckd e
            obtain ⟨k31, e⟩ := e
            refine g_iald d_X11_power_79 k30 k31 rfl ?_
            refine r_icmp_gt d_X11_power_80 (tgt := 88) (by decide) (fun c32 => ?_) (fun c32 => ?_)
            · replace e := (if_pos c32).symm.trans e
              refine r_iconst d_X11_power_88 (v := (1 : Int32)) (by decide +kernel) ?_
              obtain rfl := Option.some.inj e
              exact g_iret d_X11_power_89 rfl rfl
            · replace e := (if_neg c32).symm.trans e
              refine g_ald_n d_X11_power_83 rfl g0 ?_
              refine r_iload_n d_X11_power_84 rfl g1 ?_
              replace e := bd e
              obtain ⟨q33, eq33, e⟩ := e
              refine g_callV d_X11_power_85 vk_10_262 (as := [_]) rfl k29 rfl (by simp [zrf_cat, cat_int, cat_long]) (j := 640) (by omega) (c_losesD 30 (by omega) eq33) ?_
              refine r_iconst d_X11_power_88 (v := (1 : Int32)) (by decide +kernel) ?_
              obtain rfl := Option.some.inj e
              exact g_iret d_X11_power_89 rfl rfl
    · replace e := (if_pos c8).symm.trans e
      refine r_iconst d_X11_power_28 (v := (0 : Int32)) (by decide +kernel) ?_
      obtain rfl := Option.some.inj e
      exact g_iret d_X11_power_29 rfl rfl

theorem c_X11_power {G : Gd} {j : Nat} (hj : 641 ≤ j) {l0 : Nat} {l1 : Int32} {l2 : Int32} {l3 : Int32} {h : Hp} {o : (Int32 × Hp)} (e : f_X11_power l0 l1 l2 l3 h = some o) : Cal G j Y_X11_power [zrf (l0), .int (l1), .int (l2), .int (l3)] h (some (.int o.1)) o.2 := Cal.of (n := 0) (I := false) (by first | exact Or.inl (by decide +kernel) | exact Or.inr (by decide +kernel)) (by decide) (by simp [lg_sl, zrf_cat, cat_int, cat_long]) (f_X11_power_ok hj _ _ _ _ _ h o (by simp [lv_args, zlk, zrf_cat, cat_int, cat_long]) (by simp [lv_args, zlk, zrf_cat, cat_int, cat_long]) (by simp [lv_args, zlk, zrf_cat, cat_int, cat_long]) (by simp [lv_args, zlk, zrf_cat, cat_int, cat_long]) e)
def f_X11_fuse (l0 : Nat) (l1 : Int32) (l2 : Int32) (l3 : Int32) (h : Hp) : Option (Int32 × Hp) := ck (isO (h) (l0) 12) (bh (pI (h) 1200 (l0) ((0 : Int32))) (fun h2 => (f_X11_isReplica (l0) (l1) (l2) (h2)).bind (fun q3 => if (q3.1) = (0) then (some ((0 : Int32), q3.2)) else (ck (isO (q3.2) (l0) 12) (ck (isO (q3.2) (zR (q3.2) 1234 (l0)) 23) (ck (inR ((((5 : Int32)) * (l1)) + (l2)) (zL (q3.2) (zR (q3.2) 1234 (l0)))) (if (zE (q3.2) (zR (q3.2) 1234 (l0)) ((((5 : Int32)) * (l1)) + (l2)).toNatClampNeg) = (0) then (some ((0 : Int32), q3.2)) else (if (l3) < (0) then (some ((0 : Int32), q3.2)) else (if (l3) ≤ ((100000 : Int32)) then (ck (isO (q3.2) (zR (q3.2) 1235 (l0)) 22) (ck (inR ((((5 : Int32)) * (l1)) + (l2)) (zL (q3.2) (zR (q3.2) 1235 (l0)))) (bh (pE (q3.2) (zR (q3.2) 1235 (l0)) ((((5 : Int32)) * (l1)) + (l2)).toNatClampNeg (l3)) (fun h13 => some ((1 : Int32), h13))))) else (some ((0 : Int32), q3.2)))))))))))
theorem f_X11_fuse_ok {G : Gd} {d : Nat} (hj : 3 ≤ d) : ∀ (l0 : Nat) (l1 : Int32) (l2 : Int32) (l3 : Int32) (L : List (Nat × Value)) (h : Hp) (o : (Int32 × Hp)), zlk L 0 = some (zrf (l0)) → zlk L 1 = some (.int (l1)) → zlk L 2 = some (.int (l2)) → zlk L 3 = some (.int (l3)) → f_X11_fuse l0 l1 l2 l3 h = some o → Ev G M_X11_fuse d 0 L [] h (Ret Y_X11_fuse (some (.int o.1)) o.2) := by
  intro l0 l1 l2 l3 L h o g0 g1 g2 g3 e
  unfold f_X11_fuse at e
  refine g_ald_n d_X11_fuse_0 rfl g0 ?_
  refine r_iconst d_X11_fuse_1 (v := (0 : Int32)) (by decide +kernel) ?_
  replace e := ckd e
  obtain ⟨k1, e⟩ := e
  refine g_putI d_X11_fuse_2 (f := 1200) k1 fk_10_183 rfl (Or.inl rfl) ⟨rfl, rfl⟩ ?_
  replace e := bhd e
  obtain ⟨_, rfl, e⟩ := e
  refine g_ald_n d_X11_fuse_5 rfl g0 ?_
  refine r_iload_n d_X11_fuse_6 rfl g1 ?_
  refine r_iload_n d_X11_fuse_7 rfl g2 ?_
  replace e := bd e
  obtain ⟨q3, eq3, e⟩ := e
  refine g_callV d_X11_fuse_8 vk_10_441 (as := [_, _]) rfl (tO_pI k1) rfl (by simp [zrf_cat, cat_int, cat_long]) (j := 2) (by omega) (c_X11_isReplica (by omega) eq3) ?_
  refine r_if_eq d_X11_fuse_11 (tgt := 38) (by decide) (fun c4 => ?_) (fun c4 => ?_)
  · replace e := (if_pos c4).symm.trans e
    refine r_iconst d_X11_fuse_38 (v := (0 : Int32)) (by decide +kernel) ?_
    obtain rfl := Option.some.inj e
    exact g_iret d_X11_fuse_39 rfl rfl
  · replace e := (if_neg c4).symm.trans e
    refine g_ald_n d_X11_fuse_14 rfl g0 ?_
    replace e := ckd e
    obtain ⟨k5, e⟩ := e
    refine g_getR d_X11_fuse_15 (f := 1234) k5 fk_10_92 rfl rfl ?_
    refine r_iconst d_X11_fuse_18 (v := (5 : Int32)) (by decide +kernel) ?_
    refine r_iload_n d_X11_fuse_19 rfl g1 ?_
    refine r_imul d_X11_fuse_20 ?_
    refine r_iload_n d_X11_fuse_21 rfl g2 ?_
    refine r_iadd d_X11_fuse_22 ?_
    replace e := ckd e
    obtain ⟨k6, e⟩ := e
    replace e := ckd e
    obtain ⟨k7, e⟩ := e
    refine g_zald d_X11_fuse_23 k6 k7 rfl ?_
    refine r_if_eq d_X11_fuse_24 (tgt := 38) (by decide) (fun c8 => ?_) (fun c8 => ?_)
    · replace e := (if_pos c8).symm.trans e
      refine r_iconst d_X11_fuse_38 (v := (0 : Int32)) (by decide +kernel) ?_
      obtain rfl := Option.some.inj e
      exact g_iret d_X11_fuse_39 rfl rfl
    · replace e := (if_neg c8).symm.trans e
      refine r_iload_n d_X11_fuse_27 rfl g3 ?_
      refine r_if_lt d_X11_fuse_28 (tgt := 38) (by decide) (fun c9 => ?_) (fun c9 => ?_)
      · replace e := (if_pos c9).symm.trans e
        refine r_iconst d_X11_fuse_38 (v := (0 : Int32)) (by decide +kernel) ?_
        obtain rfl := Option.some.inj e
        exact g_iret d_X11_fuse_39 rfl rfl
      · replace e := (if_neg c9).symm.trans e
        refine r_iload_n d_X11_fuse_31 rfl g3 ?_
        refine g_ldcw d_X11_fuse_32 (v := (100000 : Int32)) (by decide +kernel) ?_
        refine r_icmp_le d_X11_fuse_35 (tgt := 40) (by decide) (fun c10 => ?_) (fun c10 => ?_)
        · replace e := (if_pos c10).symm.trans e
          refine g_ald_n d_X11_fuse_40 rfl g0 ?_
          refine g_getR d_X11_fuse_41 (f := 1235) k5 fk_10_95 rfl rfl ?_
          refine r_iconst d_X11_fuse_44 (v := (5 : Int32)) (by decide +kernel) ?_
          refine r_iload_n d_X11_fuse_45 rfl g1 ?_
          refine r_imul d_X11_fuse_46 ?_
          refine r_iload_n d_X11_fuse_47 rfl g2 ?_
          refine r_iadd d_X11_fuse_48 ?_
          refine r_iload_n d_X11_fuse_49 rfl g3 ?_
          replace e := ckd e
          obtain ⟨k11, e⟩ := e
          replace e := ckd e
          obtain ⟨k12, e⟩ := e
          refine g_iast d_X11_fuse_50 k11 k12 ?_
          replace e := bhd e
          obtain ⟨_, rfl, e⟩ := e
          refine r_iconst d_X11_fuse_51 (v := (1 : Int32)) (by decide +kernel) ?_
          obtain rfl := Option.some.inj e
          exact g_iret d_X11_fuse_52 rfl rfl
        · replace e := (if_neg c10).symm.trans e
          refine r_iconst d_X11_fuse_38 (v := (0 : Int32)) (by decide +kernel) ?_
          obtain rfl := Option.some.inj e
          exact g_iret d_X11_fuse_39 rfl rfl

theorem c_X11_fuse {G : Gd} {j : Nat} (hj : 3 ≤ j) {l0 : Nat} {l1 : Int32} {l2 : Int32} {l3 : Int32} {h : Hp} {o : (Int32 × Hp)} (e : f_X11_fuse l0 l1 l2 l3 h = some o) : Cal G j Y_X11_fuse [zrf (l0), .int (l1), .int (l2), .int (l3)] h (some (.int o.1)) o.2 := Cal.of (n := 0) (I := false) (by first | exact Or.inl (by decide +kernel) | exact Or.inr (by decide +kernel)) (by decide) (by simp [lg_sl, zrf_cat, cat_int, cat_long]) (f_X11_fuse_ok hj _ _ _ _ _ h o (by simp [lv_args, zlk, zrf_cat, cat_int, cat_long]) (by simp [lv_args, zlk, zrf_cat, cat_int, cat_long]) (by simp [lv_args, zlk, zrf_cat, cat_int, cat_long]) (by simp [lv_args, zlk, zrf_cat, cat_int, cat_long]) e)
def f_X11_workflow (l0 : Nat) (l1 : Int32) (l2 : Int32) (h : Hp) : Option (Int32 × Hp) := ck (isO (h) (l0) 12) (bh (pI (h) 1200 (l0) ((0 : Int32))) (fun h2 => (f_X11_isFlow (l0) (l1) (h2)).bind (fun q3 => if (q3.1) = (0) then (some ((-1 : Int32), q3.2)) else ((f_X11_placeOf (l1) (q3.2)).bind (fun q5 => if (l2) = (0 : Int32) then (ck (isO (q5.2) (l0) 12) (ck (isO (q5.2) (zR (q5.2) 1243 (l0)) 22) (ck (inR (q5.1) (zL (q5.2) (zR (q5.2) 1243 (l0)))) (some (zE (q5.2) (zR (q5.2) 1243 (l0)) (q5.1).toNatClampNeg, q5.2))))) else (if (l2) = (1 : Int32) then (ck (isO (q5.2) (l0) 12) (ck (isO (q5.2) (zR (q5.2) 1243 (l0)) 22) (ck (inR (q5.1) (zL (q5.2) (zR (q5.2) 1243 (l0)))) (if (zE (q5.2) (zR (q5.2) 1243 (l0)) (q5.1).toNatClampNeg) = ((4 : Int32)) then (ck (isO (q5.2) (zR (q5.2) 1244 (l0)) 22) (ck (inR (q5.1) (zL (q5.2) (zR (q5.2) 1244 (l0)))) (some (zE (q5.2) (zR (q5.2) 1244 (l0)) (q5.1).toNatClampNeg, q5.2)))) else (some ((0 : Int32), q5.2)))))) else (if (l2) = (2 : Int32) then (ck (isO (q5.2) (l0) 12) (ck (isO (q5.2) (zR (q5.2) 1241 (l0)) 22) (ck (inR (q5.1) (zL (q5.2) (zR (q5.2) 1241 (l0)))) (some (zE (q5.2) (zR (q5.2) 1241 (l0)) (q5.1).toNatClampNeg, q5.2))))) else (if (l2) = (3 : Int32) then (ck (isO (q5.2) (l0) 12) ((f_X11_event (l0) (q5.1) ((0 : Int32)) (q5.2)).bind (fun q23 => ck (isO (q23.2) (zR (q5.2) 1227 (l0)) 22) (ck (inR (q23.1) (zL (q23.2) (zR (q5.2) 1227 (l0)))) (some ((zE (q23.2) (zR (q5.2) 1227 (l0)) (q23.1).toNatClampNeg) - (zE (q23.2) (zR (q5.2) 1227 (l0)) (q23.1).toNatClampNeg) / ((8 : Int32)) * ((8 : Int32)), q23.2)))))) else (if (l2) = (4 : Int32) then (ck (isO (q5.2) (l0) 12) (ck (isO (q5.2) (zR (q5.2) 1246 (l0)) 22) (ck (inR (q5.1) (zL (q5.2) (zR (q5.2) 1246 (l0)))) (some (zE (q5.2) (zR (q5.2) 1246 (l0)) (q5.1).toNatClampNeg, q5.2))))) else (if (l2) = (5 : Int32) then (ck (isO (q5.2) (l0) 12) (ck (isO (q5.2) (zR (q5.2) 1247 (l0)) 22) (ck (inR (q5.1) (zL (q5.2) (zR (q5.2) 1247 (l0)))) (some (zE (q5.2) (zR (q5.2) 1247 (l0)) (q5.1).toNatClampNeg, q5.2))))) else (if (l2) = (6 : Int32) then (ck (isO (q5.2) (l0) 12) ((f_X11_parent (l0) (q5.1) (q5.2)).bind (fun q35 => some (q35.1, q35.2)))) else (some ((-1 : Int32), q5.2)))))))))))))
theorem f_X11_workflow_ok {G : Gd} {d : Nat} (hj : 4 ≤ d) : ∀ (l0 : Nat) (l1 : Int32) (l2 : Int32) (L : List (Nat × Value)) (h : Hp) (o : (Int32 × Hp)), zlk L 0 = some (zrf (l0)) → zlk L 1 = some (.int (l1)) → zlk L 2 = some (.int (l2)) → f_X11_workflow l0 l1 l2 h = some o → Ev G M_X11_workflow d 0 L [] h (Ret Y_X11_workflow (some (.int o.1)) o.2) := by
  intro l0 l1 l2 L h o g0 g1 g2 e
  unfold f_X11_workflow at e
  refine g_ald_n d_X11_workflow_0 rfl g0 ?_
  refine r_iconst d_X11_workflow_1 (v := (0 : Int32)) (by decide +kernel) ?_
  replace e := ckd e
  obtain ⟨k1, e⟩ := e
  refine g_putI d_X11_workflow_2 (f := 1200) k1 fk_10_183 rfl (Or.inl rfl) ⟨rfl, rfl⟩ ?_
  replace e := bhd e
  obtain ⟨_, rfl, e⟩ := e
  refine g_ald_n d_X11_workflow_5 rfl g0 ?_
  refine r_iload_n d_X11_workflow_6 rfl g1 ?_
  replace e := bd e
  obtain ⟨q3, eq3, e⟩ := e
  refine g_callV d_X11_workflow_7 vk_10_382 (as := [_]) rfl (tO_pI k1) rfl (by simp [zrf_cat, cat_int, cat_long]) (j := 1) (by omega) (c_X11_isFlow (by omega) eq3) ?_
  refine r_if_ne d_X11_workflow_10 (tgt := 15) (by decide) (fun c4 => ?_) (fun c4 => ?_)
  · replace e := (if_neg c4).symm.trans e
    refine r_iload_n d_X11_workflow_15 rfl g1 ?_
    replace e := bd e
    obtain ⟨q5, eq5, e⟩ := e
    refine g_callS d_X11_workflow_16 sk_10_385 (as := [_]) rfl rfl (by simp [zrf_cat, cat_int, cat_long]) (j := 1) (by omega) (c_X11_placeOf (by omega) eq5) ?_
    refine s_istore_n d_X11_workflow_19 rfl (by decide) (fun L g3 gK => ?_)
    replace g0 := gK _ _ (by decide) (Or.inr (zrf_cat _)) g0
    replace g2 := gK _ _ (by decide) (Or.inr rfl) g2
    refine r_iload_n d_X11_workflow_20 rfl g2 ?_
    rcases ite_or e with ⟨c6, e⟩ | ⟨c6, e⟩
    · refine r_tableIn d_X11_workflow_21 (off := 43) (tgt := 64) (by rw [c6]; decide +kernel) (by rw [c6]; decide +kernel) (by rw [c6] <;> rfl) (by decide) ?_
      refine g_ald_n d_X11_workflow_64 rfl g0 ?_
      replace e := ckd e
      obtain ⟨k7, e⟩ := e
      refine g_getR d_X11_workflow_65 (f := 1243) k7 fk_10_119 rfl rfl ?_
      refine r_iload_n d_X11_workflow_68 rfl g3 ?_
      replace e := ckd e
      obtain ⟨k8, e⟩ := e
      replace e := ckd e
      obtain ⟨k9, e⟩ := e
      refine g_iald d_X11_workflow_69 k8 k9 rfl ?_
      obtain rfl := Option.some.inj e
      exact g_iret d_X11_workflow_70 rfl rfl
    · rcases ite_or e with ⟨c10, e⟩ | ⟨c10, e⟩
      · refine r_tableIn d_X11_workflow_21 (off := 50) (tgt := 71) (by rw [c10]; decide +kernel) (by rw [c10]; decide +kernel) (by rw [c10] <;> rfl) (by decide) ?_
        refine g_ald_n d_X11_workflow_71 rfl g0 ?_
        replace e := ckd e
        obtain ⟨k11, e⟩ := e
        refine g_getR d_X11_workflow_72 (f := 1243) k11 fk_10_119 rfl rfl ?_
        refine r_iload_n d_X11_workflow_75 rfl g3 ?_
        replace e := ckd e
        obtain ⟨k12, e⟩ := e
        replace e := ckd e
        obtain ⟨k13, e⟩ := e
        refine g_iald d_X11_workflow_76 k12 k13 rfl ?_
        refine r_iconst d_X11_workflow_77 (v := (4 : Int32)) (by decide +kernel) ?_
        refine r_icmp_ne d_X11_workflow_78 (tgt := 90) (by decide) (fun c14 => ?_) (fun c14 => ?_)
        · replace e := (if_neg c14).symm.trans e
          refine r_iconst d_X11_workflow_90 (v := (0 : Int32)) (by decide +kernel) ?_
          obtain rfl := Option.some.inj e
          exact g_iret d_X11_workflow_91 rfl rfl
        · replace e := (if_pos c14).symm.trans e
          refine g_ald_n d_X11_workflow_81 rfl g0 ?_
          refine g_getR d_X11_workflow_82 (f := 1244) k11 fk_10_122 rfl rfl ?_
          refine r_iload_n d_X11_workflow_85 rfl g3 ?_
          replace e := ckd e
          obtain ⟨k15, e⟩ := e
          replace e := ckd e
          obtain ⟨k16, e⟩ := e
          refine g_iald d_X11_workflow_86 k15 k16 rfl ?_
          refine r_goto d_X11_workflow_87 (tgt := 91) (by decide) ?_
          obtain rfl := Option.some.inj e
          exact g_iret d_X11_workflow_91 rfl rfl
      · rcases ite_or e with ⟨c17, e⟩ | ⟨c17, e⟩
        · refine r_tableIn d_X11_workflow_21 (off := 71) (tgt := 92) (by rw [c17]; decide +kernel) (by rw [c17]; decide +kernel) (by rw [c17] <;> rfl) (by decide) ?_
          refine g_ald_n d_X11_workflow_92 rfl g0 ?_
          replace e := ckd e
          obtain ⟨k18, e⟩ := e
          refine g_getR d_X11_workflow_93 (f := 1241) k18 fk_10_113 rfl rfl ?_
          refine r_iload_n d_X11_workflow_96 rfl g3 ?_
          replace e := ckd e
          obtain ⟨k19, e⟩ := e
          replace e := ckd e
          obtain ⟨k20, e⟩ := e
          refine g_iald d_X11_workflow_97 k19 k20 rfl ?_
          obtain rfl := Option.some.inj e
          exact g_iret d_X11_workflow_98 rfl rfl
        · rcases ite_or e with ⟨c21, e⟩ | ⟨c21, e⟩
          · refine r_tableIn d_X11_workflow_21 (off := 78) (tgt := 99) (by rw [c21]; decide +kernel) (by rw [c21]; decide +kernel) (by rw [c21] <;> rfl) (by decide) ?_
            refine g_ald_n d_X11_workflow_99 rfl g0 ?_
            replace e := ckd e
            obtain ⟨k22, e⟩ := e
            refine g_getR d_X11_workflow_100 (f := 1227) k22 fk_10_70 rfl rfl ?_
            refine g_ald_n d_X11_workflow_103 rfl g0 ?_
            refine r_iload_n d_X11_workflow_104 rfl g3 ?_
            refine r_iconst d_X11_workflow_105 (v := (0 : Int32)) (by decide +kernel) ?_
            replace e := bd e
            obtain ⟨q23, eq23, e⟩ := e
            refine g_callV d_X11_workflow_106 vk_10_305 (as := [_, _]) rfl k22 rfl (by simp [zrf_cat, cat_int, cat_long]) (j := 1) (by omega) (c_X11_event (by omega) eq23) ?_
            replace e := ckd e
            obtain ⟨k24, e⟩ := e
            replace e := ckd e
            obtain ⟨k25, e⟩ := e
            refine g_iald d_X11_workflow_109 k24 k25 rfl ?_
            refine r_bipush d_X11_workflow_110 (v := (8 : Int32)) (by decide +kernel) ?_
            refine r_irem d_X11_workflow_112 (by decide +kernel) ?_
            obtain rfl := Option.some.inj e
            exact g_iret d_X11_workflow_113 rfl rfl
          · rcases ite_or e with ⟨c26, e⟩ | ⟨c26, e⟩
            · refine r_tableIn d_X11_workflow_21 (off := 93) (tgt := 114) (by rw [c26]; decide +kernel) (by rw [c26]; decide +kernel) (by rw [c26] <;> rfl) (by decide) ?_
              refine g_ald_n d_X11_workflow_114 rfl g0 ?_
              replace e := ckd e
              obtain ⟨k27, e⟩ := e
              refine g_getR d_X11_workflow_115 (f := 1246) k27 fk_10_128 rfl rfl ?_
              refine r_iload_n d_X11_workflow_118 rfl g3 ?_
              replace e := ckd e
              obtain ⟨k28, e⟩ := e
              replace e := ckd e
              obtain ⟨k29, e⟩ := e
              refine g_iald d_X11_workflow_119 k28 k29 rfl ?_
              obtain rfl := Option.some.inj e
              exact g_iret d_X11_workflow_120 rfl rfl
            · rcases ite_or e with ⟨c30, e⟩ | ⟨c30, e⟩
              · refine r_tableIn d_X11_workflow_21 (off := 100) (tgt := 121) (by rw [c30]; decide +kernel) (by rw [c30]; decide +kernel) (by rw [c30] <;> rfl) (by decide) ?_
                refine g_ald_n d_X11_workflow_121 rfl g0 ?_
                replace e := ckd e
                obtain ⟨k31, e⟩ := e
                refine g_getR d_X11_workflow_122 (f := 1247) k31 fk_10_131 rfl rfl ?_
                refine r_iload_n d_X11_workflow_125 rfl g3 ?_
                replace e := ckd e
                obtain ⟨k32, e⟩ := e
                replace e := ckd e
                obtain ⟨k33, e⟩ := e
                refine g_iald d_X11_workflow_126 k32 k33 rfl ?_
                obtain rfl := Option.some.inj e
                exact g_iret d_X11_workflow_127 rfl rfl
              · rcases ite_or e with ⟨c34, e⟩ | ⟨c34, e⟩
                · refine r_tableIn d_X11_workflow_21 (off := 107) (tgt := 128) (by rw [c34]; decide +kernel) (by rw [c34]; decide +kernel) (by rw [c34] <;> rfl) (by decide) ?_
                  refine g_ald_n d_X11_workflow_128 rfl g0 ?_
                  refine r_iload_n d_X11_workflow_129 rfl g3 ?_
                  replace e := ckd e
                  obtain ⟨k36, e⟩ := e
                  replace e := bd e
                  obtain ⟨q35, eq35, e⟩ := e
                  refine g_callV d_X11_workflow_130 vk_10_302 (as := [_]) rfl k36 rfl (by simp [zrf_cat, cat_int, cat_long]) (j := 3) (by omega) (c_X11_parent (by omega) eq35) ?_
                  obtain rfl := Option.some.inj e
                  exact g_iret d_X11_workflow_133 rfl rfl
                · refine r_tableOut d_X11_workflow_21 (tgt := 134) (by have := lv_neT (a := 0) c6 (by decide +kernel); have := lv_neT (a := 1) c10 (by decide +kernel); have := lv_neT (a := 2) c17 (by decide +kernel); have := lv_neT (a := 3) c21 (by decide +kernel); have := lv_neT (a := 4) c26 (by decide +kernel); have := lv_neT (a := 5) c30 (by decide +kernel); have := lv_neT (a := 6) c34 (by decide +kernel); omega) (by decide) ?_
                  refine r_iconst d_X11_workflow_134 (v := (-1 : Int32)) (by decide +kernel) ?_
                  obtain rfl := Option.some.inj e
                  exact g_iret d_X11_workflow_135 rfl rfl
  · replace e := (if_pos c4).symm.trans e
    refine r_iconst d_X11_workflow_13 (v := (-1 : Int32)) (by decide +kernel) ?_
    obtain rfl := Option.some.inj e
    exact g_iret d_X11_workflow_14 rfl rfl

theorem c_X11_workflow {G : Gd} {j : Nat} (hj : 4 ≤ j) {l0 : Nat} {l1 : Int32} {l2 : Int32} {h : Hp} {o : (Int32 × Hp)} (e : f_X11_workflow l0 l1 l2 h = some o) : Cal G j Y_X11_workflow [zrf (l0), .int (l1), .int (l2)] h (some (.int o.1)) o.2 := Cal.of (n := 0) (I := false) (by first | exact Or.inl (by decide +kernel) | exact Or.inr (by decide +kernel)) (by decide) (by simp [lg_sl, zrf_cat, cat_int, cat_long]) (f_X11_workflow_ok hj _ _ _ _ h o (by simp [lv_args, zlk, zrf_cat, cat_int, cat_long]) (by simp [lv_args, zlk, zrf_cat, cat_int, cat_long]) (by simp [lv_args, zlk, zrf_cat, cat_int, cat_long]) e)
def f_X11_event__54 (s0 : Nat) (s1 : Int32) (l0 : Nat) (l1 : Int32) (l2 : Int32) (l3 : Int32) (h : Hp) : Option (Int32 × Hp) := ck (isO (h) (s0) 12) (bh (pI (h) 1200 (s0) (s1)) (fun h16 => ck (isO (h16) (l0) 12) (if (zI (h16) 1200 (l0)) ≤ (0) then ((f_X11_placeOf (l1) (h16)).bind (fun q19 => ck (isO (q19.2) (l0) 12) ((f_X11_event (l0) (q19.1) (l2) (q19.2)).bind (fun q20 => if (l3) = (0) then (ck (isO (q20.2) (l0) 12) ((f_X11_kindOf (l0) (q20.1) (q20.2)).bind (fun q34 => some (q34.1, q34.2)))) else (if (l3) = ((1 : Int32)) then (ck (isO (q20.2) (l0) 12) (ck (isO (q20.2) (zR (q20.2) 1227 (l0)) 22) (ck (inR (q20.1) (zL (q20.2) (zR (q20.2) 1227 (l0)))) (some (zE (q20.2) (zR (q20.2) 1227 (l0)) (q20.1).toNatClampNeg, q20.2))))) else (if (l3) = ((2 : Int32)) then (ck (isO (q20.2) (l0) 12) (ck (isO (q20.2) (zR (q20.2) 1228 (l0)) 22) (ck (inR (q20.1) (zL (q20.2) (zR (q20.2) 1228 (l0)))) (some (zE (q20.2) (zR (q20.2) 1228 (l0)) (q20.1).toNatClampNeg, q20.2))))) else (ck (isO (q20.2) (l0) 12) (ck (isO (q20.2) (zR (q20.2) 1229 (l0)) 22) (ck (inR (q20.1) (zL (q20.2) (zR (q20.2) 1229 (l0)))) (some (zE (q20.2) (zR (q20.2) 1229 (l0)) (q20.1).toNatClampNeg, q20.2))))))))))) else (some ((0 : Int32), h16)))))
theorem f_X11_event__54_ok {G : Gd} {d : Nat} (hj : 2 ≤ d) : ∀ (s0 : Nat) (s1 : Int32) (l0 : Nat) (l1 : Int32) (l2 : Int32) (l3 : Int32) (L : List (Nat × Value)) (h : Hp) (o : (Int32 × Hp)), zlk L 0 = some (zrf (l0)) → zlk L 1 = some (.int (l1)) → zlk L 2 = some (.int (l2)) → zlk L 3 = some (.int (l3)) → f_X11_event__54 s0 s1 l0 l1 l2 l3 h = some o → Ev G M_X11_event_ d 54 L [.int (s1), zrf (s0)] h (Ret Y_X11_event_ (some (.int o.1)) o.2) := by
  intro s0 s1 l0 l1 l2 l3 L h o g0 g1 g2 g3 e
  unfold f_X11_event__54 at e
  replace e := ckd e
  obtain ⟨k15, e⟩ := e
  refine g_putI d_X11_event__54 (f := 1200) k15 fk_10_183 rfl (Or.inl rfl) ⟨rfl, rfl⟩ ?_
  replace e := bhd e
  obtain ⟨_, rfl, e⟩ := e
  refine g_ald_n d_X11_event__57 rfl g0 ?_
  replace e := ckd e
  obtain ⟨k17, e⟩ := e
  refine g_getI d_X11_event__58 (f := 1200) k17 fk_10_183 rfl rfl ?_
  refine r_if_le d_X11_event__61 (tgt := 66) (by decide) (fun c18 => ?_) (fun c18 => ?_)
  · replace e := (if_pos c18).symm.trans e
    refine g_ald_n d_X11_event__66 rfl g0 ?_
    refine r_iload_n d_X11_event__67 rfl g1 ?_
    replace e := bd e
    obtain ⟨q19, eq19, e⟩ := e
    refine g_callS d_X11_event__68 sk_10_385 (as := [_]) rfl rfl (by simp [zrf_cat, cat_int, cat_long]) (j := 1) (by omega) (c_X11_placeOf (by omega) eq19) ?_
    refine r_iload_n d_X11_event__71 rfl g2 ?_
    replace e := ckd e
    obtain ⟨k21, e⟩ := e
    replace e := bd e
    obtain ⟨q20, eq20, e⟩ := e
    refine g_callV d_X11_event__72 vk_10_305 (as := [_, _]) rfl k21 rfl (by simp [zrf_cat, cat_int, cat_long]) (j := 1) (by omega) (c_X11_event (by omega) eq20) ?_
    refine s_istore d_X11_event__75 (by decide) (fun L g4 gK => ?_)
    replace g0 := gK _ _ (by decide) (Or.inr (zrf_cat _)) g0
    replace g3 := gK _ _ (by decide) (Or.inr rfl) g3
    refine r_iload_n d_X11_event__77 rfl g3 ?_
    refine r_if_ne d_X11_event__78 (tgt := 90) (by decide) (fun c22 => ?_) (fun c22 => ?_)
    · replace e := (if_neg c22).symm.trans e
      refine r_iload_n d_X11_event__90 rfl g3 ?_
      refine r_iconst d_X11_event__91 (v := (1 : Int32)) (by decide +kernel) ?_
      refine r_icmp_ne d_X11_event__92 (tgt := 105) (by decide) (fun c23 => ?_) (fun c23 => ?_)
      · replace e := (if_neg c23).symm.trans e
        refine r_iload_n d_X11_event__105 rfl g3 ?_
        refine r_iconst d_X11_event__106 (v := (2 : Int32)) (by decide +kernel) ?_
        refine r_icmp_ne d_X11_event__107 (tgt := 120) (by decide) (fun c24 => ?_) (fun c24 => ?_)
        · replace e := (if_neg c24).symm.trans e
          refine g_ald_n d_X11_event__120 rfl g0 ?_
          replace e := ckd e
          obtain ⟨k25, e⟩ := e
          refine g_getR d_X11_event__121 (f := 1229) k25 fk_10_76 rfl rfl ?_
          refine r_iload d_X11_event__124 g4 ?_
          replace e := ckd e
          obtain ⟨k26, e⟩ := e
          replace e := ckd e
          obtain ⟨k27, e⟩ := e
          refine g_iald d_X11_event__126 k26 k27 rfl ?_
          obtain rfl := Option.some.inj e
          exact g_iret d_X11_event__127 rfl rfl
        · replace e := (if_pos c24).symm.trans e
          refine g_ald_n d_X11_event__110 rfl g0 ?_
          replace e := ckd e
          obtain ⟨k28, e⟩ := e
          refine g_getR d_X11_event__111 (f := 1228) k28 fk_10_73 rfl rfl ?_
          refine r_iload d_X11_event__114 g4 ?_
          replace e := ckd e
          obtain ⟨k29, e⟩ := e
          replace e := ckd e
          obtain ⟨k30, e⟩ := e
          refine g_iald d_X11_event__116 k29 k30 rfl ?_
          refine r_goto d_X11_event__117 (tgt := 127) (by decide) ?_
          obtain rfl := Option.some.inj e
          exact g_iret d_X11_event__127 rfl rfl
      · replace e := (if_pos c23).symm.trans e
        refine g_ald_n d_X11_event__95 rfl g0 ?_
        replace e := ckd e
        obtain ⟨k31, e⟩ := e
        refine g_getR d_X11_event__96 (f := 1227) k31 fk_10_70 rfl rfl ?_
        refine r_iload d_X11_event__99 g4 ?_
        replace e := ckd e
        obtain ⟨k32, e⟩ := e
        replace e := ckd e
        obtain ⟨k33, e⟩ := e
        refine g_iald d_X11_event__101 k32 k33 rfl ?_
        refine r_goto d_X11_event__102 (tgt := 127) (by decide) ?_
        obtain rfl := Option.some.inj e
        exact g_iret d_X11_event__127 rfl rfl
    · replace e := (if_pos c22).symm.trans e
      refine g_ald_n d_X11_event__81 rfl g0 ?_
      refine r_iload d_X11_event__82 g4 ?_
      replace e := ckd e
      obtain ⟨k35, e⟩ := e
      replace e := bd e
      obtain ⟨q34, eq34, e⟩ := e
      refine g_callV d_X11_event__84 vk_10_286 (as := [_]) rfl k35 rfl (by simp [zrf_cat, cat_int, cat_long]) (j := 1) (by omega) (c_X11_kindOf (by omega) eq34) ?_
      refine r_goto d_X11_event__87 (tgt := 127) (by decide) ?_
      obtain rfl := Option.some.inj e
      exact g_iret d_X11_event__127 rfl rfl
  · replace e := (if_neg c18).symm.trans e
    refine r_iconst d_X11_event__64 (v := (0 : Int32)) (by decide +kernel) ?_
    obtain rfl := Option.some.inj e
    exact g_iret d_X11_event__65 rfl rfl

def f_X11_event__37 (s0 : Nat) (l0 : Nat) (l1 : Int32) (l2 : Int32) (l3 : Int32) (h : Hp) : Option (Int32 × Hp) := f_X11_event__54 (s0) ((1 : Int32)) (l0) (l1) (l2) (l3) (h)
theorem f_X11_event__37_ok {G : Gd} {d : Nat} (hj : 2 ≤ d) : ∀ (s0 : Nat) (l0 : Nat) (l1 : Int32) (l2 : Int32) (l3 : Int32) (L : List (Nat × Value)) (h : Hp) (o : (Int32 × Hp)), zlk L 0 = some (zrf (l0)) → zlk L 1 = some (.int (l1)) → zlk L 2 = some (.int (l2)) → zlk L 3 = some (.int (l3)) → f_X11_event__37 s0 l0 l1 l2 l3 h = some o → Ev G M_X11_event_ d 37 L [zrf (s0)] h (Ret Y_X11_event_ (some (.int o.1)) o.2) := by
  intro s0 l0 l1 l2 l3 L h o g0 g1 g2 g3 e
  unfold f_X11_event__37 at e
  refine r_iconst d_X11_event__37 (v := (1 : Int32)) (by decide +kernel) ?_
  refine r_goto d_X11_event__38 (tgt := 54) (by decide) ?_
  exact f_X11_event__54_ok hj _ _ _ _ _ _ _ _ _ g0 g1 g2 g3 e

def f_X11_event__31 (s0 : Nat) (s1 : Int32) (s2 : Int32) (l0 : Nat) (l1 : Int32) (l2 : Int32) (l3 : Int32) (h : Hp) : Option (Int32 × Hp) := (f_X11_in (s1) (s2) (h)).bind (fun q11 => if (q11.1) = (0) then (f_X11_event__37 (s0) (l0) (l1) (l2) (l3) (q11.2)) else ((f_X11_in (l3) ((4 : Int32)) (q11.2)).bind (fun q13 => if (q13.1) = (0) then (f_X11_event__54 (s0) ((2 : Int32)) (l0) (l1) (l2) (l3) (q13.2)) else (f_X11_event__54 (s0) ((0 : Int32)) (l0) (l1) (l2) (l3) (q13.2)))))
theorem f_X11_event__31_ok {G : Gd} {d : Nat} (hj : 2 ≤ d) : ∀ (s0 : Nat) (s1 : Int32) (s2 : Int32) (l0 : Nat) (l1 : Int32) (l2 : Int32) (l3 : Int32) (L : List (Nat × Value)) (h : Hp) (o : (Int32 × Hp)), zlk L 0 = some (zrf (l0)) → zlk L 1 = some (.int (l1)) → zlk L 2 = some (.int (l2)) → zlk L 3 = some (.int (l3)) → f_X11_event__31 s0 s1 s2 l0 l1 l2 l3 h = some o → Ev G M_X11_event_ d 31 L [.int (s2), .int (s1), zrf (s0)] h (Ret Y_X11_event_ (some (.int o.1)) o.2) := by
  intro s0 s1 s2 l0 l1 l2 l3 L h o g0 g1 g2 g3 e
  unfold f_X11_event__31 at e
  replace e := bd e
  obtain ⟨q11, eq11, e⟩ := e
  refine g_callS d_X11_event__31 sk_10_230 (as := [_, _]) rfl rfl (by simp [zrf_cat, cat_int, cat_long]) (j := 1) (by omega) (c_X11_in (by omega) eq11) ?_
  refine r_if_ne d_X11_event__34 (tgt := 41) (by decide) (fun c12 => ?_) (fun c12 => ?_)
  · replace e := (if_neg c12).symm.trans e
    refine r_iload_n d_X11_event__41 rfl g3 ?_
    refine r_iconst d_X11_event__42 (v := (4 : Int32)) (by decide +kernel) ?_
    replace e := bd e
    obtain ⟨q13, eq13, e⟩ := e
    refine g_callS d_X11_event__43 sk_10_230 (as := [_, _]) rfl rfl (by simp [zrf_cat, cat_int, cat_long]) (j := 1) (by omega) (c_X11_in (by omega) eq13) ?_
    refine r_if_ne d_X11_event__46 (tgt := 53) (by decide) (fun c14 => ?_) (fun c14 => ?_)
    · replace e := (if_neg c14).symm.trans e
      refine r_iconst d_X11_event__53 (v := (0 : Int32)) (by decide +kernel) ?_
      exact f_X11_event__54_ok hj _ _ _ _ _ _ _ _ _ g0 g1 g2 g3 e
    · replace e := (if_pos c14).symm.trans e
      refine r_iconst d_X11_event__49 (v := (2 : Int32)) (by decide +kernel) ?_
      refine r_goto d_X11_event__50 (tgt := 54) (by decide) ?_
      exact f_X11_event__54_ok hj _ _ _ _ _ _ _ _ _ g0 g1 g2 g3 e
  · replace e := (if_pos c12).symm.trans e
    exact f_X11_event__37_ok hj _ _ _ _ _ _ _ _ g0 g1 g2 g3 e

def f_X11_event_ (l0 : Nat) (l1 : Int32) (l2 : Int32) (l3 : Int32) (h : Hp) : Option (Int32 × Hp) := ck (isO (h) (l0) 12) ((f_X11_isFlow (l0) (l1) (h)).bind (fun q1 => if (q1.1) = (0) then (f_X11_event__37 (l0) (l0) (l1) (l2) (l3) (q1.2)) else (ck (isO (q1.2) (l0) 12) ((f_X11_isFlow (l0) (l1) (q1.2)).bind (fun q4 => if (q4.1) = (0) then (f_X11_event__31 (l0) (l2) ((0 : Int32)) (l0) (l1) (l2) (l3) (q4.2)) else (ck (isO (q4.2) (l0) 12) ((f_X11_placeOf (l1) (q4.2)).bind (fun q8 => ck (isO (q8.2) (zR (q4.2) 1241 (l0)) 22) (ck (inR (q8.1) (zL (q8.2) (zR (q4.2) 1241 (l0)))) (f_X11_event__31 (l0) (l2) (zE (q8.2) (zR (q4.2) 1241 (l0)) (q8.1).toNatClampNeg) (l0) (l1) (l2) (l3) (q8.2)))))))))))
theorem f_X11_event__ok {G : Gd} {d : Nat} (hj : 2 ≤ d) : ∀ (l0 : Nat) (l1 : Int32) (l2 : Int32) (l3 : Int32) (L : List (Nat × Value)) (h : Hp) (o : (Int32 × Hp)), zlk L 0 = some (zrf (l0)) → zlk L 1 = some (.int (l1)) → zlk L 2 = some (.int (l2)) → zlk L 3 = some (.int (l3)) → f_X11_event_ l0 l1 l2 l3 h = some o → Ev G M_X11_event_ d 0 L [] h (Ret Y_X11_event_ (some (.int o.1)) o.2) := by
  intro l0 l1 l2 l3 L h o g0 g1 g2 g3 e
  unfold f_X11_event_ at e
  refine g_ald_n d_X11_event__0 rfl g0 ?_
  refine g_ald_n d_X11_event__1 rfl g0 ?_
  refine r_iload_n d_X11_event__2 rfl g1 ?_
  replace e := ckd e
  obtain ⟨k2, e⟩ := e
  replace e := bd e
  obtain ⟨q1, eq1, e⟩ := e
  refine g_callV d_X11_event__3 vk_10_382 (as := [_]) rfl k2 rfl (by simp [zrf_cat, cat_int, cat_long]) (j := 1) (by omega) (c_X11_isFlow (by omega) eq1) ?_
  refine r_if_eq d_X11_event__6 (tgt := 37) (by decide) (fun c3 => ?_) (fun c3 => ?_)
  · replace e := (if_pos c3).symm.trans e
    exact f_X11_event__37_ok hj _ _ _ _ _ _ _ _ g0 g1 g2 g3 e
  · replace e := (if_neg c3).symm.trans e
    refine r_iload_n d_X11_event__9 rfl g2 ?_
    refine g_ald_n d_X11_event__10 rfl g0 ?_
    refine r_iload_n d_X11_event__11 rfl g1 ?_
    replace e := ckd e
    obtain ⟨k5, e⟩ := e
    replace e := bd e
    obtain ⟨q4, eq4, e⟩ := e
    refine g_callV d_X11_event__12 vk_10_382 (as := [_]) rfl k5 rfl (by simp [zrf_cat, cat_int, cat_long]) (j := 1) (by omega) (c_X11_isFlow (by omega) eq4) ?_
    refine r_if_eq d_X11_event__15 (tgt := 30) (by decide) (fun c6 => ?_) (fun c6 => ?_)
    · replace e := (if_pos c6).symm.trans e
      refine r_iconst d_X11_event__30 (v := (0 : Int32)) (by decide +kernel) ?_
      exact f_X11_event__31_ok hj _ _ _ _ _ _ _ _ _ _ g0 g1 g2 g3 e
    · replace e := (if_neg c6).symm.trans e
      refine g_ald_n d_X11_event__18 rfl g0 ?_
      replace e := ckd e
      obtain ⟨k7, e⟩ := e
      refine g_getR d_X11_event__19 (f := 1241) k7 fk_10_113 rfl rfl ?_
      refine r_iload_n d_X11_event__22 rfl g1 ?_
      replace e := bd e
      obtain ⟨q8, eq8, e⟩ := e
      refine g_callS d_X11_event__23 sk_10_385 (as := [_]) rfl rfl (by simp [zrf_cat, cat_int, cat_long]) (j := 1) (by omega) (c_X11_placeOf (by omega) eq8) ?_
      replace e := ckd e
      obtain ⟨k9, e⟩ := e
      replace e := ckd e
      obtain ⟨k10, e⟩ := e
      refine g_iald d_X11_event__26 k9 k10 rfl ?_
      refine r_goto d_X11_event__27 (tgt := 31) (by decide) ?_
      exact f_X11_event__31_ok hj _ _ _ _ _ _ _ _ _ _ g0 g1 g2 g3 e

theorem c_X11_event_ {G : Gd} {j : Nat} (hj : 2 ≤ j) {l0 : Nat} {l1 : Int32} {l2 : Int32} {l3 : Int32} {h : Hp} {o : (Int32 × Hp)} (e : f_X11_event_ l0 l1 l2 l3 h = some o) : Cal G j Y_X11_event_ [zrf (l0), .int (l1), .int (l2), .int (l3)] h (some (.int o.1)) o.2 := Cal.of (n := 0) (I := false) (by first | exact Or.inl (by decide +kernel) | exact Or.inr (by decide +kernel)) (by decide) (by simp [lg_sl, zrf_cat, cat_int, cat_long]) (f_X11_event__ok hj _ _ _ _ _ h o (by simp [lv_args, zlk, zrf_cat, cat_int, cat_long]) (by simp [lv_args, zlk, zrf_cat, cat_int, cat_long]) (by simp [lv_args, zlk, zrf_cat, cat_int, cat_long]) (by simp [lv_args, zlk, zrf_cat, cat_int, cat_long]) e)
def f_X11_tasks_41 (K8 : Nat → Int32 → Int32 → Int32 → Int32 → Hp → Option (Int32 × Hp)) (s0 : Int32) (s1 : Int32) (l0 : Nat) (l1 : Int32) (l2 : Int32) (l4 : Int32) (h : Hp) : Option (Int32 × Hp) := bh ((s0) + (s1)) (fun x9 => bh ((l4) + (1 : Int32)) (fun x10 => K8 (l0) (l1) (l2) (x9) (x10) (h)))
theorem f_X11_tasks_41_ok {G : Gd} {d : Nat} (K8 : Nat → Int32 → Int32 → Int32 → Int32 → Hp → Option (Int32 × Hp)) (hj : 1 ≤ d) (hK8 : ∀ (l0 : Nat) (l1 : Int32) (l2 : Int32) (l3 : Int32) (l4 : Int32) (L : List (Nat × Value)) (h : Hp) (o : (Int32 × Hp)), zlk L 0 = some (zrf (l0)) → zlk L 1 = some (.int (l1)) → zlk L 2 = some (.int (l2)) → zlk L 3 = some (.int (l3)) → zlk L 4 = some (.int (l4)) → K8 l0 l1 l2 l3 l4 h = some o → Ev G M_X11_tasks d 8 L [] h (Ret Y_X11_tasks (some (.int o.1)) o.2)) : ∀ (s0 : Int32) (s1 : Int32) (l0 : Nat) (l1 : Int32) (l2 : Int32) (l4 : Int32) (L : List (Nat × Value)) (h : Hp) (o : (Int32 × Hp)), zlk L 0 = some (zrf (l0)) → zlk L 1 = some (.int (l1)) → zlk L 2 = some (.int (l2)) → zlk L 4 = some (.int (l4)) → f_X11_tasks_41 K8 s0 s1 l0 l1 l2 l4 h = some o → Ev G M_X11_tasks d 41 L [.int (s1), .int (s0)] h (Ret Y_X11_tasks (some (.int o.1)) o.2) := by
  intro s0 s1 l0 l1 l2 l4 L h o g0 g1 g2 g4 e
  unfold f_X11_tasks_41 at e
  refine r_iadd d_X11_tasks_41 ?_
  replace e := bhd e
  obtain ⟨_, rfl, e⟩ := e
  refine s_istore_n d_X11_tasks_42 rfl (by decide) (fun L g3 gK => ?_)
  replace g0 := gK _ _ (by decide) (Or.inr (zrf_cat _)) g0
  replace g1 := gK _ _ (by decide) (Or.inr rfl) g1
  replace g2 := gK _ _ (by decide) (Or.inr rfl) g2
  replace g4 := gK _ _ (by decide) (Or.inr rfl) g4
  replace e := bhd e
  obtain ⟨_, rfl, e⟩ := e
  refine s_iinc d_X11_tasks_43 g4 (w := (1 : Int32)) (by decide +kernel) (by decide) (fun L g4 gK => ?_)
  replace g0 := gK _ _ (by decide) (Or.inr (zrf_cat _)) g0
  replace g1 := gK _ _ (by decide) (Or.inr rfl) g1
  replace g2 := gK _ _ (by decide) (Or.inr rfl) g2
  replace g3 := gK _ _ (by decide) (Or.inr rfl) g3
  refine r_goto d_X11_tasks_46 (tgt := 8) (by decide) ?_
  exact hK8 _ _ _ _ _ _ _ _ g0 g1 g2 g3 g4 e

def f_X11_tasks_8 : Nat → Nat → Int32 → Int32 → Int32 → Int32 → Hp → Option (Int32 × Hp)
  | 0, _, _, _, _, _, _ => none
  | n + 1, l0, l1, l2, l3, l4, h => ck (isO (h) (l0) 12) (ck (isO (h) (zR (h) 1239 (l0)) 22) (ck (inR (l1) (zL (h) (zR (h) 1239 (l0)))) (if ((((16 : Int32)) * (l1)) + (zE (h) (zR (h) 1239 (l0)) (l1).toNatClampNeg)) ≤ (l4) then (some (l3, h)) else (ck (isO (h) (zR (h) 1252 (l0)) 22) (ck (inR (l4) (zL (h) (zR (h) 1252 (l0)))) (if (zE (h) (zR (h) 1252 (l0)) (l4).toNatClampNeg) < (l2) then (f_X11_tasks_41 (f_X11_tasks_8 n) (l3) ((0 : Int32)) (l0) (l1) (l2) (l4) (h)) else (f_X11_tasks_41 (f_X11_tasks_8 n) (l3) ((1 : Int32)) (l0) (l1) (l2) (l4) (h))))))))
theorem f_X11_tasks_8_ok {G : Gd} {d : Nat} (hj : 1 ≤ d) : ∀ (n : Nat) (l0 : Nat) (l1 : Int32) (l2 : Int32) (l3 : Int32) (l4 : Int32) (L : List (Nat × Value)) (h : Hp) (o : (Int32 × Hp)), zlk L 0 = some (zrf (l0)) → zlk L 1 = some (.int (l1)) → zlk L 2 = some (.int (l2)) → zlk L 3 = some (.int (l3)) → zlk L 4 = some (.int (l4)) → f_X11_tasks_8 n l0 l1 l2 l3 l4 h = some o → Ev G M_X11_tasks d 8 L [] h (Ret Y_X11_tasks (some (.int o.1)) o.2) := by
  intro n
  induction n with
  | zero =>
    intro l0 l1 l2 l3 l4 L h o g0 g1 g2 g3 g4 e
    cases e
  | succ n ih =>
    intro l0 l1 l2 l3 l4 L h o g0 g1 g2 g3 g4 e
    unfold f_X11_tasks_8 at e
    refine r_iload d_X11_tasks_8 g4 ?_
    refine r_bipush d_X11_tasks_10 (v := (16 : Int32)) (by decide +kernel) ?_
    refine r_iload_n d_X11_tasks_12 rfl g1 ?_
    refine r_imul d_X11_tasks_13 ?_
    refine g_ald_n d_X11_tasks_14 rfl g0 ?_
    replace e := ckd e
    obtain ⟨k2, e⟩ := e
    refine g_getR d_X11_tasks_15 (f := 1239) k2 fk_10_107 rfl rfl ?_
    refine r_iload_n d_X11_tasks_18 rfl g1 ?_
    replace e := ckd e
    obtain ⟨k3, e⟩ := e
    replace e := ckd e
    obtain ⟨k4, e⟩ := e
    refine g_iald d_X11_tasks_19 k3 k4 rfl ?_
    refine r_iadd d_X11_tasks_20 ?_
    refine r_icmp_ge d_X11_tasks_21 (tgt := 49) (by decide) (fun c5 => ?_) (fun c5 => ?_)
    · replace e := (if_pos c5).symm.trans e
      refine r_iload_n d_X11_tasks_49 rfl g3 ?_
      obtain rfl := Option.some.inj e
      exact g_iret d_X11_tasks_50 rfl rfl
    · replace e := (if_neg c5).symm.trans e
      refine r_iload_n d_X11_tasks_24 rfl g3 ?_
      refine g_ald_n d_X11_tasks_25 rfl g0 ?_
      refine g_getR d_X11_tasks_26 (f := 1252) k2 fk_10_146 rfl rfl ?_
      refine r_iload d_X11_tasks_29 g4 ?_
      replace e := ckd e
      obtain ⟨k6, e⟩ := e
      replace e := ckd e
      obtain ⟨k7, e⟩ := e
      refine g_iald d_X11_tasks_31 k6 k7 rfl ?_
      refine r_iload_n d_X11_tasks_32 rfl g2 ?_
      refine r_icmp_lt d_X11_tasks_33 (tgt := 40) (by decide) (fun c8 => ?_) (fun c8 => ?_)
      · replace e := (if_pos c8).symm.trans e
        refine r_iconst d_X11_tasks_40 (v := (0 : Int32)) (by decide +kernel) ?_
        exact f_X11_tasks_41_ok _ hj ih _ _ _ _ _ _ _ _ _ g0 g1 g2 g4 e
      · replace e := (if_neg c8).symm.trans e
        refine r_iconst d_X11_tasks_36 (v := (1 : Int32)) (by decide +kernel) ?_
        refine r_goto d_X11_tasks_37 (tgt := 41) (by decide) ?_
        exact f_X11_tasks_41_ok _ hj ih _ _ _ _ _ _ _ _ _ g0 g1 g2 g4 e

def f_X11_tasks (l0 : Nat) (l1 : Int32) (l2 : Int32) (h : Hp) : Option (Int32 × Hp) := bh (((16 : Int32)) * (l1)) (fun x1 => f_X11_tasks_8 fz (l0) (l1) (l2) ((0 : Int32)) (x1) (h))
theorem f_X11_tasks_ok {G : Gd} {d : Nat} (hj : 1 ≤ d) : ∀ (l0 : Nat) (l1 : Int32) (l2 : Int32) (L : List (Nat × Value)) (h : Hp) (o : (Int32 × Hp)), zlk L 0 = some (zrf (l0)) → zlk L 1 = some (.int (l1)) → zlk L 2 = some (.int (l2)) → f_X11_tasks l0 l1 l2 h = some o → Ev G M_X11_tasks d 0 L [] h (Ret Y_X11_tasks (some (.int o.1)) o.2) := by
  intro l0 l1 l2 L h o g0 g1 g2 e
  unfold f_X11_tasks at e
  refine r_iconst d_X11_tasks_0 (v := (0 : Int32)) (by decide +kernel) ?_
  refine s_istore_n d_X11_tasks_1 rfl (by decide) (fun L g3 gK => ?_)
  replace g0 := gK _ _ (by decide) (Or.inr (zrf_cat _)) g0
  replace g1 := gK _ _ (by decide) (Or.inr rfl) g1
  replace g2 := gK _ _ (by decide) (Or.inr rfl) g2
  refine r_bipush d_X11_tasks_2 (v := (16 : Int32)) (by decide +kernel) ?_
  refine r_iload_n d_X11_tasks_4 rfl g1 ?_
  refine r_imul d_X11_tasks_5 ?_
  replace e := bhd e
  obtain ⟨_, rfl, e⟩ := e
  refine s_istore d_X11_tasks_6 (by decide) (fun L g4 gK => ?_)
  replace g0 := gK _ _ (by decide) (Or.inr (zrf_cat _)) g0
  replace g1 := gK _ _ (by decide) (Or.inr rfl) g1
  replace g2 := gK _ _ (by decide) (Or.inr rfl) g2
  replace g3 := gK _ _ (by decide) (Or.inr rfl) g3
  exact f_X11_tasks_8_ok hj _ _ _ _ _ _ _ _ _ g0 g1 g2 g3 g4 e

theorem c_X11_tasks {G : Gd} {j : Nat} (hj : 1 ≤ j) {l0 : Nat} {l1 : Int32} {l2 : Int32} {h : Hp} {o : (Int32 × Hp)} (e : f_X11_tasks l0 l1 l2 h = some o) : Cal G j Y_X11_tasks [zrf (l0), .int (l1), .int (l2)] h (some (.int o.1)) o.2 := Cal.of (n := 0) (I := false) (by first | exact Or.inl (by decide +kernel) | exact Or.inr (by decide +kernel)) (by decide) (by simp [lg_sl, zrf_cat, cat_int, cat_long]) (f_X11_tasks_ok hj _ _ _ _ h o (by simp [lv_args, zlk, zrf_cat, cat_int, cat_long]) (by simp [lv_args, zlk, zrf_cat, cat_int, cat_long]) (by simp [lv_args, zlk, zrf_cat, cat_int, cat_long]) e)
theorem vk_10_445 : Vk "TaskWeaveModel" 445 2 12 Y_X11_tasks := ⟨yk_X11_tasks, by decide +kernel, by decide +kernel, by decide +kernel, by decide⟩
def f_X11_shard (l0 : Nat) (l1 : Int32) (l2 : Int32) (h : Hp) : Option (Int32 × Hp) := ck (isO (h) (l0) 12) (bh (pI (h) 1200 (l0) ((0 : Int32))) (fun h2 => (f_X11_in (l1) ((4 : Int32)) (h2)).bind (fun q3 => if (q3.1) = (0) then (some ((-1 : Int32), q3.2)) else (if (l2) = (0 : Int32) then (ck (isO (q3.2) (l0) 12) (ck (isO (q3.2) (zR (q3.2) 1237 (l0)) 22) (ck (inR (l1) (zL (q3.2) (zR (q3.2) 1237 (l0)))) (some (zE (q3.2) (zR (q3.2) 1237 (l0)) (l1).toNatClampNeg, q3.2))))) else (if (l2) = (1 : Int32) then (ck (isO (q3.2) (l0) 12) (ck (isO (q3.2) (zR (q3.2) 1238 (l0)) 22) (ck (inR (l1) (zL (q3.2) (zR (q3.2) 1238 (l0)))) (some (zE (q3.2) (zR (q3.2) 1238 (l0)) (l1).toNatClampNeg, q3.2))))) else (if (l2) = (2 : Int32) then (ck (isO (q3.2) (l0) 12) (ck (isO (q3.2) (zR (q3.2) 1236 (l0)) 22) (ck (inR (l1) (zL (q3.2) (zR (q3.2) 1236 (l0)))) (some (zE (q3.2) (zR (q3.2) 1236 (l0)) (l1).toNatClampNeg, q3.2))))) else (if (l2) = (3 : Int32) then (ck (isO (q3.2) (l0) 12) (ck (isO (q3.2) (zR (q3.2) 1239 (l0)) 22) (ck (inR (l1) (zL (q3.2) (zR (q3.2) 1239 (l0)))) (some (zE (q3.2) (zR (q3.2) 1239 (l0)) (l1).toNatClampNeg, q3.2))))) else (if (l2) = (4 : Int32) then (ck (isO (q3.2) (l0) 12) (ck (isO (q3.2) (zR (q3.2) 1257 (l0)) 22) (ck (inR (l1) (zL (q3.2) (zR (q3.2) 1257 (l0)))) (some (zE (q3.2) (zR (q3.2) 1257 (l0)) (l1).toNatClampNeg, q3.2))))) else (if (l2) = (5 : Int32) then (ck (isO (q3.2) (l0) 12) ((f_X11_tasks (l0) (l1) ((1 : Int32)) (q3.2)).bind (fun q26 => some (q26.1, q26.2)))) else (if (l2) = (6 : Int32) then (ck (isO (q3.2) (l0) 12) ((f_X11_tasks (l0) (l1) ((2 : Int32)) (q3.2)).bind (fun q29 => some (q29.1, q29.2)))) else (some ((-1 : Int32), q3.2))))))))))))
theorem f_X11_shard_ok {G : Gd} {d : Nat} (hj : 2 ≤ d) : ∀ (l0 : Nat) (l1 : Int32) (l2 : Int32) (L : List (Nat × Value)) (h : Hp) (o : (Int32 × Hp)), zlk L 0 = some (zrf (l0)) → zlk L 1 = some (.int (l1)) → zlk L 2 = some (.int (l2)) → f_X11_shard l0 l1 l2 h = some o → Ev G M_X11_shard d 0 L [] h (Ret Y_X11_shard (some (.int o.1)) o.2) := by
  intro l0 l1 l2 L h o g0 g1 g2 e
  unfold f_X11_shard at e
  refine g_ald_n d_X11_shard_0 rfl g0 ?_
  refine r_iconst d_X11_shard_1 (v := (0 : Int32)) (by decide +kernel) ?_
  replace e := ckd e
  obtain ⟨k1, e⟩ := e
  refine g_putI d_X11_shard_2 (f := 1200) k1 fk_10_183 rfl (Or.inl rfl) ⟨rfl, rfl⟩ ?_
  replace e := bhd e
  obtain ⟨_, rfl, e⟩ := e
  refine r_iload_n d_X11_shard_5 rfl g1 ?_
  refine r_iconst d_X11_shard_6 (v := (4 : Int32)) (by decide +kernel) ?_
  replace e := bd e
  obtain ⟨q3, eq3, e⟩ := e
  refine g_callS d_X11_shard_7 sk_10_230 (as := [_, _]) rfl rfl (by simp [zrf_cat, cat_int, cat_long]) (j := 1) (by omega) (c_X11_in (by omega) eq3) ?_
  refine r_if_ne d_X11_shard_10 (tgt := 15) (by decide) (fun c4 => ?_) (fun c4 => ?_)
  · replace e := (if_neg c4).symm.trans e
    refine r_iload_n d_X11_shard_15 rfl g2 ?_
    rcases ite_or e with ⟨c5, e⟩ | ⟨c5, e⟩
    · refine r_tableIn d_X11_shard_16 (off := 44) (tgt := 60) (by rw [c5]; decide +kernel) (by rw [c5]; decide +kernel) (by rw [c5] <;> rfl) (by decide) ?_
      refine g_ald_n d_X11_shard_60 rfl g0 ?_
      replace e := ckd e
      obtain ⟨k6, e⟩ := e
      refine g_getR d_X11_shard_61 (f := 1237) k6 fk_10_101 rfl rfl ?_
      refine r_iload_n d_X11_shard_64 rfl g1 ?_
      replace e := ckd e
      obtain ⟨k7, e⟩ := e
      replace e := ckd e
      obtain ⟨k8, e⟩ := e
      refine g_iald d_X11_shard_65 k7 k8 rfl ?_
      obtain rfl := Option.some.inj e
      exact g_iret d_X11_shard_66 rfl rfl
    · rcases ite_or e with ⟨c9, e⟩ | ⟨c9, e⟩
      · refine r_tableIn d_X11_shard_16 (off := 51) (tgt := 67) (by rw [c9]; decide +kernel) (by rw [c9]; decide +kernel) (by rw [c9] <;> rfl) (by decide) ?_
        refine g_ald_n d_X11_shard_67 rfl g0 ?_
        replace e := ckd e
        obtain ⟨k10, e⟩ := e
        refine g_getR d_X11_shard_68 (f := 1238) k10 fk_10_104 rfl rfl ?_
        refine r_iload_n d_X11_shard_71 rfl g1 ?_
        replace e := ckd e
        obtain ⟨k11, e⟩ := e
        replace e := ckd e
        obtain ⟨k12, e⟩ := e
        refine g_iald d_X11_shard_72 k11 k12 rfl ?_
        obtain rfl := Option.some.inj e
        exact g_iret d_X11_shard_73 rfl rfl
      · rcases ite_or e with ⟨c13, e⟩ | ⟨c13, e⟩
        · refine r_tableIn d_X11_shard_16 (off := 58) (tgt := 74) (by rw [c13]; decide +kernel) (by rw [c13]; decide +kernel) (by rw [c13] <;> rfl) (by decide) ?_
          refine g_ald_n d_X11_shard_74 rfl g0 ?_
          replace e := ckd e
          obtain ⟨k14, e⟩ := e
          refine g_getR d_X11_shard_75 (f := 1236) k14 fk_10_98 rfl rfl ?_
          refine r_iload_n d_X11_shard_78 rfl g1 ?_
          replace e := ckd e
          obtain ⟨k15, e⟩ := e
          replace e := ckd e
          obtain ⟨k16, e⟩ := e
          refine g_iald d_X11_shard_79 k15 k16 rfl ?_
          obtain rfl := Option.some.inj e
          exact g_iret d_X11_shard_80 rfl rfl
        · rcases ite_or e with ⟨c17, e⟩ | ⟨c17, e⟩
          · refine r_tableIn d_X11_shard_16 (off := 65) (tgt := 81) (by rw [c17]; decide +kernel) (by rw [c17]; decide +kernel) (by rw [c17] <;> rfl) (by decide) ?_
            refine g_ald_n d_X11_shard_81 rfl g0 ?_
            replace e := ckd e
            obtain ⟨k18, e⟩ := e
            refine g_getR d_X11_shard_82 (f := 1239) k18 fk_10_107 rfl rfl ?_
            refine r_iload_n d_X11_shard_85 rfl g1 ?_
            replace e := ckd e
            obtain ⟨k19, e⟩ := e
            replace e := ckd e
            obtain ⟨k20, e⟩ := e
            refine g_iald d_X11_shard_86 k19 k20 rfl ?_
            obtain rfl := Option.some.inj e
            exact g_iret d_X11_shard_87 rfl rfl
          · rcases ite_or e with ⟨c21, e⟩ | ⟨c21, e⟩
            · refine r_tableIn d_X11_shard_16 (off := 72) (tgt := 88) (by rw [c21]; decide +kernel) (by rw [c21]; decide +kernel) (by rw [c21] <;> rfl) (by decide) ?_
              refine g_ald_n d_X11_shard_88 rfl g0 ?_
              replace e := ckd e
              obtain ⟨k22, e⟩ := e
              refine g_getR d_X11_shard_89 (f := 1257) k22 fk_10_161 rfl rfl ?_
              refine r_iload_n d_X11_shard_92 rfl g1 ?_
              replace e := ckd e
              obtain ⟨k23, e⟩ := e
              replace e := ckd e
              obtain ⟨k24, e⟩ := e
              refine g_iald d_X11_shard_93 k23 k24 rfl ?_
              obtain rfl := Option.some.inj e
              exact g_iret d_X11_shard_94 rfl rfl
            · rcases ite_or e with ⟨c25, e⟩ | ⟨c25, e⟩
              · refine r_tableIn d_X11_shard_16 (off := 79) (tgt := 95) (by rw [c25]; decide +kernel) (by rw [c25]; decide +kernel) (by rw [c25] <;> rfl) (by decide) ?_
                refine g_ald_n d_X11_shard_95 rfl g0 ?_
                refine r_iload_n d_X11_shard_96 rfl g1 ?_
                refine r_iconst d_X11_shard_97 (v := (1 : Int32)) (by decide +kernel) ?_
                replace e := ckd e
                obtain ⟨k27, e⟩ := e
                replace e := bd e
                obtain ⟨q26, eq26, e⟩ := e
                refine g_callV d_X11_shard_98 vk_10_445 (as := [_, _]) rfl k27 rfl (by simp [zrf_cat, cat_int, cat_long]) (j := 1) (by omega) (c_X11_tasks (by omega) eq26) ?_
                obtain rfl := Option.some.inj e
                exact g_iret d_X11_shard_101 rfl rfl
              · rcases ite_or e with ⟨c28, e⟩ | ⟨c28, e⟩
                · refine r_tableIn d_X11_shard_16 (off := 86) (tgt := 102) (by rw [c28]; decide +kernel) (by rw [c28]; decide +kernel) (by rw [c28] <;> rfl) (by decide) ?_
                  refine g_ald_n d_X11_shard_102 rfl g0 ?_
                  refine r_iload_n d_X11_shard_103 rfl g1 ?_
                  refine r_iconst d_X11_shard_104 (v := (2 : Int32)) (by decide +kernel) ?_
                  replace e := ckd e
                  obtain ⟨k30, e⟩ := e
                  replace e := bd e
                  obtain ⟨q29, eq29, e⟩ := e
                  refine g_callV d_X11_shard_105 vk_10_445 (as := [_, _]) rfl k30 rfl (by simp [zrf_cat, cat_int, cat_long]) (j := 1) (by omega) (c_X11_tasks (by omega) eq29) ?_
                  obtain rfl := Option.some.inj e
                  exact g_iret d_X11_shard_108 rfl rfl
                · refine r_tableOut d_X11_shard_16 (tgt := 109) (by have := lv_neT (a := 0) c5 (by decide +kernel); have := lv_neT (a := 1) c9 (by decide +kernel); have := lv_neT (a := 2) c13 (by decide +kernel); have := lv_neT (a := 3) c17 (by decide +kernel); have := lv_neT (a := 4) c21 (by decide +kernel); have := lv_neT (a := 5) c25 (by decide +kernel); have := lv_neT (a := 6) c28 (by decide +kernel); omega) (by decide) ?_
                  refine r_iconst d_X11_shard_109 (v := (-1 : Int32)) (by decide +kernel) ?_
                  obtain rfl := Option.some.inj e
                  exact g_iret d_X11_shard_110 rfl rfl
  · replace e := (if_pos c4).symm.trans e
    refine r_iconst d_X11_shard_13 (v := (-1 : Int32)) (by decide +kernel) ?_
    obtain rfl := Option.some.inj e
    exact g_iret d_X11_shard_14 rfl rfl

theorem c_X11_shard {G : Gd} {j : Nat} (hj : 2 ≤ j) {l0 : Nat} {l1 : Int32} {l2 : Int32} {h : Hp} {o : (Int32 × Hp)} (e : f_X11_shard l0 l1 l2 h = some o) : Cal G j Y_X11_shard [zrf (l0), .int (l1), .int (l2)] h (some (.int o.1)) o.2 := Cal.of (n := 0) (I := false) (by first | exact Or.inl (by decide +kernel) | exact Or.inr (by decide +kernel)) (by decide) (by simp [lg_sl, zrf_cat, cat_int, cat_long]) (f_X11_shard_ok hj _ _ _ _ h o (by simp [lv_args, zlk, zrf_cat, cat_int, cat_long]) (by simp [lv_args, zlk, zrf_cat, cat_int, cat_long]) (by simp [lv_args, zlk, zrf_cat, cat_int, cat_long]) e)
def f_X11_replica (l0 : Nat) (l1 : Int32) (l2 : Int32) (l3 : Int32) (h : Hp) : Option (Int32 × Hp) := ck (isO (h) (l0) 12) (bh (pI (h) 1200 (l0) ((0 : Int32))) (fun h2 => (f_X11_isReplica (l0) (l1) (l2) (h2)).bind (fun q3 => if (q3.1) = (0) then (some ((-1 : Int32), q3.2)) else (bh ((((5 : Int32)) * (l1)) + (l2)) (fun x5 => if (l3) = (0 : Int32) then (ck (isO (q3.2) (l0) 12) (ck (isO (q3.2) (zR (q3.2) 1234 (l0)) 23) (ck (inR (x5) (zL (q3.2) (zR (q3.2) 1234 (l0)))) (if (zE (q3.2) (zR (q3.2) 1234 (l0)) (x5).toNatClampNeg) = (0) then (some ((0 : Int32), q3.2)) else (some ((1 : Int32), q3.2)))))) else (if (l3) = (1 : Int32) then (ck (isO (q3.2) (l0) 12) (ck (isO (q3.2) (zR (q3.2) 1231 (l0)) 22) (ck (inR (x5) (zL (q3.2) (zR (q3.2) 1231 (l0)))) (some (zE (q3.2) (zR (q3.2) 1231 (l0)) (x5).toNatClampNeg, q3.2))))) else (if (l3) = (2 : Int32) then (ck (isO (q3.2) (l0) 12) (ck (isO (q3.2) (zR (q3.2) 1232 (l0)) 22) (ck (inR (x5) (zL (q3.2) (zR (q3.2) 1232 (l0)))) (some (zE (q3.2) (zR (q3.2) 1232 (l0)) (x5).toNatClampNeg, q3.2))))) else (if (l3) = (3 : Int32) then (ck (isO (q3.2) (l0) 12) (ck (isO (q3.2) (zR (q3.2) 1235 (l0)) 22) (ck (inR (x5) (zL (q3.2) (zR (q3.2) 1235 (l0)))) (some (zE (q3.2) (zR (q3.2) 1235 (l0)) (x5).toNatClampNeg, q3.2))))) else (some ((-1 : Int32), q3.2))))))))))
theorem f_X11_replica_ok {G : Gd} {d : Nat} (hj : 3 ≤ d) : ∀ (l0 : Nat) (l1 : Int32) (l2 : Int32) (l3 : Int32) (L : List (Nat × Value)) (h : Hp) (o : (Int32 × Hp)), zlk L 0 = some (zrf (l0)) → zlk L 1 = some (.int (l1)) → zlk L 2 = some (.int (l2)) → zlk L 3 = some (.int (l3)) → f_X11_replica l0 l1 l2 l3 h = some o → Ev G M_X11_replica d 0 L [] h (Ret Y_X11_replica (some (.int o.1)) o.2) := by
  intro l0 l1 l2 l3 L h o g0 g1 g2 g3 e
  unfold f_X11_replica at e
  refine g_ald_n d_X11_replica_0 rfl g0 ?_
  refine r_iconst d_X11_replica_1 (v := (0 : Int32)) (by decide +kernel) ?_
  replace e := ckd e
  obtain ⟨k1, e⟩ := e
  refine g_putI d_X11_replica_2 (f := 1200) k1 fk_10_183 rfl (Or.inl rfl) ⟨rfl, rfl⟩ ?_
  replace e := bhd e
  obtain ⟨_, rfl, e⟩ := e
  refine g_ald_n d_X11_replica_5 rfl g0 ?_
  refine r_iload_n d_X11_replica_6 rfl g1 ?_
  refine r_iload_n d_X11_replica_7 rfl g2 ?_
  replace e := bd e
  obtain ⟨q3, eq3, e⟩ := e
  refine g_callV d_X11_replica_8 vk_10_441 (as := [_, _]) rfl (tO_pI k1) rfl (by simp [zrf_cat, cat_int, cat_long]) (j := 2) (by omega) (c_X11_isReplica (by omega) eq3) ?_
  refine r_if_ne d_X11_replica_11 (tgt := 16) (by decide) (fun c4 => ?_) (fun c4 => ?_)
  · replace e := (if_neg c4).symm.trans e
    refine r_iconst d_X11_replica_16 (v := (5 : Int32)) (by decide +kernel) ?_
    refine r_iload_n d_X11_replica_17 rfl g1 ?_
    refine r_imul d_X11_replica_18 ?_
    refine r_iload_n d_X11_replica_19 rfl g2 ?_
    refine r_iadd d_X11_replica_20 ?_
    replace e := bhd e
    obtain ⟨_, rfl, e⟩ := e
    refine s_istore d_X11_replica_21 (by decide) (fun L g4 gK => ?_)
    replace g0 := gK _ _ (by decide) (Or.inr (zrf_cat _)) g0
    replace g3 := gK _ _ (by decide) (Or.inr rfl) g3
    refine r_iload_n d_X11_replica_23 rfl g3 ?_
    rcases ite_or e with ⟨c6, e⟩ | ⟨c6, e⟩
    · refine r_tableIn d_X11_replica_24 (off := 32) (tgt := 56) (by rw [c6]; decide +kernel) (by rw [c6]; decide +kernel) (by rw [c6] <;> rfl) (by decide) ?_
      refine g_ald_n d_X11_replica_56 rfl g0 ?_
      replace e := ckd e
      obtain ⟨k7, e⟩ := e
      refine g_getR d_X11_replica_57 (f := 1234) k7 fk_10_92 rfl rfl ?_
      refine r_iload d_X11_replica_60 g4 ?_
      replace e := ckd e
      obtain ⟨k8, e⟩ := e
      replace e := ckd e
      obtain ⟨k9, e⟩ := e
      refine g_zald d_X11_replica_62 k8 k9 rfl ?_
      refine r_if_eq d_X11_replica_63 (tgt := 70) (by decide) (fun c10 => ?_) (fun c10 => ?_)
      · replace e := (if_pos c10).symm.trans e
        refine r_iconst d_X11_replica_70 (v := (0 : Int32)) (by decide +kernel) ?_
        obtain rfl := Option.some.inj e
        exact g_iret d_X11_replica_71 rfl rfl
      · replace e := (if_neg c10).symm.trans e
        refine r_iconst d_X11_replica_66 (v := (1 : Int32)) (by decide +kernel) ?_
        refine r_goto d_X11_replica_67 (tgt := 71) (by decide) ?_
        obtain rfl := Option.some.inj e
        exact g_iret d_X11_replica_71 rfl rfl
    · rcases ite_or e with ⟨c11, e⟩ | ⟨c11, e⟩
      · refine r_tableIn d_X11_replica_24 (off := 48) (tgt := 72) (by rw [c11]; decide +kernel) (by rw [c11]; decide +kernel) (by rw [c11] <;> rfl) (by decide) ?_
        refine g_ald_n d_X11_replica_72 rfl g0 ?_
        replace e := ckd e
        obtain ⟨k12, e⟩ := e
        refine g_getR d_X11_replica_73 (f := 1231) k12 fk_10_83 rfl rfl ?_
        refine r_iload d_X11_replica_76 g4 ?_
        replace e := ckd e
        obtain ⟨k13, e⟩ := e
        replace e := ckd e
        obtain ⟨k14, e⟩ := e
        refine g_iald d_X11_replica_78 k13 k14 rfl ?_
        obtain rfl := Option.some.inj e
        exact g_iret d_X11_replica_79 rfl rfl
      · rcases ite_or e with ⟨c15, e⟩ | ⟨c15, e⟩
        · refine r_tableIn d_X11_replica_24 (off := 56) (tgt := 80) (by rw [c15]; decide +kernel) (by rw [c15]; decide +kernel) (by rw [c15] <;> rfl) (by decide) ?_
          refine g_ald_n d_X11_replica_80 rfl g0 ?_
          replace e := ckd e
          obtain ⟨k16, e⟩ := e
          refine g_getR d_X11_replica_81 (f := 1232) k16 fk_10_86 rfl rfl ?_
          refine r_iload d_X11_replica_84 g4 ?_
          replace e := ckd e
          obtain ⟨k17, e⟩ := e
          replace e := ckd e
          obtain ⟨k18, e⟩ := e
          refine g_iald d_X11_replica_86 k17 k18 rfl ?_
          obtain rfl := Option.some.inj e
          exact g_iret d_X11_replica_87 rfl rfl
        · rcases ite_or e with ⟨c19, e⟩ | ⟨c19, e⟩
          · refine r_tableIn d_X11_replica_24 (off := 64) (tgt := 88) (by rw [c19]; decide +kernel) (by rw [c19]; decide +kernel) (by rw [c19] <;> rfl) (by decide) ?_
            refine g_ald_n d_X11_replica_88 rfl g0 ?_
            replace e := ckd e
            obtain ⟨k20, e⟩ := e
            refine g_getR d_X11_replica_89 (f := 1235) k20 fk_10_95 rfl rfl ?_
            refine r_iload d_X11_replica_92 g4 ?_
            replace e := ckd e
            obtain ⟨k21, e⟩ := e
            replace e := ckd e
            obtain ⟨k22, e⟩ := e
            refine g_iald d_X11_replica_94 k21 k22 rfl ?_
            obtain rfl := Option.some.inj e
            exact g_iret d_X11_replica_95 rfl rfl
          · refine r_tableOut d_X11_replica_24 (tgt := 96) (by have := lv_neT (a := 0) c6 (by decide +kernel); have := lv_neT (a := 1) c11 (by decide +kernel); have := lv_neT (a := 2) c15 (by decide +kernel); have := lv_neT (a := 3) c19 (by decide +kernel); omega) (by decide) ?_
            refine r_iconst d_X11_replica_96 (v := (-1 : Int32)) (by decide +kernel) ?_
            obtain rfl := Option.some.inj e
            exact g_iret d_X11_replica_97 rfl rfl
  · replace e := (if_pos c4).symm.trans e
    refine r_iconst d_X11_replica_14 (v := (-1 : Int32)) (by decide +kernel) ?_
    obtain rfl := Option.some.inj e
    exact g_iret d_X11_replica_15 rfl rfl

theorem c_X11_replica {G : Gd} {j : Nat} (hj : 3 ≤ j) {l0 : Nat} {l1 : Int32} {l2 : Int32} {l3 : Int32} {h : Hp} {o : (Int32 × Hp)} (e : f_X11_replica l0 l1 l2 l3 h = some o) : Cal G j Y_X11_replica [zrf (l0), .int (l1), .int (l2), .int (l3)] h (some (.int o.1)) o.2 := Cal.of (n := 0) (I := false) (by first | exact Or.inl (by decide +kernel) | exact Or.inr (by decide +kernel)) (by decide) (by simp [lg_sl, zrf_cat, cat_int, cat_long]) (f_X11_replica_ok hj _ _ _ _ _ h o (by simp [lv_args, zlk, zrf_cat, cat_int, cat_long]) (by simp [lv_args, zlk, zrf_cat, cat_int, cat_long]) (by simp [lv_args, zlk, zrf_cat, cat_int, cat_long]) (by simp [lv_args, zlk, zrf_cat, cat_int, cat_long]) e)
def f_X11_byteOf (l0 : Int32) (l1 : Int32) (h : Hp) : Option (Int32 × Hp) := some (((l0) >>> ((((8 : Int32)) * (l1)) &&& 31)) &&& ((255 : Int32)), h)
theorem f_X11_byteOf_ok {G : Gd} {d : Nat} (hj : 1 ≤ d) : ∀ (l0 : Int32) (l1 : Int32) (L : List (Nat × Value)) (h : Hp) (o : (Int32 × Hp)), zlk L 0 = some (.int (l0)) → zlk L 1 = some (.int (l1)) → f_X11_byteOf l0 l1 h = some o → Ev G M_X11_byteOf d 0 L [] h (Ret Y_X11_byteOf (some (.int o.1)) o.2) := by
  intro l0 l1 L h o g0 g1 e
  unfold f_X11_byteOf at e
  refine r_iload_n d_X11_byteOf_0 rfl g0 ?_
  refine r_bipush d_X11_byteOf_1 (v := (8 : Int32)) (by decide +kernel) ?_
  refine r_iload_n d_X11_byteOf_3 rfl g1 ?_
  refine r_imul d_X11_byteOf_4 ?_
  refine r_ishr d_X11_byteOf_5 ?_
  refine r_sipush d_X11_byteOf_6 (v := (255 : Int32)) (by decide +kernel) ?_
  refine r_iand d_X11_byteOf_9 ?_
  obtain rfl := Option.some.inj e
  exact g_iret d_X11_byteOf_10 rfl rfl

theorem c_X11_byteOf {G : Gd} {j : Nat} (hj : 1 ≤ j) {l0 : Int32} {l1 : Int32} {h : Hp} {o : (Int32 × Hp)} (e : f_X11_byteOf l0 l1 h = some o) : Cal G j Y_X11_byteOf [.int (l0), .int (l1)] h (some (.int o.1)) o.2 := Cal.of (n := 0) (I := false) (by first | exact Or.inl (by decide +kernel) | exact Or.inr (by decide +kernel)) (by decide) (by simp [lg_sl, zrf_cat, cat_int, cat_long]) (f_X11_byteOf_ok hj _ _ _ h o (by simp [lv_args, zlk, zrf_cat, cat_int, cat_long]) (by simp [lv_args, zlk, zrf_cat, cat_int, cat_long]) e)
theorem sk_10_448 : Sk "TaskWeaveModel" 448 2 Y_X11_byteOf := ⟨yk_X11_byteOf, by decide +kernel, by decide +kernel⟩
def f_X11_disk_137 (s0 : Int32) (l0 : Nat) (l7 : Int32) (h : Hp) : Option (Int32 × Hp) := bh ((l7) - (l7) / ((16 : Int32)) * ((16 : Int32))) (fun x24 => if (x24) = (0) then (ck (isO (h) (l0) 12) (ck (isO (h) (zR (h) 1225 (l0)) 22) (ck (inR (s0) (zL (h) (zR (h) 1225 (l0)))) (some (zE (h) (zR (h) 1225 (l0)) (s0).toNatClampNeg, h))))) else (if ((3 : Int32)) ≤ (x24) then (if (x24) = ((15 : Int32)) then (some ((1 : Int32), h)) else (if ((7 : Int32)) ≤ (x24) then (if ((11 : Int32)) ≤ (x24) then (ck (isO (h) (l0) 12) (ck (isO (h) (zR (h) 1229 (l0)) 22) (ck (inR (s0) (zL (h) (zR (h) 1229 (l0)))) (bh (zE (h) (zR (h) 1229 (l0)) (s0).toNatClampNeg) (fun x33 => (f_X11_byteOf (x33) (((3 : Int32)) - (((x24) - ((3 : Int32))) - ((x24) - ((3 : Int32))) / ((4 : Int32)) * ((4 : Int32)))) (h)).bind (fun q34 => some (q34.1, q34.2))))))) else (ck (isO (h) (l0) 12) (ck (isO (h) (zR (h) 1228 (l0)) 22) (ck (inR (s0) (zL (h) (zR (h) 1228 (l0)))) (bh (zE (h) (zR (h) 1228 (l0)) (s0).toNatClampNeg) (fun x38 => (f_X11_byteOf (x38) (((3 : Int32)) - (((x24) - ((3 : Int32))) - ((x24) - ((3 : Int32))) / ((4 : Int32)) * ((4 : Int32)))) (h)).bind (fun q39 => some (q39.1, q39.2)))))))) else (ck (isO (h) (l0) 12) (ck (isO (h) (zR (h) 1227 (l0)) 22) (ck (inR (s0) (zL (h) (zR (h) 1227 (l0)))) (bh (zE (h) (zR (h) 1227 (l0)) (s0).toNatClampNeg) (fun x43 => (f_X11_byteOf (x43) (((3 : Int32)) - (((x24) - ((3 : Int32))) - ((x24) - ((3 : Int32))) / ((4 : Int32)) * ((4 : Int32)))) (h)).bind (fun q44 => some (q44.1, q44.2))))))))) else (ck (isO (h) (l0) 12) (ck (isO (h) (zR (h) 1226 (l0)) 22) (ck (inR (s0) (zL (h) (zR (h) 1226 (l0)))) ((f_X11_byteOf (zE (h) (zR (h) 1226 (l0)) (s0).toNatClampNeg) (((2 : Int32)) - (x24)) (h)).bind (fun q48 => some (q48.1, q48.2))))))))
theorem f_X11_disk_137_ok {G : Gd} {d : Nat} (hj : 3 ≤ d) : ∀ (s0 : Int32) (l0 : Nat) (l7 : Int32) (L : List (Nat × Value)) (h : Hp) (o : (Int32 × Hp)), zlk L 0 = some (zrf (l0)) → zlk L 7 = some (.int (l7)) → f_X11_disk_137 s0 l0 l7 h = some o → Ev G M_X11_disk d 137 L [.int (s0)] h (Ret Y_X11_disk (some (.int o.1)) o.2) := by
  intro s0 l0 l7 L h o g0 g7 e
  unfold f_X11_disk_137 at e
  refine s_istore d_X11_disk_137 (by decide) (fun L g8 gK => ?_)
  replace g0 := gK _ _ (by decide) (Or.inr (zrf_cat _)) g0
  replace g7 := gK _ _ (by decide) (Or.inr rfl) g7
  refine r_iload d_X11_disk_139 g7 ?_
  refine r_bipush d_X11_disk_141 (v := (16 : Int32)) (by decide +kernel) ?_
  refine r_irem d_X11_disk_143 (by decide +kernel) ?_
  replace e := bhd e
  obtain ⟨_, rfl, e⟩ := e
  refine s_istore d_X11_disk_144 (by decide) (fun L g9 gK => ?_)
  replace g0 := gK _ _ (by decide) (Or.inr (zrf_cat _)) g0
  replace g8 := gK _ _ (by decide) (Or.inr rfl) g8
  refine r_iload d_X11_disk_146 g9 ?_
  refine r_if_ne d_X11_disk_148 (tgt := 159) (by decide) (fun c25 => ?_) (fun c25 => ?_)
  · replace e := (if_neg c25).symm.trans e
    refine r_iload d_X11_disk_159 g9 ?_
    refine r_iconst d_X11_disk_161 (v := (3 : Int32)) (by decide +kernel) ?_
    refine r_icmp_ge d_X11_disk_162 (tgt := 180) (by decide) (fun c26 => ?_) (fun c26 => ?_)
    · replace e := (if_pos c26).symm.trans e
      refine r_iload d_X11_disk_180 g9 ?_
      refine r_bipush d_X11_disk_182 (v := (15 : Int32)) (by decide +kernel) ?_
      refine r_icmp_ne d_X11_disk_184 (tgt := 189) (by decide) (fun c27 => ?_) (fun c27 => ?_)
      · replace e := (if_neg c27).symm.trans e
        refine r_iload d_X11_disk_189 g9 ?_
        refine r_bipush d_X11_disk_191 (v := (7 : Int32)) (by decide +kernel) ?_
        refine r_icmp_ge d_X11_disk_193 (tgt := 206) (by decide) (fun c28 => ?_) (fun c28 => ?_)
        · replace e := (if_pos c28).symm.trans e
          refine r_iload d_X11_disk_206 g9 ?_
          refine r_bipush d_X11_disk_208 (v := (11 : Int32)) (by decide +kernel) ?_
          refine r_icmp_ge d_X11_disk_210 (tgt := 223) (by decide) (fun c29 => ?_) (fun c29 => ?_)
          · replace e := (if_pos c29).symm.trans e
            refine g_ald_n d_X11_disk_223 rfl g0 ?_
            replace e := ckd e
            obtain ⟨k30, e⟩ := e
            refine g_getR d_X11_disk_224 (f := 1229) k30 fk_10_76 rfl rfl ?_
            refine r_iload d_X11_disk_227 g8 ?_
            replace e := ckd e
            obtain ⟨k31, e⟩ := e
            replace e := ckd e
            obtain ⟨k32, e⟩ := e
            refine g_iald d_X11_disk_229 k31 k32 rfl ?_
            replace e := bhd e
            obtain ⟨_, rfl, e⟩ := e
            refine s_istore d_X11_disk_230 (by decide) (fun L g10 gK => ?_)
            replace g9 := gK _ _ (by decide) (Or.inr rfl) g9
            refine r_iload d_X11_disk_232 g10 ?_
            refine r_iconst d_X11_disk_234 (v := (3 : Int32)) (by decide +kernel) ?_
            refine r_iload d_X11_disk_235 g9 ?_
            refine r_iconst d_X11_disk_237 (v := (3 : Int32)) (by decide +kernel) ?_
            refine r_isub d_X11_disk_238 ?_
            refine r_iconst d_X11_disk_239 (v := (4 : Int32)) (by decide +kernel) ?_
            refine r_irem d_X11_disk_240 (by decide +kernel) ?_
            refine r_isub d_X11_disk_241 ?_
            replace e := bd e
            obtain ⟨q34, eq34, e⟩ := e
            refine g_callS d_X11_disk_242 sk_10_448 (as := [_, _]) rfl rfl (by simp [zrf_cat, cat_int, cat_long]) (j := 1) (by omega) (c_X11_byteOf (by omega) eq34) ?_
            obtain rfl := Option.some.inj e
            exact g_iret d_X11_disk_245 rfl rfl
          · replace e := (if_neg c29).symm.trans e
            refine g_ald_n d_X11_disk_213 rfl g0 ?_
            replace e := ckd e
            obtain ⟨k35, e⟩ := e
            refine g_getR d_X11_disk_214 (f := 1228) k35 fk_10_73 rfl rfl ?_
            refine r_iload d_X11_disk_217 g8 ?_
            replace e := ckd e
            obtain ⟨k36, e⟩ := e
            replace e := ckd e
            obtain ⟨k37, e⟩ := e
            refine g_iald d_X11_disk_219 k36 k37 rfl ?_
            refine r_goto d_X11_disk_220 (tgt := 230) (by decide) ?_
            replace e := bhd e
            obtain ⟨_, rfl, e⟩ := e
            refine s_istore d_X11_disk_230 (by decide) (fun L g10 gK => ?_)
            replace g9 := gK _ _ (by decide) (Or.inr rfl) g9
            refine r_iload d_X11_disk_232 g10 ?_
            refine r_iconst d_X11_disk_234 (v := (3 : Int32)) (by decide +kernel) ?_
            refine r_iload d_X11_disk_235 g9 ?_
            refine r_iconst d_X11_disk_237 (v := (3 : Int32)) (by decide +kernel) ?_
            refine r_isub d_X11_disk_238 ?_
            refine r_iconst d_X11_disk_239 (v := (4 : Int32)) (by decide +kernel) ?_
            refine r_irem d_X11_disk_240 (by decide +kernel) ?_
            refine r_isub d_X11_disk_241 ?_
            replace e := bd e
            obtain ⟨q39, eq39, e⟩ := e
            refine g_callS d_X11_disk_242 sk_10_448 (as := [_, _]) rfl rfl (by simp [zrf_cat, cat_int, cat_long]) (j := 1) (by omega) (c_X11_byteOf (by omega) eq39) ?_
            obtain rfl := Option.some.inj e
            exact g_iret d_X11_disk_245 rfl rfl
        · replace e := (if_neg c28).symm.trans e
          refine g_ald_n d_X11_disk_196 rfl g0 ?_
          replace e := ckd e
          obtain ⟨k40, e⟩ := e
          refine g_getR d_X11_disk_197 (f := 1227) k40 fk_10_70 rfl rfl ?_
          refine r_iload d_X11_disk_200 g8 ?_
          replace e := ckd e
          obtain ⟨k41, e⟩ := e
          replace e := ckd e
          obtain ⟨k42, e⟩ := e
          refine g_iald d_X11_disk_202 k41 k42 rfl ?_
          refine r_goto d_X11_disk_203 (tgt := 230) (by decide) ?_
          replace e := bhd e
          obtain ⟨_, rfl, e⟩ := e
          refine s_istore d_X11_disk_230 (by decide) (fun L g10 gK => ?_)
          replace g9 := gK _ _ (by decide) (Or.inr rfl) g9
          refine r_iload d_X11_disk_232 g10 ?_
          refine r_iconst d_X11_disk_234 (v := (3 : Int32)) (by decide +kernel) ?_
          refine r_iload d_X11_disk_235 g9 ?_
          refine r_iconst d_X11_disk_237 (v := (3 : Int32)) (by decide +kernel) ?_
          refine r_isub d_X11_disk_238 ?_
          refine r_iconst d_X11_disk_239 (v := (4 : Int32)) (by decide +kernel) ?_
          refine r_irem d_X11_disk_240 (by decide +kernel) ?_
          refine r_isub d_X11_disk_241 ?_
          replace e := bd e
          obtain ⟨q44, eq44, e⟩ := e
          refine g_callS d_X11_disk_242 sk_10_448 (as := [_, _]) rfl rfl (by simp [zrf_cat, cat_int, cat_long]) (j := 1) (by omega) (c_X11_byteOf (by omega) eq44) ?_
          obtain rfl := Option.some.inj e
          exact g_iret d_X11_disk_245 rfl rfl
      · replace e := (if_pos c27).symm.trans e
        refine r_iconst d_X11_disk_187 (v := (1 : Int32)) (by decide +kernel) ?_
        obtain rfl := Option.some.inj e
        exact g_iret d_X11_disk_188 rfl rfl
    · replace e := (if_neg c26).symm.trans e
      refine g_ald_n d_X11_disk_165 rfl g0 ?_
      replace e := ckd e
      obtain ⟨k45, e⟩ := e
      refine g_getR d_X11_disk_166 (f := 1226) k45 fk_10_67 rfl rfl ?_
      refine r_iload d_X11_disk_169 g8 ?_
      replace e := ckd e
      obtain ⟨k46, e⟩ := e
      replace e := ckd e
      obtain ⟨k47, e⟩ := e
      refine g_iald d_X11_disk_171 k46 k47 rfl ?_
      refine r_iconst d_X11_disk_172 (v := (2 : Int32)) (by decide +kernel) ?_
      refine r_iload d_X11_disk_173 g9 ?_
      refine r_isub d_X11_disk_175 ?_
      replace e := bd e
      obtain ⟨q48, eq48, e⟩ := e
      refine g_callS d_X11_disk_176 sk_10_448 (as := [_, _]) rfl rfl (by simp [zrf_cat, cat_int, cat_long]) (j := 1) (by omega) (c_X11_byteOf (by omega) eq48) ?_
      obtain rfl := Option.some.inj e
      exact g_iret d_X11_disk_179 rfl rfl
  · replace e := (if_pos c25).symm.trans e
    refine g_ald_n d_X11_disk_151 rfl g0 ?_
    replace e := ckd e
    obtain ⟨k49, e⟩ := e
    refine g_getR d_X11_disk_152 (f := 1225) k49 fk_10_64 rfl rfl ?_
    refine r_iload d_X11_disk_155 g8 ?_
    replace e := ckd e
    obtain ⟨k50, e⟩ := e
    replace e := ckd e
    obtain ⟨k51, e⟩ := e
    refine g_iald d_X11_disk_157 k50 k51 rfl ?_
    obtain rfl := Option.some.inj e
    exact g_iret d_X11_disk_158 rfl rfl

def f_X11_disk (l0 : Nat) (l1 : Int32) (l2 : Int32) (l3 : Int32) (l4 : Int32) (h : Hp) : Option (Int32 × Hp) := ck (isO (h) (l0) 12) (bh (pI (h) 1200 (l0) ((0 : Int32))) (fun h2 => (f_X11_isReplica (l0) (l1) (l2) (h2)).bind (fun q3 => if (q3.1) = (0) then (some ((-1 : Int32), q3.2)) else ((f_X11_in (l3) ((256 : Int32)) (q3.2)).bind (fun q5 => if (q5.1) = (0) then (some ((-1 : Int32), q5.2)) else ((f_X11_in (l4) ((512 : Int32)) (q5.2)).bind (fun q7 => if (q7.1) = (0) then (some ((-1 : Int32), q7.2)) else (bh ((((5 : Int32)) * (l1)) + (l2)) (fun x9 => ck (isO (q7.2) (l0) 12) (ck (isO (q7.2) (zR (q7.2) 1231 (l0)) 22) (ck (inR (x9) (zL (q7.2) (zR (q7.2) 1231 (l0)))) (ck (isO (q7.2) (zR (q7.2) 1232 (l0)) 22) (ck (inR (x9) (zL (q7.2) (zR (q7.2) 1232 (l0)))) (bh ((((16 : Int32)) * (zE (q7.2) (zR (q7.2) 1231 (l0)) (x9).toNatClampNeg)) + (zE (q7.2) (zR (q7.2) 1232 (l0)) (x9).toNatClampNeg)) (fun x15 => bh ((((512 : Int32)) * (l3)) + (l4)) (fun x16 => if (((512 : Int32)) * (l3)) < (x15) then (if (x16) < (x15) then (if (zE (q7.2) (zR (q7.2) 1231 (l0)) (x9).toNatClampNeg) ≤ ((x16) / ((16 : Int32))) then (ck (isO (q7.2) (zR (q7.2) 1233 (l0)) 22) (ck (inR (x9) (zL (q7.2) (zR (q7.2) 1233 (l0)))) (f_X11_disk_137 (zE (q7.2) (zR (q7.2) 1233 (l0)) (x9).toNatClampNeg) (l0) (x16) (q7.2)))) else (ck (isO (q7.2) (zR (q7.2) 1230 (l0)) 22) (ck (inR ((((8192 : Int32)) * (x9)) + ((x16) / ((16 : Int32)))) (zL (q7.2) (zR (q7.2) 1230 (l0)))) (f_X11_disk_137 (zE (q7.2) (zR (q7.2) 1230 (l0)) ((((8192 : Int32)) * (x9)) + ((x16) / ((16 : Int32)))).toNatClampNeg) (l0) (x16) (q7.2))))) else (some ((0 : Int32), q7.2))) else (some ((-1 : Int32), q7.2))))))))))))))))))
theorem f_X11_disk_ok {G : Gd} {d : Nat} (hj : 3 ≤ d) : ∀ (l0 : Nat) (l1 : Int32) (l2 : Int32) (l3 : Int32) (l4 : Int32) (L : List (Nat × Value)) (h : Hp) (o : (Int32 × Hp)), zlk L 0 = some (zrf (l0)) → zlk L 1 = some (.int (l1)) → zlk L 2 = some (.int (l2)) → zlk L 3 = some (.int (l3)) → zlk L 4 = some (.int (l4)) → f_X11_disk l0 l1 l2 l3 l4 h = some o → Ev G M_X11_disk d 0 L [] h (Ret Y_X11_disk (some (.int o.1)) o.2) := by
  intro l0 l1 l2 l3 l4 L h o g0 g1 g2 g3 g4 e
  unfold f_X11_disk at e
  refine g_ald_n d_X11_disk_0 rfl g0 ?_
  refine r_iconst d_X11_disk_1 (v := (0 : Int32)) (by decide +kernel) ?_
  replace e := ckd e
  obtain ⟨k1, e⟩ := e
  refine g_putI d_X11_disk_2 (f := 1200) k1 fk_10_183 rfl (Or.inl rfl) ⟨rfl, rfl⟩ ?_
  replace e := bhd e
  obtain ⟨_, rfl, e⟩ := e
  refine g_ald_n d_X11_disk_5 rfl g0 ?_
  refine r_iload_n d_X11_disk_6 rfl g1 ?_
  refine r_iload_n d_X11_disk_7 rfl g2 ?_
  replace e := bd e
  obtain ⟨q3, eq3, e⟩ := e
  refine g_callV d_X11_disk_8 vk_10_441 (as := [_, _]) rfl (tO_pI k1) rfl (by simp [zrf_cat, cat_int, cat_long]) (j := 2) (by omega) (c_X11_isReplica (by omega) eq3) ?_
  refine r_if_eq d_X11_disk_11 (tgt := 35) (by decide) (fun c4 => ?_) (fun c4 => ?_)
  · replace e := (if_pos c4).symm.trans e
    refine r_iconst d_X11_disk_35 (v := (-1 : Int32)) (by decide +kernel) ?_
    obtain rfl := Option.some.inj e
    exact g_iret d_X11_disk_36 rfl rfl
  · replace e := (if_neg c4).symm.trans e
    refine r_iload_n d_X11_disk_14 rfl g3 ?_
    refine r_sipush d_X11_disk_15 (v := (256 : Int32)) (by decide +kernel) ?_
    replace e := bd e
    obtain ⟨q5, eq5, e⟩ := e
    refine g_callS d_X11_disk_18 sk_10_230 (as := [_, _]) rfl rfl (by simp [zrf_cat, cat_int, cat_long]) (j := 1) (by omega) (c_X11_in (by omega) eq5) ?_
    refine r_if_eq d_X11_disk_21 (tgt := 35) (by decide) (fun c6 => ?_) (fun c6 => ?_)
    · replace e := (if_pos c6).symm.trans e
      refine r_iconst d_X11_disk_35 (v := (-1 : Int32)) (by decide +kernel) ?_
      obtain rfl := Option.some.inj e
      exact g_iret d_X11_disk_36 rfl rfl
    · replace e := (if_neg c6).symm.trans e
      refine r_iload d_X11_disk_24 g4 ?_
      refine r_sipush d_X11_disk_26 (v := (512 : Int32)) (by decide +kernel) ?_
      replace e := bd e
      obtain ⟨q7, eq7, e⟩ := e
      refine g_callS d_X11_disk_29 sk_10_230 (as := [_, _]) rfl rfl (by simp [zrf_cat, cat_int, cat_long]) (j := 1) (by omega) (c_X11_in (by omega) eq7) ?_
      refine r_if_ne d_X11_disk_32 (tgt := 37) (by decide) (fun c8 => ?_) (fun c8 => ?_)
      · replace e := (if_neg c8).symm.trans e
        refine r_iconst d_X11_disk_37 (v := (5 : Int32)) (by decide +kernel) ?_
        refine r_iload_n d_X11_disk_38 rfl g1 ?_
        refine r_imul d_X11_disk_39 ?_
        refine r_iload_n d_X11_disk_40 rfl g2 ?_
        refine r_iadd d_X11_disk_41 ?_
        replace e := bhd e
        obtain ⟨_, rfl, e⟩ := e
        refine s_istore d_X11_disk_42 (by decide) (fun L g5 gK => ?_)
        replace g0 := gK _ _ (by decide) (Or.inr (zrf_cat _)) g0
        replace g3 := gK _ _ (by decide) (Or.inr rfl) g3
        replace g4 := gK _ _ (by decide) (Or.inr rfl) g4
        refine r_bipush d_X11_disk_44 (v := (16 : Int32)) (by decide +kernel) ?_
        refine g_ald_n d_X11_disk_46 rfl g0 ?_
        replace e := ckd e
        obtain ⟨k10, e⟩ := e
        refine g_getR d_X11_disk_47 (f := 1231) k10 fk_10_83 rfl rfl ?_
        refine r_iload d_X11_disk_50 g5 ?_
        replace e := ckd e
        obtain ⟨k11, e⟩ := e
        replace e := ckd e
        obtain ⟨k12, e⟩ := e
        refine g_iald d_X11_disk_52 k11 k12 rfl ?_
        refine r_imul d_X11_disk_53 ?_
        refine g_ald_n d_X11_disk_54 rfl g0 ?_
        refine g_getR d_X11_disk_55 (f := 1232) k10 fk_10_86 rfl rfl ?_
        refine r_iload d_X11_disk_58 g5 ?_
        replace e := ckd e
        obtain ⟨k13, e⟩ := e
        replace e := ckd e
        obtain ⟨k14, e⟩ := e
        refine g_iald d_X11_disk_60 k13 k14 rfl ?_
        refine r_iadd d_X11_disk_61 ?_
        replace e := bhd e
        obtain ⟨_, rfl, e⟩ := e
        refine s_istore d_X11_disk_62 (by decide) (fun L g6 gK => ?_)
        replace g0 := gK _ _ (by decide) (Or.inr (zrf_cat _)) g0
        replace g3 := gK _ _ (by decide) (Or.inr rfl) g3
        replace g4 := gK _ _ (by decide) (Or.inr rfl) g4
        replace g5 := gK _ _ (by decide) (Or.inr rfl) g5
        refine r_sipush d_X11_disk_64 (v := (512 : Int32)) (by decide +kernel) ?_
        refine r_iload_n d_X11_disk_67 rfl g3 ?_
        refine r_imul d_X11_disk_68 ?_
        refine r_iload d_X11_disk_69 g4 ?_
        refine r_iadd d_X11_disk_71 ?_
        replace e := bhd e
        obtain ⟨_, rfl, e⟩ := e
        refine s_istore d_X11_disk_72 (by decide) (fun L g7 gK => ?_)
        replace g0 := gK _ _ (by decide) (Or.inr (zrf_cat _)) g0
        replace g3 := gK _ _ (by decide) (Or.inr rfl) g3
        replace g5 := gK _ _ (by decide) (Or.inr rfl) g5
        replace g6 := gK _ _ (by decide) (Or.inr rfl) g6
        refine r_sipush d_X11_disk_74 (v := (512 : Int32)) (by decide +kernel) ?_
        refine r_iload_n d_X11_disk_77 rfl g3 ?_
        refine r_imul d_X11_disk_78 ?_
        refine r_iload d_X11_disk_79 g6 ?_
        refine r_icmp_lt d_X11_disk_81 (tgt := 86) (by decide) (fun c17 => ?_) (fun c17 => ?_)
        · replace e := (if_pos c17).symm.trans e
          refine r_iload d_X11_disk_86 g7 ?_
          refine r_iload d_X11_disk_88 g6 ?_
          refine r_icmp_lt d_X11_disk_90 (tgt := 95) (by decide) (fun c18 => ?_) (fun c18 => ?_)
          · replace e := (if_pos c18).symm.trans e
            refine r_iload d_X11_disk_95 g7 ?_
            refine r_bipush d_X11_disk_97 (v := (16 : Int32)) (by decide +kernel) ?_
            refine r_idiv d_X11_disk_99 (by decide +kernel) ?_
            refine g_ald_n d_X11_disk_100 rfl g0 ?_
            refine g_getR d_X11_disk_101 (f := 1231) k10 fk_10_83 rfl rfl ?_
            refine r_iload d_X11_disk_104 g5 ?_
            refine g_iald d_X11_disk_106 k11 k12 rfl ?_
            refine r_icmp_ge d_X11_disk_107 (tgt := 130) (by decide) (fun c19 => ?_) (fun c19 => ?_)
            · replace e := (if_pos c19).symm.trans e
              refine g_ald_n d_X11_disk_130 rfl g0 ?_
              refine g_getR d_X11_disk_131 (f := 1233) k10 fk_10_89 rfl rfl ?_
              refine r_iload d_X11_disk_134 g5 ?_
              replace e := ckd e
              obtain ⟨k20, e⟩ := e
              replace e := ckd e
              obtain ⟨k21, e⟩ := e
              refine g_iald d_X11_disk_136 k20 k21 rfl ?_
              exact f_X11_disk_137_ok hj _ _ _ _ _ _ g0 g7 e
            · replace e := (if_neg c19).symm.trans e
              refine g_ald_n d_X11_disk_110 rfl g0 ?_
              refine g_getR d_X11_disk_111 (f := 1230) k10 fk_10_80 rfl rfl ?_
              refine r_sipush d_X11_disk_114 (v := (8192 : Int32)) (by decide +kernel) ?_
              refine r_iload d_X11_disk_117 g5 ?_
              refine r_imul d_X11_disk_119 ?_
              refine r_iload d_X11_disk_120 g7 ?_
              refine r_bipush d_X11_disk_122 (v := (16 : Int32)) (by decide +kernel) ?_
              refine r_idiv d_X11_disk_124 (by decide +kernel) ?_
              refine r_iadd d_X11_disk_125 ?_
              replace e := ckd e
              obtain ⟨k22, e⟩ := e
              replace e := ckd e
              obtain ⟨k23, e⟩ := e
              refine g_iald d_X11_disk_126 k22 k23 rfl ?_
              refine r_goto d_X11_disk_127 (tgt := 137) (by decide) ?_
              exact f_X11_disk_137_ok hj _ _ _ _ _ _ g0 g7 e
          · replace e := (if_neg c18).symm.trans e
            refine r_iconst d_X11_disk_93 (v := (0 : Int32)) (by decide +kernel) ?_
            obtain rfl := Option.some.inj e
            exact g_iret d_X11_disk_94 rfl rfl
        · replace e := (if_neg c17).symm.trans e
          refine r_iconst d_X11_disk_84 (v := (-1 : Int32)) (by decide +kernel) ?_
          obtain rfl := Option.some.inj e
          exact g_iret d_X11_disk_85 rfl rfl
      · replace e := (if_pos c8).symm.trans e
        refine r_iconst d_X11_disk_35 (v := (-1 : Int32)) (by decide +kernel) ?_
        obtain rfl := Option.some.inj e
        exact g_iret d_X11_disk_36 rfl rfl

theorem c_X11_disk {G : Gd} {j : Nat} (hj : 3 ≤ j) {l0 : Nat} {l1 : Int32} {l2 : Int32} {l3 : Int32} {l4 : Int32} {h : Hp} {o : (Int32 × Hp)} (e : f_X11_disk l0 l1 l2 l3 l4 h = some o) : Cal G j Y_X11_disk [zrf (l0), .int (l1), .int (l2), .int (l3), .int (l4)] h (some (.int o.1)) o.2 := Cal.of (n := 0) (I := false) (by first | exact Or.inl (by decide +kernel) | exact Or.inr (by decide +kernel)) (by decide) (by simp [lg_sl, zrf_cat, cat_int, cat_long]) (f_X11_disk_ok hj _ _ _ _ _ _ h o (by simp [lv_args, zlk, zrf_cat, cat_int, cat_long]) (by simp [lv_args, zlk, zrf_cat, cat_int, cat_long]) (by simp [lv_args, zlk, zrf_cat, cat_int, cat_long]) (by simp [lv_args, zlk, zrf_cat, cat_int, cat_long]) (by simp [lv_args, zlk, zrf_cat, cat_int, cat_long]) e)
def f_J7_copyOf_6403c (l0 : Nat) (l1 : Int32) (l2 : Nat) (h : Hp) : Option (Nat × Hp) := ck ((l2) = 3) (ck ((3) = 3) (ck (8 ≤ zn (h)) (ck (¬ (l1) < 0 ∧ (l1).toNatClampNeg ≤ 1000000) (bh (pN (h) 29 (l1).toNatClampNeg) (fun h5 => bh (zn (h)) (fun x6 => ck ((l0) = 2 ∨ isO (h5) (l0) 29) (ck (isO (h5) (l0) 29) (ck (isO (h5) (x6) 29) (ck ((¬ ((0 : Int32)) < 0 ∧ ¬ ((0 : Int32)) < 0 ∧ ¬ ((if (l1) < (nI (zLx (h5) (l0))) then (l1) else (nI (zLx (h5) (l0))))) < 0) ∧ ((0 : Int32)).toNatClampNeg + ((if (l1) < (nI (zLx (h5) (l0))) then (l1) else (nI (zLx (h5) (l0))))).toNatClampNeg ≤ zL (h5) (l0) ∧ ((0 : Int32)).toNatClampNeg + ((if (l1) < (nI (zLx (h5) (l0))) then (l1) else (nI (zLx (h5) (l0))))).toNatClampNeg ≤ zL (h5) (x6)) (ck (∀ i, i < ((if (l1) < (nI (zLx (h5) (l0))) then (l1) else (nI (zLx (h5) (l0))))).toNatClampNeg → zQ (h5) (l0) (((0 : Int32)).toNatClampNeg + i) = 0 ∨ isO (h5) (zQ (h5) (l0) (((0 : Int32)).toNatClampNeg + i)) 5) (bh (pCq (h5) (l0) ((0 : Int32)).toNatClampNeg (x6) ((0 : Int32)).toNatClampNeg ((if (l1) < (nI (zLx (h5) (l0))) then (l1) else (nI (zLx (h5) (l0))))).toNatClampNeg) (fun h12 => some (x6, h12)))))))))))))
theorem f_J7_copyOf_6403c_ok {G : Gd} {d : Nat} (hj : 1 ≤ d) : ∀ (l0 : Nat) (l1 : Int32) (l2 : Nat) (L : List (Nat × Value)) (h : Hp) (o : (Nat × Hp)), zlk L 0 = some (zrf (l0)) → zlk L 1 = some (.int (l1)) → zlk L 2 = some (zrf (l2)) → f_J7_copyOf_6403c l0 l1 l2 h = some o → Ev G M_J7_copyOf_6403c d 0 L [] h (Ret Y_J7_copyOf_6403c (some (zrf o.1)) o.2) := by
  intro l0 l1 l2 L h o g0 g1 g2 e
  unfold f_J7_copyOf_6403c at e
  refine g_ald_n d_J7_copyOf_6403c_0 rfl g2 ?_
  refine g_ldcM d_J7_copyOf_6403c_1 (by decide +kernel) ?_
  replace e := ckd e
  obtain ⟨k1, e⟩ := e
  replace e := ckd e
  obtain ⟨k2, e⟩ := e
  refine g_acmpN3 d_J7_copyOf_6403c_3 (tgt := 13) (by decide) k1 k2 ?_
  refine r_iload_n d_J7_copyOf_6403c_6 rfl g1 ?_
  replace e := ckd e
  obtain ⟨k3, e⟩ := e
  replace e := ckd e
  obtain ⟨k4, e⟩ := e
  refine g_newq (t := 29) k3 d_J7_copyOf_6403c_7 (by decide) (by decide) rfl k4 (by decide +kernel) (by decide +kernel) ?_
  replace e := bhd e
  obtain ⟨_, rfl, e⟩ := e
  refine r_goto d_J7_copyOf_6403c_10 (tgt := 24) (by decide) ?_
  replace e := bhd e
  obtain ⟨_, rfl, e⟩ := e
  refine s_ast_n d_J7_copyOf_6403c_24 rfl (by decide) (fun L g3 gK => ?_)
  replace g0 := gK _ _ (by decide) (Or.inr (zrf_cat _)) g0
  replace g1 := gK _ _ (by decide) (Or.inr rfl) g1
  refine g_ald_n d_J7_copyOf_6403c_25 rfl g0 ?_
  refine r_iconst d_J7_copyOf_6403c_26 (v := (0 : Int32)) (by decide +kernel) ?_
  refine g_ald_n d_J7_copyOf_6403c_27 rfl g3 ?_
  refine r_iconst d_J7_copyOf_6403c_28 (v := (0 : Int32)) (by decide +kernel) ?_
  refine g_ald_n d_J7_copyOf_6403c_29 rfl g0 ?_
  replace e := ckd e
  obtain ⟨k7, e⟩ := e
  refine g_alenX d_J7_copyOf_6403c_30 k7 rfl ?_
  refine r_iload_n d_J7_copyOf_6403c_31 rfl g1 ?_
  refine g_mmin d_J7_copyOf_6403c_32 (by decide +kernel) (by omega) (by simp [zrf_cat, cat_int, cat_long]) ?_
  replace e := ckd e
  obtain ⟨k8, e⟩ := e
  replace e := ckd e
  obtain ⟨k9, e⟩ := e
  replace e := ckd e
  obtain ⟨k10, e⟩ := e
  replace e := ckd e
  obtain ⟨k11, e⟩ := e
  refine g_copyq d_J7_copyOf_6403c_35 (by decide +kernel) (by omega) (by simp [zrf_cat, cat_int, cat_long]) k8 k9 k10 k11 ?_
  replace e := bhd e
  obtain ⟨_, rfl, e⟩ := e
  refine g_ald_n d_J7_copyOf_6403c_38 rfl g3 ?_
  obtain rfl := Option.some.inj e
  exact g_aret d_J7_copyOf_6403c_39 rfl (Or.inr ⟨_, rfl⟩)

theorem c_J7_copyOf_6403c {G : Gd} {j : Nat} (hj : 1 ≤ j) {l0 : Nat} {l1 : Int32} {l2 : Nat} {h : Hp} {o : (Nat × Hp)} (e : f_J7_copyOf_6403c l0 l1 l2 h = some o) : Cal G j Y_J7_copyOf_6403c [zrf (l0), .int (l1), zrf (l2)] h (some (zrf o.1)) o.2 := Cal.of (n := 0) (I := false) (by first | exact Or.inl (by decide +kernel) | exact Or.inr (by decide +kernel)) (by decide) (by simp [lg_sl, zrf_cat, cat_int, cat_long]) (f_J7_copyOf_6403c_ok hj _ _ _ _ h o (by simp [lv_args, zlk, zrf_cat, cat_int, cat_long]) (by simp [lv_args, zlk, zrf_cat, cat_int, cat_long]) (by simp [lv_args, zlk, zrf_cat, cat_int, cat_long]) e)
theorem sk_13_300 : Sk "java/util/Arrays" 300 3 Y_J7_copyOf_6403c := ⟨yk_J7_copyOf_6403c, by decide +kernel, by decide +kernel⟩
def f_J7_copyOf_1904c (l0 : Nat) (l1 : Int32) (h : Hp) : Option (Nat × Hp) := ck (isO (h) (l0) 29) ((f_J7_copyOf_6403c (l0) (l1) (3) (h)).bind (fun q2 => some (q2.1, q2.2)))
theorem f_J7_copyOf_1904c_ok {G : Gd} {d : Nat} (hj : 2 ≤ d) : ∀ (l0 : Nat) (l1 : Int32) (L : List (Nat × Value)) (h : Hp) (o : (Nat × Hp)), zlk L 0 = some (zrf (l0)) → zlk L 1 = some (.int (l1)) → f_J7_copyOf_1904c l0 l1 h = some o → Ev G M_J7_copyOf_1904c d 0 L [] h (Ret Y_J7_copyOf_1904c (some (zrf o.1)) o.2) := by
  intro l0 l1 L h o g0 g1 e
  unfold f_J7_copyOf_1904c at e
  refine g_ald_n d_J7_copyOf_1904c_0 rfl g0 ?_
  refine r_iload_n d_J7_copyOf_1904c_1 rfl g1 ?_
  refine g_ald_n d_J7_copyOf_1904c_2 rfl g0 ?_
  replace e := ckd e
  obtain ⟨k1, e⟩ := e
  refine g_getC d_J7_copyOf_1904c_3 (by decide +kernel) (by omega) (by simp [zrf_cat, cat_int, cat_long]) k1 ?_
  replace e := bd e
  obtain ⟨q2, eq2, e⟩ := e
  refine g_callS d_J7_copyOf_1904c_6 sk_13_300 (as := [_, _, _]) rfl rfl (by simp [zrf_cat, cat_int, cat_long]) (j := 1) (by omega) (c_J7_copyOf_6403c (by omega) eq2) ?_
  obtain rfl := Option.some.inj e
  exact g_aret d_J7_copyOf_1904c_9 rfl (Or.inr ⟨_, rfl⟩)

theorem c_J7_copyOf_1904c {G : Gd} {j : Nat} (hj : 2 ≤ j) {l0 : Nat} {l1 : Int32} {h : Hp} {o : (Nat × Hp)} (e : f_J7_copyOf_1904c l0 l1 h = some o) : Cal G j Y_J7_copyOf_1904c [zrf (l0), .int (l1)] h (some (zrf o.1)) o.2 := Cal.of (n := 0) (I := false) (by first | exact Or.inl (by decide +kernel) | exact Or.inr (by decide +kernel)) (by decide) (by simp [lg_sl, zrf_cat, cat_int, cat_long]) (f_J7_copyOf_1904c_ok hj _ _ _ h o (by simp [lv_args, zlk, zrf_cat, cat_int, cat_long]) (by simp [lv_args, zlk, zrf_cat, cat_int, cat_long]) e)
def f_J8_hugeLength_7cf53 (l0 : Int32) (l1 : Int32) (h : Hp) : Option (Int32 × Hp) := bh ((l0) + (l1)) (fun x1 => if (0) ≤ (x1) then (if ((2147483639 : Int32)) < (x1) then (some (x1, h)) else (some ((2147483639 : Int32), h))) else (none))
theorem f_J8_hugeLength_7cf53_ok {G : Gd} {d : Nat} (hj : 1 ≤ d) : ∀ (l0 : Int32) (l1 : Int32) (L : List (Nat × Value)) (h : Hp) (o : (Int32 × Hp)), zlk L 0 = some (.int (l0)) → zlk L 1 = some (.int (l1)) → f_J8_hugeLength_7cf53 l0 l1 h = some o → Ev G M_J8_hugeLength_7cf53 d 0 L [] h (Ret Y_J8_hugeLength_7cf53 (some (.int o.1)) o.2) := by
  intro l0 l1 L h o g0 g1 e
  unfold f_J8_hugeLength_7cf53 at e
  refine r_iload_n d_J8_hugeLength_7cf53_0 rfl g0 ?_
  refine r_iload_n d_J8_hugeLength_7cf53_1 rfl g1 ?_
  refine r_iadd d_J8_hugeLength_7cf53_2 ?_
  replace e := bhd e
  obtain ⟨_, rfl, e⟩ := e
  refine s_istore_n d_J8_hugeLength_7cf53_3 rfl (by decide) (fun L g2 gK => ?_)
  refine r_iload_n d_J8_hugeLength_7cf53_4 rfl g2 ?_
  refine r_if_ge d_J8_hugeLength_7cf53_5 (tgt := 49) (by decide) (fun c2 => ?_) (fun c2 => ?_)
  · replace e := (if_pos c2).symm.trans e
    refine r_iload_n d_J8_hugeLength_7cf53_49 rfl g2 ?_
    refine r_ldc d_J8_hugeLength_7cf53_50 (v := (2147483639 : Int32)) (by decide +kernel) ?_
    refine r_icmp_gt d_J8_hugeLength_7cf53_52 (tgt := 58) (by decide) (fun c3 => ?_) (fun c3 => ?_)
    · replace e := (if_pos c3).symm.trans e
      refine r_iload_n d_J8_hugeLength_7cf53_58 rfl g2 ?_
      obtain rfl := Option.some.inj e
      exact g_iret d_J8_hugeLength_7cf53_59 rfl rfl
    · replace e := (if_neg c3).symm.trans e
      refine r_ldc d_J8_hugeLength_7cf53_55 (v := (2147483639 : Int32)) (by decide +kernel) ?_
      obtain rfl := Option.some.inj e
      exact g_iret d_J8_hugeLength_7cf53_57 rfl rfl
  · replace e := (if_neg c2).symm.trans e
    cases e

theorem c_J8_hugeLength_7cf53 {G : Gd} {j : Nat} (hj : 1 ≤ j) {l0 : Int32} {l1 : Int32} {h : Hp} {o : (Int32 × Hp)} (e : f_J8_hugeLength_7cf53 l0 l1 h = some o) : Cal G j Y_J8_hugeLength_7cf53 [.int (l0), .int (l1)] h (some (.int o.1)) o.2 := Cal.of (n := 0) (I := false) (by first | exact Or.inl (by decide +kernel) | exact Or.inr (by decide +kernel)) (by decide) (by simp [lg_sl, zrf_cat, cat_int, cat_long]) (f_J8_hugeLength_7cf53_ok hj _ _ _ h o (by simp [lv_args, zlk, zrf_cat, cat_int, cat_long]) (by simp [lv_args, zlk, zrf_cat, cat_int, cat_long]) e)
theorem sk_15_201 : Sk "jdk/internal/util/ArraysSupport" 201 2 Y_J8_hugeLength_7cf53 := ⟨yk_J8_hugeLength_7cf53, by decide +kernel, by decide +kernel⟩
def f_J8_newLength_cabcc (l0 : Int32) (l1 : Int32) (l2 : Int32) (h : Hp) : Option (Int32 × Hp) := bh ((l0) + ((if (l1) < (l2) then (l2) else (l1)))) (fun x1 => if (x1) ≤ ((0 : Int32)) then ((f_J8_hugeLength_7cf53 (l0) (l1) (h)).bind (fun q3 => some (q3.1, q3.2))) else (if ((2147483639 : Int32)) < (x1) then ((f_J8_hugeLength_7cf53 (l0) (l1) (h)).bind (fun q5 => some (q5.1, q5.2))) else (some (x1, h))))
theorem f_J8_newLength_cabcc_ok {G : Gd} {d : Nat} (hj : 2 ≤ d) : ∀ (l0 : Int32) (l1 : Int32) (l2 : Int32) (L : List (Nat × Value)) (h : Hp) (o : (Int32 × Hp)), zlk L 0 = some (.int (l0)) → zlk L 1 = some (.int (l1)) → zlk L 2 = some (.int (l2)) → f_J8_newLength_cabcc l0 l1 l2 h = some o → Ev G M_J8_newLength_cabcc d 0 L [] h (Ret Y_J8_newLength_cabcc (some (.int o.1)) o.2) := by
  intro l0 l1 l2 L h o g0 g1 g2 e
  unfold f_J8_newLength_cabcc at e
  refine r_iload_n d_J8_newLength_cabcc_0 rfl g0 ?_
  refine r_iload_n d_J8_newLength_cabcc_1 rfl g1 ?_
  refine r_iload_n d_J8_newLength_cabcc_2 rfl g2 ?_
  refine g_mmax d_J8_newLength_cabcc_3 (by decide +kernel) (by omega) (by simp [zrf_cat, cat_int, cat_long]) ?_
  refine r_iadd d_J8_newLength_cabcc_6 ?_
  replace e := bhd e
  obtain ⟨_, rfl, e⟩ := e
  refine s_istore_n d_J8_newLength_cabcc_7 rfl (by decide) (fun L g3 gK => ?_)
  replace g0 := gK _ _ (by decide) (Or.inr rfl) g0
  replace g1 := gK _ _ (by decide) (Or.inr rfl) g1
  refine r_iconst d_J8_newLength_cabcc_8 (v := (0 : Int32)) (by decide +kernel) ?_
  refine r_iload_n d_J8_newLength_cabcc_9 rfl g3 ?_
  refine r_icmp_ge d_J8_newLength_cabcc_10 (tgt := 21) (by decide) (fun c2 => ?_) (fun c2 => ?_)
  · replace e := (if_pos c2).symm.trans e
    refine r_iload_n d_J8_newLength_cabcc_21 rfl g0 ?_
    refine r_iload_n d_J8_newLength_cabcc_22 rfl g1 ?_
    replace e := bd e
    obtain ⟨q3, eq3, e⟩ := e
    refine g_callS d_J8_newLength_cabcc_23 sk_15_201 (as := [_, _]) rfl rfl (by simp [zrf_cat, cat_int, cat_long]) (j := 1) (by omega) (c_J8_hugeLength_7cf53 (by omega) eq3) ?_
    obtain rfl := Option.some.inj e
    exact g_iret d_J8_newLength_cabcc_26 rfl rfl
  · replace e := (if_neg c2).symm.trans e
    refine r_iload_n d_J8_newLength_cabcc_13 rfl g3 ?_
    refine r_ldc d_J8_newLength_cabcc_14 (v := (2147483639 : Int32)) (by decide +kernel) ?_
    refine r_icmp_gt d_J8_newLength_cabcc_16 (tgt := 21) (by decide) (fun c4 => ?_) (fun c4 => ?_)
    · replace e := (if_pos c4).symm.trans e
      refine r_iload_n d_J8_newLength_cabcc_21 rfl g0 ?_
      refine r_iload_n d_J8_newLength_cabcc_22 rfl g1 ?_
      replace e := bd e
      obtain ⟨q5, eq5, e⟩ := e
      refine g_callS d_J8_newLength_cabcc_23 sk_15_201 (as := [_, _]) rfl rfl (by simp [zrf_cat, cat_int, cat_long]) (j := 1) (by omega) (c_J8_hugeLength_7cf53 (by omega) eq5) ?_
      obtain rfl := Option.some.inj e
      exact g_iret d_J8_newLength_cabcc_26 rfl rfl
    · replace e := (if_neg c4).symm.trans e
      refine r_iload_n d_J8_newLength_cabcc_19 rfl g3 ?_
      obtain rfl := Option.some.inj e
      exact g_iret d_J8_newLength_cabcc_20 rfl rfl

theorem c_J8_newLength_cabcc {G : Gd} {j : Nat} (hj : 2 ≤ j) {l0 : Int32} {l1 : Int32} {l2 : Int32} {h : Hp} {o : (Int32 × Hp)} (e : f_J8_newLength_cabcc l0 l1 l2 h = some o) : Cal G j Y_J8_newLength_cabcc [.int (l0), .int (l1), .int (l2)] h (some (.int o.1)) o.2 := Cal.of (n := 0) (I := false) (by first | exact Or.inl (by decide +kernel) | exact Or.inr (by decide +kernel)) (by decide) (by simp [lg_sl, zrf_cat, cat_int, cat_long]) (f_J8_newLength_cabcc_ok hj _ _ _ _ h o (by simp [lv_args, zlk, zrf_cat, cat_int, cat_long]) (by simp [lv_args, zlk, zrf_cat, cat_int, cat_long]) (by simp [lv_args, zlk, zrf_cat, cat_int, cat_long]) e)
theorem sk_12_73 : Sk "java/util/ArrayList" 73 3 Y_J8_newLength_cabcc := ⟨yk_J8_newLength_cabcc, by decide +kernel, by decide +kernel⟩
theorem sk_12_66 : Sk "java/util/ArrayList" 66 2 Y_J7_copyOf_1904c := ⟨yk_J7_copyOf_1904c, by decide +kernel, by decide +kernel⟩
def f_Jx4a65c_grow_92f84_20 (l0 : Nat) (l1 : Int32) (l2 : Int32) (h : Hp) : Option (Nat × Hp) := (f_J8_newLength_cabcc (l2) ((l1) - (l2)) ((l2) >>> (((1 : Int32)) &&& 31)) (h)).bind (fun q12 => ck (isO (q12.2) (l0) 0) ((f_J7_copyOf_1904c (zR (q12.2) 1 (l0)) (q12.1) (q12.2)).bind (fun q14 => ck (isO (q14.2) (l0) 0) (bh (pR (q14.2) 1 (l0) (q14.1)) (fun h16 => some (q14.1, h16))))))
theorem f_Jx4a65c_grow_92f84_20_ok {G : Gd} {d : Nat} (hj : 3 ≤ d) : ∀ (l0 : Nat) (l1 : Int32) (l2 : Int32) (L : List (Nat × Value)) (h : Hp) (o : (Nat × Hp)), zlk L 0 = some (zrf (l0)) → zlk L 1 = some (.int (l1)) → zlk L 2 = some (.int (l2)) → f_Jx4a65c_grow_92f84_20 l0 l1 l2 h = some o → Ev G M_Jx4a65c_grow_92f84 d 20 L [] h (Ret Y_Jx4a65c_grow_92f84 (some (zrf o.1)) o.2) := by
  intro l0 l1 l2 L h o g0 g1 g2 e
  unfold f_Jx4a65c_grow_92f84_20 at e
  refine r_iload_n d_Jx4a65c_grow_92f84_20 rfl g2 ?_
  refine r_iload_n d_Jx4a65c_grow_92f84_21 rfl g1 ?_
  refine r_iload_n d_Jx4a65c_grow_92f84_22 rfl g2 ?_
  refine r_isub d_Jx4a65c_grow_92f84_23 ?_
  refine r_iload_n d_Jx4a65c_grow_92f84_24 rfl g2 ?_
  refine r_iconst d_Jx4a65c_grow_92f84_25 (v := (1 : Int32)) (by decide +kernel) ?_
  refine r_ishr d_Jx4a65c_grow_92f84_26 ?_
  replace e := bd e
  obtain ⟨q12, eq12, e⟩ := e
  refine g_callS d_Jx4a65c_grow_92f84_27 sk_12_73 (as := [_, _, _]) rfl rfl (by simp [zrf_cat, cat_int, cat_long]) (j := 2) (by omega) (c_J8_newLength_cabcc (by omega) eq12) ?_
  refine s_istore_n d_Jx4a65c_grow_92f84_30 rfl (by decide) (fun L g3 gK => ?_)
  replace g0 := gK _ _ (by decide) (Or.inr (zrf_cat _)) g0
  refine g_ald_n d_Jx4a65c_grow_92f84_31 rfl g0 ?_
  refine g_ald_n d_Jx4a65c_grow_92f84_32 rfl g0 ?_
  replace e := ckd e
  obtain ⟨k13, e⟩ := e
  refine g_getR d_Jx4a65c_grow_92f84_33 (f := 1) k13 fk_12_9 rfl rfl ?_
  refine r_iload_n d_Jx4a65c_grow_92f84_36 rfl g3 ?_
  replace e := bd e
  obtain ⟨q14, eq14, e⟩ := e
  refine g_callS d_Jx4a65c_grow_92f84_37 sk_12_66 (as := [_, _]) rfl rfl (by simp [zrf_cat, cat_int, cat_long]) (j := 2) (by omega) (c_J7_copyOf_1904c (by omega) eq14) ?_
  refine r_dup_x1 d_Jx4a65c_grow_92f84_40 (zrf_cat _) (zrf_cat _) ?_
  replace e := ckd e
  obtain ⟨k15, e⟩ := e
  refine g_putR d_Jx4a65c_grow_92f84_41 (f := 1) k15 fk_12_9 rfl (Or.inl rfl) (Or.inr ⟨_, rfl⟩) ?_
  replace e := bhd e
  obtain ⟨_, rfl, e⟩ := e
  obtain rfl := Option.some.inj e
  exact g_aret d_Jx4a65c_grow_92f84_44 rfl (Or.inr ⟨_, rfl⟩)

def f_Jx4a65c_grow_92f84 (l0 : Nat) (l1 : Int32) (h : Hp) : Option (Nat × Hp) := ck (isO (h) (l0) 0) (ck ((zR (h) 1 (l0)) = 2 ∨ isO (h) (zR (h) 1 (l0)) 29) (bh (nI (zLx (h) (zR (h) 1 (l0)))) (fun x3 => if (0) < (x3) then (f_Jx4a65c_grow_92f84_20 (l0) (l1) (x3) (h)) else (ck (okc (zR (h) 1 (l0))) (ck (okc (2)) (if (zR (h) 1 (l0)) = (2) then (ck (8 ≤ zn (h)) (ck (¬ ((if ((10 : Int32)) < (l1) then (l1) else ((10 : Int32)))) < 0 ∧ ((if ((10 : Int32)) < (l1) then (l1) else ((10 : Int32)))).toNatClampNeg ≤ 1000000) (bh (pN (h) 29 ((if ((10 : Int32)) < (l1) then (l1) else ((10 : Int32)))).toNatClampNeg) (fun h10 => bh (pR (h10) 1 (l0) (zn (h))) (fun h11 => some (zn (h), h11)))))) else (f_Jx4a65c_grow_92f84_20 (l0) (l1) (x3) (h))))))))
theorem f_Jx4a65c_grow_92f84_ok {G : Gd} {d : Nat} (hj : 3 ≤ d) : ∀ (l0 : Nat) (l1 : Int32) (L : List (Nat × Value)) (h : Hp) (o : (Nat × Hp)), zlk L 0 = some (zrf (l0)) → zlk L 1 = some (.int (l1)) → f_Jx4a65c_grow_92f84 l0 l1 h = some o → Ev G M_Jx4a65c_grow_92f84 d 0 L [] h (Ret Y_Jx4a65c_grow_92f84 (some (zrf o.1)) o.2) := by
  intro l0 l1 L h o g0 g1 e
  unfold f_Jx4a65c_grow_92f84 at e
  refine g_ald_n d_Jx4a65c_grow_92f84_0 rfl g0 ?_
  replace e := ckd e
  obtain ⟨k1, e⟩ := e
  refine g_getR d_Jx4a65c_grow_92f84_1 (f := 1) k1 fk_12_9 rfl rfl ?_
  replace e := ckd e
  obtain ⟨k2, e⟩ := e
  refine g_alenX d_Jx4a65c_grow_92f84_4 k2 rfl ?_
  replace e := bhd e
  obtain ⟨_, rfl, e⟩ := e
  refine s_istore_n d_Jx4a65c_grow_92f84_5 rfl (by decide) (fun L g2 gK => ?_)
  replace g0 := gK _ _ (by decide) (Or.inr (zrf_cat _)) g0
  replace g1 := gK _ _ (by decide) (Or.inr rfl) g1
  refine r_iload_n d_Jx4a65c_grow_92f84_6 rfl g2 ?_
  refine r_if_gt d_Jx4a65c_grow_92f84_7 (tgt := 20) (by decide) (fun c4 => ?_) (fun c4 => ?_)
  · replace e := (if_pos c4).symm.trans e
    exact f_Jx4a65c_grow_92f84_20_ok hj _ _ _ _ _ _ g0 g1 g2 e
  · replace e := (if_neg c4).symm.trans e
    refine g_ald_n d_Jx4a65c_grow_92f84_10 rfl g0 ?_
    refine g_getR d_Jx4a65c_grow_92f84_11 (f := 1) k1 fk_12_9 rfl rfl ?_
    refine g_gets d_Jx4a65c_grow_92f84_14 (by decide +kernel) ?_
    replace e := ckd e
    obtain ⟨k5, e⟩ := e
    replace e := ckd e
    obtain ⟨k6, e⟩ := e
    refine g_acmpE d_Jx4a65c_grow_92f84_17 (tgt := 45) (by decide) k5 k6 (fun c7 => ?_) (fun c7 => ?_)
    · replace e := (if_pos c7).symm.trans e
      refine g_ald_n d_Jx4a65c_grow_92f84_45 rfl g0 ?_
      refine r_bipush d_Jx4a65c_grow_92f84_46 (v := (10 : Int32)) (by decide +kernel) ?_
      refine r_iload_n d_Jx4a65c_grow_92f84_48 rfl g1 ?_
      refine g_mmax d_Jx4a65c_grow_92f84_49 (by decide +kernel) (by omega) (by simp [zrf_cat, cat_int, cat_long]) ?_
      replace e := ckd e
      obtain ⟨k8, e⟩ := e
      replace e := ckd e
      obtain ⟨k9, e⟩ := e
      refine g_newq (t := 29) k8 d_Jx4a65c_grow_92f84_52 (by decide) (by decide) rfl k9 (by decide +kernel) (by decide +kernel) ?_
      replace e := bhd e
      obtain ⟨_, rfl, e⟩ := e
      refine r_dup_x1 d_Jx4a65c_grow_92f84_55 (zrf_cat _) (zrf_cat _) ?_
      refine g_putR d_Jx4a65c_grow_92f84_56 (f := 1) (tO_pN k1) fk_12_9 rfl (Or.inl rfl) (Or.inr ⟨_, rfl⟩) ?_
      replace e := bhd e
      obtain ⟨_, rfl, e⟩ := e
      obtain rfl := Option.some.inj e
      exact g_aret d_Jx4a65c_grow_92f84_59 rfl (Or.inr ⟨_, rfl⟩)
    · replace e := (if_neg c7).symm.trans e
      exact f_Jx4a65c_grow_92f84_20_ok hj _ _ _ _ _ _ g0 g1 g2 e

theorem c_Jx4a65c_grow_92f84 {G : Gd} {j : Nat} (hj : 3 ≤ j) {l0 : Nat} {l1 : Int32} {h : Hp} {o : (Nat × Hp)} (e : f_Jx4a65c_grow_92f84 l0 l1 h = some o) : Cal G j Y_Jx4a65c_grow_92f84 [zrf (l0), .int (l1)] h (some (zrf o.1)) o.2 := Cal.of (n := 0) (I := false) (by first | exact Or.inl (by decide +kernel) | exact Or.inr (by decide +kernel)) (by decide) (by simp [lg_sl, zrf_cat, cat_int, cat_long]) (f_Jx4a65c_grow_92f84_ok hj _ _ _ h o (by simp [lv_args, zlk, zrf_cat, cat_int, cat_long]) (by simp [lv_args, zlk, zrf_cat, cat_int, cat_long]) e)
theorem vk_12_69 : Vk "java/util/ArrayList" 69 1 0 Y_Jx4a65c_grow_92f84 := ⟨yk_Jx4a65c_grow_92f84, by decide +kernel, by decide +kernel, by decide +kernel, by decide⟩
def f_Jx4a65c_grow_d5877 (l0 : Nat) (h : Hp) : Option (Nat × Hp) := ck (isO (h) (l0) 0) ((f_Jx4a65c_grow_92f84 (l0) ((zI (h) 2 (l0)) + ((1 : Int32))) (h)).bind (fun q2 => some (q2.1, q2.2)))
theorem f_Jx4a65c_grow_d5877_ok {G : Gd} {d : Nat} (hj : 4 ≤ d) : ∀ (l0 : Nat) (L : List (Nat × Value)) (h : Hp) (o : (Nat × Hp)), zlk L 0 = some (zrf (l0)) → f_Jx4a65c_grow_d5877 l0 h = some o → Ev G M_Jx4a65c_grow_d5877 d 0 L [] h (Ret Y_Jx4a65c_grow_d5877 (some (zrf o.1)) o.2) := by
  intro l0 L h o g0 e
  unfold f_Jx4a65c_grow_d5877 at e
  refine g_ald_n d_Jx4a65c_grow_d5877_0 rfl g0 ?_
  refine g_ald_n d_Jx4a65c_grow_d5877_1 rfl g0 ?_
  replace e := ckd e
  obtain ⟨k1, e⟩ := e
  refine g_getI d_Jx4a65c_grow_d5877_2 (f := 2) k1 fk_12_48 rfl rfl ?_
  refine r_iconst d_Jx4a65c_grow_d5877_5 (v := (1 : Int32)) (by decide +kernel) ?_
  refine r_iadd d_Jx4a65c_grow_d5877_6 ?_
  replace e := bd e
  obtain ⟨q2, eq2, e⟩ := e
  refine g_callV d_Jx4a65c_grow_d5877_7 vk_12_69 (as := [_]) rfl k1 rfl (by simp [zrf_cat, cat_int, cat_long]) (j := 3) (by omega) (c_Jx4a65c_grow_92f84 (by omega) eq2) ?_
  obtain rfl := Option.some.inj e
  exact g_aret d_Jx4a65c_grow_d5877_10 rfl (Or.inr ⟨_, rfl⟩)

theorem c_Jx4a65c_grow_d5877 {G : Gd} {j : Nat} (hj : 4 ≤ j) {l0 : Nat} {h : Hp} {o : (Nat × Hp)} (e : f_Jx4a65c_grow_d5877 l0 h = some o) : Cal G j Y_Jx4a65c_grow_d5877 [zrf (l0)] h (some (zrf o.1)) o.2 := Cal.of (n := 0) (I := false) (by first | exact Or.inl (by decide +kernel) | exact Or.inr (by decide +kernel)) (by decide) (by simp [lg_sl, zrf_cat, cat_int, cat_long]) (f_Jx4a65c_grow_d5877_ok hj _ _ h o (by simp [lv_args, zlk, zrf_cat, cat_int, cat_long]) e)
theorem vk_12_129 : Vk "java/util/ArrayList" 129 0 0 Y_Jx4a65c_grow_d5877 := ⟨yk_Jx4a65c_grow_d5877, by decide +kernel, by decide +kernel, by decide +kernel, by decide⟩
def f_Jx4a65c_add_72be8 (l0 : Nat) (l1 : Nat) (l2 : Nat) (l3 : Int32) (h : Hp) : Option Hp := ck ((l2) = 2 ∨ isO (h) (l2) 29) (if (l3) = (nI (zLx (h) (l2))) then (ck (isO (h) (l0) 0) ((f_Jx4a65c_grow_d5877 (l0) (h)).bind (fun q9 => ck (isO (q9.2) (q9.1) 29) (ck (inR (l3) (zL (q9.2) (q9.1))) (ck (isO (q9.2) (l1) 5) (bh (pQ (q9.2) (q9.1) (l3).toNatClampNeg (l1)) (fun h14 => ck (isO (h14) (l0) 0) (bh (pI (h14) 2 (l0) ((l3) + ((1 : Int32)))) (fun h16 => some (h16)))))))))) else (ck (isO (h) (l2) 29) (ck (inR (l3) (zL (h) (l2))) (ck (isO (h) (l1) 5) (bh (pQ (h) (l2) (l3).toNatClampNeg (l1)) (fun h6 => ck (isO (h6) (l0) 0) (bh (pI (h6) 2 (l0) ((l3) + ((1 : Int32)))) (fun h8 => some (h8)))))))))
theorem f_Jx4a65c_add_72be8_ok {G : Gd} {d : Nat} (hj : 5 ≤ d) : ∀ (l0 : Nat) (l1 : Nat) (l2 : Nat) (l3 : Int32) (L : List (Nat × Value)) (h : Hp) (o : Hp), zlk L 0 = some (zrf (l0)) → zlk L 1 = some (zrf (l1)) → zlk L 2 = some (zrf (l2)) → zlk L 3 = some (.int (l3)) → f_Jx4a65c_add_72be8 l0 l1 l2 l3 h = some o → Ev G M_Jx4a65c_add_72be8 d 0 L [] h (Ret Y_Jx4a65c_add_72be8 none o) := by
  intro l0 l1 l2 l3 L h o g0 g1 g2 g3 e
  unfold f_Jx4a65c_add_72be8 at e
  refine r_iload_n d_Jx4a65c_add_72be8_0 rfl g3 ?_
  refine g_ald_n d_Jx4a65c_add_72be8_1 rfl g2 ?_
  replace e := ckd e
  obtain ⟨k1, e⟩ := e
  refine g_alenX d_Jx4a65c_add_72be8_2 k1 rfl ?_
  refine r_icmp_ne d_Jx4a65c_add_72be8_3 (tgt := 11) (by decide) (fun c2 => ?_) (fun c2 => ?_)
  · replace e := (if_neg c2).symm.trans e
    refine g_ald_n d_Jx4a65c_add_72be8_11 rfl g2 ?_
    refine r_iload_n d_Jx4a65c_add_72be8_12 rfl g3 ?_
    refine g_ald_n d_Jx4a65c_add_72be8_13 rfl g1 ?_
    replace e := ckd e
    obtain ⟨k3, e⟩ := e
    replace e := ckd e
    obtain ⟨k4, e⟩ := e
    replace e := ckd e
    obtain ⟨k5, e⟩ := e
    refine g_aastO d_Jx4a65c_add_72be8_14 k3 k5 k4 ?_
    replace e := bhd e
    obtain ⟨_, rfl, e⟩ := e
    refine g_ald_n d_Jx4a65c_add_72be8_15 rfl g0 ?_
    refine r_iload_n d_Jx4a65c_add_72be8_16 rfl g3 ?_
    refine r_iconst d_Jx4a65c_add_72be8_17 (v := (1 : Int32)) (by decide +kernel) ?_
    refine r_iadd d_Jx4a65c_add_72be8_18 ?_
    replace e := ckd e
    obtain ⟨k7, e⟩ := e
    refine g_putI d_Jx4a65c_add_72be8_19 (f := 2) k7 fk_12_48 rfl (Or.inl rfl) ⟨rfl, rfl⟩ ?_
    replace e := bhd e
    obtain ⟨_, rfl, e⟩ := e
    obtain rfl := Option.some.inj e
    exact g_vret d_Jx4a65c_add_72be8_22 rfl
  · replace e := (if_pos c2).symm.trans e
    refine g_ald_n d_Jx4a65c_add_72be8_6 rfl g0 ?_
    replace e := ckd e
    obtain ⟨k10, e⟩ := e
    replace e := bd e
    obtain ⟨q9, eq9, e⟩ := e
    refine g_callV d_Jx4a65c_add_72be8_7 vk_12_129 (as := []) rfl k10 rfl (by simp [zrf_cat, cat_int, cat_long]) (j := 4) (by omega) (c_Jx4a65c_grow_d5877 (by omega) eq9) ?_
    refine s_ast_n d_Jx4a65c_add_72be8_10 rfl (by decide) (fun L g2 gK => ?_)
    replace g0 := gK _ _ (by decide) (Or.inr (zrf_cat _)) g0
    replace g1 := gK _ _ (by decide) (Or.inr (zrf_cat _)) g1
    replace g3 := gK _ _ (by decide) (Or.inr rfl) g3
    refine g_ald_n d_Jx4a65c_add_72be8_11 rfl g2 ?_
    refine r_iload_n d_Jx4a65c_add_72be8_12 rfl g3 ?_
    refine g_ald_n d_Jx4a65c_add_72be8_13 rfl g1 ?_
    replace e := ckd e
    obtain ⟨k11, e⟩ := e
    replace e := ckd e
    obtain ⟨k12, e⟩ := e
    replace e := ckd e
    obtain ⟨k13, e⟩ := e
    refine g_aastO d_Jx4a65c_add_72be8_14 k11 k13 k12 ?_
    replace e := bhd e
    obtain ⟨_, rfl, e⟩ := e
    refine g_ald_n d_Jx4a65c_add_72be8_15 rfl g0 ?_
    refine r_iload_n d_Jx4a65c_add_72be8_16 rfl g3 ?_
    refine r_iconst d_Jx4a65c_add_72be8_17 (v := (1 : Int32)) (by decide +kernel) ?_
    refine r_iadd d_Jx4a65c_add_72be8_18 ?_
    replace e := ckd e
    obtain ⟨k15, e⟩ := e
    refine g_putI d_Jx4a65c_add_72be8_19 (f := 2) k15 fk_12_48 rfl (Or.inl rfl) ⟨rfl, rfl⟩ ?_
    replace e := bhd e
    obtain ⟨_, rfl, e⟩ := e
    obtain rfl := Option.some.inj e
    exact g_vret d_Jx4a65c_add_72be8_22 rfl

theorem c_Jx4a65c_add_72be8 {G : Gd} {j : Nat} (hj : 5 ≤ j) {l0 : Nat} {l1 : Nat} {l2 : Nat} {l3 : Int32} {h : Hp} {o : Hp} (e : f_Jx4a65c_add_72be8 l0 l1 l2 l3 h = some o) : Cal G j Y_Jx4a65c_add_72be8 [zrf (l0), zrf (l1), zrf (l2), .int (l3)] h none o := Cal.of (n := 0) (I := false) (by first | exact Or.inl (by decide +kernel) | exact Or.inr (by decide +kernel)) (by decide) (by simp [lg_sl, zrf_cat, cat_int, cat_long]) (f_Jx4a65c_add_72be8_ok hj _ _ _ _ _ h o (by simp [lv_args, zlk, zrf_cat, cat_int, cat_long]) (by simp [lv_args, zlk, zrf_cat, cat_int, cat_long]) (by simp [lv_args, zlk, zrf_cat, cat_int, cat_long]) (by simp [lv_args, zlk, zrf_cat, cat_int, cat_long]) e)
theorem vk_12_131 : Vk "java/util/ArrayList" 131 3 0 Y_Jx4a65c_add_72be8 := ⟨yk_Jx4a65c_add_72be8, by decide +kernel, by decide +kernel, by decide +kernel, by decide⟩
def f_Jx4a65c_add_9ea2d (l0 : Nat) (l1 : Nat) (h : Hp) : Option (Int32 × Hp) := ck (isO (h) (l0) 0) (bh (pI (h) 0 (l0) ((zI (h) 0 (l0)) + ((1 : Int32)))) (fun h2 => (f_Jx4a65c_add_72be8 (l0) (l1) (zR (h2) 1 (l0)) (zI (h2) 2 (l0)) (h2)).bind (fun q3 => some ((1 : Int32), q3))))
theorem f_Jx4a65c_add_9ea2d_ok {G : Gd} {d : Nat} (hj : 6 ≤ d) : ∀ (l0 : Nat) (l1 : Nat) (L : List (Nat × Value)) (h : Hp) (o : (Int32 × Hp)), zlk L 0 = some (zrf (l0)) → zlk L 1 = some (zrf (l1)) → f_Jx4a65c_add_9ea2d l0 l1 h = some o → Ev G M_Jx4a65c_add_9ea2d d 0 L [] h (Ret Y_Jx4a65c_add_9ea2d (some (.int o.1)) o.2) := by
  intro l0 l1 L h o g0 g1 e
  unfold f_Jx4a65c_add_9ea2d at e
  refine g_ald_n d_Jx4a65c_add_9ea2d_0 rfl g0 ?_
  refine r_dup d_Jx4a65c_add_9ea2d_1 (zrf_cat _) ?_
  replace e := ckd e
  obtain ⟨k1, e⟩ := e
  refine g_getIS d_Jx4a65c_add_9ea2d_2 (f := 0) (rf := "java/util/ArrayList") k1 (by decide) (by decide) (by decide +kernel) (by decide +kernel) rfl rfl ?_
  refine r_iconst d_Jx4a65c_add_9ea2d_5 (v := (1 : Int32)) (by decide +kernel) ?_
  refine r_iadd d_Jx4a65c_add_9ea2d_6 ?_
  refine g_putIS d_Jx4a65c_add_9ea2d_7 (f := 0) (rf := "java/util/ArrayList") k1 (by decide) (by decide) (by decide +kernel) (by decide +kernel) rfl rfl ⟨rfl, rfl⟩ ?_
  replace e := bhd e
  obtain ⟨_, rfl, e⟩ := e
  refine g_ald_n d_Jx4a65c_add_9ea2d_10 rfl g0 ?_
  refine g_ald_n d_Jx4a65c_add_9ea2d_11 rfl g1 ?_
  refine g_ald_n d_Jx4a65c_add_9ea2d_12 rfl g0 ?_
  refine g_getR d_Jx4a65c_add_9ea2d_13 (f := 1) (tO_pI k1) fk_12_9 rfl rfl ?_
  refine g_ald_n d_Jx4a65c_add_9ea2d_16 rfl g0 ?_
  refine g_getI d_Jx4a65c_add_9ea2d_17 (f := 2) (tO_pI k1) fk_12_48 rfl rfl ?_
  replace e := bd e
  obtain ⟨q3, eq3, e⟩ := e
  refine g_callV d_Jx4a65c_add_9ea2d_20 vk_12_131 (as := [_, _, _]) rfl (tO_pI k1) rfl (by simp [zrf_cat, cat_int, cat_long]) (j := 5) (by omega) (c_Jx4a65c_add_72be8 (by omega) eq3) ?_
  refine r_iconst d_Jx4a65c_add_9ea2d_23 (v := (1 : Int32)) (by decide +kernel) ?_
  obtain rfl := Option.some.inj e
  exact g_iret d_Jx4a65c_add_9ea2d_24 rfl rfl

theorem c_Jx4a65c_add_9ea2d {G : Gd} {j : Nat} (hj : 6 ≤ j) {l0 : Nat} {l1 : Nat} {h : Hp} {o : (Int32 × Hp)} (e : f_Jx4a65c_add_9ea2d l0 l1 h = some o) : Cal G j Y_Jx4a65c_add_9ea2d [zrf (l0), zrf (l1)] h (some (.int o.1)) o.2 := Cal.of (n := 0) (I := false) (by first | exact Or.inl (by decide +kernel) | exact Or.inr (by decide +kernel)) (by decide) (by simp [lg_sl, zrf_cat, cat_int, cat_long]) (f_Jx4a65c_add_9ea2d_ok hj _ _ _ h o (by simp [lv_args, zlk, zrf_cat, cat_int, cat_long]) (by simp [lv_args, zlk, zrf_cat, cat_int, cat_long]) e)
