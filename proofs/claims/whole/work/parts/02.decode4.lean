abbrev qc_Ref_code : ByteArray := prog_9_method_14_code
abbrev qy_Ref_code : MethodName := ⟨"QuietSweepModel", "code", "(II)I"⟩
abbrev ql_Ref_code : Cond := .code qy_Ref_code qc_Ref_code 4 (some .int)
theorem qd_Ref_code_0 : decode qc_Ref_code 0 = .ok (.iload_n 1, 1) := by decide +kernel
theorem qd_Ref_code_1 : decode qc_Ref_code 1 = .ok (.invokestatic 128, 3) := by decide +kernel
theorem qd_Ref_code_4 : decode qc_Ref_code 4 = .ok (.ifCond .eq 17, 3) := by decide +kernel
theorem qd_Ref_code_7 : decode qc_Ref_code 7 = .ok (.iload_n 2, 1) := by decide +kernel
theorem qd_Ref_code_8 : decode qc_Ref_code 8 = .ok (.ifCond .lt 13, 3) := by decide +kernel
theorem qd_Ref_code_11 : decode qc_Ref_code 11 = .ok (.iload_n 2, 1) := by decide +kernel
theorem qd_Ref_code_12 : decode qc_Ref_code 12 = .ok (.aload_n 0, 1) := by decide +kernel
theorem qd_Ref_code_13 : decode qc_Ref_code 13 = .ok (.getfield 29, 3) := by decide +kernel
theorem qd_Ref_code_16 : decode qc_Ref_code 16 = .ok (.iload_n 1, 1) := by decide +kernel
theorem qd_Ref_code_17 : decode qc_Ref_code 17 = .ok (.iaload, 1) := by decide +kernel
theorem qd_Ref_code_18 : decode qc_Ref_code 18 = .ok (.if_icmp .lt 5, 3) := by decide +kernel
theorem qd_Ref_code_21 : decode qc_Ref_code 21 = .ok (.iconst (-1), 1) := by decide +kernel
theorem qd_Ref_code_22 : decode qc_Ref_code 22 = .ok (.ireturn, 1) := by decide +kernel
theorem qd_Ref_code_23 : decode qc_Ref_code 23 = .ok (.bipush 40, 2) := by decide +kernel
theorem qd_Ref_code_25 : decode qc_Ref_code 25 = .ok (.iload_n 1, 1) := by decide +kernel
theorem qd_Ref_code_26 : decode qc_Ref_code 26 = .ok (.imul, 1) := by decide +kernel
theorem qd_Ref_code_27 : decode qc_Ref_code 27 = .ok (.iload_n 2, 1) := by decide +kernel
theorem qd_Ref_code_28 : decode qc_Ref_code 28 = .ok (.iadd, 1) := by decide +kernel
theorem qd_Ref_code_29 : decode qc_Ref_code 29 = .ok (.istore_n 3, 1) := by decide +kernel
theorem qd_Ref_code_30 : decode qc_Ref_code 30 = .ok (.aload_n 0, 1) := by decide +kernel
theorem qd_Ref_code_31 : decode qc_Ref_code 31 = .ok (.getfield 32, 3) := by decide +kernel
theorem qd_Ref_code_34 : decode qc_Ref_code 34 = .ok (.iload_n 3, 1) := by decide +kernel
theorem qd_Ref_code_35 : decode qc_Ref_code 35 = .ok (.iaload, 1) := by decide +kernel
theorem qd_Ref_code_36 : decode qc_Ref_code 36 = .ok (.bipush 16, 2) := by decide +kernel
theorem qd_Ref_code_38 : decode qc_Ref_code 38 = .ok (.aload_n 0, 1) := by decide +kernel
theorem qd_Ref_code_39 : decode qc_Ref_code 39 = .ok (.getfield 35, 3) := by decide +kernel
theorem qd_Ref_code_42 : decode qc_Ref_code 42 = .ok (.iload_n 3, 1) := by decide +kernel
theorem qd_Ref_code_43 : decode qc_Ref_code 43 = .ok (.iaload, 1) := by decide +kernel
theorem qd_Ref_code_44 : decode qc_Ref_code 44 = .ok (.imul, 1) := by decide +kernel
theorem qd_Ref_code_45 : decode qc_Ref_code 45 = .ok (.iadd, 1) := by decide +kernel
theorem qd_Ref_code_46 : decode qc_Ref_code 46 = .ok (.bipush 64, 2) := by decide +kernel
theorem qd_Ref_code_48 : decode qc_Ref_code 48 = .ok (.aload_n 0, 1) := by decide +kernel
theorem qd_Ref_code_49 : decode qc_Ref_code 49 = .ok (.getfield 38, 3) := by decide +kernel
theorem qd_Ref_code_52 : decode qc_Ref_code 52 = .ok (.iload_n 3, 1) := by decide +kernel
theorem qd_Ref_code_53 : decode qc_Ref_code 53 = .ok (.iaload, 1) := by decide +kernel
theorem qd_Ref_code_54 : decode qc_Ref_code 54 = .ok (.imul, 1) := by decide +kernel
theorem qd_Ref_code_55 : decode qc_Ref_code 55 = .ok (.iadd, 1) := by decide +kernel
theorem qd_Ref_code_56 : decode qc_Ref_code 56 = .ok (.sipush 256, 3) := by decide +kernel
theorem qd_Ref_code_59 : decode qc_Ref_code 59 = .ok (.aload_n 0, 1) := by decide +kernel
theorem qd_Ref_code_60 : decode qc_Ref_code 60 = .ok (.getfield 41, 3) := by decide +kernel
theorem qd_Ref_code_63 : decode qc_Ref_code 63 = .ok (.iload_n 3, 1) := by decide +kernel
theorem qd_Ref_code_64 : decode qc_Ref_code 64 = .ok (.iaload, 1) := by decide +kernel
theorem qd_Ref_code_65 : decode qc_Ref_code 65 = .ok (.imul, 1) := by decide +kernel
theorem qd_Ref_code_66 : decode qc_Ref_code 66 = .ok (.iadd, 1) := by decide +kernel
theorem qd_Ref_code_67 : decode qc_Ref_code 67 = .ok (.ireturn, 1) := by decide +kernel
abbrev qc_Ref_go : ByteArray := prog_9_method_28_code
abbrev qy_Ref_go : MethodName := ⟨"QuietSweepModel", "go", "(II)I"⟩
abbrev ql_Ref_go : Cond := .code qy_Ref_go qc_Ref_go 5 (some .int)
theorem qd_Ref_go_0 : decode qc_Ref_go 0 = .ok (.iload_n 2, 1) := by decide +kernel
theorem qd_Ref_go_1 : decode qc_Ref_go 1 = .ok (.ifCond .lt 9, 3) := by decide +kernel
theorem qd_Ref_go_4 : decode qc_Ref_go 4 = .ok (.iload_n 2, 1) := by decide +kernel
theorem qd_Ref_go_5 : decode qc_Ref_go 5 = .ok (.bipush 10, 2) := by decide +kernel
theorem qd_Ref_go_7 : decode qc_Ref_go 7 = .ok (.if_icmp .le 5, 3) := by decide +kernel
theorem qd_Ref_go_10 : decode qc_Ref_go 10 = .ok (.iconst (-1), 1) := by decide +kernel
theorem qd_Ref_go_11 : decode qc_Ref_go 11 = .ok (.ireturn, 1) := by decide +kernel
theorem qd_Ref_go_12 : decode qc_Ref_go 12 = .ok (.iconst 0, 1) := by decide +kernel
theorem qd_Ref_go_13 : decode qc_Ref_go 13 = .ok (.istore_n 3, 1) := by decide +kernel
theorem qd_Ref_go_14 : decode qc_Ref_go 14 = .ok (.iconst 0, 1) := by decide +kernel
theorem qd_Ref_go_15 : decode qc_Ref_go 15 = .ok (.istore 4, 2) := by decide +kernel
theorem qd_Ref_go_17 : decode qc_Ref_go 17 = .ok (.iload 4, 2) := by decide +kernel
theorem qd_Ref_go_19 : decode qc_Ref_go 19 = .ok (.iload_n 2, 1) := by decide +kernel
theorem qd_Ref_go_20 : decode qc_Ref_go 20 = .ok (.if_icmp .ge 33, 3) := by decide +kernel
theorem qd_Ref_go_23 : decode qc_Ref_go 23 = .ok (.aload_n 0, 1) := by decide +kernel
theorem qd_Ref_go_24 : decode qc_Ref_go 24 = .ok (.iload_n 1, 1) := by decide +kernel
theorem qd_Ref_go_25 : decode qc_Ref_go 25 = .ok (.iconst 3, 1) := by decide +kernel
theorem qd_Ref_go_26 : decode qc_Ref_go 26 = .ok (.iload 4, 2) := by decide +kernel
theorem qd_Ref_go_28 : decode qc_Ref_go 28 = .ok (.imul, 1) := by decide +kernel
theorem qd_Ref_go_29 : decode qc_Ref_go 29 = .ok (.ishr, 1) := by decide +kernel
theorem qd_Ref_go_30 : decode qc_Ref_go 30 = .ok (.bipush 7, 2) := by decide +kernel
theorem qd_Ref_go_32 : decode qc_Ref_go 32 = .ok (.iand, 1) := by decide +kernel
theorem qd_Ref_go_33 : decode qc_Ref_go 33 = .ok (.invokevirtual 186, 3) := by decide +kernel
theorem qd_Ref_go_36 : decode qc_Ref_go 36 = .ok (.ifCond .eq 9, 3) := by decide +kernel
theorem qd_Ref_go_39 : decode qc_Ref_go 39 = .ok (.iload_n 3, 1) := by decide +kernel
theorem qd_Ref_go_40 : decode qc_Ref_go 40 = .ok (.iconst 1, 1) := by decide +kernel
theorem qd_Ref_go_41 : decode qc_Ref_go 41 = .ok (.iadd, 1) := by decide +kernel
theorem qd_Ref_go_42 : decode qc_Ref_go 42 = .ok (.goto 4, 3) := by decide +kernel
theorem qd_Ref_go_45 : decode qc_Ref_go 45 = .ok (.iload_n 3, 1) := by decide +kernel
theorem qd_Ref_go_46 : decode qc_Ref_go 46 = .ok (.istore_n 3, 1) := by decide +kernel
theorem qd_Ref_go_47 : decode qc_Ref_go 47 = .ok (.iinc 4 1, 3) := by decide +kernel
theorem qd_Ref_go_50 : decode qc_Ref_go 50 = .ok (.goto (-33), 3) := by decide +kernel
theorem qd_Ref_go_53 : decode qc_Ref_go 53 = .ok (.iload_n 3, 1) := by decide +kernel
theorem qd_Ref_go_54 : decode qc_Ref_go 54 = .ok (.ireturn, 1) := by decide +kernel
abbrev qc_Ref_entry : ByteArray := prog_9_method_27_code
abbrev qy_Ref_entry : MethodName := ⟨"QuietSweepModel", "entry", "(I)Z"⟩
abbrev ql_Ref_entry : Cond := .code qy_Ref_entry qc_Ref_entry 3 (some .boolean)
theorem qd_Ref_entry_0 : decode qc_Ref_entry 0 = .ok (.iload_n 1, 1) := by decide +kernel
theorem qd_Ref_entry_1 : decode qc_Ref_entry 1 = .ok (.iconst 1, 1) := by decide +kernel
theorem qd_Ref_entry_2 : decode qc_Ref_entry 2 = .ok (.iand, 1) := by decide +kernel
theorem qd_Ref_entry_3 : decode qc_Ref_entry 3 = .ok (.istore_n 2, 1) := by decide +kernel
theorem qd_Ref_entry_4 : decode qc_Ref_entry 4 = .ok (.iload_n 1, 1) := by decide +kernel
theorem qd_Ref_entry_5 : decode qc_Ref_entry 5 = .ok (.iconst 2, 1) := by decide +kernel
theorem qd_Ref_entry_6 : decode qc_Ref_entry 6 = .ok (.if_icmp .ge 11, 3) := by decide +kernel
theorem qd_Ref_entry_9 : decode qc_Ref_entry 9 = .ok (.aload_n 0, 1) := by decide +kernel
theorem qd_Ref_entry_10 : decode qc_Ref_entry 10 = .ok (.iload_n 2, 1) := by decide +kernel
theorem qd_Ref_entry_11 : decode qc_Ref_entry 11 = .ok (.invokevirtual 177, 3) := by decide +kernel
theorem qd_Ref_entry_14 : decode qc_Ref_entry 14 = .ok (.goto 34, 3) := by decide +kernel
theorem qd_Ref_entry_17 : decode qc_Ref_entry 17 = .ok (.iload_n 1, 1) := by decide +kernel
theorem qd_Ref_entry_18 : decode qc_Ref_entry 18 = .ok (.iconst 4, 1) := by decide +kernel
theorem qd_Ref_entry_19 : decode qc_Ref_entry 19 = .ok (.if_icmp .ge 11, 3) := by decide +kernel
theorem qd_Ref_entry_22 : decode qc_Ref_entry 22 = .ok (.aload_n 0, 1) := by decide +kernel
theorem qd_Ref_entry_23 : decode qc_Ref_entry 23 = .ok (.iload_n 2, 1) := by decide +kernel
theorem qd_Ref_entry_24 : decode qc_Ref_entry 24 = .ok (.invokevirtual 165, 3) := by decide +kernel
theorem qd_Ref_entry_27 : decode qc_Ref_entry 27 = .ok (.goto 21, 3) := by decide +kernel
theorem qd_Ref_entry_30 : decode qc_Ref_entry 30 = .ok (.iload_n 1, 1) := by decide +kernel
theorem qd_Ref_entry_31 : decode qc_Ref_entry 31 = .ok (.bipush 6, 2) := by decide +kernel
theorem qd_Ref_entry_33 : decode qc_Ref_entry 33 = .ok (.if_icmp .ge 11, 3) := by decide +kernel
theorem qd_Ref_entry_36 : decode qc_Ref_entry 36 = .ok (.aload_n 0, 1) := by decide +kernel
theorem qd_Ref_entry_37 : decode qc_Ref_entry 37 = .ok (.iload_n 2, 1) := by decide +kernel
theorem qd_Ref_entry_38 : decode qc_Ref_entry 38 = .ok (.invokevirtual 180, 3) := by decide +kernel
theorem qd_Ref_entry_41 : decode qc_Ref_entry 41 = .ok (.goto 7, 3) := by decide +kernel
theorem qd_Ref_entry_44 : decode qc_Ref_entry 44 = .ok (.aload_n 0, 1) := by decide +kernel
theorem qd_Ref_entry_45 : decode qc_Ref_entry 45 = .ok (.invokevirtual 183, 3) := by decide +kernel
theorem qd_Ref_entry_48 : decode qc_Ref_entry 48 = .ok (.ireturn, 1) := by decide +kernel
abbrev qc_Ref_step : ByteArray := prog_9_method_19_code
abbrev qy_Ref_step : MethodName := ⟨"QuietSweepModel", "step", "(I)Z"⟩
abbrev ql_Ref_step : Cond := .code qy_Ref_step qc_Ref_step 7 (some .boolean)
theorem qd_Ref_step_0 : decode qc_Ref_step 0 = .ok (.aload_n 0, 1) := by decide +kernel
theorem qd_Ref_step_1 : decode qc_Ref_step 1 = .ok (.getfield 44, 3) := by decide +kernel
theorem qd_Ref_step_4 : decode qc_Ref_step 4 = .ok (.iload_n 1, 1) := by decide +kernel
theorem qd_Ref_step_5 : decode qc_Ref_step 5 = .ok (.iaload, 1) := by decide +kernel
theorem qd_Ref_step_6 : decode qc_Ref_step 6 = .ok (.aload_n 0, 1) := by decide +kernel
theorem qd_Ref_step_7 : decode qc_Ref_step 7 = .ok (.getfield 29, 3) := by decide +kernel
theorem qd_Ref_step_10 : decode qc_Ref_step 10 = .ok (.iload_n 1, 1) := by decide +kernel
theorem qd_Ref_step_11 : decode qc_Ref_step 11 = .ok (.iaload, 1) := by decide +kernel
theorem qd_Ref_step_12 : decode qc_Ref_step 12 = .ok (.if_icmp .lt 5, 3) := by decide +kernel
theorem qd_Ref_step_15 : decode qc_Ref_step 15 = .ok (.iconst 0, 1) := by decide +kernel
theorem qd_Ref_step_16 : decode qc_Ref_step 16 = .ok (.ireturn, 1) := by decide +kernel
theorem qd_Ref_step_17 : decode qc_Ref_step 17 = .ok (.bipush 40, 2) := by decide +kernel
theorem qd_Ref_step_19 : decode qc_Ref_step 19 = .ok (.iload_n 1, 1) := by decide +kernel
theorem qd_Ref_step_20 : decode qc_Ref_step 20 = .ok (.imul, 1) := by decide +kernel
theorem qd_Ref_step_21 : decode qc_Ref_step 21 = .ok (.aload_n 0, 1) := by decide +kernel
theorem qd_Ref_step_22 : decode qc_Ref_step 22 = .ok (.getfield 44, 3) := by decide +kernel
theorem qd_Ref_step_25 : decode qc_Ref_step 25 = .ok (.iload_n 1, 1) := by decide +kernel
theorem qd_Ref_step_26 : decode qc_Ref_step 26 = .ok (.iaload, 1) := by decide +kernel
theorem qd_Ref_step_27 : decode qc_Ref_step 27 = .ok (.iadd, 1) := by decide +kernel
theorem qd_Ref_step_28 : decode qc_Ref_step 28 = .ok (.istore_n 2, 1) := by decide +kernel
theorem qd_Ref_step_29 : decode qc_Ref_step 29 = .ok (.aload_n 0, 1) := by decide +kernel
theorem qd_Ref_step_30 : decode qc_Ref_step 30 = .ok (.getfield 32, 3) := by decide +kernel
theorem qd_Ref_step_33 : decode qc_Ref_step 33 = .ok (.iload_n 2, 1) := by decide +kernel
theorem qd_Ref_step_34 : decode qc_Ref_step 34 = .ok (.iaload, 1) := by decide +kernel
theorem qd_Ref_step_35 : decode qc_Ref_step 35 = .ok (.istore_n 3, 1) := by decide +kernel
theorem qd_Ref_step_36 : decode qc_Ref_step 36 = .ok (.bipush 7, 2) := by decide +kernel
theorem qd_Ref_step_38 : decode qc_Ref_step 38 = .ok (.iload_n 1, 1) := by decide +kernel
theorem qd_Ref_step_39 : decode qc_Ref_step 39 = .ok (.imul, 1) := by decide +kernel
theorem qd_Ref_step_40 : decode qc_Ref_step 40 = .ok (.aload_n 0, 1) := by decide +kernel
theorem qd_Ref_step_41 : decode qc_Ref_step 41 = .ok (.getfield 35, 3) := by decide +kernel
theorem qd_Ref_step_44 : decode qc_Ref_step 44 = .ok (.iload_n 2, 1) := by decide +kernel
theorem qd_Ref_step_45 : decode qc_Ref_step 45 = .ok (.iaload, 1) := by decide +kernel
theorem qd_Ref_step_46 : decode qc_Ref_step 46 = .ok (.iadd, 1) := by decide +kernel
theorem qd_Ref_step_47 : decode qc_Ref_step 47 = .ok (.istore 4, 2) := by decide +kernel
theorem qd_Ref_step_49 : decode qc_Ref_step 49 = .ok (.bipush 7, 2) := by decide +kernel
theorem qd_Ref_step_51 : decode qc_Ref_step 51 = .ok (.iload_n 1, 1) := by decide +kernel
theorem qd_Ref_step_52 : decode qc_Ref_step 52 = .ok (.imul, 1) := by decide +kernel
theorem qd_Ref_step_53 : decode qc_Ref_step 53 = .ok (.aload_n 0, 1) := by decide +kernel
theorem qd_Ref_step_54 : decode qc_Ref_step 54 = .ok (.getfield 38, 3) := by decide +kernel
theorem qd_Ref_step_57 : decode qc_Ref_step 57 = .ok (.iload_n 2, 1) := by decide +kernel
theorem qd_Ref_step_58 : decode qc_Ref_step 58 = .ok (.iaload, 1) := by decide +kernel
theorem qd_Ref_step_59 : decode qc_Ref_step 59 = .ok (.iadd, 1) := by decide +kernel
theorem qd_Ref_step_60 : decode qc_Ref_step 60 = .ok (.istore 5, 2) := by decide +kernel
theorem qd_Ref_step_62 : decode qc_Ref_step 62 = .ok (.iload_n 3, 1) := by decide +kernel
theorem qd_Ref_step_63 : decode qc_Ref_step 63 = .ok (.ifCond .ne 11, 3) := by decide +kernel
theorem qd_Ref_step_66 : decode qc_Ref_step 66 = .ok (.aload_n 0, 1) := by decide +kernel
theorem qd_Ref_step_67 : decode qc_Ref_step 67 = .ok (.iload_n 1, 1) := by decide +kernel
theorem qd_Ref_step_68 : decode qc_Ref_step 68 = .ok (.iload 4, 2) := by decide +kernel
theorem qd_Ref_step_70 : decode qc_Ref_step 70 = .ok (.invokevirtual 136, 3) := by decide +kernel
theorem qd_Ref_step_73 : decode qc_Ref_step 73 = .ok (.ireturn, 1) := by decide +kernel
theorem qd_Ref_step_74 : decode qc_Ref_step 74 = .ok (.iload_n 3, 1) := by decide +kernel
theorem qd_Ref_step_75 : decode qc_Ref_step 75 = .ok (.iconst 5, 1) := by decide +kernel
theorem qd_Ref_step_76 : decode qc_Ref_step 76 = .ok (.if_icmp .lt 82, 3) := by decide +kernel
theorem qd_Ref_step_79 : decode qc_Ref_step 79 = .ok (.iload_n 3, 1) := by decide +kernel
theorem qd_Ref_step_80 : decode qc_Ref_step 80 = .ok (.bipush 9, 2) := by decide +kernel
theorem qd_Ref_step_82 : decode qc_Ref_step 82 = .ok (.if_icmp .gt 76, 3) := by decide +kernel
theorem qd_Ref_step_85 : decode qc_Ref_step 85 = .ok (.iload_n 3, 1) := by decide +kernel
theorem qd_Ref_step_86 : decode qc_Ref_step 86 = .ok (.bipush 7, 2) := by decide +kernel
theorem qd_Ref_step_88 : decode qc_Ref_step 88 = .ok (.if_icmp .lt 13, 3) := by decide +kernel
theorem qd_Ref_step_91 : decode qc_Ref_step 91 = .ok (.iload_n 3, 1) := by decide +kernel
theorem qd_Ref_step_92 : decode qc_Ref_step 92 = .ok (.bipush 8, 2) := by decide +kernel
theorem qd_Ref_step_94 : decode qc_Ref_step 94 = .ok (.if_icmp .gt 7, 3) := by decide +kernel
theorem qd_Ref_step_97 : decode qc_Ref_step 97 = .ok (.iconst (-1), 1) := by decide +kernel
theorem qd_Ref_step_98 : decode qc_Ref_step 98 = .ok (.goto 28, 3) := by decide +kernel
theorem qd_Ref_step_101 : decode qc_Ref_step 101 = .ok (.iload_n 3, 1) := by decide +kernel
theorem qd_Ref_step_102 : decode qc_Ref_step 102 = .ok (.bipush 9, 2) := by decide +kernel
theorem qd_Ref_step_104 : decode qc_Ref_step 104 = .ok (.if_icmp .ne 15, 3) := by decide +kernel
theorem qd_Ref_step_107 : decode qc_Ref_step 107 = .ok (.aload_n 0, 1) := by decide +kernel
theorem qd_Ref_step_108 : decode qc_Ref_step 108 = .ok (.getfield 47, 3) := by decide +kernel
theorem qd_Ref_step_111 : decode qc_Ref_step 111 = .ok (.iload 5, 2) := by decide +kernel
theorem qd_Ref_step_113 : decode qc_Ref_step 113 = .ok (.iconst 4, 1) := by decide +kernel
theorem qd_Ref_step_114 : decode qc_Ref_step 114 = .ok (.iadd, 1) := by decide +kernel
theorem qd_Ref_step_115 : decode qc_Ref_step 115 = .ok (.iaload, 1) := by decide +kernel
theorem qd_Ref_step_116 : decode qc_Ref_step 116 = .ok (.goto 10, 3) := by decide +kernel
theorem qd_Ref_step_119 : decode qc_Ref_step 119 = .ok (.aload_n 0, 1) := by decide +kernel
theorem qd_Ref_step_120 : decode qc_Ref_step 120 = .ok (.getfield 47, 3) := by decide +kernel
theorem qd_Ref_step_123 : decode qc_Ref_step 123 = .ok (.iload 5, 2) := by decide +kernel
theorem qd_Ref_step_125 : decode qc_Ref_step 125 = .ok (.iaload, 1) := by decide +kernel
theorem qd_Ref_step_126 : decode qc_Ref_step 126 = .ok (.istore 6, 2) := by decide +kernel
theorem qd_Ref_step_128 : decode qc_Ref_step 128 = .ok (.aload_n 0, 1) := by decide +kernel
theorem qd_Ref_step_129 : decode qc_Ref_step 129 = .ok (.iload_n 1, 1) := by decide +kernel
theorem qd_Ref_step_130 : decode qc_Ref_step 130 = .ok (.aload_n 0, 1) := by decide +kernel
theorem qd_Ref_step_131 : decode qc_Ref_step 131 = .ok (.getfield 47, 3) := by decide +kernel
theorem qd_Ref_step_134 : decode qc_Ref_step 134 = .ok (.iload 4, 2) := by decide +kernel
theorem qd_Ref_step_136 : decode qc_Ref_step 136 = .ok (.iaload, 1) := by decide +kernel
theorem qd_Ref_step_137 : decode qc_Ref_step 137 = .ok (.iload_n 3, 1) := by decide +kernel
theorem qd_Ref_step_138 : decode qc_Ref_step 138 = .ok (.bipush 9, 2) := by decide +kernel
theorem qd_Ref_step_140 : decode qc_Ref_step 140 = .ok (.if_icmp .ne 7, 3) := by decide +kernel
theorem qd_Ref_step_143 : decode qc_Ref_step 143 = .ok (.iconst 2, 1) := by decide +kernel
theorem qd_Ref_step_144 : decode qc_Ref_step 144 = .ok (.goto 8, 3) := by decide +kernel
theorem qd_Ref_step_147 : decode qc_Ref_step 147 = .ok (.iload_n 3, 1) := by decide +kernel
theorem qd_Ref_step_148 : decode qc_Ref_step 148 = .ok (.iconst 5, 1) := by decide +kernel
theorem qd_Ref_step_149 : decode qc_Ref_step 149 = .ok (.isub, 1) := by decide +kernel
theorem qd_Ref_step_150 : decode qc_Ref_step 150 = .ok (.iconst 2, 1) := by decide +kernel
theorem qd_Ref_step_151 : decode qc_Ref_step 151 = .ok (.irem, 1) := by decide +kernel
theorem qd_Ref_step_152 : decode qc_Ref_step 152 = .ok (.iload 6, 2) := by decide +kernel
theorem qd_Ref_step_154 : decode qc_Ref_step 154 = .ok (.invokevirtual 140, 3) := by decide +kernel
theorem qd_Ref_step_157 : decode qc_Ref_step 157 = .ok (.ireturn, 1) := by decide +kernel
theorem qd_Ref_step_158 : decode qc_Ref_step 158 = .ok (.iload_n 3, 1) := by decide +kernel
theorem qd_Ref_step_159 : decode qc_Ref_step 159 = .ok (.bipush 15, 2) := by decide +kernel
theorem qd_Ref_step_161 : decode qc_Ref_step 161 = .ok (.if_icmp .ne 81, 3) := by decide +kernel
theorem qd_Ref_step_164 : decode qc_Ref_step 164 = .ok (.aload_n 0, 1) := by decide +kernel
theorem qd_Ref_step_165 : decode qc_Ref_step 165 = .ok (.getfield 38, 3) := by decide +kernel
theorem qd_Ref_step_168 : decode qc_Ref_step 168 = .ok (.iload_n 2, 1) := by decide +kernel
theorem qd_Ref_step_169 : decode qc_Ref_step 169 = .ok (.iaload, 1) := by decide +kernel
theorem qd_Ref_step_170 : decode qc_Ref_step 170 = .ok (.ifCond .ne 18, 3) := by decide +kernel
theorem qd_Ref_step_173 : decode qc_Ref_step 173 = .ok (.aload_n 0, 1) := by decide +kernel
theorem qd_Ref_step_174 : decode qc_Ref_step 174 = .ok (.getfield 47, 3) := by decide +kernel
theorem qd_Ref_step_177 : decode qc_Ref_step 177 = .ok (.iload 4, 2) := by decide +kernel
theorem qd_Ref_step_179 : decode qc_Ref_step 179 = .ok (.iaload, 1) := by decide +kernel
theorem qd_Ref_step_180 : decode qc_Ref_step 180 = .ok (.iconst (-1), 1) := by decide +kernel
theorem qd_Ref_step_181 : decode qc_Ref_step 181 = .ok (.if_icmp .ne 7, 3) := by decide +kernel
theorem qd_Ref_step_184 : decode qc_Ref_step 184 = .ok (.iconst 1, 1) := by decide +kernel
theorem qd_Ref_step_185 : decode qc_Ref_step 185 = .ok (.goto 4, 3) := by decide +kernel
theorem qd_Ref_step_188 : decode qc_Ref_step 188 = .ok (.iconst 0, 1) := by decide +kernel
theorem qd_Ref_step_189 : decode qc_Ref_step 189 = .ok (.istore 6, 2) := by decide +kernel
theorem qd_Ref_step_191 : decode qc_Ref_step 191 = .ok (.aload_n 0, 1) := by decide +kernel
theorem qd_Ref_step_192 : decode qc_Ref_step 192 = .ok (.getfield 44, 3) := by decide +kernel
theorem qd_Ref_step_195 : decode qc_Ref_step 195 = .ok (.iload_n 1, 1) := by decide +kernel
theorem qd_Ref_step_196 : decode qc_Ref_step 196 = .ok (.aload_n 0, 1) := by decide +kernel
theorem qd_Ref_step_197 : decode qc_Ref_step 197 = .ok (.getfield 38, 3) := by decide +kernel
theorem qd_Ref_step_200 : decode qc_Ref_step 200 = .ok (.iload_n 2, 1) := by decide +kernel
theorem qd_Ref_step_201 : decode qc_Ref_step 201 = .ok (.iaload, 1) := by decide +kernel
theorem qd_Ref_step_202 : decode qc_Ref_step 202 = .ok (.iconst 1, 1) := by decide +kernel
theorem qd_Ref_step_203 : decode qc_Ref_step 203 = .ok (.if_icmp .ne 12, 3) := by decide +kernel
theorem qd_Ref_step_206 : decode qc_Ref_step 206 = .ok (.aload_n 0, 1) := by decide +kernel
theorem qd_Ref_step_207 : decode qc_Ref_step 207 = .ok (.getfield 41, 3) := by decide +kernel
theorem qd_Ref_step_210 : decode qc_Ref_step 210 = .ok (.iload_n 2, 1) := by decide +kernel
theorem qd_Ref_step_211 : decode qc_Ref_step 211 = .ok (.iaload, 1) := by decide +kernel
theorem qd_Ref_step_212 : decode qc_Ref_step 212 = .ok (.goto 27, 3) := by decide +kernel
theorem qd_Ref_step_215 : decode qc_Ref_step 215 = .ok (.iload 6, 2) := by decide +kernel
theorem qd_Ref_step_217 : decode qc_Ref_step 217 = .ok (.ifCond .eq 14, 3) := by decide +kernel
theorem qd_Ref_step_220 : decode qc_Ref_step 220 = .ok (.aload_n 0, 1) := by decide +kernel
theorem qd_Ref_step_221 : decode qc_Ref_step 221 = .ok (.getfield 41, 3) := by decide +kernel
theorem qd_Ref_step_224 : decode qc_Ref_step 224 = .ok (.iload_n 2, 1) := by decide +kernel
theorem qd_Ref_step_225 : decode qc_Ref_step 225 = .ok (.iaload, 1) := by decide +kernel
theorem qd_Ref_step_226 : decode qc_Ref_step 226 = .ok (.iconst 1, 1) := by decide +kernel
theorem qd_Ref_step_227 : decode qc_Ref_step 227 = .ok (.iadd, 1) := by decide +kernel
theorem qd_Ref_step_228 : decode qc_Ref_step 228 = .ok (.goto 11, 3) := by decide +kernel
theorem qd_Ref_step_231 : decode qc_Ref_step 231 = .ok (.aload_n 0, 1) := by decide +kernel
theorem qd_Ref_step_232 : decode qc_Ref_step 232 = .ok (.getfield 44, 3) := by decide +kernel
theorem qd_Ref_step_235 : decode qc_Ref_step 235 = .ok (.iload_n 1, 1) := by decide +kernel
theorem qd_Ref_step_236 : decode qc_Ref_step 236 = .ok (.iaload, 1) := by decide +kernel
theorem qd_Ref_step_237 : decode qc_Ref_step 237 = .ok (.iconst 1, 1) := by decide +kernel
theorem qd_Ref_step_238 : decode qc_Ref_step 238 = .ok (.iadd, 1) := by decide +kernel
theorem qd_Ref_step_239 : decode qc_Ref_step 239 = .ok (.iastore, 1) := by decide +kernel
theorem qd_Ref_step_240 : decode qc_Ref_step 240 = .ok (.iconst 1, 1) := by decide +kernel
theorem qd_Ref_step_241 : decode qc_Ref_step 241 = .ok (.ireturn, 1) := by decide +kernel
theorem qd_Ref_step_242 : decode qc_Ref_step 242 = .ok (.aload_n 0, 1) := by decide +kernel
theorem qd_Ref_step_243 : decode qc_Ref_step 243 = .ok (.getfield 44, 3) := by decide +kernel
theorem qd_Ref_step_246 : decode qc_Ref_step 246 = .ok (.iload_n 1, 1) := by decide +kernel
theorem qd_Ref_step_247 : decode qc_Ref_step 247 = .ok (.dup2, 1) := by decide +kernel
theorem qd_Ref_step_248 : decode qc_Ref_step 248 = .ok (.iaload, 1) := by decide +kernel
theorem qd_Ref_step_249 : decode qc_Ref_step 249 = .ok (.iconst 1, 1) := by decide +kernel
theorem qd_Ref_step_250 : decode qc_Ref_step 250 = .ok (.iadd, 1) := by decide +kernel
theorem qd_Ref_step_251 : decode qc_Ref_step 251 = .ok (.iastore, 1) := by decide +kernel
theorem qd_Ref_step_252 : decode qc_Ref_step 252 = .ok (.iload_n 3, 1) := by decide +kernel
theorem qd_Ref_step_253 : decode qc_Ref_step 253 = .ok (.iconst 5, 1) := by decide +kernel
theorem qd_Ref_step_254 : decode qc_Ref_step 254 = .ok (.if_icmp .ge 60, 3) := by decide +kernel
theorem qd_Ref_step_257 : decode qc_Ref_step 257 = .ok (.aload_n 0, 1) := by decide +kernel
theorem qd_Ref_step_258 : decode qc_Ref_step 258 = .ok (.getfield 47, 3) := by decide +kernel
theorem qd_Ref_step_261 : decode qc_Ref_step 261 = .ok (.iload 5, 2) := by decide +kernel
theorem qd_Ref_step_263 : decode qc_Ref_step 263 = .ok (.iaload, 1) := by decide +kernel
theorem qd_Ref_step_264 : decode qc_Ref_step 264 = .ok (.istore 6, 2) := by decide +kernel
theorem qd_Ref_step_266 : decode qc_Ref_step 266 = .ok (.aload_n 0, 1) := by decide +kernel
theorem qd_Ref_step_267 : decode qc_Ref_step 267 = .ok (.getfield 47, 3) := by decide +kernel
theorem qd_Ref_step_270 : decode qc_Ref_step 270 = .ok (.iload 4, 2) := by decide +kernel
theorem qd_Ref_step_272 : decode qc_Ref_step 272 = .ok (.iload_n 3, 1) := by decide +kernel
theorem qd_Ref_step_273 : decode qc_Ref_step 273 = .ok (.iconst 1, 1) := by decide +kernel
theorem qd_Ref_step_274 : decode qc_Ref_step 274 = .ok (.if_icmp .ne 7, 3) := by decide +kernel
theorem qd_Ref_step_277 : decode qc_Ref_step 277 = .ok (.iconst (-1), 1) := by decide +kernel
theorem qd_Ref_step_278 : decode qc_Ref_step 278 = .ok (.goto 33, 3) := by decide +kernel
theorem qd_Ref_step_281 : decode qc_Ref_step 281 = .ok (.iload_n 3, 1) := by decide +kernel
theorem qd_Ref_step_282 : decode qc_Ref_step 282 = .ok (.iconst 2, 1) := by decide +kernel
theorem qd_Ref_step_283 : decode qc_Ref_step 283 = .ok (.if_icmp .ne 8, 3) := by decide +kernel
theorem qd_Ref_step_286 : decode qc_Ref_step 286 = .ok (.iload 6, 2) := by decide +kernel
theorem qd_Ref_step_288 : decode qc_Ref_step 288 = .ok (.goto 23, 3) := by decide +kernel
theorem qd_Ref_step_291 : decode qc_Ref_step 291 = .ok (.iload 6, 2) := by decide +kernel
theorem qd_Ref_step_293 : decode qc_Ref_step 293 = .ok (.iconst (-1), 1) := by decide +kernel
theorem qd_Ref_step_294 : decode qc_Ref_step 294 = .ok (.if_icmp .ne 7, 3) := by decide +kernel
theorem qd_Ref_step_297 : decode qc_Ref_step 297 = .ok (.iconst (-1), 1) := by decide +kernel
theorem qd_Ref_step_298 : decode qc_Ref_step 298 = .ok (.goto 13, 3) := by decide +kernel
theorem qd_Ref_step_301 : decode qc_Ref_step 301 = .ok (.aload_n 0, 1) := by decide +kernel
theorem qd_Ref_step_302 : decode qc_Ref_step 302 = .ok (.iload_n 1, 1) := by decide +kernel
theorem qd_Ref_step_303 : decode qc_Ref_step 303 = .ok (.iload 6, 2) := by decide +kernel
theorem qd_Ref_step_305 : decode qc_Ref_step 305 = .ok (.iload_n 3, 1) := by decide +kernel
theorem qd_Ref_step_306 : decode qc_Ref_step 306 = .ok (.iconst 3, 1) := by decide +kernel
theorem qd_Ref_step_307 : decode qc_Ref_step 307 = .ok (.isub, 1) := by decide +kernel
theorem qd_Ref_step_308 : decode qc_Ref_step 308 = .ok (.invokevirtual 144, 3) := by decide +kernel
theorem qd_Ref_step_311 : decode qc_Ref_step 311 = .ok (.iastore, 1) := by decide +kernel
theorem qd_Ref_step_312 : decode qc_Ref_step 312 = .ok (.iconst 1, 1) := by decide +kernel
theorem qd_Ref_step_313 : decode qc_Ref_step 313 = .ok (.ireturn, 1) := by decide +kernel
theorem qd_Ref_step_314 : decode qc_Ref_step 314 = .ok (.aload_n 0, 1) := by decide +kernel
theorem qd_Ref_step_315 : decode qc_Ref_step 315 = .ok (.iload_n 1, 1) := by decide +kernel
theorem qd_Ref_step_316 : decode qc_Ref_step 316 = .ok (.iload_n 3, 1) := by decide +kernel
theorem qd_Ref_step_317 : decode qc_Ref_step 317 = .ok (.iload 4, 2) := by decide +kernel
theorem qd_Ref_step_319 : decode qc_Ref_step 319 = .ok (.iconst 4, 1) := by decide +kernel
theorem qd_Ref_step_320 : decode qc_Ref_step 320 = .ok (.iadd, 1) := by decide +kernel
theorem qd_Ref_step_321 : decode qc_Ref_step 321 = .ok (.iload_n 2, 1) := by decide +kernel
theorem qd_Ref_step_322 : decode qc_Ref_step 322 = .ok (.invokevirtual 148, 3) := by decide +kernel
theorem qd_Ref_step_325 : decode qc_Ref_step 325 = .ok (.iconst 1, 1) := by decide +kernel
theorem qd_Ref_step_326 : decode qc_Ref_step 326 = .ok (.ireturn, 1) := by decide +kernel
abbrev qc_Ref_fresh : ByteArray := prog_9_method_21_code
abbrev qy_Ref_fresh : MethodName := ⟨"QuietSweepModel", "fresh", "(II)Z"⟩
abbrev ql_Ref_fresh : Cond := .code qy_Ref_fresh qc_Ref_fresh 4 (some .boolean)
theorem qd_Ref_fresh_0 : decode qc_Ref_fresh 0 = .ok (.iconst 0, 1) := by decide +kernel
theorem qd_Ref_fresh_1 : decode qc_Ref_fresh 1 = .ok (.istore_n 3, 1) := by decide +kernel
theorem qd_Ref_fresh_2 : decode qc_Ref_fresh 2 = .ok (.iload_n 3, 1) := by decide +kernel
theorem qd_Ref_fresh_3 : decode qc_Ref_fresh 3 = .ok (.aload_n 0, 1) := by decide +kernel
theorem qd_Ref_fresh_4 : decode qc_Ref_fresh 4 = .ok (.getfield 88, 3) := by decide +kernel
theorem qd_Ref_fresh_7 : decode qc_Ref_fresh 7 = .ok (.if_icmp .ge 89, 3) := by decide +kernel
theorem qd_Ref_fresh_10 : decode qc_Ref_fresh 10 = .ok (.aload_n 0, 1) := by decide +kernel
theorem qd_Ref_fresh_11 : decode qc_Ref_fresh 11 = .ok (.getfield 74, 3) := by decide +kernel
theorem qd_Ref_fresh_14 : decode qc_Ref_fresh 14 = .ok (.iload_n 3, 1) := by decide +kernel
theorem qd_Ref_fresh_15 : decode qc_Ref_fresh 15 = .ok (.iaload, 1) := by decide +kernel
theorem qd_Ref_fresh_16 : decode qc_Ref_fresh 16 = .ok (.ifCond .ne 74, 3) := by decide +kernel
theorem qd_Ref_fresh_19 : decode qc_Ref_fresh 19 = .ok (.aload_n 0, 1) := by decide +kernel
theorem qd_Ref_fresh_20 : decode qc_Ref_fresh 20 = .ok (.getfield 74, 3) := by decide +kernel
theorem qd_Ref_fresh_23 : decode qc_Ref_fresh 23 = .ok (.iload_n 3, 1) := by decide +kernel
theorem qd_Ref_fresh_24 : decode qc_Ref_fresh 24 = .ok (.aload_n 0, 1) := by decide +kernel
theorem qd_Ref_fresh_25 : decode qc_Ref_fresh 25 = .ok (.getfield 50, 3) := by decide +kernel
theorem qd_Ref_fresh_28 : decode qc_Ref_fresh 28 = .ok (.iload_n 1, 1) := by decide +kernel
theorem qd_Ref_fresh_29 : decode qc_Ref_fresh 29 = .ok (.iaload, 1) := by decide +kernel
theorem qd_Ref_fresh_30 : decode qc_Ref_fresh 30 = .ok (.iconst 2, 1) := by decide +kernel
theorem qd_Ref_fresh_31 : decode qc_Ref_fresh 31 = .ok (.if_icmp .lt 7, 3) := by decide +kernel
theorem qd_Ref_fresh_34 : decode qc_Ref_fresh 34 = .ok (.iconst 3, 1) := by decide +kernel
theorem qd_Ref_fresh_35 : decode qc_Ref_fresh 35 = .ok (.goto 4, 3) := by decide +kernel
theorem qd_Ref_fresh_38 : decode qc_Ref_fresh 38 = .ok (.iconst 1, 1) := by decide +kernel
theorem qd_Ref_fresh_39 : decode qc_Ref_fresh 39 = .ok (.iastore, 1) := by decide +kernel
theorem qd_Ref_fresh_40 : decode qc_Ref_fresh 40 = .ok (.aload_n 0, 1) := by decide +kernel
theorem qd_Ref_fresh_41 : decode qc_Ref_fresh 41 = .ok (.getfield 77, 3) := by decide +kernel
theorem qd_Ref_fresh_44 : decode qc_Ref_fresh 44 = .ok (.iconst 3, 1) := by decide +kernel
theorem qd_Ref_fresh_45 : decode qc_Ref_fresh 45 = .ok (.iload_n 3, 1) := by decide +kernel
theorem qd_Ref_fresh_46 : decode qc_Ref_fresh 46 = .ok (.imul, 1) := by decide +kernel
theorem qd_Ref_fresh_47 : decode qc_Ref_fresh 47 = .ok (.iconst (-1), 1) := by decide +kernel
theorem qd_Ref_fresh_48 : decode qc_Ref_fresh 48 = .ok (.iastore, 1) := by decide +kernel
theorem qd_Ref_fresh_49 : decode qc_Ref_fresh 49 = .ok (.aload_n 0, 1) := by decide +kernel
theorem qd_Ref_fresh_50 : decode qc_Ref_fresh 50 = .ok (.getfield 77, 3) := by decide +kernel
theorem qd_Ref_fresh_53 : decode qc_Ref_fresh 53 = .ok (.iconst 3, 1) := by decide +kernel
theorem qd_Ref_fresh_54 : decode qc_Ref_fresh 54 = .ok (.iload_n 3, 1) := by decide +kernel
theorem qd_Ref_fresh_55 : decode qc_Ref_fresh 55 = .ok (.imul, 1) := by decide +kernel
theorem qd_Ref_fresh_56 : decode qc_Ref_fresh 56 = .ok (.iconst 1, 1) := by decide +kernel
theorem qd_Ref_fresh_57 : decode qc_Ref_fresh 57 = .ok (.iadd, 1) := by decide +kernel
theorem qd_Ref_fresh_58 : decode qc_Ref_fresh 58 = .ok (.iconst (-1), 1) := by decide +kernel
theorem qd_Ref_fresh_59 : decode qc_Ref_fresh 59 = .ok (.iastore, 1) := by decide +kernel
theorem qd_Ref_fresh_60 : decode qc_Ref_fresh 60 = .ok (.aload_n 0, 1) := by decide +kernel
theorem qd_Ref_fresh_61 : decode qc_Ref_fresh 61 = .ok (.getfield 77, 3) := by decide +kernel
theorem qd_Ref_fresh_64 : decode qc_Ref_fresh 64 = .ok (.iconst 3, 1) := by decide +kernel
theorem qd_Ref_fresh_65 : decode qc_Ref_fresh 65 = .ok (.iload_n 3, 1) := by decide +kernel
theorem qd_Ref_fresh_66 : decode qc_Ref_fresh 66 = .ok (.imul, 1) := by decide +kernel
theorem qd_Ref_fresh_67 : decode qc_Ref_fresh 67 = .ok (.iconst 2, 1) := by decide +kernel
theorem qd_Ref_fresh_68 : decode qc_Ref_fresh 68 = .ok (.iadd, 1) := by decide +kernel
theorem qd_Ref_fresh_69 : decode qc_Ref_fresh 69 = .ok (.iconst 0, 1) := by decide +kernel
theorem qd_Ref_fresh_70 : decode qc_Ref_fresh 70 = .ok (.iastore, 1) := by decide +kernel
theorem qd_Ref_fresh_71 : decode qc_Ref_fresh 71 = .ok (.aload_n 0, 1) := by decide +kernel
theorem qd_Ref_fresh_72 : decode qc_Ref_fresh 72 = .ok (.getfield 47, 3) := by decide +kernel
theorem qd_Ref_fresh_75 : decode qc_Ref_fresh 75 = .ok (.iload_n 2, 1) := by decide +kernel
theorem qd_Ref_fresh_76 : decode qc_Ref_fresh 76 = .ok (.iload_n 3, 1) := by decide +kernel
theorem qd_Ref_fresh_77 : decode qc_Ref_fresh 77 = .ok (.iastore, 1) := by decide +kernel
theorem qd_Ref_fresh_78 : decode qc_Ref_fresh 78 = .ok (.aload_n 0, 1) := by decide +kernel
theorem qd_Ref_fresh_79 : decode qc_Ref_fresh 79 = .ok (.getfield 44, 3) := by decide +kernel
theorem qd_Ref_fresh_82 : decode qc_Ref_fresh 82 = .ok (.iload_n 1, 1) := by decide +kernel
theorem qd_Ref_fresh_83 : decode qc_Ref_fresh 83 = .ok (.dup2, 1) := by decide +kernel
theorem qd_Ref_fresh_84 : decode qc_Ref_fresh 84 = .ok (.iaload, 1) := by decide +kernel
theorem qd_Ref_fresh_85 : decode qc_Ref_fresh 85 = .ok (.iconst 1, 1) := by decide +kernel
theorem qd_Ref_fresh_86 : decode qc_Ref_fresh 86 = .ok (.iadd, 1) := by decide +kernel
theorem qd_Ref_fresh_87 : decode qc_Ref_fresh 87 = .ok (.iastore, 1) := by decide +kernel
theorem qd_Ref_fresh_88 : decode qc_Ref_fresh 88 = .ok (.iconst 1, 1) := by decide +kernel
theorem qd_Ref_fresh_89 : decode qc_Ref_fresh 89 = .ok (.ireturn, 1) := by decide +kernel
theorem qd_Ref_fresh_90 : decode qc_Ref_fresh 90 = .ok (.iinc 3 1, 3) := by decide +kernel
theorem qd_Ref_fresh_93 : decode qc_Ref_fresh 93 = .ok (.goto (-91), 3) := by decide +kernel
theorem qd_Ref_fresh_96 : decode qc_Ref_fresh 96 = .ok (.aload_n 0, 1) := by decide +kernel
theorem qd_Ref_fresh_97 : decode qc_Ref_fresh 97 = .ok (.iload_n 1, 1) := by decide +kernel
theorem qd_Ref_fresh_98 : decode qc_Ref_fresh 98 = .ok (.invokevirtual 151, 3) := by decide +kernel
theorem qd_Ref_fresh_101 : decode qc_Ref_fresh 101 = .ok (.ireturn, 1) := by decide +kernel
abbrev qc_Ref_stall : ByteArray := prog_9_method_18_code
abbrev qy_Ref_stall : MethodName := ⟨"QuietSweepModel", "stall", "(I)Z"⟩
abbrev ql_Ref_stall : Cond := .code qy_Ref_stall qc_Ref_stall 2 (some .boolean)
theorem qd_Ref_stall_0 : decode qc_Ref_stall 0 = .ok (.aload_n 0, 1) := by decide +kernel
theorem qd_Ref_stall_1 : decode qc_Ref_stall 1 = .ok (.getfield 53, 3) := by decide +kernel
theorem qd_Ref_stall_4 : decode qc_Ref_stall 4 = .ok (.iload_n 1, 1) := by decide +kernel
theorem qd_Ref_stall_5 : decode qc_Ref_stall 5 = .ok (.dup2, 1) := by decide +kernel
theorem qd_Ref_stall_6 : decode qc_Ref_stall 6 = .ok (.iaload, 1) := by decide +kernel
theorem qd_Ref_stall_7 : decode qc_Ref_stall 7 = .ok (.iconst 1, 1) := by decide +kernel
theorem qd_Ref_stall_8 : decode qc_Ref_stall 8 = .ok (.iadd, 1) := by decide +kernel
theorem qd_Ref_stall_9 : decode qc_Ref_stall 9 = .ok (.iastore, 1) := by decide +kernel
theorem qd_Ref_stall_10 : decode qc_Ref_stall 10 = .ok (.iconst 0, 1) := by decide +kernel
theorem qd_Ref_stall_11 : decode qc_Ref_stall 11 = .ok (.ireturn, 1) := by decide +kernel
abbrev qc_Ref_store : ByteArray := prog_9_method_22_code
abbrev qy_Ref_store : MethodName := ⟨"QuietSweepModel", "store", "(IIII)Z"⟩
abbrev ql_Ref_store : Cond := .code qy_Ref_store qc_Ref_store 6 (some .boolean)
theorem qd_Ref_store_0 : decode qc_Ref_store 0 = .ok (.iload_n 2, 1) := by decide +kernel
theorem qd_Ref_store_1 : decode qc_Ref_store 1 = .ok (.iconst (-1), 1) := by decide +kernel
theorem qd_Ref_store_2 : decode qc_Ref_store 2 = .ok (.if_icmp .ne 15, 3) := by decide +kernel
theorem qd_Ref_store_5 : decode qc_Ref_store 5 = .ok (.aload_n 0, 1) := by decide +kernel
theorem qd_Ref_store_6 : decode qc_Ref_store 6 = .ok (.getfield 44, 3) := by decide +kernel
theorem qd_Ref_store_9 : decode qc_Ref_store 9 = .ok (.iload_n 1, 1) := by decide +kernel
theorem qd_Ref_store_10 : decode qc_Ref_store 10 = .ok (.dup2, 1) := by decide +kernel
theorem qd_Ref_store_11 : decode qc_Ref_store 11 = .ok (.iaload, 1) := by decide +kernel
theorem qd_Ref_store_12 : decode qc_Ref_store 12 = .ok (.iconst 1, 1) := by decide +kernel
theorem qd_Ref_store_13 : decode qc_Ref_store 13 = .ok (.iadd, 1) := by decide +kernel
theorem qd_Ref_store_14 : decode qc_Ref_store 14 = .ok (.iastore, 1) := by decide +kernel
theorem qd_Ref_store_15 : decode qc_Ref_store 15 = .ok (.iconst 1, 1) := by decide +kernel
theorem qd_Ref_store_16 : decode qc_Ref_store 16 = .ok (.ireturn, 1) := by decide +kernel
theorem qd_Ref_store_17 : decode qc_Ref_store 17 = .ok (.aload_n 0, 1) := by decide +kernel
theorem qd_Ref_store_18 : decode qc_Ref_store 18 = .ok (.getfield 56, 3) := by decide +kernel
theorem qd_Ref_store_21 : decode qc_Ref_store 21 = .ok (.iload_n 1, 1) := by decide +kernel
theorem qd_Ref_store_22 : decode qc_Ref_store 22 = .ok (.iaload, 1) := by decide +kernel
theorem qd_Ref_store_23 : decode qc_Ref_store 23 = .ok (.iconst 3, 1) := by decide +kernel
theorem qd_Ref_store_24 : decode qc_Ref_store 24 = .ok (.if_icmp .ne 9, 3) := by decide +kernel
theorem qd_Ref_store_27 : decode qc_Ref_store 27 = .ok (.aload_n 0, 1) := by decide +kernel
theorem qd_Ref_store_28 : decode qc_Ref_store 28 = .ok (.iload_n 1, 1) := by decide +kernel
theorem qd_Ref_store_29 : decode qc_Ref_store 29 = .ok (.invokevirtual 151, 3) := by decide +kernel
theorem qd_Ref_store_32 : decode qc_Ref_store 32 = .ok (.ireturn, 1) := by decide +kernel
theorem qd_Ref_store_33 : decode qc_Ref_store 33 = .ok (.iload_n 3, 1) := by decide +kernel
theorem qd_Ref_store_34 : decode qc_Ref_store 34 = .ok (.iconst 2, 1) := by decide +kernel
theorem qd_Ref_store_35 : decode qc_Ref_store 35 = .ok (.if_icmp .ge 33, 3) := by decide +kernel
theorem qd_Ref_store_38 : decode qc_Ref_store 38 = .ok (.aload_n 0, 1) := by decide +kernel
theorem qd_Ref_store_39 : decode qc_Ref_store 39 = .ok (.getfield 50, 3) := by decide +kernel
theorem qd_Ref_store_42 : decode qc_Ref_store 42 = .ok (.iload_n 1, 1) := by decide +kernel
theorem qd_Ref_store_43 : decode qc_Ref_store 43 = .ok (.iaload, 1) := by decide +kernel
theorem qd_Ref_store_44 : decode qc_Ref_store 44 = .ok (.ifCond .eq 24, 3) := by decide +kernel
theorem qd_Ref_store_47 : decode qc_Ref_store 47 = .ok (.aload_n 0, 1) := by decide +kernel
theorem qd_Ref_store_48 : decode qc_Ref_store 48 = .ok (.iload_n 1, 1) := by decide +kernel
theorem qd_Ref_store_49 : decode qc_Ref_store 49 = .ok (.iload_n 2, 1) := by decide +kernel
theorem qd_Ref_store_50 : decode qc_Ref_store 50 = .ok (.iload_n 3, 1) := by decide +kernel
theorem qd_Ref_store_51 : decode qc_Ref_store 51 = .ok (.invokevirtual 144, 3) := by decide +kernel
theorem qd_Ref_store_54 : decode qc_Ref_store 54 = .ok (.istore 5, 2) := by decide +kernel
theorem qd_Ref_store_56 : decode qc_Ref_store 56 = .ok (.aload_n 0, 1) := by decide +kernel
theorem qd_Ref_store_57 : decode qc_Ref_store 57 = .ok (.iload 5, 2) := by decide +kernel
theorem qd_Ref_store_59 : decode qc_Ref_store 59 = .ok (.invokevirtual 154, 3) := by decide +kernel
theorem qd_Ref_store_62 : decode qc_Ref_store 62 = .ok (.aload_n 0, 1) := by decide +kernel
theorem qd_Ref_store_63 : decode qc_Ref_store 63 = .ok (.iload 4, 2) := by decide +kernel
theorem qd_Ref_store_65 : decode qc_Ref_store 65 = .ok (.invokevirtual 154, 3) := by decide +kernel
theorem qd_Ref_store_68 : decode qc_Ref_store 68 = .ok (.iconst 3, 1) := by decide +kernel
theorem qd_Ref_store_69 : decode qc_Ref_store 69 = .ok (.iload_n 1, 1) := by decide +kernel
theorem qd_Ref_store_70 : decode qc_Ref_store 70 = .ok (.imul, 1) := by decide +kernel
theorem qd_Ref_store_71 : decode qc_Ref_store 71 = .ok (.aload_n 0, 1) := by decide +kernel
theorem qd_Ref_store_72 : decode qc_Ref_store 72 = .ok (.getfield 56, 3) := by decide +kernel
theorem qd_Ref_store_75 : decode qc_Ref_store 75 = .ok (.iload_n 1, 1) := by decide +kernel
theorem qd_Ref_store_76 : decode qc_Ref_store 76 = .ok (.iaload, 1) := by decide +kernel
theorem qd_Ref_store_77 : decode qc_Ref_store 77 = .ok (.iadd, 1) := by decide +kernel
theorem qd_Ref_store_78 : decode qc_Ref_store 78 = .ok (.istore 5, 2) := by decide +kernel
theorem qd_Ref_store_80 : decode qc_Ref_store 80 = .ok (.aload_n 0, 1) := by decide +kernel
theorem qd_Ref_store_81 : decode qc_Ref_store 81 = .ok (.getfield 59, 3) := by decide +kernel
theorem qd_Ref_store_84 : decode qc_Ref_store 84 = .ok (.iload 5, 2) := by decide +kernel
theorem qd_Ref_store_86 : decode qc_Ref_store 86 = .ok (.iload_n 2, 1) := by decide +kernel
theorem qd_Ref_store_87 : decode qc_Ref_store 87 = .ok (.iastore, 1) := by decide +kernel
theorem qd_Ref_store_88 : decode qc_Ref_store 88 = .ok (.aload_n 0, 1) := by decide +kernel
theorem qd_Ref_store_89 : decode qc_Ref_store 89 = .ok (.getfield 62, 3) := by decide +kernel
theorem qd_Ref_store_92 : decode qc_Ref_store 92 = .ok (.iload 5, 2) := by decide +kernel
theorem qd_Ref_store_94 : decode qc_Ref_store 94 = .ok (.iload_n 3, 1) := by decide +kernel
theorem qd_Ref_store_95 : decode qc_Ref_store 95 = .ok (.iastore, 1) := by decide +kernel
theorem qd_Ref_store_96 : decode qc_Ref_store 96 = .ok (.aload_n 0, 1) := by decide +kernel
theorem qd_Ref_store_97 : decode qc_Ref_store 97 = .ok (.getfield 65, 3) := by decide +kernel
theorem qd_Ref_store_100 : decode qc_Ref_store 100 = .ok (.iload 5, 2) := by decide +kernel
theorem qd_Ref_store_102 : decode qc_Ref_store 102 = .ok (.iload 4, 2) := by decide +kernel
theorem qd_Ref_store_104 : decode qc_Ref_store 104 = .ok (.iastore, 1) := by decide +kernel
theorem qd_Ref_store_105 : decode qc_Ref_store 105 = .ok (.aload_n 0, 1) := by decide +kernel
theorem qd_Ref_store_106 : decode qc_Ref_store 106 = .ok (.getfield 56, 3) := by decide +kernel
theorem qd_Ref_store_109 : decode qc_Ref_store 109 = .ok (.iload_n 1, 1) := by decide +kernel
theorem qd_Ref_store_110 : decode qc_Ref_store 110 = .ok (.dup2, 1) := by decide +kernel
theorem qd_Ref_store_111 : decode qc_Ref_store 111 = .ok (.iaload, 1) := by decide +kernel
theorem qd_Ref_store_112 : decode qc_Ref_store 112 = .ok (.iconst 1, 1) := by decide +kernel
theorem qd_Ref_store_113 : decode qc_Ref_store 113 = .ok (.iadd, 1) := by decide +kernel
theorem qd_Ref_store_114 : decode qc_Ref_store 114 = .ok (.iastore, 1) := by decide +kernel
theorem qd_Ref_store_115 : decode qc_Ref_store 115 = .ok (.aload_n 0, 1) := by decide +kernel
theorem qd_Ref_store_116 : decode qc_Ref_store 116 = .ok (.getfield 44, 3) := by decide +kernel
theorem qd_Ref_store_119 : decode qc_Ref_store 119 = .ok (.iload_n 1, 1) := by decide +kernel
theorem qd_Ref_store_120 : decode qc_Ref_store 120 = .ok (.dup2, 1) := by decide +kernel
theorem qd_Ref_store_121 : decode qc_Ref_store 121 = .ok (.iaload, 1) := by decide +kernel
theorem qd_Ref_store_122 : decode qc_Ref_store 122 = .ok (.iconst 1, 1) := by decide +kernel
theorem qd_Ref_store_123 : decode qc_Ref_store 123 = .ok (.iadd, 1) := by decide +kernel
theorem qd_Ref_store_124 : decode qc_Ref_store 124 = .ok (.iastore, 1) := by decide +kernel
theorem qd_Ref_store_125 : decode qc_Ref_store 125 = .ok (.iconst 1, 1) := by decide +kernel
theorem qd_Ref_store_126 : decode qc_Ref_store 126 = .ok (.ireturn, 1) := by decide +kernel
abbrev qc_Ref_sees : ByteArray := prog_9_method_16_code
abbrev qy_Ref_sees : MethodName := ⟨"QuietSweepModel", "sees", "(III)I"⟩
abbrev ql_Ref_sees : Cond := .code qy_Ref_sees qc_Ref_sees 6 (some .int)
theorem qd_Ref_sees_0 : decode qc_Ref_sees 0 = .ok (.aload_n 0, 1) := by decide +kernel
theorem qd_Ref_sees_1 : decode qc_Ref_sees 1 = .ok (.getfield 77, 3) := by decide +kernel
theorem qd_Ref_sees_4 : decode qc_Ref_sees 4 = .ok (.iconst 3, 1) := by decide +kernel
theorem qd_Ref_sees_5 : decode qc_Ref_sees 5 = .ok (.iload_n 2, 1) := by decide +kernel
theorem qd_Ref_sees_6 : decode qc_Ref_sees 6 = .ok (.imul, 1) := by decide +kernel
theorem qd_Ref_sees_7 : decode qc_Ref_sees 7 = .ok (.iload_n 3, 1) := by decide +kernel
theorem qd_Ref_sees_8 : decode qc_Ref_sees 8 = .ok (.iadd, 1) := by decide +kernel
theorem qd_Ref_sees_9 : decode qc_Ref_sees 9 = .ok (.iaload, 1) := by decide +kernel
theorem qd_Ref_sees_10 : decode qc_Ref_sees 10 = .ok (.istore 4, 2) := by decide +kernel
theorem qd_Ref_sees_12 : decode qc_Ref_sees 12 = .ok (.iconst 0, 1) := by decide +kernel
theorem qd_Ref_sees_13 : decode qc_Ref_sees 13 = .ok (.istore 5, 2) := by decide +kernel
theorem qd_Ref_sees_15 : decode qc_Ref_sees 15 = .ok (.iload 5, 2) := by decide +kernel
theorem qd_Ref_sees_17 : decode qc_Ref_sees 17 = .ok (.aload_n 0, 1) := by decide +kernel
theorem qd_Ref_sees_18 : decode qc_Ref_sees 18 = .ok (.getfield 56, 3) := by decide +kernel
theorem qd_Ref_sees_21 : decode qc_Ref_sees 21 = .ok (.iload_n 1, 1) := by decide +kernel
theorem qd_Ref_sees_22 : decode qc_Ref_sees 22 = .ok (.iaload, 1) := by decide +kernel
theorem qd_Ref_sees_23 : decode qc_Ref_sees 23 = .ok (.if_icmp .ge 52, 3) := by decide +kernel
theorem qd_Ref_sees_26 : decode qc_Ref_sees 26 = .ok (.aload_n 0, 1) := by decide +kernel
theorem qd_Ref_sees_27 : decode qc_Ref_sees 27 = .ok (.getfield 59, 3) := by decide +kernel
theorem qd_Ref_sees_30 : decode qc_Ref_sees 30 = .ok (.iconst 3, 1) := by decide +kernel
theorem qd_Ref_sees_31 : decode qc_Ref_sees 31 = .ok (.iload_n 1, 1) := by decide +kernel
theorem qd_Ref_sees_32 : decode qc_Ref_sees 32 = .ok (.imul, 1) := by decide +kernel
theorem qd_Ref_sees_33 : decode qc_Ref_sees 33 = .ok (.iload 5, 2) := by decide +kernel
theorem qd_Ref_sees_35 : decode qc_Ref_sees 35 = .ok (.iadd, 1) := by decide +kernel
theorem qd_Ref_sees_36 : decode qc_Ref_sees 36 = .ok (.iaload, 1) := by decide +kernel
theorem qd_Ref_sees_37 : decode qc_Ref_sees 37 = .ok (.iload_n 2, 1) := by decide +kernel
theorem qd_Ref_sees_38 : decode qc_Ref_sees 38 = .ok (.if_icmp .ne 31, 3) := by decide +kernel
theorem qd_Ref_sees_41 : decode qc_Ref_sees 41 = .ok (.aload_n 0, 1) := by decide +kernel
theorem qd_Ref_sees_42 : decode qc_Ref_sees 42 = .ok (.getfield 62, 3) := by decide +kernel
theorem qd_Ref_sees_45 : decode qc_Ref_sees 45 = .ok (.iconst 3, 1) := by decide +kernel
theorem qd_Ref_sees_46 : decode qc_Ref_sees 46 = .ok (.iload_n 1, 1) := by decide +kernel
theorem qd_Ref_sees_47 : decode qc_Ref_sees 47 = .ok (.imul, 1) := by decide +kernel
theorem qd_Ref_sees_48 : decode qc_Ref_sees 48 = .ok (.iload 5, 2) := by decide +kernel
theorem qd_Ref_sees_50 : decode qc_Ref_sees 50 = .ok (.iadd, 1) := by decide +kernel
theorem qd_Ref_sees_51 : decode qc_Ref_sees 51 = .ok (.iaload, 1) := by decide +kernel
theorem qd_Ref_sees_52 : decode qc_Ref_sees 52 = .ok (.iload_n 3, 1) := by decide +kernel
theorem qd_Ref_sees_53 : decode qc_Ref_sees 53 = .ok (.if_icmp .ne 16, 3) := by decide +kernel
theorem qd_Ref_sees_56 : decode qc_Ref_sees 56 = .ok (.aload_n 0, 1) := by decide +kernel
theorem qd_Ref_sees_57 : decode qc_Ref_sees 57 = .ok (.getfield 65, 3) := by decide +kernel
theorem qd_Ref_sees_60 : decode qc_Ref_sees 60 = .ok (.iconst 3, 1) := by decide +kernel
theorem qd_Ref_sees_61 : decode qc_Ref_sees 61 = .ok (.iload_n 1, 1) := by decide +kernel
theorem qd_Ref_sees_62 : decode qc_Ref_sees 62 = .ok (.imul, 1) := by decide +kernel
theorem qd_Ref_sees_63 : decode qc_Ref_sees 63 = .ok (.iload 5, 2) := by decide +kernel
theorem qd_Ref_sees_65 : decode qc_Ref_sees 65 = .ok (.iadd, 1) := by decide +kernel
theorem qd_Ref_sees_66 : decode qc_Ref_sees 66 = .ok (.iaload, 1) := by decide +kernel
theorem qd_Ref_sees_67 : decode qc_Ref_sees 67 = .ok (.istore 4, 2) := by decide +kernel
theorem qd_Ref_sees_69 : decode qc_Ref_sees 69 = .ok (.iinc 5 1, 3) := by decide +kernel
theorem qd_Ref_sees_72 : decode qc_Ref_sees 72 = .ok (.goto (-57), 3) := by decide +kernel
theorem qd_Ref_sees_75 : decode qc_Ref_sees 75 = .ok (.iload 4, 2) := by decide +kernel
theorem qd_Ref_sees_77 : decode qc_Ref_sees 77 = .ok (.ireturn, 1) := by decide +kernel
abbrev qc_Ref_mark : ByteArray := prog_9_method_15_code
abbrev qy_Ref_mark : MethodName := ⟨"QuietSweepModel", "mark", "(I)V"⟩
abbrev ql_Ref_mark : Cond := .code qy_Ref_mark qc_Ref_mark 2 none
theorem qd_Ref_mark_0 : decode qc_Ref_mark 0 = .ok (.iload_n 1, 1) := by decide +kernel
theorem qd_Ref_mark_1 : decode qc_Ref_mark 1 = .ok (.ifCond .lt 20, 3) := by decide +kernel
theorem qd_Ref_mark_4 : decode qc_Ref_mark 4 = .ok (.aload_n 0, 1) := by decide +kernel
theorem qd_Ref_mark_5 : decode qc_Ref_mark 5 = .ok (.getfield 74, 3) := by decide +kernel
theorem qd_Ref_mark_8 : decode qc_Ref_mark 8 = .ok (.iload_n 1, 1) := by decide +kernel
theorem qd_Ref_mark_9 : decode qc_Ref_mark 9 = .ok (.iaload, 1) := by decide +kernel
theorem qd_Ref_mark_10 : decode qc_Ref_mark 10 = .ok (.iconst 1, 1) := by decide +kernel
theorem qd_Ref_mark_11 : decode qc_Ref_mark 11 = .ok (.if_icmp .ne 10, 3) := by decide +kernel
theorem qd_Ref_mark_14 : decode qc_Ref_mark 14 = .ok (.aload_n 0, 1) := by decide +kernel
theorem qd_Ref_mark_15 : decode qc_Ref_mark 15 = .ok (.getfield 74, 3) := by decide +kernel
theorem qd_Ref_mark_18 : decode qc_Ref_mark 18 = .ok (.iload_n 1, 1) := by decide +kernel
theorem qd_Ref_mark_19 : decode qc_Ref_mark 19 = .ok (.iconst 2, 1) := by decide +kernel
theorem qd_Ref_mark_20 : decode qc_Ref_mark 20 = .ok (.iastore, 1) := by decide +kernel
theorem qd_Ref_mark_21 : decode qc_Ref_mark 21 = .ok (.return_, 1) := by decide +kernel
abbrev qc_Ref_number : ByteArray := prog_9_method_20_code
abbrev qy_Ref_number : MethodName := ⟨"QuietSweepModel", "number", "(IIII)V"⟩
abbrev ql_Ref_number : Cond := .code qy_Ref_number qc_Ref_number 6 none
theorem qd_Ref_number_0 : decode qc_Ref_number 0 = .ok (.bipush 7, 2) := by decide +kernel
theorem qd_Ref_number_2 : decode qc_Ref_number 2 = .ok (.iload_n 1, 1) := by decide +kernel
theorem qd_Ref_number_3 : decode qc_Ref_number 3 = .ok (.imul, 1) := by decide +kernel
theorem qd_Ref_number_4 : decode qc_Ref_number 4 = .ok (.aload_n 0, 1) := by decide +kernel
theorem qd_Ref_number_5 : decode qc_Ref_number 5 = .ok (.getfield 38, 3) := by decide +kernel
theorem qd_Ref_number_8 : decode qc_Ref_number 8 = .ok (.iload 4, 2) := by decide +kernel
theorem qd_Ref_number_10 : decode qc_Ref_number 10 = .ok (.iaload, 1) := by decide +kernel
theorem qd_Ref_number_11 : decode qc_Ref_number 11 = .ok (.iadd, 1) := by decide +kernel
theorem qd_Ref_number_12 : decode qc_Ref_number 12 = .ok (.istore 5, 2) := by decide +kernel
theorem qd_Ref_number_14 : decode qc_Ref_number 14 = .ok (.iload_n 2, 1) := by decide +kernel
theorem qd_Ref_number_15 : decode qc_Ref_number 15 = .ok (.bipush 10, 2) := by decide +kernel
theorem qd_Ref_number_17 : decode qc_Ref_number 17 = .ok (.if_icmp .ne 19, 3) := by decide +kernel
theorem qd_Ref_number_20 : decode qc_Ref_number 20 = .ok (.aload_n 0, 1) := by decide +kernel
theorem qd_Ref_number_21 : decode qc_Ref_number 21 = .ok (.getfield 47, 3) := by decide +kernel
theorem qd_Ref_number_24 : decode qc_Ref_number 24 = .ok (.iload_n 3, 1) := by decide +kernel
theorem qd_Ref_number_25 : decode qc_Ref_number 25 = .ok (.aload_n 0, 1) := by decide +kernel
theorem qd_Ref_number_26 : decode qc_Ref_number 26 = .ok (.getfield 41, 3) := by decide +kernel
theorem qd_Ref_number_29 : decode qc_Ref_number 29 = .ok (.iload 4, 2) := by decide +kernel
theorem qd_Ref_number_31 : decode qc_Ref_number 31 = .ok (.iaload, 1) := by decide +kernel
theorem qd_Ref_number_32 : decode qc_Ref_number 32 = .ok (.iastore, 1) := by decide +kernel
theorem qd_Ref_number_33 : decode qc_Ref_number 33 = .ok (.goto 149, 3) := by decide +kernel
theorem qd_Ref_number_36 : decode qc_Ref_number 36 = .ok (.iload_n 2, 1) := by decide +kernel
theorem qd_Ref_number_37 : decode qc_Ref_number 37 = .ok (.bipush 11, 2) := by decide +kernel
theorem qd_Ref_number_39 : decode qc_Ref_number 39 = .ok (.if_icmp .ne 21, 3) := by decide +kernel
theorem qd_Ref_number_42 : decode qc_Ref_number 42 = .ok (.aload_n 0, 1) := by decide +kernel
theorem qd_Ref_number_43 : decode qc_Ref_number 43 = .ok (.getfield 47, 3) := by decide +kernel
theorem qd_Ref_number_46 : decode qc_Ref_number 46 = .ok (.iload_n 3, 1) := by decide +kernel
theorem qd_Ref_number_47 : decode qc_Ref_number 47 = .ok (.aload_n 0, 1) := by decide +kernel
theorem qd_Ref_number_48 : decode qc_Ref_number 48 = .ok (.getfield 47, 3) := by decide +kernel
theorem qd_Ref_number_51 : decode qc_Ref_number 51 = .ok (.iload 5, 2) := by decide +kernel
theorem qd_Ref_number_53 : decode qc_Ref_number 53 = .ok (.iconst 4, 1) := by decide +kernel
theorem qd_Ref_number_54 : decode qc_Ref_number 54 = .ok (.iadd, 1) := by decide +kernel
theorem qd_Ref_number_55 : decode qc_Ref_number 55 = .ok (.iaload, 1) := by decide +kernel
theorem qd_Ref_number_56 : decode qc_Ref_number 56 = .ok (.iastore, 1) := by decide +kernel
theorem qd_Ref_number_57 : decode qc_Ref_number 57 = .ok (.goto 125, 3) := by decide +kernel
theorem qd_Ref_number_60 : decode qc_Ref_number 60 = .ok (.iload_n 2, 1) := by decide +kernel
theorem qd_Ref_number_61 : decode qc_Ref_number 61 = .ok (.bipush 12, 2) := by decide +kernel
theorem qd_Ref_number_63 : decode qc_Ref_number 63 = .ok (.if_icmp .ne 41, 3) := by decide +kernel
theorem qd_Ref_number_66 : decode qc_Ref_number 66 = .ok (.aload_n 0, 1) := by decide +kernel
theorem qd_Ref_number_67 : decode qc_Ref_number 67 = .ok (.getfield 47, 3) := by decide +kernel
theorem qd_Ref_number_70 : decode qc_Ref_number 70 = .ok (.iload_n 3, 1) := by decide +kernel
theorem qd_Ref_number_71 : decode qc_Ref_number 71 = .ok (.aload_n 0, 1) := by decide +kernel
theorem qd_Ref_number_72 : decode qc_Ref_number 72 = .ok (.getfield 47, 3) := by decide +kernel
theorem qd_Ref_number_75 : decode qc_Ref_number 75 = .ok (.iload 5, 2) := by decide +kernel
theorem qd_Ref_number_77 : decode qc_Ref_number 77 = .ok (.iconst 4, 1) := by decide +kernel
theorem qd_Ref_number_78 : decode qc_Ref_number 78 = .ok (.iadd, 1) := by decide +kernel
theorem qd_Ref_number_79 : decode qc_Ref_number 79 = .ok (.iaload, 1) := by decide +kernel
theorem qd_Ref_number_80 : decode qc_Ref_number 80 = .ok (.aload_n 0, 1) := by decide +kernel
theorem qd_Ref_number_81 : decode qc_Ref_number 81 = .ok (.getfield 47, 3) := by decide +kernel
theorem qd_Ref_number_84 : decode qc_Ref_number 84 = .ok (.bipush 7, 2) := by decide +kernel
theorem qd_Ref_number_86 : decode qc_Ref_number 86 = .ok (.iload_n 1, 1) := by decide +kernel
theorem qd_Ref_number_87 : decode qc_Ref_number 87 = .ok (.imul, 1) := by decide +kernel
theorem qd_Ref_number_88 : decode qc_Ref_number 88 = .ok (.iconst 4, 1) := by decide +kernel
theorem qd_Ref_number_89 : decode qc_Ref_number 89 = .ok (.iadd, 1) := by decide +kernel
theorem qd_Ref_number_90 : decode qc_Ref_number 90 = .ok (.aload_n 0, 1) := by decide +kernel
theorem qd_Ref_number_91 : decode qc_Ref_number 91 = .ok (.getfield 41, 3) := by decide +kernel
theorem qd_Ref_number_94 : decode qc_Ref_number 94 = .ok (.iload 4, 2) := by decide +kernel
theorem qd_Ref_number_96 : decode qc_Ref_number 96 = .ok (.iaload, 1) := by decide +kernel
theorem qd_Ref_number_97 : decode qc_Ref_number 97 = .ok (.iadd, 1) := by decide +kernel
theorem qd_Ref_number_98 : decode qc_Ref_number 98 = .ok (.iaload, 1) := by decide +kernel
theorem qd_Ref_number_99 : decode qc_Ref_number 99 = .ok (.iadd, 1) := by decide +kernel
theorem qd_Ref_number_100 : decode qc_Ref_number 100 = .ok (.iastore, 1) := by decide +kernel
theorem qd_Ref_number_101 : decode qc_Ref_number 101 = .ok (.goto 81, 3) := by decide +kernel
theorem qd_Ref_number_104 : decode qc_Ref_number 104 = .ok (.iload_n 2, 1) := by decide +kernel
theorem qd_Ref_number_105 : decode qc_Ref_number 105 = .ok (.bipush 13, 2) := by decide +kernel
theorem qd_Ref_number_107 : decode qc_Ref_number 107 = .ok (.if_icmp .ne 40, 3) := by decide +kernel
theorem qd_Ref_number_110 : decode qc_Ref_number 110 = .ok (.aload_n 0, 1) := by decide +kernel
theorem qd_Ref_number_111 : decode qc_Ref_number 111 = .ok (.getfield 47, 3) := by decide +kernel
theorem qd_Ref_number_114 : decode qc_Ref_number 114 = .ok (.iload_n 3, 1) := by decide +kernel
theorem qd_Ref_number_115 : decode qc_Ref_number 115 = .ok (.aload_n 0, 1) := by decide +kernel
theorem qd_Ref_number_116 : decode qc_Ref_number 116 = .ok (.getfield 47, 3) := by decide +kernel
theorem qd_Ref_number_119 : decode qc_Ref_number 119 = .ok (.iload 5, 2) := by decide +kernel
theorem qd_Ref_number_121 : decode qc_Ref_number 121 = .ok (.iaload, 1) := by decide +kernel
theorem qd_Ref_number_122 : decode qc_Ref_number 122 = .ok (.iconst (-1), 1) := by decide +kernel
theorem qd_Ref_number_123 : decode qc_Ref_number 123 = .ok (.if_icmp .ne 7, 3) := by decide +kernel
theorem qd_Ref_number_126 : decode qc_Ref_number 126 = .ok (.iconst 0, 1) := by decide +kernel
theorem qd_Ref_number_127 : decode qc_Ref_number 127 = .ok (.goto 16, 3) := by decide +kernel
theorem qd_Ref_number_130 : decode qc_Ref_number 130 = .ok (.aload_n 0, 1) := by decide +kernel
theorem qd_Ref_number_131 : decode qc_Ref_number 131 = .ok (.iload_n 1, 1) := by decide +kernel
theorem qd_Ref_number_132 : decode qc_Ref_number 132 = .ok (.aload_n 0, 1) := by decide +kernel
theorem qd_Ref_number_133 : decode qc_Ref_number 133 = .ok (.getfield 47, 3) := by decide +kernel
theorem qd_Ref_number_136 : decode qc_Ref_number 136 = .ok (.iload 5, 2) := by decide +kernel
theorem qd_Ref_number_138 : decode qc_Ref_number 138 = .ok (.iaload, 1) := by decide +kernel
theorem qd_Ref_number_139 : decode qc_Ref_number 139 = .ok (.iconst 2, 1) := by decide +kernel
theorem qd_Ref_number_140 : decode qc_Ref_number 140 = .ok (.invokevirtual 144, 3) := by decide +kernel
theorem qd_Ref_number_143 : decode qc_Ref_number 143 = .ok (.iastore, 1) := by decide +kernel
theorem qd_Ref_number_144 : decode qc_Ref_number 144 = .ok (.goto 38, 3) := by decide +kernel
theorem qd_Ref_number_147 : decode qc_Ref_number 147 = .ok (.aload_n 0, 1) := by decide +kernel
theorem qd_Ref_number_148 : decode qc_Ref_number 148 = .ok (.getfield 71, 3) := by decide +kernel
theorem qd_Ref_number_151 : decode qc_Ref_number 151 = .ok (.bipush 16, 2) := by decide +kernel
theorem qd_Ref_number_153 : decode qc_Ref_number 153 = .ok (.iload_n 1, 1) := by decide +kernel
theorem qd_Ref_number_154 : decode qc_Ref_number 154 = .ok (.imul, 1) := by decide +kernel
theorem qd_Ref_number_155 : decode qc_Ref_number 155 = .ok (.aload_n 0, 1) := by decide +kernel
theorem qd_Ref_number_156 : decode qc_Ref_number 156 = .ok (.getfield 68, 3) := by decide +kernel
theorem qd_Ref_number_159 : decode qc_Ref_number 159 = .ok (.iload_n 1, 1) := by decide +kernel
theorem qd_Ref_number_160 : decode qc_Ref_number 160 = .ok (.iaload, 1) := by decide +kernel
theorem qd_Ref_number_161 : decode qc_Ref_number 161 = .ok (.bipush 15, 2) := by decide +kernel
theorem qd_Ref_number_163 : decode qc_Ref_number 163 = .ok (.iand, 1) := by decide +kernel
theorem qd_Ref_number_164 : decode qc_Ref_number 164 = .ok (.iadd, 1) := by decide +kernel
theorem qd_Ref_number_165 : decode qc_Ref_number 165 = .ok (.aload_n 0, 1) := by decide +kernel
theorem qd_Ref_number_166 : decode qc_Ref_number 166 = .ok (.getfield 47, 3) := by decide +kernel
theorem qd_Ref_number_169 : decode qc_Ref_number 169 = .ok (.iload_n 3, 1) := by decide +kernel
theorem qd_Ref_number_170 : decode qc_Ref_number 170 = .ok (.iaload, 1) := by decide +kernel
theorem qd_Ref_number_171 : decode qc_Ref_number 171 = .ok (.iastore, 1) := by decide +kernel
theorem qd_Ref_number_172 : decode qc_Ref_number 172 = .ok (.aload_n 0, 1) := by decide +kernel
theorem qd_Ref_number_173 : decode qc_Ref_number 173 = .ok (.getfield 68, 3) := by decide +kernel
theorem qd_Ref_number_176 : decode qc_Ref_number 176 = .ok (.iload_n 1, 1) := by decide +kernel
theorem qd_Ref_number_177 : decode qc_Ref_number 177 = .ok (.dup2, 1) := by decide +kernel
theorem qd_Ref_number_178 : decode qc_Ref_number 178 = .ok (.iaload, 1) := by decide +kernel
theorem qd_Ref_number_179 : decode qc_Ref_number 179 = .ok (.iconst 1, 1) := by decide +kernel
theorem qd_Ref_number_180 : decode qc_Ref_number 180 = .ok (.iadd, 1) := by decide +kernel
theorem qd_Ref_number_181 : decode qc_Ref_number 181 = .ok (.iastore, 1) := by decide +kernel
theorem qd_Ref_number_182 : decode qc_Ref_number 182 = .ok (.return_, 1) := by decide +kernel
abbrev qc_Ref_flush : ByteArray := prog_9_method_17_code
abbrev qy_Ref_flush : MethodName := ⟨"QuietSweepModel", "flush", "(I)Z"⟩
abbrev ql_Ref_flush : Cond := .code qy_Ref_flush qc_Ref_flush 3 (some .boolean)
theorem qd_Ref_flush_0 : decode qc_Ref_flush 0 = .ok (.aload_n 0, 1) := by decide +kernel
theorem qd_Ref_flush_1 : decode qc_Ref_flush 1 = .ok (.getfield 56, 3) := by decide +kernel
theorem qd_Ref_flush_4 : decode qc_Ref_flush 4 = .ok (.iload_n 1, 1) := by decide +kernel
theorem qd_Ref_flush_5 : decode qc_Ref_flush 5 = .ok (.iaload, 1) := by decide +kernel
theorem qd_Ref_flush_6 : decode qc_Ref_flush 6 = .ok (.ifCond .ne 5, 3) := by decide +kernel
theorem qd_Ref_flush_9 : decode qc_Ref_flush 9 = .ok (.iconst 0, 1) := by decide +kernel
theorem qd_Ref_flush_10 : decode qc_Ref_flush 10 = .ok (.ireturn, 1) := by decide +kernel
theorem qd_Ref_flush_11 : decode qc_Ref_flush 11 = .ok (.aload_n 0, 1) := by decide +kernel
theorem qd_Ref_flush_12 : decode qc_Ref_flush 12 = .ok (.getfield 77, 3) := by decide +kernel
theorem qd_Ref_flush_15 : decode qc_Ref_flush 15 = .ok (.iconst 3, 1) := by decide +kernel
theorem qd_Ref_flush_16 : decode qc_Ref_flush 16 = .ok (.aload_n 0, 1) := by decide +kernel
theorem qd_Ref_flush_17 : decode qc_Ref_flush 17 = .ok (.getfield 59, 3) := by decide +kernel
theorem qd_Ref_flush_20 : decode qc_Ref_flush 20 = .ok (.iconst 3, 1) := by decide +kernel
theorem qd_Ref_flush_21 : decode qc_Ref_flush 21 = .ok (.iload_n 1, 1) := by decide +kernel
theorem qd_Ref_flush_22 : decode qc_Ref_flush 22 = .ok (.imul, 1) := by decide +kernel
theorem qd_Ref_flush_23 : decode qc_Ref_flush 23 = .ok (.iaload, 1) := by decide +kernel
theorem qd_Ref_flush_24 : decode qc_Ref_flush 24 = .ok (.imul, 1) := by decide +kernel
theorem qd_Ref_flush_25 : decode qc_Ref_flush 25 = .ok (.aload_n 0, 1) := by decide +kernel
theorem qd_Ref_flush_26 : decode qc_Ref_flush 26 = .ok (.getfield 62, 3) := by decide +kernel
theorem qd_Ref_flush_29 : decode qc_Ref_flush 29 = .ok (.iconst 3, 1) := by decide +kernel
theorem qd_Ref_flush_30 : decode qc_Ref_flush 30 = .ok (.iload_n 1, 1) := by decide +kernel
theorem qd_Ref_flush_31 : decode qc_Ref_flush 31 = .ok (.imul, 1) := by decide +kernel
theorem qd_Ref_flush_32 : decode qc_Ref_flush 32 = .ok (.iaload, 1) := by decide +kernel
theorem qd_Ref_flush_33 : decode qc_Ref_flush 33 = .ok (.iadd, 1) := by decide +kernel
theorem qd_Ref_flush_34 : decode qc_Ref_flush 34 = .ok (.aload_n 0, 1) := by decide +kernel
theorem qd_Ref_flush_35 : decode qc_Ref_flush 35 = .ok (.getfield 65, 3) := by decide +kernel
theorem qd_Ref_flush_38 : decode qc_Ref_flush 38 = .ok (.iconst 3, 1) := by decide +kernel
theorem qd_Ref_flush_39 : decode qc_Ref_flush 39 = .ok (.iload_n 1, 1) := by decide +kernel
theorem qd_Ref_flush_40 : decode qc_Ref_flush 40 = .ok (.imul, 1) := by decide +kernel
theorem qd_Ref_flush_41 : decode qc_Ref_flush 41 = .ok (.iaload, 1) := by decide +kernel
theorem qd_Ref_flush_42 : decode qc_Ref_flush 42 = .ok (.iastore, 1) := by decide +kernel
theorem qd_Ref_flush_43 : decode qc_Ref_flush 43 = .ok (.aload_n 0, 1) := by decide +kernel
theorem qd_Ref_flush_44 : decode qc_Ref_flush 44 = .ok (.getfield 56, 3) := by decide +kernel
theorem qd_Ref_flush_47 : decode qc_Ref_flush 47 = .ok (.iload_n 1, 1) := by decide +kernel
theorem qd_Ref_flush_48 : decode qc_Ref_flush 48 = .ok (.dup2, 1) := by decide +kernel
theorem qd_Ref_flush_49 : decode qc_Ref_flush 49 = .ok (.iaload, 1) := by decide +kernel
theorem qd_Ref_flush_50 : decode qc_Ref_flush 50 = .ok (.iconst 1, 1) := by decide +kernel
theorem qd_Ref_flush_51 : decode qc_Ref_flush 51 = .ok (.isub, 1) := by decide +kernel
theorem qd_Ref_flush_52 : decode qc_Ref_flush 52 = .ok (.iastore, 1) := by decide +kernel
theorem qd_Ref_flush_53 : decode qc_Ref_flush 53 = .ok (.iconst 3, 1) := by decide +kernel
theorem qd_Ref_flush_54 : decode qc_Ref_flush 54 = .ok (.iload_n 1, 1) := by decide +kernel
theorem qd_Ref_flush_55 : decode qc_Ref_flush 55 = .ok (.imul, 1) := by decide +kernel
theorem qd_Ref_flush_56 : decode qc_Ref_flush 56 = .ok (.istore_n 2, 1) := by decide +kernel
theorem qd_Ref_flush_57 : decode qc_Ref_flush 57 = .ok (.iload_n 2, 1) := by decide +kernel
theorem qd_Ref_flush_58 : decode qc_Ref_flush 58 = .ok (.iconst 3, 1) := by decide +kernel
theorem qd_Ref_flush_59 : decode qc_Ref_flush 59 = .ok (.iload_n 1, 1) := by decide +kernel
theorem qd_Ref_flush_60 : decode qc_Ref_flush 60 = .ok (.imul, 1) := by decide +kernel
theorem qd_Ref_flush_61 : decode qc_Ref_flush 61 = .ok (.aload_n 0, 1) := by decide +kernel
theorem qd_Ref_flush_62 : decode qc_Ref_flush 62 = .ok (.getfield 56, 3) := by decide +kernel
theorem qd_Ref_flush_65 : decode qc_Ref_flush 65 = .ok (.iload_n 1, 1) := by decide +kernel
theorem qd_Ref_flush_66 : decode qc_Ref_flush 66 = .ok (.iaload, 1) := by decide +kernel
theorem qd_Ref_flush_67 : decode qc_Ref_flush 67 = .ok (.iadd, 1) := by decide +kernel
theorem qd_Ref_flush_68 : decode qc_Ref_flush 68 = .ok (.if_icmp .ge 51, 3) := by decide +kernel
theorem qd_Ref_flush_71 : decode qc_Ref_flush 71 = .ok (.aload_n 0, 1) := by decide +kernel
theorem qd_Ref_flush_72 : decode qc_Ref_flush 72 = .ok (.getfield 59, 3) := by decide +kernel
theorem qd_Ref_flush_75 : decode qc_Ref_flush 75 = .ok (.iload_n 2, 1) := by decide +kernel
theorem qd_Ref_flush_76 : decode qc_Ref_flush 76 = .ok (.aload_n 0, 1) := by decide +kernel
theorem qd_Ref_flush_77 : decode qc_Ref_flush 77 = .ok (.getfield 59, 3) := by decide +kernel
theorem qd_Ref_flush_80 : decode qc_Ref_flush 80 = .ok (.iload_n 2, 1) := by decide +kernel
theorem qd_Ref_flush_81 : decode qc_Ref_flush 81 = .ok (.iconst 1, 1) := by decide +kernel
theorem qd_Ref_flush_82 : decode qc_Ref_flush 82 = .ok (.iadd, 1) := by decide +kernel
theorem qd_Ref_flush_83 : decode qc_Ref_flush 83 = .ok (.iaload, 1) := by decide +kernel
theorem qd_Ref_flush_84 : decode qc_Ref_flush 84 = .ok (.iastore, 1) := by decide +kernel
theorem qd_Ref_flush_85 : decode qc_Ref_flush 85 = .ok (.aload_n 0, 1) := by decide +kernel
theorem qd_Ref_flush_86 : decode qc_Ref_flush 86 = .ok (.getfield 62, 3) := by decide +kernel
theorem qd_Ref_flush_89 : decode qc_Ref_flush 89 = .ok (.iload_n 2, 1) := by decide +kernel
theorem qd_Ref_flush_90 : decode qc_Ref_flush 90 = .ok (.aload_n 0, 1) := by decide +kernel
theorem qd_Ref_flush_91 : decode qc_Ref_flush 91 = .ok (.getfield 62, 3) := by decide +kernel
theorem qd_Ref_flush_94 : decode qc_Ref_flush 94 = .ok (.iload_n 2, 1) := by decide +kernel
theorem qd_Ref_flush_95 : decode qc_Ref_flush 95 = .ok (.iconst 1, 1) := by decide +kernel
theorem qd_Ref_flush_96 : decode qc_Ref_flush 96 = .ok (.iadd, 1) := by decide +kernel
theorem qd_Ref_flush_97 : decode qc_Ref_flush 97 = .ok (.iaload, 1) := by decide +kernel
theorem qd_Ref_flush_98 : decode qc_Ref_flush 98 = .ok (.iastore, 1) := by decide +kernel
theorem qd_Ref_flush_99 : decode qc_Ref_flush 99 = .ok (.aload_n 0, 1) := by decide +kernel
theorem qd_Ref_flush_100 : decode qc_Ref_flush 100 = .ok (.getfield 65, 3) := by decide +kernel
theorem qd_Ref_flush_103 : decode qc_Ref_flush 103 = .ok (.iload_n 2, 1) := by decide +kernel
theorem qd_Ref_flush_104 : decode qc_Ref_flush 104 = .ok (.aload_n 0, 1) := by decide +kernel
theorem qd_Ref_flush_105 : decode qc_Ref_flush 105 = .ok (.getfield 65, 3) := by decide +kernel
theorem qd_Ref_flush_108 : decode qc_Ref_flush 108 = .ok (.iload_n 2, 1) := by decide +kernel
theorem qd_Ref_flush_109 : decode qc_Ref_flush 109 = .ok (.iconst 1, 1) := by decide +kernel
theorem qd_Ref_flush_110 : decode qc_Ref_flush 110 = .ok (.iadd, 1) := by decide +kernel
theorem qd_Ref_flush_111 : decode qc_Ref_flush 111 = .ok (.iaload, 1) := by decide +kernel
theorem qd_Ref_flush_112 : decode qc_Ref_flush 112 = .ok (.iastore, 1) := by decide +kernel
theorem qd_Ref_flush_113 : decode qc_Ref_flush 113 = .ok (.iinc 2 1, 3) := by decide +kernel
theorem qd_Ref_flush_116 : decode qc_Ref_flush 116 = .ok (.goto (-59), 3) := by decide +kernel
theorem qd_Ref_flush_119 : decode qc_Ref_flush 119 = .ok (.iconst 1, 1) := by decide +kernel
theorem qd_Ref_flush_120 : decode qc_Ref_flush 120 = .ok (.ireturn, 1) := by decide +kernel
