abbrev qc_Ref_write : ByteArray := prog_9_method_2_code
abbrev qy_Ref_write : MethodName := ⟨"QuietSweepModel", "write", "(C)Z"⟩
abbrev ql_Ref_write : Cond := .code qy_Ref_write qc_Ref_write 2 (some .boolean)
theorem qd_Ref_write_0 : decode qc_Ref_write 0 = .ok (.aload_n 0, 1) := by decide +kernel
theorem qd_Ref_write_1 : decode qc_Ref_write 1 = .ok (.getfield 91, 3) := by decide +kernel
theorem qd_Ref_write_4 : decode qc_Ref_write 4 = .ok (.bipush 60, 2) := by decide +kernel
theorem qd_Ref_write_6 : decode qc_Ref_write 6 = .ok (.if_icmp .ge 15, 3) := by decide +kernel
theorem qd_Ref_write_9 : decode qc_Ref_write 9 = .ok (.iload_n 1, 1) := by decide +kernel
theorem qd_Ref_write_10 : decode qc_Ref_write 10 = .ok (.bipush 32, 2) := by decide +kernel
theorem qd_Ref_write_12 : decode qc_Ref_write 12 = .ok (.if_icmp .lt 9, 3) := by decide +kernel
theorem qd_Ref_write_15 : decode qc_Ref_write 15 = .ok (.iload_n 1, 1) := by decide +kernel
theorem qd_Ref_write_16 : decode qc_Ref_write 16 = .ok (.bipush 126, 2) := by decide +kernel
theorem qd_Ref_write_18 : decode qc_Ref_write 18 = .ok (.if_icmp .le 5, 3) := by decide +kernel
theorem qd_Ref_write_21 : decode qc_Ref_write 21 = .ok (.iconst 0, 1) := by decide +kernel
theorem qd_Ref_write_22 : decode qc_Ref_write 22 = .ok (.ireturn, 1) := by decide +kernel
theorem qd_Ref_write_23 : decode qc_Ref_write 23 = .ok (.aload_n 0, 1) := by decide +kernel
theorem qd_Ref_write_24 : decode qc_Ref_write 24 = .ok (.getfield 7, 3) := by decide +kernel
theorem qd_Ref_write_27 : decode qc_Ref_write 27 = .ok (.aload_n 0, 1) := by decide +kernel
theorem qd_Ref_write_28 : decode qc_Ref_write 28 = .ok (.getfield 91, 3) := by decide +kernel
theorem qd_Ref_write_31 : decode qc_Ref_write 31 = .ok (.iload_n 1, 1) := by decide +kernel
theorem qd_Ref_write_32 : decode qc_Ref_write 32 = .ok (.castore, 1) := by decide +kernel
theorem qd_Ref_write_33 : decode qc_Ref_write 33 = .ok (.aload_n 0, 1) := by decide +kernel
theorem qd_Ref_write_34 : decode qc_Ref_write 34 = .ok (.dup, 1) := by decide +kernel
theorem qd_Ref_write_35 : decode qc_Ref_write 35 = .ok (.getfield 91, 3) := by decide +kernel
theorem qd_Ref_write_38 : decode qc_Ref_write 38 = .ok (.iconst 1, 1) := by decide +kernel
theorem qd_Ref_write_39 : decode qc_Ref_write 39 = .ok (.iadd, 1) := by decide +kernel
theorem qd_Ref_write_40 : decode qc_Ref_write 40 = .ok (.putfield 91, 3) := by decide +kernel
theorem qd_Ref_write_43 : decode qc_Ref_write 43 = .ok (.iconst 1, 1) := by decide +kernel
theorem qd_Ref_write_44 : decode qc_Ref_write 44 = .ok (.ireturn, 1) := by decide +kernel
abbrev qc_Ref_load : ByteArray := prog_9_method_13_code
abbrev qy_Ref_load : MethodName := ⟨"QuietSweepModel", "load", "(I)I"⟩
abbrev ql_Ref_load : Cond := .code qy_Ref_load qc_Ref_load 4 (some .int)
theorem qd_Ref_load_0 : decode qc_Ref_load 0 = .ok (.iload_n 1, 1) := by decide +kernel
theorem qd_Ref_load_1 : decode qc_Ref_load 1 = .ok (.invokestatic 128, 3) := by decide +kernel
theorem qd_Ref_load_4 : decode qc_Ref_load 4 = .ok (.ifCond .ne 7, 3) := by decide +kernel
theorem qd_Ref_load_7 : decode qc_Ref_load 7 = .ok (.iconst (-1), 1) := by decide +kernel
theorem qd_Ref_load_8 : decode qc_Ref_load 8 = .ok (.goto 19, 3) := by decide +kernel
theorem qd_Ref_load_11 : decode qc_Ref_load 11 = .ok (.aload_n 0, 1) := by decide +kernel
theorem qd_Ref_load_12 : decode qc_Ref_load 12 = .ok (.invokevirtual 132, 3) := by decide +kernel
theorem qd_Ref_load_15 : decode qc_Ref_load 15 = .ok (.ifCond .ne 8, 3) := by decide +kernel
theorem qd_Ref_load_18 : decode qc_Ref_load 18 = .ok (.bipush (-2), 2) := by decide +kernel
theorem qd_Ref_load_20 : decode qc_Ref_load 20 = .ok (.goto 7, 3) := by decide +kernel
theorem qd_Ref_load_23 : decode qc_Ref_load 23 = .ok (.aload_n 0, 1) := by decide +kernel
theorem qd_Ref_load_24 : decode qc_Ref_load 24 = .ok (.getfield 98, 3) := by decide +kernel
theorem qd_Ref_load_27 : decode qc_Ref_load 27 = .ok (.istore_n 2, 1) := by decide +kernel
theorem qd_Ref_load_28 : decode qc_Ref_load 28 = .ok (.aload_n 0, 1) := by decide +kernel
theorem qd_Ref_load_29 : decode qc_Ref_load 29 = .ok (.iconst 0, 1) := by decide +kernel
theorem qd_Ref_load_30 : decode qc_Ref_load 30 = .ok (.putfield 91, 3) := by decide +kernel
theorem qd_Ref_load_33 : decode qc_Ref_load 33 = .ok (.iload_n 2, 1) := by decide +kernel
theorem qd_Ref_load_34 : decode qc_Ref_load 34 = .ok (.ifCond .ge 5, 3) := by decide +kernel
theorem qd_Ref_load_37 : decode qc_Ref_load 37 = .ok (.iload_n 2, 1) := by decide +kernel
theorem qd_Ref_load_38 : decode qc_Ref_load 38 = .ok (.ireturn, 1) := by decide +kernel
theorem qd_Ref_load_39 : decode qc_Ref_load 39 = .ok (.aload_n 0, 1) := by decide +kernel
theorem qd_Ref_load_40 : decode qc_Ref_load 40 = .ok (.getfield 29, 3) := by decide +kernel
theorem qd_Ref_load_43 : decode qc_Ref_load 43 = .ok (.iload_n 1, 1) := by decide +kernel
theorem qd_Ref_load_44 : decode qc_Ref_load 44 = .ok (.aload_n 0, 1) := by decide +kernel
theorem qd_Ref_load_45 : decode qc_Ref_load 45 = .ok (.getfield 98, 3) := by decide +kernel
theorem qd_Ref_load_48 : decode qc_Ref_load 48 = .ok (.iastore, 1) := by decide +kernel
theorem qd_Ref_load_49 : decode qc_Ref_load 49 = .ok (.aload_n 0, 1) := by decide +kernel
theorem qd_Ref_load_50 : decode qc_Ref_load 50 = .ok (.getfield 44, 3) := by decide +kernel
theorem qd_Ref_load_53 : decode qc_Ref_load 53 = .ok (.iload_n 1, 1) := by decide +kernel
theorem qd_Ref_load_54 : decode qc_Ref_load 54 = .ok (.iconst 0, 1) := by decide +kernel
theorem qd_Ref_load_55 : decode qc_Ref_load 55 = .ok (.iastore, 1) := by decide +kernel
theorem qd_Ref_load_56 : decode qc_Ref_load 56 = .ok (.iconst 0, 1) := by decide +kernel
theorem qd_Ref_load_57 : decode qc_Ref_load 57 = .ok (.istore_n 3, 1) := by decide +kernel
theorem qd_Ref_load_58 : decode qc_Ref_load 58 = .ok (.iload_n 3, 1) := by decide +kernel
theorem qd_Ref_load_59 : decode qc_Ref_load 59 = .ok (.aload_n 0, 1) := by decide +kernel
theorem qd_Ref_load_60 : decode qc_Ref_load 60 = .ok (.getfield 98, 3) := by decide +kernel
theorem qd_Ref_load_63 : decode qc_Ref_load 63 = .ok (.if_icmp .ge 77, 3) := by decide +kernel
theorem qd_Ref_load_66 : decode qc_Ref_load 66 = .ok (.aload_n 0, 1) := by decide +kernel
theorem qd_Ref_load_67 : decode qc_Ref_load 67 = .ok (.getfield 32, 3) := by decide +kernel
theorem qd_Ref_load_70 : decode qc_Ref_load 70 = .ok (.bipush 40, 2) := by decide +kernel
theorem qd_Ref_load_72 : decode qc_Ref_load 72 = .ok (.iload_n 1, 1) := by decide +kernel
theorem qd_Ref_load_73 : decode qc_Ref_load 73 = .ok (.imul, 1) := by decide +kernel
theorem qd_Ref_load_74 : decode qc_Ref_load 74 = .ok (.iload_n 3, 1) := by decide +kernel
theorem qd_Ref_load_75 : decode qc_Ref_load 75 = .ok (.iadd, 1) := by decide +kernel
theorem qd_Ref_load_76 : decode qc_Ref_load 76 = .ok (.aload_n 0, 1) := by decide +kernel
theorem qd_Ref_load_77 : decode qc_Ref_load 77 = .ok (.getfield 13, 3) := by decide +kernel
theorem qd_Ref_load_80 : decode qc_Ref_load 80 = .ok (.iload_n 3, 1) := by decide +kernel
theorem qd_Ref_load_81 : decode qc_Ref_load 81 = .ok (.iaload, 1) := by decide +kernel
theorem qd_Ref_load_82 : decode qc_Ref_load 82 = .ok (.iastore, 1) := by decide +kernel
theorem qd_Ref_load_83 : decode qc_Ref_load 83 = .ok (.aload_n 0, 1) := by decide +kernel
theorem qd_Ref_load_84 : decode qc_Ref_load 84 = .ok (.getfield 35, 3) := by decide +kernel
theorem qd_Ref_load_87 : decode qc_Ref_load 87 = .ok (.bipush 40, 2) := by decide +kernel
theorem qd_Ref_load_89 : decode qc_Ref_load 89 = .ok (.iload_n 1, 1) := by decide +kernel
theorem qd_Ref_load_90 : decode qc_Ref_load 90 = .ok (.imul, 1) := by decide +kernel
theorem qd_Ref_load_91 : decode qc_Ref_load 91 = .ok (.iload_n 3, 1) := by decide +kernel
theorem qd_Ref_load_92 : decode qc_Ref_load 92 = .ok (.iadd, 1) := by decide +kernel
theorem qd_Ref_load_93 : decode qc_Ref_load 93 = .ok (.aload_n 0, 1) := by decide +kernel
theorem qd_Ref_load_94 : decode qc_Ref_load 94 = .ok (.getfield 17, 3) := by decide +kernel
theorem qd_Ref_load_97 : decode qc_Ref_load 97 = .ok (.iload_n 3, 1) := by decide +kernel
theorem qd_Ref_load_98 : decode qc_Ref_load 98 = .ok (.iaload, 1) := by decide +kernel
theorem qd_Ref_load_99 : decode qc_Ref_load 99 = .ok (.iastore, 1) := by decide +kernel
theorem qd_Ref_load_100 : decode qc_Ref_load 100 = .ok (.aload_n 0, 1) := by decide +kernel
theorem qd_Ref_load_101 : decode qc_Ref_load 101 = .ok (.getfield 38, 3) := by decide +kernel
theorem qd_Ref_load_104 : decode qc_Ref_load 104 = .ok (.bipush 40, 2) := by decide +kernel
theorem qd_Ref_load_106 : decode qc_Ref_load 106 = .ok (.iload_n 1, 1) := by decide +kernel
theorem qd_Ref_load_107 : decode qc_Ref_load 107 = .ok (.imul, 1) := by decide +kernel
theorem qd_Ref_load_108 : decode qc_Ref_load 108 = .ok (.iload_n 3, 1) := by decide +kernel
theorem qd_Ref_load_109 : decode qc_Ref_load 109 = .ok (.iadd, 1) := by decide +kernel
theorem qd_Ref_load_110 : decode qc_Ref_load 110 = .ok (.aload_n 0, 1) := by decide +kernel
theorem qd_Ref_load_111 : decode qc_Ref_load 111 = .ok (.getfield 20, 3) := by decide +kernel
theorem qd_Ref_load_114 : decode qc_Ref_load 114 = .ok (.iload_n 3, 1) := by decide +kernel
theorem qd_Ref_load_115 : decode qc_Ref_load 115 = .ok (.iaload, 1) := by decide +kernel
theorem qd_Ref_load_116 : decode qc_Ref_load 116 = .ok (.iastore, 1) := by decide +kernel
theorem qd_Ref_load_117 : decode qc_Ref_load 117 = .ok (.aload_n 0, 1) := by decide +kernel
theorem qd_Ref_load_118 : decode qc_Ref_load 118 = .ok (.getfield 41, 3) := by decide +kernel
theorem qd_Ref_load_121 : decode qc_Ref_load 121 = .ok (.bipush 40, 2) := by decide +kernel
theorem qd_Ref_load_123 : decode qc_Ref_load 123 = .ok (.iload_n 1, 1) := by decide +kernel
theorem qd_Ref_load_124 : decode qc_Ref_load 124 = .ok (.imul, 1) := by decide +kernel
theorem qd_Ref_load_125 : decode qc_Ref_load 125 = .ok (.iload_n 3, 1) := by decide +kernel
theorem qd_Ref_load_126 : decode qc_Ref_load 126 = .ok (.iadd, 1) := by decide +kernel
theorem qd_Ref_load_127 : decode qc_Ref_load 127 = .ok (.aload_n 0, 1) := by decide +kernel
theorem qd_Ref_load_128 : decode qc_Ref_load 128 = .ok (.getfield 23, 3) := by decide +kernel
theorem qd_Ref_load_131 : decode qc_Ref_load 131 = .ok (.iload_n 3, 1) := by decide +kernel
theorem qd_Ref_load_132 : decode qc_Ref_load 132 = .ok (.iaload, 1) := by decide +kernel
theorem qd_Ref_load_133 : decode qc_Ref_load 133 = .ok (.iastore, 1) := by decide +kernel
theorem qd_Ref_load_134 : decode qc_Ref_load 134 = .ok (.iinc 3 1, 3) := by decide +kernel
theorem qd_Ref_load_137 : decode qc_Ref_load 137 = .ok (.goto (-79), 3) := by decide +kernel
theorem qd_Ref_load_140 : decode qc_Ref_load 140 = .ok (.iload_n 2, 1) := by decide +kernel
theorem qd_Ref_load_141 : decode qc_Ref_load 141 = .ok (.ireturn, 1) := by decide +kernel
abbrev qc_Ref_isMutator : ByteArray := prog_9_method_12_code
abbrev qy_Ref_isMutator : MethodName := ⟨"QuietSweepModel", "isMutator", "(I)Z"⟩
abbrev ql_Ref_isMutator : Cond := .code qy_Ref_isMutator qc_Ref_isMutator 1 (some .boolean)
theorem qd_Ref_isMutator_0 : decode qc_Ref_isMutator 0 = .ok (.iload_n 0, 1) := by decide +kernel
theorem qd_Ref_isMutator_1 : decode qc_Ref_isMutator 1 = .ok (.ifCond .eq 8, 3) := by decide +kernel
theorem qd_Ref_isMutator_4 : decode qc_Ref_isMutator 4 = .ok (.iload_n 0, 1) := by decide +kernel
theorem qd_Ref_isMutator_5 : decode qc_Ref_isMutator 5 = .ok (.iconst 1, 1) := by decide +kernel
theorem qd_Ref_isMutator_6 : decode qc_Ref_isMutator 6 = .ok (.if_icmp .ne 7, 3) := by decide +kernel
theorem qd_Ref_isMutator_9 : decode qc_Ref_isMutator 9 = .ok (.iconst 1, 1) := by decide +kernel
theorem qd_Ref_isMutator_10 : decode qc_Ref_isMutator 10 = .ok (.goto 4, 3) := by decide +kernel
theorem qd_Ref_isMutator_13 : decode qc_Ref_isMutator 13 = .ok (.iconst 0, 1) := by decide +kernel
theorem qd_Ref_isMutator_14 : decode qc_Ref_isMutator 14 = .ok (.ireturn, 1) := by decide +kernel
abbrev qc_Ref_read : ByteArray := prog_9_method_7_code
abbrev qy_Ref_read : MethodName := ⟨"QuietSweepModel", "read", "()Z"⟩
abbrev ql_Ref_read : Cond := .code qy_Ref_read qc_Ref_read 3 (some .boolean)
theorem qd_Ref_read_0 : decode qc_Ref_read 0 = .ok (.aload_n 0, 1) := by decide +kernel
theorem qd_Ref_read_1 : decode qc_Ref_read 1 = .ok (.iconst 0, 1) := by decide +kernel
theorem qd_Ref_read_2 : decode qc_Ref_read 2 = .ok (.putfield 98, 3) := by decide +kernel
theorem qd_Ref_read_5 : decode qc_Ref_read 5 = .ok (.aload_n 0, 1) := by decide +kernel
theorem qd_Ref_read_6 : decode qc_Ref_read 6 = .ok (.iconst 0, 1) := by decide +kernel
theorem qd_Ref_read_7 : decode qc_Ref_read 7 = .ok (.putfield 101, 3) := by decide +kernel
theorem qd_Ref_read_10 : decode qc_Ref_read 10 = .ok (.iconst 0, 1) := by decide +kernel
theorem qd_Ref_read_11 : decode qc_Ref_read 11 = .ok (.istore_n 1, 1) := by decide +kernel
theorem qd_Ref_read_12 : decode qc_Ref_read 12 = .ok (.iload_n 1, 1) := by decide +kernel
theorem qd_Ref_read_13 : decode qc_Ref_read 13 = .ok (.aload_n 0, 1) := by decide +kernel
theorem qd_Ref_read_14 : decode qc_Ref_read 14 = .ok (.getfield 91, 3) := by decide +kernel
theorem qd_Ref_read_17 : decode qc_Ref_read 17 = .ok (.if_icmp .ge 50, 3) := by decide +kernel
theorem qd_Ref_read_20 : decode qc_Ref_read 20 = .ok (.aload_n 0, 1) := by decide +kernel
theorem qd_Ref_read_21 : decode qc_Ref_read 21 = .ok (.iload_n 1, 1) := by decide +kernel
theorem qd_Ref_read_22 : decode qc_Ref_read 22 = .ok (.invokevirtual 104, 3) := by decide +kernel
theorem qd_Ref_read_25 : decode qc_Ref_read 25 = .ok (.istore_n 2, 1) := by decide +kernel
theorem qd_Ref_read_26 : decode qc_Ref_read 26 = .ok (.iload_n 2, 1) := by decide +kernel
theorem qd_Ref_read_27 : decode qc_Ref_read 27 = .ok (.ifCond .le 7, 3) := by decide +kernel
theorem qd_Ref_read_30 : decode qc_Ref_read 30 = .ok (.iload_n 2, 1) := by decide +kernel
theorem qd_Ref_read_31 : decode qc_Ref_read 31 = .ok (.goto 8, 3) := by decide +kernel
theorem qd_Ref_read_34 : decode qc_Ref_read 34 = .ok (.aload_n 0, 1) := by decide +kernel
theorem qd_Ref_read_35 : decode qc_Ref_read 35 = .ok (.iload_n 1, 1) := by decide +kernel
theorem qd_Ref_read_36 : decode qc_Ref_read 36 = .ok (.invokevirtual 108, 3) := by decide +kernel
theorem qd_Ref_read_39 : decode qc_Ref_read 39 = .ok (.istore_n 2, 1) := by decide +kernel
theorem qd_Ref_read_40 : decode qc_Ref_read 40 = .ok (.iload_n 2, 1) := by decide +kernel
theorem qd_Ref_read_41 : decode qc_Ref_read 41 = .ok (.ifCond .le 7, 3) := by decide +kernel
theorem qd_Ref_read_44 : decode qc_Ref_read 44 = .ok (.iload_n 2, 1) := by decide +kernel
theorem qd_Ref_read_45 : decode qc_Ref_read 45 = .ok (.goto 8, 3) := by decide +kernel
theorem qd_Ref_read_48 : decode qc_Ref_read 48 = .ok (.aload_n 0, 1) := by decide +kernel
theorem qd_Ref_read_49 : decode qc_Ref_read 49 = .ok (.iload_n 1, 1) := by decide +kernel
theorem qd_Ref_read_50 : decode qc_Ref_read 50 = .ok (.invokevirtual 111, 3) := by decide +kernel
theorem qd_Ref_read_53 : decode qc_Ref_read 53 = .ok (.istore_n 2, 1) := by decide +kernel
theorem qd_Ref_read_54 : decode qc_Ref_read 54 = .ok (.iload_n 2, 1) := by decide +kernel
theorem qd_Ref_read_55 : decode qc_Ref_read 55 = .ok (.ifCond .gt 5, 3) := by decide +kernel
theorem qd_Ref_read_58 : decode qc_Ref_read 58 = .ok (.iconst 0, 1) := by decide +kernel
theorem qd_Ref_read_59 : decode qc_Ref_read 59 = .ok (.ireturn, 1) := by decide +kernel
theorem qd_Ref_read_60 : decode qc_Ref_read 60 = .ok (.iload_n 1, 1) := by decide +kernel
theorem qd_Ref_read_61 : decode qc_Ref_read 61 = .ok (.iload_n 2, 1) := by decide +kernel
theorem qd_Ref_read_62 : decode qc_Ref_read 62 = .ok (.iadd, 1) := by decide +kernel
theorem qd_Ref_read_63 : decode qc_Ref_read 63 = .ok (.istore_n 1, 1) := by decide +kernel
theorem qd_Ref_read_64 : decode qc_Ref_read 64 = .ok (.goto (-52), 3) := by decide +kernel
theorem qd_Ref_read_67 : decode qc_Ref_read 67 = .ok (.aload_n 0, 1) := by decide +kernel
theorem qd_Ref_read_68 : decode qc_Ref_read 68 = .ok (.getfield 101, 3) := by decide +kernel
theorem qd_Ref_read_71 : decode qc_Ref_read 71 = .ok (.ifCond .ne 7, 3) := by decide +kernel
theorem qd_Ref_read_74 : decode qc_Ref_read 74 = .ok (.iconst 1, 1) := by decide +kernel
theorem qd_Ref_read_75 : decode qc_Ref_read 75 = .ok (.goto 4, 3) := by decide +kernel
theorem qd_Ref_read_78 : decode qc_Ref_read 78 = .ok (.iconst 0, 1) := by decide +kernel
theorem qd_Ref_read_79 : decode qc_Ref_read 79 = .ok (.ireturn, 1) := by decide +kernel
abbrev qc_Ref_loop : ByteArray := prog_9_method_8_code
abbrev qy_Ref_loop : MethodName := ⟨"QuietSweepModel", "loop", "(I)I"⟩
abbrev ql_Ref_loop : Cond := .code qy_Ref_loop qc_Ref_loop 3 (some .int)
theorem qd_Ref_loop_0 : decode qc_Ref_loop 0 = .ok (.aload_n 0, 1) := by decide +kernel
theorem qd_Ref_loop_1 : decode qc_Ref_loop 1 = .ok (.iload_n 1, 1) := by decide +kernel
theorem qd_Ref_loop_2 : decode qc_Ref_loop 2 = .ok (.invokevirtual 94, 3) := by decide +kernel
theorem qd_Ref_loop_5 : decode qc_Ref_loop 5 = .ok (.bipush 33, 2) := by decide +kernel
theorem qd_Ref_loop_7 : decode qc_Ref_loop 7 = .ok (.if_icmp .ne 42, 3) := by decide +kernel
theorem qd_Ref_loop_10 : decode qc_Ref_loop 10 = .ok (.aload_n 0, 1) := by decide +kernel
theorem qd_Ref_loop_11 : decode qc_Ref_loop 11 = .ok (.iload_n 1, 1) := by decide +kernel
theorem qd_Ref_loop_12 : decode qc_Ref_loop 12 = .ok (.iconst 1, 1) := by decide +kernel
theorem qd_Ref_loop_13 : decode qc_Ref_loop 13 = .ok (.iadd, 1) := by decide +kernel
theorem qd_Ref_loop_14 : decode qc_Ref_loop 14 = .ok (.invokevirtual 114, 3) := by decide +kernel
theorem qd_Ref_loop_17 : decode qc_Ref_loop 17 = .ok (.ifCond .lt 32, 3) := by decide +kernel
theorem qd_Ref_loop_20 : decode qc_Ref_loop 20 = .ok (.aload_n 0, 1) := by decide +kernel
theorem qd_Ref_loop_21 : decode qc_Ref_loop 21 = .ok (.iload_n 1, 1) := by decide +kernel
theorem qd_Ref_loop_22 : decode qc_Ref_loop 22 = .ok (.iconst 2, 1) := by decide +kernel
theorem qd_Ref_loop_23 : decode qc_Ref_loop 23 = .ok (.iadd, 1) := by decide +kernel
theorem qd_Ref_loop_24 : decode qc_Ref_loop 24 = .ok (.invokevirtual 94, 3) := by decide +kernel
theorem qd_Ref_loop_27 : decode qc_Ref_loop 27 = .ok (.bipush 59, 2) := by decide +kernel
theorem qd_Ref_loop_29 : decode qc_Ref_loop 29 = .ok (.if_icmp .ne 20, 3) := by decide +kernel
theorem qd_Ref_loop_32 : decode qc_Ref_loop 32 = .ok (.aload_n 0, 1) := by decide +kernel
theorem qd_Ref_loop_33 : decode qc_Ref_loop 33 = .ok (.bipush 14, 2) := by decide +kernel
theorem qd_Ref_loop_35 : decode qc_Ref_loop 35 = .ok (.aload_n 0, 1) := by decide +kernel
theorem qd_Ref_loop_36 : decode qc_Ref_loop 36 = .ok (.iload_n 1, 1) := by decide +kernel
theorem qd_Ref_loop_37 : decode qc_Ref_loop 37 = .ok (.iconst 1, 1) := by decide +kernel
theorem qd_Ref_loop_38 : decode qc_Ref_loop 38 = .ok (.iadd, 1) := by decide +kernel
theorem qd_Ref_loop_39 : decode qc_Ref_loop 39 = .ok (.invokevirtual 114, 3) := by decide +kernel
theorem qd_Ref_loop_42 : decode qc_Ref_loop 42 = .ok (.iconst 0, 1) := by decide +kernel
theorem qd_Ref_loop_43 : decode qc_Ref_loop 43 = .ok (.iconst 0, 1) := by decide +kernel
theorem qd_Ref_loop_44 : decode qc_Ref_loop 44 = .ok (.invokevirtual 117, 3) := by decide +kernel
theorem qd_Ref_loop_47 : decode qc_Ref_loop 47 = .ok (.iconst 3, 1) := by decide +kernel
theorem qd_Ref_loop_48 : decode qc_Ref_loop 48 = .ok (.ireturn, 1) := by decide +kernel
theorem qd_Ref_loop_49 : decode qc_Ref_loop 49 = .ok (.aload_n 0, 1) := by decide +kernel
theorem qd_Ref_loop_50 : decode qc_Ref_loop 50 = .ok (.iload_n 1, 1) := by decide +kernel
theorem qd_Ref_loop_51 : decode qc_Ref_loop 51 = .ok (.invokevirtual 94, 3) := by decide +kernel
theorem qd_Ref_loop_54 : decode qc_Ref_loop 54 = .ok (.bipush 40, 2) := by decide +kernel
theorem qd_Ref_loop_56 : decode qc_Ref_loop 56 = .ok (.if_icmp .ne 62, 3) := by decide +kernel
theorem qd_Ref_loop_59 : decode qc_Ref_loop 59 = .ok (.aload_n 0, 1) := by decide +kernel
theorem qd_Ref_loop_60 : decode qc_Ref_loop 60 = .ok (.iload_n 1, 1) := by decide +kernel
theorem qd_Ref_loop_61 : decode qc_Ref_loop 61 = .ok (.iconst 1, 1) := by decide +kernel
theorem qd_Ref_loop_62 : decode qc_Ref_loop 62 = .ok (.iadd, 1) := by decide +kernel
theorem qd_Ref_loop_63 : decode qc_Ref_loop 63 = .ok (.invokevirtual 121, 3) := by decide +kernel
theorem qd_Ref_loop_66 : decode qc_Ref_loop 66 = .ok (.ifCond .lt 52, 3) := by decide +kernel
theorem qd_Ref_loop_69 : decode qc_Ref_loop 69 = .ok (.aload_n 0, 1) := by decide +kernel
theorem qd_Ref_loop_70 : decode qc_Ref_loop 70 = .ok (.getfield 101, 3) := by decide +kernel
theorem qd_Ref_loop_73 : decode qc_Ref_loop 73 = .ok (.bipush 6, 2) := by decide +kernel
theorem qd_Ref_loop_75 : decode qc_Ref_loop 75 = .ok (.if_icmp .ge 43, 3) := by decide +kernel
theorem qd_Ref_loop_78 : decode qc_Ref_loop 78 = .ok (.aload_n 0, 1) := by decide +kernel
theorem qd_Ref_loop_79 : decode qc_Ref_loop 79 = .ok (.getfield 26, 3) := by decide +kernel
theorem qd_Ref_loop_82 : decode qc_Ref_loop 82 = .ok (.aload_n 0, 1) := by decide +kernel
theorem qd_Ref_loop_83 : decode qc_Ref_loop 83 = .ok (.getfield 101, 3) := by decide +kernel
theorem qd_Ref_loop_86 : decode qc_Ref_loop 86 = .ok (.aload_n 0, 1) := by decide +kernel
theorem qd_Ref_loop_87 : decode qc_Ref_loop 87 = .ok (.getfield 98, 3) := by decide +kernel
theorem qd_Ref_loop_90 : decode qc_Ref_loop 90 = .ok (.iastore, 1) := by decide +kernel
theorem qd_Ref_loop_91 : decode qc_Ref_loop 91 = .ok (.aload_n 0, 1) := by decide +kernel
theorem qd_Ref_loop_92 : decode qc_Ref_loop 92 = .ok (.dup, 1) := by decide +kernel
theorem qd_Ref_loop_93 : decode qc_Ref_loop 93 = .ok (.getfield 101, 3) := by decide +kernel
theorem qd_Ref_loop_96 : decode qc_Ref_loop 96 = .ok (.iconst 1, 1) := by decide +kernel
theorem qd_Ref_loop_97 : decode qc_Ref_loop 97 = .ok (.iadd, 1) := by decide +kernel
theorem qd_Ref_loop_98 : decode qc_Ref_loop 98 = .ok (.putfield 101, 3) := by decide +kernel
theorem qd_Ref_loop_101 : decode qc_Ref_loop 101 = .ok (.aload_n 0, 1) := by decide +kernel
theorem qd_Ref_loop_102 : decode qc_Ref_loop 102 = .ok (.bipush 15, 2) := by decide +kernel
theorem qd_Ref_loop_104 : decode qc_Ref_loop 104 = .ok (.aload_n 0, 1) := by decide +kernel
theorem qd_Ref_loop_105 : decode qc_Ref_loop 105 = .ok (.iload_n 1, 1) := by decide +kernel
theorem qd_Ref_loop_106 : decode qc_Ref_loop 106 = .ok (.iconst 1, 1) := by decide +kernel
theorem qd_Ref_loop_107 : decode qc_Ref_loop 107 = .ok (.iadd, 1) := by decide +kernel
theorem qd_Ref_loop_108 : decode qc_Ref_loop 108 = .ok (.invokevirtual 121, 3) := by decide +kernel
theorem qd_Ref_loop_111 : decode qc_Ref_loop 111 = .ok (.iconst 0, 1) := by decide +kernel
theorem qd_Ref_loop_112 : decode qc_Ref_loop 112 = .ok (.iconst 0, 1) := by decide +kernel
theorem qd_Ref_loop_113 : decode qc_Ref_loop 113 = .ok (.invokevirtual 117, 3) := by decide +kernel
theorem qd_Ref_loop_116 : decode qc_Ref_loop 116 = .ok (.iconst 2, 1) := by decide +kernel
theorem qd_Ref_loop_117 : decode qc_Ref_loop 117 = .ok (.ireturn, 1) := by decide +kernel
theorem qd_Ref_loop_118 : decode qc_Ref_loop 118 = .ok (.aload_n 0, 1) := by decide +kernel
theorem qd_Ref_loop_119 : decode qc_Ref_loop 119 = .ok (.iload_n 1, 1) := by decide +kernel
theorem qd_Ref_loop_120 : decode qc_Ref_loop 120 = .ok (.invokevirtual 94, 3) := by decide +kernel
theorem qd_Ref_loop_123 : decode qc_Ref_loop 123 = .ok (.bipush 41, 2) := by decide +kernel
theorem qd_Ref_loop_125 : decode qc_Ref_loop 125 = .ok (.if_icmp .ne 10, 3) := by decide +kernel
theorem qd_Ref_loop_128 : decode qc_Ref_loop 128 = .ok (.aload_n 0, 1) := by decide +kernel
theorem qd_Ref_loop_129 : decode qc_Ref_loop 129 = .ok (.getfield 101, 3) := by decide +kernel
theorem qd_Ref_loop_132 : decode qc_Ref_loop 132 = .ok (.ifCond .ne 5, 3) := by decide +kernel
theorem qd_Ref_loop_135 : decode qc_Ref_loop 135 = .ok (.iconst 0, 1) := by decide +kernel
theorem qd_Ref_loop_136 : decode qc_Ref_loop 136 = .ok (.ireturn, 1) := by decide +kernel
theorem qd_Ref_loop_137 : decode qc_Ref_loop 137 = .ok (.aload_n 0, 1) := by decide +kernel
theorem qd_Ref_loop_138 : decode qc_Ref_loop 138 = .ok (.dup, 1) := by decide +kernel
theorem qd_Ref_loop_139 : decode qc_Ref_loop 139 = .ok (.getfield 101, 3) := by decide +kernel
theorem qd_Ref_loop_142 : decode qc_Ref_loop 142 = .ok (.iconst 1, 1) := by decide +kernel
theorem qd_Ref_loop_143 : decode qc_Ref_loop 143 = .ok (.isub, 1) := by decide +kernel
theorem qd_Ref_loop_144 : decode qc_Ref_loop 144 = .ok (.putfield 101, 3) := by decide +kernel
theorem qd_Ref_loop_147 : decode qc_Ref_loop 147 = .ok (.aload_n 0, 1) := by decide +kernel
theorem qd_Ref_loop_148 : decode qc_Ref_loop 148 = .ok (.getfield 26, 3) := by decide +kernel
theorem qd_Ref_loop_151 : decode qc_Ref_loop 151 = .ok (.aload_n 0, 1) := by decide +kernel
theorem qd_Ref_loop_152 : decode qc_Ref_loop 152 = .ok (.getfield 101, 3) := by decide +kernel
theorem qd_Ref_loop_155 : decode qc_Ref_loop 155 = .ok (.iaload, 1) := by decide +kernel
theorem qd_Ref_loop_156 : decode qc_Ref_loop 156 = .ok (.istore_n 2, 1) := by decide +kernel
theorem qd_Ref_loop_157 : decode qc_Ref_loop 157 = .ok (.aload_n 0, 1) := by decide +kernel
theorem qd_Ref_loop_158 : decode qc_Ref_loop 158 = .ok (.getfield 23, 3) := by decide +kernel
theorem qd_Ref_loop_161 : decode qc_Ref_loop 161 = .ok (.iload_n 2, 1) := by decide +kernel
theorem qd_Ref_loop_162 : decode qc_Ref_loop 162 = .ok (.aload_n 0, 1) := by decide +kernel
theorem qd_Ref_loop_163 : decode qc_Ref_loop 163 = .ok (.getfield 98, 3) := by decide +kernel
theorem qd_Ref_loop_166 : decode qc_Ref_loop 166 = .ok (.iastore, 1) := by decide +kernel
theorem qd_Ref_loop_167 : decode qc_Ref_loop 167 = .ok (.aload_n 0, 1) := by decide +kernel
theorem qd_Ref_loop_168 : decode qc_Ref_loop 168 = .ok (.bipush 15, 2) := by decide +kernel
theorem qd_Ref_loop_170 : decode qc_Ref_loop 170 = .ok (.aload_n 0, 1) := by decide +kernel
theorem qd_Ref_loop_171 : decode qc_Ref_loop 171 = .ok (.getfield 17, 3) := by decide +kernel
theorem qd_Ref_loop_174 : decode qc_Ref_loop 174 = .ok (.iload_n 2, 1) := by decide +kernel
theorem qd_Ref_loop_175 : decode qc_Ref_loop 175 = .ok (.iaload, 1) := by decide +kernel
theorem qd_Ref_loop_176 : decode qc_Ref_loop 176 = .ok (.iconst 1, 1) := by decide +kernel
theorem qd_Ref_loop_177 : decode qc_Ref_loop 177 = .ok (.iload_n 2, 1) := by decide +kernel
theorem qd_Ref_loop_178 : decode qc_Ref_loop 178 = .ok (.invokevirtual 117, 3) := by decide +kernel
theorem qd_Ref_loop_181 : decode qc_Ref_loop 181 = .ok (.iconst 1, 1) := by decide +kernel
theorem qd_Ref_loop_182 : decode qc_Ref_loop 182 = .ok (.ireturn, 1) := by decide +kernel
abbrev qc_Ref_at : ByteArray := prog_9_method_3_code
abbrev qy_Ref_at : MethodName := ⟨"QuietSweepModel", "at", "(I)C"⟩
abbrev ql_Ref_at : Cond := .code qy_Ref_at qc_Ref_at 2 (some .char)
theorem qd_Ref_at_0 : decode qc_Ref_at 0 = .ok (.iload_n 1, 1) := by decide +kernel
theorem qd_Ref_at_1 : decode qc_Ref_at 1 = .ok (.aload_n 0, 1) := by decide +kernel
theorem qd_Ref_at_2 : decode qc_Ref_at 2 = .ok (.getfield 91, 3) := by decide +kernel
theorem qd_Ref_at_5 : decode qc_Ref_at 5 = .ok (.if_icmp .ge 12, 3) := by decide +kernel
theorem qd_Ref_at_8 : decode qc_Ref_at 8 = .ok (.aload_n 0, 1) := by decide +kernel
theorem qd_Ref_at_9 : decode qc_Ref_at 9 = .ok (.getfield 7, 3) := by decide +kernel
theorem qd_Ref_at_12 : decode qc_Ref_at 12 = .ok (.iload_n 1, 1) := by decide +kernel
theorem qd_Ref_at_13 : decode qc_Ref_at 13 = .ok (.caload, 1) := by decide +kernel
theorem qd_Ref_at_14 : decode qc_Ref_at 14 = .ok (.goto 5, 3) := by decide +kernel
theorem qd_Ref_at_17 : decode qc_Ref_at 17 = .ok (.bipush 32, 2) := by decide +kernel
theorem qd_Ref_at_19 : decode qc_Ref_at 19 = .ok (.ireturn, 1) := by decide +kernel
abbrev qc_Ref_intVariable : ByteArray := prog_9_method_5_code
abbrev qy_Ref_intVariable : MethodName := ⟨"QuietSweepModel", "intVariable", "(I)I"⟩
abbrev ql_Ref_intVariable : Cond := .code qy_Ref_intVariable qc_Ref_intVariable 3 (some .int)
theorem qd_Ref_intVariable_0 : decode qc_Ref_intVariable 0 = .ok (.aload_n 0, 1) := by decide +kernel
theorem qd_Ref_intVariable_1 : decode qc_Ref_intVariable 1 = .ok (.iload_n 1, 1) := by decide +kernel
theorem qd_Ref_intVariable_2 : decode qc_Ref_intVariable 2 = .ok (.invokevirtual 94, 3) := by decide +kernel
theorem qd_Ref_intVariable_5 : decode qc_Ref_intVariable 5 = .ok (.istore_n 2, 1) := by decide +kernel
theorem qd_Ref_intVariable_6 : decode qc_Ref_intVariable 6 = .ok (.iload_n 2, 1) := by decide +kernel
theorem qd_Ref_intVariable_7 : decode qc_Ref_intVariable 7 = .ok (.bipush 120, 2) := by decide +kernel
theorem qd_Ref_intVariable_9 : decode qc_Ref_intVariable 9 = .ok (.if_icmp .lt 16, 3) := by decide +kernel
theorem qd_Ref_intVariable_12 : decode qc_Ref_intVariable 12 = .ok (.iload_n 2, 1) := by decide +kernel
theorem qd_Ref_intVariable_13 : decode qc_Ref_intVariable 13 = .ok (.bipush 122, 2) := by decide +kernel
theorem qd_Ref_intVariable_15 : decode qc_Ref_intVariable 15 = .ok (.if_icmp .gt 10, 3) := by decide +kernel
theorem qd_Ref_intVariable_18 : decode qc_Ref_intVariable 18 = .ok (.iload_n 2, 1) := by decide +kernel
theorem qd_Ref_intVariable_19 : decode qc_Ref_intVariable 19 = .ok (.bipush 120, 2) := by decide +kernel
theorem qd_Ref_intVariable_21 : decode qc_Ref_intVariable 21 = .ok (.isub, 1) := by decide +kernel
theorem qd_Ref_intVariable_22 : decode qc_Ref_intVariable 22 = .ok (.goto 4, 3) := by decide +kernel
theorem qd_Ref_intVariable_25 : decode qc_Ref_intVariable 25 = .ok (.iconst (-1), 1) := by decide +kernel
theorem qd_Ref_intVariable_26 : decode qc_Ref_intVariable 26 = .ok (.ireturn, 1) := by decide +kernel
abbrev qc_Ref_add : ByteArray := prog_9_method_6_code
abbrev qy_Ref_add : MethodName := ⟨"QuietSweepModel", "add", "(IIII)V"⟩
abbrev ql_Ref_add : Cond := .code qy_Ref_add qc_Ref_add 5 none
theorem qd_Ref_add_0 : decode qc_Ref_add 0 = .ok (.aload_n 0, 1) := by decide +kernel
theorem qd_Ref_add_1 : decode qc_Ref_add 1 = .ok (.getfield 13, 3) := by decide +kernel
theorem qd_Ref_add_4 : decode qc_Ref_add 4 = .ok (.aload_n 0, 1) := by decide +kernel
theorem qd_Ref_add_5 : decode qc_Ref_add 5 = .ok (.getfield 98, 3) := by decide +kernel
theorem qd_Ref_add_8 : decode qc_Ref_add 8 = .ok (.iload_n 1, 1) := by decide +kernel
theorem qd_Ref_add_9 : decode qc_Ref_add 9 = .ok (.iastore, 1) := by decide +kernel
theorem qd_Ref_add_10 : decode qc_Ref_add 10 = .ok (.aload_n 0, 1) := by decide +kernel
theorem qd_Ref_add_11 : decode qc_Ref_add 11 = .ok (.getfield 17, 3) := by decide +kernel
theorem qd_Ref_add_14 : decode qc_Ref_add 14 = .ok (.aload_n 0, 1) := by decide +kernel
theorem qd_Ref_add_15 : decode qc_Ref_add 15 = .ok (.getfield 98, 3) := by decide +kernel
theorem qd_Ref_add_18 : decode qc_Ref_add 18 = .ok (.iload_n 2, 1) := by decide +kernel
theorem qd_Ref_add_19 : decode qc_Ref_add 19 = .ok (.iastore, 1) := by decide +kernel
theorem qd_Ref_add_20 : decode qc_Ref_add 20 = .ok (.aload_n 0, 1) := by decide +kernel
theorem qd_Ref_add_21 : decode qc_Ref_add 21 = .ok (.getfield 20, 3) := by decide +kernel
theorem qd_Ref_add_24 : decode qc_Ref_add 24 = .ok (.aload_n 0, 1) := by decide +kernel
theorem qd_Ref_add_25 : decode qc_Ref_add 25 = .ok (.getfield 98, 3) := by decide +kernel
theorem qd_Ref_add_28 : decode qc_Ref_add 28 = .ok (.iload_n 3, 1) := by decide +kernel
theorem qd_Ref_add_29 : decode qc_Ref_add 29 = .ok (.iastore, 1) := by decide +kernel
theorem qd_Ref_add_30 : decode qc_Ref_add 30 = .ok (.aload_n 0, 1) := by decide +kernel
theorem qd_Ref_add_31 : decode qc_Ref_add 31 = .ok (.getfield 23, 3) := by decide +kernel
theorem qd_Ref_add_34 : decode qc_Ref_add 34 = .ok (.aload_n 0, 1) := by decide +kernel
theorem qd_Ref_add_35 : decode qc_Ref_add 35 = .ok (.getfield 98, 3) := by decide +kernel
theorem qd_Ref_add_38 : decode qc_Ref_add 38 = .ok (.iload 4, 2) := by decide +kernel
theorem qd_Ref_add_40 : decode qc_Ref_add 40 = .ok (.iastore, 1) := by decide +kernel
theorem qd_Ref_add_41 : decode qc_Ref_add 41 = .ok (.aload_n 0, 1) := by decide +kernel
theorem qd_Ref_add_42 : decode qc_Ref_add 42 = .ok (.dup, 1) := by decide +kernel
theorem qd_Ref_add_43 : decode qc_Ref_add 43 = .ok (.getfield 98, 3) := by decide +kernel
theorem qd_Ref_add_46 : decode qc_Ref_add 46 = .ok (.iconst 1, 1) := by decide +kernel
theorem qd_Ref_add_47 : decode qc_Ref_add 47 = .ok (.iadd, 1) := by decide +kernel
theorem qd_Ref_add_48 : decode qc_Ref_add 48 = .ok (.putfield 98, 3) := by decide +kernel
theorem qd_Ref_add_51 : decode qc_Ref_add 51 = .ok (.return_, 1) := by decide +kernel
abbrev qc_Ref_cellVariable : ByteArray := prog_9_method_4_code
abbrev qy_Ref_cellVariable : MethodName := ⟨"QuietSweepModel", "cellVariable", "(I)I"⟩
abbrev ql_Ref_cellVariable : Cond := .code qy_Ref_cellVariable qc_Ref_cellVariable 3 (some .int)
theorem qd_Ref_cellVariable_0 : decode qc_Ref_cellVariable 0 = .ok (.aload_n 0, 1) := by decide +kernel
theorem qd_Ref_cellVariable_1 : decode qc_Ref_cellVariable 1 = .ok (.iload_n 1, 1) := by decide +kernel
theorem qd_Ref_cellVariable_2 : decode qc_Ref_cellVariable 2 = .ok (.invokevirtual 94, 3) := by decide +kernel
theorem qd_Ref_cellVariable_5 : decode qc_Ref_cellVariable 5 = .ok (.istore_n 2, 1) := by decide +kernel
theorem qd_Ref_cellVariable_6 : decode qc_Ref_cellVariable 6 = .ok (.iload_n 2, 1) := by decide +kernel
theorem qd_Ref_cellVariable_7 : decode qc_Ref_cellVariable 7 = .ok (.bipush 97, 2) := by decide +kernel
theorem qd_Ref_cellVariable_9 : decode qc_Ref_cellVariable 9 = .ok (.if_icmp .lt 16, 3) := by decide +kernel
theorem qd_Ref_cellVariable_12 : decode qc_Ref_cellVariable 12 = .ok (.iload_n 2, 1) := by decide +kernel
theorem qd_Ref_cellVariable_13 : decode qc_Ref_cellVariable 13 = .ok (.bipush 100, 2) := by decide +kernel
theorem qd_Ref_cellVariable_15 : decode qc_Ref_cellVariable 15 = .ok (.if_icmp .gt 10, 3) := by decide +kernel
theorem qd_Ref_cellVariable_18 : decode qc_Ref_cellVariable 18 = .ok (.iload_n 2, 1) := by decide +kernel
theorem qd_Ref_cellVariable_19 : decode qc_Ref_cellVariable 19 = .ok (.bipush 97, 2) := by decide +kernel
theorem qd_Ref_cellVariable_21 : decode qc_Ref_cellVariable 21 = .ok (.isub, 1) := by decide +kernel
theorem qd_Ref_cellVariable_22 : decode qc_Ref_cellVariable 22 = .ok (.goto 4, 3) := by decide +kernel
theorem qd_Ref_cellVariable_25 : decode qc_Ref_cellVariable 25 = .ok (.iconst (-1), 1) := by decide +kernel
theorem qd_Ref_cellVariable_26 : decode qc_Ref_cellVariable 26 = .ok (.ireturn, 1) := by decide +kernel
abbrev qc_Ref_cellStatement : ByteArray := prog_9_method_9_code
abbrev qy_Ref_cellStatement : MethodName := ⟨"QuietSweepModel", "cellStatement", "(I)I"⟩
abbrev ql_Ref_cellStatement : Cond := .code qy_Ref_cellStatement qc_Ref_cellStatement 5 (some .int)
theorem qd_Ref_cellStatement_0 : decode qc_Ref_cellStatement 0 = .ok (.aload_n 0, 1) := by decide +kernel
theorem qd_Ref_cellStatement_1 : decode qc_Ref_cellStatement 1 = .ok (.iload_n 1, 1) := by decide +kernel
theorem qd_Ref_cellStatement_2 : decode qc_Ref_cellStatement 2 = .ok (.invokevirtual 121, 3) := by decide +kernel
theorem qd_Ref_cellStatement_5 : decode qc_Ref_cellStatement 5 = .ok (.istore_n 2, 1) := by decide +kernel
theorem qd_Ref_cellStatement_6 : decode qc_Ref_cellStatement 6 = .ok (.iload_n 2, 1) := by decide +kernel
theorem qd_Ref_cellStatement_7 : decode qc_Ref_cellStatement 7 = .ok (.ifCond .ge 5, 3) := by decide +kernel
theorem qd_Ref_cellStatement_10 : decode qc_Ref_cellStatement 10 = .ok (.iconst 0, 1) := by decide +kernel
theorem qd_Ref_cellStatement_11 : decode qc_Ref_cellStatement 11 = .ok (.ireturn, 1) := by decide +kernel
theorem qd_Ref_cellStatement_12 : decode qc_Ref_cellStatement 12 = .ok (.aload_n 0, 1) := by decide +kernel
theorem qd_Ref_cellStatement_13 : decode qc_Ref_cellStatement 13 = .ok (.iload_n 1, 1) := by decide +kernel
theorem qd_Ref_cellStatement_14 : decode qc_Ref_cellStatement 14 = .ok (.iconst 1, 1) := by decide +kernel
theorem qd_Ref_cellStatement_15 : decode qc_Ref_cellStatement 15 = .ok (.iadd, 1) := by decide +kernel
theorem qd_Ref_cellStatement_16 : decode qc_Ref_cellStatement 16 = .ok (.invokevirtual 94, 3) := by decide +kernel
theorem qd_Ref_cellStatement_19 : decode qc_Ref_cellStatement 19 = .ok (.bipush 46, 2) := by decide +kernel
theorem qd_Ref_cellStatement_21 : decode qc_Ref_cellStatement 21 = .ok (.if_icmp .ne 10, 3) := by decide +kernel
theorem qd_Ref_cellStatement_24 : decode qc_Ref_cellStatement 24 = .ok (.aload_n 0, 1) := by decide +kernel
theorem qd_Ref_cellStatement_25 : decode qc_Ref_cellStatement 25 = .ok (.iload_n 1, 1) := by decide +kernel
theorem qd_Ref_cellStatement_26 : decode qc_Ref_cellStatement 26 = .ok (.iload_n 2, 1) := by decide +kernel
theorem qd_Ref_cellStatement_27 : decode qc_Ref_cellStatement 27 = .ok (.invokevirtual 124, 3) := by decide +kernel
theorem qd_Ref_cellStatement_30 : decode qc_Ref_cellStatement 30 = .ok (.ireturn, 1) := by decide +kernel
theorem qd_Ref_cellStatement_31 : decode qc_Ref_cellStatement 31 = .ok (.aload_n 0, 1) := by decide +kernel
theorem qd_Ref_cellStatement_32 : decode qc_Ref_cellStatement 32 = .ok (.iload_n 1, 1) := by decide +kernel
theorem qd_Ref_cellStatement_33 : decode qc_Ref_cellStatement 33 = .ok (.iconst 1, 1) := by decide +kernel
theorem qd_Ref_cellStatement_34 : decode qc_Ref_cellStatement 34 = .ok (.iadd, 1) := by decide +kernel
theorem qd_Ref_cellStatement_35 : decode qc_Ref_cellStatement 35 = .ok (.invokevirtual 94, 3) := by decide +kernel
theorem qd_Ref_cellStatement_38 : decode qc_Ref_cellStatement 38 = .ok (.bipush 61, 2) := by decide +kernel
theorem qd_Ref_cellStatement_40 : decode qc_Ref_cellStatement 40 = .ok (.if_icmp .eq 5, 3) := by decide +kernel
theorem qd_Ref_cellStatement_43 : decode qc_Ref_cellStatement 43 = .ok (.iconst 0, 1) := by decide +kernel
theorem qd_Ref_cellStatement_44 : decode qc_Ref_cellStatement 44 = .ok (.ireturn, 1) := by decide +kernel
theorem qd_Ref_cellStatement_45 : decode qc_Ref_cellStatement 45 = .ok (.aload_n 0, 1) := by decide +kernel
theorem qd_Ref_cellStatement_46 : decode qc_Ref_cellStatement 46 = .ok (.iload_n 1, 1) := by decide +kernel
theorem qd_Ref_cellStatement_47 : decode qc_Ref_cellStatement 47 = .ok (.iconst 2, 1) := by decide +kernel
theorem qd_Ref_cellStatement_48 : decode qc_Ref_cellStatement 48 = .ok (.iadd, 1) := by decide +kernel
theorem qd_Ref_cellStatement_49 : decode qc_Ref_cellStatement 49 = .ok (.invokevirtual 121, 3) := by decide +kernel
theorem qd_Ref_cellStatement_52 : decode qc_Ref_cellStatement 52 = .ok (.istore_n 3, 1) := by decide +kernel
theorem qd_Ref_cellStatement_53 : decode qc_Ref_cellStatement 53 = .ok (.iload_n 3, 1) := by decide +kernel
theorem qd_Ref_cellStatement_54 : decode qc_Ref_cellStatement 54 = .ok (.ifCond .ge 72, 3) := by decide +kernel
theorem qd_Ref_cellStatement_57 : decode qc_Ref_cellStatement 57 = .ok (.aload_n 0, 1) := by decide +kernel
theorem qd_Ref_cellStatement_58 : decode qc_Ref_cellStatement 58 = .ok (.iload_n 1, 1) := by decide +kernel
theorem qd_Ref_cellStatement_59 : decode qc_Ref_cellStatement 59 = .ok (.iconst 2, 1) := by decide +kernel
theorem qd_Ref_cellStatement_60 : decode qc_Ref_cellStatement 60 = .ok (.iadd, 1) := by decide +kernel
theorem qd_Ref_cellStatement_61 : decode qc_Ref_cellStatement 61 = .ok (.invokevirtual 94, 3) := by decide +kernel
theorem qd_Ref_cellStatement_64 : decode qc_Ref_cellStatement 64 = .ok (.bipush 42, 2) := by decide +kernel
theorem qd_Ref_cellStatement_66 : decode qc_Ref_cellStatement 66 = .ok (.if_icmp .ne 7, 3) := by decide +kernel
theorem qd_Ref_cellStatement_69 : decode qc_Ref_cellStatement 69 = .ok (.iconst 1, 1) := by decide +kernel
theorem qd_Ref_cellStatement_70 : decode qc_Ref_cellStatement 70 = .ok (.goto 4, 3) := by decide +kernel
theorem qd_Ref_cellStatement_73 : decode qc_Ref_cellStatement 73 = .ok (.iconst 0, 1) := by decide +kernel
theorem qd_Ref_cellStatement_74 : decode qc_Ref_cellStatement 74 = .ok (.istore 4, 2) := by decide +kernel
theorem qd_Ref_cellStatement_76 : decode qc_Ref_cellStatement 76 = .ok (.iload 4, 2) := by decide +kernel
theorem qd_Ref_cellStatement_78 : decode qc_Ref_cellStatement 78 = .ok (.ifCond .ne 15, 3) := by decide +kernel
theorem qd_Ref_cellStatement_81 : decode qc_Ref_cellStatement 81 = .ok (.aload_n 0, 1) := by decide +kernel
theorem qd_Ref_cellStatement_82 : decode qc_Ref_cellStatement 82 = .ok (.iload_n 1, 1) := by decide +kernel
theorem qd_Ref_cellStatement_83 : decode qc_Ref_cellStatement 83 = .ok (.iconst 2, 1) := by decide +kernel
theorem qd_Ref_cellStatement_84 : decode qc_Ref_cellStatement 84 = .ok (.iadd, 1) := by decide +kernel
theorem qd_Ref_cellStatement_85 : decode qc_Ref_cellStatement 85 = .ok (.invokevirtual 94, 3) := by decide +kernel
theorem qd_Ref_cellStatement_88 : decode qc_Ref_cellStatement 88 = .ok (.bipush 45, 2) := by decide +kernel
theorem qd_Ref_cellStatement_90 : decode qc_Ref_cellStatement 90 = .ok (.if_icmp .ne 15, 3) := by decide +kernel
theorem qd_Ref_cellStatement_93 : decode qc_Ref_cellStatement 93 = .ok (.aload_n 0, 1) := by decide +kernel
theorem qd_Ref_cellStatement_94 : decode qc_Ref_cellStatement 94 = .ok (.iload_n 1, 1) := by decide +kernel
theorem qd_Ref_cellStatement_95 : decode qc_Ref_cellStatement 95 = .ok (.iconst 3, 1) := by decide +kernel
theorem qd_Ref_cellStatement_96 : decode qc_Ref_cellStatement 96 = .ok (.iadd, 1) := by decide +kernel
theorem qd_Ref_cellStatement_97 : decode qc_Ref_cellStatement 97 = .ok (.invokevirtual 94, 3) := by decide +kernel
theorem qd_Ref_cellStatement_100 : decode qc_Ref_cellStatement 100 = .ok (.bipush 59, 2) := by decide +kernel
theorem qd_Ref_cellStatement_102 : decode qc_Ref_cellStatement 102 = .ok (.if_icmp .eq 5, 3) := by decide +kernel
theorem qd_Ref_cellStatement_105 : decode qc_Ref_cellStatement 105 = .ok (.iconst 0, 1) := by decide +kernel
theorem qd_Ref_cellStatement_106 : decode qc_Ref_cellStatement 106 = .ok (.ireturn, 1) := by decide +kernel
theorem qd_Ref_cellStatement_107 : decode qc_Ref_cellStatement 107 = .ok (.aload_n 0, 1) := by decide +kernel
theorem qd_Ref_cellStatement_108 : decode qc_Ref_cellStatement 108 = .ok (.iload 4, 2) := by decide +kernel
theorem qd_Ref_cellStatement_110 : decode qc_Ref_cellStatement 110 = .ok (.ifCond .eq 7, 3) := by decide +kernel
theorem qd_Ref_cellStatement_113 : decode qc_Ref_cellStatement 113 = .ok (.iconst 0, 1) := by decide +kernel
theorem qd_Ref_cellStatement_114 : decode qc_Ref_cellStatement 114 = .ok (.goto 4, 3) := by decide +kernel
theorem qd_Ref_cellStatement_117 : decode qc_Ref_cellStatement 117 = .ok (.iconst 1, 1) := by decide +kernel
theorem qd_Ref_cellStatement_118 : decode qc_Ref_cellStatement 118 = .ok (.iload_n 2, 1) := by decide +kernel
theorem qd_Ref_cellStatement_119 : decode qc_Ref_cellStatement 119 = .ok (.iconst 0, 1) := by decide +kernel
theorem qd_Ref_cellStatement_120 : decode qc_Ref_cellStatement 120 = .ok (.iconst 0, 1) := by decide +kernel
theorem qd_Ref_cellStatement_121 : decode qc_Ref_cellStatement 121 = .ok (.invokevirtual 117, 3) := by decide +kernel
theorem qd_Ref_cellStatement_124 : decode qc_Ref_cellStatement 124 = .ok (.iconst 4, 1) := by decide +kernel
theorem qd_Ref_cellStatement_125 : decode qc_Ref_cellStatement 125 = .ok (.ireturn, 1) := by decide +kernel
theorem qd_Ref_cellStatement_126 : decode qc_Ref_cellStatement 126 = .ok (.aload_n 0, 1) := by decide +kernel
theorem qd_Ref_cellStatement_127 : decode qc_Ref_cellStatement 127 = .ok (.iload_n 1, 1) := by decide +kernel
theorem qd_Ref_cellStatement_128 : decode qc_Ref_cellStatement 128 = .ok (.iconst 3, 1) := by decide +kernel
theorem qd_Ref_cellStatement_129 : decode qc_Ref_cellStatement 129 = .ok (.iadd, 1) := by decide +kernel
theorem qd_Ref_cellStatement_130 : decode qc_Ref_cellStatement 130 = .ok (.invokevirtual 94, 3) := by decide +kernel
theorem qd_Ref_cellStatement_133 : decode qc_Ref_cellStatement 133 = .ok (.bipush 59, 2) := by decide +kernel
theorem qd_Ref_cellStatement_135 : decode qc_Ref_cellStatement 135 = .ok (.if_icmp .ne 13, 3) := by decide +kernel
theorem qd_Ref_cellStatement_138 : decode qc_Ref_cellStatement 138 = .ok (.aload_n 0, 1) := by decide +kernel
theorem qd_Ref_cellStatement_139 : decode qc_Ref_cellStatement 139 = .ok (.iconst 2, 1) := by decide +kernel
theorem qd_Ref_cellStatement_140 : decode qc_Ref_cellStatement 140 = .ok (.iload_n 2, 1) := by decide +kernel
theorem qd_Ref_cellStatement_141 : decode qc_Ref_cellStatement 141 = .ok (.iload_n 3, 1) := by decide +kernel
theorem qd_Ref_cellStatement_142 : decode qc_Ref_cellStatement 142 = .ok (.iconst 0, 1) := by decide +kernel
theorem qd_Ref_cellStatement_143 : decode qc_Ref_cellStatement 143 = .ok (.invokevirtual 117, 3) := by decide +kernel
theorem qd_Ref_cellStatement_146 : decode qc_Ref_cellStatement 146 = .ok (.iconst 4, 1) := by decide +kernel
theorem qd_Ref_cellStatement_147 : decode qc_Ref_cellStatement 147 = .ok (.ireturn, 1) := by decide +kernel
theorem qd_Ref_cellStatement_148 : decode qc_Ref_cellStatement 148 = .ok (.aload_n 0, 1) := by decide +kernel
theorem qd_Ref_cellStatement_149 : decode qc_Ref_cellStatement 149 = .ok (.iload_n 1, 1) := by decide +kernel
theorem qd_Ref_cellStatement_150 : decode qc_Ref_cellStatement 150 = .ok (.iconst 3, 1) := by decide +kernel
theorem qd_Ref_cellStatement_151 : decode qc_Ref_cellStatement 151 = .ok (.iadd, 1) := by decide +kernel
theorem qd_Ref_cellStatement_152 : decode qc_Ref_cellStatement 152 = .ok (.invokevirtual 94, 3) := by decide +kernel
theorem qd_Ref_cellStatement_155 : decode qc_Ref_cellStatement 155 = .ok (.bipush 46, 2) := by decide +kernel
theorem qd_Ref_cellStatement_157 : decode qc_Ref_cellStatement 157 = .ok (.if_icmp .ne 39, 3) := by decide +kernel
theorem qd_Ref_cellStatement_160 : decode qc_Ref_cellStatement 160 = .ok (.aload_n 0, 1) := by decide +kernel
theorem qd_Ref_cellStatement_161 : decode qc_Ref_cellStatement 161 = .ok (.iload_n 1, 1) := by decide +kernel
theorem qd_Ref_cellStatement_162 : decode qc_Ref_cellStatement 162 = .ok (.iconst 4, 1) := by decide +kernel
theorem qd_Ref_cellStatement_163 : decode qc_Ref_cellStatement 163 = .ok (.iadd, 1) := by decide +kernel
theorem qd_Ref_cellStatement_164 : decode qc_Ref_cellStatement 164 = .ok (.invokevirtual 94, 3) := by decide +kernel
theorem qd_Ref_cellStatement_167 : decode qc_Ref_cellStatement 167 = .ok (.bipush 108, 2) := by decide +kernel
theorem qd_Ref_cellStatement_169 : decode qc_Ref_cellStatement 169 = .ok (.if_icmp .eq 15, 3) := by decide +kernel
theorem qd_Ref_cellStatement_172 : decode qc_Ref_cellStatement 172 = .ok (.aload_n 0, 1) := by decide +kernel
theorem qd_Ref_cellStatement_173 : decode qc_Ref_cellStatement 173 = .ok (.iload_n 1, 1) := by decide +kernel
theorem qd_Ref_cellStatement_174 : decode qc_Ref_cellStatement 174 = .ok (.iconst 4, 1) := by decide +kernel
theorem qd_Ref_cellStatement_175 : decode qc_Ref_cellStatement 175 = .ok (.iadd, 1) := by decide +kernel
theorem qd_Ref_cellStatement_176 : decode qc_Ref_cellStatement 176 = .ok (.invokevirtual 94, 3) := by decide +kernel
theorem qd_Ref_cellStatement_179 : decode qc_Ref_cellStatement 179 = .ok (.bipush 114, 2) := by decide +kernel
theorem qd_Ref_cellStatement_181 : decode qc_Ref_cellStatement 181 = .ok (.if_icmp .ne 15, 3) := by decide +kernel
theorem qd_Ref_cellStatement_184 : decode qc_Ref_cellStatement 184 = .ok (.aload_n 0, 1) := by decide +kernel
theorem qd_Ref_cellStatement_185 : decode qc_Ref_cellStatement 185 = .ok (.iload_n 1, 1) := by decide +kernel
theorem qd_Ref_cellStatement_186 : decode qc_Ref_cellStatement 186 = .ok (.iconst 5, 1) := by decide +kernel
theorem qd_Ref_cellStatement_187 : decode qc_Ref_cellStatement 187 = .ok (.iadd, 1) := by decide +kernel
theorem qd_Ref_cellStatement_188 : decode qc_Ref_cellStatement 188 = .ok (.invokevirtual 94, 3) := by decide +kernel
theorem qd_Ref_cellStatement_191 : decode qc_Ref_cellStatement 191 = .ok (.bipush 59, 2) := by decide +kernel
theorem qd_Ref_cellStatement_193 : decode qc_Ref_cellStatement 193 = .ok (.if_icmp .eq 5, 3) := by decide +kernel
theorem qd_Ref_cellStatement_196 : decode qc_Ref_cellStatement 196 = .ok (.iconst 0, 1) := by decide +kernel
theorem qd_Ref_cellStatement_197 : decode qc_Ref_cellStatement 197 = .ok (.ireturn, 1) := by decide +kernel
theorem qd_Ref_cellStatement_198 : decode qc_Ref_cellStatement 198 = .ok (.aload_n 0, 1) := by decide +kernel
theorem qd_Ref_cellStatement_199 : decode qc_Ref_cellStatement 199 = .ok (.aload_n 0, 1) := by decide +kernel
theorem qd_Ref_cellStatement_200 : decode qc_Ref_cellStatement 200 = .ok (.iload_n 1, 1) := by decide +kernel
theorem qd_Ref_cellStatement_201 : decode qc_Ref_cellStatement 201 = .ok (.iconst 4, 1) := by decide +kernel
theorem qd_Ref_cellStatement_202 : decode qc_Ref_cellStatement 202 = .ok (.iadd, 1) := by decide +kernel
theorem qd_Ref_cellStatement_203 : decode qc_Ref_cellStatement 203 = .ok (.invokevirtual 94, 3) := by decide +kernel
theorem qd_Ref_cellStatement_206 : decode qc_Ref_cellStatement 206 = .ok (.bipush 108, 2) := by decide +kernel
theorem qd_Ref_cellStatement_208 : decode qc_Ref_cellStatement 208 = .ok (.if_icmp .ne 7, 3) := by decide +kernel
theorem qd_Ref_cellStatement_211 : decode qc_Ref_cellStatement 211 = .ok (.iconst 3, 1) := by decide +kernel
theorem qd_Ref_cellStatement_212 : decode qc_Ref_cellStatement 212 = .ok (.goto 4, 3) := by decide +kernel
theorem qd_Ref_cellStatement_215 : decode qc_Ref_cellStatement 215 = .ok (.iconst 4, 1) := by decide +kernel
theorem qd_Ref_cellStatement_216 : decode qc_Ref_cellStatement 216 = .ok (.iload_n 2, 1) := by decide +kernel
theorem qd_Ref_cellStatement_217 : decode qc_Ref_cellStatement 217 = .ok (.iload_n 3, 1) := by decide +kernel
theorem qd_Ref_cellStatement_218 : decode qc_Ref_cellStatement 218 = .ok (.iconst 0, 1) := by decide +kernel
theorem qd_Ref_cellStatement_219 : decode qc_Ref_cellStatement 219 = .ok (.invokevirtual 117, 3) := by decide +kernel
theorem qd_Ref_cellStatement_222 : decode qc_Ref_cellStatement 222 = .ok (.bipush 6, 2) := by decide +kernel
theorem qd_Ref_cellStatement_224 : decode qc_Ref_cellStatement 224 = .ok (.ireturn, 1) := by decide +kernel
abbrev qc_Ref_storing : ByteArray := prog_9_method_10_code
abbrev qy_Ref_storing : MethodName := ⟨"QuietSweepModel", "storing", "(II)I"⟩
abbrev ql_Ref_storing : Cond := .code qy_Ref_storing qc_Ref_storing 5 (some .int)
theorem qd_Ref_storing_0 : decode qc_Ref_storing 0 = .ok (.aload_n 0, 1) := by decide +kernel
theorem qd_Ref_storing_1 : decode qc_Ref_storing 1 = .ok (.iload_n 1, 1) := by decide +kernel
theorem qd_Ref_storing_2 : decode qc_Ref_storing 2 = .ok (.iconst 2, 1) := by decide +kernel
theorem qd_Ref_storing_3 : decode qc_Ref_storing 3 = .ok (.iadd, 1) := by decide +kernel
theorem qd_Ref_storing_4 : decode qc_Ref_storing 4 = .ok (.invokevirtual 94, 3) := by decide +kernel
theorem qd_Ref_storing_7 : decode qc_Ref_storing 7 = .ok (.istore_n 3, 1) := by decide +kernel
theorem qd_Ref_storing_8 : decode qc_Ref_storing 8 = .ok (.aload_n 0, 1) := by decide +kernel
theorem qd_Ref_storing_9 : decode qc_Ref_storing 9 = .ok (.iload_n 1, 1) := by decide +kernel
theorem qd_Ref_storing_10 : decode qc_Ref_storing 10 = .ok (.iconst 3, 1) := by decide +kernel
theorem qd_Ref_storing_11 : decode qc_Ref_storing 11 = .ok (.iadd, 1) := by decide +kernel
theorem qd_Ref_storing_12 : decode qc_Ref_storing 12 = .ok (.invokevirtual 94, 3) := by decide +kernel
theorem qd_Ref_storing_15 : decode qc_Ref_storing 15 = .ok (.bipush 61, 2) := by decide +kernel
theorem qd_Ref_storing_17 : decode qc_Ref_storing 17 = .ok (.if_icmp .ne 15, 3) := by decide +kernel
theorem qd_Ref_storing_20 : decode qc_Ref_storing 20 = .ok (.aload_n 0, 1) := by decide +kernel
theorem qd_Ref_storing_21 : decode qc_Ref_storing 21 = .ok (.iload_n 1, 1) := by decide +kernel
theorem qd_Ref_storing_22 : decode qc_Ref_storing 22 = .ok (.iconst 5, 1) := by decide +kernel
theorem qd_Ref_storing_23 : decode qc_Ref_storing 23 = .ok (.iadd, 1) := by decide +kernel
theorem qd_Ref_storing_24 : decode qc_Ref_storing 24 = .ok (.invokevirtual 94, 3) := by decide +kernel
theorem qd_Ref_storing_27 : decode qc_Ref_storing 27 = .ok (.bipush 59, 2) := by decide +kernel
theorem qd_Ref_storing_29 : decode qc_Ref_storing 29 = .ok (.if_icmp .eq 5, 3) := by decide +kernel
theorem qd_Ref_storing_32 : decode qc_Ref_storing 32 = .ok (.iconst 0, 1) := by decide +kernel
theorem qd_Ref_storing_33 : decode qc_Ref_storing 33 = .ok (.ireturn, 1) := by decide +kernel
theorem qd_Ref_storing_34 : decode qc_Ref_storing 34 = .ok (.iload_n 3, 1) := by decide +kernel
theorem qd_Ref_storing_35 : decode qc_Ref_storing 35 = .ok (.bipush 110, 2) := by decide +kernel
theorem qd_Ref_storing_37 : decode qc_Ref_storing 37 = .ok (.if_icmp .ne 31, 3) := by decide +kernel
theorem qd_Ref_storing_40 : decode qc_Ref_storing 40 = .ok (.aload_n 0, 1) := by decide +kernel
theorem qd_Ref_storing_41 : decode qc_Ref_storing 41 = .ok (.iload_n 1, 1) := by decide +kernel
theorem qd_Ref_storing_42 : decode qc_Ref_storing 42 = .ok (.iconst 4, 1) := by decide +kernel
theorem qd_Ref_storing_43 : decode qc_Ref_storing 43 = .ok (.iadd, 1) := by decide +kernel
theorem qd_Ref_storing_44 : decode qc_Ref_storing 44 = .ok (.invokevirtual 114, 3) := by decide +kernel
theorem qd_Ref_storing_47 : decode qc_Ref_storing 47 = .ok (.ifCond .lt 21, 3) := by decide +kernel
theorem qd_Ref_storing_50 : decode qc_Ref_storing 50 = .ok (.aload_n 0, 1) := by decide +kernel
theorem qd_Ref_storing_51 : decode qc_Ref_storing 51 = .ok (.bipush 9, 2) := by decide +kernel
theorem qd_Ref_storing_53 : decode qc_Ref_storing 53 = .ok (.iload_n 2, 1) := by decide +kernel
theorem qd_Ref_storing_54 : decode qc_Ref_storing 54 = .ok (.aload_n 0, 1) := by decide +kernel
theorem qd_Ref_storing_55 : decode qc_Ref_storing 55 = .ok (.iload_n 1, 1) := by decide +kernel
theorem qd_Ref_storing_56 : decode qc_Ref_storing 56 = .ok (.iconst 4, 1) := by decide +kernel
theorem qd_Ref_storing_57 : decode qc_Ref_storing 57 = .ok (.iadd, 1) := by decide +kernel
theorem qd_Ref_storing_58 : decode qc_Ref_storing 58 = .ok (.invokevirtual 114, 3) := by decide +kernel
theorem qd_Ref_storing_61 : decode qc_Ref_storing 61 = .ok (.iconst 0, 1) := by decide +kernel
theorem qd_Ref_storing_62 : decode qc_Ref_storing 62 = .ok (.invokevirtual 117, 3) := by decide +kernel
theorem qd_Ref_storing_65 : decode qc_Ref_storing 65 = .ok (.bipush 6, 2) := by decide +kernel
theorem qd_Ref_storing_67 : decode qc_Ref_storing 67 = .ok (.ireturn, 1) := by decide +kernel
theorem qd_Ref_storing_68 : decode qc_Ref_storing 68 = .ok (.aload_n 0, 1) := by decide +kernel
theorem qd_Ref_storing_69 : decode qc_Ref_storing 69 = .ok (.iload_n 1, 1) := by decide +kernel
theorem qd_Ref_storing_70 : decode qc_Ref_storing 70 = .ok (.iconst 4, 1) := by decide +kernel
theorem qd_Ref_storing_71 : decode qc_Ref_storing 71 = .ok (.iadd, 1) := by decide +kernel
theorem qd_Ref_storing_72 : decode qc_Ref_storing 72 = .ok (.invokevirtual 94, 3) := by decide +kernel
theorem qd_Ref_storing_75 : decode qc_Ref_storing 75 = .ok (.bipush 45, 2) := by decide +kernel
theorem qd_Ref_storing_77 : decode qc_Ref_storing 77 = .ok (.if_icmp .ne 7, 3) := by decide +kernel
theorem qd_Ref_storing_80 : decode qc_Ref_storing 80 = .ok (.iconst 1, 1) := by decide +kernel
theorem qd_Ref_storing_81 : decode qc_Ref_storing 81 = .ok (.goto 4, 3) := by decide +kernel
theorem qd_Ref_storing_84 : decode qc_Ref_storing 84 = .ok (.iconst 0, 1) := by decide +kernel
theorem qd_Ref_storing_85 : decode qc_Ref_storing 85 = .ok (.istore 4, 2) := by decide +kernel
theorem qd_Ref_storing_87 : decode qc_Ref_storing 87 = .ok (.iload_n 3, 1) := by decide +kernel
theorem qd_Ref_storing_88 : decode qc_Ref_storing 88 = .ok (.bipush 108, 2) := by decide +kernel
theorem qd_Ref_storing_90 : decode qc_Ref_storing 90 = .ok (.if_icmp .eq 9, 3) := by decide +kernel
theorem qd_Ref_storing_93 : decode qc_Ref_storing 93 = .ok (.iload_n 3, 1) := by decide +kernel
theorem qd_Ref_storing_94 : decode qc_Ref_storing 94 = .ok (.bipush 114, 2) := by decide +kernel
theorem qd_Ref_storing_96 : decode qc_Ref_storing 96 = .ok (.if_icmp .ne 18, 3) := by decide +kernel
theorem qd_Ref_storing_99 : decode qc_Ref_storing 99 = .ok (.iload 4, 2) := by decide +kernel
theorem qd_Ref_storing_101 : decode qc_Ref_storing 101 = .ok (.ifCond .ne 15, 3) := by decide +kernel
theorem qd_Ref_storing_104 : decode qc_Ref_storing 104 = .ok (.aload_n 0, 1) := by decide +kernel
theorem qd_Ref_storing_105 : decode qc_Ref_storing 105 = .ok (.iload_n 1, 1) := by decide +kernel
theorem qd_Ref_storing_106 : decode qc_Ref_storing 106 = .ok (.iconst 4, 1) := by decide +kernel
theorem qd_Ref_storing_107 : decode qc_Ref_storing 107 = .ok (.iadd, 1) := by decide +kernel
theorem qd_Ref_storing_108 : decode qc_Ref_storing 108 = .ok (.invokevirtual 121, 3) := by decide +kernel
theorem qd_Ref_storing_111 : decode qc_Ref_storing 111 = .ok (.ifCond .ge 5, 3) := by decide +kernel
theorem qd_Ref_storing_114 : decode qc_Ref_storing 114 = .ok (.iconst 0, 1) := by decide +kernel
theorem qd_Ref_storing_115 : decode qc_Ref_storing 115 = .ok (.ireturn, 1) := by decide +kernel
theorem qd_Ref_storing_116 : decode qc_Ref_storing 116 = .ok (.aload_n 0, 1) := by decide +kernel
theorem qd_Ref_storing_117 : decode qc_Ref_storing 117 = .ok (.iload 4, 2) := by decide +kernel
theorem qd_Ref_storing_119 : decode qc_Ref_storing 119 = .ok (.ifCond .eq 8, 3) := by decide +kernel
theorem qd_Ref_storing_122 : decode qc_Ref_storing 122 = .ok (.bipush 7, 2) := by decide +kernel
theorem qd_Ref_storing_124 : decode qc_Ref_storing 124 = .ok (.goto 4, 3) := by decide +kernel
theorem qd_Ref_storing_127 : decode qc_Ref_storing 127 = .ok (.iconst 5, 1) := by decide +kernel
theorem qd_Ref_storing_128 : decode qc_Ref_storing 128 = .ok (.iload_n 3, 1) := by decide +kernel
theorem qd_Ref_storing_129 : decode qc_Ref_storing 129 = .ok (.bipush 114, 2) := by decide +kernel
theorem qd_Ref_storing_131 : decode qc_Ref_storing 131 = .ok (.if_icmp .ne 7, 3) := by decide +kernel
theorem qd_Ref_storing_134 : decode qc_Ref_storing 134 = .ok (.iconst 1, 1) := by decide +kernel
theorem qd_Ref_storing_135 : decode qc_Ref_storing 135 = .ok (.goto 4, 3) := by decide +kernel
theorem qd_Ref_storing_138 : decode qc_Ref_storing 138 = .ok (.iconst 0, 1) := by decide +kernel
theorem qd_Ref_storing_139 : decode qc_Ref_storing 139 = .ok (.iadd, 1) := by decide +kernel
theorem qd_Ref_storing_140 : decode qc_Ref_storing 140 = .ok (.iload_n 2, 1) := by decide +kernel
theorem qd_Ref_storing_141 : decode qc_Ref_storing 141 = .ok (.iload 4, 2) := by decide +kernel
theorem qd_Ref_storing_143 : decode qc_Ref_storing 143 = .ok (.ifCond .eq 7, 3) := by decide +kernel
theorem qd_Ref_storing_146 : decode qc_Ref_storing 146 = .ok (.iconst 0, 1) := by decide +kernel
theorem qd_Ref_storing_147 : decode qc_Ref_storing 147 = .ok (.goto 10, 3) := by decide +kernel
theorem qd_Ref_storing_150 : decode qc_Ref_storing 150 = .ok (.aload_n 0, 1) := by decide +kernel
theorem qd_Ref_storing_151 : decode qc_Ref_storing 151 = .ok (.iload_n 1, 1) := by decide +kernel
theorem qd_Ref_storing_152 : decode qc_Ref_storing 152 = .ok (.iconst 4, 1) := by decide +kernel
theorem qd_Ref_storing_153 : decode qc_Ref_storing 153 = .ok (.iadd, 1) := by decide +kernel
theorem qd_Ref_storing_154 : decode qc_Ref_storing 154 = .ok (.invokevirtual 121, 3) := by decide +kernel
theorem qd_Ref_storing_157 : decode qc_Ref_storing 157 = .ok (.iconst 0, 1) := by decide +kernel
theorem qd_Ref_storing_158 : decode qc_Ref_storing 158 = .ok (.invokevirtual 117, 3) := by decide +kernel
theorem qd_Ref_storing_161 : decode qc_Ref_storing 161 = .ok (.bipush 6, 2) := by decide +kernel
theorem qd_Ref_storing_163 : decode qc_Ref_storing 163 = .ok (.ireturn, 1) := by decide +kernel
abbrev qc_Ref_intStatement : ByteArray := prog_9_method_11_code
abbrev qy_Ref_intStatement : MethodName := ⟨"QuietSweepModel", "intStatement", "(I)I"⟩
abbrev ql_Ref_intStatement : Cond := .code qy_Ref_intStatement qc_Ref_intStatement 5 (some .int)
theorem qd_Ref_intStatement_0 : decode qc_Ref_intStatement 0 = .ok (.aload_n 0, 1) := by decide +kernel
theorem qd_Ref_intStatement_1 : decode qc_Ref_intStatement 1 = .ok (.iload_n 1, 1) := by decide +kernel
theorem qd_Ref_intStatement_2 : decode qc_Ref_intStatement 2 = .ok (.invokevirtual 114, 3) := by decide +kernel
theorem qd_Ref_intStatement_5 : decode qc_Ref_intStatement 5 = .ok (.istore_n 2, 1) := by decide +kernel
theorem qd_Ref_intStatement_6 : decode qc_Ref_intStatement 6 = .ok (.iload_n 2, 1) := by decide +kernel
theorem qd_Ref_intStatement_7 : decode qc_Ref_intStatement 7 = .ok (.ifCond .lt 15, 3) := by decide +kernel
theorem qd_Ref_intStatement_10 : decode qc_Ref_intStatement 10 = .ok (.aload_n 0, 1) := by decide +kernel
theorem qd_Ref_intStatement_11 : decode qc_Ref_intStatement 11 = .ok (.iload_n 1, 1) := by decide +kernel
theorem qd_Ref_intStatement_12 : decode qc_Ref_intStatement 12 = .ok (.iconst 1, 1) := by decide +kernel
theorem qd_Ref_intStatement_13 : decode qc_Ref_intStatement 13 = .ok (.iadd, 1) := by decide +kernel
theorem qd_Ref_intStatement_14 : decode qc_Ref_intStatement 14 = .ok (.invokevirtual 94, 3) := by decide +kernel
theorem qd_Ref_intStatement_17 : decode qc_Ref_intStatement 17 = .ok (.bipush 61, 2) := by decide +kernel
theorem qd_Ref_intStatement_19 : decode qc_Ref_intStatement 19 = .ok (.if_icmp .eq 5, 3) := by decide +kernel
theorem qd_Ref_intStatement_22 : decode qc_Ref_intStatement 22 = .ok (.iconst 0, 1) := by decide +kernel
theorem qd_Ref_intStatement_23 : decode qc_Ref_intStatement 23 = .ok (.ireturn, 1) := by decide +kernel
theorem qd_Ref_intStatement_24 : decode qc_Ref_intStatement 24 = .ok (.aload_n 0, 1) := by decide +kernel
theorem qd_Ref_intStatement_25 : decode qc_Ref_intStatement 25 = .ok (.iload_n 1, 1) := by decide +kernel
theorem qd_Ref_intStatement_26 : decode qc_Ref_intStatement 26 = .ok (.iconst 2, 1) := by decide +kernel
theorem qd_Ref_intStatement_27 : decode qc_Ref_intStatement 27 = .ok (.iadd, 1) := by decide +kernel
theorem qd_Ref_intStatement_28 : decode qc_Ref_intStatement 28 = .ok (.invokevirtual 94, 3) := by decide +kernel
theorem qd_Ref_intStatement_31 : decode qc_Ref_intStatement 31 = .ok (.istore_n 3, 1) := by decide +kernel
theorem qd_Ref_intStatement_32 : decode qc_Ref_intStatement 32 = .ok (.iload_n 3, 1) := by decide +kernel
theorem qd_Ref_intStatement_33 : decode qc_Ref_intStatement 33 = .ok (.bipush 48, 2) := by decide +kernel
theorem qd_Ref_intStatement_35 : decode qc_Ref_intStatement 35 = .ok (.if_icmp .lt 35, 3) := by decide +kernel
theorem qd_Ref_intStatement_38 : decode qc_Ref_intStatement 38 = .ok (.iload_n 3, 1) := by decide +kernel
theorem qd_Ref_intStatement_39 : decode qc_Ref_intStatement 39 = .ok (.bipush 57, 2) := by decide +kernel
theorem qd_Ref_intStatement_41 : decode qc_Ref_intStatement 41 = .ok (.if_icmp .gt 29, 3) := by decide +kernel
theorem qd_Ref_intStatement_44 : decode qc_Ref_intStatement 44 = .ok (.aload_n 0, 1) := by decide +kernel
theorem qd_Ref_intStatement_45 : decode qc_Ref_intStatement 45 = .ok (.iload_n 1, 1) := by decide +kernel
theorem qd_Ref_intStatement_46 : decode qc_Ref_intStatement 46 = .ok (.iconst 3, 1) := by decide +kernel
theorem qd_Ref_intStatement_47 : decode qc_Ref_intStatement 47 = .ok (.iadd, 1) := by decide +kernel
theorem qd_Ref_intStatement_48 : decode qc_Ref_intStatement 48 = .ok (.invokevirtual 94, 3) := by decide +kernel
theorem qd_Ref_intStatement_51 : decode qc_Ref_intStatement 51 = .ok (.bipush 59, 2) := by decide +kernel
theorem qd_Ref_intStatement_53 : decode qc_Ref_intStatement 53 = .ok (.if_icmp .ne 17, 3) := by decide +kernel
theorem qd_Ref_intStatement_56 : decode qc_Ref_intStatement 56 = .ok (.aload_n 0, 1) := by decide +kernel
theorem qd_Ref_intStatement_57 : decode qc_Ref_intStatement 57 = .ok (.bipush 10, 2) := by decide +kernel
theorem qd_Ref_intStatement_59 : decode qc_Ref_intStatement 59 = .ok (.iload_n 2, 1) := by decide +kernel
theorem qd_Ref_intStatement_60 : decode qc_Ref_intStatement 60 = .ok (.iconst 0, 1) := by decide +kernel
theorem qd_Ref_intStatement_61 : decode qc_Ref_intStatement 61 = .ok (.iload_n 3, 1) := by decide +kernel
theorem qd_Ref_intStatement_62 : decode qc_Ref_intStatement 62 = .ok (.bipush 48, 2) := by decide +kernel
theorem qd_Ref_intStatement_64 : decode qc_Ref_intStatement 64 = .ok (.isub, 1) := by decide +kernel
theorem qd_Ref_intStatement_65 : decode qc_Ref_intStatement 65 = .ok (.invokevirtual 117, 3) := by decide +kernel
theorem qd_Ref_intStatement_68 : decode qc_Ref_intStatement 68 = .ok (.iconst 4, 1) := by decide +kernel
theorem qd_Ref_intStatement_69 : decode qc_Ref_intStatement 69 = .ok (.ireturn, 1) := by decide +kernel
theorem qd_Ref_intStatement_70 : decode qc_Ref_intStatement 70 = .ok (.aload_n 0, 1) := by decide +kernel
theorem qd_Ref_intStatement_71 : decode qc_Ref_intStatement 71 = .ok (.iload_n 1, 1) := by decide +kernel
theorem qd_Ref_intStatement_72 : decode qc_Ref_intStatement 72 = .ok (.iconst 2, 1) := by decide +kernel
theorem qd_Ref_intStatement_73 : decode qc_Ref_intStatement 73 = .ok (.iadd, 1) := by decide +kernel
theorem qd_Ref_intStatement_74 : decode qc_Ref_intStatement 74 = .ok (.invokevirtual 121, 3) := by decide +kernel
theorem qd_Ref_intStatement_77 : decode qc_Ref_intStatement 77 = .ok (.ifCond .lt 57, 3) := by decide +kernel
theorem qd_Ref_intStatement_80 : decode qc_Ref_intStatement 80 = .ok (.aload_n 0, 1) := by decide +kernel
theorem qd_Ref_intStatement_81 : decode qc_Ref_intStatement 81 = .ok (.iload_n 1, 1) := by decide +kernel
theorem qd_Ref_intStatement_82 : decode qc_Ref_intStatement 82 = .ok (.iconst 3, 1) := by decide +kernel
theorem qd_Ref_intStatement_83 : decode qc_Ref_intStatement 83 = .ok (.iadd, 1) := by decide +kernel
theorem qd_Ref_intStatement_84 : decode qc_Ref_intStatement 84 = .ok (.invokevirtual 94, 3) := by decide +kernel
theorem qd_Ref_intStatement_87 : decode qc_Ref_intStatement 87 = .ok (.bipush 46, 2) := by decide +kernel
theorem qd_Ref_intStatement_89 : decode qc_Ref_intStatement 89 = .ok (.if_icmp .ne 45, 3) := by decide +kernel
theorem qd_Ref_intStatement_92 : decode qc_Ref_intStatement 92 = .ok (.aload_n 0, 1) := by decide +kernel
theorem qd_Ref_intStatement_93 : decode qc_Ref_intStatement 93 = .ok (.iload_n 1, 1) := by decide +kernel
theorem qd_Ref_intStatement_94 : decode qc_Ref_intStatement 94 = .ok (.iconst 4, 1) := by decide +kernel
theorem qd_Ref_intStatement_95 : decode qc_Ref_intStatement 95 = .ok (.iadd, 1) := by decide +kernel
theorem qd_Ref_intStatement_96 : decode qc_Ref_intStatement 96 = .ok (.invokevirtual 94, 3) := by decide +kernel
theorem qd_Ref_intStatement_99 : decode qc_Ref_intStatement 99 = .ok (.bipush 110, 2) := by decide +kernel
theorem qd_Ref_intStatement_101 : decode qc_Ref_intStatement 101 = .ok (.if_icmp .ne 33, 3) := by decide +kernel
theorem qd_Ref_intStatement_104 : decode qc_Ref_intStatement 104 = .ok (.aload_n 0, 1) := by decide +kernel
theorem qd_Ref_intStatement_105 : decode qc_Ref_intStatement 105 = .ok (.iload_n 1, 1) := by decide +kernel
theorem qd_Ref_intStatement_106 : decode qc_Ref_intStatement 106 = .ok (.iconst 5, 1) := by decide +kernel
theorem qd_Ref_intStatement_107 : decode qc_Ref_intStatement 107 = .ok (.iadd, 1) := by decide +kernel
theorem qd_Ref_intStatement_108 : decode qc_Ref_intStatement 108 = .ok (.invokevirtual 94, 3) := by decide +kernel
theorem qd_Ref_intStatement_111 : decode qc_Ref_intStatement 111 = .ok (.bipush 59, 2) := by decide +kernel
theorem qd_Ref_intStatement_113 : decode qc_Ref_intStatement 113 = .ok (.if_icmp .ne 21, 3) := by decide +kernel
theorem qd_Ref_intStatement_116 : decode qc_Ref_intStatement 116 = .ok (.aload_n 0, 1) := by decide +kernel
theorem qd_Ref_intStatement_117 : decode qc_Ref_intStatement 117 = .ok (.bipush 13, 2) := by decide +kernel
theorem qd_Ref_intStatement_119 : decode qc_Ref_intStatement 119 = .ok (.iload_n 2, 1) := by decide +kernel
theorem qd_Ref_intStatement_120 : decode qc_Ref_intStatement 120 = .ok (.aload_n 0, 1) := by decide +kernel
theorem qd_Ref_intStatement_121 : decode qc_Ref_intStatement 121 = .ok (.iload_n 1, 1) := by decide +kernel
theorem qd_Ref_intStatement_122 : decode qc_Ref_intStatement 122 = .ok (.iconst 2, 1) := by decide +kernel
theorem qd_Ref_intStatement_123 : decode qc_Ref_intStatement 123 = .ok (.iadd, 1) := by decide +kernel
theorem qd_Ref_intStatement_124 : decode qc_Ref_intStatement 124 = .ok (.invokevirtual 121, 3) := by decide +kernel
theorem qd_Ref_intStatement_127 : decode qc_Ref_intStatement 127 = .ok (.iconst 0, 1) := by decide +kernel
theorem qd_Ref_intStatement_128 : decode qc_Ref_intStatement 128 = .ok (.invokevirtual 117, 3) := by decide +kernel
theorem qd_Ref_intStatement_131 : decode qc_Ref_intStatement 131 = .ok (.bipush 6, 2) := by decide +kernel
theorem qd_Ref_intStatement_133 : decode qc_Ref_intStatement 133 = .ok (.ireturn, 1) := by decide +kernel
theorem qd_Ref_intStatement_134 : decode qc_Ref_intStatement 134 = .ok (.aload_n 0, 1) := by decide +kernel
theorem qd_Ref_intStatement_135 : decode qc_Ref_intStatement 135 = .ok (.iload_n 1, 1) := by decide +kernel
theorem qd_Ref_intStatement_136 : decode qc_Ref_intStatement 136 = .ok (.iconst 2, 1) := by decide +kernel
theorem qd_Ref_intStatement_137 : decode qc_Ref_intStatement 137 = .ok (.iadd, 1) := by decide +kernel
theorem qd_Ref_intStatement_138 : decode qc_Ref_intStatement 138 = .ok (.invokevirtual 114, 3) := by decide +kernel
theorem qd_Ref_intStatement_141 : decode qc_Ref_intStatement 141 = .ok (.istore 4, 2) := by decide +kernel
theorem qd_Ref_intStatement_143 : decode qc_Ref_intStatement 143 = .ok (.iload 4, 2) := by decide +kernel
theorem qd_Ref_intStatement_145 : decode qc_Ref_intStatement 145 = .ok (.ifCond .lt 27, 3) := by decide +kernel
theorem qd_Ref_intStatement_148 : decode qc_Ref_intStatement 148 = .ok (.aload_n 0, 1) := by decide +kernel
theorem qd_Ref_intStatement_149 : decode qc_Ref_intStatement 149 = .ok (.iload_n 1, 1) := by decide +kernel
theorem qd_Ref_intStatement_150 : decode qc_Ref_intStatement 150 = .ok (.iconst 3, 1) := by decide +kernel
theorem qd_Ref_intStatement_151 : decode qc_Ref_intStatement 151 = .ok (.iadd, 1) := by decide +kernel
theorem qd_Ref_intStatement_152 : decode qc_Ref_intStatement 152 = .ok (.invokevirtual 94, 3) := by decide +kernel
theorem qd_Ref_intStatement_155 : decode qc_Ref_intStatement 155 = .ok (.bipush 59, 2) := by decide +kernel
theorem qd_Ref_intStatement_157 : decode qc_Ref_intStatement 157 = .ok (.if_icmp .ne 15, 3) := by decide +kernel
theorem qd_Ref_intStatement_160 : decode qc_Ref_intStatement 160 = .ok (.aload_n 0, 1) := by decide +kernel
theorem qd_Ref_intStatement_161 : decode qc_Ref_intStatement 161 = .ok (.bipush 11, 2) := by decide +kernel
theorem qd_Ref_intStatement_163 : decode qc_Ref_intStatement 163 = .ok (.iload_n 2, 1) := by decide +kernel
theorem qd_Ref_intStatement_164 : decode qc_Ref_intStatement 164 = .ok (.iload 4, 2) := by decide +kernel
theorem qd_Ref_intStatement_166 : decode qc_Ref_intStatement 166 = .ok (.iconst 0, 1) := by decide +kernel
theorem qd_Ref_intStatement_167 : decode qc_Ref_intStatement 167 = .ok (.invokevirtual 117, 3) := by decide +kernel
theorem qd_Ref_intStatement_170 : decode qc_Ref_intStatement 170 = .ok (.iconst 4, 1) := by decide +kernel
theorem qd_Ref_intStatement_171 : decode qc_Ref_intStatement 171 = .ok (.ireturn, 1) := by decide +kernel
theorem qd_Ref_intStatement_172 : decode qc_Ref_intStatement 172 = .ok (.iload 4, 2) := by decide +kernel
theorem qd_Ref_intStatement_174 : decode qc_Ref_intStatement 174 = .ok (.ifCond .lt 37, 3) := by decide +kernel
theorem qd_Ref_intStatement_177 : decode qc_Ref_intStatement 177 = .ok (.aload_n 0, 1) := by decide +kernel
theorem qd_Ref_intStatement_178 : decode qc_Ref_intStatement 178 = .ok (.iload_n 1, 1) := by decide +kernel
theorem qd_Ref_intStatement_179 : decode qc_Ref_intStatement 179 = .ok (.iconst 3, 1) := by decide +kernel
theorem qd_Ref_intStatement_180 : decode qc_Ref_intStatement 180 = .ok (.iadd, 1) := by decide +kernel
theorem qd_Ref_intStatement_181 : decode qc_Ref_intStatement 181 = .ok (.invokevirtual 94, 3) := by decide +kernel
theorem qd_Ref_intStatement_184 : decode qc_Ref_intStatement 184 = .ok (.bipush 43, 2) := by decide +kernel
theorem qd_Ref_intStatement_186 : decode qc_Ref_intStatement 186 = .ok (.if_icmp .ne 25, 3) := by decide +kernel
theorem qd_Ref_intStatement_189 : decode qc_Ref_intStatement 189 = .ok (.aload_n 0, 1) := by decide +kernel
theorem qd_Ref_intStatement_190 : decode qc_Ref_intStatement 190 = .ok (.iload_n 1, 1) := by decide +kernel
theorem qd_Ref_intStatement_191 : decode qc_Ref_intStatement 191 = .ok (.iconst 4, 1) := by decide +kernel
theorem qd_Ref_intStatement_192 : decode qc_Ref_intStatement 192 = .ok (.iadd, 1) := by decide +kernel
theorem qd_Ref_intStatement_193 : decode qc_Ref_intStatement 193 = .ok (.invokevirtual 114, 3) := by decide +kernel
theorem qd_Ref_intStatement_196 : decode qc_Ref_intStatement 196 = .ok (.ifCond .lt 15, 3) := by decide +kernel
theorem qd_Ref_intStatement_199 : decode qc_Ref_intStatement 199 = .ok (.aload_n 0, 1) := by decide +kernel
theorem qd_Ref_intStatement_200 : decode qc_Ref_intStatement 200 = .ok (.iload_n 1, 1) := by decide +kernel
theorem qd_Ref_intStatement_201 : decode qc_Ref_intStatement 201 = .ok (.iconst 5, 1) := by decide +kernel
theorem qd_Ref_intStatement_202 : decode qc_Ref_intStatement 202 = .ok (.iadd, 1) := by decide +kernel
theorem qd_Ref_intStatement_203 : decode qc_Ref_intStatement 203 = .ok (.invokevirtual 94, 3) := by decide +kernel
theorem qd_Ref_intStatement_206 : decode qc_Ref_intStatement 206 = .ok (.bipush 59, 2) := by decide +kernel
theorem qd_Ref_intStatement_208 : decode qc_Ref_intStatement 208 = .ok (.if_icmp .eq 5, 3) := by decide +kernel
theorem qd_Ref_intStatement_211 : decode qc_Ref_intStatement 211 = .ok (.iconst 0, 1) := by decide +kernel
theorem qd_Ref_intStatement_212 : decode qc_Ref_intStatement 212 = .ok (.ireturn, 1) := by decide +kernel
theorem qd_Ref_intStatement_213 : decode qc_Ref_intStatement 213 = .ok (.aload_n 0, 1) := by decide +kernel
theorem qd_Ref_intStatement_214 : decode qc_Ref_intStatement 214 = .ok (.bipush 12, 2) := by decide +kernel
theorem qd_Ref_intStatement_216 : decode qc_Ref_intStatement 216 = .ok (.iload_n 2, 1) := by decide +kernel
theorem qd_Ref_intStatement_217 : decode qc_Ref_intStatement 217 = .ok (.iload 4, 2) := by decide +kernel
theorem qd_Ref_intStatement_219 : decode qc_Ref_intStatement 219 = .ok (.aload_n 0, 1) := by decide +kernel
theorem qd_Ref_intStatement_220 : decode qc_Ref_intStatement 220 = .ok (.iload_n 1, 1) := by decide +kernel
theorem qd_Ref_intStatement_221 : decode qc_Ref_intStatement 221 = .ok (.iconst 4, 1) := by decide +kernel
theorem qd_Ref_intStatement_222 : decode qc_Ref_intStatement 222 = .ok (.iadd, 1) := by decide +kernel
theorem qd_Ref_intStatement_223 : decode qc_Ref_intStatement 223 = .ok (.invokevirtual 114, 3) := by decide +kernel
theorem qd_Ref_intStatement_226 : decode qc_Ref_intStatement 226 = .ok (.invokevirtual 117, 3) := by decide +kernel
theorem qd_Ref_intStatement_229 : decode qc_Ref_intStatement 229 = .ok (.bipush 6, 2) := by decide +kernel
theorem qd_Ref_intStatement_231 : decode qc_Ref_intStatement 231 = .ok (.ireturn, 1) := by decide +kernel
