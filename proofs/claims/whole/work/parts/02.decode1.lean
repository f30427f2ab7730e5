abbrev qc_Col_init : ByteArray := prog_3_method_1_code
abbrev qy_Col_init : MethodName := ⟨"QuietSweep$Collector", "<init>", "()V"⟩
abbrev ql_Col_init : Cond := .code qy_Col_init qc_Col_init 1 none
theorem qd_Col_init_0 : decode qc_Col_init 0 = .ok (.aload_n 0, 1) := by decide +kernel
theorem qd_Col_init_1 : decode qc_Col_init 1 = .ok (.invokespecial 3, 3) := by decide +kernel
theorem qd_Col_init_4 : decode qc_Col_init 4 = .ok (.aload_n 0, 1) := by decide +kernel
theorem qd_Col_init_5 : decode qc_Col_init 5 = .ok (.iconst 0, 1) := by decide +kernel
theorem qd_Col_init_6 : decode qc_Col_init 6 = .ok (.putfield 11, 3) := by decide +kernel
theorem qd_Col_init_9 : decode qc_Col_init 9 = .ok (.aload_n 0, 1) := by decide +kernel
theorem qd_Col_init_10 : decode qc_Col_init 10 = .ok (.iconst 0, 1) := by decide +kernel
theorem qd_Col_init_11 : decode qc_Col_init 11 = .ok (.putfield 15, 3) := by decide +kernel
theorem qd_Col_init_14 : decode qc_Col_init 14 = .ok (.aload_n 0, 1) := by decide +kernel
theorem qd_Col_init_15 : decode qc_Col_init 15 = .ok (.iconst (-1), 1) := by decide +kernel
theorem qd_Col_init_16 : decode qc_Col_init 16 = .ok (.putfield 18, 3) := by decide +kernel
theorem qd_Col_init_19 : decode qc_Col_init 19 = .ok (.aload_n 0, 1) := by decide +kernel
theorem qd_Col_init_20 : decode qc_Col_init 20 = .ok (.iconst 0, 1) := by decide +kernel
theorem qd_Col_init_21 : decode qc_Col_init 21 = .ok (.putfield 21, 3) := by decide +kernel
theorem qd_Col_init_24 : decode qc_Col_init 24 = .ok (.return_, 1) := by decide +kernel
abbrev qc_Col_asked : ByteArray := prog_3_method_2_code
abbrev qy_Col_asked : MethodName := ⟨"QuietSweep$Collector", "asked", "()I"⟩
abbrev ql_Col_asked : Cond := .code qy_Col_asked qc_Col_asked 1 (some .int)
theorem qd_Col_asked_0 : decode qc_Col_asked 0 = .ok (.aload_n 0, 1) := by decide +kernel
theorem qd_Col_asked_1 : decode qc_Col_asked 1 = .ok (.getfield 11, 3) := by decide +kernel
theorem qd_Col_asked_4 : decode qc_Col_asked 4 = .ok (.iconst 1, 1) := by decide +kernel
theorem qd_Col_asked_5 : decode qc_Col_asked 5 = .ok (.if_icmp .lt 16, 3) := by decide +kernel
theorem qd_Col_asked_8 : decode qc_Col_asked 8 = .ok (.aload_n 0, 1) := by decide +kernel
theorem qd_Col_asked_9 : decode qc_Col_asked 9 = .ok (.getfield 11, 3) := by decide +kernel
theorem qd_Col_asked_12 : decode qc_Col_asked 12 = .ok (.iconst 3, 1) := by decide +kernel
theorem qd_Col_asked_13 : decode qc_Col_asked 13 = .ok (.if_icmp .gt 8, 3) := by decide +kernel
theorem qd_Col_asked_16 : decode qc_Col_asked 16 = .ok (.aload_n 0, 1) := by decide +kernel
theorem qd_Col_asked_17 : decode qc_Col_asked 17 = .ok (.getfield 11, 3) := by decide +kernel
theorem qd_Col_asked_20 : decode qc_Col_asked 20 = .ok (.ireturn, 1) := by decide +kernel
theorem qd_Col_asked_21 : decode qc_Col_asked 21 = .ok (.aload_n 0, 1) := by decide +kernel
theorem qd_Col_asked_22 : decode qc_Col_asked 22 = .ok (.getfield 11, 3) := by decide +kernel
theorem qd_Col_asked_25 : decode qc_Col_asked 25 = .ok (.bipush 6, 2) := by decide +kernel
theorem qd_Col_asked_27 : decode qc_Col_asked 27 = .ok (.if_icmp .ne 7, 3) := by decide +kernel
theorem qd_Col_asked_30 : decode qc_Col_asked 30 = .ok (.iconst 0, 1) := by decide +kernel
theorem qd_Col_asked_31 : decode qc_Col_asked 31 = .ok (.goto 4, 3) := by decide +kernel
theorem qd_Col_asked_34 : decode qc_Col_asked 34 = .ok (.iconst (-1), 1) := by decide +kernel
theorem qd_Col_asked_35 : decode qc_Col_asked 35 = .ok (.ireturn, 1) := by decide +kernel
abbrev qc_Col_doStep : ByteArray := prog_3_method_3_code
abbrev qy_Col_doStep : MethodName := ⟨"QuietSweep$Collector", "doStep", "(LQuietSweep$Memory;[LQuietSweep$Mutator;)Z"⟩
abbrev ql_Col_doStep : Cond := .code qy_Col_doStep qc_Col_doStep 3 (some .boolean)
theorem qd_Col_doStep_0 : decode qc_Col_doStep 0 = .ok (.aload_n 0, 1) := by decide +kernel
theorem qd_Col_doStep_1 : decode qc_Col_doStep 1 = .ok (.getfield 11, 3) := by decide +kernel
theorem qd_Col_doStep_4 : decode qc_Col_doStep 4 = .ok (.lookupswitch 61 #[(0, 36), (4, 47), (5, 54)], 36) := by decide +kernel
theorem qd_Col_doStep_40 : decode qc_Col_doStep 40 = .ok (.aload_n 1, 1) := by decide +kernel
theorem qd_Col_doStep_41 : decode qc_Col_doStep 41 = .ok (.invokevirtual 24, 3) := by decide +kernel
theorem qd_Col_doStep_44 : decode qc_Col_doStep 44 = .ok (.aload_n 0, 1) := by decide +kernel
theorem qd_Col_doStep_45 : decode qc_Col_doStep 45 = .ok (.iconst 1, 1) := by decide +kernel
theorem qd_Col_doStep_46 : decode qc_Col_doStep 46 = .ok (.putfield 11, 3) := by decide +kernel
theorem qd_Col_doStep_49 : decode qc_Col_doStep 49 = .ok (.iconst 1, 1) := by decide +kernel
theorem qd_Col_doStep_50 : decode qc_Col_doStep 50 = .ok (.ireturn, 1) := by decide +kernel
theorem qd_Col_doStep_51 : decode qc_Col_doStep 51 = .ok (.aload_n 0, 1) := by decide +kernel
theorem qd_Col_doStep_52 : decode qc_Col_doStep 52 = .ok (.aload_n 1, 1) := by decide +kernel
theorem qd_Col_doStep_53 : decode qc_Col_doStep 53 = .ok (.invokevirtual 29, 3) := by decide +kernel
theorem qd_Col_doStep_56 : decode qc_Col_doStep 56 = .ok (.iconst 1, 1) := by decide +kernel
theorem qd_Col_doStep_57 : decode qc_Col_doStep 57 = .ok (.ireturn, 1) := by decide +kernel
theorem qd_Col_doStep_58 : decode qc_Col_doStep 58 = .ok (.aload_n 0, 1) := by decide +kernel
theorem qd_Col_doStep_59 : decode qc_Col_doStep 59 = .ok (.aload_n 1, 1) := by decide +kernel
theorem qd_Col_doStep_60 : decode qc_Col_doStep 60 = .ok (.invokevirtual 33, 3) := by decide +kernel
theorem qd_Col_doStep_63 : decode qc_Col_doStep 63 = .ok (.iconst 1, 1) := by decide +kernel
theorem qd_Col_doStep_64 : decode qc_Col_doStep 64 = .ok (.ireturn, 1) := by decide +kernel
theorem qd_Col_doStep_65 : decode qc_Col_doStep 65 = .ok (.aload_n 0, 1) := by decide +kernel
theorem qd_Col_doStep_66 : decode qc_Col_doStep 66 = .ok (.aload_n 2, 1) := by decide +kernel
theorem qd_Col_doStep_67 : decode qc_Col_doStep 67 = .ok (.invokevirtual 36, 3) := by decide +kernel
theorem qd_Col_doStep_70 : decode qc_Col_doStep 70 = .ok (.ireturn, 1) := by decide +kernel
abbrev qc_Col_trace : ByteArray := prog_3_method_5_code
abbrev qy_Col_trace : MethodName := ⟨"QuietSweep$Collector", "trace", "(LQuietSweep$Memory;)V"⟩
abbrev ql_Col_trace : Cond := .code qy_Col_trace qc_Col_trace 2 none
theorem qd_Col_trace_0 : decode qc_Col_trace 0 = .ok (.aload_n 0, 1) := by decide +kernel
theorem qd_Col_trace_1 : decode qc_Col_trace 1 = .ok (.getfield 18, 3) := by decide +kernel
theorem qd_Col_trace_4 : decode qc_Col_trace 4 = .ok (.iconst (-1), 1) := by decide +kernel
theorem qd_Col_trace_5 : decode qc_Col_trace 5 = .ok (.if_icmp .eq 32, 3) := by decide +kernel
theorem qd_Col_trace_8 : decode qc_Col_trace 8 = .ok (.aload_n 1, 1) := by decide +kernel
theorem qd_Col_trace_9 : decode qc_Col_trace 9 = .ok (.aload_n 1, 1) := by decide +kernel
theorem qd_Col_trace_10 : decode qc_Col_trace 10 = .ok (.aload_n 0, 1) := by decide +kernel
theorem qd_Col_trace_11 : decode qc_Col_trace 11 = .ok (.getfield 18, 3) := by decide +kernel
theorem qd_Col_trace_14 : decode qc_Col_trace 14 = .ok (.iconst 1, 1) := by decide +kernel
theorem qd_Col_trace_15 : decode qc_Col_trace 15 = .ok (.invokevirtual 49, 3) := by decide +kernel
theorem qd_Col_trace_18 : decode qc_Col_trace 18 = .ok (.invokevirtual 53, 3) := by decide +kernel
theorem qd_Col_trace_21 : decode qc_Col_trace 21 = .ok (.aload_n 1, 1) := by decide +kernel
theorem qd_Col_trace_22 : decode qc_Col_trace 22 = .ok (.getfield 57, 3) := by decide +kernel
theorem qd_Col_trace_25 : decode qc_Col_trace 25 = .ok (.aload_n 0, 1) := by decide +kernel
theorem qd_Col_trace_26 : decode qc_Col_trace 26 = .ok (.getfield 18, 3) := by decide +kernel
theorem qd_Col_trace_29 : decode qc_Col_trace 29 = .ok (.iconst 3, 1) := by decide +kernel
theorem qd_Col_trace_30 : decode qc_Col_trace 30 = .ok (.iastore, 1) := by decide +kernel
theorem qd_Col_trace_31 : decode qc_Col_trace 31 = .ok (.aload_n 0, 1) := by decide +kernel
theorem qd_Col_trace_32 : decode qc_Col_trace 32 = .ok (.iconst (-1), 1) := by decide +kernel
theorem qd_Col_trace_33 : decode qc_Col_trace 33 = .ok (.putfield 18, 3) := by decide +kernel
theorem qd_Col_trace_36 : decode qc_Col_trace 36 = .ok (.return_, 1) := by decide +kernel
theorem qd_Col_trace_37 : decode qc_Col_trace 37 = .ok (.aload_n 0, 1) := by decide +kernel
theorem qd_Col_trace_38 : decode qc_Col_trace 38 = .ok (.aload_n 1, 1) := by decide +kernel
theorem qd_Col_trace_39 : decode qc_Col_trace 39 = .ok (.iconst 2, 1) := by decide +kernel
theorem qd_Col_trace_40 : decode qc_Col_trace 40 = .ok (.invokevirtual 61, 3) := by decide +kernel
theorem qd_Col_trace_43 : decode qc_Col_trace 43 = .ok (.putfield 18, 3) := by decide +kernel
theorem qd_Col_trace_46 : decode qc_Col_trace 46 = .ok (.aload_n 0, 1) := by decide +kernel
theorem qd_Col_trace_47 : decode qc_Col_trace 47 = .ok (.getfield 18, 3) := by decide +kernel
theorem qd_Col_trace_50 : decode qc_Col_trace 50 = .ok (.iconst (-1), 1) := by decide +kernel
theorem qd_Col_trace_51 : decode qc_Col_trace 51 = .ok (.if_icmp .eq 17, 3) := by decide +kernel
theorem qd_Col_trace_54 : decode qc_Col_trace 54 = .ok (.aload_n 1, 1) := by decide +kernel
theorem qd_Col_trace_55 : decode qc_Col_trace 55 = .ok (.aload_n 1, 1) := by decide +kernel
theorem qd_Col_trace_56 : decode qc_Col_trace 56 = .ok (.aload_n 0, 1) := by decide +kernel
theorem qd_Col_trace_57 : decode qc_Col_trace 57 = .ok (.getfield 18, 3) := by decide +kernel
theorem qd_Col_trace_60 : decode qc_Col_trace 60 = .ok (.iconst 0, 1) := by decide +kernel
theorem qd_Col_trace_61 : decode qc_Col_trace 61 = .ok (.invokevirtual 49, 3) := by decide +kernel
theorem qd_Col_trace_64 : decode qc_Col_trace 64 = .ok (.invokevirtual 53, 3) := by decide +kernel
theorem qd_Col_trace_67 : decode qc_Col_trace 67 = .ok (.return_, 1) := by decide +kernel
theorem qd_Col_trace_68 : decode qc_Col_trace 68 = .ok (.aload_n 0, 1) := by decide +kernel
theorem qd_Col_trace_69 : decode qc_Col_trace 69 = .ok (.iconst 5, 1) := by decide +kernel
theorem qd_Col_trace_70 : decode qc_Col_trace 70 = .ok (.putfield 11, 3) := by decide +kernel
theorem qd_Col_trace_73 : decode qc_Col_trace 73 = .ok (.aload_n 0, 1) := by decide +kernel
theorem qd_Col_trace_74 : decode qc_Col_trace 74 = .ok (.iconst 0, 1) := by decide +kernel
theorem qd_Col_trace_75 : decode qc_Col_trace 75 = .ok (.putfield 21, 3) := by decide +kernel
theorem qd_Col_trace_78 : decode qc_Col_trace 78 = .ok (.return_, 1) := by decide +kernel
abbrev qc_Col_sweep : ByteArray := prog_3_method_6_code
abbrev qy_Col_sweep : MethodName := ⟨"QuietSweep$Collector", "sweep", "(LQuietSweep$Memory;)V"⟩
abbrev ql_Col_sweep : Cond := .code qy_Col_sweep qc_Col_sweep 2 none
theorem qd_Col_sweep_0 : decode qc_Col_sweep 0 = .ok (.aload_n 1, 1) := by decide +kernel
theorem qd_Col_sweep_1 : decode qc_Col_sweep 1 = .ok (.getfield 57, 3) := by decide +kernel
theorem qd_Col_sweep_4 : decode qc_Col_sweep 4 = .ok (.aload_n 0, 1) := by decide +kernel
theorem qd_Col_sweep_5 : decode qc_Col_sweep 5 = .ok (.getfield 21, 3) := by decide +kernel
theorem qd_Col_sweep_8 : decode qc_Col_sweep 8 = .ok (.iaload, 1) := by decide +kernel
theorem qd_Col_sweep_9 : decode qc_Col_sweep 9 = .ok (.iconst 1, 1) := by decide +kernel
theorem qd_Col_sweep_10 : decode qc_Col_sweep 10 = .ok (.if_icmp .ne 13, 3) := by decide +kernel
theorem qd_Col_sweep_13 : decode qc_Col_sweep 13 = .ok (.aload_n 1, 1) := by decide +kernel
theorem qd_Col_sweep_14 : decode qc_Col_sweep 14 = .ok (.getfield 57, 3) := by decide +kernel
theorem qd_Col_sweep_17 : decode qc_Col_sweep 17 = .ok (.aload_n 0, 1) := by decide +kernel
theorem qd_Col_sweep_18 : decode qc_Col_sweep 18 = .ok (.getfield 21, 3) := by decide +kernel
theorem qd_Col_sweep_21 : decode qc_Col_sweep 21 = .ok (.iconst 0, 1) := by decide +kernel
theorem qd_Col_sweep_22 : decode qc_Col_sweep 22 = .ok (.iastore, 1) := by decide +kernel
theorem qd_Col_sweep_23 : decode qc_Col_sweep 23 = .ok (.aload_n 0, 1) := by decide +kernel
theorem qd_Col_sweep_24 : decode qc_Col_sweep 24 = .ok (.dup, 1) := by decide +kernel
theorem qd_Col_sweep_25 : decode qc_Col_sweep 25 = .ok (.getfield 21, 3) := by decide +kernel
theorem qd_Col_sweep_28 : decode qc_Col_sweep 28 = .ok (.iconst 1, 1) := by decide +kernel
theorem qd_Col_sweep_29 : decode qc_Col_sweep 29 = .ok (.iadd, 1) := by decide +kernel
theorem qd_Col_sweep_30 : decode qc_Col_sweep 30 = .ok (.putfield 21, 3) := by decide +kernel
theorem qd_Col_sweep_33 : decode qc_Col_sweep 33 = .ok (.aload_n 0, 1) := by decide +kernel
theorem qd_Col_sweep_34 : decode qc_Col_sweep 34 = .ok (.getfield 21, 3) := by decide +kernel
theorem qd_Col_sweep_37 : decode qc_Col_sweep 37 = .ok (.aload_n 1, 1) := by decide +kernel
theorem qd_Col_sweep_38 : decode qc_Col_sweep 38 = .ok (.getfield 65, 3) := by decide +kernel
theorem qd_Col_sweep_41 : decode qc_Col_sweep 41 = .ok (.if_icmp .lt 9, 3) := by decide +kernel
theorem qd_Col_sweep_44 : decode qc_Col_sweep 44 = .ok (.aload_n 0, 1) := by decide +kernel
theorem qd_Col_sweep_45 : decode qc_Col_sweep 45 = .ok (.bipush 6, 2) := by decide +kernel
theorem qd_Col_sweep_47 : decode qc_Col_sweep 47 = .ok (.putfield 11, 3) := by decide +kernel
theorem qd_Col_sweep_50 : decode qc_Col_sweep 50 = .ok (.return_, 1) := by decide +kernel
abbrev qc_Col_passIfAnswered : ByteArray := prog_3_method_4_code
abbrev qy_Col_passIfAnswered : MethodName := ⟨"QuietSweep$Collector", "passIfAnswered", "([LQuietSweep$Mutator;)Z"⟩
abbrev ql_Col_passIfAnswered : Cond := .code qy_Col_passIfAnswered qc_Col_passIfAnswered 3 (some .boolean)
theorem qd_Col_passIfAnswered_0 : decode qc_Col_passIfAnswered 0 = .ok (.iconst 0, 1) := by decide +kernel
theorem qd_Col_passIfAnswered_1 : decode qc_Col_passIfAnswered 1 = .ok (.istore_n 2, 1) := by decide +kernel
theorem qd_Col_passIfAnswered_2 : decode qc_Col_passIfAnswered 2 = .ok (.iload_n 2, 1) := by decide +kernel
theorem qd_Col_passIfAnswered_3 : decode qc_Col_passIfAnswered 3 = .ok (.iconst 2, 1) := by decide +kernel
theorem qd_Col_passIfAnswered_4 : decode qc_Col_passIfAnswered 4 = .ok (.if_icmp .ge 24, 3) := by decide +kernel
theorem qd_Col_passIfAnswered_7 : decode qc_Col_passIfAnswered 7 = .ok (.aload_n 1, 1) := by decide +kernel
theorem qd_Col_passIfAnswered_8 : decode qc_Col_passIfAnswered 8 = .ok (.iload_n 2, 1) := by decide +kernel
theorem qd_Col_passIfAnswered_9 : decode qc_Col_passIfAnswered 9 = .ok (.aaload, 1) := by decide +kernel
theorem qd_Col_passIfAnswered_10 : decode qc_Col_passIfAnswered 10 = .ok (.getfield 40, 3) := by decide +kernel
theorem qd_Col_passIfAnswered_13 : decode qc_Col_passIfAnswered 13 = .ok (.aload_n 0, 1) := by decide +kernel
theorem qd_Col_passIfAnswered_14 : decode qc_Col_passIfAnswered 14 = .ok (.invokevirtual 45, 3) := by decide +kernel
theorem qd_Col_passIfAnswered_17 : decode qc_Col_passIfAnswered 17 = .ok (.if_icmp .eq 5, 3) := by decide +kernel
theorem qd_Col_passIfAnswered_20 : decode qc_Col_passIfAnswered 20 = .ok (.iconst 0, 1) := by decide +kernel
theorem qd_Col_passIfAnswered_21 : decode qc_Col_passIfAnswered 21 = .ok (.ireturn, 1) := by decide +kernel
theorem qd_Col_passIfAnswered_22 : decode qc_Col_passIfAnswered 22 = .ok (.iinc 2 1, 3) := by decide +kernel
theorem qd_Col_passIfAnswered_25 : decode qc_Col_passIfAnswered 25 = .ok (.goto (-23), 3) := by decide +kernel
theorem qd_Col_passIfAnswered_28 : decode qc_Col_passIfAnswered 28 = .ok (.aload_n 0, 1) := by decide +kernel
theorem qd_Col_passIfAnswered_29 : decode qc_Col_passIfAnswered 29 = .ok (.getfield 11, 3) := by decide +kernel
theorem qd_Col_passIfAnswered_32 : decode qc_Col_passIfAnswered 32 = .ok (.bipush 6, 2) := by decide +kernel
theorem qd_Col_passIfAnswered_34 : decode qc_Col_passIfAnswered 34 = .ok (.if_icmp .ne 21, 3) := by decide +kernel
theorem qd_Col_passIfAnswered_37 : decode qc_Col_passIfAnswered 37 = .ok (.aload_n 0, 1) := by decide +kernel
theorem qd_Col_passIfAnswered_38 : decode qc_Col_passIfAnswered 38 = .ok (.iconst 0, 1) := by decide +kernel
theorem qd_Col_passIfAnswered_39 : decode qc_Col_passIfAnswered 39 = .ok (.putfield 11, 3) := by decide +kernel
theorem qd_Col_passIfAnswered_42 : decode qc_Col_passIfAnswered 42 = .ok (.aload_n 0, 1) := by decide +kernel
theorem qd_Col_passIfAnswered_43 : decode qc_Col_passIfAnswered 43 = .ok (.dup, 1) := by decide +kernel
theorem qd_Col_passIfAnswered_44 : decode qc_Col_passIfAnswered 44 = .ok (.getfield 15, 3) := by decide +kernel
theorem qd_Col_passIfAnswered_47 : decode qc_Col_passIfAnswered 47 = .ok (.iconst 1, 1) := by decide +kernel
theorem qd_Col_passIfAnswered_48 : decode qc_Col_passIfAnswered 48 = .ok (.iadd, 1) := by decide +kernel
theorem qd_Col_passIfAnswered_49 : decode qc_Col_passIfAnswered 49 = .ok (.putfield 15, 3) := by decide +kernel
theorem qd_Col_passIfAnswered_52 : decode qc_Col_passIfAnswered 52 = .ok (.goto 13, 3) := by decide +kernel
theorem qd_Col_passIfAnswered_55 : decode qc_Col_passIfAnswered 55 = .ok (.aload_n 0, 1) := by decide +kernel
theorem qd_Col_passIfAnswered_56 : decode qc_Col_passIfAnswered 56 = .ok (.dup, 1) := by decide +kernel
theorem qd_Col_passIfAnswered_57 : decode qc_Col_passIfAnswered 57 = .ok (.getfield 11, 3) := by decide +kernel
theorem qd_Col_passIfAnswered_60 : decode qc_Col_passIfAnswered 60 = .ok (.iconst 1, 1) := by decide +kernel
theorem qd_Col_passIfAnswered_61 : decode qc_Col_passIfAnswered 61 = .ok (.iadd, 1) := by decide +kernel
theorem qd_Col_passIfAnswered_62 : decode qc_Col_passIfAnswered 62 = .ok (.putfield 11, 3) := by decide +kernel
theorem qd_Col_passIfAnswered_65 : decode qc_Col_passIfAnswered 65 = .ok (.iconst 1, 1) := by decide +kernel
theorem qd_Col_passIfAnswered_66 : decode qc_Col_passIfAnswered 66 = .ok (.ireturn, 1) := by decide +kernel
abbrev qc_Mem_init : ByteArray := prog_4_method_1_code
abbrev qy_Mem_init : MethodName := ⟨"QuietSweep$Memory", "<init>", "(I)V"⟩
abbrev ql_Mem_init : Cond := .code qy_Mem_init qc_Mem_init 3 none
theorem qd_Mem_init_0 : decode qc_Mem_init 0 = .ok (.aload_n 0, 1) := by decide +kernel
theorem qd_Mem_init_1 : decode qc_Mem_init 1 = .ok (.invokespecial 3, 3) := by decide +kernel
theorem qd_Mem_init_4 : decode qc_Mem_init 4 = .ok (.aload_n 0, 1) := by decide +kernel
theorem qd_Mem_init_5 : decode qc_Mem_init 5 = .ok (.iload_n 1, 1) := by decide +kernel
theorem qd_Mem_init_6 : decode qc_Mem_init 6 = .ok (.putfield 9, 3) := by decide +kernel
theorem qd_Mem_init_9 : decode qc_Mem_init 9 = .ok (.aload_n 0, 1) := by decide +kernel
theorem qd_Mem_init_10 : decode qc_Mem_init 10 = .ok (.iload_n 1, 1) := by decide +kernel
theorem qd_Mem_init_11 : decode qc_Mem_init 11 = .ok (.newarray .int, 2) := by decide +kernel
theorem qd_Mem_init_13 : decode qc_Mem_init 13 = .ok (.putfield 15, 3) := by decide +kernel
theorem qd_Mem_init_16 : decode qc_Mem_init 16 = .ok (.aload_n 0, 1) := by decide +kernel
theorem qd_Mem_init_17 : decode qc_Mem_init 17 = .ok (.iconst 3, 1) := by decide +kernel
theorem qd_Mem_init_18 : decode qc_Mem_init 18 = .ok (.iload_n 1, 1) := by decide +kernel
theorem qd_Mem_init_19 : decode qc_Mem_init 19 = .ok (.imul, 1) := by decide +kernel
theorem qd_Mem_init_20 : decode qc_Mem_init 20 = .ok (.newarray .int, 2) := by decide +kernel
theorem qd_Mem_init_22 : decode qc_Mem_init 22 = .ok (.putfield 19, 3) := by decide +kernel
theorem qd_Mem_init_25 : decode qc_Mem_init 25 = .ok (.iconst 0, 1) := by decide +kernel
theorem qd_Mem_init_26 : decode qc_Mem_init 26 = .ok (.istore_n 2, 1) := by decide +kernel
theorem qd_Mem_init_27 : decode qc_Mem_init 27 = .ok (.iload_n 2, 1) := by decide +kernel
theorem qd_Mem_init_28 : decode qc_Mem_init 28 = .ok (.iload_n 1, 1) := by decide +kernel
theorem qd_Mem_init_29 : decode qc_Mem_init 29 = .ok (.if_icmp .ge 14, 3) := by decide +kernel
theorem qd_Mem_init_32 : decode qc_Mem_init 32 = .ok (.aload_n 0, 1) := by decide +kernel
theorem qd_Mem_init_33 : decode qc_Mem_init 33 = .ok (.iload_n 2, 1) := by decide +kernel
theorem qd_Mem_init_34 : decode qc_Mem_init 34 = .ok (.invokevirtual 22, 3) := by decide +kernel
theorem qd_Mem_init_37 : decode qc_Mem_init 37 = .ok (.iinc 2 1, 3) := by decide +kernel
theorem qd_Mem_init_40 : decode qc_Mem_init 40 = .ok (.goto (-13), 3) := by decide +kernel
theorem qd_Mem_init_43 : decode qc_Mem_init 43 = .ok (.return_, 1) := by decide +kernel
abbrev qc_Mem_blank : ByteArray := prog_4_method_11_code
abbrev qy_Mem_blank : MethodName := ⟨"QuietSweep$Memory", "blank", "(I)V"⟩
abbrev ql_Mem_blank : Cond := .code qy_Mem_blank qc_Mem_blank 2 none
theorem qd_Mem_blank_0 : decode qc_Mem_blank 0 = .ok (.aload_n 0, 1) := by decide +kernel
theorem qd_Mem_blank_1 : decode qc_Mem_blank 1 = .ok (.iload_n 1, 1) := by decide +kernel
theorem qd_Mem_blank_2 : decode qc_Mem_blank 2 = .ok (.iconst 0, 1) := by decide +kernel
theorem qd_Mem_blank_3 : decode qc_Mem_blank 3 = .ok (.iconst (-1), 1) := by decide +kernel
theorem qd_Mem_blank_4 : decode qc_Mem_blank 4 = .ok (.invokevirtual 37, 3) := by decide +kernel
theorem qd_Mem_blank_7 : decode qc_Mem_blank 7 = .ok (.aload_n 0, 1) := by decide +kernel
theorem qd_Mem_blank_8 : decode qc_Mem_blank 8 = .ok (.iload_n 1, 1) := by decide +kernel
theorem qd_Mem_blank_9 : decode qc_Mem_blank 9 = .ok (.iconst 1, 1) := by decide +kernel
theorem qd_Mem_blank_10 : decode qc_Mem_blank 10 = .ok (.iconst (-1), 1) := by decide +kernel
theorem qd_Mem_blank_11 : decode qc_Mem_blank 11 = .ok (.invokevirtual 37, 3) := by decide +kernel
theorem qd_Mem_blank_14 : decode qc_Mem_blank 14 = .ok (.aload_n 0, 1) := by decide +kernel
theorem qd_Mem_blank_15 : decode qc_Mem_blank 15 = .ok (.iload_n 1, 1) := by decide +kernel
theorem qd_Mem_blank_16 : decode qc_Mem_blank 16 = .ok (.iconst 2, 1) := by decide +kernel
theorem qd_Mem_blank_17 : decode qc_Mem_blank 17 = .ok (.iconst 0, 1) := by decide +kernel
theorem qd_Mem_blank_18 : decode qc_Mem_blank 18 = .ok (.invokevirtual 37, 3) := by decide +kernel
theorem qd_Mem_blank_21 : decode qc_Mem_blank 21 = .ok (.return_, 1) := by decide +kernel
abbrev qc_Mem_put : ByteArray := prog_4_method_4_code
abbrev qy_Mem_put : MethodName := ⟨"QuietSweep$Memory", "put", "(III)V"⟩
abbrev ql_Mem_put : Cond := .code qy_Mem_put qc_Mem_put 4 none
theorem qd_Mem_put_0 : decode qc_Mem_put 0 = .ok (.aload_n 0, 1) := by decide +kernel
theorem qd_Mem_put_1 : decode qc_Mem_put 1 = .ok (.getfield 19, 3) := by decide +kernel
theorem qd_Mem_put_4 : decode qc_Mem_put 4 = .ok (.iconst 3, 1) := by decide +kernel
theorem qd_Mem_put_5 : decode qc_Mem_put 5 = .ok (.iload_n 1, 1) := by decide +kernel
theorem qd_Mem_put_6 : decode qc_Mem_put 6 = .ok (.imul, 1) := by decide +kernel
theorem qd_Mem_put_7 : decode qc_Mem_put 7 = .ok (.iload_n 2, 1) := by decide +kernel
theorem qd_Mem_put_8 : decode qc_Mem_put 8 = .ok (.iadd, 1) := by decide +kernel
theorem qd_Mem_put_9 : decode qc_Mem_put 9 = .ok (.iload_n 3, 1) := by decide +kernel
theorem qd_Mem_put_10 : decode qc_Mem_put 10 = .ok (.iastore, 1) := by decide +kernel
theorem qd_Mem_put_11 : decode qc_Mem_put 11 = .ok (.return_, 1) := by decide +kernel
abbrev qc_Mem_read : ByteArray := prog_4_method_3_code
abbrev qy_Mem_read : MethodName := ⟨"QuietSweep$Memory", "read", "(II)I"⟩
abbrev ql_Mem_read : Cond := .code qy_Mem_read qc_Mem_read 3 (some .int)
theorem qd_Mem_read_0 : decode qc_Mem_read 0 = .ok (.aload_n 0, 1) := by decide +kernel
theorem qd_Mem_read_1 : decode qc_Mem_read 1 = .ok (.getfield 19, 3) := by decide +kernel
theorem qd_Mem_read_4 : decode qc_Mem_read 4 = .ok (.iconst 3, 1) := by decide +kernel
theorem qd_Mem_read_5 : decode qc_Mem_read 5 = .ok (.iload_n 1, 1) := by decide +kernel
theorem qd_Mem_read_6 : decode qc_Mem_read 6 = .ok (.imul, 1) := by decide +kernel
theorem qd_Mem_read_7 : decode qc_Mem_read 7 = .ok (.iload_n 2, 1) := by decide +kernel
theorem qd_Mem_read_8 : decode qc_Mem_read 8 = .ok (.iadd, 1) := by decide +kernel
theorem qd_Mem_read_9 : decode qc_Mem_read 9 = .ok (.iaload, 1) := by decide +kernel
theorem qd_Mem_read_10 : decode qc_Mem_read 10 = .ok (.ireturn, 1) := by decide +kernel
abbrev qc_Mem_takeFree : ByteArray := prog_4_method_6_code
abbrev qy_Mem_takeFree : MethodName := ⟨"QuietSweep$Memory", "takeFree", "(I)I"⟩
abbrev ql_Mem_takeFree : Cond := .code qy_Mem_takeFree qc_Mem_takeFree 3 (some .int)
theorem qd_Mem_takeFree_0 : decode qc_Mem_takeFree 0 = .ok (.aload_n 0, 1) := by decide +kernel
theorem qd_Mem_takeFree_1 : decode qc_Mem_takeFree 1 = .ok (.iconst 0, 1) := by decide +kernel
theorem qd_Mem_takeFree_2 : decode qc_Mem_takeFree 2 = .ok (.invokevirtual 26, 3) := by decide +kernel
theorem qd_Mem_takeFree_5 : decode qc_Mem_takeFree 5 = .ok (.istore_n 2, 1) := by decide +kernel
theorem qd_Mem_takeFree_6 : decode qc_Mem_takeFree 6 = .ok (.iload_n 2, 1) := by decide +kernel
theorem qd_Mem_takeFree_7 : decode qc_Mem_takeFree 7 = .ok (.iconst (-1), 1) := by decide +kernel
theorem qd_Mem_takeFree_8 : decode qc_Mem_takeFree 8 = .ok (.if_icmp .eq 15, 3) := by decide +kernel
theorem qd_Mem_takeFree_11 : decode qc_Mem_takeFree 11 = .ok (.aload_n 0, 1) := by decide +kernel
theorem qd_Mem_takeFree_12 : decode qc_Mem_takeFree 12 = .ok (.getfield 15, 3) := by decide +kernel
theorem qd_Mem_takeFree_15 : decode qc_Mem_takeFree 15 = .ok (.iload_n 2, 1) := by decide +kernel
theorem qd_Mem_takeFree_16 : decode qc_Mem_takeFree 16 = .ok (.iload_n 1, 1) := by decide +kernel
theorem qd_Mem_takeFree_17 : decode qc_Mem_takeFree 17 = .ok (.iastore, 1) := by decide +kernel
theorem qd_Mem_takeFree_18 : decode qc_Mem_takeFree 18 = .ok (.aload_n 0, 1) := by decide +kernel
theorem qd_Mem_takeFree_19 : decode qc_Mem_takeFree 19 = .ok (.iload_n 2, 1) := by decide +kernel
theorem qd_Mem_takeFree_20 : decode qc_Mem_takeFree 20 = .ok (.invokevirtual 22, 3) := by decide +kernel
theorem qd_Mem_takeFree_23 : decode qc_Mem_takeFree 23 = .ok (.iload_n 2, 1) := by decide +kernel
theorem qd_Mem_takeFree_24 : decode qc_Mem_takeFree 24 = .ok (.ireturn, 1) := by decide +kernel
abbrev qc_Mem_leastOf : ByteArray := prog_4_method_7_code
abbrev qy_Mem_leastOf : MethodName := ⟨"QuietSweep$Memory", "leastOf", "(I)I"⟩
abbrev ql_Mem_leastOf : Cond := .code qy_Mem_leastOf qc_Mem_leastOf 3 (some .int)
theorem qd_Mem_leastOf_0 : decode qc_Mem_leastOf 0 = .ok (.iconst 0, 1) := by decide +kernel
theorem qd_Mem_leastOf_1 : decode qc_Mem_leastOf 1 = .ok (.istore_n 2, 1) := by decide +kernel
theorem qd_Mem_leastOf_2 : decode qc_Mem_leastOf 2 = .ok (.iload_n 2, 1) := by decide +kernel
theorem qd_Mem_leastOf_3 : decode qc_Mem_leastOf 3 = .ok (.aload_n 0, 1) := by decide +kernel
theorem qd_Mem_leastOf_4 : decode qc_Mem_leastOf 4 = .ok (.getfield 9, 3) := by decide +kernel
theorem qd_Mem_leastOf_7 : decode qc_Mem_leastOf 7 = .ok (.if_icmp .ge 21, 3) := by decide +kernel
theorem qd_Mem_leastOf_10 : decode qc_Mem_leastOf 10 = .ok (.aload_n 0, 1) := by decide +kernel
theorem qd_Mem_leastOf_11 : decode qc_Mem_leastOf 11 = .ok (.getfield 15, 3) := by decide +kernel
theorem qd_Mem_leastOf_14 : decode qc_Mem_leastOf 14 = .ok (.iload_n 2, 1) := by decide +kernel
theorem qd_Mem_leastOf_15 : decode qc_Mem_leastOf 15 = .ok (.iaload, 1) := by decide +kernel
theorem qd_Mem_leastOf_16 : decode qc_Mem_leastOf 16 = .ok (.iload_n 1, 1) := by decide +kernel
theorem qd_Mem_leastOf_17 : decode qc_Mem_leastOf 17 = .ok (.if_icmp .ne 5, 3) := by decide +kernel
theorem qd_Mem_leastOf_20 : decode qc_Mem_leastOf 20 = .ok (.iload_n 2, 1) := by decide +kernel
theorem qd_Mem_leastOf_21 : decode qc_Mem_leastOf 21 = .ok (.ireturn, 1) := by decide +kernel
theorem qd_Mem_leastOf_22 : decode qc_Mem_leastOf 22 = .ok (.iinc 2 1, 3) := by decide +kernel
theorem qd_Mem_leastOf_25 : decode qc_Mem_leastOf 25 = .ok (.goto (-23), 3) := by decide +kernel
theorem qd_Mem_leastOf_28 : decode qc_Mem_leastOf 28 = .ok (.iconst (-1), 1) := by decide +kernel
theorem qd_Mem_leastOf_29 : decode qc_Mem_leastOf 29 = .ok (.ireturn, 1) := by decide +kernel
abbrev qc_Mem_mark : ByteArray := prog_4_method_5_code
abbrev qy_Mem_mark : MethodName := ⟨"QuietSweep$Memory", "mark", "(I)V"⟩
abbrev ql_Mem_mark : Cond := .code qy_Mem_mark qc_Mem_mark 2 none
theorem qd_Mem_mark_0 : decode qc_Mem_mark 0 = .ok (.iload_n 1, 1) := by decide +kernel
theorem qd_Mem_mark_1 : decode qc_Mem_mark 1 = .ok (.iconst (-1), 1) := by decide +kernel
theorem qd_Mem_mark_2 : decode qc_Mem_mark 2 = .ok (.if_icmp .eq 20, 3) := by decide +kernel
theorem qd_Mem_mark_5 : decode qc_Mem_mark 5 = .ok (.aload_n 0, 1) := by decide +kernel
theorem qd_Mem_mark_6 : decode qc_Mem_mark 6 = .ok (.getfield 15, 3) := by decide +kernel
theorem qd_Mem_mark_9 : decode qc_Mem_mark 9 = .ok (.iload_n 1, 1) := by decide +kernel
theorem qd_Mem_mark_10 : decode qc_Mem_mark 10 = .ok (.iaload, 1) := by decide +kernel
theorem qd_Mem_mark_11 : decode qc_Mem_mark 11 = .ok (.iconst 1, 1) := by decide +kernel
theorem qd_Mem_mark_12 : decode qc_Mem_mark 12 = .ok (.if_icmp .ne 10, 3) := by decide +kernel
theorem qd_Mem_mark_15 : decode qc_Mem_mark 15 = .ok (.aload_n 0, 1) := by decide +kernel
theorem qd_Mem_mark_16 : decode qc_Mem_mark 16 = .ok (.getfield 15, 3) := by decide +kernel
theorem qd_Mem_mark_19 : decode qc_Mem_mark 19 = .ok (.iload_n 1, 1) := by decide +kernel
theorem qd_Mem_mark_20 : decode qc_Mem_mark 20 = .ok (.iconst 2, 1) := by decide +kernel
theorem qd_Mem_mark_21 : decode qc_Mem_mark 21 = .ok (.iastore, 1) := by decide +kernel
theorem qd_Mem_mark_22 : decode qc_Mem_mark 22 = .ok (.return_, 1) := by decide +kernel
abbrev qc_Mem_whitenUsed : ByteArray := prog_4_method_9_code
abbrev qy_Mem_whitenUsed : MethodName := ⟨"QuietSweep$Memory", "whitenUsed", "()V"⟩
abbrev ql_Mem_whitenUsed : Cond := .code qy_Mem_whitenUsed qc_Mem_whitenUsed 2 none
theorem qd_Mem_whitenUsed_0 : decode qc_Mem_whitenUsed 0 = .ok (.iconst 0, 1) := by decide +kernel
theorem qd_Mem_whitenUsed_1 : decode qc_Mem_whitenUsed 1 = .ok (.istore_n 1, 1) := by decide +kernel
theorem qd_Mem_whitenUsed_2 : decode qc_Mem_whitenUsed 2 = .ok (.iload_n 1, 1) := by decide +kernel
theorem qd_Mem_whitenUsed_3 : decode qc_Mem_whitenUsed 3 = .ok (.aload_n 0, 1) := by decide +kernel
theorem qd_Mem_whitenUsed_4 : decode qc_Mem_whitenUsed 4 = .ok (.getfield 9, 3) := by decide +kernel
theorem qd_Mem_whitenUsed_7 : decode qc_Mem_whitenUsed 7 = .ok (.if_icmp .ge 25, 3) := by decide +kernel
theorem qd_Mem_whitenUsed_10 : decode qc_Mem_whitenUsed 10 = .ok (.aload_n 0, 1) := by decide +kernel
theorem qd_Mem_whitenUsed_11 : decode qc_Mem_whitenUsed 11 = .ok (.getfield 15, 3) := by decide +kernel
theorem qd_Mem_whitenUsed_14 : decode qc_Mem_whitenUsed 14 = .ok (.iload_n 1, 1) := by decide +kernel
theorem qd_Mem_whitenUsed_15 : decode qc_Mem_whitenUsed 15 = .ok (.iaload, 1) := by decide +kernel
theorem qd_Mem_whitenUsed_16 : decode qc_Mem_whitenUsed 16 = .ok (.ifCond .eq 10, 3) := by decide +kernel
theorem qd_Mem_whitenUsed_19 : decode qc_Mem_whitenUsed 19 = .ok (.aload_n 0, 1) := by decide +kernel
theorem qd_Mem_whitenUsed_20 : decode qc_Mem_whitenUsed 20 = .ok (.getfield 15, 3) := by decide +kernel
theorem qd_Mem_whitenUsed_23 : decode qc_Mem_whitenUsed 23 = .ok (.iload_n 1, 1) := by decide +kernel
theorem qd_Mem_whitenUsed_24 : decode qc_Mem_whitenUsed 24 = .ok (.iconst 1, 1) := by decide +kernel
theorem qd_Mem_whitenUsed_25 : decode qc_Mem_whitenUsed 25 = .ok (.iastore, 1) := by decide +kernel
theorem qd_Mem_whitenUsed_26 : decode qc_Mem_whitenUsed 26 = .ok (.iinc 1 1, 3) := by decide +kernel
theorem qd_Mem_whitenUsed_29 : decode qc_Mem_whitenUsed 29 = .ok (.goto (-27), 3) := by decide +kernel
theorem qd_Mem_whitenUsed_32 : decode qc_Mem_whitenUsed 32 = .ok (.return_, 1) := by decide +kernel
abbrev qc_Mem_isCell : ByteArray := prog_4_method_2_code
abbrev qy_Mem_isCell : MethodName := ⟨"QuietSweep$Memory", "isCell", "(I)Z"⟩
abbrev ql_Mem_isCell : Cond := .code qy_Mem_isCell qc_Mem_isCell 2 (some .boolean)
theorem qd_Mem_isCell_0 : decode qc_Mem_isCell 0 = .ok (.iload_n 1, 1) := by decide +kernel
theorem qd_Mem_isCell_1 : decode qc_Mem_isCell 1 = .ok (.ifCond .lt 15, 3) := by decide +kernel
theorem qd_Mem_isCell_4 : decode qc_Mem_isCell 4 = .ok (.iload_n 1, 1) := by decide +kernel
theorem qd_Mem_isCell_5 : decode qc_Mem_isCell 5 = .ok (.aload_n 0, 1) := by decide +kernel
theorem qd_Mem_isCell_6 : decode qc_Mem_isCell 6 = .ok (.getfield 9, 3) := by decide +kernel
theorem qd_Mem_isCell_9 : decode qc_Mem_isCell 9 = .ok (.if_icmp .ge 7, 3) := by decide +kernel
theorem qd_Mem_isCell_12 : decode qc_Mem_isCell 12 = .ok (.iconst 1, 1) := by decide +kernel
theorem qd_Mem_isCell_13 : decode qc_Mem_isCell 13 = .ok (.goto 4, 3) := by decide +kernel
theorem qd_Mem_isCell_16 : decode qc_Mem_isCell 16 = .ok (.iconst 0, 1) := by decide +kernel
theorem qd_Mem_isCell_17 : decode qc_Mem_isCell 17 = .ok (.ireturn, 1) := by decide +kernel
abbrev qc_Mem_countOf : ByteArray := prog_4_method_8_code
abbrev qy_Mem_countOf : MethodName := ⟨"QuietSweep$Memory", "countOf", "(I)I"⟩
abbrev ql_Mem_countOf : Cond := .code qy_Mem_countOf qc_Mem_countOf 4 (some .int)
theorem qd_Mem_countOf_0 : decode qc_Mem_countOf 0 = .ok (.iconst 0, 1) := by decide +kernel
theorem qd_Mem_countOf_1 : decode qc_Mem_countOf 1 = .ok (.istore_n 2, 1) := by decide +kernel
theorem qd_Mem_countOf_2 : decode qc_Mem_countOf 2 = .ok (.iconst 0, 1) := by decide +kernel
theorem qd_Mem_countOf_3 : decode qc_Mem_countOf 3 = .ok (.istore_n 3, 1) := by decide +kernel
theorem qd_Mem_countOf_4 : decode qc_Mem_countOf 4 = .ok (.iload_n 3, 1) := by decide +kernel
theorem qd_Mem_countOf_5 : decode qc_Mem_countOf 5 = .ok (.aload_n 0, 1) := by decide +kernel
theorem qd_Mem_countOf_6 : decode qc_Mem_countOf 6 = .ok (.getfield 9, 3) := by decide +kernel
theorem qd_Mem_countOf_9 : decode qc_Mem_countOf 9 = .ok (.if_icmp .ge 22, 3) := by decide +kernel
theorem qd_Mem_countOf_12 : decode qc_Mem_countOf 12 = .ok (.aload_n 0, 1) := by decide +kernel
theorem qd_Mem_countOf_13 : decode qc_Mem_countOf 13 = .ok (.getfield 15, 3) := by decide +kernel
theorem qd_Mem_countOf_16 : decode qc_Mem_countOf 16 = .ok (.iload_n 3, 1) := by decide +kernel
theorem qd_Mem_countOf_17 : decode qc_Mem_countOf 17 = .ok (.iaload, 1) := by decide +kernel
theorem qd_Mem_countOf_18 : decode qc_Mem_countOf 18 = .ok (.iload_n 1, 1) := by decide +kernel
theorem qd_Mem_countOf_19 : decode qc_Mem_countOf 19 = .ok (.if_icmp .ne 6, 3) := by decide +kernel
theorem qd_Mem_countOf_22 : decode qc_Mem_countOf 22 = .ok (.iinc 2 1, 3) := by decide +kernel
theorem qd_Mem_countOf_25 : decode qc_Mem_countOf 25 = .ok (.iinc 3 1, 3) := by decide +kernel
theorem qd_Mem_countOf_28 : decode qc_Mem_countOf 28 = .ok (.goto (-24), 3) := by decide +kernel
theorem qd_Mem_countOf_31 : decode qc_Mem_countOf 31 = .ok (.iload_n 2, 1) := by decide +kernel
theorem qd_Mem_countOf_32 : decode qc_Mem_countOf 32 = .ok (.ireturn, 1) := by decide +kernel
abbrev qc_Mem_closure : ByteArray := prog_4_method_10_code
abbrev qy_Mem_closure : MethodName := ⟨"QuietSweep$Memory", "closure", "(I)I"⟩
abbrev ql_Mem_closure : Cond := .code qy_Mem_closure qc_Mem_closure 5 (some .int)
theorem qd_Mem_closure_0 : decode qc_Mem_closure 0 = .ok (.iload_n 1, 1) := by decide +kernel
theorem qd_Mem_closure_1 : decode qc_Mem_closure 1 = .ok (.istore_n 2, 1) := by decide +kernel
theorem qd_Mem_closure_2 : decode qc_Mem_closure 2 = .ok (.iconst 0, 1) := by decide +kernel
theorem qd_Mem_closure_3 : decode qc_Mem_closure 3 = .ok (.istore_n 3, 1) := by decide +kernel
theorem qd_Mem_closure_4 : decode qc_Mem_closure 4 = .ok (.iload_n 3, 1) := by decide +kernel
theorem qd_Mem_closure_5 : decode qc_Mem_closure 5 = .ok (.aload_n 0, 1) := by decide +kernel
theorem qd_Mem_closure_6 : decode qc_Mem_closure 6 = .ok (.getfield 9, 3) := by decide +kernel
theorem qd_Mem_closure_9 : decode qc_Mem_closure 9 = .ok (.if_icmp .ge 61, 3) := by decide +kernel
theorem qd_Mem_closure_12 : decode qc_Mem_closure 12 = .ok (.iconst 0, 1) := by decide +kernel
theorem qd_Mem_closure_13 : decode qc_Mem_closure 13 = .ok (.istore 4, 2) := by decide +kernel
theorem qd_Mem_closure_15 : decode qc_Mem_closure 15 = .ok (.iload 4, 2) := by decide +kernel
theorem qd_Mem_closure_17 : decode qc_Mem_closure 17 = .ok (.aload_n 0, 1) := by decide +kernel
theorem qd_Mem_closure_18 : decode qc_Mem_closure 18 = .ok (.getfield 9, 3) := by decide +kernel
theorem qd_Mem_closure_21 : decode qc_Mem_closure 21 = .ok (.if_icmp .ge 43, 3) := by decide +kernel
theorem qd_Mem_closure_24 : decode qc_Mem_closure 24 = .ok (.iload_n 2, 1) := by decide +kernel
theorem qd_Mem_closure_25 : decode qc_Mem_closure 25 = .ok (.iload 4, 2) := by decide +kernel
theorem qd_Mem_closure_27 : decode qc_Mem_closure 27 = .ok (.ishr, 1) := by decide +kernel
theorem qd_Mem_closure_28 : decode qc_Mem_closure 28 = .ok (.iconst 1, 1) := by decide +kernel
theorem qd_Mem_closure_29 : decode qc_Mem_closure 29 = .ok (.iand, 1) := by decide +kernel
theorem qd_Mem_closure_30 : decode qc_Mem_closure 30 = .ok (.iconst 1, 1) := by decide +kernel
theorem qd_Mem_closure_31 : decode qc_Mem_closure 31 = .ok (.if_icmp .ne 27, 3) := by decide +kernel
theorem qd_Mem_closure_34 : decode qc_Mem_closure 34 = .ok (.iload_n 2, 1) := by decide +kernel
theorem qd_Mem_closure_35 : decode qc_Mem_closure 35 = .ok (.aload_n 0, 1) := by decide +kernel
theorem qd_Mem_closure_36 : decode qc_Mem_closure 36 = .ok (.iload 4, 2) := by decide +kernel
theorem qd_Mem_closure_38 : decode qc_Mem_closure 38 = .ok (.iconst 0, 1) := by decide +kernel
theorem qd_Mem_closure_39 : decode qc_Mem_closure 39 = .ok (.invokevirtual 30, 3) := by decide +kernel
theorem qd_Mem_closure_42 : decode qc_Mem_closure 42 = .ok (.invokestatic 34, 3) := by decide +kernel
theorem qd_Mem_closure_45 : decode qc_Mem_closure 45 = .ok (.aload_n 0, 1) := by decide +kernel
theorem qd_Mem_closure_46 : decode qc_Mem_closure 46 = .ok (.iload 4, 2) := by decide +kernel
theorem qd_Mem_closure_48 : decode qc_Mem_closure 48 = .ok (.iconst 1, 1) := by decide +kernel
theorem qd_Mem_closure_49 : decode qc_Mem_closure 49 = .ok (.invokevirtual 30, 3) := by decide +kernel
theorem qd_Mem_closure_52 : decode qc_Mem_closure 52 = .ok (.invokestatic 34, 3) := by decide +kernel
theorem qd_Mem_closure_55 : decode qc_Mem_closure 55 = .ok (.ior, 1) := by decide +kernel
theorem qd_Mem_closure_56 : decode qc_Mem_closure 56 = .ok (.ior, 1) := by decide +kernel
theorem qd_Mem_closure_57 : decode qc_Mem_closure 57 = .ok (.istore_n 2, 1) := by decide +kernel
theorem qd_Mem_closure_58 : decode qc_Mem_closure 58 = .ok (.iinc 4 1, 3) := by decide +kernel
theorem qd_Mem_closure_61 : decode qc_Mem_closure 61 = .ok (.goto (-46), 3) := by decide +kernel
theorem qd_Mem_closure_64 : decode qc_Mem_closure 64 = .ok (.iinc 3 1, 3) := by decide +kernel
theorem qd_Mem_closure_67 : decode qc_Mem_closure 67 = .ok (.goto (-63), 3) := by decide +kernel
theorem qd_Mem_closure_70 : decode qc_Mem_closure 70 = .ok (.iload_n 2, 1) := by decide +kernel
theorem qd_Mem_closure_71 : decode qc_Mem_closure 71 = .ok (.ireturn, 1) := by decide +kernel
abbrev qc_Mut_init : ByteArray := prog_5_method_1_code
abbrev qy_Mut_init : MethodName := ⟨"QuietSweep$Mutator", "<init>", "()V"⟩
abbrev ql_Mut_init : Cond := .code qy_Mut_init qc_Mut_init 1 none
theorem qd_Mut_init_0 : decode qc_Mut_init 0 = .ok (.aload_n 0, 1) := by decide +kernel
theorem qd_Mut_init_1 : decode qc_Mut_init 1 = .ok (.invokespecial 3, 3) := by decide +kernel
theorem qd_Mut_init_4 : decode qc_Mut_init 4 = .ok (.aload_n 0, 1) := by decide +kernel
theorem qd_Mut_init_5 : decode qc_Mut_init 5 = .ok (.bipush 60, 2) := by decide +kernel
theorem qd_Mut_init_7 : decode qc_Mut_init 7 = .ok (.newarray .int, 2) := by decide +kernel
theorem qd_Mut_init_9 : decode qc_Mut_init 9 = .ok (.putfield 11, 3) := by decide +kernel
theorem qd_Mut_init_12 : decode qc_Mut_init 12 = .ok (.aload_n 0, 1) := by decide +kernel
theorem qd_Mut_init_13 : decode qc_Mut_init 13 = .ok (.iconst 0, 1) := by decide +kernel
theorem qd_Mut_init_14 : decode qc_Mut_init 14 = .ok (.putfield 17, 3) := by decide +kernel
theorem qd_Mut_init_17 : decode qc_Mut_init 17 = .ok (.aload_n 0, 1) := by decide +kernel
theorem qd_Mut_init_18 : decode qc_Mut_init 18 = .ok (.iconst 0, 1) := by decide +kernel
theorem qd_Mut_init_19 : decode qc_Mut_init 19 = .ok (.putfield 21, 3) := by decide +kernel
theorem qd_Mut_init_22 : decode qc_Mut_init 22 = .ok (.aload_n 0, 1) := by decide +kernel
theorem qd_Mut_init_23 : decode qc_Mut_init 23 = .ok (.iconst 4, 1) := by decide +kernel
theorem qd_Mut_init_24 : decode qc_Mut_init 24 = .ok (.newarray .int, 2) := by decide +kernel
theorem qd_Mut_init_26 : decode qc_Mut_init 26 = .ok (.dup, 1) := by decide +kernel
theorem qd_Mut_init_27 : decode qc_Mut_init 27 = .ok (.iconst 0, 1) := by decide +kernel
theorem qd_Mut_init_28 : decode qc_Mut_init 28 = .ok (.iconst (-1), 1) := by decide +kernel
theorem qd_Mut_init_29 : decode qc_Mut_init 29 = .ok (.iastore, 1) := by decide +kernel
theorem qd_Mut_init_30 : decode qc_Mut_init 30 = .ok (.dup, 1) := by decide +kernel
theorem qd_Mut_init_31 : decode qc_Mut_init 31 = .ok (.iconst 1, 1) := by decide +kernel
theorem qd_Mut_init_32 : decode qc_Mut_init 32 = .ok (.iconst (-1), 1) := by decide +kernel
theorem qd_Mut_init_33 : decode qc_Mut_init 33 = .ok (.iastore, 1) := by decide +kernel
theorem qd_Mut_init_34 : decode qc_Mut_init 34 = .ok (.dup, 1) := by decide +kernel
theorem qd_Mut_init_35 : decode qc_Mut_init 35 = .ok (.iconst 2, 1) := by decide +kernel
theorem qd_Mut_init_36 : decode qc_Mut_init 36 = .ok (.iconst (-1), 1) := by decide +kernel
theorem qd_Mut_init_37 : decode qc_Mut_init 37 = .ok (.iastore, 1) := by decide +kernel
theorem qd_Mut_init_38 : decode qc_Mut_init 38 = .ok (.dup, 1) := by decide +kernel
theorem qd_Mut_init_39 : decode qc_Mut_init 39 = .ok (.iconst 3, 1) := by decide +kernel
theorem qd_Mut_init_40 : decode qc_Mut_init 40 = .ok (.iconst (-1), 1) := by decide +kernel
theorem qd_Mut_init_41 : decode qc_Mut_init 41 = .ok (.iastore, 1) := by decide +kernel
theorem qd_Mut_init_42 : decode qc_Mut_init 42 = .ok (.putfield 24, 3) := by decide +kernel
theorem qd_Mut_init_45 : decode qc_Mut_init 45 = .ok (.aload_n 0, 1) := by decide +kernel
theorem qd_Mut_init_46 : decode qc_Mut_init 46 = .ok (.iconst 3, 1) := by decide +kernel
theorem qd_Mut_init_47 : decode qc_Mut_init 47 = .ok (.newarray .int, 2) := by decide +kernel
theorem qd_Mut_init_49 : decode qc_Mut_init 49 = .ok (.putfield 27, 3) := by decide +kernel
theorem qd_Mut_init_52 : decode qc_Mut_init 52 = .ok (.aload_n 0, 1) := by decide +kernel
theorem qd_Mut_init_53 : decode qc_Mut_init 53 = .ok (.iconst 0, 1) := by decide +kernel
theorem qd_Mut_init_54 : decode qc_Mut_init 54 = .ok (.putfield 30, 3) := by decide +kernel
theorem qd_Mut_init_57 : decode qc_Mut_init 57 = .ok (.aload_n 0, 1) := by decide +kernel
theorem qd_Mut_init_58 : decode qc_Mut_init 58 = .ok (.iconst 0, 1) := by decide +kernel
theorem qd_Mut_init_59 : decode qc_Mut_init 59 = .ok (.putfield 33, 3) := by decide +kernel
theorem qd_Mut_init_62 : decode qc_Mut_init 62 = .ok (.aload_n 0, 1) := by decide +kernel
theorem qd_Mut_init_63 : decode qc_Mut_init 63 = .ok (.new 36, 3) := by decide +kernel
theorem qd_Mut_init_66 : decode qc_Mut_init 66 = .ok (.dup, 1) := by decide +kernel
theorem qd_Mut_init_67 : decode qc_Mut_init 67 = .ok (.invokespecial 38, 3) := by decide +kernel
theorem qd_Mut_init_70 : decode qc_Mut_init 70 = .ok (.putfield 39, 3) := by decide +kernel
theorem qd_Mut_init_73 : decode qc_Mut_init 73 = .ok (.aload_n 0, 1) := by decide +kernel
theorem qd_Mut_init_74 : decode qc_Mut_init 74 = .ok (.new 43, 3) := by decide +kernel
theorem qd_Mut_init_77 : decode qc_Mut_init 77 = .ok (.dup, 1) := by decide +kernel
theorem qd_Mut_init_78 : decode qc_Mut_init 78 = .ok (.invokespecial 45, 3) := by decide +kernel
theorem qd_Mut_init_81 : decode qc_Mut_init 81 = .ok (.putfield 46, 3) := by decide +kernel
theorem qd_Mut_init_84 : decode qc_Mut_init 84 = .ok (.return_, 1) := by decide +kernel
abbrev qc_Mut_install : ByteArray := prog_5_method_2_code
abbrev qy_Mut_install : MethodName := ⟨"QuietSweep$Mutator", "install", "([II)V"⟩
abbrev ql_Mut_install : Cond := .code qy_Mut_install qc_Mut_install 3 none
theorem qd_Mut_install_0 : decode qc_Mut_install 0 = .ok (.aload_n 1, 1) := by decide +kernel
theorem qd_Mut_install_1 : decode qc_Mut_install 1 = .ok (.iconst 0, 1) := by decide +kernel
theorem qd_Mut_install_2 : decode qc_Mut_install 2 = .ok (.aload_n 0, 1) := by decide +kernel
theorem qd_Mut_install_3 : decode qc_Mut_install 3 = .ok (.getfield 11, 3) := by decide +kernel
theorem qd_Mut_install_6 : decode qc_Mut_install 6 = .ok (.iconst 0, 1) := by decide +kernel
theorem qd_Mut_install_7 : decode qc_Mut_install 7 = .ok (.iload_n 2, 1) := by decide +kernel
theorem qd_Mut_install_8 : decode qc_Mut_install 8 = .ok (.invokestatic 50, 3) := by decide +kernel
theorem qd_Mut_install_11 : decode qc_Mut_install 11 = .ok (.aload_n 0, 1) := by decide +kernel
theorem qd_Mut_install_12 : decode qc_Mut_install 12 = .ok (.iload_n 2, 1) := by decide +kernel
theorem qd_Mut_install_13 : decode qc_Mut_install 13 = .ok (.putfield 17, 3) := by decide +kernel
theorem qd_Mut_install_16 : decode qc_Mut_install 16 = .ok (.aload_n 0, 1) := by decide +kernel
theorem qd_Mut_install_17 : decode qc_Mut_install 17 = .ok (.iconst 0, 1) := by decide +kernel
theorem qd_Mut_install_18 : decode qc_Mut_install 18 = .ok (.putfield 21, 3) := by decide +kernel
theorem qd_Mut_install_21 : decode qc_Mut_install 21 = .ok (.return_, 1) := by decide +kernel
abbrev qc_Mut_doInstruction : ByteArray := prog_5_method_5_code
abbrev qy_Mut_doInstruction : MethodName := ⟨"QuietSweep$Mutator", "doInstruction", "(LQuietSweep$Memory;)Z"⟩
abbrev ql_Mut_doInstruction : Cond := .code qy_Mut_doInstruction qc_Mut_doInstruction 7 (some .boolean)
theorem qd_Mut_doInstruction_0 : decode qc_Mut_doInstruction 0 = .ok (.aload_n 0, 1) := by decide +kernel
theorem qd_Mut_doInstruction_1 : decode qc_Mut_doInstruction 1 = .ok (.getfield 21, 3) := by decide +kernel
theorem qd_Mut_doInstruction_4 : decode qc_Mut_doInstruction 4 = .ok (.aload_n 0, 1) := by decide +kernel
theorem qd_Mut_doInstruction_5 : decode qc_Mut_doInstruction 5 = .ok (.getfield 17, 3) := by decide +kernel
theorem qd_Mut_doInstruction_8 : decode qc_Mut_doInstruction 8 = .ok (.if_icmp .lt 5, 3) := by decide +kernel
theorem qd_Mut_doInstruction_11 : decode qc_Mut_doInstruction 11 = .ok (.iconst 0, 1) := by decide +kernel
theorem qd_Mut_doInstruction_12 : decode qc_Mut_doInstruction 12 = .ok (.ireturn, 1) := by decide +kernel
theorem qd_Mut_doInstruction_13 : decode qc_Mut_doInstruction 13 = .ok (.aload_n 0, 1) := by decide +kernel
theorem qd_Mut_doInstruction_14 : decode qc_Mut_doInstruction 14 = .ok (.getfield 11, 3) := by decide +kernel
theorem qd_Mut_doInstruction_17 : decode qc_Mut_doInstruction 17 = .ok (.aload_n 0, 1) := by decide +kernel
theorem qd_Mut_doInstruction_18 : decode qc_Mut_doInstruction 18 = .ok (.getfield 21, 3) := by decide +kernel
theorem qd_Mut_doInstruction_21 : decode qc_Mut_doInstruction 21 = .ok (.iaload, 1) := by decide +kernel
theorem qd_Mut_doInstruction_22 : decode qc_Mut_doInstruction 22 = .ok (.istore_n 2, 1) := by decide +kernel
theorem qd_Mut_doInstruction_23 : decode qc_Mut_doInstruction 23 = .ok (.iload_n 2, 1) := by decide +kernel
theorem qd_Mut_doInstruction_24 : decode qc_Mut_doInstruction 24 = .ok (.bipush 16, 2) := by decide +kernel
theorem qd_Mut_doInstruction_26 : decode qc_Mut_doInstruction 26 = .ok (.irem, 1) := by decide +kernel
theorem qd_Mut_doInstruction_27 : decode qc_Mut_doInstruction 27 = .ok (.istore_n 3, 1) := by decide +kernel
theorem qd_Mut_doInstruction_28 : decode qc_Mut_doInstruction 28 = .ok (.iload_n 2, 1) := by decide +kernel
theorem qd_Mut_doInstruction_29 : decode qc_Mut_doInstruction 29 = .ok (.bipush 16, 2) := by decide +kernel
theorem qd_Mut_doInstruction_31 : decode qc_Mut_doInstruction 31 = .ok (.idiv, 1) := by decide +kernel
theorem qd_Mut_doInstruction_32 : decode qc_Mut_doInstruction 32 = .ok (.iconst 4, 1) := by decide +kernel
theorem qd_Mut_doInstruction_33 : decode qc_Mut_doInstruction 33 = .ok (.irem, 1) := by decide +kernel
theorem qd_Mut_doInstruction_34 : decode qc_Mut_doInstruction 34 = .ok (.istore 4, 2) := by decide +kernel
theorem qd_Mut_doInstruction_36 : decode qc_Mut_doInstruction 36 = .ok (.iload_n 2, 1) := by decide +kernel
theorem qd_Mut_doInstruction_37 : decode qc_Mut_doInstruction 37 = .ok (.bipush 64, 2) := by decide +kernel
theorem qd_Mut_doInstruction_39 : decode qc_Mut_doInstruction 39 = .ok (.idiv, 1) := by decide +kernel
theorem qd_Mut_doInstruction_40 : decode qc_Mut_doInstruction 40 = .ok (.iconst 4, 1) := by decide +kernel
theorem qd_Mut_doInstruction_41 : decode qc_Mut_doInstruction 41 = .ok (.irem, 1) := by decide +kernel
theorem qd_Mut_doInstruction_42 : decode qc_Mut_doInstruction 42 = .ok (.istore 5, 2) := by decide +kernel
theorem qd_Mut_doInstruction_44 : decode qc_Mut_doInstruction 44 = .ok (.iload_n 2, 1) := by decide +kernel
theorem qd_Mut_doInstruction_45 : decode qc_Mut_doInstruction 45 = .ok (.sipush 256, 3) := by decide +kernel
theorem qd_Mut_doInstruction_48 : decode qc_Mut_doInstruction 48 = .ok (.idiv, 1) := by decide +kernel
theorem qd_Mut_doInstruction_49 : decode qc_Mut_doInstruction 49 = .ok (.istore 6, 2) := by decide +kernel
theorem qd_Mut_doInstruction_51 : decode qc_Mut_doInstruction 51 = .ok (.iload_n 3, 1) := by decide +kernel
theorem qd_Mut_doInstruction_52 : decode qc_Mut_doInstruction 52 = .ok (.bipush 15, 2) := by decide +kernel
theorem qd_Mut_doInstruction_54 : decode qc_Mut_doInstruction 54 = .ok (.if_icmp .ne 28, 3) := by decide +kernel
theorem qd_Mut_doInstruction_57 : decode qc_Mut_doInstruction 57 = .ok (.aload_n 0, 1) := by decide +kernel
theorem qd_Mut_doInstruction_58 : decode qc_Mut_doInstruction 58 = .ok (.aload_n 0, 1) := by decide +kernel
theorem qd_Mut_doInstruction_59 : decode qc_Mut_doInstruction 59 = .ok (.iload 4, 2) := by decide +kernel
theorem qd_Mut_doInstruction_61 : decode qc_Mut_doInstruction 61 = .ok (.iload 5, 2) := by decide +kernel
theorem qd_Mut_doInstruction_63 : decode qc_Mut_doInstruction 63 = .ok (.iconst 1, 1) := by decide +kernel
theorem qd_Mut_doInstruction_64 : decode qc_Mut_doInstruction 64 = .ok (.if_icmp .ne 7, 3) := by decide +kernel
theorem qd_Mut_doInstruction_67 : decode qc_Mut_doInstruction 67 = .ok (.iconst 1, 1) := by decide +kernel
theorem qd_Mut_doInstruction_68 : decode qc_Mut_doInstruction 68 = .ok (.goto 4, 3) := by decide +kernel
theorem qd_Mut_doInstruction_71 : decode qc_Mut_doInstruction 71 = .ok (.iconst 0, 1) := by decide +kernel
theorem qd_Mut_doInstruction_72 : decode qc_Mut_doInstruction 72 = .ok (.iload 6, 2) := by decide +kernel
theorem qd_Mut_doInstruction_74 : decode qc_Mut_doInstruction 74 = .ok (.invokevirtual 56, 3) := by decide +kernel
theorem qd_Mut_doInstruction_77 : decode qc_Mut_doInstruction 77 = .ok (.putfield 21, 3) := by decide +kernel
theorem qd_Mut_doInstruction_80 : decode qc_Mut_doInstruction 80 = .ok (.iconst 1, 1) := by decide +kernel
theorem qd_Mut_doInstruction_81 : decode qc_Mut_doInstruction 81 = .ok (.ireturn, 1) := by decide +kernel
theorem qd_Mut_doInstruction_82 : decode qc_Mut_doInstruction 82 = .ok (.iload_n 3, 1) := by decide +kernel
theorem qd_Mut_doInstruction_83 : decode qc_Mut_doInstruction 83 = .ok (.bipush 10, 2) := by decide +kernel
theorem qd_Mut_doInstruction_85 : decode qc_Mut_doInstruction 85 = .ok (.if_icmp .lt 18, 3) := by decide +kernel
theorem qd_Mut_doInstruction_88 : decode qc_Mut_doInstruction 88 = .ok (.aload_n 0, 1) := by decide +kernel
theorem qd_Mut_doInstruction_89 : decode qc_Mut_doInstruction 89 = .ok (.aload_n 1, 1) := by decide +kernel
theorem qd_Mut_doInstruction_90 : decode qc_Mut_doInstruction 90 = .ok (.iload_n 3, 1) := by decide +kernel
theorem qd_Mut_doInstruction_91 : decode qc_Mut_doInstruction 91 = .ok (.iload 4, 2) := by decide +kernel
theorem qd_Mut_doInstruction_93 : decode qc_Mut_doInstruction 93 = .ok (.iload 5, 2) := by decide +kernel
theorem qd_Mut_doInstruction_95 : decode qc_Mut_doInstruction 95 = .ok (.iload 6, 2) := by decide +kernel
theorem qd_Mut_doInstruction_97 : decode qc_Mut_doInstruction 97 = .ok (.invokevirtual 60, 3) := by decide +kernel
theorem qd_Mut_doInstruction_100 : decode qc_Mut_doInstruction 100 = .ok (.goto 28, 3) := by decide +kernel
theorem qd_Mut_doInstruction_103 : decode qc_Mut_doInstruction 103 = .ok (.aload_n 0, 1) := by decide +kernel
theorem qd_Mut_doInstruction_104 : decode qc_Mut_doInstruction 104 = .ok (.aload_n 1, 1) := by decide +kernel
theorem qd_Mut_doInstruction_105 : decode qc_Mut_doInstruction 105 = .ok (.iload_n 3, 1) := by decide +kernel
theorem qd_Mut_doInstruction_106 : decode qc_Mut_doInstruction 106 = .ok (.iload 4, 2) := by decide +kernel
theorem qd_Mut_doInstruction_108 : decode qc_Mut_doInstruction 108 = .ok (.iload 5, 2) := by decide +kernel
theorem qd_Mut_doInstruction_110 : decode qc_Mut_doInstruction 110 = .ok (.invokevirtual 64, 3) := by decide +kernel
theorem qd_Mut_doInstruction_113 : decode qc_Mut_doInstruction 113 = .ok (.ifCond .ne 15, 3) := by decide +kernel
theorem qd_Mut_doInstruction_116 : decode qc_Mut_doInstruction 116 = .ok (.aload_n 0, 1) := by decide +kernel
theorem qd_Mut_doInstruction_117 : decode qc_Mut_doInstruction 117 = .ok (.dup, 1) := by decide +kernel
theorem qd_Mut_doInstruction_118 : decode qc_Mut_doInstruction 118 = .ok (.getfield 33, 3) := by decide +kernel
theorem qd_Mut_doInstruction_121 : decode qc_Mut_doInstruction 121 = .ok (.iconst 1, 1) := by decide +kernel
theorem qd_Mut_doInstruction_122 : decode qc_Mut_doInstruction 122 = .ok (.iadd, 1) := by decide +kernel
theorem qd_Mut_doInstruction_123 : decode qc_Mut_doInstruction 123 = .ok (.putfield 33, 3) := by decide +kernel
theorem qd_Mut_doInstruction_126 : decode qc_Mut_doInstruction 126 = .ok (.iconst 0, 1) := by decide +kernel
theorem qd_Mut_doInstruction_127 : decode qc_Mut_doInstruction 127 = .ok (.ireturn, 1) := by decide +kernel
theorem qd_Mut_doInstruction_128 : decode qc_Mut_doInstruction 128 = .ok (.aload_n 0, 1) := by decide +kernel
theorem qd_Mut_doInstruction_129 : decode qc_Mut_doInstruction 129 = .ok (.dup, 1) := by decide +kernel
theorem qd_Mut_doInstruction_130 : decode qc_Mut_doInstruction 130 = .ok (.getfield 21, 3) := by decide +kernel
theorem qd_Mut_doInstruction_133 : decode qc_Mut_doInstruction 133 = .ok (.iconst 1, 1) := by decide +kernel
theorem qd_Mut_doInstruction_134 : decode qc_Mut_doInstruction 134 = .ok (.iadd, 1) := by decide +kernel
theorem qd_Mut_doInstruction_135 : decode qc_Mut_doInstruction 135 = .ok (.putfield 21, 3) := by decide +kernel
theorem qd_Mut_doInstruction_138 : decode qc_Mut_doInstruction 138 = .ok (.iconst 1, 1) := by decide +kernel
theorem qd_Mut_doInstruction_139 : decode qc_Mut_doInstruction 139 = .ok (.ireturn, 1) := by decide +kernel
abbrev qc_Mut_behindLoopPart : ByteArray := prog_5_method_6_code
abbrev qy_Mut_behindLoopPart : MethodName := ⟨"QuietSweep$Mutator", "behindLoopPart", "(IZI)I"⟩
abbrev ql_Mut_behindLoopPart : Cond := .code qy_Mut_behindLoopPart qc_Mut_behindLoopPart 4 (some .int)
theorem qd_Mut_behindLoopPart_0 : decode qc_Mut_behindLoopPart 0 = .ok (.iload_n 2, 1) := by decide +kernel
theorem qd_Mut_behindLoopPart_1 : decode qc_Mut_behindLoopPart 1 = .ok (.ifCond .eq 5, 3) := by decide +kernel
theorem qd_Mut_behindLoopPart_4 : decode qc_Mut_behindLoopPart 4 = .ok (.iload_n 3, 1) := by decide +kernel
theorem qd_Mut_behindLoopPart_5 : decode qc_Mut_behindLoopPart 5 = .ok (.ireturn, 1) := by decide +kernel
theorem qd_Mut_behindLoopPart_6 : decode qc_Mut_behindLoopPart 6 = .ok (.aload_n 0, 1) := by decide +kernel
theorem qd_Mut_behindLoopPart_7 : decode qc_Mut_behindLoopPart 7 = .ok (.getfield 24, 3) := by decide +kernel
theorem qd_Mut_behindLoopPart_10 : decode qc_Mut_behindLoopPart 10 = .ok (.iload_n 1, 1) := by decide +kernel
theorem qd_Mut_behindLoopPart_11 : decode qc_Mut_behindLoopPart 11 = .ok (.iaload, 1) := by decide +kernel
theorem qd_Mut_behindLoopPart_12 : decode qc_Mut_behindLoopPart 12 = .ok (.iconst (-1), 1) := by decide +kernel
theorem qd_Mut_behindLoopPart_13 : decode qc_Mut_behindLoopPart 13 = .ok (.if_icmp .ne 9, 3) := by decide +kernel
theorem qd_Mut_behindLoopPart_16 : decode qc_Mut_behindLoopPart 16 = .ok (.iload_n 3, 1) := by decide +kernel
theorem qd_Mut_behindLoopPart_17 : decode qc_Mut_behindLoopPart 17 = .ok (.iconst 1, 1) := by decide +kernel
theorem qd_Mut_behindLoopPart_18 : decode qc_Mut_behindLoopPart 18 = .ok (.iadd, 1) := by decide +kernel
theorem qd_Mut_behindLoopPart_19 : decode qc_Mut_behindLoopPart 19 = .ok (.goto 9, 3) := by decide +kernel
theorem qd_Mut_behindLoopPart_22 : decode qc_Mut_behindLoopPart 22 = .ok (.aload_n 0, 1) := by decide +kernel
theorem qd_Mut_behindLoopPart_23 : decode qc_Mut_behindLoopPart 23 = .ok (.getfield 21, 3) := by decide +kernel
theorem qd_Mut_behindLoopPart_26 : decode qc_Mut_behindLoopPart 26 = .ok (.iconst 1, 1) := by decide +kernel
theorem qd_Mut_behindLoopPart_27 : decode qc_Mut_behindLoopPart 27 = .ok (.iadd, 1) := by decide +kernel
theorem qd_Mut_behindLoopPart_28 : decode qc_Mut_behindLoopPart 28 = .ok (.ireturn, 1) := by decide +kernel
abbrev qc_Mut_doWithInts : ByteArray := prog_5_method_8_code
abbrev qy_Mut_doWithInts : MethodName := ⟨"QuietSweep$Mutator", "doWithInts", "(LQuietSweep$Memory;IIII)V"⟩
abbrev ql_Mut_doWithInts : Cond := .code qy_Mut_doWithInts qc_Mut_doWithInts 6 none
theorem qd_Mut_doWithInts_0 : decode qc_Mut_doWithInts 0 = .ok (.iload_n 2, 1) := by decide +kernel
theorem qd_Mut_doWithInts_1 : decode qc_Mut_doWithInts 1 = .ok (.tableswitch 109 10 14 #[35, 46, 62, 86, 109], 35) := by decide +kernel
theorem qd_Mut_doWithInts_36 : decode qc_Mut_doWithInts 36 = .ok (.aload_n 0, 1) := by decide +kernel
theorem qd_Mut_doWithInts_37 : decode qc_Mut_doWithInts 37 = .ok (.getfield 27, 3) := by decide +kernel
theorem qd_Mut_doWithInts_40 : decode qc_Mut_doWithInts 40 = .ok (.iload_n 3, 1) := by decide +kernel
theorem qd_Mut_doWithInts_41 : decode qc_Mut_doWithInts 41 = .ok (.iload 5, 2) := by decide +kernel
theorem qd_Mut_doWithInts_43 : decode qc_Mut_doWithInts 43 = .ok (.iastore, 1) := by decide +kernel
theorem qd_Mut_doWithInts_44 : decode qc_Mut_doWithInts 44 = .ok (.goto 79, 3) := by decide +kernel
theorem qd_Mut_doWithInts_47 : decode qc_Mut_doWithInts 47 = .ok (.aload_n 0, 1) := by decide +kernel
theorem qd_Mut_doWithInts_48 : decode qc_Mut_doWithInts 48 = .ok (.getfield 27, 3) := by decide +kernel
theorem qd_Mut_doWithInts_51 : decode qc_Mut_doWithInts 51 = .ok (.iload_n 3, 1) := by decide +kernel
theorem qd_Mut_doWithInts_52 : decode qc_Mut_doWithInts 52 = .ok (.aload_n 0, 1) := by decide +kernel
theorem qd_Mut_doWithInts_53 : decode qc_Mut_doWithInts 53 = .ok (.getfield 27, 3) := by decide +kernel
theorem qd_Mut_doWithInts_56 : decode qc_Mut_doWithInts 56 = .ok (.iload 4, 2) := by decide +kernel
theorem qd_Mut_doWithInts_58 : decode qc_Mut_doWithInts 58 = .ok (.iaload, 1) := by decide +kernel
theorem qd_Mut_doWithInts_59 : decode qc_Mut_doWithInts 59 = .ok (.iastore, 1) := by decide +kernel
theorem qd_Mut_doWithInts_60 : decode qc_Mut_doWithInts 60 = .ok (.goto 63, 3) := by decide +kernel
theorem qd_Mut_doWithInts_63 : decode qc_Mut_doWithInts 63 = .ok (.aload_n 0, 1) := by decide +kernel
theorem qd_Mut_doWithInts_64 : decode qc_Mut_doWithInts 64 = .ok (.getfield 27, 3) := by decide +kernel
theorem qd_Mut_doWithInts_67 : decode qc_Mut_doWithInts 67 = .ok (.iload_n 3, 1) := by decide +kernel
theorem qd_Mut_doWithInts_68 : decode qc_Mut_doWithInts 68 = .ok (.aload_n 0, 1) := by decide +kernel
theorem qd_Mut_doWithInts_69 : decode qc_Mut_doWithInts 69 = .ok (.getfield 27, 3) := by decide +kernel
theorem qd_Mut_doWithInts_72 : decode qc_Mut_doWithInts 72 = .ok (.iload 4, 2) := by decide +kernel
theorem qd_Mut_doWithInts_74 : decode qc_Mut_doWithInts 74 = .ok (.iaload, 1) := by decide +kernel
theorem qd_Mut_doWithInts_75 : decode qc_Mut_doWithInts 75 = .ok (.aload_n 0, 1) := by decide +kernel
theorem qd_Mut_doWithInts_76 : decode qc_Mut_doWithInts 76 = .ok (.getfield 27, 3) := by decide +kernel
theorem qd_Mut_doWithInts_79 : decode qc_Mut_doWithInts 79 = .ok (.iload 5, 2) := by decide +kernel
theorem qd_Mut_doWithInts_81 : decode qc_Mut_doWithInts 81 = .ok (.iaload, 1) := by decide +kernel
theorem qd_Mut_doWithInts_82 : decode qc_Mut_doWithInts 82 = .ok (.iadd, 1) := by decide +kernel
theorem qd_Mut_doWithInts_83 : decode qc_Mut_doWithInts 83 = .ok (.iastore, 1) := by decide +kernel
theorem qd_Mut_doWithInts_84 : decode qc_Mut_doWithInts 84 = .ok (.goto 39, 3) := by decide +kernel
theorem qd_Mut_doWithInts_87 : decode qc_Mut_doWithInts 87 = .ok (.aload_n 0, 1) := by decide +kernel
theorem qd_Mut_doWithInts_88 : decode qc_Mut_doWithInts 88 = .ok (.getfield 27, 3) := by decide +kernel
theorem qd_Mut_doWithInts_91 : decode qc_Mut_doWithInts 91 = .ok (.iload_n 3, 1) := by decide +kernel
theorem qd_Mut_doWithInts_92 : decode qc_Mut_doWithInts 92 = .ok (.aload_n 0, 1) := by decide +kernel
theorem qd_Mut_doWithInts_93 : decode qc_Mut_doWithInts 93 = .ok (.aload_n 1, 1) := by decide +kernel
theorem qd_Mut_doWithInts_94 : decode qc_Mut_doWithInts 94 = .ok (.aload_n 0, 1) := by decide +kernel
theorem qd_Mut_doWithInts_95 : decode qc_Mut_doWithInts 95 = .ok (.getfield 24, 3) := by decide +kernel
theorem qd_Mut_doWithInts_98 : decode qc_Mut_doWithInts 98 = .ok (.iload 4, 2) := by decide +kernel
theorem qd_Mut_doWithInts_100 : decode qc_Mut_doWithInts 100 = .ok (.iaload, 1) := by decide +kernel
theorem qd_Mut_doWithInts_101 : decode qc_Mut_doWithInts 101 = .ok (.iconst 2, 1) := by decide +kernel
theorem qd_Mut_doWithInts_102 : decode qc_Mut_doWithInts 102 = .ok (.iconst 0, 1) := by decide +kernel
theorem qd_Mut_doWithInts_103 : decode qc_Mut_doWithInts 103 = .ok (.invokevirtual 72, 3) := by decide +kernel
theorem qd_Mut_doWithInts_106 : decode qc_Mut_doWithInts 106 = .ok (.iastore, 1) := by decide +kernel
theorem qd_Mut_doWithInts_107 : decode qc_Mut_doWithInts 107 = .ok (.goto 16, 3) := by decide +kernel
theorem qd_Mut_doWithInts_110 : decode qc_Mut_doWithInts 110 = .ok (.aload_n 0, 1) := by decide +kernel
theorem qd_Mut_doWithInts_111 : decode qc_Mut_doWithInts 111 = .ok (.getfield 46, 3) := by decide +kernel
theorem qd_Mut_doWithInts_114 : decode qc_Mut_doWithInts 114 = .ok (.aload_n 0, 1) := by decide +kernel
theorem qd_Mut_doWithInts_115 : decode qc_Mut_doWithInts 115 = .ok (.getfield 27, 3) := by decide +kernel
theorem qd_Mut_doWithInts_118 : decode qc_Mut_doWithInts 118 = .ok (.iload_n 3, 1) := by decide +kernel
theorem qd_Mut_doWithInts_119 : decode qc_Mut_doWithInts 119 = .ok (.iaload, 1) := by decide +kernel
theorem qd_Mut_doWithInts_120 : decode qc_Mut_doWithInts 120 = .ok (.invokevirtual 79, 3) := by decide +kernel
theorem qd_Mut_doWithInts_123 : decode qc_Mut_doWithInts 123 = .ok (.return_, 1) := by decide +kernel
abbrev qc_Mut_get : ByteArray := prog_5_method_9_code
abbrev qy_Mut_get : MethodName := ⟨"QuietSweep$Mutator", "get", "(LQuietSweep$Memory;III)I"⟩
abbrev ql_Mut_get : Cond := .code qy_Mut_get qc_Mut_get 5 (some .int)
theorem qd_Mut_get_0 : decode qc_Mut_get 0 = .ok (.iload_n 2, 1) := by decide +kernel
theorem qd_Mut_get_1 : decode qc_Mut_get 1 = .ok (.iconst (-1), 1) := by decide +kernel
theorem qd_Mut_get_2 : decode qc_Mut_get 2 = .ok (.if_icmp .ne 8, 3) := by decide +kernel
theorem qd_Mut_get_5 : decode qc_Mut_get 5 = .ok (.iload 4, 2) := by decide +kernel
theorem qd_Mut_get_7 : decode qc_Mut_get 7 = .ok (.goto 13, 3) := by decide +kernel
theorem qd_Mut_get_10 : decode qc_Mut_get 10 = .ok (.aload_n 0, 1) := by decide +kernel
theorem qd_Mut_get_11 : decode qc_Mut_get 11 = .ok (.getfield 39, 3) := by decide +kernel
theorem qd_Mut_get_14 : decode qc_Mut_get 14 = .ok (.aload_n 1, 1) := by decide +kernel
theorem qd_Mut_get_15 : decode qc_Mut_get 15 = .ok (.iload_n 2, 1) := by decide +kernel
theorem qd_Mut_get_16 : decode qc_Mut_get 16 = .ok (.iload_n 3, 1) := by decide +kernel
theorem qd_Mut_get_17 : decode qc_Mut_get 17 = .ok (.invokevirtual 83, 3) := by decide +kernel
theorem qd_Mut_get_20 : decode qc_Mut_get 20 = .ok (.ireturn, 1) := by decide +kernel
abbrev qc_Mut_doWithCells : ByteArray := prog_5_method_7_code
abbrev qy_Mut_doWithCells : MethodName := ⟨"QuietSweep$Mutator", "doWithCells", "(LQuietSweep$Memory;III)Z"⟩
abbrev ql_Mut_doWithCells : Cond := .code qy_Mut_doWithCells qc_Mut_doWithCells 5 (some .boolean)
theorem qd_Mut_doWithCells_0 : decode qc_Mut_doWithCells 0 = .ok (.iload_n 2, 1) := by decide +kernel
theorem qd_Mut_doWithCells_1 : decode qc_Mut_doWithCells 1 = .ok (.tableswitch 198 0 9 #[55, 62, 71, 86, 108, 130, 150, 170, 184, 198], 55) := by decide +kernel
theorem qd_Mut_doWithCells_56 : decode qc_Mut_doWithCells 56 = .ok (.aload_n 0, 1) := by decide +kernel
theorem qd_Mut_doWithCells_57 : decode qc_Mut_doWithCells 57 = .ok (.aload_n 1, 1) := by decide +kernel
theorem qd_Mut_doWithCells_58 : decode qc_Mut_doWithCells 58 = .ok (.iload_n 3, 1) := by decide +kernel
theorem qd_Mut_doWithCells_59 : decode qc_Mut_doWithCells 59 = .ok (.invokevirtual 68, 3) := by decide +kernel
theorem qd_Mut_doWithCells_62 : decode qc_Mut_doWithCells 62 = .ok (.ireturn, 1) := by decide +kernel
theorem qd_Mut_doWithCells_63 : decode qc_Mut_doWithCells 63 = .ok (.aload_n 0, 1) := by decide +kernel
theorem qd_Mut_doWithCells_64 : decode qc_Mut_doWithCells 64 = .ok (.getfield 24, 3) := by decide +kernel
theorem qd_Mut_doWithCells_67 : decode qc_Mut_doWithCells 67 = .ok (.iload_n 3, 1) := by decide +kernel
theorem qd_Mut_doWithCells_68 : decode qc_Mut_doWithCells 68 = .ok (.iconst (-1), 1) := by decide +kernel
theorem qd_Mut_doWithCells_69 : decode qc_Mut_doWithCells 69 = .ok (.iastore, 1) := by decide +kernel
theorem qd_Mut_doWithCells_70 : decode qc_Mut_doWithCells 70 = .ok (.iconst 1, 1) := by decide +kernel
theorem qd_Mut_doWithCells_71 : decode qc_Mut_doWithCells 71 = .ok (.ireturn, 1) := by decide +kernel
theorem qd_Mut_doWithCells_72 : decode qc_Mut_doWithCells 72 = .ok (.aload_n 0, 1) := by decide +kernel
theorem qd_Mut_doWithCells_73 : decode qc_Mut_doWithCells 73 = .ok (.getfield 24, 3) := by decide +kernel
theorem qd_Mut_doWithCells_76 : decode qc_Mut_doWithCells 76 = .ok (.iload_n 3, 1) := by decide +kernel
theorem qd_Mut_doWithCells_77 : decode qc_Mut_doWithCells 77 = .ok (.aload_n 0, 1) := by decide +kernel
theorem qd_Mut_doWithCells_78 : decode qc_Mut_doWithCells 78 = .ok (.getfield 24, 3) := by decide +kernel
theorem qd_Mut_doWithCells_81 : decode qc_Mut_doWithCells 81 = .ok (.iload 4, 2) := by decide +kernel
theorem qd_Mut_doWithCells_83 : decode qc_Mut_doWithCells 83 = .ok (.iaload, 1) := by decide +kernel
theorem qd_Mut_doWithCells_84 : decode qc_Mut_doWithCells 84 = .ok (.iastore, 1) := by decide +kernel
theorem qd_Mut_doWithCells_85 : decode qc_Mut_doWithCells 85 = .ok (.iconst 1, 1) := by decide +kernel
theorem qd_Mut_doWithCells_86 : decode qc_Mut_doWithCells 86 = .ok (.ireturn, 1) := by decide +kernel
theorem qd_Mut_doWithCells_87 : decode qc_Mut_doWithCells 87 = .ok (.aload_n 0, 1) := by decide +kernel
theorem qd_Mut_doWithCells_88 : decode qc_Mut_doWithCells 88 = .ok (.getfield 24, 3) := by decide +kernel
theorem qd_Mut_doWithCells_91 : decode qc_Mut_doWithCells 91 = .ok (.iload_n 3, 1) := by decide +kernel
theorem qd_Mut_doWithCells_92 : decode qc_Mut_doWithCells 92 = .ok (.aload_n 0, 1) := by decide +kernel
theorem qd_Mut_doWithCells_93 : decode qc_Mut_doWithCells 93 = .ok (.aload_n 1, 1) := by decide +kernel
theorem qd_Mut_doWithCells_94 : decode qc_Mut_doWithCells 94 = .ok (.aload_n 0, 1) := by decide +kernel
theorem qd_Mut_doWithCells_95 : decode qc_Mut_doWithCells 95 = .ok (.getfield 24, 3) := by decide +kernel
theorem qd_Mut_doWithCells_98 : decode qc_Mut_doWithCells 98 = .ok (.iload 4, 2) := by decide +kernel
theorem qd_Mut_doWithCells_100 : decode qc_Mut_doWithCells 100 = .ok (.iaload, 1) := by decide +kernel
theorem qd_Mut_doWithCells_101 : decode qc_Mut_doWithCells 101 = .ok (.iconst 0, 1) := by decide +kernel
theorem qd_Mut_doWithCells_102 : decode qc_Mut_doWithCells 102 = .ok (.iconst (-1), 1) := by decide +kernel
theorem qd_Mut_doWithCells_103 : decode qc_Mut_doWithCells 103 = .ok (.invokevirtual 72, 3) := by decide +kernel
theorem qd_Mut_doWithCells_106 : decode qc_Mut_doWithCells 106 = .ok (.iastore, 1) := by decide +kernel
theorem qd_Mut_doWithCells_107 : decode qc_Mut_doWithCells 107 = .ok (.iconst 1, 1) := by decide +kernel
theorem qd_Mut_doWithCells_108 : decode qc_Mut_doWithCells 108 = .ok (.ireturn, 1) := by decide +kernel
theorem qd_Mut_doWithCells_109 : decode qc_Mut_doWithCells 109 = .ok (.aload_n 0, 1) := by decide +kernel
theorem qd_Mut_doWithCells_110 : decode qc_Mut_doWithCells 110 = .ok (.getfield 24, 3) := by decide +kernel
theorem qd_Mut_doWithCells_113 : decode qc_Mut_doWithCells 113 = .ok (.iload_n 3, 1) := by decide +kernel
theorem qd_Mut_doWithCells_114 : decode qc_Mut_doWithCells 114 = .ok (.aload_n 0, 1) := by decide +kernel
theorem qd_Mut_doWithCells_115 : decode qc_Mut_doWithCells 115 = .ok (.aload_n 1, 1) := by decide +kernel
theorem qd_Mut_doWithCells_116 : decode qc_Mut_doWithCells 116 = .ok (.aload_n 0, 1) := by decide +kernel
theorem qd_Mut_doWithCells_117 : decode qc_Mut_doWithCells 117 = .ok (.getfield 24, 3) := by decide +kernel
theorem qd_Mut_doWithCells_120 : decode qc_Mut_doWithCells 120 = .ok (.iload 4, 2) := by decide +kernel
theorem qd_Mut_doWithCells_122 : decode qc_Mut_doWithCells 122 = .ok (.iaload, 1) := by decide +kernel
theorem qd_Mut_doWithCells_123 : decode qc_Mut_doWithCells 123 = .ok (.iconst 1, 1) := by decide +kernel
theorem qd_Mut_doWithCells_124 : decode qc_Mut_doWithCells 124 = .ok (.iconst (-1), 1) := by decide +kernel
theorem qd_Mut_doWithCells_125 : decode qc_Mut_doWithCells 125 = .ok (.invokevirtual 72, 3) := by decide +kernel
theorem qd_Mut_doWithCells_128 : decode qc_Mut_doWithCells 128 = .ok (.iastore, 1) := by decide +kernel
theorem qd_Mut_doWithCells_129 : decode qc_Mut_doWithCells 129 = .ok (.iconst 1, 1) := by decide +kernel
theorem qd_Mut_doWithCells_130 : decode qc_Mut_doWithCells 130 = .ok (.ireturn, 1) := by decide +kernel
theorem qd_Mut_doWithCells_131 : decode qc_Mut_doWithCells 131 = .ok (.aload_n 0, 1) := by decide +kernel
theorem qd_Mut_doWithCells_132 : decode qc_Mut_doWithCells 132 = .ok (.aload_n 1, 1) := by decide +kernel
theorem qd_Mut_doWithCells_133 : decode qc_Mut_doWithCells 133 = .ok (.aload_n 0, 1) := by decide +kernel
theorem qd_Mut_doWithCells_134 : decode qc_Mut_doWithCells 134 = .ok (.getfield 24, 3) := by decide +kernel
theorem qd_Mut_doWithCells_137 : decode qc_Mut_doWithCells 137 = .ok (.iload_n 3, 1) := by decide +kernel
theorem qd_Mut_doWithCells_138 : decode qc_Mut_doWithCells 138 = .ok (.iaload, 1) := by decide +kernel
theorem qd_Mut_doWithCells_139 : decode qc_Mut_doWithCells 139 = .ok (.iconst 0, 1) := by decide +kernel
theorem qd_Mut_doWithCells_140 : decode qc_Mut_doWithCells 140 = .ok (.aload_n 0, 1) := by decide +kernel
theorem qd_Mut_doWithCells_141 : decode qc_Mut_doWithCells 141 = .ok (.getfield 24, 3) := by decide +kernel
theorem qd_Mut_doWithCells_144 : decode qc_Mut_doWithCells 144 = .ok (.iload 4, 2) := by decide +kernel
theorem qd_Mut_doWithCells_146 : decode qc_Mut_doWithCells 146 = .ok (.iaload, 1) := by decide +kernel
theorem qd_Mut_doWithCells_147 : decode qc_Mut_doWithCells 147 = .ok (.invokevirtual 76, 3) := by decide +kernel
theorem qd_Mut_doWithCells_150 : decode qc_Mut_doWithCells 150 = .ok (.ireturn, 1) := by decide +kernel
theorem qd_Mut_doWithCells_151 : decode qc_Mut_doWithCells 151 = .ok (.aload_n 0, 1) := by decide +kernel
theorem qd_Mut_doWithCells_152 : decode qc_Mut_doWithCells 152 = .ok (.aload_n 1, 1) := by decide +kernel
theorem qd_Mut_doWithCells_153 : decode qc_Mut_doWithCells 153 = .ok (.aload_n 0, 1) := by decide +kernel
theorem qd_Mut_doWithCells_154 : decode qc_Mut_doWithCells 154 = .ok (.getfield 24, 3) := by decide +kernel
theorem qd_Mut_doWithCells_157 : decode qc_Mut_doWithCells 157 = .ok (.iload_n 3, 1) := by decide +kernel
theorem qd_Mut_doWithCells_158 : decode qc_Mut_doWithCells 158 = .ok (.iaload, 1) := by decide +kernel
theorem qd_Mut_doWithCells_159 : decode qc_Mut_doWithCells 159 = .ok (.iconst 1, 1) := by decide +kernel
theorem qd_Mut_doWithCells_160 : decode qc_Mut_doWithCells 160 = .ok (.aload_n 0, 1) := by decide +kernel
theorem qd_Mut_doWithCells_161 : decode qc_Mut_doWithCells 161 = .ok (.getfield 24, 3) := by decide +kernel
theorem qd_Mut_doWithCells_164 : decode qc_Mut_doWithCells 164 = .ok (.iload 4, 2) := by decide +kernel
theorem qd_Mut_doWithCells_166 : decode qc_Mut_doWithCells 166 = .ok (.iaload, 1) := by decide +kernel
theorem qd_Mut_doWithCells_167 : decode qc_Mut_doWithCells 167 = .ok (.invokevirtual 76, 3) := by decide +kernel
theorem qd_Mut_doWithCells_170 : decode qc_Mut_doWithCells 170 = .ok (.ireturn, 1) := by decide +kernel
theorem qd_Mut_doWithCells_171 : decode qc_Mut_doWithCells 171 = .ok (.aload_n 0, 1) := by decide +kernel
theorem qd_Mut_doWithCells_172 : decode qc_Mut_doWithCells 172 = .ok (.aload_n 1, 1) := by decide +kernel
theorem qd_Mut_doWithCells_173 : decode qc_Mut_doWithCells 173 = .ok (.aload_n 0, 1) := by decide +kernel
theorem qd_Mut_doWithCells_174 : decode qc_Mut_doWithCells 174 = .ok (.getfield 24, 3) := by decide +kernel
theorem qd_Mut_doWithCells_177 : decode qc_Mut_doWithCells 177 = .ok (.iload_n 3, 1) := by decide +kernel
theorem qd_Mut_doWithCells_178 : decode qc_Mut_doWithCells 178 = .ok (.iaload, 1) := by decide +kernel
theorem qd_Mut_doWithCells_179 : decode qc_Mut_doWithCells 179 = .ok (.iconst 0, 1) := by decide +kernel
theorem qd_Mut_doWithCells_180 : decode qc_Mut_doWithCells 180 = .ok (.iconst (-1), 1) := by decide +kernel
theorem qd_Mut_doWithCells_181 : decode qc_Mut_doWithCells 181 = .ok (.invokevirtual 76, 3) := by decide +kernel
theorem qd_Mut_doWithCells_184 : decode qc_Mut_doWithCells 184 = .ok (.ireturn, 1) := by decide +kernel
theorem qd_Mut_doWithCells_185 : decode qc_Mut_doWithCells 185 = .ok (.aload_n 0, 1) := by decide +kernel
theorem qd_Mut_doWithCells_186 : decode qc_Mut_doWithCells 186 = .ok (.aload_n 1, 1) := by decide +kernel
theorem qd_Mut_doWithCells_187 : decode qc_Mut_doWithCells 187 = .ok (.aload_n 0, 1) := by decide +kernel
theorem qd_Mut_doWithCells_188 : decode qc_Mut_doWithCells 188 = .ok (.getfield 24, 3) := by decide +kernel
theorem qd_Mut_doWithCells_191 : decode qc_Mut_doWithCells 191 = .ok (.iload_n 3, 1) := by decide +kernel
theorem qd_Mut_doWithCells_192 : decode qc_Mut_doWithCells 192 = .ok (.iaload, 1) := by decide +kernel
theorem qd_Mut_doWithCells_193 : decode qc_Mut_doWithCells 193 = .ok (.iconst 1, 1) := by decide +kernel
theorem qd_Mut_doWithCells_194 : decode qc_Mut_doWithCells 194 = .ok (.iconst (-1), 1) := by decide +kernel
theorem qd_Mut_doWithCells_195 : decode qc_Mut_doWithCells 195 = .ok (.invokevirtual 76, 3) := by decide +kernel
theorem qd_Mut_doWithCells_198 : decode qc_Mut_doWithCells 198 = .ok (.ireturn, 1) := by decide +kernel
theorem qd_Mut_doWithCells_199 : decode qc_Mut_doWithCells 199 = .ok (.aload_n 0, 1) := by decide +kernel
theorem qd_Mut_doWithCells_200 : decode qc_Mut_doWithCells 200 = .ok (.aload_n 1, 1) := by decide +kernel
theorem qd_Mut_doWithCells_201 : decode qc_Mut_doWithCells 201 = .ok (.aload_n 0, 1) := by decide +kernel
theorem qd_Mut_doWithCells_202 : decode qc_Mut_doWithCells 202 = .ok (.getfield 24, 3) := by decide +kernel
theorem qd_Mut_doWithCells_205 : decode qc_Mut_doWithCells 205 = .ok (.iload_n 3, 1) := by decide +kernel
theorem qd_Mut_doWithCells_206 : decode qc_Mut_doWithCells 206 = .ok (.iaload, 1) := by decide +kernel
theorem qd_Mut_doWithCells_207 : decode qc_Mut_doWithCells 207 = .ok (.iconst 2, 1) := by decide +kernel
theorem qd_Mut_doWithCells_208 : decode qc_Mut_doWithCells 208 = .ok (.aload_n 0, 1) := by decide +kernel
theorem qd_Mut_doWithCells_209 : decode qc_Mut_doWithCells 209 = .ok (.getfield 27, 3) := by decide +kernel
theorem qd_Mut_doWithCells_212 : decode qc_Mut_doWithCells 212 = .ok (.iload 4, 2) := by decide +kernel
theorem qd_Mut_doWithCells_214 : decode qc_Mut_doWithCells 214 = .ok (.iaload, 1) := by decide +kernel
theorem qd_Mut_doWithCells_215 : decode qc_Mut_doWithCells 215 = .ok (.invokevirtual 76, 3) := by decide +kernel
theorem qd_Mut_doWithCells_218 : decode qc_Mut_doWithCells 218 = .ok (.ireturn, 1) := by decide +kernel
