abbrev qc_Qs_init : ByteArray := prog_1_method_1_code
abbrev qy_Qs_init : MethodName := ⟨"QuietSweep", "<init>", "(I)V"⟩
abbrev ql_Qs_init : Cond := .code qy_Qs_init qc_Qs_init 3 none
theorem qd_Qs_init_0 : decode qc_Qs_init 0 = .ok (.aload_n 0, 1) := by decide +kernel
theorem qd_Qs_init_1 : decode qc_Qs_init 1 = .ok (.invokespecial 1, 3) := by decide +kernel
theorem qd_Qs_init_4 : decode qc_Qs_init 4 = .ok (.aload_n 0, 1) := by decide +kernel
theorem qd_Qs_init_5 : decode qc_Qs_init 5 = .ok (.new 7, 3) := by decide +kernel
theorem qd_Qs_init_8 : decode qc_Qs_init 8 = .ok (.dup, 1) := by decide +kernel
theorem qd_Qs_init_9 : decode qc_Qs_init 9 = .ok (.invokespecial 9, 3) := by decide +kernel
theorem qd_Qs_init_12 : decode qc_Qs_init 12 = .ok (.putfield 10, 3) := by decide +kernel
theorem qd_Qs_init_15 : decode qc_Qs_init 15 = .ok (.aload_n 0, 1) := by decide +kernel
theorem qd_Qs_init_16 : decode qc_Qs_init 16 = .ok (.new 16, 3) := by decide +kernel
theorem qd_Qs_init_19 : decode qc_Qs_init 19 = .ok (.dup, 1) := by decide +kernel
theorem qd_Qs_init_20 : decode qc_Qs_init 20 = .ok (.iconst 4, 1) := by decide +kernel
theorem qd_Qs_init_21 : decode qc_Qs_init 21 = .ok (.iload_n 1, 1) := by decide +kernel
theorem qd_Qs_init_22 : decode qc_Qs_init 22 = .ok (.bipush 7, 2) := by decide +kernel
theorem qd_Qs_init_24 : decode qc_Qs_init 24 = .ok (.iand, 1) := by decide +kernel
theorem qd_Qs_init_25 : decode qc_Qs_init 25 = .ok (.iadd, 1) := by decide +kernel
theorem qd_Qs_init_26 : decode qc_Qs_init 26 = .ok (.invokespecial 18, 3) := by decide +kernel
theorem qd_Qs_init_29 : decode qc_Qs_init 29 = .ok (.putfield 21, 3) := by decide +kernel
theorem qd_Qs_init_32 : decode qc_Qs_init 32 = .ok (.aload_n 0, 1) := by decide +kernel
theorem qd_Qs_init_33 : decode qc_Qs_init 33 = .ok (.iconst 2, 1) := by decide +kernel
theorem qd_Qs_init_34 : decode qc_Qs_init 34 = .ok (.anewarray 25, 3) := by decide +kernel
theorem qd_Qs_init_37 : decode qc_Qs_init 37 = .ok (.putfield 27, 3) := by decide +kernel
theorem qd_Qs_init_40 : decode qc_Qs_init 40 = .ok (.iconst 0, 1) := by decide +kernel
theorem qd_Qs_init_41 : decode qc_Qs_init 41 = .ok (.istore_n 2, 1) := by decide +kernel
theorem qd_Qs_init_42 : decode qc_Qs_init 42 = .ok (.iload_n 2, 1) := by decide +kernel
theorem qd_Qs_init_43 : decode qc_Qs_init 43 = .ok (.iconst 2, 1) := by decide +kernel
theorem qd_Qs_init_44 : decode qc_Qs_init 44 = .ok (.if_icmp .ge 22, 3) := by decide +kernel
theorem qd_Qs_init_47 : decode qc_Qs_init 47 = .ok (.aload_n 0, 1) := by decide +kernel
theorem qd_Qs_init_48 : decode qc_Qs_init 48 = .ok (.getfield 27, 3) := by decide +kernel
theorem qd_Qs_init_51 : decode qc_Qs_init 51 = .ok (.iload_n 2, 1) := by decide +kernel
theorem qd_Qs_init_52 : decode qc_Qs_init 52 = .ok (.new 25, 3) := by decide +kernel
theorem qd_Qs_init_55 : decode qc_Qs_init 55 = .ok (.dup, 1) := by decide +kernel
theorem qd_Qs_init_56 : decode qc_Qs_init 56 = .ok (.invokespecial 31, 3) := by decide +kernel
theorem qd_Qs_init_59 : decode qc_Qs_init 59 = .ok (.aastore, 1) := by decide +kernel
theorem qd_Qs_init_60 : decode qc_Qs_init 60 = .ok (.iinc 2 1, 3) := by decide +kernel
theorem qd_Qs_init_63 : decode qc_Qs_init 63 = .ok (.goto (-21), 3) := by decide +kernel
theorem qd_Qs_init_66 : decode qc_Qs_init 66 = .ok (.aload_n 0, 1) := by decide +kernel
theorem qd_Qs_init_67 : decode qc_Qs_init 67 = .ok (.new 32, 3) := by decide +kernel
theorem qd_Qs_init_70 : decode qc_Qs_init 70 = .ok (.dup, 1) := by decide +kernel
theorem qd_Qs_init_71 : decode qc_Qs_init 71 = .ok (.invokespecial 34, 3) := by decide +kernel
theorem qd_Qs_init_74 : decode qc_Qs_init 74 = .ok (.putfield 35, 3) := by decide +kernel
theorem qd_Qs_init_77 : decode qc_Qs_init 77 = .ok (.return_, 1) := by decide +kernel
abbrev qc_Qs_write : ByteArray := prog_1_method_2_code
abbrev qy_Qs_write : MethodName := ⟨"QuietSweep", "write", "(C)Z"⟩
abbrev ql_Qs_write : Cond := .code qy_Qs_write qc_Qs_write 2 (some .boolean)
theorem qd_Qs_write_0 : decode qc_Qs_write 0 = .ok (.aload_n 0, 1) := by decide +kernel
theorem qd_Qs_write_1 : decode qc_Qs_write 1 = .ok (.getfield 10, 3) := by decide +kernel
theorem qd_Qs_write_4 : decode qc_Qs_write 4 = .ok (.iload_n 1, 1) := by decide +kernel
theorem qd_Qs_write_5 : decode qc_Qs_write 5 = .ok (.invokevirtual 39, 3) := by decide +kernel
theorem qd_Qs_write_8 : decode qc_Qs_write 8 = .ok (.ireturn, 1) := by decide +kernel
abbrev qc_Qs_load : ByteArray := prog_1_method_3_code
abbrev qy_Qs_load : MethodName := ⟨"QuietSweep", "load", "(I)I"⟩
abbrev ql_Qs_load : Cond := .code qy_Qs_load qc_Qs_load 3 (some .int)
theorem qd_Qs_load_0 : decode qc_Qs_load 0 = .ok (.aload_n 0, 1) := by decide +kernel
theorem qd_Qs_load_1 : decode qc_Qs_load 1 = .ok (.getfield 10, 3) := by decide +kernel
theorem qd_Qs_load_4 : decode qc_Qs_load 4 = .ok (.invokevirtual 43, 3) := by decide +kernel
theorem qd_Qs_load_7 : decode qc_Qs_load 7 = .ok (.istore_n 2, 1) := by decide +kernel
theorem qd_Qs_load_8 : decode qc_Qs_load 8 = .ok (.aload_n 0, 1) := by decide +kernel
theorem qd_Qs_load_9 : decode qc_Qs_load 9 = .ok (.getfield 10, 3) := by decide +kernel
theorem qd_Qs_load_12 : decode qc_Qs_load 12 = .ok (.invokevirtual 47, 3) := by decide +kernel
theorem qd_Qs_load_15 : decode qc_Qs_load 15 = .ok (.iload_n 1, 1) := by decide +kernel
theorem qd_Qs_load_16 : decode qc_Qs_load 16 = .ok (.invokestatic 50, 3) := by decide +kernel
theorem qd_Qs_load_19 : decode qc_Qs_load 19 = .ok (.ifCond .ne 5, 3) := by decide +kernel
theorem qd_Qs_load_22 : decode qc_Qs_load 22 = .ok (.iconst (-1), 1) := by decide +kernel
theorem qd_Qs_load_23 : decode qc_Qs_load 23 = .ok (.ireturn, 1) := by decide +kernel
theorem qd_Qs_load_24 : decode qc_Qs_load 24 = .ok (.iload_n 2, 1) := by decide +kernel
theorem qd_Qs_load_25 : decode qc_Qs_load 25 = .ok (.ifCond .ne 6, 3) := by decide +kernel
theorem qd_Qs_load_28 : decode qc_Qs_load 28 = .ok (.bipush (-2), 2) := by decide +kernel
theorem qd_Qs_load_30 : decode qc_Qs_load 30 = .ok (.ireturn, 1) := by decide +kernel
theorem qd_Qs_load_31 : decode qc_Qs_load 31 = .ok (.aload_n 0, 1) := by decide +kernel
theorem qd_Qs_load_32 : decode qc_Qs_load 32 = .ok (.getfield 27, 3) := by decide +kernel
theorem qd_Qs_load_35 : decode qc_Qs_load 35 = .ok (.iload_n 1, 1) := by decide +kernel
theorem qd_Qs_load_36 : decode qc_Qs_load 36 = .ok (.aaload, 1) := by decide +kernel
theorem qd_Qs_load_37 : decode qc_Qs_load 37 = .ok (.aload_n 0, 1) := by decide +kernel
theorem qd_Qs_load_38 : decode qc_Qs_load 38 = .ok (.getfield 10, 3) := by decide +kernel
theorem qd_Qs_load_41 : decode qc_Qs_load 41 = .ok (.getfield 54, 3) := by decide +kernel
theorem qd_Qs_load_44 : decode qc_Qs_load 44 = .ok (.aload_n 0, 1) := by decide +kernel
theorem qd_Qs_load_45 : decode qc_Qs_load 45 = .ok (.getfield 10, 3) := by decide +kernel
theorem qd_Qs_load_48 : decode qc_Qs_load 48 = .ok (.getfield 58, 3) := by decide +kernel
theorem qd_Qs_load_51 : decode qc_Qs_load 51 = .ok (.invokevirtual 62, 3) := by decide +kernel
theorem qd_Qs_load_54 : decode qc_Qs_load 54 = .ok (.aload_n 0, 1) := by decide +kernel
theorem qd_Qs_load_55 : decode qc_Qs_load 55 = .ok (.getfield 10, 3) := by decide +kernel
theorem qd_Qs_load_58 : decode qc_Qs_load 58 = .ok (.getfield 58, 3) := by decide +kernel
theorem qd_Qs_load_61 : decode qc_Qs_load 61 = .ok (.ireturn, 1) := by decide +kernel
abbrev qc_Qs_isMutator : ByteArray := prog_1_method_24_code
abbrev qy_Qs_isMutator : MethodName := ⟨"QuietSweep", "isMutator", "(I)Z"⟩
abbrev ql_Qs_isMutator : Cond := .code qy_Qs_isMutator qc_Qs_isMutator 1 (some .boolean)
theorem qd_Qs_isMutator_0 : decode qc_Qs_isMutator 0 = .ok (.iload_n 0, 1) := by decide +kernel
theorem qd_Qs_isMutator_1 : decode qc_Qs_isMutator 1 = .ok (.ifCond .lt 12, 3) := by decide +kernel
theorem qd_Qs_isMutator_4 : decode qc_Qs_isMutator 4 = .ok (.iload_n 0, 1) := by decide +kernel
theorem qd_Qs_isMutator_5 : decode qc_Qs_isMutator 5 = .ok (.iconst 2, 1) := by decide +kernel
theorem qd_Qs_isMutator_6 : decode qc_Qs_isMutator 6 = .ok (.if_icmp .ge 7, 3) := by decide +kernel
theorem qd_Qs_isMutator_9 : decode qc_Qs_isMutator 9 = .ok (.iconst 1, 1) := by decide +kernel
theorem qd_Qs_isMutator_10 : decode qc_Qs_isMutator 10 = .ok (.goto 4, 3) := by decide +kernel
theorem qd_Qs_isMutator_13 : decode qc_Qs_isMutator 13 = .ok (.iconst 0, 1) := by decide +kernel
theorem qd_Qs_isMutator_14 : decode qc_Qs_isMutator 14 = .ok (.ireturn, 1) := by decide +kernel
abbrev qc_Qs_go : ByteArray := prog_1_method_4_code
abbrev qy_Qs_go : MethodName := ⟨"QuietSweep", "go", "(II)I"⟩
abbrev ql_Qs_go : Cond := .code qy_Qs_go qc_Qs_go 5 (some .int)
theorem qd_Qs_go_0 : decode qc_Qs_go 0 = .ok (.iload_n 2, 1) := by decide +kernel
theorem qd_Qs_go_1 : decode qc_Qs_go 1 = .ok (.ifCond .lt 9, 3) := by decide +kernel
theorem qd_Qs_go_4 : decode qc_Qs_go 4 = .ok (.iload_n 2, 1) := by decide +kernel
theorem qd_Qs_go_5 : decode qc_Qs_go 5 = .ok (.bipush 10, 2) := by decide +kernel
theorem qd_Qs_go_7 : decode qc_Qs_go 7 = .ok (.if_icmp .le 5, 3) := by decide +kernel
theorem qd_Qs_go_10 : decode qc_Qs_go 10 = .ok (.iconst (-1), 1) := by decide +kernel
theorem qd_Qs_go_11 : decode qc_Qs_go 11 = .ok (.ireturn, 1) := by decide +kernel
theorem qd_Qs_go_12 : decode qc_Qs_go 12 = .ok (.iconst 0, 1) := by decide +kernel
theorem qd_Qs_go_13 : decode qc_Qs_go 13 = .ok (.istore_n 3, 1) := by decide +kernel
theorem qd_Qs_go_14 : decode qc_Qs_go 14 = .ok (.iconst 0, 1) := by decide +kernel
theorem qd_Qs_go_15 : decode qc_Qs_go 15 = .ok (.istore 4, 2) := by decide +kernel
theorem qd_Qs_go_17 : decode qc_Qs_go 17 = .ok (.iload 4, 2) := by decide +kernel
theorem qd_Qs_go_19 : decode qc_Qs_go 19 = .ok (.iload_n 2, 1) := by decide +kernel
theorem qd_Qs_go_20 : decode qc_Qs_go 20 = .ok (.if_icmp .ge 28, 3) := by decide +kernel
theorem qd_Qs_go_23 : decode qc_Qs_go 23 = .ok (.aload_n 0, 1) := by decide +kernel
theorem qd_Qs_go_24 : decode qc_Qs_go 24 = .ok (.iload_n 1, 1) := by decide +kernel
theorem qd_Qs_go_25 : decode qc_Qs_go 25 = .ok (.iconst 3, 1) := by decide +kernel
theorem qd_Qs_go_26 : decode qc_Qs_go 26 = .ok (.iload 4, 2) := by decide +kernel
theorem qd_Qs_go_28 : decode qc_Qs_go 28 = .ok (.imul, 1) := by decide +kernel
theorem qd_Qs_go_29 : decode qc_Qs_go 29 = .ok (.iushr, 1) := by decide +kernel
theorem qd_Qs_go_30 : decode qc_Qs_go 30 = .ok (.bipush 7, 2) := by decide +kernel
theorem qd_Qs_go_32 : decode qc_Qs_go 32 = .ok (.iand, 1) := by decide +kernel
theorem qd_Qs_go_33 : decode qc_Qs_go 33 = .ok (.invokevirtual 66, 3) := by decide +kernel
theorem qd_Qs_go_36 : decode qc_Qs_go 36 = .ok (.ifCond .eq 6, 3) := by decide +kernel
theorem qd_Qs_go_39 : decode qc_Qs_go 39 = .ok (.iinc 3 1, 3) := by decide +kernel
theorem qd_Qs_go_42 : decode qc_Qs_go 42 = .ok (.iinc 4 1, 3) := by decide +kernel
theorem qd_Qs_go_45 : decode qc_Qs_go 45 = .ok (.goto (-28), 3) := by decide +kernel
theorem qd_Qs_go_48 : decode qc_Qs_go 48 = .ok (.iload_n 3, 1) := by decide +kernel
theorem qd_Qs_go_49 : decode qc_Qs_go 49 = .ok (.ireturn, 1) := by decide +kernel
abbrev qc_Qs_doEntry : ByteArray := prog_1_method_22_code
abbrev qy_Qs_doEntry : MethodName := ⟨"QuietSweep", "doEntry", "(I)Z"⟩
abbrev ql_Qs_doEntry : Cond := .code qy_Qs_doEntry qc_Qs_doEntry 3 (some .boolean)
theorem qd_Qs_doEntry_0 : decode qc_Qs_doEntry 0 = .ok (.aload_n 0, 1) := by decide +kernel
theorem qd_Qs_doEntry_1 : decode qc_Qs_doEntry 1 = .ok (.getfield 27, 3) := by decide +kernel
theorem qd_Qs_doEntry_4 : decode qc_Qs_doEntry 4 = .ok (.iload_n 1, 1) := by decide +kernel
theorem qd_Qs_doEntry_5 : decode qc_Qs_doEntry 5 = .ok (.iconst 1, 1) := by decide +kernel
theorem qd_Qs_doEntry_6 : decode qc_Qs_doEntry 6 = .ok (.iand, 1) := by decide +kernel
theorem qd_Qs_doEntry_7 : decode qc_Qs_doEntry 7 = .ok (.aaload, 1) := by decide +kernel
theorem qd_Qs_doEntry_8 : decode qc_Qs_doEntry 8 = .ok (.astore_n 2, 1) := by decide +kernel
theorem qd_Qs_doEntry_9 : decode qc_Qs_doEntry 9 = .ok (.iload_n 1, 1) := by decide +kernel
theorem qd_Qs_doEntry_10 : decode qc_Qs_doEntry 10 = .ok (.iconst 1, 1) := by decide +kernel
theorem qd_Qs_doEntry_11 : decode qc_Qs_doEntry 11 = .ok (.ishr, 1) := by decide +kernel
theorem qd_Qs_doEntry_12 : decode qc_Qs_doEntry 12 = .ok (.tableswitch 65 0 2 #[28, 37, 49], 28) := by decide +kernel
theorem qd_Qs_doEntry_40 : decode qc_Qs_doEntry 40 = .ok (.aload_n 2, 1) := by decide +kernel
theorem qd_Qs_doEntry_41 : decode qc_Qs_doEntry 41 = .ok (.aload_n 0, 1) := by decide +kernel
theorem qd_Qs_doEntry_42 : decode qc_Qs_doEntry 42 = .ok (.getfield 21, 3) := by decide +kernel
theorem qd_Qs_doEntry_45 : decode qc_Qs_doEntry 45 = .ok (.invokevirtual 139, 3) := by decide +kernel
theorem qd_Qs_doEntry_48 : decode qc_Qs_doEntry 48 = .ok (.ireturn, 1) := by decide +kernel
theorem qd_Qs_doEntry_49 : decode qc_Qs_doEntry 49 = .ok (.aload_n 2, 1) := by decide +kernel
theorem qd_Qs_doEntry_50 : decode qc_Qs_doEntry 50 = .ok (.getfield 82, 3) := by decide +kernel
theorem qd_Qs_doEntry_53 : decode qc_Qs_doEntry 53 = .ok (.aload_n 0, 1) := by decide +kernel
theorem qd_Qs_doEntry_54 : decode qc_Qs_doEntry 54 = .ok (.getfield 21, 3) := by decide +kernel
theorem qd_Qs_doEntry_57 : decode qc_Qs_doEntry 57 = .ok (.invokevirtual 143, 3) := by decide +kernel
theorem qd_Qs_doEntry_60 : decode qc_Qs_doEntry 60 = .ok (.ireturn, 1) := by decide +kernel
theorem qd_Qs_doEntry_61 : decode qc_Qs_doEntry 61 = .ok (.aload_n 2, 1) := by decide +kernel
theorem qd_Qs_doEntry_62 : decode qc_Qs_doEntry 62 = .ok (.aload_n 0, 1) := by decide +kernel
theorem qd_Qs_doEntry_63 : decode qc_Qs_doEntry 63 = .ok (.getfield 21, 3) := by decide +kernel
theorem qd_Qs_doEntry_66 : decode qc_Qs_doEntry 66 = .ok (.aload_n 0, 1) := by decide +kernel
theorem qd_Qs_doEntry_67 : decode qc_Qs_doEntry 67 = .ok (.getfield 35, 3) := by decide +kernel
theorem qd_Qs_doEntry_70 : decode qc_Qs_doEntry 70 = .ok (.invokevirtual 146, 3) := by decide +kernel
theorem qd_Qs_doEntry_73 : decode qc_Qs_doEntry 73 = .ok (.invokevirtual 149, 3) := by decide +kernel
theorem qd_Qs_doEntry_76 : decode qc_Qs_doEntry 76 = .ok (.ireturn, 1) := by decide +kernel
theorem qd_Qs_doEntry_77 : decode qc_Qs_doEntry 77 = .ok (.aload_n 0, 1) := by decide +kernel
theorem qd_Qs_doEntry_78 : decode qc_Qs_doEntry 78 = .ok (.getfield 35, 3) := by decide +kernel
theorem qd_Qs_doEntry_81 : decode qc_Qs_doEntry 81 = .ok (.aload_n 0, 1) := by decide +kernel
theorem qd_Qs_doEntry_82 : decode qc_Qs_doEntry 82 = .ok (.getfield 21, 3) := by decide +kernel
theorem qd_Qs_doEntry_85 : decode qc_Qs_doEntry 85 = .ok (.aload_n 0, 1) := by decide +kernel
theorem qd_Qs_doEntry_86 : decode qc_Qs_doEntry 86 = .ok (.getfield 27, 3) := by decide +kernel
theorem qd_Qs_doEntry_89 : decode qc_Qs_doEntry 89 = .ok (.invokevirtual 153, 3) := by decide +kernel
theorem qd_Qs_doEntry_92 : decode qc_Qs_doEntry 92 = .ok (.ireturn, 1) := by decide +kernel
abbrev qc_Qs_repeat : ByteArray := prog_1_method_5_code
abbrev qy_Qs_repeat : MethodName := ⟨"QuietSweep", "repeat", "(II)I"⟩
abbrev ql_Qs_repeat : Cond := .code qy_Qs_repeat qc_Qs_repeat 5 (some .int)
theorem qd_Qs_repeat_0 : decode qc_Qs_repeat 0 = .ok (.iload_n 1, 1) := by decide +kernel
theorem qd_Qs_repeat_1 : decode qc_Qs_repeat 1 = .ok (.ifCond .lt 19, 3) := by decide +kernel
theorem qd_Qs_repeat_4 : decode qc_Qs_repeat 4 = .ok (.iload_n 1, 1) := by decide +kernel
theorem qd_Qs_repeat_5 : decode qc_Qs_repeat 5 = .ok (.bipush 8, 2) := by decide +kernel
theorem qd_Qs_repeat_7 : decode qc_Qs_repeat 7 = .ok (.if_icmp .ge 13, 3) := by decide +kernel
theorem qd_Qs_repeat_10 : decode qc_Qs_repeat 10 = .ok (.iload_n 2, 1) := by decide +kernel
theorem qd_Qs_repeat_11 : decode qc_Qs_repeat 11 = .ok (.ifCond .lt 9, 3) := by decide +kernel
theorem qd_Qs_repeat_14 : decode qc_Qs_repeat 14 = .ok (.iload_n 2, 1) := by decide +kernel
theorem qd_Qs_repeat_15 : decode qc_Qs_repeat 15 = .ok (.bipush 60, 2) := by decide +kernel
theorem qd_Qs_repeat_17 : decode qc_Qs_repeat 17 = .ok (.if_icmp .le 5, 3) := by decide +kernel
theorem qd_Qs_repeat_20 : decode qc_Qs_repeat 20 = .ok (.iconst (-1), 1) := by decide +kernel
theorem qd_Qs_repeat_21 : decode qc_Qs_repeat 21 = .ok (.ireturn, 1) := by decide +kernel
theorem qd_Qs_repeat_22 : decode qc_Qs_repeat 22 = .ok (.iconst 0, 1) := by decide +kernel
theorem qd_Qs_repeat_23 : decode qc_Qs_repeat 23 = .ok (.istore_n 3, 1) := by decide +kernel
theorem qd_Qs_repeat_24 : decode qc_Qs_repeat 24 = .ok (.iconst 0, 1) := by decide +kernel
theorem qd_Qs_repeat_25 : decode qc_Qs_repeat 25 = .ok (.istore 4, 2) := by decide +kernel
theorem qd_Qs_repeat_27 : decode qc_Qs_repeat 27 = .ok (.iload 4, 2) := by decide +kernel
theorem qd_Qs_repeat_29 : decode qc_Qs_repeat 29 = .ok (.iload_n 2, 1) := by decide +kernel
theorem qd_Qs_repeat_30 : decode qc_Qs_repeat 30 = .ok (.if_icmp .ge 20, 3) := by decide +kernel
theorem qd_Qs_repeat_33 : decode qc_Qs_repeat 33 = .ok (.aload_n 0, 1) := by decide +kernel
theorem qd_Qs_repeat_34 : decode qc_Qs_repeat 34 = .ok (.iload_n 1, 1) := by decide +kernel
theorem qd_Qs_repeat_35 : decode qc_Qs_repeat 35 = .ok (.invokevirtual 66, 3) := by decide +kernel
theorem qd_Qs_repeat_38 : decode qc_Qs_repeat 38 = .ok (.ifCond .eq 6, 3) := by decide +kernel
theorem qd_Qs_repeat_41 : decode qc_Qs_repeat 41 = .ok (.iinc 3 1, 3) := by decide +kernel
theorem qd_Qs_repeat_44 : decode qc_Qs_repeat 44 = .ok (.iinc 4 1, 3) := by decide +kernel
theorem qd_Qs_repeat_47 : decode qc_Qs_repeat 47 = .ok (.goto (-20), 3) := by decide +kernel
theorem qd_Qs_repeat_50 : decode qc_Qs_repeat 50 = .ok (.iload_n 3, 1) := by decide +kernel
theorem qd_Qs_repeat_51 : decode qc_Qs_repeat 51 = .ok (.ireturn, 1) := by decide +kernel
abbrev qc_Qs_code : ByteArray := prog_1_method_6_code
abbrev qy_Qs_code : MethodName := ⟨"QuietSweep", "code", "(II)I"⟩
abbrev ql_Qs_code : Cond := .code qy_Qs_code qc_Qs_code 3 (some .int)
theorem qd_Qs_code_0 : decode qc_Qs_code 0 = .ok (.iload_n 1, 1) := by decide +kernel
theorem qd_Qs_code_1 : decode qc_Qs_code 1 = .ok (.invokestatic 50, 3) := by decide +kernel
theorem qd_Qs_code_4 : decode qc_Qs_code 4 = .ok (.ifCond .eq 16, 3) := by decide +kernel
theorem qd_Qs_code_7 : decode qc_Qs_code 7 = .ok (.aload_n 0, 1) := by decide +kernel
theorem qd_Qs_code_8 : decode qc_Qs_code 8 = .ok (.getfield 27, 3) := by decide +kernel
theorem qd_Qs_code_11 : decode qc_Qs_code 11 = .ok (.iload_n 1, 1) := by decide +kernel
theorem qd_Qs_code_12 : decode qc_Qs_code 12 = .ok (.aaload, 1) := by decide +kernel
theorem qd_Qs_code_13 : decode qc_Qs_code 13 = .ok (.iload_n 2, 1) := by decide +kernel
theorem qd_Qs_code_14 : decode qc_Qs_code 14 = .ok (.invokevirtual 69, 3) := by decide +kernel
theorem qd_Qs_code_17 : decode qc_Qs_code 17 = .ok (.goto 4, 3) := by decide +kernel
theorem qd_Qs_code_20 : decode qc_Qs_code 20 = .ok (.iconst (-1), 1) := by decide +kernel
theorem qd_Qs_code_21 : decode qc_Qs_code 21 = .ok (.ireturn, 1) := by decide +kernel
abbrev qc_Qs_position : ByteArray := prog_1_method_7_code
abbrev qy_Qs_position : MethodName := ⟨"QuietSweep", "position", "(I)I"⟩
abbrev ql_Qs_position : Cond := .code qy_Qs_position qc_Qs_position 2 (some .int)
theorem qd_Qs_position_0 : decode qc_Qs_position 0 = .ok (.iload_n 1, 1) := by decide +kernel
theorem qd_Qs_position_1 : decode qc_Qs_position 1 = .ok (.invokestatic 50, 3) := by decide +kernel
theorem qd_Qs_position_4 : decode qc_Qs_position 4 = .ok (.ifCond .eq 15, 3) := by decide +kernel
theorem qd_Qs_position_7 : decode qc_Qs_position 7 = .ok (.aload_n 0, 1) := by decide +kernel
theorem qd_Qs_position_8 : decode qc_Qs_position 8 = .ok (.getfield 27, 3) := by decide +kernel
theorem qd_Qs_position_11 : decode qc_Qs_position 11 = .ok (.iload_n 1, 1) := by decide +kernel
theorem qd_Qs_position_12 : decode qc_Qs_position 12 = .ok (.aaload, 1) := by decide +kernel
theorem qd_Qs_position_13 : decode qc_Qs_position 13 = .ok (.getfield 73, 3) := by decide +kernel
theorem qd_Qs_position_16 : decode qc_Qs_position 16 = .ok (.goto 4, 3) := by decide +kernel
theorem qd_Qs_position_19 : decode qc_Qs_position 19 = .ok (.iconst (-1), 1) := by decide +kernel
theorem qd_Qs_position_20 : decode qc_Qs_position 20 = .ok (.ireturn, 1) := by decide +kernel
abbrev qc_Qs_variable : ByteArray := prog_1_method_8_code
abbrev qy_Qs_variable : MethodName := ⟨"QuietSweep", "variable", "(II)I"⟩
abbrev ql_Qs_variable : Cond := .code qy_Qs_variable qc_Qs_variable 3 (some .int)
theorem qd_Qs_variable_0 : decode qc_Qs_variable 0 = .ok (.iload_n 1, 1) := by decide +kernel
theorem qd_Qs_variable_1 : decode qc_Qs_variable 1 = .ok (.invokestatic 50, 3) := by decide +kernel
theorem qd_Qs_variable_4 : decode qc_Qs_variable 4 = .ok (.ifCond .eq 16, 3) := by decide +kernel
theorem qd_Qs_variable_7 : decode qc_Qs_variable 7 = .ok (.aload_n 0, 1) := by decide +kernel
theorem qd_Qs_variable_8 : decode qc_Qs_variable 8 = .ok (.getfield 27, 3) := by decide +kernel
theorem qd_Qs_variable_11 : decode qc_Qs_variable 11 = .ok (.iload_n 1, 1) := by decide +kernel
theorem qd_Qs_variable_12 : decode qc_Qs_variable 12 = .ok (.aaload, 1) := by decide +kernel
theorem qd_Qs_variable_13 : decode qc_Qs_variable 13 = .ok (.iload_n 2, 1) := by decide +kernel
theorem qd_Qs_variable_14 : decode qc_Qs_variable 14 = .ok (.invokevirtual 76, 3) := by decide +kernel
theorem qd_Qs_variable_17 : decode qc_Qs_variable 17 = .ok (.goto 4, 3) := by decide +kernel
theorem qd_Qs_variable_20 : decode qc_Qs_variable 20 = .ok (.iconst (-1), 1) := by decide +kernel
theorem qd_Qs_variable_21 : decode qc_Qs_variable 21 = .ok (.ireturn, 1) := by decide +kernel
abbrev qc_Qs_status : ByteArray := prog_1_method_9_code
abbrev qy_Qs_status : MethodName := ⟨"QuietSweep", "status", "(I)I"⟩
abbrev ql_Qs_status : Cond := .code qy_Qs_status qc_Qs_status 2 (some .int)
theorem qd_Qs_status_0 : decode qc_Qs_status 0 = .ok (.iload_n 1, 1) := by decide +kernel
theorem qd_Qs_status_1 : decode qc_Qs_status 1 = .ok (.invokestatic 50, 3) := by decide +kernel
theorem qd_Qs_status_4 : decode qc_Qs_status 4 = .ok (.ifCond .eq 15, 3) := by decide +kernel
theorem qd_Qs_status_7 : decode qc_Qs_status 7 = .ok (.aload_n 0, 1) := by decide +kernel
theorem qd_Qs_status_8 : decode qc_Qs_status 8 = .ok (.getfield 27, 3) := by decide +kernel
theorem qd_Qs_status_11 : decode qc_Qs_status 11 = .ok (.iload_n 1, 1) := by decide +kernel
theorem qd_Qs_status_12 : decode qc_Qs_status 12 = .ok (.aaload, 1) := by decide +kernel
theorem qd_Qs_status_13 : decode qc_Qs_status 13 = .ok (.getfield 79, 3) := by decide +kernel
theorem qd_Qs_status_16 : decode qc_Qs_status 16 = .ok (.goto 4, 3) := by decide +kernel
theorem qd_Qs_status_19 : decode qc_Qs_status 19 = .ok (.iconst (-1), 1) := by decide +kernel
theorem qd_Qs_status_20 : decode qc_Qs_status 20 = .ok (.ireturn, 1) := by decide +kernel
abbrev qc_Qs_buffered : ByteArray := prog_1_method_10_code
abbrev qy_Qs_buffered : MethodName := ⟨"QuietSweep", "buffered", "(I)I"⟩
abbrev ql_Qs_buffered : Cond := .code qy_Qs_buffered qc_Qs_buffered 2 (some .int)
theorem qd_Qs_buffered_0 : decode qc_Qs_buffered 0 = .ok (.iload_n 1, 1) := by decide +kernel
theorem qd_Qs_buffered_1 : decode qc_Qs_buffered 1 = .ok (.invokestatic 50, 3) := by decide +kernel
theorem qd_Qs_buffered_4 : decode qc_Qs_buffered 4 = .ok (.ifCond .eq 18, 3) := by decide +kernel
theorem qd_Qs_buffered_7 : decode qc_Qs_buffered 7 = .ok (.aload_n 0, 1) := by decide +kernel
theorem qd_Qs_buffered_8 : decode qc_Qs_buffered 8 = .ok (.getfield 27, 3) := by decide +kernel
theorem qd_Qs_buffered_11 : decode qc_Qs_buffered 11 = .ok (.iload_n 1, 1) := by decide +kernel
theorem qd_Qs_buffered_12 : decode qc_Qs_buffered 12 = .ok (.aaload, 1) := by decide +kernel
theorem qd_Qs_buffered_13 : decode qc_Qs_buffered 13 = .ok (.getfield 82, 3) := by decide +kernel
theorem qd_Qs_buffered_16 : decode qc_Qs_buffered 16 = .ok (.getfield 86, 3) := by decide +kernel
theorem qd_Qs_buffered_19 : decode qc_Qs_buffered 19 = .ok (.goto 4, 3) := by decide +kernel
theorem qd_Qs_buffered_22 : decode qc_Qs_buffered 22 = .ok (.iconst (-1), 1) := by decide +kernel
theorem qd_Qs_buffered_23 : decode qc_Qs_buffered 23 = .ok (.ireturn, 1) := by decide +kernel
abbrev qc_Qs_stalls : ByteArray := prog_1_method_11_code
abbrev qy_Qs_stalls : MethodName := ⟨"QuietSweep", "stalls", "(I)I"⟩
abbrev ql_Qs_stalls : Cond := .code qy_Qs_stalls qc_Qs_stalls 2 (some .int)
theorem qd_Qs_stalls_0 : decode qc_Qs_stalls 0 = .ok (.iload_n 1, 1) := by decide +kernel
theorem qd_Qs_stalls_1 : decode qc_Qs_stalls 1 = .ok (.invokestatic 50, 3) := by decide +kernel
theorem qd_Qs_stalls_4 : decode qc_Qs_stalls 4 = .ok (.ifCond .eq 15, 3) := by decide +kernel
theorem qd_Qs_stalls_7 : decode qc_Qs_stalls 7 = .ok (.aload_n 0, 1) := by decide +kernel
theorem qd_Qs_stalls_8 : decode qc_Qs_stalls 8 = .ok (.getfield 27, 3) := by decide +kernel
theorem qd_Qs_stalls_11 : decode qc_Qs_stalls 11 = .ok (.iload_n 1, 1) := by decide +kernel
theorem qd_Qs_stalls_12 : decode qc_Qs_stalls 12 = .ok (.aaload, 1) := by decide +kernel
theorem qd_Qs_stalls_13 : decode qc_Qs_stalls 13 = .ok (.getfield 91, 3) := by decide +kernel
theorem qd_Qs_stalls_16 : decode qc_Qs_stalls 16 = .ok (.goto 4, 3) := by decide +kernel
theorem qd_Qs_stalls_19 : decode qc_Qs_stalls 19 = .ok (.iconst (-1), 1) := by decide +kernel
theorem qd_Qs_stalls_20 : decode qc_Qs_stalls 20 = .ok (.ireturn, 1) := by decide +kernel
abbrev qc_Qs_outputs : ByteArray := prog_1_method_12_code
abbrev qy_Qs_outputs : MethodName := ⟨"QuietSweep", "outputs", "(I)I"⟩
abbrev ql_Qs_outputs : Cond := .code qy_Qs_outputs qc_Qs_outputs 2 (some .int)
theorem qd_Qs_outputs_0 : decode qc_Qs_outputs 0 = .ok (.iload_n 1, 1) := by decide +kernel
theorem qd_Qs_outputs_1 : decode qc_Qs_outputs 1 = .ok (.invokestatic 50, 3) := by decide +kernel
theorem qd_Qs_outputs_4 : decode qc_Qs_outputs 4 = .ok (.ifCond .eq 18, 3) := by decide +kernel
theorem qd_Qs_outputs_7 : decode qc_Qs_outputs 7 = .ok (.aload_n 0, 1) := by decide +kernel
theorem qd_Qs_outputs_8 : decode qc_Qs_outputs 8 = .ok (.getfield 27, 3) := by decide +kernel
theorem qd_Qs_outputs_11 : decode qc_Qs_outputs 11 = .ok (.iload_n 1, 1) := by decide +kernel
theorem qd_Qs_outputs_12 : decode qc_Qs_outputs 12 = .ok (.aaload, 1) := by decide +kernel
theorem qd_Qs_outputs_13 : decode qc_Qs_outputs 13 = .ok (.getfield 94, 3) := by decide +kernel
theorem qd_Qs_outputs_16 : decode qc_Qs_outputs 16 = .ok (.getfield 98, 3) := by decide +kernel
theorem qd_Qs_outputs_19 : decode qc_Qs_outputs 19 = .ok (.goto 4, 3) := by decide +kernel
theorem qd_Qs_outputs_22 : decode qc_Qs_outputs 22 = .ok (.iconst (-1), 1) := by decide +kernel
theorem qd_Qs_outputs_23 : decode qc_Qs_outputs 23 = .ok (.ireturn, 1) := by decide +kernel
abbrev qc_Qs_output : ByteArray := prog_1_method_13_code
abbrev qy_Qs_output : MethodName := ⟨"QuietSweep", "output", "(II)I"⟩
abbrev ql_Qs_output : Cond := .code qy_Qs_output qc_Qs_output 3 (some .int)
theorem qd_Qs_output_0 : decode qc_Qs_output 0 = .ok (.iload_n 1, 1) := by decide +kernel
theorem qd_Qs_output_1 : decode qc_Qs_output 1 = .ok (.invokestatic 50, 3) := by decide +kernel
theorem qd_Qs_output_4 : decode qc_Qs_output 4 = .ok (.ifCond .eq 19, 3) := by decide +kernel
theorem qd_Qs_output_7 : decode qc_Qs_output 7 = .ok (.aload_n 0, 1) := by decide +kernel
theorem qd_Qs_output_8 : decode qc_Qs_output 8 = .ok (.getfield 27, 3) := by decide +kernel
theorem qd_Qs_output_11 : decode qc_Qs_output 11 = .ok (.iload_n 1, 1) := by decide +kernel
theorem qd_Qs_output_12 : decode qc_Qs_output 12 = .ok (.aaload, 1) := by decide +kernel
theorem qd_Qs_output_13 : decode qc_Qs_output 13 = .ok (.getfield 94, 3) := by decide +kernel
theorem qd_Qs_output_16 : decode qc_Qs_output 16 = .ok (.iload_n 2, 1) := by decide +kernel
theorem qd_Qs_output_17 : decode qc_Qs_output 17 = .ok (.invokevirtual 101, 3) := by decide +kernel
theorem qd_Qs_output_20 : decode qc_Qs_output 20 = .ok (.goto 4, 3) := by decide +kernel
theorem qd_Qs_output_23 : decode qc_Qs_output 23 = .ok (.iconst 0, 1) := by decide +kernel
theorem qd_Qs_output_24 : decode qc_Qs_output 24 = .ok (.ireturn, 1) := by decide +kernel
abbrev qc_Qs_colour : ByteArray := prog_1_method_14_code
abbrev qy_Qs_colour : MethodName := ⟨"QuietSweep", "colour", "(I)I"⟩
abbrev ql_Qs_colour : Cond := .code qy_Qs_colour qc_Qs_colour 2 (some .int)
theorem qd_Qs_colour_0 : decode qc_Qs_colour 0 = .ok (.aload_n 0, 1) := by decide +kernel
theorem qd_Qs_colour_1 : decode qc_Qs_colour 1 = .ok (.getfield 21, 3) := by decide +kernel
theorem qd_Qs_colour_4 : decode qc_Qs_colour 4 = .ok (.iload_n 1, 1) := by decide +kernel
theorem qd_Qs_colour_5 : decode qc_Qs_colour 5 = .ok (.invokevirtual 104, 3) := by decide +kernel
theorem qd_Qs_colour_8 : decode qc_Qs_colour 8 = .ok (.ifCond .eq 15, 3) := by decide +kernel
theorem qd_Qs_colour_11 : decode qc_Qs_colour 11 = .ok (.aload_n 0, 1) := by decide +kernel
theorem qd_Qs_colour_12 : decode qc_Qs_colour 12 = .ok (.getfield 21, 3) := by decide +kernel
theorem qd_Qs_colour_15 : decode qc_Qs_colour 15 = .ok (.getfield 107, 3) := by decide +kernel
theorem qd_Qs_colour_18 : decode qc_Qs_colour 18 = .ok (.iload_n 1, 1) := by decide +kernel
theorem qd_Qs_colour_19 : decode qc_Qs_colour 19 = .ok (.iaload, 1) := by decide +kernel
theorem qd_Qs_colour_20 : decode qc_Qs_colour 20 = .ok (.goto 4, 3) := by decide +kernel
theorem qd_Qs_colour_23 : decode qc_Qs_colour 23 = .ok (.iconst (-1), 1) := by decide +kernel
theorem qd_Qs_colour_24 : decode qc_Qs_colour 24 = .ok (.ireturn, 1) := by decide +kernel
abbrev qc_Qs_field : ByteArray := prog_1_method_15_code
abbrev qy_Qs_field : MethodName := ⟨"QuietSweep", "field", "(II)I"⟩
abbrev ql_Qs_field : Cond := .code qy_Qs_field qc_Qs_field 3 (some .int)
theorem qd_Qs_field_0 : decode qc_Qs_field 0 = .ok (.aload_n 0, 1) := by decide +kernel
theorem qd_Qs_field_1 : decode qc_Qs_field 1 = .ok (.getfield 21, 3) := by decide +kernel
theorem qd_Qs_field_4 : decode qc_Qs_field 4 = .ok (.iload_n 1, 1) := by decide +kernel
theorem qd_Qs_field_5 : decode qc_Qs_field 5 = .ok (.invokevirtual 104, 3) := by decide +kernel
theorem qd_Qs_field_8 : decode qc_Qs_field 8 = .ok (.ifCond .eq 22, 3) := by decide +kernel
theorem qd_Qs_field_11 : decode qc_Qs_field 11 = .ok (.iload_n 2, 1) := by decide +kernel
theorem qd_Qs_field_12 : decode qc_Qs_field 12 = .ok (.invokestatic 110, 3) := by decide +kernel
theorem qd_Qs_field_15 : decode qc_Qs_field 15 = .ok (.ifCond .eq 15, 3) := by decide +kernel
theorem qd_Qs_field_18 : decode qc_Qs_field 18 = .ok (.aload_n 0, 1) := by decide +kernel
theorem qd_Qs_field_19 : decode qc_Qs_field 19 = .ok (.getfield 21, 3) := by decide +kernel
theorem qd_Qs_field_22 : decode qc_Qs_field 22 = .ok (.iload_n 1, 1) := by decide +kernel
theorem qd_Qs_field_23 : decode qc_Qs_field 23 = .ok (.iload_n 2, 1) := by decide +kernel
theorem qd_Qs_field_24 : decode qc_Qs_field 24 = .ok (.invokevirtual 113, 3) := by decide +kernel
theorem qd_Qs_field_27 : decode qc_Qs_field 27 = .ok (.goto 4, 3) := by decide +kernel
theorem qd_Qs_field_30 : decode qc_Qs_field 30 = .ok (.iconst (-1), 1) := by decide +kernel
theorem qd_Qs_field_31 : decode qc_Qs_field 31 = .ok (.ireturn, 1) := by decide +kernel
abbrev qc_Qs_isField : ByteArray := prog_1_method_25_code
abbrev qy_Qs_isField : MethodName := ⟨"QuietSweep", "isField", "(I)Z"⟩
abbrev ql_Qs_isField : Cond := .code qy_Qs_isField qc_Qs_isField 1 (some .boolean)
theorem qd_Qs_isField_0 : decode qc_Qs_isField 0 = .ok (.iload_n 0, 1) := by decide +kernel
theorem qd_Qs_isField_1 : decode qc_Qs_isField 1 = .ok (.ifCond .lt 12, 3) := by decide +kernel
theorem qd_Qs_isField_4 : decode qc_Qs_isField 4 = .ok (.iload_n 0, 1) := by decide +kernel
theorem qd_Qs_isField_5 : decode qc_Qs_isField 5 = .ok (.iconst 3, 1) := by decide +kernel
theorem qd_Qs_isField_6 : decode qc_Qs_isField 6 = .ok (.if_icmp .ge 7, 3) := by decide +kernel
theorem qd_Qs_isField_9 : decode qc_Qs_isField 9 = .ok (.iconst 1, 1) := by decide +kernel
theorem qd_Qs_isField_10 : decode qc_Qs_isField 10 = .ok (.goto 4, 3) := by decide +kernel
theorem qd_Qs_isField_13 : decode qc_Qs_isField 13 = .ok (.iconst 0, 1) := by decide +kernel
theorem qd_Qs_isField_14 : decode qc_Qs_isField 14 = .ok (.ireturn, 1) := by decide +kernel
abbrev qc_Qs_seen : ByteArray := prog_1_method_16_code
abbrev qy_Qs_seen : MethodName := ⟨"QuietSweep", "seen", "(III)I"⟩
abbrev ql_Qs_seen : Cond := .code qy_Qs_seen qc_Qs_seen 4 (some .int)
theorem qd_Qs_seen_0 : decode qc_Qs_seen 0 = .ok (.iload_n 1, 1) := by decide +kernel
theorem qd_Qs_seen_1 : decode qc_Qs_seen 1 = .ok (.invokestatic 50, 3) := by decide +kernel
theorem qd_Qs_seen_4 : decode qc_Qs_seen 4 = .ok (.ifCond .eq 21, 3) := by decide +kernel
theorem qd_Qs_seen_7 : decode qc_Qs_seen 7 = .ok (.aload_n 0, 1) := by decide +kernel
theorem qd_Qs_seen_8 : decode qc_Qs_seen 8 = .ok (.getfield 21, 3) := by decide +kernel
theorem qd_Qs_seen_11 : decode qc_Qs_seen 11 = .ok (.iload_n 2, 1) := by decide +kernel
theorem qd_Qs_seen_12 : decode qc_Qs_seen 12 = .ok (.invokevirtual 104, 3) := by decide +kernel
theorem qd_Qs_seen_15 : decode qc_Qs_seen 15 = .ok (.ifCond .eq 10, 3) := by decide +kernel
theorem qd_Qs_seen_18 : decode qc_Qs_seen 18 = .ok (.iload_n 3, 1) := by decide +kernel
theorem qd_Qs_seen_19 : decode qc_Qs_seen 19 = .ok (.invokestatic 110, 3) := by decide +kernel
theorem qd_Qs_seen_22 : decode qc_Qs_seen 22 = .ok (.ifCond .ne 5, 3) := by decide +kernel
theorem qd_Qs_seen_25 : decode qc_Qs_seen 25 = .ok (.iconst (-1), 1) := by decide +kernel
theorem qd_Qs_seen_26 : decode qc_Qs_seen 26 = .ok (.ireturn, 1) := by decide +kernel
theorem qd_Qs_seen_27 : decode qc_Qs_seen 27 = .ok (.aload_n 0, 1) := by decide +kernel
theorem qd_Qs_seen_28 : decode qc_Qs_seen 28 = .ok (.getfield 27, 3) := by decide +kernel
theorem qd_Qs_seen_31 : decode qc_Qs_seen 31 = .ok (.iload_n 1, 1) := by decide +kernel
theorem qd_Qs_seen_32 : decode qc_Qs_seen 32 = .ok (.aaload, 1) := by decide +kernel
theorem qd_Qs_seen_33 : decode qc_Qs_seen 33 = .ok (.getfield 82, 3) := by decide +kernel
theorem qd_Qs_seen_36 : decode qc_Qs_seen 36 = .ok (.aload_n 0, 1) := by decide +kernel
theorem qd_Qs_seen_37 : decode qc_Qs_seen 37 = .ok (.getfield 21, 3) := by decide +kernel
theorem qd_Qs_seen_40 : decode qc_Qs_seen 40 = .ok (.iload_n 2, 1) := by decide +kernel
theorem qd_Qs_seen_41 : decode qc_Qs_seen 41 = .ok (.iload_n 3, 1) := by decide +kernel
theorem qd_Qs_seen_42 : decode qc_Qs_seen 42 = .ok (.invokevirtual 117, 3) := by decide +kernel
theorem qd_Qs_seen_45 : decode qc_Qs_seen 45 = .ok (.ireturn, 1) := by decide +kernel
abbrev qc_Qs_phase : ByteArray := prog_1_method_17_code
abbrev qy_Qs_phase : MethodName := ⟨"QuietSweep", "phase", "()I"⟩
abbrev ql_Qs_phase : Cond := .code qy_Qs_phase qc_Qs_phase 1 (some .int)
theorem qd_Qs_phase_0 : decode qc_Qs_phase 0 = .ok (.aload_n 0, 1) := by decide +kernel
theorem qd_Qs_phase_1 : decode qc_Qs_phase 1 = .ok (.getfield 35, 3) := by decide +kernel
theorem qd_Qs_phase_4 : decode qc_Qs_phase 4 = .ok (.getfield 121, 3) := by decide +kernel
theorem qd_Qs_phase_7 : decode qc_Qs_phase 7 = .ok (.ireturn, 1) := by decide +kernel
abbrev qc_Qs_cycles : ByteArray := prog_1_method_18_code
abbrev qy_Qs_cycles : MethodName := ⟨"QuietSweep", "cycles", "()I"⟩
abbrev ql_Qs_cycles : Cond := .code qy_Qs_cycles qc_Qs_cycles 1 (some .int)
theorem qd_Qs_cycles_0 : decode qc_Qs_cycles 0 = .ok (.aload_n 0, 1) := by decide +kernel
theorem qd_Qs_cycles_1 : decode qc_Qs_cycles 1 = .ok (.getfield 35, 3) := by decide +kernel
theorem qd_Qs_cycles_4 : decode qc_Qs_cycles 4 = .ok (.getfield 124, 3) := by decide +kernel
theorem qd_Qs_cycles_7 : decode qc_Qs_cycles 7 = .ok (.ireturn, 1) := by decide +kernel
abbrev qc_Qs_free : ByteArray := prog_1_method_19_code
abbrev qy_Qs_free : MethodName := ⟨"QuietSweep", "free", "()I"⟩
abbrev ql_Qs_free : Cond := .code qy_Qs_free qc_Qs_free 1 (some .int)
theorem qd_Qs_free_0 : decode qc_Qs_free 0 = .ok (.aload_n 0, 1) := by decide +kernel
theorem qd_Qs_free_1 : decode qc_Qs_free 1 = .ok (.getfield 21, 3) := by decide +kernel
theorem qd_Qs_free_4 : decode qc_Qs_free 4 = .ok (.iconst 0, 1) := by decide +kernel
theorem qd_Qs_free_5 : decode qc_Qs_free 5 = .ok (.invokevirtual 127, 3) := by decide +kernel
theorem qd_Qs_free_8 : decode qc_Qs_free 8 = .ok (.ireturn, 1) := by decide +kernel
abbrev qc_Qs_reached : ByteArray := prog_1_method_20_code
abbrev qy_Qs_reached : MethodName := ⟨"QuietSweep", "reached", "()I"⟩
abbrev ql_Qs_reached : Cond := .code qy_Qs_reached qc_Qs_reached 1 (some .int)
theorem qd_Qs_reached_0 : decode qc_Qs_reached 0 = .ok (.aload_n 0, 1) := by decide +kernel
theorem qd_Qs_reached_1 : decode qc_Qs_reached 1 = .ok (.invokevirtual 130, 3) := by decide +kernel
theorem qd_Qs_reached_4 : decode qc_Qs_reached 4 = .ok (.invokestatic 134, 3) := by decide +kernel
theorem qd_Qs_reached_7 : decode qc_Qs_reached 7 = .ok (.ireturn, 1) := by decide +kernel
abbrev qc_Qs_reachedSet : ByteArray := prog_1_method_23_code
abbrev qy_Qs_reachedSet : MethodName := ⟨"QuietSweep", "reachedSet", "()I"⟩
abbrev ql_Qs_reachedSet : Cond := .code qy_Qs_reachedSet qc_Qs_reachedSet 3 (some .int)
theorem qd_Qs_reachedSet_0 : decode qc_Qs_reachedSet 0 = .ok (.iconst 0, 1) := by decide +kernel
theorem qd_Qs_reachedSet_1 : decode qc_Qs_reachedSet 1 = .ok (.istore_n 1, 1) := by decide +kernel
theorem qd_Qs_reachedSet_2 : decode qc_Qs_reachedSet 2 = .ok (.iconst 0, 1) := by decide +kernel
theorem qd_Qs_reachedSet_3 : decode qc_Qs_reachedSet 3 = .ok (.istore_n 2, 1) := by decide +kernel
theorem qd_Qs_reachedSet_4 : decode qc_Qs_reachedSet 4 = .ok (.iload_n 2, 1) := by decide +kernel
theorem qd_Qs_reachedSet_5 : decode qc_Qs_reachedSet 5 = .ok (.iconst 2, 1) := by decide +kernel
theorem qd_Qs_reachedSet_6 : decode qc_Qs_reachedSet 6 = .ok (.if_icmp .ge 21, 3) := by decide +kernel
theorem qd_Qs_reachedSet_9 : decode qc_Qs_reachedSet 9 = .ok (.iload_n 1, 1) := by decide +kernel
theorem qd_Qs_reachedSet_10 : decode qc_Qs_reachedSet 10 = .ok (.aload_n 0, 1) := by decide +kernel
theorem qd_Qs_reachedSet_11 : decode qc_Qs_reachedSet 11 = .ok (.getfield 27, 3) := by decide +kernel
theorem qd_Qs_reachedSet_14 : decode qc_Qs_reachedSet 14 = .ok (.iload_n 2, 1) := by decide +kernel
theorem qd_Qs_reachedSet_15 : decode qc_Qs_reachedSet 15 = .ok (.aaload, 1) := by decide +kernel
theorem qd_Qs_reachedSet_16 : decode qc_Qs_reachedSet 16 = .ok (.invokevirtual 157, 3) := by decide +kernel
theorem qd_Qs_reachedSet_19 : decode qc_Qs_reachedSet 19 = .ok (.ior, 1) := by decide +kernel
theorem qd_Qs_reachedSet_20 : decode qc_Qs_reachedSet 20 = .ok (.istore_n 1, 1) := by decide +kernel
theorem qd_Qs_reachedSet_21 : decode qc_Qs_reachedSet 21 = .ok (.iinc 2 1, 3) := by decide +kernel
theorem qd_Qs_reachedSet_24 : decode qc_Qs_reachedSet 24 = .ok (.goto (-20), 3) := by decide +kernel
theorem qd_Qs_reachedSet_27 : decode qc_Qs_reachedSet 27 = .ok (.aload_n 0, 1) := by decide +kernel
theorem qd_Qs_reachedSet_28 : decode qc_Qs_reachedSet 28 = .ok (.getfield 21, 3) := by decide +kernel
theorem qd_Qs_reachedSet_31 : decode qc_Qs_reachedSet 31 = .ok (.iload_n 1, 1) := by decide +kernel
theorem qd_Qs_reachedSet_32 : decode qc_Qs_reachedSet 32 = .ok (.invokevirtual 160, 3) := by decide +kernel
theorem qd_Qs_reachedSet_35 : decode qc_Qs_reachedSet 35 = .ok (.ireturn, 1) := by decide +kernel
abbrev qc_Qs_setOf : ByteArray := prog_1_method_26_code
abbrev qy_Qs_setOf : MethodName := ⟨"QuietSweep", "setOf", "(I)I"⟩
abbrev ql_Qs_setOf : Cond := .code qy_Qs_setOf qc_Qs_setOf 1 (some .int)
theorem qd_Qs_setOf_0 : decode qc_Qs_setOf 0 = .ok (.iload_n 0, 1) := by decide +kernel
theorem qd_Qs_setOf_1 : decode qc_Qs_setOf 1 = .ok (.iconst (-1), 1) := by decide +kernel
theorem qd_Qs_setOf_2 : decode qc_Qs_setOf 2 = .ok (.if_icmp .ne 7, 3) := by decide +kernel
theorem qd_Qs_setOf_5 : decode qc_Qs_setOf 5 = .ok (.iconst 0, 1) := by decide +kernel
theorem qd_Qs_setOf_6 : decode qc_Qs_setOf 6 = .ok (.goto 6, 3) := by decide +kernel
theorem qd_Qs_setOf_9 : decode qc_Qs_setOf 9 = .ok (.iconst 1, 1) := by decide +kernel
theorem qd_Qs_setOf_10 : decode qc_Qs_setOf 10 = .ok (.iload_n 0, 1) := by decide +kernel
theorem qd_Qs_setOf_11 : decode qc_Qs_setOf 11 = .ok (.ishl, 1) := by decide +kernel
theorem qd_Qs_setOf_12 : decode qc_Qs_setOf 12 = .ok (.ireturn, 1) := by decide +kernel
abbrev qc_Qs_reaches : ByteArray := prog_1_method_21_code
abbrev qy_Qs_reaches : MethodName := ⟨"QuietSweep", "reaches", "(I)Z"⟩
abbrev ql_Qs_reaches : Cond := .code qy_Qs_reaches qc_Qs_reaches 2 (some .boolean)
theorem qd_Qs_reaches_0 : decode qc_Qs_reaches 0 = .ok (.aload_n 0, 1) := by decide +kernel
theorem qd_Qs_reaches_1 : decode qc_Qs_reaches 1 = .ok (.getfield 21, 3) := by decide +kernel
theorem qd_Qs_reaches_4 : decode qc_Qs_reaches 4 = .ok (.iload_n 1, 1) := by decide +kernel
theorem qd_Qs_reaches_5 : decode qc_Qs_reaches 5 = .ok (.invokevirtual 104, 3) := by decide +kernel
theorem qd_Qs_reaches_8 : decode qc_Qs_reaches 8 = .ok (.ifCond .eq 19, 3) := by decide +kernel
theorem qd_Qs_reaches_11 : decode qc_Qs_reaches 11 = .ok (.aload_n 0, 1) := by decide +kernel
theorem qd_Qs_reaches_12 : decode qc_Qs_reaches 12 = .ok (.invokevirtual 130, 3) := by decide +kernel
theorem qd_Qs_reaches_15 : decode qc_Qs_reaches 15 = .ok (.iload_n 1, 1) := by decide +kernel
theorem qd_Qs_reaches_16 : decode qc_Qs_reaches 16 = .ok (.ishr, 1) := by decide +kernel
theorem qd_Qs_reaches_17 : decode qc_Qs_reaches 17 = .ok (.iconst 1, 1) := by decide +kernel
theorem qd_Qs_reaches_18 : decode qc_Qs_reaches 18 = .ok (.iand, 1) := by decide +kernel
theorem qd_Qs_reaches_19 : decode qc_Qs_reaches 19 = .ok (.iconst 1, 1) := by decide +kernel
theorem qd_Qs_reaches_20 : decode qc_Qs_reaches 20 = .ok (.if_icmp .ne 7, 3) := by decide +kernel
theorem qd_Qs_reaches_23 : decode qc_Qs_reaches 23 = .ok (.iconst 1, 1) := by decide +kernel
theorem qd_Qs_reaches_24 : decode qc_Qs_reaches 24 = .ok (.goto 4, 3) := by decide +kernel
theorem qd_Qs_reaches_27 : decode qc_Qs_reaches 27 = .ok (.iconst 0, 1) := by decide +kernel
theorem qd_Qs_reaches_28 : decode qc_Qs_reaches 28 = .ok (.ireturn, 1) := by decide +kernel
abbrev qc_Buf_init : ByteArray := prog_2_method_1_code
abbrev qy_Buf_init : MethodName := ⟨"QuietSweep$Buffer", "<init>", "()V"⟩
abbrev ql_Buf_init : Cond := .code qy_Buf_init qc_Buf_init 1 none
theorem qd_Buf_init_0 : decode qc_Buf_init 0 = .ok (.aload_n 0, 1) := by decide +kernel
theorem qd_Buf_init_1 : decode qc_Buf_init 1 = .ok (.invokespecial 3, 3) := by decide +kernel
theorem qd_Buf_init_4 : decode qc_Buf_init 4 = .ok (.aload_n 0, 1) := by decide +kernel
theorem qd_Buf_init_5 : decode qc_Buf_init 5 = .ok (.iconst 3, 1) := by decide +kernel
theorem qd_Buf_init_6 : decode qc_Buf_init 6 = .ok (.newarray .int, 2) := by decide +kernel
theorem qd_Buf_init_8 : decode qc_Buf_init 8 = .ok (.putfield 11, 3) := by decide +kernel
theorem qd_Buf_init_11 : decode qc_Buf_init 11 = .ok (.aload_n 0, 1) := by decide +kernel
theorem qd_Buf_init_12 : decode qc_Buf_init 12 = .ok (.iconst 3, 1) := by decide +kernel
theorem qd_Buf_init_13 : decode qc_Buf_init 13 = .ok (.newarray .int, 2) := by decide +kernel
theorem qd_Buf_init_15 : decode qc_Buf_init 15 = .ok (.putfield 15, 3) := by decide +kernel
theorem qd_Buf_init_18 : decode qc_Buf_init 18 = .ok (.aload_n 0, 1) := by decide +kernel
theorem qd_Buf_init_19 : decode qc_Buf_init 19 = .ok (.iconst 3, 1) := by decide +kernel
theorem qd_Buf_init_20 : decode qc_Buf_init 20 = .ok (.newarray .int, 2) := by decide +kernel
theorem qd_Buf_init_22 : decode qc_Buf_init 22 = .ok (.putfield 18, 3) := by decide +kernel
theorem qd_Buf_init_25 : decode qc_Buf_init 25 = .ok (.aload_n 0, 1) := by decide +kernel
theorem qd_Buf_init_26 : decode qc_Buf_init 26 = .ok (.iconst 0, 1) := by decide +kernel
theorem qd_Buf_init_27 : decode qc_Buf_init 27 = .ok (.putfield 21, 3) := by decide +kernel
theorem qd_Buf_init_30 : decode qc_Buf_init 30 = .ok (.return_, 1) := by decide +kernel
abbrev qc_Buf_look : ByteArray := prog_2_method_4_code
abbrev qy_Buf_look : MethodName := ⟨"QuietSweep$Buffer", "look", "(LQuietSweep$Memory;II)I"⟩
abbrev ql_Buf_look : Cond := .code qy_Buf_look qc_Buf_look 5 (some .int)
theorem qd_Buf_look_0 : decode qc_Buf_look 0 = .ok (.aload_n 0, 1) := by decide +kernel
theorem qd_Buf_look_1 : decode qc_Buf_look 1 = .ok (.getfield 21, 3) := by decide +kernel
theorem qd_Buf_look_4 : decode qc_Buf_look 4 = .ok (.iconst 1, 1) := by decide +kernel
theorem qd_Buf_look_5 : decode qc_Buf_look 5 = .ok (.isub, 1) := by decide +kernel
theorem qd_Buf_look_6 : decode qc_Buf_look 6 = .ok (.istore 4, 2) := by decide +kernel
theorem qd_Buf_look_8 : decode qc_Buf_look 8 = .ok (.iload 4, 2) := by decide +kernel
theorem qd_Buf_look_10 : decode qc_Buf_look 10 = .ok (.ifCond .lt 39, 3) := by decide +kernel
theorem qd_Buf_look_13 : decode qc_Buf_look 13 = .ok (.aload_n 0, 1) := by decide +kernel
theorem qd_Buf_look_14 : decode qc_Buf_look 14 = .ok (.getfield 11, 3) := by decide +kernel
theorem qd_Buf_look_17 : decode qc_Buf_look 17 = .ok (.iload 4, 2) := by decide +kernel
theorem qd_Buf_look_19 : decode qc_Buf_look 19 = .ok (.iaload, 1) := by decide +kernel
theorem qd_Buf_look_20 : decode qc_Buf_look 20 = .ok (.iload_n 2, 1) := by decide +kernel
theorem qd_Buf_look_21 : decode qc_Buf_look 21 = .ok (.if_icmp .ne 22, 3) := by decide +kernel
theorem qd_Buf_look_24 : decode qc_Buf_look 24 = .ok (.aload_n 0, 1) := by decide +kernel
theorem qd_Buf_look_25 : decode qc_Buf_look 25 = .ok (.getfield 15, 3) := by decide +kernel
theorem qd_Buf_look_28 : decode qc_Buf_look 28 = .ok (.iload 4, 2) := by decide +kernel
theorem qd_Buf_look_30 : decode qc_Buf_look 30 = .ok (.iaload, 1) := by decide +kernel
theorem qd_Buf_look_31 : decode qc_Buf_look 31 = .ok (.iload_n 3, 1) := by decide +kernel
theorem qd_Buf_look_32 : decode qc_Buf_look 32 = .ok (.if_icmp .ne 11, 3) := by decide +kernel
theorem qd_Buf_look_35 : decode qc_Buf_look 35 = .ok (.aload_n 0, 1) := by decide +kernel
theorem qd_Buf_look_36 : decode qc_Buf_look 36 = .ok (.getfield 18, 3) := by decide +kernel
theorem qd_Buf_look_39 : decode qc_Buf_look 39 = .ok (.iload 4, 2) := by decide +kernel
theorem qd_Buf_look_41 : decode qc_Buf_look 41 = .ok (.iaload, 1) := by decide +kernel
theorem qd_Buf_look_42 : decode qc_Buf_look 42 = .ok (.ireturn, 1) := by decide +kernel
theorem qd_Buf_look_43 : decode qc_Buf_look 43 = .ok (.iinc 4 (-1), 3) := by decide +kernel
theorem qd_Buf_look_46 : decode qc_Buf_look 46 = .ok (.goto (-38), 3) := by decide +kernel
theorem qd_Buf_look_49 : decode qc_Buf_look 49 = .ok (.aload_n 1, 1) := by decide +kernel
theorem qd_Buf_look_50 : decode qc_Buf_look 50 = .ok (.iload_n 2, 1) := by decide +kernel
theorem qd_Buf_look_51 : decode qc_Buf_look 51 = .ok (.iload_n 3, 1) := by decide +kernel
theorem qd_Buf_look_52 : decode qc_Buf_look 52 = .ok (.invokevirtual 25, 3) := by decide +kernel
theorem qd_Buf_look_55 : decode qc_Buf_look 55 = .ok (.ireturn, 1) := by decide +kernel
abbrev qc_Buf_isFull : ByteArray := prog_2_method_2_code
abbrev qy_Buf_isFull : MethodName := ⟨"QuietSweep$Buffer", "isFull", "()Z"⟩
abbrev ql_Buf_isFull : Cond := .code qy_Buf_isFull qc_Buf_isFull 1 (some .boolean)
theorem qd_Buf_isFull_0 : decode qc_Buf_isFull 0 = .ok (.aload_n 0, 1) := by decide +kernel
theorem qd_Buf_isFull_1 : decode qc_Buf_isFull 1 = .ok (.getfield 21, 3) := by decide +kernel
theorem qd_Buf_isFull_4 : decode qc_Buf_isFull 4 = .ok (.iconst 3, 1) := by decide +kernel
theorem qd_Buf_isFull_5 : decode qc_Buf_isFull 5 = .ok (.if_icmp .lt 7, 3) := by decide +kernel
theorem qd_Buf_isFull_8 : decode qc_Buf_isFull 8 = .ok (.iconst 1, 1) := by decide +kernel
theorem qd_Buf_isFull_9 : decode qc_Buf_isFull 9 = .ok (.goto 4, 3) := by decide +kernel
theorem qd_Buf_isFull_12 : decode qc_Buf_isFull 12 = .ok (.iconst 0, 1) := by decide +kernel
theorem qd_Buf_isFull_13 : decode qc_Buf_isFull 13 = .ok (.ireturn, 1) := by decide +kernel
abbrev qc_Buf_add : ByteArray := prog_2_method_3_code
abbrev qy_Buf_add : MethodName := ⟨"QuietSweep$Buffer", "add", "(III)V"⟩
abbrev ql_Buf_add : Cond := .code qy_Buf_add qc_Buf_add 4 none
theorem qd_Buf_add_0 : decode qc_Buf_add 0 = .ok (.aload_n 0, 1) := by decide +kernel
theorem qd_Buf_add_1 : decode qc_Buf_add 1 = .ok (.getfield 11, 3) := by decide +kernel
theorem qd_Buf_add_4 : decode qc_Buf_add 4 = .ok (.aload_n 0, 1) := by decide +kernel
theorem qd_Buf_add_5 : decode qc_Buf_add 5 = .ok (.getfield 21, 3) := by decide +kernel
theorem qd_Buf_add_8 : decode qc_Buf_add 8 = .ok (.iload_n 1, 1) := by decide +kernel
theorem qd_Buf_add_9 : decode qc_Buf_add 9 = .ok (.iastore, 1) := by decide +kernel
theorem qd_Buf_add_10 : decode qc_Buf_add 10 = .ok (.aload_n 0, 1) := by decide +kernel
theorem qd_Buf_add_11 : decode qc_Buf_add 11 = .ok (.getfield 15, 3) := by decide +kernel
theorem qd_Buf_add_14 : decode qc_Buf_add 14 = .ok (.aload_n 0, 1) := by decide +kernel
theorem qd_Buf_add_15 : decode qc_Buf_add 15 = .ok (.getfield 21, 3) := by decide +kernel
theorem qd_Buf_add_18 : decode qc_Buf_add 18 = .ok (.iload_n 2, 1) := by decide +kernel
theorem qd_Buf_add_19 : decode qc_Buf_add 19 = .ok (.iastore, 1) := by decide +kernel
theorem qd_Buf_add_20 : decode qc_Buf_add 20 = .ok (.aload_n 0, 1) := by decide +kernel
theorem qd_Buf_add_21 : decode qc_Buf_add 21 = .ok (.getfield 18, 3) := by decide +kernel
theorem qd_Buf_add_24 : decode qc_Buf_add 24 = .ok (.aload_n 0, 1) := by decide +kernel
theorem qd_Buf_add_25 : decode qc_Buf_add 25 = .ok (.getfield 21, 3) := by decide +kernel
theorem qd_Buf_add_28 : decode qc_Buf_add 28 = .ok (.iload_n 3, 1) := by decide +kernel
theorem qd_Buf_add_29 : decode qc_Buf_add 29 = .ok (.iastore, 1) := by decide +kernel
theorem qd_Buf_add_30 : decode qc_Buf_add 30 = .ok (.aload_n 0, 1) := by decide +kernel
theorem qd_Buf_add_31 : decode qc_Buf_add 31 = .ok (.dup, 1) := by decide +kernel
theorem qd_Buf_add_32 : decode qc_Buf_add 32 = .ok (.getfield 21, 3) := by decide +kernel
theorem qd_Buf_add_35 : decode qc_Buf_add 35 = .ok (.iconst 1, 1) := by decide +kernel
theorem qd_Buf_add_36 : decode qc_Buf_add 36 = .ok (.iadd, 1) := by decide +kernel
theorem qd_Buf_add_37 : decode qc_Buf_add 37 = .ok (.putfield 21, 3) := by decide +kernel
theorem qd_Buf_add_40 : decode qc_Buf_add 40 = .ok (.return_, 1) := by decide +kernel
abbrev qc_Buf_passOldest : ByteArray := prog_2_method_5_code
abbrev qy_Buf_passOldest : MethodName := ⟨"QuietSweep$Buffer", "passOldest", "(LQuietSweep$Memory;)Z"⟩
abbrev ql_Buf_passOldest : Cond := .code qy_Buf_passOldest qc_Buf_passOldest 3 (some .boolean)
theorem qd_Buf_passOldest_0 : decode qc_Buf_passOldest 0 = .ok (.aload_n 0, 1) := by decide +kernel
theorem qd_Buf_passOldest_1 : decode qc_Buf_passOldest 1 = .ok (.getfield 21, 3) := by decide +kernel
theorem qd_Buf_passOldest_4 : decode qc_Buf_passOldest 4 = .ok (.ifCond .ne 5, 3) := by decide +kernel
theorem qd_Buf_passOldest_7 : decode qc_Buf_passOldest 7 = .ok (.iconst 0, 1) := by decide +kernel
theorem qd_Buf_passOldest_8 : decode qc_Buf_passOldest 8 = .ok (.ireturn, 1) := by decide +kernel
theorem qd_Buf_passOldest_9 : decode qc_Buf_passOldest 9 = .ok (.aload_n 1, 1) := by decide +kernel
theorem qd_Buf_passOldest_10 : decode qc_Buf_passOldest 10 = .ok (.aload_n 0, 1) := by decide +kernel
theorem qd_Buf_passOldest_11 : decode qc_Buf_passOldest 11 = .ok (.getfield 11, 3) := by decide +kernel
theorem qd_Buf_passOldest_14 : decode qc_Buf_passOldest 14 = .ok (.iconst 0, 1) := by decide +kernel
theorem qd_Buf_passOldest_15 : decode qc_Buf_passOldest 15 = .ok (.iaload, 1) := by decide +kernel
theorem qd_Buf_passOldest_16 : decode qc_Buf_passOldest 16 = .ok (.aload_n 0, 1) := by decide +kernel
theorem qd_Buf_passOldest_17 : decode qc_Buf_passOldest 17 = .ok (.getfield 15, 3) := by decide +kernel
theorem qd_Buf_passOldest_20 : decode qc_Buf_passOldest 20 = .ok (.iconst 0, 1) := by decide +kernel
theorem qd_Buf_passOldest_21 : decode qc_Buf_passOldest 21 = .ok (.iaload, 1) := by decide +kernel
theorem qd_Buf_passOldest_22 : decode qc_Buf_passOldest 22 = .ok (.aload_n 0, 1) := by decide +kernel
theorem qd_Buf_passOldest_23 : decode qc_Buf_passOldest 23 = .ok (.getfield 18, 3) := by decide +kernel
theorem qd_Buf_passOldest_26 : decode qc_Buf_passOldest 26 = .ok (.iconst 0, 1) := by decide +kernel
theorem qd_Buf_passOldest_27 : decode qc_Buf_passOldest 27 = .ok (.iaload, 1) := by decide +kernel
theorem qd_Buf_passOldest_28 : decode qc_Buf_passOldest 28 = .ok (.invokevirtual 31, 3) := by decide +kernel
theorem qd_Buf_passOldest_31 : decode qc_Buf_passOldest 31 = .ok (.aload_n 0, 1) := by decide +kernel
theorem qd_Buf_passOldest_32 : decode qc_Buf_passOldest 32 = .ok (.dup, 1) := by decide +kernel
theorem qd_Buf_passOldest_33 : decode qc_Buf_passOldest 33 = .ok (.getfield 21, 3) := by decide +kernel
theorem qd_Buf_passOldest_36 : decode qc_Buf_passOldest 36 = .ok (.iconst 1, 1) := by decide +kernel
theorem qd_Buf_passOldest_37 : decode qc_Buf_passOldest 37 = .ok (.isub, 1) := by decide +kernel
theorem qd_Buf_passOldest_38 : decode qc_Buf_passOldest 38 = .ok (.putfield 21, 3) := by decide +kernel
theorem qd_Buf_passOldest_41 : decode qc_Buf_passOldest 41 = .ok (.iconst 0, 1) := by decide +kernel
theorem qd_Buf_passOldest_42 : decode qc_Buf_passOldest 42 = .ok (.istore_n 2, 1) := by decide +kernel
theorem qd_Buf_passOldest_43 : decode qc_Buf_passOldest 43 = .ok (.iload_n 2, 1) := by decide +kernel
theorem qd_Buf_passOldest_44 : decode qc_Buf_passOldest 44 = .ok (.aload_n 0, 1) := by decide +kernel
theorem qd_Buf_passOldest_45 : decode qc_Buf_passOldest 45 = .ok (.getfield 21, 3) := by decide +kernel
theorem qd_Buf_passOldest_48 : decode qc_Buf_passOldest 48 = .ok (.if_icmp .ge 51, 3) := by decide +kernel
theorem qd_Buf_passOldest_51 : decode qc_Buf_passOldest 51 = .ok (.aload_n 0, 1) := by decide +kernel
theorem qd_Buf_passOldest_52 : decode qc_Buf_passOldest 52 = .ok (.getfield 11, 3) := by decide +kernel
theorem qd_Buf_passOldest_55 : decode qc_Buf_passOldest 55 = .ok (.iload_n 2, 1) := by decide +kernel
theorem qd_Buf_passOldest_56 : decode qc_Buf_passOldest 56 = .ok (.aload_n 0, 1) := by decide +kernel
theorem qd_Buf_passOldest_57 : decode qc_Buf_passOldest 57 = .ok (.getfield 11, 3) := by decide +kernel
theorem qd_Buf_passOldest_60 : decode qc_Buf_passOldest 60 = .ok (.iload_n 2, 1) := by decide +kernel
theorem qd_Buf_passOldest_61 : decode qc_Buf_passOldest 61 = .ok (.iconst 1, 1) := by decide +kernel
theorem qd_Buf_passOldest_62 : decode qc_Buf_passOldest 62 = .ok (.iadd, 1) := by decide +kernel
theorem qd_Buf_passOldest_63 : decode qc_Buf_passOldest 63 = .ok (.iaload, 1) := by decide +kernel
theorem qd_Buf_passOldest_64 : decode qc_Buf_passOldest 64 = .ok (.iastore, 1) := by decide +kernel
theorem qd_Buf_passOldest_65 : decode qc_Buf_passOldest 65 = .ok (.aload_n 0, 1) := by decide +kernel
theorem qd_Buf_passOldest_66 : decode qc_Buf_passOldest 66 = .ok (.getfield 15, 3) := by decide +kernel
theorem qd_Buf_passOldest_69 : decode qc_Buf_passOldest 69 = .ok (.iload_n 2, 1) := by decide +kernel
theorem qd_Buf_passOldest_70 : decode qc_Buf_passOldest 70 = .ok (.aload_n 0, 1) := by decide +kernel
theorem qd_Buf_passOldest_71 : decode qc_Buf_passOldest 71 = .ok (.getfield 15, 3) := by decide +kernel
theorem qd_Buf_passOldest_74 : decode qc_Buf_passOldest 74 = .ok (.iload_n 2, 1) := by decide +kernel
theorem qd_Buf_passOldest_75 : decode qc_Buf_passOldest 75 = .ok (.iconst 1, 1) := by decide +kernel
theorem qd_Buf_passOldest_76 : decode qc_Buf_passOldest 76 = .ok (.iadd, 1) := by decide +kernel
theorem qd_Buf_passOldest_77 : decode qc_Buf_passOldest 77 = .ok (.iaload, 1) := by decide +kernel
theorem qd_Buf_passOldest_78 : decode qc_Buf_passOldest 78 = .ok (.iastore, 1) := by decide +kernel
theorem qd_Buf_passOldest_79 : decode qc_Buf_passOldest 79 = .ok (.aload_n 0, 1) := by decide +kernel
theorem qd_Buf_passOldest_80 : decode qc_Buf_passOldest 80 = .ok (.getfield 18, 3) := by decide +kernel
theorem qd_Buf_passOldest_83 : decode qc_Buf_passOldest 83 = .ok (.iload_n 2, 1) := by decide +kernel
theorem qd_Buf_passOldest_84 : decode qc_Buf_passOldest 84 = .ok (.aload_n 0, 1) := by decide +kernel
theorem qd_Buf_passOldest_85 : decode qc_Buf_passOldest 85 = .ok (.getfield 18, 3) := by decide +kernel
theorem qd_Buf_passOldest_88 : decode qc_Buf_passOldest 88 = .ok (.iload_n 2, 1) := by decide +kernel
theorem qd_Buf_passOldest_89 : decode qc_Buf_passOldest 89 = .ok (.iconst 1, 1) := by decide +kernel
theorem qd_Buf_passOldest_90 : decode qc_Buf_passOldest 90 = .ok (.iadd, 1) := by decide +kernel
theorem qd_Buf_passOldest_91 : decode qc_Buf_passOldest 91 = .ok (.iaload, 1) := by decide +kernel
theorem qd_Buf_passOldest_92 : decode qc_Buf_passOldest 92 = .ok (.iastore, 1) := by decide +kernel
theorem qd_Buf_passOldest_93 : decode qc_Buf_passOldest 93 = .ok (.iinc 2 1, 3) := by decide +kernel
theorem qd_Buf_passOldest_96 : decode qc_Buf_passOldest 96 = .ok (.goto (-53), 3) := by decide +kernel
theorem qd_Buf_passOldest_99 : decode qc_Buf_passOldest 99 = .ok (.iconst 1, 1) := by decide +kernel
theorem qd_Buf_passOldest_100 : decode qc_Buf_passOldest 100 = .ok (.ireturn, 1) := by decide +kernel
abbrev qc_Buf_passAll : ByteArray := prog_2_method_6_code
abbrev qy_Buf_passAll : MethodName := ⟨"QuietSweep$Buffer", "passAll", "(LQuietSweep$Memory;)V"⟩
abbrev ql_Buf_passAll : Cond := .code qy_Buf_passAll qc_Buf_passAll 3 none
theorem qd_Buf_passAll_0 : decode qc_Buf_passAll 0 = .ok (.iconst 0, 1) := by decide +kernel
theorem qd_Buf_passAll_1 : decode qc_Buf_passAll 1 = .ok (.istore_n 2, 1) := by decide +kernel
theorem qd_Buf_passAll_2 : decode qc_Buf_passAll 2 = .ok (.iload_n 2, 1) := by decide +kernel
theorem qd_Buf_passAll_3 : decode qc_Buf_passAll 3 = .ok (.aload_n 0, 1) := by decide +kernel
theorem qd_Buf_passAll_4 : decode qc_Buf_passAll 4 = .ok (.getfield 21, 3) := by decide +kernel
theorem qd_Buf_passAll_7 : decode qc_Buf_passAll 7 = .ok (.if_icmp .ge 31, 3) := by decide +kernel
theorem qd_Buf_passAll_10 : decode qc_Buf_passAll 10 = .ok (.aload_n 1, 1) := by decide +kernel
theorem qd_Buf_passAll_11 : decode qc_Buf_passAll 11 = .ok (.aload_n 0, 1) := by decide +kernel
theorem qd_Buf_passAll_12 : decode qc_Buf_passAll 12 = .ok (.getfield 11, 3) := by decide +kernel
theorem qd_Buf_passAll_15 : decode qc_Buf_passAll 15 = .ok (.iload_n 2, 1) := by decide +kernel
theorem qd_Buf_passAll_16 : decode qc_Buf_passAll 16 = .ok (.iaload, 1) := by decide +kernel
theorem qd_Buf_passAll_17 : decode qc_Buf_passAll 17 = .ok (.aload_n 0, 1) := by decide +kernel
theorem qd_Buf_passAll_18 : decode qc_Buf_passAll 18 = .ok (.getfield 15, 3) := by decide +kernel
theorem qd_Buf_passAll_21 : decode qc_Buf_passAll 21 = .ok (.iload_n 2, 1) := by decide +kernel
theorem qd_Buf_passAll_22 : decode qc_Buf_passAll 22 = .ok (.iaload, 1) := by decide +kernel
theorem qd_Buf_passAll_23 : decode qc_Buf_passAll 23 = .ok (.aload_n 0, 1) := by decide +kernel
theorem qd_Buf_passAll_24 : decode qc_Buf_passAll 24 = .ok (.getfield 18, 3) := by decide +kernel
theorem qd_Buf_passAll_27 : decode qc_Buf_passAll 27 = .ok (.iload_n 2, 1) := by decide +kernel
theorem qd_Buf_passAll_28 : decode qc_Buf_passAll 28 = .ok (.iaload, 1) := by decide +kernel
theorem qd_Buf_passAll_29 : decode qc_Buf_passAll 29 = .ok (.invokevirtual 31, 3) := by decide +kernel
theorem qd_Buf_passAll_32 : decode qc_Buf_passAll 32 = .ok (.iinc 2 1, 3) := by decide +kernel
theorem qd_Buf_passAll_35 : decode qc_Buf_passAll 35 = .ok (.goto (-33), 3) := by decide +kernel
theorem qd_Buf_passAll_38 : decode qc_Buf_passAll 38 = .ok (.aload_n 0, 1) := by decide +kernel
theorem qd_Buf_passAll_39 : decode qc_Buf_passAll 39 = .ok (.iconst 0, 1) := by decide +kernel
theorem qd_Buf_passAll_40 : decode qc_Buf_passAll 40 = .ok (.putfield 21, 3) := by decide +kernel
theorem qd_Buf_passAll_43 : decode qc_Buf_passAll 43 = .ok (.return_, 1) := by decide +kernel
abbrev qc_Buf_rootSet : ByteArray := prog_2_method_7_code
abbrev qy_Buf_rootSet : MethodName := ⟨"QuietSweep$Buffer", "rootSet", "()I"⟩
abbrev ql_Buf_rootSet : Cond := .code qy_Buf_rootSet qc_Buf_rootSet 3 (some .int)
theorem qd_Buf_rootSet_0 : decode qc_Buf_rootSet 0 = .ok (.iconst 0, 1) := by decide +kernel
theorem qd_Buf_rootSet_1 : decode qc_Buf_rootSet 1 = .ok (.istore_n 1, 1) := by decide +kernel
theorem qd_Buf_rootSet_2 : decode qc_Buf_rootSet 2 = .ok (.iconst 0, 1) := by decide +kernel
theorem qd_Buf_rootSet_3 : decode qc_Buf_rootSet 3 = .ok (.istore_n 2, 1) := by decide +kernel
theorem qd_Buf_rootSet_4 : decode qc_Buf_rootSet 4 = .ok (.iload_n 2, 1) := by decide +kernel
theorem qd_Buf_rootSet_5 : decode qc_Buf_rootSet 5 = .ok (.aload_n 0, 1) := by decide +kernel
theorem qd_Buf_rootSet_6 : decode qc_Buf_rootSet 6 = .ok (.getfield 21, 3) := by decide +kernel
theorem qd_Buf_rootSet_9 : decode qc_Buf_rootSet 9 = .ok (.if_icmp .ge 43, 3) := by decide +kernel
theorem qd_Buf_rootSet_12 : decode qc_Buf_rootSet 12 = .ok (.iload_n 1, 1) := by decide +kernel
theorem qd_Buf_rootSet_13 : decode qc_Buf_rootSet 13 = .ok (.aload_n 0, 1) := by decide +kernel
theorem qd_Buf_rootSet_14 : decode qc_Buf_rootSet 14 = .ok (.getfield 11, 3) := by decide +kernel
theorem qd_Buf_rootSet_17 : decode qc_Buf_rootSet 17 = .ok (.iload_n 2, 1) := by decide +kernel
theorem qd_Buf_rootSet_18 : decode qc_Buf_rootSet 18 = .ok (.iaload, 1) := by decide +kernel
theorem qd_Buf_rootSet_19 : decode qc_Buf_rootSet 19 = .ok (.invokestatic 35, 3) := by decide +kernel
theorem qd_Buf_rootSet_22 : decode qc_Buf_rootSet 22 = .ok (.ior, 1) := by decide +kernel
theorem qd_Buf_rootSet_23 : decode qc_Buf_rootSet 23 = .ok (.istore_n 1, 1) := by decide +kernel
theorem qd_Buf_rootSet_24 : decode qc_Buf_rootSet 24 = .ok (.aload_n 0, 1) := by decide +kernel
theorem qd_Buf_rootSet_25 : decode qc_Buf_rootSet 25 = .ok (.getfield 15, 3) := by decide +kernel
theorem qd_Buf_rootSet_28 : decode qc_Buf_rootSet 28 = .ok (.iload_n 2, 1) := by decide +kernel
theorem qd_Buf_rootSet_29 : decode qc_Buf_rootSet 29 = .ok (.iaload, 1) := by decide +kernel
theorem qd_Buf_rootSet_30 : decode qc_Buf_rootSet 30 = .ok (.iconst 2, 1) := by decide +kernel
theorem qd_Buf_rootSet_31 : decode qc_Buf_rootSet 31 = .ok (.if_icmp .eq 15, 3) := by decide +kernel
theorem qd_Buf_rootSet_34 : decode qc_Buf_rootSet 34 = .ok (.iload_n 1, 1) := by decide +kernel
theorem qd_Buf_rootSet_35 : decode qc_Buf_rootSet 35 = .ok (.aload_n 0, 1) := by decide +kernel
theorem qd_Buf_rootSet_36 : decode qc_Buf_rootSet 36 = .ok (.getfield 18, 3) := by decide +kernel
theorem qd_Buf_rootSet_39 : decode qc_Buf_rootSet 39 = .ok (.iload_n 2, 1) := by decide +kernel
theorem qd_Buf_rootSet_40 : decode qc_Buf_rootSet 40 = .ok (.iaload, 1) := by decide +kernel
theorem qd_Buf_rootSet_41 : decode qc_Buf_rootSet 41 = .ok (.invokestatic 35, 3) := by decide +kernel
theorem qd_Buf_rootSet_44 : decode qc_Buf_rootSet 44 = .ok (.ior, 1) := by decide +kernel
theorem qd_Buf_rootSet_45 : decode qc_Buf_rootSet 45 = .ok (.istore_n 1, 1) := by decide +kernel
theorem qd_Buf_rootSet_46 : decode qc_Buf_rootSet 46 = .ok (.iinc 2 1, 3) := by decide +kernel
theorem qd_Buf_rootSet_49 : decode qc_Buf_rootSet 49 = .ok (.goto (-45), 3) := by decide +kernel
theorem qd_Buf_rootSet_52 : decode qc_Buf_rootSet 52 = .ok (.iload_n 1, 1) := by decide +kernel
theorem qd_Buf_rootSet_53 : decode qc_Buf_rootSet 53 = .ok (.ireturn, 1) := by decide +kernel
