abbrev qc_Mut_takeCell : ByteArray := prog_5_method_10_code
abbrev qy_Mut_takeCell : MethodName := ⟨"QuietSweep$Mutator", "takeCell", "(LQuietSweep$Memory;I)Z"⟩
abbrev ql_Mut_takeCell : Cond := .code qy_Mut_takeCell qc_Mut_takeCell 5 (some .boolean)
theorem qd_Mut_takeCell_0 : decode qc_Mut_takeCell 0 = .ok (.aload_n 0, 1) := by decide +kernel
theorem qd_Mut_takeCell_1 : decode qc_Mut_takeCell 1 = .ok (.getfield 30, 3) := by decide +kernel
theorem qd_Mut_takeCell_4 : decode qc_Mut_takeCell 4 = .ok (.iconst 2, 1) := by decide +kernel
theorem qd_Mut_takeCell_5 : decode qc_Mut_takeCell 5 = .ok (.if_icmp .eq 11, 3) := by decide +kernel
theorem qd_Mut_takeCell_8 : decode qc_Mut_takeCell 8 = .ok (.aload_n 0, 1) := by decide +kernel
theorem qd_Mut_takeCell_9 : decode qc_Mut_takeCell 9 = .ok (.getfield 30, 3) := by decide +kernel
theorem qd_Mut_takeCell_12 : decode qc_Mut_takeCell 12 = .ok (.iconst 3, 1) := by decide +kernel
theorem qd_Mut_takeCell_13 : decode qc_Mut_takeCell 13 = .ok (.if_icmp .ne 7, 3) := by decide +kernel
theorem qd_Mut_takeCell_16 : decode qc_Mut_takeCell 16 = .ok (.iconst 1, 1) := by decide +kernel
theorem qd_Mut_takeCell_17 : decode qc_Mut_takeCell 17 = .ok (.goto 4, 3) := by decide +kernel
theorem qd_Mut_takeCell_20 : decode qc_Mut_takeCell 20 = .ok (.iconst 0, 1) := by decide +kernel
theorem qd_Mut_takeCell_21 : decode qc_Mut_takeCell 21 = .ok (.istore_n 3, 1) := by decide +kernel
theorem qd_Mut_takeCell_22 : decode qc_Mut_takeCell 22 = .ok (.aload_n 1, 1) := by decide +kernel
theorem qd_Mut_takeCell_23 : decode qc_Mut_takeCell 23 = .ok (.iload_n 3, 1) := by decide +kernel
theorem qd_Mut_takeCell_24 : decode qc_Mut_takeCell 24 = .ok (.ifCond .eq 7, 3) := by decide +kernel
theorem qd_Mut_takeCell_27 : decode qc_Mut_takeCell 27 = .ok (.iconst 3, 1) := by decide +kernel
theorem qd_Mut_takeCell_28 : decode qc_Mut_takeCell 28 = .ok (.goto 4, 3) := by decide +kernel
theorem qd_Mut_takeCell_31 : decode qc_Mut_takeCell 31 = .ok (.iconst 1, 1) := by decide +kernel
theorem qd_Mut_takeCell_32 : decode qc_Mut_takeCell 32 = .ok (.invokevirtual 87, 3) := by decide +kernel
theorem qd_Mut_takeCell_35 : decode qc_Mut_takeCell 35 = .ok (.istore 4, 2) := by decide +kernel
theorem qd_Mut_takeCell_37 : decode qc_Mut_takeCell 37 = .ok (.iload 4, 2) := by decide +kernel
theorem qd_Mut_takeCell_39 : decode qc_Mut_takeCell 39 = .ok (.iconst (-1), 1) := by decide +kernel
theorem qd_Mut_takeCell_40 : decode qc_Mut_takeCell 40 = .ok (.if_icmp .ne 5, 3) := by decide +kernel
theorem qd_Mut_takeCell_43 : decode qc_Mut_takeCell 43 = .ok (.iconst 0, 1) := by decide +kernel
theorem qd_Mut_takeCell_44 : decode qc_Mut_takeCell 44 = .ok (.ireturn, 1) := by decide +kernel
theorem qd_Mut_takeCell_45 : decode qc_Mut_takeCell 45 = .ok (.aload_n 0, 1) := by decide +kernel
theorem qd_Mut_takeCell_46 : decode qc_Mut_takeCell 46 = .ok (.getfield 24, 3) := by decide +kernel
theorem qd_Mut_takeCell_49 : decode qc_Mut_takeCell 49 = .ok (.iload_n 2, 1) := by decide +kernel
theorem qd_Mut_takeCell_50 : decode qc_Mut_takeCell 50 = .ok (.iload 4, 2) := by decide +kernel
theorem qd_Mut_takeCell_52 : decode qc_Mut_takeCell 52 = .ok (.iastore, 1) := by decide +kernel
theorem qd_Mut_takeCell_53 : decode qc_Mut_takeCell 53 = .ok (.iconst 1, 1) := by decide +kernel
theorem qd_Mut_takeCell_54 : decode qc_Mut_takeCell 54 = .ok (.ireturn, 1) := by decide +kernel
abbrev qc_Mut_store : ByteArray := prog_5_method_11_code
abbrev qy_Mut_store : MethodName := ⟨"QuietSweep$Mutator", "store", "(LQuietSweep$Memory;III)Z"⟩
abbrev ql_Mut_store : Cond := .code qy_Mut_store qc_Mut_store 5 (some .boolean)
theorem qd_Mut_store_0 : decode qc_Mut_store 0 = .ok (.iload_n 2, 1) := by decide +kernel
theorem qd_Mut_store_1 : decode qc_Mut_store 1 = .ok (.iconst (-1), 1) := by decide +kernel
theorem qd_Mut_store_2 : decode qc_Mut_store 2 = .ok (.if_icmp .ne 5, 3) := by decide +kernel
theorem qd_Mut_store_5 : decode qc_Mut_store 5 = .ok (.iconst 1, 1) := by decide +kernel
theorem qd_Mut_store_6 : decode qc_Mut_store 6 = .ok (.ireturn, 1) := by decide +kernel
theorem qd_Mut_store_7 : decode qc_Mut_store 7 = .ok (.aload_n 0, 1) := by decide +kernel
theorem qd_Mut_store_8 : decode qc_Mut_store 8 = .ok (.getfield 39, 3) := by decide +kernel
theorem qd_Mut_store_11 : decode qc_Mut_store 11 = .ok (.invokevirtual 93, 3) := by decide +kernel
theorem qd_Mut_store_14 : decode qc_Mut_store 14 = .ok (.ifCond .eq 5, 3) := by decide +kernel
theorem qd_Mut_store_17 : decode qc_Mut_store 17 = .ok (.iconst 0, 1) := by decide +kernel
theorem qd_Mut_store_18 : decode qc_Mut_store 18 = .ok (.ireturn, 1) := by decide +kernel
theorem qd_Mut_store_19 : decode qc_Mut_store 19 = .ok (.iload_n 3, 1) := by decide +kernel
theorem qd_Mut_store_20 : decode qc_Mut_store 20 = .ok (.iconst 2, 1) := by decide +kernel
theorem qd_Mut_store_21 : decode qc_Mut_store 21 = .ok (.if_icmp .eq 30, 3) := by decide +kernel
theorem qd_Mut_store_24 : decode qc_Mut_store 24 = .ok (.aload_n 0, 1) := by decide +kernel
theorem qd_Mut_store_25 : decode qc_Mut_store 25 = .ok (.getfield 30, 3) := by decide +kernel
theorem qd_Mut_store_28 : decode qc_Mut_store 28 = .ok (.ifCond .eq 23, 3) := by decide +kernel
theorem qd_Mut_store_31 : decode qc_Mut_store 31 = .ok (.aload_n 1, 1) := by decide +kernel
theorem qd_Mut_store_32 : decode qc_Mut_store 32 = .ok (.aload_n 0, 1) := by decide +kernel
theorem qd_Mut_store_33 : decode qc_Mut_store 33 = .ok (.getfield 39, 3) := by decide +kernel
theorem qd_Mut_store_36 : decode qc_Mut_store 36 = .ok (.aload_n 1, 1) := by decide +kernel
theorem qd_Mut_store_37 : decode qc_Mut_store 37 = .ok (.iload_n 2, 1) := by decide +kernel
theorem qd_Mut_store_38 : decode qc_Mut_store 38 = .ok (.iload_n 3, 1) := by decide +kernel
theorem qd_Mut_store_39 : decode qc_Mut_store 39 = .ok (.invokevirtual 83, 3) := by decide +kernel
theorem qd_Mut_store_42 : decode qc_Mut_store 42 = .ok (.invokevirtual 97, 3) := by decide +kernel
theorem qd_Mut_store_45 : decode qc_Mut_store 45 = .ok (.aload_n 1, 1) := by decide +kernel
theorem qd_Mut_store_46 : decode qc_Mut_store 46 = .ok (.iload 4, 2) := by decide +kernel
theorem qd_Mut_store_48 : decode qc_Mut_store 48 = .ok (.invokevirtual 97, 3) := by decide +kernel
theorem qd_Mut_store_51 : decode qc_Mut_store 51 = .ok (.aload_n 0, 1) := by decide +kernel
theorem qd_Mut_store_52 : decode qc_Mut_store 52 = .ok (.getfield 39, 3) := by decide +kernel
theorem qd_Mut_store_55 : decode qc_Mut_store 55 = .ok (.iload_n 2, 1) := by decide +kernel
theorem qd_Mut_store_56 : decode qc_Mut_store 56 = .ok (.iload_n 3, 1) := by decide +kernel
theorem qd_Mut_store_57 : decode qc_Mut_store 57 = .ok (.iload 4, 2) := by decide +kernel
theorem qd_Mut_store_59 : decode qc_Mut_store 59 = .ok (.invokevirtual 100, 3) := by decide +kernel
theorem qd_Mut_store_62 : decode qc_Mut_store 62 = .ok (.iconst 1, 1) := by decide +kernel
theorem qd_Mut_store_63 : decode qc_Mut_store 63 = .ok (.ireturn, 1) := by decide +kernel
abbrev qc_Mut_answer : ByteArray := prog_5_method_12_code
abbrev qy_Mut_answer : MethodName := ⟨"QuietSweep$Mutator", "answer", "(LQuietSweep$Memory;I)Z"⟩
abbrev ql_Mut_answer : Cond := .code qy_Mut_answer qc_Mut_answer 4 (some .boolean)
theorem qd_Mut_answer_0 : decode qc_Mut_answer 0 = .ok (.iload_n 2, 1) := by decide +kernel
theorem qd_Mut_answer_1 : decode qc_Mut_answer 1 = .ok (.iconst (-1), 1) := by decide +kernel
theorem qd_Mut_answer_2 : decode qc_Mut_answer 2 = .ok (.if_icmp .eq 11, 3) := by decide +kernel
theorem qd_Mut_answer_5 : decode qc_Mut_answer 5 = .ok (.iload_n 2, 1) := by decide +kernel
theorem qd_Mut_answer_6 : decode qc_Mut_answer 6 = .ok (.aload_n 0, 1) := by decide +kernel
theorem qd_Mut_answer_7 : decode qc_Mut_answer 7 = .ok (.getfield 30, 3) := by decide +kernel
theorem qd_Mut_answer_10 : decode qc_Mut_answer 10 = .ok (.if_icmp .ne 5, 3) := by decide +kernel
theorem qd_Mut_answer_13 : decode qc_Mut_answer 13 = .ok (.iconst 0, 1) := by decide +kernel
theorem qd_Mut_answer_14 : decode qc_Mut_answer 14 = .ok (.ireturn, 1) := by decide +kernel
theorem qd_Mut_answer_15 : decode qc_Mut_answer 15 = .ok (.aload_n 0, 1) := by decide +kernel
theorem qd_Mut_answer_16 : decode qc_Mut_answer 16 = .ok (.getfield 39, 3) := by decide +kernel
theorem qd_Mut_answer_19 : decode qc_Mut_answer 19 = .ok (.aload_n 1, 1) := by decide +kernel
theorem qd_Mut_answer_20 : decode qc_Mut_answer 20 = .ok (.invokevirtual 103, 3) := by decide +kernel
theorem qd_Mut_answer_23 : decode qc_Mut_answer 23 = .ok (.aload_n 0, 1) := by decide +kernel
theorem qd_Mut_answer_24 : decode qc_Mut_answer 24 = .ok (.iload_n 2, 1) := by decide +kernel
theorem qd_Mut_answer_25 : decode qc_Mut_answer 25 = .ok (.putfield 30, 3) := by decide +kernel
theorem qd_Mut_answer_28 : decode qc_Mut_answer 28 = .ok (.iload_n 2, 1) := by decide +kernel
theorem qd_Mut_answer_29 : decode qc_Mut_answer 29 = .ok (.iconst 3, 1) := by decide +kernel
theorem qd_Mut_answer_30 : decode qc_Mut_answer 30 = .ok (.if_icmp .ne 26, 3) := by decide +kernel
theorem qd_Mut_answer_33 : decode qc_Mut_answer 33 = .ok (.iconst 0, 1) := by decide +kernel
theorem qd_Mut_answer_34 : decode qc_Mut_answer 34 = .ok (.istore_n 3, 1) := by decide +kernel
theorem qd_Mut_answer_35 : decode qc_Mut_answer 35 = .ok (.iload_n 3, 1) := by decide +kernel
theorem qd_Mut_answer_36 : decode qc_Mut_answer 36 = .ok (.iconst 4, 1) := by decide +kernel
theorem qd_Mut_answer_37 : decode qc_Mut_answer 37 = .ok (.if_icmp .ge 19, 3) := by decide +kernel
theorem qd_Mut_answer_40 : decode qc_Mut_answer 40 = .ok (.aload_n 1, 1) := by decide +kernel
theorem qd_Mut_answer_41 : decode qc_Mut_answer 41 = .ok (.aload_n 0, 1) := by decide +kernel
theorem qd_Mut_answer_42 : decode qc_Mut_answer 42 = .ok (.getfield 24, 3) := by decide +kernel
theorem qd_Mut_answer_45 : decode qc_Mut_answer 45 = .ok (.iload_n 3, 1) := by decide +kernel
theorem qd_Mut_answer_46 : decode qc_Mut_answer 46 = .ok (.iaload, 1) := by decide +kernel
theorem qd_Mut_answer_47 : decode qc_Mut_answer 47 = .ok (.invokevirtual 97, 3) := by decide +kernel
theorem qd_Mut_answer_50 : decode qc_Mut_answer 50 = .ok (.iinc 3 1, 3) := by decide +kernel
theorem qd_Mut_answer_53 : decode qc_Mut_answer 53 = .ok (.goto (-18), 3) := by decide +kernel
theorem qd_Mut_answer_56 : decode qc_Mut_answer 56 = .ok (.iconst 1, 1) := by decide +kernel
theorem qd_Mut_answer_57 : decode qc_Mut_answer 57 = .ok (.ireturn, 1) := by decide +kernel
abbrev qc_Mut_instructionAt : ByteArray := prog_5_method_3_code
abbrev qy_Mut_instructionAt : MethodName := ⟨"QuietSweep$Mutator", "instructionAt", "(I)I"⟩
abbrev ql_Mut_instructionAt : Cond := .code qy_Mut_instructionAt qc_Mut_instructionAt 2 (some .int)
theorem qd_Mut_instructionAt_0 : decode qc_Mut_instructionAt 0 = .ok (.iload_n 1, 1) := by decide +kernel
theorem qd_Mut_instructionAt_1 : decode qc_Mut_instructionAt 1 = .ok (.ifCond .lt 20, 3) := by decide +kernel
theorem qd_Mut_instructionAt_4 : decode qc_Mut_instructionAt 4 = .ok (.iload_n 1, 1) := by decide +kernel
theorem qd_Mut_instructionAt_5 : decode qc_Mut_instructionAt 5 = .ok (.aload_n 0, 1) := by decide +kernel
theorem qd_Mut_instructionAt_6 : decode qc_Mut_instructionAt 6 = .ok (.getfield 17, 3) := by decide +kernel
theorem qd_Mut_instructionAt_9 : decode qc_Mut_instructionAt 9 = .ok (.if_icmp .ge 12, 3) := by decide +kernel
theorem qd_Mut_instructionAt_12 : decode qc_Mut_instructionAt 12 = .ok (.aload_n 0, 1) := by decide +kernel
theorem qd_Mut_instructionAt_13 : decode qc_Mut_instructionAt 13 = .ok (.getfield 11, 3) := by decide +kernel
theorem qd_Mut_instructionAt_16 : decode qc_Mut_instructionAt 16 = .ok (.iload_n 1, 1) := by decide +kernel
theorem qd_Mut_instructionAt_17 : decode qc_Mut_instructionAt 17 = .ok (.iaload, 1) := by decide +kernel
theorem qd_Mut_instructionAt_18 : decode qc_Mut_instructionAt 18 = .ok (.goto 4, 3) := by decide +kernel
theorem qd_Mut_instructionAt_21 : decode qc_Mut_instructionAt 21 = .ok (.iconst (-1), 1) := by decide +kernel
theorem qd_Mut_instructionAt_22 : decode qc_Mut_instructionAt 22 = .ok (.ireturn, 1) := by decide +kernel
abbrev qc_Mut_variableAt : ByteArray := prog_5_method_4_code
abbrev qy_Mut_variableAt : MethodName := ⟨"QuietSweep$Mutator", "variableAt", "(I)I"⟩
abbrev ql_Mut_variableAt : Cond := .code qy_Mut_variableAt qc_Mut_variableAt 2 (some .int)
theorem qd_Mut_variableAt_0 : decode qc_Mut_variableAt 0 = .ok (.iload_n 1, 1) := by decide +kernel
theorem qd_Mut_variableAt_1 : decode qc_Mut_variableAt 1 = .ok (.ifCond .lt 9, 3) := by decide +kernel
theorem qd_Mut_variableAt_4 : decode qc_Mut_variableAt 4 = .ok (.iload_n 1, 1) := by decide +kernel
theorem qd_Mut_variableAt_5 : decode qc_Mut_variableAt 5 = .ok (.bipush 7, 2) := by decide +kernel
theorem qd_Mut_variableAt_7 : decode qc_Mut_variableAt 7 = .ok (.if_icmp .lt 5, 3) := by decide +kernel
theorem qd_Mut_variableAt_10 : decode qc_Mut_variableAt 10 = .ok (.iconst (-1), 1) := by decide +kernel
theorem qd_Mut_variableAt_11 : decode qc_Mut_variableAt 11 = .ok (.ireturn, 1) := by decide +kernel
theorem qd_Mut_variableAt_12 : decode qc_Mut_variableAt 12 = .ok (.iload_n 1, 1) := by decide +kernel
theorem qd_Mut_variableAt_13 : decode qc_Mut_variableAt 13 = .ok (.iconst 4, 1) := by decide +kernel
theorem qd_Mut_variableAt_14 : decode qc_Mut_variableAt 14 = .ok (.if_icmp .ge 12, 3) := by decide +kernel
theorem qd_Mut_variableAt_17 : decode qc_Mut_variableAt 17 = .ok (.aload_n 0, 1) := by decide +kernel
theorem qd_Mut_variableAt_18 : decode qc_Mut_variableAt 18 = .ok (.getfield 24, 3) := by decide +kernel
theorem qd_Mut_variableAt_21 : decode qc_Mut_variableAt 21 = .ok (.iload_n 1, 1) := by decide +kernel
theorem qd_Mut_variableAt_22 : decode qc_Mut_variableAt 22 = .ok (.iaload, 1) := by decide +kernel
theorem qd_Mut_variableAt_23 : decode qc_Mut_variableAt 23 = .ok (.goto 11, 3) := by decide +kernel
theorem qd_Mut_variableAt_26 : decode qc_Mut_variableAt 26 = .ok (.aload_n 0, 1) := by decide +kernel
theorem qd_Mut_variableAt_27 : decode qc_Mut_variableAt 27 = .ok (.getfield 27, 3) := by decide +kernel
theorem qd_Mut_variableAt_30 : decode qc_Mut_variableAt 30 = .ok (.iload_n 1, 1) := by decide +kernel
theorem qd_Mut_variableAt_31 : decode qc_Mut_variableAt 31 = .ok (.iconst 4, 1) := by decide +kernel
theorem qd_Mut_variableAt_32 : decode qc_Mut_variableAt 32 = .ok (.isub, 1) := by decide +kernel
theorem qd_Mut_variableAt_33 : decode qc_Mut_variableAt 33 = .ok (.iaload, 1) := by decide +kernel
theorem qd_Mut_variableAt_34 : decode qc_Mut_variableAt 34 = .ok (.ireturn, 1) := by decide +kernel
abbrev qc_Mut_rootSet : ByteArray := prog_5_method_13_code
abbrev qy_Mut_rootSet : MethodName := ⟨"QuietSweep$Mutator", "rootSet", "()I"⟩
abbrev ql_Mut_rootSet : Cond := .code qy_Mut_rootSet qc_Mut_rootSet 3 (some .int)
theorem qd_Mut_rootSet_0 : decode qc_Mut_rootSet 0 = .ok (.aload_n 0, 1) := by decide +kernel
theorem qd_Mut_rootSet_1 : decode qc_Mut_rootSet 1 = .ok (.getfield 39, 3) := by decide +kernel
theorem qd_Mut_rootSet_4 : decode qc_Mut_rootSet 4 = .ok (.invokevirtual 107, 3) := by decide +kernel
theorem qd_Mut_rootSet_7 : decode qc_Mut_rootSet 7 = .ok (.istore_n 1, 1) := by decide +kernel
theorem qd_Mut_rootSet_8 : decode qc_Mut_rootSet 8 = .ok (.iconst 0, 1) := by decide +kernel
theorem qd_Mut_rootSet_9 : decode qc_Mut_rootSet 9 = .ok (.istore_n 2, 1) := by decide +kernel
theorem qd_Mut_rootSet_10 : decode qc_Mut_rootSet 10 = .ok (.iload_n 2, 1) := by decide +kernel
theorem qd_Mut_rootSet_11 : decode qc_Mut_rootSet 11 = .ok (.iconst 4, 1) := by decide +kernel
theorem qd_Mut_rootSet_12 : decode qc_Mut_rootSet 12 = .ok (.if_icmp .ge 21, 3) := by decide +kernel
theorem qd_Mut_rootSet_15 : decode qc_Mut_rootSet 15 = .ok (.iload_n 1, 1) := by decide +kernel
theorem qd_Mut_rootSet_16 : decode qc_Mut_rootSet 16 = .ok (.aload_n 0, 1) := by decide +kernel
theorem qd_Mut_rootSet_17 : decode qc_Mut_rootSet 17 = .ok (.getfield 24, 3) := by decide +kernel
theorem qd_Mut_rootSet_20 : decode qc_Mut_rootSet 20 = .ok (.iload_n 2, 1) := by decide +kernel
theorem qd_Mut_rootSet_21 : decode qc_Mut_rootSet 21 = .ok (.iaload, 1) := by decide +kernel
theorem qd_Mut_rootSet_22 : decode qc_Mut_rootSet 22 = .ok (.invokestatic 111, 3) := by decide +kernel
theorem qd_Mut_rootSet_25 : decode qc_Mut_rootSet 25 = .ok (.ior, 1) := by decide +kernel
theorem qd_Mut_rootSet_26 : decode qc_Mut_rootSet 26 = .ok (.istore_n 1, 1) := by decide +kernel
theorem qd_Mut_rootSet_27 : decode qc_Mut_rootSet 27 = .ok (.iinc 2 1, 3) := by decide +kernel
theorem qd_Mut_rootSet_30 : decode qc_Mut_rootSet 30 = .ok (.goto (-20), 3) := by decide +kernel
theorem qd_Mut_rootSet_33 : decode qc_Mut_rootSet 33 = .ok (.iload_n 1, 1) := by decide +kernel
theorem qd_Mut_rootSet_34 : decode qc_Mut_rootSet 34 = .ok (.ireturn, 1) := by decide +kernel
abbrev qc_Out_init : ByteArray := prog_6_method_1_code
abbrev qy_Out_init : MethodName := ⟨"QuietSweep$Outs", "<init>", "()V"⟩
abbrev ql_Out_init : Cond := .code qy_Out_init qc_Out_init 1 none
theorem qd_Out_init_0 : decode qc_Out_init 0 = .ok (.aload_n 0, 1) := by decide +kernel
theorem qd_Out_init_1 : decode qc_Out_init 1 = .ok (.invokespecial 1, 3) := by decide +kernel
theorem qd_Out_init_4 : decode qc_Out_init 4 = .ok (.aload_n 0, 1) := by decide +kernel
theorem qd_Out_init_5 : decode qc_Out_init 5 = .ok (.bipush 16, 2) := by decide +kernel
theorem qd_Out_init_7 : decode qc_Out_init 7 = .ok (.newarray .int, 2) := by decide +kernel
theorem qd_Out_init_9 : decode qc_Out_init 9 = .ok (.putfield 9, 3) := by decide +kernel
theorem qd_Out_init_12 : decode qc_Out_init 12 = .ok (.aload_n 0, 1) := by decide +kernel
theorem qd_Out_init_13 : decode qc_Out_init 13 = .ok (.iconst 0, 1) := by decide +kernel
theorem qd_Out_init_14 : decode qc_Out_init 14 = .ok (.putfield 13, 3) := by decide +kernel
theorem qd_Out_init_17 : decode qc_Out_init 17 = .ok (.return_, 1) := by decide +kernel
abbrev qc_Out_add : ByteArray := prog_6_method_2_code
abbrev qy_Out_add : MethodName := ⟨"QuietSweep$Outs", "add", "(I)V"⟩
abbrev ql_Out_add : Cond := .code qy_Out_add qc_Out_add 2 none
theorem qd_Out_add_0 : decode qc_Out_add 0 = .ok (.aload_n 0, 1) := by decide +kernel
theorem qd_Out_add_1 : decode qc_Out_add 1 = .ok (.getfield 9, 3) := by decide +kernel
theorem qd_Out_add_4 : decode qc_Out_add 4 = .ok (.aload_n 0, 1) := by decide +kernel
theorem qd_Out_add_5 : decode qc_Out_add 5 = .ok (.getfield 13, 3) := by decide +kernel
theorem qd_Out_add_8 : decode qc_Out_add 8 = .ok (.invokestatic 17, 3) := by decide +kernel
theorem qd_Out_add_11 : decode qc_Out_add 11 = .ok (.iload_n 1, 1) := by decide +kernel
theorem qd_Out_add_12 : decode qc_Out_add 12 = .ok (.iastore, 1) := by decide +kernel
theorem qd_Out_add_13 : decode qc_Out_add 13 = .ok (.aload_n 0, 1) := by decide +kernel
theorem qd_Out_add_14 : decode qc_Out_add 14 = .ok (.dup, 1) := by decide +kernel
theorem qd_Out_add_15 : decode qc_Out_add 15 = .ok (.getfield 13, 3) := by decide +kernel
theorem qd_Out_add_18 : decode qc_Out_add 18 = .ok (.iconst 1, 1) := by decide +kernel
theorem qd_Out_add_19 : decode qc_Out_add 19 = .ok (.iadd, 1) := by decide +kernel
theorem qd_Out_add_20 : decode qc_Out_add 20 = .ok (.putfield 13, 3) := by decide +kernel
theorem qd_Out_add_23 : decode qc_Out_add 23 = .ok (.return_, 1) := by decide +kernel
abbrev qc_Out_placeOf : ByteArray := prog_6_method_4_code
abbrev qy_Out_placeOf : MethodName := ⟨"QuietSweep$Outs", "placeOf", "(I)I"⟩
abbrev ql_Out_placeOf : Cond := .code qy_Out_placeOf qc_Out_placeOf 1 (some .int)
theorem qd_Out_placeOf_0 : decode qc_Out_placeOf 0 = .ok (.iload_n 0, 1) := by decide +kernel
theorem qd_Out_placeOf_1 : decode qc_Out_placeOf 1 = .ok (.bipush 16, 2) := by decide +kernel
theorem qd_Out_placeOf_3 : decode qc_Out_placeOf 3 = .ok (.invokestatic 21, 3) := by decide +kernel
theorem qd_Out_placeOf_6 : decode qc_Out_placeOf 6 = .ok (.ireturn, 1) := by decide +kernel
abbrev qc_Out_latest : ByteArray := prog_6_method_3_code
abbrev qy_Out_latest : MethodName := ⟨"QuietSweep$Outs", "latest", "(I)I"⟩
abbrev ql_Out_latest : Cond := .code qy_Out_latest qc_Out_latest 2 (some .int)
theorem qd_Out_latest_0 : decode qc_Out_latest 0 = .ok (.iload_n 1, 1) := by decide +kernel
theorem qd_Out_latest_1 : decode qc_Out_latest 1 = .ok (.ifCond .lt 17, 3) := by decide +kernel
theorem qd_Out_latest_4 : decode qc_Out_latest 4 = .ok (.iload_n 1, 1) := by decide +kernel
theorem qd_Out_latest_5 : decode qc_Out_latest 5 = .ok (.bipush 16, 2) := by decide +kernel
theorem qd_Out_latest_7 : decode qc_Out_latest 7 = .ok (.if_icmp .ge 11, 3) := by decide +kernel
theorem qd_Out_latest_10 : decode qc_Out_latest 10 = .ok (.iload_n 1, 1) := by decide +kernel
theorem qd_Out_latest_11 : decode qc_Out_latest 11 = .ok (.aload_n 0, 1) := by decide +kernel
theorem qd_Out_latest_12 : decode qc_Out_latest 12 = .ok (.getfield 13, 3) := by decide +kernel
theorem qd_Out_latest_15 : decode qc_Out_latest 15 = .ok (.if_icmp .lt 5, 3) := by decide +kernel
theorem qd_Out_latest_18 : decode qc_Out_latest 18 = .ok (.iconst 0, 1) := by decide +kernel
theorem qd_Out_latest_19 : decode qc_Out_latest 19 = .ok (.ireturn, 1) := by decide +kernel
theorem qd_Out_latest_20 : decode qc_Out_latest 20 = .ok (.aload_n 0, 1) := by decide +kernel
theorem qd_Out_latest_21 : decode qc_Out_latest 21 = .ok (.getfield 9, 3) := by decide +kernel
theorem qd_Out_latest_24 : decode qc_Out_latest 24 = .ok (.aload_n 0, 1) := by decide +kernel
theorem qd_Out_latest_25 : decode qc_Out_latest 25 = .ok (.getfield 13, 3) := by decide +kernel
theorem qd_Out_latest_28 : decode qc_Out_latest 28 = .ok (.iconst 1, 1) := by decide +kernel
theorem qd_Out_latest_29 : decode qc_Out_latest 29 = .ok (.isub, 1) := by decide +kernel
theorem qd_Out_latest_30 : decode qc_Out_latest 30 = .ok (.iload_n 1, 1) := by decide +kernel
theorem qd_Out_latest_31 : decode qc_Out_latest 31 = .ok (.isub, 1) := by decide +kernel
theorem qd_Out_latest_32 : decode qc_Out_latest 32 = .ok (.invokestatic 17, 3) := by decide +kernel
theorem qd_Out_latest_35 : decode qc_Out_latest 35 = .ok (.iaload, 1) := by decide +kernel
theorem qd_Out_latest_36 : decode qc_Out_latest 36 = .ok (.ireturn, 1) := by decide +kernel
abbrev qc_Src_init : ByteArray := prog_7_method_1_code
abbrev qy_Src_init : MethodName := ⟨"QuietSweep$Source", "<init>", "()V"⟩
abbrev ql_Src_init : Cond := .code qy_Src_init qc_Src_init 1 none
theorem qd_Src_init_0 : decode qc_Src_init 0 = .ok (.aload_n 0, 1) := by decide +kernel
theorem qd_Src_init_1 : decode qc_Src_init 1 = .ok (.invokespecial 3, 3) := by decide +kernel
theorem qd_Src_init_4 : decode qc_Src_init 4 = .ok (.aload_n 0, 1) := by decide +kernel
theorem qd_Src_init_5 : decode qc_Src_init 5 = .ok (.bipush 60, 2) := by decide +kernel
theorem qd_Src_init_7 : decode qc_Src_init 7 = .ok (.newarray .char, 2) := by decide +kernel
theorem qd_Src_init_9 : decode qc_Src_init 9 = .ok (.putfield 11, 3) := by decide +kernel
theorem qd_Src_init_12 : decode qc_Src_init 12 = .ok (.aload_n 0, 1) := by decide +kernel
theorem qd_Src_init_13 : decode qc_Src_init 13 = .ok (.iconst 0, 1) := by decide +kernel
theorem qd_Src_init_14 : decode qc_Src_init 14 = .ok (.putfield 15, 3) := by decide +kernel
theorem qd_Src_init_17 : decode qc_Src_init 17 = .ok (.aload_n 0, 1) := by decide +kernel
theorem qd_Src_init_18 : decode qc_Src_init 18 = .ok (.bipush 60, 2) := by decide +kernel
theorem qd_Src_init_20 : decode qc_Src_init 20 = .ok (.newarray .int, 2) := by decide +kernel
theorem qd_Src_init_22 : decode qc_Src_init 22 = .ok (.putfield 19, 3) := by decide +kernel
theorem qd_Src_init_25 : decode qc_Src_init 25 = .ok (.aload_n 0, 1) := by decide +kernel
theorem qd_Src_init_26 : decode qc_Src_init 26 = .ok (.iconst 0, 1) := by decide +kernel
theorem qd_Src_init_27 : decode qc_Src_init 27 = .ok (.putfield 23, 3) := by decide +kernel
theorem qd_Src_init_30 : decode qc_Src_init 30 = .ok (.aload_n 0, 1) := by decide +kernel
theorem qd_Src_init_31 : decode qc_Src_init 31 = .ok (.bipush 6, 2) := by decide +kernel
theorem qd_Src_init_33 : decode qc_Src_init 33 = .ok (.newarray .int, 2) := by decide +kernel
theorem qd_Src_init_35 : decode qc_Src_init 35 = .ok (.putfield 26, 3) := by decide +kernel
theorem qd_Src_init_38 : decode qc_Src_init 38 = .ok (.aload_n 0, 1) := by decide +kernel
theorem qd_Src_init_39 : decode qc_Src_init 39 = .ok (.iconst 0, 1) := by decide +kernel
theorem qd_Src_init_40 : decode qc_Src_init 40 = .ok (.putfield 29, 3) := by decide +kernel
theorem qd_Src_init_43 : decode qc_Src_init 43 = .ok (.return_, 1) := by decide +kernel
abbrev qc_Src_append : ByteArray := prog_7_method_2_code
abbrev qy_Src_append : MethodName := ⟨"QuietSweep$Source", "append", "(C)Z"⟩
abbrev ql_Src_append : Cond := .code qy_Src_append qc_Src_append 2 (some .boolean)
theorem qd_Src_append_0 : decode qc_Src_append 0 = .ok (.aload_n 0, 1) := by decide +kernel
theorem qd_Src_append_1 : decode qc_Src_append 1 = .ok (.getfield 15, 3) := by decide +kernel
theorem qd_Src_append_4 : decode qc_Src_append 4 = .ok (.bipush 60, 2) := by decide +kernel
theorem qd_Src_append_6 : decode qc_Src_append 6 = .ok (.if_icmp .ge 15, 3) := by decide +kernel
theorem qd_Src_append_9 : decode qc_Src_append 9 = .ok (.iload_n 1, 1) := by decide +kernel
theorem qd_Src_append_10 : decode qc_Src_append 10 = .ok (.bipush 32, 2) := by decide +kernel
theorem qd_Src_append_12 : decode qc_Src_append 12 = .ok (.if_icmp .lt 9, 3) := by decide +kernel
theorem qd_Src_append_15 : decode qc_Src_append 15 = .ok (.iload_n 1, 1) := by decide +kernel
theorem qd_Src_append_16 : decode qc_Src_append 16 = .ok (.bipush 126, 2) := by decide +kernel
theorem qd_Src_append_18 : decode qc_Src_append 18 = .ok (.if_icmp .le 5, 3) := by decide +kernel
theorem qd_Src_append_21 : decode qc_Src_append 21 = .ok (.iconst 0, 1) := by decide +kernel
theorem qd_Src_append_22 : decode qc_Src_append 22 = .ok (.ireturn, 1) := by decide +kernel
theorem qd_Src_append_23 : decode qc_Src_append 23 = .ok (.aload_n 0, 1) := by decide +kernel
theorem qd_Src_append_24 : decode qc_Src_append 24 = .ok (.getfield 11, 3) := by decide +kernel
theorem qd_Src_append_27 : decode qc_Src_append 27 = .ok (.aload_n 0, 1) := by decide +kernel
theorem qd_Src_append_28 : decode qc_Src_append 28 = .ok (.getfield 15, 3) := by decide +kernel
theorem qd_Src_append_31 : decode qc_Src_append 31 = .ok (.iload_n 1, 1) := by decide +kernel
theorem qd_Src_append_32 : decode qc_Src_append 32 = .ok (.castore, 1) := by decide +kernel
theorem qd_Src_append_33 : decode qc_Src_append 33 = .ok (.aload_n 0, 1) := by decide +kernel
theorem qd_Src_append_34 : decode qc_Src_append 34 = .ok (.dup, 1) := by decide +kernel
theorem qd_Src_append_35 : decode qc_Src_append 35 = .ok (.getfield 15, 3) := by decide +kernel
theorem qd_Src_append_38 : decode qc_Src_append 38 = .ok (.iconst 1, 1) := by decide +kernel
theorem qd_Src_append_39 : decode qc_Src_append 39 = .ok (.iadd, 1) := by decide +kernel
theorem qd_Src_append_40 : decode qc_Src_append 40 = .ok (.putfield 15, 3) := by decide +kernel
theorem qd_Src_append_43 : decode qc_Src_append 43 = .ok (.iconst 1, 1) := by decide +kernel
theorem qd_Src_append_44 : decode qc_Src_append 44 = .ok (.ireturn, 1) := by decide +kernel
abbrev qc_Src_translate : ByteArray := prog_7_method_4_code
abbrev qy_Src_translate : MethodName := ⟨"QuietSweep$Source", "translate", "()Z"⟩
abbrev ql_Src_translate : Cond := .code qy_Src_translate qc_Src_translate 3 (some .boolean)
theorem qd_Src_translate_0 : decode qc_Src_translate 0 = .ok (.aload_n 0, 1) := by decide +kernel
theorem qd_Src_translate_1 : decode qc_Src_translate 1 = .ok (.iconst 0, 1) := by decide +kernel
theorem qd_Src_translate_2 : decode qc_Src_translate 2 = .ok (.putfield 23, 3) := by decide +kernel
theorem qd_Src_translate_5 : decode qc_Src_translate 5 = .ok (.aload_n 0, 1) := by decide +kernel
theorem qd_Src_translate_6 : decode qc_Src_translate 6 = .ok (.iconst 0, 1) := by decide +kernel
theorem qd_Src_translate_7 : decode qc_Src_translate 7 = .ok (.putfield 29, 3) := by decide +kernel
theorem qd_Src_translate_10 : decode qc_Src_translate 10 = .ok (.iconst 0, 1) := by decide +kernel
theorem qd_Src_translate_11 : decode qc_Src_translate 11 = .ok (.istore_n 1, 1) := by decide +kernel
theorem qd_Src_translate_12 : decode qc_Src_translate 12 = .ok (.iload_n 1, 1) := by decide +kernel
theorem qd_Src_translate_13 : decode qc_Src_translate 13 = .ok (.aload_n 0, 1) := by decide +kernel
theorem qd_Src_translate_14 : decode qc_Src_translate 14 = .ok (.getfield 15, 3) := by decide +kernel
theorem qd_Src_translate_17 : decode qc_Src_translate 17 = .ok (.if_icmp .ge 23, 3) := by decide +kernel
theorem qd_Src_translate_20 : decode qc_Src_translate 20 = .ok (.aload_n 0, 1) := by decide +kernel
theorem qd_Src_translate_21 : decode qc_Src_translate 21 = .ok (.iload_n 1, 1) := by decide +kernel
theorem qd_Src_translate_22 : decode qc_Src_translate 22 = .ok (.invokevirtual 32, 3) := by decide +kernel
theorem qd_Src_translate_25 : decode qc_Src_translate 25 = .ok (.istore_n 2, 1) := by decide +kernel
theorem qd_Src_translate_26 : decode qc_Src_translate 26 = .ok (.iload_n 2, 1) := by decide +kernel
theorem qd_Src_translate_27 : decode qc_Src_translate 27 = .ok (.iconst 1, 1) := by decide +kernel
theorem qd_Src_translate_28 : decode qc_Src_translate 28 = .ok (.if_icmp .ge 5, 3) := by decide +kernel
theorem qd_Src_translate_31 : decode qc_Src_translate 31 = .ok (.iconst 0, 1) := by decide +kernel
theorem qd_Src_translate_32 : decode qc_Src_translate 32 = .ok (.ireturn, 1) := by decide +kernel
theorem qd_Src_translate_33 : decode qc_Src_translate 33 = .ok (.iload_n 1, 1) := by decide +kernel
theorem qd_Src_translate_34 : decode qc_Src_translate 34 = .ok (.iload_n 2, 1) := by decide +kernel
theorem qd_Src_translate_35 : decode qc_Src_translate 35 = .ok (.iadd, 1) := by decide +kernel
theorem qd_Src_translate_36 : decode qc_Src_translate 36 = .ok (.istore_n 1, 1) := by decide +kernel
theorem qd_Src_translate_37 : decode qc_Src_translate 37 = .ok (.goto (-25), 3) := by decide +kernel
theorem qd_Src_translate_40 : decode qc_Src_translate 40 = .ok (.aload_n 0, 1) := by decide +kernel
theorem qd_Src_translate_41 : decode qc_Src_translate 41 = .ok (.getfield 29, 3) := by decide +kernel
theorem qd_Src_translate_44 : decode qc_Src_translate 44 = .ok (.ifCond .ne 7, 3) := by decide +kernel
theorem qd_Src_translate_47 : decode qc_Src_translate 47 = .ok (.iconst 1, 1) := by decide +kernel
theorem qd_Src_translate_48 : decode qc_Src_translate 48 = .ok (.goto 4, 3) := by decide +kernel
theorem qd_Src_translate_51 : decode qc_Src_translate 51 = .ok (.iconst 0, 1) := by decide +kernel
theorem qd_Src_translate_52 : decode qc_Src_translate 52 = .ok (.ireturn, 1) := by decide +kernel
abbrev qc_Src_translateAt : ByteArray := prog_7_method_5_code
abbrev qy_Src_translateAt : MethodName := ⟨"QuietSweep$Source", "translateAt", "(I)I"⟩
abbrev ql_Src_translateAt : Cond := .code qy_Src_translateAt qc_Src_translateAt 4 (some .int)
theorem qd_Src_translateAt_0 : decode qc_Src_translateAt 0 = .ok (.aload_n 0, 1) := by decide +kernel
theorem qd_Src_translateAt_1 : decode qc_Src_translateAt 1 = .ok (.getfield 11, 3) := by decide +kernel
theorem qd_Src_translateAt_4 : decode qc_Src_translateAt 4 = .ok (.iload_n 1, 1) := by decide +kernel
theorem qd_Src_translateAt_5 : decode qc_Src_translateAt 5 = .ok (.caload, 1) := by decide +kernel
theorem qd_Src_translateAt_6 : decode qc_Src_translateAt 6 = .ok (.bipush 40, 2) := by decide +kernel
theorem qd_Src_translateAt_8 : decode qc_Src_translateAt 8 = .ok (.if_icmp .ne 11, 3) := by decide +kernel
theorem qd_Src_translateAt_11 : decode qc_Src_translateAt 11 = .ok (.aload_n 0, 1) := by decide +kernel
theorem qd_Src_translateAt_12 : decode qc_Src_translateAt 12 = .ok (.iload_n 1, 1) := by decide +kernel
theorem qd_Src_translateAt_13 : decode qc_Src_translateAt 13 = .ok (.iconst 1, 1) := by decide +kernel
theorem qd_Src_translateAt_14 : decode qc_Src_translateAt 14 = .ok (.iadd, 1) := by decide +kernel
theorem qd_Src_translateAt_15 : decode qc_Src_translateAt 15 = .ok (.invokevirtual 36, 3) := by decide +kernel
theorem qd_Src_translateAt_18 : decode qc_Src_translateAt 18 = .ok (.ireturn, 1) := by decide +kernel
theorem qd_Src_translateAt_19 : decode qc_Src_translateAt 19 = .ok (.aload_n 0, 1) := by decide +kernel
theorem qd_Src_translateAt_20 : decode qc_Src_translateAt 20 = .ok (.getfield 11, 3) := by decide +kernel
theorem qd_Src_translateAt_23 : decode qc_Src_translateAt 23 = .ok (.iload_n 1, 1) := by decide +kernel
theorem qd_Src_translateAt_24 : decode qc_Src_translateAt 24 = .ok (.caload, 1) := by decide +kernel
theorem qd_Src_translateAt_25 : decode qc_Src_translateAt 25 = .ok (.bipush 41, 2) := by decide +kernel
theorem qd_Src_translateAt_27 : decode qc_Src_translateAt 27 = .ok (.if_icmp .ne 8, 3) := by decide +kernel
theorem qd_Src_translateAt_30 : decode qc_Src_translateAt 30 = .ok (.aload_n 0, 1) := by decide +kernel
theorem qd_Src_translateAt_31 : decode qc_Src_translateAt 31 = .ok (.invokevirtual 39, 3) := by decide +kernel
theorem qd_Src_translateAt_34 : decode qc_Src_translateAt 34 = .ok (.ireturn, 1) := by decide +kernel
theorem qd_Src_translateAt_35 : decode qc_Src_translateAt 35 = .ok (.iconst 0, 1) := by decide +kernel
theorem qd_Src_translateAt_36 : decode qc_Src_translateAt 36 = .ok (.istore_n 2, 1) := by decide +kernel
theorem qd_Src_translateAt_37 : decode qc_Src_translateAt 37 = .ok (.iload_n 2, 1) := by decide +kernel
theorem qd_Src_translateAt_38 : decode qc_Src_translateAt 38 = .ok (.bipush 15, 2) := by decide +kernel
theorem qd_Src_translateAt_40 : decode qc_Src_translateAt 40 = .ok (.if_icmp .ge 40, 3) := by decide +kernel
theorem qd_Src_translateAt_43 : decode qc_Src_translateAt 43 = .ok (.iload_n 2, 1) := by decide +kernel
theorem qd_Src_translateAt_44 : decode qc_Src_translateAt 44 = .ok (.invokestatic 43, 3) := by decide +kernel
theorem qd_Src_translateAt_47 : decode qc_Src_translateAt 47 = .ok (.astore_n 3, 1) := by decide +kernel
theorem qd_Src_translateAt_48 : decode qc_Src_translateAt 48 = .ok (.aload_n 0, 1) := by decide +kernel
theorem qd_Src_translateAt_49 : decode qc_Src_translateAt 49 = .ok (.iload_n 1, 1) := by decide +kernel
theorem qd_Src_translateAt_50 : decode qc_Src_translateAt 50 = .ok (.aload_n 3, 1) := by decide +kernel
theorem qd_Src_translateAt_51 : decode qc_Src_translateAt 51 = .ok (.invokevirtual 47, 3) := by decide +kernel
theorem qd_Src_translateAt_54 : decode qc_Src_translateAt 54 = .ok (.ifCond .eq 20, 3) := by decide +kernel
theorem qd_Src_translateAt_57 : decode qc_Src_translateAt 57 = .ok (.aload_n 0, 1) := by decide +kernel
theorem qd_Src_translateAt_58 : decode qc_Src_translateAt 58 = .ok (.iload_n 2, 1) := by decide +kernel
theorem qd_Src_translateAt_59 : decode qc_Src_translateAt 59 = .ok (.aload_n 0, 1) := by decide +kernel
theorem qd_Src_translateAt_60 : decode qc_Src_translateAt 60 = .ok (.iload_n 1, 1) := by decide +kernel
theorem qd_Src_translateAt_61 : decode qc_Src_translateAt 61 = .ok (.aload_n 3, 1) := by decide +kernel
theorem qd_Src_translateAt_62 : decode qc_Src_translateAt 62 = .ok (.invokevirtual 51, 3) := by decide +kernel
theorem qd_Src_translateAt_65 : decode qc_Src_translateAt 65 = .ok (.iadd, 1) := by decide +kernel
theorem qd_Src_translateAt_66 : decode qc_Src_translateAt 66 = .ok (.invokevirtual 55, 3) := by decide +kernel
theorem qd_Src_translateAt_69 : decode qc_Src_translateAt 69 = .ok (.aload_n 3, 1) := by decide +kernel
theorem qd_Src_translateAt_70 : decode qc_Src_translateAt 70 = .ok (.invokevirtual 59, 3) := by decide +kernel
theorem qd_Src_translateAt_73 : decode qc_Src_translateAt 73 = .ok (.ireturn, 1) := by decide +kernel
theorem qd_Src_translateAt_74 : decode qc_Src_translateAt 74 = .ok (.iinc 2 1, 3) := by decide +kernel
theorem qd_Src_translateAt_77 : decode qc_Src_translateAt 77 = .ok (.goto (-40), 3) := by decide +kernel
theorem qd_Src_translateAt_80 : decode qc_Src_translateAt 80 = .ok (.iconst 0, 1) := by decide +kernel
theorem qd_Src_translateAt_81 : decode qc_Src_translateAt 81 = .ok (.ireturn, 1) := by decide +kernel
abbrev qc_Src_openLoop : ByteArray := prog_7_method_6_code
abbrev qy_Src_openLoop : MethodName := ⟨"QuietSweep$Source", "openLoop", "(I)I"⟩
abbrev ql_Src_openLoop : Cond := .code qy_Src_openLoop qc_Src_openLoop 2 (some .int)
theorem qd_Src_openLoop_0 : decode qc_Src_openLoop 0 = .ok (.aload_n 0, 1) := by decide +kernel
theorem qd_Src_openLoop_1 : decode qc_Src_openLoop 1 = .ok (.getfield 29, 3) := by decide +kernel
theorem qd_Src_openLoop_4 : decode qc_Src_openLoop 4 = .ok (.bipush 6, 2) := by decide +kernel
theorem qd_Src_openLoop_6 : decode qc_Src_openLoop 6 = .ok (.if_icmp .ge 25, 3) := by decide +kernel
theorem qd_Src_openLoop_9 : decode qc_Src_openLoop 9 = .ok (.iload_n 1, 1) := by decide +kernel
theorem qd_Src_openLoop_10 : decode qc_Src_openLoop 10 = .ok (.aload_n 0, 1) := by decide +kernel
theorem qd_Src_openLoop_11 : decode qc_Src_openLoop 11 = .ok (.getfield 15, 3) := by decide +kernel
theorem qd_Src_openLoop_14 : decode qc_Src_openLoop 14 = .ok (.if_icmp .ge 17, 3) := by decide +kernel
theorem qd_Src_openLoop_17 : decode qc_Src_openLoop 17 = .ok (.bipush 82, 2) := by decide +kernel
theorem qd_Src_openLoop_19 : decode qc_Src_openLoop 19 = .ok (.aload_n 0, 1) := by decide +kernel
theorem qd_Src_openLoop_20 : decode qc_Src_openLoop 20 = .ok (.getfield 11, 3) := by decide +kernel
theorem qd_Src_openLoop_23 : decode qc_Src_openLoop 23 = .ok (.iload_n 1, 1) := by decide +kernel
theorem qd_Src_openLoop_24 : decode qc_Src_openLoop 24 = .ok (.caload, 1) := by decide +kernel
theorem qd_Src_openLoop_25 : decode qc_Src_openLoop 25 = .ok (.invokestatic 63, 3) := by decide +kernel
theorem qd_Src_openLoop_28 : decode qc_Src_openLoop 28 = .ok (.ifCond .ne 5, 3) := by decide +kernel
theorem qd_Src_openLoop_31 : decode qc_Src_openLoop 31 = .ok (.iconst 0, 1) := by decide +kernel
theorem qd_Src_openLoop_32 : decode qc_Src_openLoop 32 = .ok (.ireturn, 1) := by decide +kernel
theorem qd_Src_openLoop_33 : decode qc_Src_openLoop 33 = .ok (.aload_n 0, 1) := by decide +kernel
theorem qd_Src_openLoop_34 : decode qc_Src_openLoop 34 = .ok (.getfield 26, 3) := by decide +kernel
theorem qd_Src_openLoop_37 : decode qc_Src_openLoop 37 = .ok (.aload_n 0, 1) := by decide +kernel
theorem qd_Src_openLoop_38 : decode qc_Src_openLoop 38 = .ok (.getfield 29, 3) := by decide +kernel
theorem qd_Src_openLoop_41 : decode qc_Src_openLoop 41 = .ok (.aload_n 0, 1) := by decide +kernel
theorem qd_Src_openLoop_42 : decode qc_Src_openLoop 42 = .ok (.getfield 23, 3) := by decide +kernel
theorem qd_Src_openLoop_45 : decode qc_Src_openLoop 45 = .ok (.iastore, 1) := by decide +kernel
theorem qd_Src_openLoop_46 : decode qc_Src_openLoop 46 = .ok (.aload_n 0, 1) := by decide +kernel
theorem qd_Src_openLoop_47 : decode qc_Src_openLoop 47 = .ok (.dup, 1) := by decide +kernel
theorem qd_Src_openLoop_48 : decode qc_Src_openLoop 48 = .ok (.getfield 29, 3) := by decide +kernel
theorem qd_Src_openLoop_51 : decode qc_Src_openLoop 51 = .ok (.iconst 1, 1) := by decide +kernel
theorem qd_Src_openLoop_52 : decode qc_Src_openLoop 52 = .ok (.iadd, 1) := by decide +kernel
theorem qd_Src_openLoop_53 : decode qc_Src_openLoop 53 = .ok (.putfield 29, 3) := by decide +kernel
theorem qd_Src_openLoop_56 : decode qc_Src_openLoop 56 = .ok (.aload_n 0, 1) := by decide +kernel
theorem qd_Src_openLoop_57 : decode qc_Src_openLoop 57 = .ok (.bipush 15, 2) := by decide +kernel
theorem qd_Src_openLoop_59 : decode qc_Src_openLoop 59 = .ok (.bipush 16, 2) := by decide +kernel
theorem qd_Src_openLoop_61 : decode qc_Src_openLoop 61 = .ok (.aload_n 0, 1) := by decide +kernel
theorem qd_Src_openLoop_62 : decode qc_Src_openLoop 62 = .ok (.getfield 11, 3) := by decide +kernel
theorem qd_Src_openLoop_65 : decode qc_Src_openLoop 65 = .ok (.iload_n 1, 1) := by decide +kernel
theorem qd_Src_openLoop_66 : decode qc_Src_openLoop 66 = .ok (.caload, 1) := by decide +kernel
theorem qd_Src_openLoop_67 : decode qc_Src_openLoop 67 = .ok (.invokestatic 67, 3) := by decide +kernel
theorem qd_Src_openLoop_70 : decode qc_Src_openLoop 70 = .ok (.imul, 1) := by decide +kernel
theorem qd_Src_openLoop_71 : decode qc_Src_openLoop 71 = .ok (.iadd, 1) := by decide +kernel
theorem qd_Src_openLoop_72 : decode qc_Src_openLoop 72 = .ok (.invokevirtual 55, 3) := by decide +kernel
theorem qd_Src_openLoop_75 : decode qc_Src_openLoop 75 = .ok (.iconst 2, 1) := by decide +kernel
theorem qd_Src_openLoop_76 : decode qc_Src_openLoop 76 = .ok (.ireturn, 1) := by decide +kernel
abbrev qc_Src_fits : ByteArray := prog_7_method_11_code
abbrev qy_Src_fits : MethodName := ⟨"QuietSweep$Source", "fits", "(CC)Z"⟩
abbrev ql_Src_fits : Cond := .code qy_Src_fits qc_Src_fits 2 (some .boolean)
theorem qd_Src_fits_0 : decode qc_Src_fits 0 = .ok (.iload_n 0, 1) := by decide +kernel
theorem qd_Src_fits_1 : decode qc_Src_fits 1 = .ok (.bipush 82, 2) := by decide +kernel
theorem qd_Src_fits_3 : decode qc_Src_fits 3 = .ok (.if_icmp .ne 21, 3) := by decide +kernel
theorem qd_Src_fits_6 : decode qc_Src_fits 6 = .ok (.iload_n 1, 1) := by decide +kernel
theorem qd_Src_fits_7 : decode qc_Src_fits 7 = .ok (.bipush 97, 2) := by decide +kernel
theorem qd_Src_fits_9 : decode qc_Src_fits 9 = .ok (.if_icmp .lt 13, 3) := by decide +kernel
theorem qd_Src_fits_12 : decode qc_Src_fits 12 = .ok (.iload_n 1, 1) := by decide +kernel
theorem qd_Src_fits_13 : decode qc_Src_fits 13 = .ok (.bipush 100, 2) := by decide +kernel
theorem qd_Src_fits_15 : decode qc_Src_fits 15 = .ok (.if_icmp .gt 7, 3) := by decide +kernel
theorem qd_Src_fits_18 : decode qc_Src_fits 18 = .ok (.iconst 1, 1) := by decide +kernel
theorem qd_Src_fits_19 : decode qc_Src_fits 19 = .ok (.goto 4, 3) := by decide +kernel
theorem qd_Src_fits_22 : decode qc_Src_fits 22 = .ok (.iconst 0, 1) := by decide +kernel
theorem qd_Src_fits_23 : decode qc_Src_fits 23 = .ok (.ireturn, 1) := by decide +kernel
theorem qd_Src_fits_24 : decode qc_Src_fits 24 = .ok (.iload_n 0, 1) := by decide +kernel
theorem qd_Src_fits_25 : decode qc_Src_fits 25 = .ok (.bipush 73, 2) := by decide +kernel
theorem qd_Src_fits_27 : decode qc_Src_fits 27 = .ok (.if_icmp .ne 21, 3) := by decide +kernel
theorem qd_Src_fits_30 : decode qc_Src_fits 30 = .ok (.iload_n 1, 1) := by decide +kernel
theorem qd_Src_fits_31 : decode qc_Src_fits 31 = .ok (.bipush 120, 2) := by decide +kernel
theorem qd_Src_fits_33 : decode qc_Src_fits 33 = .ok (.if_icmp .lt 13, 3) := by decide +kernel
theorem qd_Src_fits_36 : decode qc_Src_fits 36 = .ok (.iload_n 1, 1) := by decide +kernel
theorem qd_Src_fits_37 : decode qc_Src_fits 37 = .ok (.bipush 122, 2) := by decide +kernel
theorem qd_Src_fits_39 : decode qc_Src_fits 39 = .ok (.if_icmp .gt 7, 3) := by decide +kernel
theorem qd_Src_fits_42 : decode qc_Src_fits 42 = .ok (.iconst 1, 1) := by decide +kernel
theorem qd_Src_fits_43 : decode qc_Src_fits 43 = .ok (.goto 4, 3) := by decide +kernel
theorem qd_Src_fits_46 : decode qc_Src_fits 46 = .ok (.iconst 0, 1) := by decide +kernel
theorem qd_Src_fits_47 : decode qc_Src_fits 47 = .ok (.ireturn, 1) := by decide +kernel
theorem qd_Src_fits_48 : decode qc_Src_fits 48 = .ok (.iload_n 0, 1) := by decide +kernel
theorem qd_Src_fits_49 : decode qc_Src_fits 49 = .ok (.bipush 48, 2) := by decide +kernel
theorem qd_Src_fits_51 : decode qc_Src_fits 51 = .ok (.if_icmp .ne 21, 3) := by decide +kernel
theorem qd_Src_fits_54 : decode qc_Src_fits 54 = .ok (.iload_n 1, 1) := by decide +kernel
theorem qd_Src_fits_55 : decode qc_Src_fits 55 = .ok (.bipush 48, 2) := by decide +kernel
theorem qd_Src_fits_57 : decode qc_Src_fits 57 = .ok (.if_icmp .lt 13, 3) := by decide +kernel
theorem qd_Src_fits_60 : decode qc_Src_fits 60 = .ok (.iload_n 1, 1) := by decide +kernel
theorem qd_Src_fits_61 : decode qc_Src_fits 61 = .ok (.bipush 57, 2) := by decide +kernel
theorem qd_Src_fits_63 : decode qc_Src_fits 63 = .ok (.if_icmp .gt 7, 3) := by decide +kernel
theorem qd_Src_fits_66 : decode qc_Src_fits 66 = .ok (.iconst 1, 1) := by decide +kernel
theorem qd_Src_fits_67 : decode qc_Src_fits 67 = .ok (.goto 4, 3) := by decide +kernel
theorem qd_Src_fits_70 : decode qc_Src_fits 70 = .ok (.iconst 0, 1) := by decide +kernel
theorem qd_Src_fits_71 : decode qc_Src_fits 71 = .ok (.ireturn, 1) := by decide +kernel
theorem qd_Src_fits_72 : decode qc_Src_fits 72 = .ok (.iload_n 1, 1) := by decide +kernel
theorem qd_Src_fits_73 : decode qc_Src_fits 73 = .ok (.iload_n 0, 1) := by decide +kernel
theorem qd_Src_fits_74 : decode qc_Src_fits 74 = .ok (.if_icmp .ne 7, 3) := by decide +kernel
theorem qd_Src_fits_77 : decode qc_Src_fits 77 = .ok (.iconst 1, 1) := by decide +kernel
theorem qd_Src_fits_78 : decode qc_Src_fits 78 = .ok (.goto 4, 3) := by decide +kernel
theorem qd_Src_fits_81 : decode qc_Src_fits 81 = .ok (.iconst 0, 1) := by decide +kernel
theorem qd_Src_fits_82 : decode qc_Src_fits 82 = .ok (.ireturn, 1) := by decide +kernel
abbrev qc_Src_numberOf : ByteArray := prog_7_method_13_code
abbrev qy_Src_numberOf : MethodName := ⟨"QuietSweep$Source", "numberOf", "(C)I"⟩
abbrev ql_Src_numberOf : Cond := .code qy_Src_numberOf qc_Src_numberOf 1 (some .int)
theorem qd_Src_numberOf_0 : decode qc_Src_numberOf 0 = .ok (.iload_n 0, 1) := by decide +kernel
theorem qd_Src_numberOf_1 : decode qc_Src_numberOf 1 = .ok (.bipush 120, 2) := by decide +kernel
theorem qd_Src_numberOf_3 : decode qc_Src_numberOf 3 = .ok (.if_icmp .lt 8, 3) := by decide +kernel
theorem qd_Src_numberOf_6 : decode qc_Src_numberOf 6 = .ok (.iload_n 0, 1) := by decide +kernel
theorem qd_Src_numberOf_7 : decode qc_Src_numberOf 7 = .ok (.bipush 120, 2) := by decide +kernel
theorem qd_Src_numberOf_9 : decode qc_Src_numberOf 9 = .ok (.isub, 1) := by decide +kernel
theorem qd_Src_numberOf_10 : decode qc_Src_numberOf 10 = .ok (.ireturn, 1) := by decide +kernel
theorem qd_Src_numberOf_11 : decode qc_Src_numberOf 11 = .ok (.iload_n 0, 1) := by decide +kernel
theorem qd_Src_numberOf_12 : decode qc_Src_numberOf 12 = .ok (.bipush 97, 2) := by decide +kernel
theorem qd_Src_numberOf_14 : decode qc_Src_numberOf 14 = .ok (.if_icmp .lt 10, 3) := by decide +kernel
theorem qd_Src_numberOf_17 : decode qc_Src_numberOf 17 = .ok (.iload_n 0, 1) := by decide +kernel
theorem qd_Src_numberOf_18 : decode qc_Src_numberOf 18 = .ok (.bipush 97, 2) := by decide +kernel
theorem qd_Src_numberOf_20 : decode qc_Src_numberOf 20 = .ok (.isub, 1) := by decide +kernel
theorem qd_Src_numberOf_21 : decode qc_Src_numberOf 21 = .ok (.goto 7, 3) := by decide +kernel
theorem qd_Src_numberOf_24 : decode qc_Src_numberOf 24 = .ok (.iload_n 0, 1) := by decide +kernel
theorem qd_Src_numberOf_25 : decode qc_Src_numberOf 25 = .ok (.bipush 48, 2) := by decide +kernel
theorem qd_Src_numberOf_27 : decode qc_Src_numberOf 27 = .ok (.isub, 1) := by decide +kernel
theorem qd_Src_numberOf_28 : decode qc_Src_numberOf 28 = .ok (.ireturn, 1) := by decide +kernel
abbrev qc_Src_emit : ByteArray := prog_7_method_8_code
abbrev qy_Src_emit : MethodName := ⟨"QuietSweep$Source", "emit", "(I)V"⟩
abbrev ql_Src_emit : Cond := .code qy_Src_emit qc_Src_emit 2 none
theorem qd_Src_emit_0 : decode qc_Src_emit 0 = .ok (.aload_n 0, 1) := by decide +kernel
theorem qd_Src_emit_1 : decode qc_Src_emit 1 = .ok (.getfield 19, 3) := by decide +kernel
theorem qd_Src_emit_4 : decode qc_Src_emit 4 = .ok (.aload_n 0, 1) := by decide +kernel
theorem qd_Src_emit_5 : decode qc_Src_emit 5 = .ok (.getfield 23, 3) := by decide +kernel
theorem qd_Src_emit_8 : decode qc_Src_emit 8 = .ok (.iload_n 1, 1) := by decide +kernel
theorem qd_Src_emit_9 : decode qc_Src_emit 9 = .ok (.iastore, 1) := by decide +kernel
theorem qd_Src_emit_10 : decode qc_Src_emit 10 = .ok (.aload_n 0, 1) := by decide +kernel
theorem qd_Src_emit_11 : decode qc_Src_emit 11 = .ok (.dup, 1) := by decide +kernel
theorem qd_Src_emit_12 : decode qc_Src_emit 12 = .ok (.getfield 23, 3) := by decide +kernel
theorem qd_Src_emit_15 : decode qc_Src_emit 15 = .ok (.iconst 1, 1) := by decide +kernel
theorem qd_Src_emit_16 : decode qc_Src_emit 16 = .ok (.iadd, 1) := by decide +kernel
theorem qd_Src_emit_17 : decode qc_Src_emit 17 = .ok (.putfield 23, 3) := by decide +kernel
theorem qd_Src_emit_20 : decode qc_Src_emit 20 = .ok (.return_, 1) := by decide +kernel
abbrev qc_Src_closeLoop : ByteArray := prog_7_method_7_code
abbrev qy_Src_closeLoop : MethodName := ⟨"QuietSweep$Source", "closeLoop", "()I"⟩
abbrev ql_Src_closeLoop : Cond := .code qy_Src_closeLoop qc_Src_closeLoop 3 (some .int)
theorem qd_Src_closeLoop_0 : decode qc_Src_closeLoop 0 = .ok (.aload_n 0, 1) := by decide +kernel
theorem qd_Src_closeLoop_1 : decode qc_Src_closeLoop 1 = .ok (.getfield 29, 3) := by decide +kernel
theorem qd_Src_closeLoop_4 : decode qc_Src_closeLoop 4 = .ok (.ifCond .ne 5, 3) := by decide +kernel
theorem qd_Src_closeLoop_7 : decode qc_Src_closeLoop 7 = .ok (.iconst 0, 1) := by decide +kernel
theorem qd_Src_closeLoop_8 : decode qc_Src_closeLoop 8 = .ok (.ireturn, 1) := by decide +kernel
theorem qd_Src_closeLoop_9 : decode qc_Src_closeLoop 9 = .ok (.aload_n 0, 1) := by decide +kernel
theorem qd_Src_closeLoop_10 : decode qc_Src_closeLoop 10 = .ok (.dup, 1) := by decide +kernel
theorem qd_Src_closeLoop_11 : decode qc_Src_closeLoop 11 = .ok (.getfield 29, 3) := by decide +kernel
theorem qd_Src_closeLoop_14 : decode qc_Src_closeLoop 14 = .ok (.iconst 1, 1) := by decide +kernel
theorem qd_Src_closeLoop_15 : decode qc_Src_closeLoop 15 = .ok (.isub, 1) := by decide +kernel
theorem qd_Src_closeLoop_16 : decode qc_Src_closeLoop 16 = .ok (.putfield 29, 3) := by decide +kernel
theorem qd_Src_closeLoop_19 : decode qc_Src_closeLoop 19 = .ok (.aload_n 0, 1) := by decide +kernel
theorem qd_Src_closeLoop_20 : decode qc_Src_closeLoop 20 = .ok (.getfield 26, 3) := by decide +kernel
theorem qd_Src_closeLoop_23 : decode qc_Src_closeLoop 23 = .ok (.aload_n 0, 1) := by decide +kernel
theorem qd_Src_closeLoop_24 : decode qc_Src_closeLoop 24 = .ok (.getfield 29, 3) := by decide +kernel
theorem qd_Src_closeLoop_27 : decode qc_Src_closeLoop 27 = .ok (.iaload, 1) := by decide +kernel
theorem qd_Src_closeLoop_28 : decode qc_Src_closeLoop 28 = .ok (.istore_n 1, 1) := by decide +kernel
theorem qd_Src_closeLoop_29 : decode qc_Src_closeLoop 29 = .ok (.aload_n 0, 1) := by decide +kernel
theorem qd_Src_closeLoop_30 : decode qc_Src_closeLoop 30 = .ok (.getfield 23, 3) := by decide +kernel
theorem qd_Src_closeLoop_33 : decode qc_Src_closeLoop 33 = .ok (.istore_n 2, 1) := by decide +kernel
theorem qd_Src_closeLoop_34 : decode qc_Src_closeLoop 34 = .ok (.aload_n 0, 1) := by decide +kernel
theorem qd_Src_closeLoop_35 : decode qc_Src_closeLoop 35 = .ok (.aload_n 0, 1) := by decide +kernel
theorem qd_Src_closeLoop_36 : decode qc_Src_closeLoop 36 = .ok (.getfield 19, 3) := by decide +kernel
theorem qd_Src_closeLoop_39 : decode qc_Src_closeLoop 39 = .ok (.iload_n 1, 1) := by decide +kernel
theorem qd_Src_closeLoop_40 : decode qc_Src_closeLoop 40 = .ok (.iaload, 1) := by decide +kernel
theorem qd_Src_closeLoop_41 : decode qc_Src_closeLoop 41 = .ok (.bipush 64, 2) := by decide +kernel
theorem qd_Src_closeLoop_43 : decode qc_Src_closeLoop 43 = .ok (.iadd, 1) := by decide +kernel
theorem qd_Src_closeLoop_44 : decode qc_Src_closeLoop 44 = .ok (.sipush 256, 3) := by decide +kernel
theorem qd_Src_closeLoop_47 : decode qc_Src_closeLoop 47 = .ok (.iload_n 1, 1) := by decide +kernel
theorem qd_Src_closeLoop_48 : decode qc_Src_closeLoop 48 = .ok (.imul, 1) := by decide +kernel
theorem qd_Src_closeLoop_49 : decode qc_Src_closeLoop 49 = .ok (.iadd, 1) := by decide +kernel
theorem qd_Src_closeLoop_50 : decode qc_Src_closeLoop 50 = .ok (.invokevirtual 55, 3) := by decide +kernel
theorem qd_Src_closeLoop_53 : decode qc_Src_closeLoop 53 = .ok (.aload_n 0, 1) := by decide +kernel
theorem qd_Src_closeLoop_54 : decode qc_Src_closeLoop 54 = .ok (.getfield 19, 3) := by decide +kernel
theorem qd_Src_closeLoop_57 : decode qc_Src_closeLoop 57 = .ok (.iload_n 1, 1) := by decide +kernel
theorem qd_Src_closeLoop_58 : decode qc_Src_closeLoop 58 = .ok (.dup2, 1) := by decide +kernel
theorem qd_Src_closeLoop_59 : decode qc_Src_closeLoop 59 = .ok (.iaload, 1) := by decide +kernel
theorem qd_Src_closeLoop_60 : decode qc_Src_closeLoop 60 = .ok (.sipush 256, 3) := by decide +kernel
theorem qd_Src_closeLoop_63 : decode qc_Src_closeLoop 63 = .ok (.iload_n 2, 1) := by decide +kernel
theorem qd_Src_closeLoop_64 : decode qc_Src_closeLoop 64 = .ok (.imul, 1) := by decide +kernel
theorem qd_Src_closeLoop_65 : decode qc_Src_closeLoop 65 = .ok (.iadd, 1) := by decide +kernel
theorem qd_Src_closeLoop_66 : decode qc_Src_closeLoop 66 = .ok (.iastore, 1) := by decide +kernel
theorem qd_Src_closeLoop_67 : decode qc_Src_closeLoop 67 = .ok (.iconst 1, 1) := by decide +kernel
theorem qd_Src_closeLoop_68 : decode qc_Src_closeLoop 68 = .ok (.ireturn, 1) := by decide +kernel
abbrev qc_Src_shapeOf : ByteArray := prog_7_method_9_code
abbrev qy_Src_shapeOf : MethodName := ⟨"QuietSweep$Source", "shapeOf", "(I)Ljava/lang/String;"⟩
abbrev ql_Src_shapeOf : Cond := .code qy_Src_shapeOf qc_Src_shapeOf 1 (some (.object "java/lang/String"))
theorem qd_Src_shapeOf_0 : decode qc_Src_shapeOf 0 = .ok (.iload_n 0, 1) := by decide +kernel
theorem qd_Src_shapeOf_1 : decode qc_Src_shapeOf 1 = .ok (.tableswitch 117 0 14 #[75, 78, 81, 84, 87, 90, 93, 96, 99, 102, 105, 108, 111, 114, 117], 75) := by decide +kernel
theorem qd_Src_shapeOf_76 : decode qc_Src_shapeOf 76 = .ok (.ldc 71, 2) := by decide +kernel
theorem qd_Src_shapeOf_78 : decode qc_Src_shapeOf 78 = .ok (.areturn, 1) := by decide +kernel
theorem qd_Src_shapeOf_79 : decode qc_Src_shapeOf 79 = .ok (.ldc 73, 2) := by decide +kernel
theorem qd_Src_shapeOf_81 : decode qc_Src_shapeOf 81 = .ok (.areturn, 1) := by decide +kernel
theorem qd_Src_shapeOf_82 : decode qc_Src_shapeOf 82 = .ok (.ldc 75, 2) := by decide +kernel
theorem qd_Src_shapeOf_84 : decode qc_Src_shapeOf 84 = .ok (.areturn, 1) := by decide +kernel
theorem qd_Src_shapeOf_85 : decode qc_Src_shapeOf 85 = .ok (.ldc 77, 2) := by decide +kernel
theorem qd_Src_shapeOf_87 : decode qc_Src_shapeOf 87 = .ok (.areturn, 1) := by decide +kernel
theorem qd_Src_shapeOf_88 : decode qc_Src_shapeOf 88 = .ok (.ldc 79, 2) := by decide +kernel
theorem qd_Src_shapeOf_90 : decode qc_Src_shapeOf 90 = .ok (.areturn, 1) := by decide +kernel
theorem qd_Src_shapeOf_91 : decode qc_Src_shapeOf 91 = .ok (.ldc 81, 2) := by decide +kernel
theorem qd_Src_shapeOf_93 : decode qc_Src_shapeOf 93 = .ok (.areturn, 1) := by decide +kernel
theorem qd_Src_shapeOf_94 : decode qc_Src_shapeOf 94 = .ok (.ldc 83, 2) := by decide +kernel
theorem qd_Src_shapeOf_96 : decode qc_Src_shapeOf 96 = .ok (.areturn, 1) := by decide +kernel
theorem qd_Src_shapeOf_97 : decode qc_Src_shapeOf 97 = .ok (.ldc 85, 2) := by decide +kernel
theorem qd_Src_shapeOf_99 : decode qc_Src_shapeOf 99 = .ok (.areturn, 1) := by decide +kernel
theorem qd_Src_shapeOf_100 : decode qc_Src_shapeOf 100 = .ok (.ldc 87, 2) := by decide +kernel
theorem qd_Src_shapeOf_102 : decode qc_Src_shapeOf 102 = .ok (.areturn, 1) := by decide +kernel
theorem qd_Src_shapeOf_103 : decode qc_Src_shapeOf 103 = .ok (.ldc 89, 2) := by decide +kernel
theorem qd_Src_shapeOf_105 : decode qc_Src_shapeOf 105 = .ok (.areturn, 1) := by decide +kernel
theorem qd_Src_shapeOf_106 : decode qc_Src_shapeOf 106 = .ok (.ldc 91, 2) := by decide +kernel
theorem qd_Src_shapeOf_108 : decode qc_Src_shapeOf 108 = .ok (.areturn, 1) := by decide +kernel
theorem qd_Src_shapeOf_109 : decode qc_Src_shapeOf 109 = .ok (.ldc 93, 2) := by decide +kernel
theorem qd_Src_shapeOf_111 : decode qc_Src_shapeOf 111 = .ok (.areturn, 1) := by decide +kernel
theorem qd_Src_shapeOf_112 : decode qc_Src_shapeOf 112 = .ok (.ldc 95, 2) := by decide +kernel
theorem qd_Src_shapeOf_114 : decode qc_Src_shapeOf 114 = .ok (.areturn, 1) := by decide +kernel
theorem qd_Src_shapeOf_115 : decode qc_Src_shapeOf 115 = .ok (.ldc 97, 2) := by decide +kernel
theorem qd_Src_shapeOf_117 : decode qc_Src_shapeOf 117 = .ok (.areturn, 1) := by decide +kernel
theorem qd_Src_shapeOf_118 : decode qc_Src_shapeOf 118 = .ok (.ldc 99, 2) := by decide +kernel
theorem qd_Src_shapeOf_120 : decode qc_Src_shapeOf 120 = .ok (.areturn, 1) := by decide +kernel
abbrev qc_Src_hasShape : ByteArray := prog_7_method_10_code
abbrev qy_Src_hasShape : MethodName := ⟨"QuietSweep$Source", "hasShape", "(ILjava/lang/String;)Z"⟩
abbrev ql_Src_hasShape : Cond := .code qy_Src_hasShape qc_Src_hasShape 4 (some .boolean)
theorem qd_Src_hasShape_0 : decode qc_Src_hasShape 0 = .ok (.iload_n 1, 1) := by decide +kernel
theorem qd_Src_hasShape_1 : decode qc_Src_hasShape 1 = .ok (.aload_n 2, 1) := by decide +kernel
theorem qd_Src_hasShape_2 : decode qc_Src_hasShape 2 = .ok (.invokevirtual 59, 3) := by decide +kernel
theorem qd_Src_hasShape_5 : decode qc_Src_hasShape 5 = .ok (.iadd, 1) := by decide +kernel
theorem qd_Src_hasShape_6 : decode qc_Src_hasShape 6 = .ok (.aload_n 0, 1) := by decide +kernel
theorem qd_Src_hasShape_7 : decode qc_Src_hasShape 7 = .ok (.getfield 15, 3) := by decide +kernel
theorem qd_Src_hasShape_10 : decode qc_Src_hasShape 10 = .ok (.if_icmp .le 5, 3) := by decide +kernel
theorem qd_Src_hasShape_13 : decode qc_Src_hasShape 13 = .ok (.iconst 0, 1) := by decide +kernel
theorem qd_Src_hasShape_14 : decode qc_Src_hasShape 14 = .ok (.ireturn, 1) := by decide +kernel
theorem qd_Src_hasShape_15 : decode qc_Src_hasShape 15 = .ok (.iconst 0, 1) := by decide +kernel
theorem qd_Src_hasShape_16 : decode qc_Src_hasShape 16 = .ok (.istore_n 3, 1) := by decide +kernel
theorem qd_Src_hasShape_17 : decode qc_Src_hasShape 17 = .ok (.iload_n 3, 1) := by decide +kernel
theorem qd_Src_hasShape_18 : decode qc_Src_hasShape 18 = .ok (.aload_n 2, 1) := by decide +kernel
theorem qd_Src_hasShape_19 : decode qc_Src_hasShape 19 = .ok (.invokevirtual 59, 3) := by decide +kernel
theorem qd_Src_hasShape_22 : decode qc_Src_hasShape 22 = .ok (.if_icmp .ge 30, 3) := by decide +kernel
theorem qd_Src_hasShape_25 : decode qc_Src_hasShape 25 = .ok (.aload_n 2, 1) := by decide +kernel
theorem qd_Src_hasShape_26 : decode qc_Src_hasShape 26 = .ok (.iload_n 3, 1) := by decide +kernel
theorem qd_Src_hasShape_27 : decode qc_Src_hasShape 27 = .ok (.invokevirtual 101, 3) := by decide +kernel
theorem qd_Src_hasShape_30 : decode qc_Src_hasShape 30 = .ok (.aload_n 0, 1) := by decide +kernel
theorem qd_Src_hasShape_31 : decode qc_Src_hasShape 31 = .ok (.getfield 11, 3) := by decide +kernel
theorem qd_Src_hasShape_34 : decode qc_Src_hasShape 34 = .ok (.iload_n 1, 1) := by decide +kernel
theorem qd_Src_hasShape_35 : decode qc_Src_hasShape 35 = .ok (.iload_n 3, 1) := by decide +kernel
theorem qd_Src_hasShape_36 : decode qc_Src_hasShape 36 = .ok (.iadd, 1) := by decide +kernel
theorem qd_Src_hasShape_37 : decode qc_Src_hasShape 37 = .ok (.caload, 1) := by decide +kernel
theorem qd_Src_hasShape_38 : decode qc_Src_hasShape 38 = .ok (.invokestatic 63, 3) := by decide +kernel
theorem qd_Src_hasShape_41 : decode qc_Src_hasShape 41 = .ok (.ifCond .ne 5, 3) := by decide +kernel
theorem qd_Src_hasShape_44 : decode qc_Src_hasShape 44 = .ok (.iconst 0, 1) := by decide +kernel
theorem qd_Src_hasShape_45 : decode qc_Src_hasShape 45 = .ok (.ireturn, 1) := by decide +kernel
theorem qd_Src_hasShape_46 : decode qc_Src_hasShape 46 = .ok (.iinc 3 1, 3) := by decide +kernel
theorem qd_Src_hasShape_49 : decode qc_Src_hasShape 49 = .ok (.goto (-32), 3) := by decide +kernel
theorem qd_Src_hasShape_52 : decode qc_Src_hasShape 52 = .ok (.iconst 1, 1) := by decide +kernel
theorem qd_Src_hasShape_53 : decode qc_Src_hasShape 53 = .ok (.ireturn, 1) := by decide +kernel
abbrev qc_Src_operandsAt : ByteArray := prog_7_method_12_code
abbrev qy_Src_operandsAt : MethodName := ⟨"QuietSweep$Source", "operandsAt", "(ILjava/lang/String;)I"⟩
abbrev ql_Src_operandsAt : Cond := .code qy_Src_operandsAt qc_Src_operandsAt 7 (some .int)
theorem qd_Src_operandsAt_0 : decode qc_Src_operandsAt 0 = .ok (.iconst 0, 1) := by decide +kernel
theorem qd_Src_operandsAt_1 : decode qc_Src_operandsAt 1 = .ok (.istore_n 3, 1) := by decide +kernel
theorem qd_Src_operandsAt_2 : decode qc_Src_operandsAt 2 = .ok (.bipush 16, 2) := by decide +kernel
theorem qd_Src_operandsAt_4 : decode qc_Src_operandsAt 4 = .ok (.istore 4, 2) := by decide +kernel
theorem qd_Src_operandsAt_6 : decode qc_Src_operandsAt 6 = .ok (.iconst 0, 1) := by decide +kernel
theorem qd_Src_operandsAt_7 : decode qc_Src_operandsAt 7 = .ok (.istore 5, 2) := by decide +kernel
theorem qd_Src_operandsAt_9 : decode qc_Src_operandsAt 9 = .ok (.iload 5, 2) := by decide +kernel
theorem qd_Src_operandsAt_11 : decode qc_Src_operandsAt 11 = .ok (.aload_n 2, 1) := by decide +kernel
theorem qd_Src_operandsAt_12 : decode qc_Src_operandsAt 12 = .ok (.invokevirtual 59, 3) := by decide +kernel
theorem qd_Src_operandsAt_15 : decode qc_Src_operandsAt 15 = .ok (.if_icmp .ge 84, 3) := by decide +kernel
theorem qd_Src_operandsAt_18 : decode qc_Src_operandsAt 18 = .ok (.aload_n 2, 1) := by decide +kernel
theorem qd_Src_operandsAt_19 : decode qc_Src_operandsAt 19 = .ok (.iload 5, 2) := by decide +kernel
theorem qd_Src_operandsAt_21 : decode qc_Src_operandsAt 21 = .ok (.invokevirtual 101, 3) := by decide +kernel
theorem qd_Src_operandsAt_24 : decode qc_Src_operandsAt 24 = .ok (.istore 6, 2) := by decide +kernel
theorem qd_Src_operandsAt_26 : decode qc_Src_operandsAt 26 = .ok (.iload 6, 2) := by decide +kernel
theorem qd_Src_operandsAt_28 : decode qc_Src_operandsAt 28 = .ok (.bipush 48, 2) := by decide +kernel
theorem qd_Src_operandsAt_30 : decode qc_Src_operandsAt 30 = .ok (.if_icmp .ne 25, 3) := by decide +kernel
theorem qd_Src_operandsAt_33 : decode qc_Src_operandsAt 33 = .ok (.iload_n 3, 1) := by decide +kernel
theorem qd_Src_operandsAt_34 : decode qc_Src_operandsAt 34 = .ok (.sipush 256, 3) := by decide +kernel
theorem qd_Src_operandsAt_37 : decode qc_Src_operandsAt 37 = .ok (.aload_n 0, 1) := by decide +kernel
theorem qd_Src_operandsAt_38 : decode qc_Src_operandsAt 38 = .ok (.getfield 11, 3) := by decide +kernel
theorem qd_Src_operandsAt_41 : decode qc_Src_operandsAt 41 = .ok (.iload_n 1, 1) := by decide +kernel
theorem qd_Src_operandsAt_42 : decode qc_Src_operandsAt 42 = .ok (.iload 5, 2) := by decide +kernel
theorem qd_Src_operandsAt_44 : decode qc_Src_operandsAt 44 = .ok (.iadd, 1) := by decide +kernel
theorem qd_Src_operandsAt_45 : decode qc_Src_operandsAt 45 = .ok (.caload, 1) := by decide +kernel
theorem qd_Src_operandsAt_46 : decode qc_Src_operandsAt 46 = .ok (.invokestatic 67, 3) := by decide +kernel
theorem qd_Src_operandsAt_49 : decode qc_Src_operandsAt 49 = .ok (.imul, 1) := by decide +kernel
theorem qd_Src_operandsAt_50 : decode qc_Src_operandsAt 50 = .ok (.iadd, 1) := by decide +kernel
theorem qd_Src_operandsAt_51 : decode qc_Src_operandsAt 51 = .ok (.istore_n 3, 1) := by decide +kernel
theorem qd_Src_operandsAt_52 : decode qc_Src_operandsAt 52 = .ok (.goto 41, 3) := by decide +kernel
theorem qd_Src_operandsAt_55 : decode qc_Src_operandsAt 55 = .ok (.iload 6, 2) := by decide +kernel
theorem qd_Src_operandsAt_57 : decode qc_Src_operandsAt 57 = .ok (.bipush 82, 2) := by decide +kernel
theorem qd_Src_operandsAt_59 : decode qc_Src_operandsAt 59 = .ok (.if_icmp .eq 10, 3) := by decide +kernel
theorem qd_Src_operandsAt_62 : decode qc_Src_operandsAt 62 = .ok (.iload 6, 2) := by decide +kernel
theorem qd_Src_operandsAt_64 : decode qc_Src_operandsAt 64 = .ok (.bipush 73, 2) := by decide +kernel
theorem qd_Src_operandsAt_66 : decode qc_Src_operandsAt 66 = .ok (.if_icmp .ne 27, 3) := by decide +kernel
theorem qd_Src_operandsAt_69 : decode qc_Src_operandsAt 69 = .ok (.iload_n 3, 1) := by decide +kernel
theorem qd_Src_operandsAt_70 : decode qc_Src_operandsAt 70 = .ok (.iload 4, 2) := by decide +kernel
theorem qd_Src_operandsAt_72 : decode qc_Src_operandsAt 72 = .ok (.aload_n 0, 1) := by decide +kernel
theorem qd_Src_operandsAt_73 : decode qc_Src_operandsAt 73 = .ok (.getfield 11, 3) := by decide +kernel
theorem qd_Src_operandsAt_76 : decode qc_Src_operandsAt 76 = .ok (.iload_n 1, 1) := by decide +kernel
theorem qd_Src_operandsAt_77 : decode qc_Src_operandsAt 77 = .ok (.iload 5, 2) := by decide +kernel
theorem qd_Src_operandsAt_79 : decode qc_Src_operandsAt 79 = .ok (.iadd, 1) := by decide +kernel
theorem qd_Src_operandsAt_80 : decode qc_Src_operandsAt 80 = .ok (.caload, 1) := by decide +kernel
theorem qd_Src_operandsAt_81 : decode qc_Src_operandsAt 81 = .ok (.invokestatic 67, 3) := by decide +kernel
theorem qd_Src_operandsAt_84 : decode qc_Src_operandsAt 84 = .ok (.imul, 1) := by decide +kernel
theorem qd_Src_operandsAt_85 : decode qc_Src_operandsAt 85 = .ok (.iadd, 1) := by decide +kernel
theorem qd_Src_operandsAt_86 : decode qc_Src_operandsAt 86 = .ok (.istore_n 3, 1) := by decide +kernel
theorem qd_Src_operandsAt_87 : decode qc_Src_operandsAt 87 = .ok (.iload 4, 2) := by decide +kernel
theorem qd_Src_operandsAt_89 : decode qc_Src_operandsAt 89 = .ok (.iconst 4, 1) := by decide +kernel
theorem qd_Src_operandsAt_90 : decode qc_Src_operandsAt 90 = .ok (.imul, 1) := by decide +kernel
theorem qd_Src_operandsAt_91 : decode qc_Src_operandsAt 91 = .ok (.istore 4, 2) := by decide +kernel
theorem qd_Src_operandsAt_93 : decode qc_Src_operandsAt 93 = .ok (.iinc 5 1, 3) := by decide +kernel
theorem qd_Src_operandsAt_96 : decode qc_Src_operandsAt 96 = .ok (.goto (-87), 3) := by decide +kernel
theorem qd_Src_operandsAt_99 : decode qc_Src_operandsAt 99 = .ok (.iload_n 3, 1) := by decide +kernel
theorem qd_Src_operandsAt_100 : decode qc_Src_operandsAt 100 = .ok (.ireturn, 1) := by decide +kernel
abbrev qc_Src_empty : ByteArray := prog_7_method_3_code
abbrev qy_Src_empty : MethodName := ⟨"QuietSweep$Source", "empty", "()V"⟩
abbrev ql_Src_empty : Cond := .code qy_Src_empty qc_Src_empty 1 none
theorem qd_Src_empty_0 : decode qc_Src_empty 0 = .ok (.aload_n 0, 1) := by decide +kernel
theorem qd_Src_empty_1 : decode qc_Src_empty 1 = .ok (.iconst 0, 1) := by decide +kernel
theorem qd_Src_empty_2 : decode qc_Src_empty 2 = .ok (.putfield 15, 3) := by decide +kernel
theorem qd_Src_empty_5 : decode qc_Src_empty 5 = .ok (.return_, 1) := by decide +kernel
abbrev qc_Ref_init : ByteArray := prog_9_method_1_code
abbrev qy_Ref_init : MethodName := ⟨"QuietSweepModel", "<init>", "(I)V"⟩
abbrev ql_Ref_init : Cond := .code qy_Ref_init qc_Ref_init 4 none
theorem qd_Ref_init_0 : decode qc_Ref_init 0 = .ok (.aload_n 0, 1) := by decide +kernel
theorem qd_Ref_init_1 : decode qc_Ref_init 1 = .ok (.invokespecial 1, 3) := by decide +kernel
theorem qd_Ref_init_4 : decode qc_Ref_init 4 = .ok (.aload_n 0, 1) := by decide +kernel
theorem qd_Ref_init_5 : decode qc_Ref_init 5 = .ok (.bipush 60, 2) := by decide +kernel
theorem qd_Ref_init_7 : decode qc_Ref_init 7 = .ok (.newarray .char, 2) := by decide +kernel
theorem qd_Ref_init_9 : decode qc_Ref_init 9 = .ok (.putfield 7, 3) := by decide +kernel
theorem qd_Ref_init_12 : decode qc_Ref_init 12 = .ok (.aload_n 0, 1) := by decide +kernel
theorem qd_Ref_init_13 : decode qc_Ref_init 13 = .ok (.bipush 40, 2) := by decide +kernel
theorem qd_Ref_init_15 : decode qc_Ref_init 15 = .ok (.newarray .int, 2) := by decide +kernel
theorem qd_Ref_init_17 : decode qc_Ref_init 17 = .ok (.putfield 13, 3) := by decide +kernel
theorem qd_Ref_init_20 : decode qc_Ref_init 20 = .ok (.aload_n 0, 1) := by decide +kernel
theorem qd_Ref_init_21 : decode qc_Ref_init 21 = .ok (.bipush 40, 2) := by decide +kernel
theorem qd_Ref_init_23 : decode qc_Ref_init 23 = .ok (.newarray .int, 2) := by decide +kernel
theorem qd_Ref_init_25 : decode qc_Ref_init 25 = .ok (.putfield 17, 3) := by decide +kernel
theorem qd_Ref_init_28 : decode qc_Ref_init 28 = .ok (.aload_n 0, 1) := by decide +kernel
theorem qd_Ref_init_29 : decode qc_Ref_init 29 = .ok (.bipush 40, 2) := by decide +kernel
theorem qd_Ref_init_31 : decode qc_Ref_init 31 = .ok (.newarray .int, 2) := by decide +kernel
theorem qd_Ref_init_33 : decode qc_Ref_init 33 = .ok (.putfield 20, 3) := by decide +kernel
theorem qd_Ref_init_36 : decode qc_Ref_init 36 = .ok (.aload_n 0, 1) := by decide +kernel
theorem qd_Ref_init_37 : decode qc_Ref_init 37 = .ok (.bipush 40, 2) := by decide +kernel
theorem qd_Ref_init_39 : decode qc_Ref_init 39 = .ok (.newarray .int, 2) := by decide +kernel
theorem qd_Ref_init_41 : decode qc_Ref_init 41 = .ok (.putfield 23, 3) := by decide +kernel
theorem qd_Ref_init_44 : decode qc_Ref_init 44 = .ok (.aload_n 0, 1) := by decide +kernel
theorem qd_Ref_init_45 : decode qc_Ref_init 45 = .ok (.bipush 6, 2) := by decide +kernel
theorem qd_Ref_init_47 : decode qc_Ref_init 47 = .ok (.newarray .int, 2) := by decide +kernel
theorem qd_Ref_init_49 : decode qc_Ref_init 49 = .ok (.putfield 26, 3) := by decide +kernel
theorem qd_Ref_init_52 : decode qc_Ref_init 52 = .ok (.aload_n 0, 1) := by decide +kernel
theorem qd_Ref_init_53 : decode qc_Ref_init 53 = .ok (.iconst 2, 1) := by decide +kernel
theorem qd_Ref_init_54 : decode qc_Ref_init 54 = .ok (.newarray .int, 2) := by decide +kernel
theorem qd_Ref_init_56 : decode qc_Ref_init 56 = .ok (.putfield 29, 3) := by decide +kernel
theorem qd_Ref_init_59 : decode qc_Ref_init 59 = .ok (.aload_n 0, 1) := by decide +kernel
theorem qd_Ref_init_60 : decode qc_Ref_init 60 = .ok (.bipush 80, 2) := by decide +kernel
theorem qd_Ref_init_62 : decode qc_Ref_init 62 = .ok (.newarray .int, 2) := by decide +kernel
theorem qd_Ref_init_64 : decode qc_Ref_init 64 = .ok (.putfield 32, 3) := by decide +kernel
theorem qd_Ref_init_67 : decode qc_Ref_init 67 = .ok (.aload_n 0, 1) := by decide +kernel
theorem qd_Ref_init_68 : decode qc_Ref_init 68 = .ok (.bipush 80, 2) := by decide +kernel
theorem qd_Ref_init_70 : decode qc_Ref_init 70 = .ok (.newarray .int, 2) := by decide +kernel
theorem qd_Ref_init_72 : decode qc_Ref_init 72 = .ok (.putfield 35, 3) := by decide +kernel
theorem qd_Ref_init_75 : decode qc_Ref_init 75 = .ok (.aload_n 0, 1) := by decide +kernel
theorem qd_Ref_init_76 : decode qc_Ref_init 76 = .ok (.bipush 80, 2) := by decide +kernel
theorem qd_Ref_init_78 : decode qc_Ref_init 78 = .ok (.newarray .int, 2) := by decide +kernel
theorem qd_Ref_init_80 : decode qc_Ref_init 80 = .ok (.putfield 38, 3) := by decide +kernel
theorem qd_Ref_init_83 : decode qc_Ref_init 83 = .ok (.aload_n 0, 1) := by decide +kernel
theorem qd_Ref_init_84 : decode qc_Ref_init 84 = .ok (.bipush 80, 2) := by decide +kernel
theorem qd_Ref_init_86 : decode qc_Ref_init 86 = .ok (.newarray .int, 2) := by decide +kernel
theorem qd_Ref_init_88 : decode qc_Ref_init 88 = .ok (.putfield 41, 3) := by decide +kernel
theorem qd_Ref_init_91 : decode qc_Ref_init 91 = .ok (.aload_n 0, 1) := by decide +kernel
theorem qd_Ref_init_92 : decode qc_Ref_init 92 = .ok (.iconst 2, 1) := by decide +kernel
theorem qd_Ref_init_93 : decode qc_Ref_init 93 = .ok (.newarray .int, 2) := by decide +kernel
theorem qd_Ref_init_95 : decode qc_Ref_init 95 = .ok (.putfield 44, 3) := by decide +kernel
theorem qd_Ref_init_98 : decode qc_Ref_init 98 = .ok (.aload_n 0, 1) := by decide +kernel
theorem qd_Ref_init_99 : decode qc_Ref_init 99 = .ok (.bipush 14, 2) := by decide +kernel
theorem qd_Ref_init_101 : decode qc_Ref_init 101 = .ok (.newarray .int, 2) := by decide +kernel
theorem qd_Ref_init_103 : decode qc_Ref_init 103 = .ok (.putfield 47, 3) := by decide +kernel
theorem qd_Ref_init_106 : decode qc_Ref_init 106 = .ok (.aload_n 0, 1) := by decide +kernel
theorem qd_Ref_init_107 : decode qc_Ref_init 107 = .ok (.iconst 2, 1) := by decide +kernel
theorem qd_Ref_init_108 : decode qc_Ref_init 108 = .ok (.newarray .int, 2) := by decide +kernel
theorem qd_Ref_init_110 : decode qc_Ref_init 110 = .ok (.putfield 50, 3) := by decide +kernel
theorem qd_Ref_init_113 : decode qc_Ref_init 113 = .ok (.aload_n 0, 1) := by decide +kernel
theorem qd_Ref_init_114 : decode qc_Ref_init 114 = .ok (.iconst 2, 1) := by decide +kernel
theorem qd_Ref_init_115 : decode qc_Ref_init 115 = .ok (.newarray .int, 2) := by decide +kernel
theorem qd_Ref_init_117 : decode qc_Ref_init 117 = .ok (.putfield 53, 3) := by decide +kernel
theorem qd_Ref_init_120 : decode qc_Ref_init 120 = .ok (.aload_n 0, 1) := by decide +kernel
theorem qd_Ref_init_121 : decode qc_Ref_init 121 = .ok (.iconst 2, 1) := by decide +kernel
theorem qd_Ref_init_122 : decode qc_Ref_init 122 = .ok (.newarray .int, 2) := by decide +kernel
theorem qd_Ref_init_124 : decode qc_Ref_init 124 = .ok (.putfield 56, 3) := by decide +kernel
theorem qd_Ref_init_127 : decode qc_Ref_init 127 = .ok (.aload_n 0, 1) := by decide +kernel
theorem qd_Ref_init_128 : decode qc_Ref_init 128 = .ok (.bipush 6, 2) := by decide +kernel
theorem qd_Ref_init_130 : decode qc_Ref_init 130 = .ok (.newarray .int, 2) := by decide +kernel
theorem qd_Ref_init_132 : decode qc_Ref_init 132 = .ok (.putfield 59, 3) := by decide +kernel
theorem qd_Ref_init_135 : decode qc_Ref_init 135 = .ok (.aload_n 0, 1) := by decide +kernel
theorem qd_Ref_init_136 : decode qc_Ref_init 136 = .ok (.bipush 6, 2) := by decide +kernel
theorem qd_Ref_init_138 : decode qc_Ref_init 138 = .ok (.newarray .int, 2) := by decide +kernel
theorem qd_Ref_init_140 : decode qc_Ref_init 140 = .ok (.putfield 62, 3) := by decide +kernel
theorem qd_Ref_init_143 : decode qc_Ref_init 143 = .ok (.aload_n 0, 1) := by decide +kernel
theorem qd_Ref_init_144 : decode qc_Ref_init 144 = .ok (.bipush 6, 2) := by decide +kernel
theorem qd_Ref_init_146 : decode qc_Ref_init 146 = .ok (.newarray .int, 2) := by decide +kernel
theorem qd_Ref_init_148 : decode qc_Ref_init 148 = .ok (.putfield 65, 3) := by decide +kernel
theorem qd_Ref_init_151 : decode qc_Ref_init 151 = .ok (.aload_n 0, 1) := by decide +kernel
theorem qd_Ref_init_152 : decode qc_Ref_init 152 = .ok (.iconst 2, 1) := by decide +kernel
theorem qd_Ref_init_153 : decode qc_Ref_init 153 = .ok (.newarray .int, 2) := by decide +kernel
theorem qd_Ref_init_155 : decode qc_Ref_init 155 = .ok (.putfield 68, 3) := by decide +kernel
theorem qd_Ref_init_158 : decode qc_Ref_init 158 = .ok (.aload_n 0, 1) := by decide +kernel
theorem qd_Ref_init_159 : decode qc_Ref_init 159 = .ok (.bipush 32, 2) := by decide +kernel
theorem qd_Ref_init_161 : decode qc_Ref_init 161 = .ok (.newarray .int, 2) := by decide +kernel
theorem qd_Ref_init_163 : decode qc_Ref_init 163 = .ok (.putfield 71, 3) := by decide +kernel
theorem qd_Ref_init_166 : decode qc_Ref_init 166 = .ok (.aload_n 0, 1) := by decide +kernel
theorem qd_Ref_init_167 : decode qc_Ref_init 167 = .ok (.bipush 11, 2) := by decide +kernel
theorem qd_Ref_init_169 : decode qc_Ref_init 169 = .ok (.newarray .int, 2) := by decide +kernel
theorem qd_Ref_init_171 : decode qc_Ref_init 171 = .ok (.putfield 74, 3) := by decide +kernel
theorem qd_Ref_init_174 : decode qc_Ref_init 174 = .ok (.aload_n 0, 1) := by decide +kernel
theorem qd_Ref_init_175 : decode qc_Ref_init 175 = .ok (.bipush 33, 2) := by decide +kernel
theorem qd_Ref_init_177 : decode qc_Ref_init 177 = .ok (.newarray .int, 2) := by decide +kernel
theorem qd_Ref_init_179 : decode qc_Ref_init 179 = .ok (.putfield 77, 3) := by decide +kernel
theorem qd_Ref_init_182 : decode qc_Ref_init 182 = .ok (.aload_n 0, 1) := by decide +kernel
theorem qd_Ref_init_183 : decode qc_Ref_init 183 = .ok (.iconst (-1), 1) := by decide +kernel
theorem qd_Ref_init_184 : decode qc_Ref_init 184 = .ok (.putfield 80, 3) := by decide +kernel
theorem qd_Ref_init_187 : decode qc_Ref_init 187 = .ok (.aload_n 0, 1) := by decide +kernel
theorem qd_Ref_init_188 : decode qc_Ref_init 188 = .ok (.bipush 11, 2) := by decide +kernel
theorem qd_Ref_init_190 : decode qc_Ref_init 190 = .ok (.newarray .boolean, 2) := by decide +kernel
theorem qd_Ref_init_192 : decode qc_Ref_init 192 = .ok (.putfield 84, 3) := by decide +kernel
theorem qd_Ref_init_195 : decode qc_Ref_init 195 = .ok (.aload_n 0, 1) := by decide +kernel
theorem qd_Ref_init_196 : decode qc_Ref_init 196 = .ok (.iconst 4, 1) := by decide +kernel
theorem qd_Ref_init_197 : decode qc_Ref_init 197 = .ok (.iload_n 1, 1) := by decide +kernel
theorem qd_Ref_init_198 : decode qc_Ref_init 198 = .ok (.bipush 7, 2) := by decide +kernel
theorem qd_Ref_init_200 : decode qc_Ref_init 200 = .ok (.iand, 1) := by decide +kernel
theorem qd_Ref_init_201 : decode qc_Ref_init 201 = .ok (.iadd, 1) := by decide +kernel
theorem qd_Ref_init_202 : decode qc_Ref_init 202 = .ok (.putfield 88, 3) := by decide +kernel
theorem qd_Ref_init_205 : decode qc_Ref_init 205 = .ok (.iconst 0, 1) := by decide +kernel
theorem qd_Ref_init_206 : decode qc_Ref_init 206 = .ok (.istore_n 2, 1) := by decide +kernel
theorem qd_Ref_init_207 : decode qc_Ref_init 207 = .ok (.iload_n 2, 1) := by decide +kernel
theorem qd_Ref_init_208 : decode qc_Ref_init 208 = .ok (.bipush 33, 2) := by decide +kernel
theorem qd_Ref_init_210 : decode qc_Ref_init 210 = .ok (.if_icmp .ge 27, 3) := by decide +kernel
theorem qd_Ref_init_213 : decode qc_Ref_init 213 = .ok (.aload_n 0, 1) := by decide +kernel
theorem qd_Ref_init_214 : decode qc_Ref_init 214 = .ok (.getfield 77, 3) := by decide +kernel
theorem qd_Ref_init_217 : decode qc_Ref_init 217 = .ok (.iload_n 2, 1) := by decide +kernel
theorem qd_Ref_init_218 : decode qc_Ref_init 218 = .ok (.iload_n 2, 1) := by decide +kernel
theorem qd_Ref_init_219 : decode qc_Ref_init 219 = .ok (.iconst 3, 1) := by decide +kernel
theorem qd_Ref_init_220 : decode qc_Ref_init 220 = .ok (.irem, 1) := by decide +kernel
theorem qd_Ref_init_221 : decode qc_Ref_init 221 = .ok (.iconst 2, 1) := by decide +kernel
theorem qd_Ref_init_222 : decode qc_Ref_init 222 = .ok (.if_icmp .ne 7, 3) := by decide +kernel
theorem qd_Ref_init_225 : decode qc_Ref_init 225 = .ok (.iconst 0, 1) := by decide +kernel
theorem qd_Ref_init_226 : decode qc_Ref_init 226 = .ok (.goto 4, 3) := by decide +kernel
theorem qd_Ref_init_229 : decode qc_Ref_init 229 = .ok (.iconst (-1), 1) := by decide +kernel
theorem qd_Ref_init_230 : decode qc_Ref_init 230 = .ok (.iastore, 1) := by decide +kernel
theorem qd_Ref_init_231 : decode qc_Ref_init 231 = .ok (.iinc 2 1, 3) := by decide +kernel
theorem qd_Ref_init_234 : decode qc_Ref_init 234 = .ok (.goto (-27), 3) := by decide +kernel
theorem qd_Ref_init_237 : decode qc_Ref_init 237 = .ok (.iconst 0, 1) := by decide +kernel
theorem qd_Ref_init_238 : decode qc_Ref_init 238 = .ok (.istore_n 2, 1) := by decide +kernel
theorem qd_Ref_init_239 : decode qc_Ref_init 239 = .ok (.iload_n 2, 1) := by decide +kernel
theorem qd_Ref_init_240 : decode qc_Ref_init 240 = .ok (.iconst 2, 1) := by decide +kernel
theorem qd_Ref_init_241 : decode qc_Ref_init 241 = .ok (.if_icmp .ge 34, 3) := by decide +kernel
theorem qd_Ref_init_244 : decode qc_Ref_init 244 = .ok (.iconst 0, 1) := by decide +kernel
theorem qd_Ref_init_245 : decode qc_Ref_init 245 = .ok (.istore_n 3, 1) := by decide +kernel
theorem qd_Ref_init_246 : decode qc_Ref_init 246 = .ok (.iload_n 3, 1) := by decide +kernel
theorem qd_Ref_init_247 : decode qc_Ref_init 247 = .ok (.iconst 4, 1) := by decide +kernel
theorem qd_Ref_init_248 : decode qc_Ref_init 248 = .ok (.if_icmp .ge 21, 3) := by decide +kernel
theorem qd_Ref_init_251 : decode qc_Ref_init 251 = .ok (.aload_n 0, 1) := by decide +kernel
theorem qd_Ref_init_252 : decode qc_Ref_init 252 = .ok (.getfield 47, 3) := by decide +kernel
theorem qd_Ref_init_255 : decode qc_Ref_init 255 = .ok (.bipush 7, 2) := by decide +kernel
theorem qd_Ref_init_257 : decode qc_Ref_init 257 = .ok (.iload_n 2, 1) := by decide +kernel
theorem qd_Ref_init_258 : decode qc_Ref_init 258 = .ok (.imul, 1) := by decide +kernel
theorem qd_Ref_init_259 : decode qc_Ref_init 259 = .ok (.iload_n 3, 1) := by decide +kernel
theorem qd_Ref_init_260 : decode qc_Ref_init 260 = .ok (.iadd, 1) := by decide +kernel
theorem qd_Ref_init_261 : decode qc_Ref_init 261 = .ok (.iconst (-1), 1) := by decide +kernel
theorem qd_Ref_init_262 : decode qc_Ref_init 262 = .ok (.iastore, 1) := by decide +kernel
theorem qd_Ref_init_263 : decode qc_Ref_init 263 = .ok (.iinc 3 1, 3) := by decide +kernel
theorem qd_Ref_init_266 : decode qc_Ref_init 266 = .ok (.goto (-20), 3) := by decide +kernel
theorem qd_Ref_init_269 : decode qc_Ref_init 269 = .ok (.iinc 2 1, 3) := by decide +kernel
theorem qd_Ref_init_272 : decode qc_Ref_init 272 = .ok (.goto (-33), 3) := by decide +kernel
theorem qd_Ref_init_275 : decode qc_Ref_init 275 = .ok (.return_, 1) := by decide +kernel
