abbrev qc_Ref_answer : ByteArray := prog_9_method_24_code
abbrev qy_Ref_answer : MethodName := ⟨"QuietSweepModel", "answer", "(I)Z"⟩
abbrev ql_Ref_answer : Cond := .code qy_Ref_answer qc_Ref_answer 5 (some .boolean)
theorem qd_Ref_answer_0 : decode qc_Ref_answer 0 = .ok (.aload_n 0, 1) := by decide +kernel
theorem qd_Ref_answer_1 : decode qc_Ref_answer 1 = .ok (.invokevirtual 161, 3) := by decide +kernel
theorem qd_Ref_answer_4 : decode qc_Ref_answer 4 = .ok (.istore_n 2, 1) := by decide +kernel
theorem qd_Ref_answer_5 : decode qc_Ref_answer 5 = .ok (.iload_n 2, 1) := by decide +kernel
theorem qd_Ref_answer_6 : decode qc_Ref_answer 6 = .ok (.ifCond .lt 13, 3) := by decide +kernel
theorem qd_Ref_answer_9 : decode qc_Ref_answer 9 = .ok (.aload_n 0, 1) := by decide +kernel
theorem qd_Ref_answer_10 : decode qc_Ref_answer 10 = .ok (.getfield 50, 3) := by decide +kernel
theorem qd_Ref_answer_13 : decode qc_Ref_answer 13 = .ok (.iload_n 1, 1) := by decide +kernel
theorem qd_Ref_answer_14 : decode qc_Ref_answer 14 = .ok (.iaload, 1) := by decide +kernel
theorem qd_Ref_answer_15 : decode qc_Ref_answer 15 = .ok (.iload_n 2, 1) := by decide +kernel
theorem qd_Ref_answer_16 : decode qc_Ref_answer 16 = .ok (.if_icmp .ne 5, 3) := by decide +kernel
theorem qd_Ref_answer_19 : decode qc_Ref_answer 19 = .ok (.iconst 0, 1) := by decide +kernel
theorem qd_Ref_answer_20 : decode qc_Ref_answer 20 = .ok (.ireturn, 1) := by decide +kernel
theorem qd_Ref_answer_21 : decode qc_Ref_answer 21 = .ok (.iconst 0, 1) := by decide +kernel
theorem qd_Ref_answer_22 : decode qc_Ref_answer 22 = .ok (.istore_n 3, 1) := by decide +kernel
theorem qd_Ref_answer_23 : decode qc_Ref_answer 23 = .ok (.iload_n 3, 1) := by decide +kernel
theorem qd_Ref_answer_24 : decode qc_Ref_answer 24 = .ok (.iconst 3, 1) := by decide +kernel
theorem qd_Ref_answer_25 : decode qc_Ref_answer 25 = .ok (.if_icmp .ge 16, 3) := by decide +kernel
theorem qd_Ref_answer_28 : decode qc_Ref_answer 28 = .ok (.aload_n 0, 1) := by decide +kernel
theorem qd_Ref_answer_29 : decode qc_Ref_answer 29 = .ok (.iload_n 1, 1) := by decide +kernel
theorem qd_Ref_answer_30 : decode qc_Ref_answer 30 = .ok (.invokevirtual 165, 3) := by decide +kernel
theorem qd_Ref_answer_33 : decode qc_Ref_answer 33 = .ok (.istore 4, 2) := by decide +kernel
theorem qd_Ref_answer_35 : decode qc_Ref_answer 35 = .ok (.iinc 3 1, 3) := by decide +kernel
theorem qd_Ref_answer_38 : decode qc_Ref_answer 38 = .ok (.goto (-15), 3) := by decide +kernel
theorem qd_Ref_answer_41 : decode qc_Ref_answer 41 = .ok (.aload_n 0, 1) := by decide +kernel
theorem qd_Ref_answer_42 : decode qc_Ref_answer 42 = .ok (.getfield 50, 3) := by decide +kernel
theorem qd_Ref_answer_45 : decode qc_Ref_answer 45 = .ok (.iload_n 1, 1) := by decide +kernel
theorem qd_Ref_answer_46 : decode qc_Ref_answer 46 = .ok (.iload_n 2, 1) := by decide +kernel
theorem qd_Ref_answer_47 : decode qc_Ref_answer 47 = .ok (.iastore, 1) := by decide +kernel
theorem qd_Ref_answer_48 : decode qc_Ref_answer 48 = .ok (.iconst 0, 1) := by decide +kernel
theorem qd_Ref_answer_49 : decode qc_Ref_answer 49 = .ok (.istore_n 3, 1) := by decide +kernel
theorem qd_Ref_answer_50 : decode qc_Ref_answer 50 = .ok (.iload_n 3, 1) := by decide +kernel
theorem qd_Ref_answer_51 : decode qc_Ref_answer 51 = .ok (.iconst 4, 1) := by decide +kernel
theorem qd_Ref_answer_52 : decode qc_Ref_answer 52 = .ok (.if_icmp .ge 29, 3) := by decide +kernel
theorem qd_Ref_answer_55 : decode qc_Ref_answer 55 = .ok (.iload_n 2, 1) := by decide +kernel
theorem qd_Ref_answer_56 : decode qc_Ref_answer 56 = .ok (.iconst 3, 1) := by decide +kernel
theorem qd_Ref_answer_57 : decode qc_Ref_answer 57 = .ok (.if_icmp .ne 24, 3) := by decide +kernel
theorem qd_Ref_answer_60 : decode qc_Ref_answer 60 = .ok (.aload_n 0, 1) := by decide +kernel
theorem qd_Ref_answer_61 : decode qc_Ref_answer 61 = .ok (.aload_n 0, 1) := by decide +kernel
theorem qd_Ref_answer_62 : decode qc_Ref_answer 62 = .ok (.getfield 47, 3) := by decide +kernel
theorem qd_Ref_answer_65 : decode qc_Ref_answer 65 = .ok (.bipush 7, 2) := by decide +kernel
theorem qd_Ref_answer_67 : decode qc_Ref_answer 67 = .ok (.iload_n 1, 1) := by decide +kernel
theorem qd_Ref_answer_68 : decode qc_Ref_answer 68 = .ok (.imul, 1) := by decide +kernel
theorem qd_Ref_answer_69 : decode qc_Ref_answer 69 = .ok (.iload_n 3, 1) := by decide +kernel
theorem qd_Ref_answer_70 : decode qc_Ref_answer 70 = .ok (.iadd, 1) := by decide +kernel
theorem qd_Ref_answer_71 : decode qc_Ref_answer 71 = .ok (.iaload, 1) := by decide +kernel
theorem qd_Ref_answer_72 : decode qc_Ref_answer 72 = .ok (.invokevirtual 154, 3) := by decide +kernel
theorem qd_Ref_answer_75 : decode qc_Ref_answer 75 = .ok (.iinc 3 1, 3) := by decide +kernel
theorem qd_Ref_answer_78 : decode qc_Ref_answer 78 = .ok (.goto (-28), 3) := by decide +kernel
theorem qd_Ref_answer_81 : decode qc_Ref_answer 81 = .ok (.iconst 1, 1) := by decide +kernel
theorem qd_Ref_answer_82 : decode qc_Ref_answer 82 = .ok (.ireturn, 1) := by decide +kernel
abbrev qc_Ref_asked : ByteArray := prog_9_method_23_code
abbrev qy_Ref_asked : MethodName := ⟨"QuietSweepModel", "asked", "()I"⟩
abbrev ql_Ref_asked : Cond := .code qy_Ref_asked qc_Ref_asked 1 (some .int)
theorem qd_Ref_asked_0 : decode qc_Ref_asked 0 = .ok (.aload_n 0, 1) := by decide +kernel
theorem qd_Ref_asked_1 : decode qc_Ref_asked 1 = .ok (.getfield 158, 3) := by decide +kernel
theorem qd_Ref_asked_4 : decode qc_Ref_asked 4 = .ok (.iconst 1, 1) := by decide +kernel
theorem qd_Ref_asked_5 : decode qc_Ref_asked 5 = .ok (.if_icmp .lt 18, 3) := by decide +kernel
theorem qd_Ref_asked_8 : decode qc_Ref_asked 8 = .ok (.aload_n 0, 1) := by decide +kernel
theorem qd_Ref_asked_9 : decode qc_Ref_asked 9 = .ok (.getfield 158, 3) := by decide +kernel
theorem qd_Ref_asked_12 : decode qc_Ref_asked 12 = .ok (.iconst 3, 1) := by decide +kernel
theorem qd_Ref_asked_13 : decode qc_Ref_asked 13 = .ok (.if_icmp .gt 10, 3) := by decide +kernel
theorem qd_Ref_asked_16 : decode qc_Ref_asked 16 = .ok (.aload_n 0, 1) := by decide +kernel
theorem qd_Ref_asked_17 : decode qc_Ref_asked 17 = .ok (.getfield 158, 3) := by decide +kernel
theorem qd_Ref_asked_20 : decode qc_Ref_asked 20 = .ok (.goto 17, 3) := by decide +kernel
theorem qd_Ref_asked_23 : decode qc_Ref_asked 23 = .ok (.aload_n 0, 1) := by decide +kernel
theorem qd_Ref_asked_24 : decode qc_Ref_asked 24 = .ok (.getfield 158, 3) := by decide +kernel
theorem qd_Ref_asked_27 : decode qc_Ref_asked 27 = .ok (.bipush 6, 2) := by decide +kernel
theorem qd_Ref_asked_29 : decode qc_Ref_asked 29 = .ok (.if_icmp .ne 7, 3) := by decide +kernel
theorem qd_Ref_asked_32 : decode qc_Ref_asked 32 = .ok (.iconst 0, 1) := by decide +kernel
theorem qd_Ref_asked_33 : decode qc_Ref_asked 33 = .ok (.goto 4, 3) := by decide +kernel
theorem qd_Ref_asked_36 : decode qc_Ref_asked 36 = .ok (.iconst (-1), 1) := by decide +kernel
theorem qd_Ref_asked_37 : decode qc_Ref_asked 37 = .ok (.ireturn, 1) := by decide +kernel
abbrev qc_Ref_collect : ByteArray := prog_9_method_25_code
abbrev qy_Ref_collect : MethodName := ⟨"QuietSweepModel", "collect", "()Z"⟩
abbrev ql_Ref_collect : Cond := .code qy_Ref_collect qc_Ref_collect 3 (some .boolean)
theorem qd_Ref_collect_0 : decode qc_Ref_collect 0 = .ok (.aload_n 0, 1) := by decide +kernel
theorem qd_Ref_collect_1 : decode qc_Ref_collect 1 = .ok (.invokevirtual 161, 3) := by decide +kernel
theorem qd_Ref_collect_4 : decode qc_Ref_collect 4 = .ok (.istore_n 1, 1) := by decide +kernel
theorem qd_Ref_collect_5 : decode qc_Ref_collect 5 = .ok (.iload_n 1, 1) := by decide +kernel
theorem qd_Ref_collect_6 : decode qc_Ref_collect 6 = .ok (.ifCond .lt 80, 3) := by decide +kernel
theorem qd_Ref_collect_9 : decode qc_Ref_collect 9 = .ok (.aload_n 0, 1) := by decide +kernel
theorem qd_Ref_collect_10 : decode qc_Ref_collect 10 = .ok (.getfield 50, 3) := by decide +kernel
theorem qd_Ref_collect_13 : decode qc_Ref_collect 13 = .ok (.iconst 0, 1) := by decide +kernel
theorem qd_Ref_collect_14 : decode qc_Ref_collect 14 = .ok (.iaload, 1) := by decide +kernel
theorem qd_Ref_collect_15 : decode qc_Ref_collect 15 = .ok (.iload_n 1, 1) := by decide +kernel
theorem qd_Ref_collect_16 : decode qc_Ref_collect 16 = .ok (.if_icmp .ne 17, 3) := by decide +kernel
theorem qd_Ref_collect_19 : decode qc_Ref_collect 19 = .ok (.aload_n 0, 1) := by decide +kernel
theorem qd_Ref_collect_20 : decode qc_Ref_collect 20 = .ok (.getfield 50, 3) := by decide +kernel
theorem qd_Ref_collect_23 : decode qc_Ref_collect 23 = .ok (.iconst 1, 1) := by decide +kernel
theorem qd_Ref_collect_24 : decode qc_Ref_collect 24 = .ok (.iaload, 1) := by decide +kernel
theorem qd_Ref_collect_25 : decode qc_Ref_collect 25 = .ok (.iload_n 1, 1) := by decide +kernel
theorem qd_Ref_collect_26 : decode qc_Ref_collect 26 = .ok (.if_icmp .ne 7, 3) := by decide +kernel
theorem qd_Ref_collect_29 : decode qc_Ref_collect 29 = .ok (.iconst 1, 1) := by decide +kernel
theorem qd_Ref_collect_30 : decode qc_Ref_collect 30 = .ok (.goto 4, 3) := by decide +kernel
theorem qd_Ref_collect_33 : decode qc_Ref_collect 33 = .ok (.iconst 0, 1) := by decide +kernel
theorem qd_Ref_collect_34 : decode qc_Ref_collect 34 = .ok (.istore_n 2, 1) := by decide +kernel
theorem qd_Ref_collect_35 : decode qc_Ref_collect 35 = .ok (.aload_n 0, 1) := by decide +kernel
theorem qd_Ref_collect_36 : decode qc_Ref_collect 36 = .ok (.iload_n 2, 1) := by decide +kernel
theorem qd_Ref_collect_37 : decode qc_Ref_collect 37 = .ok (.ifCond .eq 16, 3) := by decide +kernel
theorem qd_Ref_collect_40 : decode qc_Ref_collect 40 = .ok (.iload_n 1, 1) := by decide +kernel
theorem qd_Ref_collect_41 : decode qc_Ref_collect 41 = .ok (.ifCond .ne 12, 3) := by decide +kernel
theorem qd_Ref_collect_44 : decode qc_Ref_collect 44 = .ok (.aload_n 0, 1) := by decide +kernel
theorem qd_Ref_collect_45 : decode qc_Ref_collect 45 = .ok (.getfield 168, 3) := by decide +kernel
theorem qd_Ref_collect_48 : decode qc_Ref_collect 48 = .ok (.iconst 1, 1) := by decide +kernel
theorem qd_Ref_collect_49 : decode qc_Ref_collect 49 = .ok (.iadd, 1) := by decide +kernel
theorem qd_Ref_collect_50 : decode qc_Ref_collect 50 = .ok (.goto 7, 3) := by decide +kernel
theorem qd_Ref_collect_53 : decode qc_Ref_collect 53 = .ok (.aload_n 0, 1) := by decide +kernel
theorem qd_Ref_collect_54 : decode qc_Ref_collect 54 = .ok (.getfield 168, 3) := by decide +kernel
theorem qd_Ref_collect_57 : decode qc_Ref_collect 57 = .ok (.putfield 168, 3) := by decide +kernel
theorem qd_Ref_collect_60 : decode qc_Ref_collect 60 = .ok (.aload_n 0, 1) := by decide +kernel
theorem qd_Ref_collect_61 : decode qc_Ref_collect 61 = .ok (.iload_n 2, 1) := by decide +kernel
theorem qd_Ref_collect_62 : decode qc_Ref_collect 62 = .ok (.ifCond .eq 15, 3) := by decide +kernel
theorem qd_Ref_collect_65 : decode qc_Ref_collect 65 = .ok (.aload_n 0, 1) := by decide +kernel
theorem qd_Ref_collect_66 : decode qc_Ref_collect 66 = .ok (.getfield 158, 3) := by decide +kernel
theorem qd_Ref_collect_69 : decode qc_Ref_collect 69 = .ok (.iconst 1, 1) := by decide +kernel
theorem qd_Ref_collect_70 : decode qc_Ref_collect 70 = .ok (.iadd, 1) := by decide +kernel
theorem qd_Ref_collect_71 : decode qc_Ref_collect 71 = .ok (.bipush 7, 2) := by decide +kernel
theorem qd_Ref_collect_73 : decode qc_Ref_collect 73 = .ok (.irem, 1) := by decide +kernel
theorem qd_Ref_collect_74 : decode qc_Ref_collect 74 = .ok (.goto 7, 3) := by decide +kernel
theorem qd_Ref_collect_77 : decode qc_Ref_collect 77 = .ok (.aload_n 0, 1) := by decide +kernel
theorem qd_Ref_collect_78 : decode qc_Ref_collect 78 = .ok (.getfield 158, 3) := by decide +kernel
theorem qd_Ref_collect_81 : decode qc_Ref_collect 81 = .ok (.putfield 158, 3) := by decide +kernel
theorem qd_Ref_collect_84 : decode qc_Ref_collect 84 = .ok (.iload_n 2, 1) := by decide +kernel
theorem qd_Ref_collect_85 : decode qc_Ref_collect 85 = .ok (.ireturn, 1) := by decide +kernel
theorem qd_Ref_collect_86 : decode qc_Ref_collect 86 = .ok (.aload_n 0, 1) := by decide +kernel
theorem qd_Ref_collect_87 : decode qc_Ref_collect 87 = .ok (.getfield 158, 3) := by decide +kernel
theorem qd_Ref_collect_90 : decode qc_Ref_collect 90 = .ok (.ifCond .ne 47, 3) := by decide +kernel
theorem qd_Ref_collect_93 : decode qc_Ref_collect 93 = .ok (.iconst 0, 1) := by decide +kernel
theorem qd_Ref_collect_94 : decode qc_Ref_collect 94 = .ok (.istore_n 2, 1) := by decide +kernel
theorem qd_Ref_collect_95 : decode qc_Ref_collect 95 = .ok (.iload_n 2, 1) := by decide +kernel
theorem qd_Ref_collect_96 : decode qc_Ref_collect 96 = .ok (.aload_n 0, 1) := by decide +kernel
theorem qd_Ref_collect_97 : decode qc_Ref_collect 97 = .ok (.getfield 88, 3) := by decide +kernel
theorem qd_Ref_collect_100 : decode qc_Ref_collect 100 = .ok (.if_icmp .ge 29, 3) := by decide +kernel
theorem qd_Ref_collect_103 : decode qc_Ref_collect 103 = .ok (.aload_n 0, 1) := by decide +kernel
theorem qd_Ref_collect_104 : decode qc_Ref_collect 104 = .ok (.getfield 74, 3) := by decide +kernel
theorem qd_Ref_collect_107 : decode qc_Ref_collect 107 = .ok (.iload_n 2, 1) := by decide +kernel
theorem qd_Ref_collect_108 : decode qc_Ref_collect 108 = .ok (.aload_n 0, 1) := by decide +kernel
theorem qd_Ref_collect_109 : decode qc_Ref_collect 109 = .ok (.getfield 74, 3) := by decide +kernel
theorem qd_Ref_collect_112 : decode qc_Ref_collect 112 = .ok (.iload_n 2, 1) := by decide +kernel
theorem qd_Ref_collect_113 : decode qc_Ref_collect 113 = .ok (.iaload, 1) := by decide +kernel
theorem qd_Ref_collect_114 : decode qc_Ref_collect 114 = .ok (.ifCond .ne 7, 3) := by decide +kernel
theorem qd_Ref_collect_117 : decode qc_Ref_collect 117 = .ok (.iconst 0, 1) := by decide +kernel
theorem qd_Ref_collect_118 : decode qc_Ref_collect 118 = .ok (.goto 4, 3) := by decide +kernel
theorem qd_Ref_collect_121 : decode qc_Ref_collect 121 = .ok (.iconst 1, 1) := by decide +kernel
theorem qd_Ref_collect_122 : decode qc_Ref_collect 122 = .ok (.iastore, 1) := by decide +kernel
theorem qd_Ref_collect_123 : decode qc_Ref_collect 123 = .ok (.iinc 2 1, 3) := by decide +kernel
theorem qd_Ref_collect_126 : decode qc_Ref_collect 126 = .ok (.goto (-31), 3) := by decide +kernel
theorem qd_Ref_collect_129 : decode qc_Ref_collect 129 = .ok (.aload_n 0, 1) := by decide +kernel
theorem qd_Ref_collect_130 : decode qc_Ref_collect 130 = .ok (.iconst 1, 1) := by decide +kernel
theorem qd_Ref_collect_131 : decode qc_Ref_collect 131 = .ok (.putfield 158, 3) := by decide +kernel
theorem qd_Ref_collect_134 : decode qc_Ref_collect 134 = .ok (.goto 84, 3) := by decide +kernel
theorem qd_Ref_collect_137 : decode qc_Ref_collect 137 = .ok (.aload_n 0, 1) := by decide +kernel
theorem qd_Ref_collect_138 : decode qc_Ref_collect 138 = .ok (.getfield 158, 3) := by decide +kernel
theorem qd_Ref_collect_141 : decode qc_Ref_collect 141 = .ok (.iconst 4, 1) := by decide +kernel
theorem qd_Ref_collect_142 : decode qc_Ref_collect 142 = .ok (.if_icmp .ne 10, 3) := by decide +kernel
theorem qd_Ref_collect_145 : decode qc_Ref_collect 145 = .ok (.aload_n 0, 1) := by decide +kernel
theorem qd_Ref_collect_146 : decode qc_Ref_collect 146 = .ok (.invokevirtual 171, 3) := by decide +kernel
theorem qd_Ref_collect_149 : decode qc_Ref_collect 149 = .ok (.goto 69, 3) := by decide +kernel
theorem qd_Ref_collect_152 : decode qc_Ref_collect 152 = .ok (.aload_n 0, 1) := by decide +kernel
theorem qd_Ref_collect_153 : decode qc_Ref_collect 153 = .ok (.getfield 74, 3) := by decide +kernel
theorem qd_Ref_collect_156 : decode qc_Ref_collect 156 = .ok (.aload_n 0, 1) := by decide +kernel
theorem qd_Ref_collect_157 : decode qc_Ref_collect 157 = .ok (.getfield 174, 3) := by decide +kernel
theorem qd_Ref_collect_160 : decode qc_Ref_collect 160 = .ok (.aload_n 0, 1) := by decide +kernel
theorem qd_Ref_collect_161 : decode qc_Ref_collect 161 = .ok (.getfield 74, 3) := by decide +kernel
theorem qd_Ref_collect_164 : decode qc_Ref_collect 164 = .ok (.aload_n 0, 1) := by decide +kernel
theorem qd_Ref_collect_165 : decode qc_Ref_collect 165 = .ok (.getfield 174, 3) := by decide +kernel
theorem qd_Ref_collect_168 : decode qc_Ref_collect 168 = .ok (.iaload, 1) := by decide +kernel
theorem qd_Ref_collect_169 : decode qc_Ref_collect 169 = .ok (.iconst 1, 1) := by decide +kernel
theorem qd_Ref_collect_170 : decode qc_Ref_collect 170 = .ok (.if_icmp .ne 7, 3) := by decide +kernel
theorem qd_Ref_collect_173 : decode qc_Ref_collect 173 = .ok (.iconst 0, 1) := by decide +kernel
theorem qd_Ref_collect_174 : decode qc_Ref_collect 174 = .ok (.goto 12, 3) := by decide +kernel
theorem qd_Ref_collect_177 : decode qc_Ref_collect 177 = .ok (.aload_n 0, 1) := by decide +kernel
theorem qd_Ref_collect_178 : decode qc_Ref_collect 178 = .ok (.getfield 74, 3) := by decide +kernel
theorem qd_Ref_collect_181 : decode qc_Ref_collect 181 = .ok (.aload_n 0, 1) := by decide +kernel
theorem qd_Ref_collect_182 : decode qc_Ref_collect 182 = .ok (.getfield 174, 3) := by decide +kernel
theorem qd_Ref_collect_185 : decode qc_Ref_collect 185 = .ok (.iaload, 1) := by decide +kernel
theorem qd_Ref_collect_186 : decode qc_Ref_collect 186 = .ok (.iastore, 1) := by decide +kernel
theorem qd_Ref_collect_187 : decode qc_Ref_collect 187 = .ok (.aload_n 0, 1) := by decide +kernel
theorem qd_Ref_collect_188 : decode qc_Ref_collect 188 = .ok (.dup, 1) := by decide +kernel
theorem qd_Ref_collect_189 : decode qc_Ref_collect 189 = .ok (.getfield 174, 3) := by decide +kernel
theorem qd_Ref_collect_192 : decode qc_Ref_collect 192 = .ok (.iconst 1, 1) := by decide +kernel
theorem qd_Ref_collect_193 : decode qc_Ref_collect 193 = .ok (.iadd, 1) := by decide +kernel
theorem qd_Ref_collect_194 : decode qc_Ref_collect 194 = .ok (.putfield 174, 3) := by decide +kernel
theorem qd_Ref_collect_197 : decode qc_Ref_collect 197 = .ok (.aload_n 0, 1) := by decide +kernel
theorem qd_Ref_collect_198 : decode qc_Ref_collect 198 = .ok (.aload_n 0, 1) := by decide +kernel
theorem qd_Ref_collect_199 : decode qc_Ref_collect 199 = .ok (.getfield 174, 3) := by decide +kernel
theorem qd_Ref_collect_202 : decode qc_Ref_collect 202 = .ok (.aload_n 0, 1) := by decide +kernel
theorem qd_Ref_collect_203 : decode qc_Ref_collect 203 = .ok (.getfield 88, 3) := by decide +kernel
theorem qd_Ref_collect_206 : decode qc_Ref_collect 206 = .ok (.if_icmp .ne 8, 3) := by decide +kernel
theorem qd_Ref_collect_209 : decode qc_Ref_collect 209 = .ok (.bipush 6, 2) := by decide +kernel
theorem qd_Ref_collect_211 : decode qc_Ref_collect 211 = .ok (.goto 4, 3) := by decide +kernel
theorem qd_Ref_collect_214 : decode qc_Ref_collect 214 = .ok (.iconst 5, 1) := by decide +kernel
theorem qd_Ref_collect_215 : decode qc_Ref_collect 215 = .ok (.putfield 158, 3) := by decide +kernel
theorem qd_Ref_collect_218 : decode qc_Ref_collect 218 = .ok (.iconst 1, 1) := by decide +kernel
theorem qd_Ref_collect_219 : decode qc_Ref_collect 219 = .ok (.ireturn, 1) := by decide +kernel
abbrev qc_Ref_trace : ByteArray := prog_9_method_26_code
abbrev qy_Ref_trace : MethodName := ⟨"QuietSweepModel", "trace", "()V"⟩
abbrev ql_Ref_trace : Cond := .code qy_Ref_trace qc_Ref_trace 2 none
theorem qd_Ref_trace_0 : decode qc_Ref_trace 0 = .ok (.aload_n 0, 1) := by decide +kernel
theorem qd_Ref_trace_1 : decode qc_Ref_trace 1 = .ok (.getfield 80, 3) := by decide +kernel
theorem qd_Ref_trace_4 : decode qc_Ref_trace 4 = .ok (.ifCond .lt 36, 3) := by decide +kernel
theorem qd_Ref_trace_7 : decode qc_Ref_trace 7 = .ok (.aload_n 0, 1) := by decide +kernel
theorem qd_Ref_trace_8 : decode qc_Ref_trace 8 = .ok (.aload_n 0, 1) := by decide +kernel
theorem qd_Ref_trace_9 : decode qc_Ref_trace 9 = .ok (.getfield 77, 3) := by decide +kernel
theorem qd_Ref_trace_12 : decode qc_Ref_trace 12 = .ok (.iconst 3, 1) := by decide +kernel
theorem qd_Ref_trace_13 : decode qc_Ref_trace 13 = .ok (.aload_n 0, 1) := by decide +kernel
theorem qd_Ref_trace_14 : decode qc_Ref_trace 14 = .ok (.getfield 80, 3) := by decide +kernel
theorem qd_Ref_trace_17 : decode qc_Ref_trace 17 = .ok (.imul, 1) := by decide +kernel
theorem qd_Ref_trace_18 : decode qc_Ref_trace 18 = .ok (.iconst 1, 1) := by decide +kernel
theorem qd_Ref_trace_19 : decode qc_Ref_trace 19 = .ok (.iadd, 1) := by decide +kernel
theorem qd_Ref_trace_20 : decode qc_Ref_trace 20 = .ok (.iaload, 1) := by decide +kernel
theorem qd_Ref_trace_21 : decode qc_Ref_trace 21 = .ok (.invokevirtual 154, 3) := by decide +kernel
theorem qd_Ref_trace_24 : decode qc_Ref_trace 24 = .ok (.aload_n 0, 1) := by decide +kernel
theorem qd_Ref_trace_25 : decode qc_Ref_trace 25 = .ok (.getfield 74, 3) := by decide +kernel
theorem qd_Ref_trace_28 : decode qc_Ref_trace 28 = .ok (.aload_n 0, 1) := by decide +kernel
theorem qd_Ref_trace_29 : decode qc_Ref_trace 29 = .ok (.getfield 80, 3) := by decide +kernel
theorem qd_Ref_trace_32 : decode qc_Ref_trace 32 = .ok (.iconst 3, 1) := by decide +kernel
theorem qd_Ref_trace_33 : decode qc_Ref_trace 33 = .ok (.iastore, 1) := by decide +kernel
theorem qd_Ref_trace_34 : decode qc_Ref_trace 34 = .ok (.aload_n 0, 1) := by decide +kernel
theorem qd_Ref_trace_35 : decode qc_Ref_trace 35 = .ok (.iconst (-1), 1) := by decide +kernel
theorem qd_Ref_trace_36 : decode qc_Ref_trace 36 = .ok (.putfield 80, 3) := by decide +kernel
theorem qd_Ref_trace_39 : decode qc_Ref_trace 39 = .ok (.return_, 1) := by decide +kernel
theorem qd_Ref_trace_40 : decode qc_Ref_trace 40 = .ok (.iconst 0, 1) := by decide +kernel
theorem qd_Ref_trace_41 : decode qc_Ref_trace 41 = .ok (.istore_n 1, 1) := by decide +kernel
theorem qd_Ref_trace_42 : decode qc_Ref_trace 42 = .ok (.iload_n 1, 1) := by decide +kernel
theorem qd_Ref_trace_43 : decode qc_Ref_trace 43 = .ok (.aload_n 0, 1) := by decide +kernel
theorem qd_Ref_trace_44 : decode qc_Ref_trace 44 = .ok (.getfield 88, 3) := by decide +kernel
theorem qd_Ref_trace_47 : decode qc_Ref_trace 47 = .ok (.if_icmp .ge 37, 3) := by decide +kernel
theorem qd_Ref_trace_50 : decode qc_Ref_trace 50 = .ok (.aload_n 0, 1) := by decide +kernel
theorem qd_Ref_trace_51 : decode qc_Ref_trace 51 = .ok (.getfield 74, 3) := by decide +kernel
theorem qd_Ref_trace_54 : decode qc_Ref_trace 54 = .ok (.iload_n 1, 1) := by decide +kernel
theorem qd_Ref_trace_55 : decode qc_Ref_trace 55 = .ok (.iaload, 1) := by decide +kernel
theorem qd_Ref_trace_56 : decode qc_Ref_trace 56 = .ok (.iconst 2, 1) := by decide +kernel
theorem qd_Ref_trace_57 : decode qc_Ref_trace 57 = .ok (.if_icmp .ne 21, 3) := by decide +kernel
theorem qd_Ref_trace_60 : decode qc_Ref_trace 60 = .ok (.aload_n 0, 1) := by decide +kernel
theorem qd_Ref_trace_61 : decode qc_Ref_trace 61 = .ok (.iload_n 1, 1) := by decide +kernel
theorem qd_Ref_trace_62 : decode qc_Ref_trace 62 = .ok (.putfield 80, 3) := by decide +kernel
theorem qd_Ref_trace_65 : decode qc_Ref_trace 65 = .ok (.aload_n 0, 1) := by decide +kernel
theorem qd_Ref_trace_66 : decode qc_Ref_trace 66 = .ok (.aload_n 0, 1) := by decide +kernel
theorem qd_Ref_trace_67 : decode qc_Ref_trace 67 = .ok (.getfield 77, 3) := by decide +kernel
theorem qd_Ref_trace_70 : decode qc_Ref_trace 70 = .ok (.iconst 3, 1) := by decide +kernel
theorem qd_Ref_trace_71 : decode qc_Ref_trace 71 = .ok (.iload_n 1, 1) := by decide +kernel
theorem qd_Ref_trace_72 : decode qc_Ref_trace 72 = .ok (.imul, 1) := by decide +kernel
theorem qd_Ref_trace_73 : decode qc_Ref_trace 73 = .ok (.iaload, 1) := by decide +kernel
theorem qd_Ref_trace_74 : decode qc_Ref_trace 74 = .ok (.invokevirtual 154, 3) := by decide +kernel
theorem qd_Ref_trace_77 : decode qc_Ref_trace 77 = .ok (.return_, 1) := by decide +kernel
theorem qd_Ref_trace_78 : decode qc_Ref_trace 78 = .ok (.iinc 1 1, 3) := by decide +kernel
theorem qd_Ref_trace_81 : decode qc_Ref_trace 81 = .ok (.goto (-39), 3) := by decide +kernel
theorem qd_Ref_trace_84 : decode qc_Ref_trace 84 = .ok (.aload_n 0, 1) := by decide +kernel
theorem qd_Ref_trace_85 : decode qc_Ref_trace 85 = .ok (.iconst 5, 1) := by decide +kernel
theorem qd_Ref_trace_86 : decode qc_Ref_trace 86 = .ok (.putfield 158, 3) := by decide +kernel
theorem qd_Ref_trace_89 : decode qc_Ref_trace 89 = .ok (.aload_n 0, 1) := by decide +kernel
theorem qd_Ref_trace_90 : decode qc_Ref_trace 90 = .ok (.iconst 0, 1) := by decide +kernel
theorem qd_Ref_trace_91 : decode qc_Ref_trace 91 = .ok (.putfield 174, 3) := by decide +kernel
theorem qd_Ref_trace_94 : decode qc_Ref_trace 94 = .ok (.return_, 1) := by decide +kernel
abbrev qc_Ref_repeat : ByteArray := prog_9_method_29_code
abbrev qy_Ref_repeat : MethodName := ⟨"QuietSweepModel", "repeat", "(II)I"⟩
abbrev ql_Ref_repeat : Cond := .code qy_Ref_repeat qc_Ref_repeat 5 (some .int)
theorem qd_Ref_repeat_0 : decode qc_Ref_repeat 0 = .ok (.iload_n 1, 1) := by decide +kernel
theorem qd_Ref_repeat_1 : decode qc_Ref_repeat 1 = .ok (.ifCond .lt 19, 3) := by decide +kernel
theorem qd_Ref_repeat_4 : decode qc_Ref_repeat 4 = .ok (.iload_n 1, 1) := by decide +kernel
theorem qd_Ref_repeat_5 : decode qc_Ref_repeat 5 = .ok (.bipush 7, 2) := by decide +kernel
theorem qd_Ref_repeat_7 : decode qc_Ref_repeat 7 = .ok (.if_icmp .gt 13, 3) := by decide +kernel
theorem qd_Ref_repeat_10 : decode qc_Ref_repeat 10 = .ok (.iload_n 2, 1) := by decide +kernel
theorem qd_Ref_repeat_11 : decode qc_Ref_repeat 11 = .ok (.ifCond .lt 9, 3) := by decide +kernel
theorem qd_Ref_repeat_14 : decode qc_Ref_repeat 14 = .ok (.iload_n 2, 1) := by decide +kernel
theorem qd_Ref_repeat_15 : decode qc_Ref_repeat 15 = .ok (.bipush 60, 2) := by decide +kernel
theorem qd_Ref_repeat_17 : decode qc_Ref_repeat 17 = .ok (.if_icmp .le 5, 3) := by decide +kernel
theorem qd_Ref_repeat_20 : decode qc_Ref_repeat 20 = .ok (.iconst (-1), 1) := by decide +kernel
theorem qd_Ref_repeat_21 : decode qc_Ref_repeat 21 = .ok (.ireturn, 1) := by decide +kernel
theorem qd_Ref_repeat_22 : decode qc_Ref_repeat 22 = .ok (.iconst 0, 1) := by decide +kernel
theorem qd_Ref_repeat_23 : decode qc_Ref_repeat 23 = .ok (.istore_n 3, 1) := by decide +kernel
theorem qd_Ref_repeat_24 : decode qc_Ref_repeat 24 = .ok (.iconst 0, 1) := by decide +kernel
theorem qd_Ref_repeat_25 : decode qc_Ref_repeat 25 = .ok (.istore 4, 2) := by decide +kernel
theorem qd_Ref_repeat_27 : decode qc_Ref_repeat 27 = .ok (.iload 4, 2) := by decide +kernel
theorem qd_Ref_repeat_29 : decode qc_Ref_repeat 29 = .ok (.iload_n 2, 1) := by decide +kernel
theorem qd_Ref_repeat_30 : decode qc_Ref_repeat 30 = .ok (.if_icmp .ge 25, 3) := by decide +kernel
theorem qd_Ref_repeat_33 : decode qc_Ref_repeat 33 = .ok (.aload_n 0, 1) := by decide +kernel
theorem qd_Ref_repeat_34 : decode qc_Ref_repeat 34 = .ok (.iload_n 1, 1) := by decide +kernel
theorem qd_Ref_repeat_35 : decode qc_Ref_repeat 35 = .ok (.invokevirtual 186, 3) := by decide +kernel
theorem qd_Ref_repeat_38 : decode qc_Ref_repeat 38 = .ok (.ifCond .eq 9, 3) := by decide +kernel
theorem qd_Ref_repeat_41 : decode qc_Ref_repeat 41 = .ok (.iload_n 3, 1) := by decide +kernel
theorem qd_Ref_repeat_42 : decode qc_Ref_repeat 42 = .ok (.iconst 1, 1) := by decide +kernel
theorem qd_Ref_repeat_43 : decode qc_Ref_repeat 43 = .ok (.iadd, 1) := by decide +kernel
theorem qd_Ref_repeat_44 : decode qc_Ref_repeat 44 = .ok (.goto 4, 3) := by decide +kernel
theorem qd_Ref_repeat_47 : decode qc_Ref_repeat 47 = .ok (.iload_n 3, 1) := by decide +kernel
theorem qd_Ref_repeat_48 : decode qc_Ref_repeat 48 = .ok (.istore_n 3, 1) := by decide +kernel
theorem qd_Ref_repeat_49 : decode qc_Ref_repeat 49 = .ok (.iinc 4 1, 3) := by decide +kernel
theorem qd_Ref_repeat_52 : decode qc_Ref_repeat 52 = .ok (.goto (-25), 3) := by decide +kernel
theorem qd_Ref_repeat_55 : decode qc_Ref_repeat 55 = .ok (.iload_n 3, 1) := by decide +kernel
theorem qd_Ref_repeat_56 : decode qc_Ref_repeat 56 = .ok (.ireturn, 1) := by decide +kernel
abbrev qc_Ref_position : ByteArray := prog_9_method_32_code
abbrev qy_Ref_position : MethodName := ⟨"QuietSweepModel", "position", "(I)I"⟩
abbrev ql_Ref_position : Cond := .code qy_Ref_position qc_Ref_position 2 (some .int)
theorem qd_Ref_position_0 : decode qc_Ref_position 0 = .ok (.iload_n 1, 1) := by decide +kernel
theorem qd_Ref_position_1 : decode qc_Ref_position 1 = .ok (.invokestatic 128, 3) := by decide +kernel
theorem qd_Ref_position_4 : decode qc_Ref_position 4 = .ok (.ifCond .eq 12, 3) := by decide +kernel
theorem qd_Ref_position_7 : decode qc_Ref_position 7 = .ok (.aload_n 0, 1) := by decide +kernel
theorem qd_Ref_position_8 : decode qc_Ref_position 8 = .ok (.getfield 44, 3) := by decide +kernel
theorem qd_Ref_position_11 : decode qc_Ref_position 11 = .ok (.iload_n 1, 1) := by decide +kernel
theorem qd_Ref_position_12 : decode qc_Ref_position 12 = .ok (.iaload, 1) := by decide +kernel
theorem qd_Ref_position_13 : decode qc_Ref_position 13 = .ok (.goto 4, 3) := by decide +kernel
theorem qd_Ref_position_16 : decode qc_Ref_position 16 = .ok (.iconst (-1), 1) := by decide +kernel
theorem qd_Ref_position_17 : decode qc_Ref_position 17 = .ok (.ireturn, 1) := by decide +kernel
abbrev qc_Ref_variable : ByteArray := prog_9_method_33_code
abbrev qy_Ref_variable : MethodName := ⟨"QuietSweepModel", "variable", "(II)I"⟩
abbrev ql_Ref_variable : Cond := .code qy_Ref_variable qc_Ref_variable 3 (some .int)
theorem qd_Ref_variable_0 : decode qc_Ref_variable 0 = .ok (.iload_n 1, 1) := by decide +kernel
theorem qd_Ref_variable_1 : decode qc_Ref_variable 1 = .ok (.invokestatic 128, 3) := by decide +kernel
theorem qd_Ref_variable_4 : decode qc_Ref_variable 4 = .ok (.ifCond .eq 27, 3) := by decide +kernel
theorem qd_Ref_variable_7 : decode qc_Ref_variable 7 = .ok (.iload_n 2, 1) := by decide +kernel
theorem qd_Ref_variable_8 : decode qc_Ref_variable 8 = .ok (.ifCond .lt 23, 3) := by decide +kernel
theorem qd_Ref_variable_11 : decode qc_Ref_variable 11 = .ok (.iload_n 2, 1) := by decide +kernel
theorem qd_Ref_variable_12 : decode qc_Ref_variable 12 = .ok (.bipush 6, 2) := by decide +kernel
theorem qd_Ref_variable_14 : decode qc_Ref_variable 14 = .ok (.if_icmp .gt 17, 3) := by decide +kernel
theorem qd_Ref_variable_17 : decode qc_Ref_variable 17 = .ok (.aload_n 0, 1) := by decide +kernel
theorem qd_Ref_variable_18 : decode qc_Ref_variable 18 = .ok (.getfield 47, 3) := by decide +kernel
theorem qd_Ref_variable_21 : decode qc_Ref_variable 21 = .ok (.bipush 7, 2) := by decide +kernel
theorem qd_Ref_variable_23 : decode qc_Ref_variable 23 = .ok (.iload_n 1, 1) := by decide +kernel
theorem qd_Ref_variable_24 : decode qc_Ref_variable 24 = .ok (.imul, 1) := by decide +kernel
theorem qd_Ref_variable_25 : decode qc_Ref_variable 25 = .ok (.iload_n 2, 1) := by decide +kernel
theorem qd_Ref_variable_26 : decode qc_Ref_variable 26 = .ok (.iadd, 1) := by decide +kernel
theorem qd_Ref_variable_27 : decode qc_Ref_variable 27 = .ok (.iaload, 1) := by decide +kernel
theorem qd_Ref_variable_28 : decode qc_Ref_variable 28 = .ok (.goto 4, 3) := by decide +kernel
theorem qd_Ref_variable_31 : decode qc_Ref_variable 31 = .ok (.iconst (-1), 1) := by decide +kernel
theorem qd_Ref_variable_32 : decode qc_Ref_variable 32 = .ok (.ireturn, 1) := by decide +kernel
abbrev qc_Ref_status : ByteArray := prog_9_method_34_code
abbrev qy_Ref_status : MethodName := ⟨"QuietSweepModel", "status", "(I)I"⟩
abbrev ql_Ref_status : Cond := .code qy_Ref_status qc_Ref_status 2 (some .int)
theorem qd_Ref_status_0 : decode qc_Ref_status 0 = .ok (.iload_n 1, 1) := by decide +kernel
theorem qd_Ref_status_1 : decode qc_Ref_status 1 = .ok (.invokestatic 128, 3) := by decide +kernel
theorem qd_Ref_status_4 : decode qc_Ref_status 4 = .ok (.ifCond .eq 12, 3) := by decide +kernel
theorem qd_Ref_status_7 : decode qc_Ref_status 7 = .ok (.aload_n 0, 1) := by decide +kernel
theorem qd_Ref_status_8 : decode qc_Ref_status 8 = .ok (.getfield 50, 3) := by decide +kernel
theorem qd_Ref_status_11 : decode qc_Ref_status 11 = .ok (.iload_n 1, 1) := by decide +kernel
theorem qd_Ref_status_12 : decode qc_Ref_status 12 = .ok (.iaload, 1) := by decide +kernel
theorem qd_Ref_status_13 : decode qc_Ref_status 13 = .ok (.goto 4, 3) := by decide +kernel
theorem qd_Ref_status_16 : decode qc_Ref_status 16 = .ok (.iconst (-1), 1) := by decide +kernel
theorem qd_Ref_status_17 : decode qc_Ref_status 17 = .ok (.ireturn, 1) := by decide +kernel
abbrev qc_Ref_buffered : ByteArray := prog_9_method_35_code
abbrev qy_Ref_buffered : MethodName := ⟨"QuietSweepModel", "buffered", "(I)I"⟩
abbrev ql_Ref_buffered : Cond := .code qy_Ref_buffered qc_Ref_buffered 2 (some .int)
theorem qd_Ref_buffered_0 : decode qc_Ref_buffered 0 = .ok (.iload_n 1, 1) := by decide +kernel
theorem qd_Ref_buffered_1 : decode qc_Ref_buffered 1 = .ok (.invokestatic 128, 3) := by decide +kernel
theorem qd_Ref_buffered_4 : decode qc_Ref_buffered 4 = .ok (.ifCond .eq 12, 3) := by decide +kernel
theorem qd_Ref_buffered_7 : decode qc_Ref_buffered 7 = .ok (.aload_n 0, 1) := by decide +kernel
theorem qd_Ref_buffered_8 : decode qc_Ref_buffered 8 = .ok (.getfield 56, 3) := by decide +kernel
theorem qd_Ref_buffered_11 : decode qc_Ref_buffered 11 = .ok (.iload_n 1, 1) := by decide +kernel
theorem qd_Ref_buffered_12 : decode qc_Ref_buffered 12 = .ok (.iaload, 1) := by decide +kernel
theorem qd_Ref_buffered_13 : decode qc_Ref_buffered 13 = .ok (.goto 4, 3) := by decide +kernel
theorem qd_Ref_buffered_16 : decode qc_Ref_buffered 16 = .ok (.iconst (-1), 1) := by decide +kernel
theorem qd_Ref_buffered_17 : decode qc_Ref_buffered 17 = .ok (.ireturn, 1) := by decide +kernel
abbrev qc_Ref_stalls : ByteArray := prog_9_method_36_code
abbrev qy_Ref_stalls : MethodName := ⟨"QuietSweepModel", "stalls", "(I)I"⟩
abbrev ql_Ref_stalls : Cond := .code qy_Ref_stalls qc_Ref_stalls 2 (some .int)
theorem qd_Ref_stalls_0 : decode qc_Ref_stalls 0 = .ok (.iload_n 1, 1) := by decide +kernel
theorem qd_Ref_stalls_1 : decode qc_Ref_stalls 1 = .ok (.invokestatic 128, 3) := by decide +kernel
theorem qd_Ref_stalls_4 : decode qc_Ref_stalls 4 = .ok (.ifCond .eq 12, 3) := by decide +kernel
theorem qd_Ref_stalls_7 : decode qc_Ref_stalls 7 = .ok (.aload_n 0, 1) := by decide +kernel
theorem qd_Ref_stalls_8 : decode qc_Ref_stalls 8 = .ok (.getfield 53, 3) := by decide +kernel
theorem qd_Ref_stalls_11 : decode qc_Ref_stalls 11 = .ok (.iload_n 1, 1) := by decide +kernel
theorem qd_Ref_stalls_12 : decode qc_Ref_stalls 12 = .ok (.iaload, 1) := by decide +kernel
theorem qd_Ref_stalls_13 : decode qc_Ref_stalls 13 = .ok (.goto 4, 3) := by decide +kernel
theorem qd_Ref_stalls_16 : decode qc_Ref_stalls 16 = .ok (.iconst (-1), 1) := by decide +kernel
theorem qd_Ref_stalls_17 : decode qc_Ref_stalls 17 = .ok (.ireturn, 1) := by decide +kernel
abbrev qc_Ref_outputs : ByteArray := prog_9_method_37_code
abbrev qy_Ref_outputs : MethodName := ⟨"QuietSweepModel", "outputs", "(I)I"⟩
abbrev ql_Ref_outputs : Cond := .code qy_Ref_outputs qc_Ref_outputs 2 (some .int)
theorem qd_Ref_outputs_0 : decode qc_Ref_outputs 0 = .ok (.iload_n 1, 1) := by decide +kernel
theorem qd_Ref_outputs_1 : decode qc_Ref_outputs 1 = .ok (.invokestatic 128, 3) := by decide +kernel
theorem qd_Ref_outputs_4 : decode qc_Ref_outputs 4 = .ok (.ifCond .eq 12, 3) := by decide +kernel
theorem qd_Ref_outputs_7 : decode qc_Ref_outputs 7 = .ok (.aload_n 0, 1) := by decide +kernel
theorem qd_Ref_outputs_8 : decode qc_Ref_outputs 8 = .ok (.getfield 68, 3) := by decide +kernel
theorem qd_Ref_outputs_11 : decode qc_Ref_outputs 11 = .ok (.iload_n 1, 1) := by decide +kernel
theorem qd_Ref_outputs_12 : decode qc_Ref_outputs 12 = .ok (.iaload, 1) := by decide +kernel
theorem qd_Ref_outputs_13 : decode qc_Ref_outputs 13 = .ok (.goto 4, 3) := by decide +kernel
theorem qd_Ref_outputs_16 : decode qc_Ref_outputs 16 = .ok (.iconst (-1), 1) := by decide +kernel
theorem qd_Ref_outputs_17 : decode qc_Ref_outputs 17 = .ok (.ireturn, 1) := by decide +kernel
abbrev qc_Ref_output : ByteArray := prog_9_method_38_code
abbrev qy_Ref_output : MethodName := ⟨"QuietSweepModel", "output", "(II)I"⟩
abbrev ql_Ref_output : Cond := .code qy_Ref_output qc_Ref_output 3 (some .int)
theorem qd_Ref_output_0 : decode qc_Ref_output 0 = .ok (.iload_n 1, 1) := by decide +kernel
theorem qd_Ref_output_1 : decode qc_Ref_output 1 = .ok (.invokestatic 128, 3) := by decide +kernel
theorem qd_Ref_output_4 : decode qc_Ref_output 4 = .ok (.ifCond .eq 23, 3) := by decide +kernel
theorem qd_Ref_output_7 : decode qc_Ref_output 7 = .ok (.iload_n 2, 1) := by decide +kernel
theorem qd_Ref_output_8 : decode qc_Ref_output 8 = .ok (.ifCond .lt 19, 3) := by decide +kernel
theorem qd_Ref_output_11 : decode qc_Ref_output 11 = .ok (.iload_n 2, 1) := by decide +kernel
theorem qd_Ref_output_12 : decode qc_Ref_output 12 = .ok (.bipush 15, 2) := by decide +kernel
theorem qd_Ref_output_14 : decode qc_Ref_output 14 = .ok (.if_icmp .gt 13, 3) := by decide +kernel
theorem qd_Ref_output_17 : decode qc_Ref_output 17 = .ok (.iload_n 2, 1) := by decide +kernel
theorem qd_Ref_output_18 : decode qc_Ref_output 18 = .ok (.aload_n 0, 1) := by decide +kernel
theorem qd_Ref_output_19 : decode qc_Ref_output 19 = .ok (.getfield 68, 3) := by decide +kernel
theorem qd_Ref_output_22 : decode qc_Ref_output 22 = .ok (.iload_n 1, 1) := by decide +kernel
theorem qd_Ref_output_23 : decode qc_Ref_output 23 = .ok (.iaload, 1) := by decide +kernel
theorem qd_Ref_output_24 : decode qc_Ref_output 24 = .ok (.if_icmp .lt 5, 3) := by decide +kernel
theorem qd_Ref_output_27 : decode qc_Ref_output 27 = .ok (.iconst 0, 1) := by decide +kernel
theorem qd_Ref_output_28 : decode qc_Ref_output 28 = .ok (.ireturn, 1) := by decide +kernel
theorem qd_Ref_output_29 : decode qc_Ref_output 29 = .ok (.aload_n 0, 1) := by decide +kernel
theorem qd_Ref_output_30 : decode qc_Ref_output 30 = .ok (.getfield 71, 3) := by decide +kernel
theorem qd_Ref_output_33 : decode qc_Ref_output 33 = .ok (.bipush 16, 2) := by decide +kernel
theorem qd_Ref_output_35 : decode qc_Ref_output 35 = .ok (.iload_n 1, 1) := by decide +kernel
theorem qd_Ref_output_36 : decode qc_Ref_output 36 = .ok (.imul, 1) := by decide +kernel
theorem qd_Ref_output_37 : decode qc_Ref_output 37 = .ok (.aload_n 0, 1) := by decide +kernel
theorem qd_Ref_output_38 : decode qc_Ref_output 38 = .ok (.getfield 68, 3) := by decide +kernel
theorem qd_Ref_output_41 : decode qc_Ref_output 41 = .ok (.iload_n 1, 1) := by decide +kernel
theorem qd_Ref_output_42 : decode qc_Ref_output 42 = .ok (.iaload, 1) := by decide +kernel
theorem qd_Ref_output_43 : decode qc_Ref_output 43 = .ok (.iconst 1, 1) := by decide +kernel
theorem qd_Ref_output_44 : decode qc_Ref_output 44 = .ok (.isub, 1) := by decide +kernel
theorem qd_Ref_output_45 : decode qc_Ref_output 45 = .ok (.iload_n 2, 1) := by decide +kernel
theorem qd_Ref_output_46 : decode qc_Ref_output 46 = .ok (.isub, 1) := by decide +kernel
theorem qd_Ref_output_47 : decode qc_Ref_output 47 = .ok (.bipush 15, 2) := by decide +kernel
theorem qd_Ref_output_49 : decode qc_Ref_output 49 = .ok (.iand, 1) := by decide +kernel
theorem qd_Ref_output_50 : decode qc_Ref_output 50 = .ok (.iadd, 1) := by decide +kernel
theorem qd_Ref_output_51 : decode qc_Ref_output 51 = .ok (.iaload, 1) := by decide +kernel
theorem qd_Ref_output_52 : decode qc_Ref_output 52 = .ok (.ireturn, 1) := by decide +kernel
abbrev qc_Ref_colour : ByteArray := prog_9_method_40_code
abbrev qy_Ref_colour : MethodName := ⟨"QuietSweepModel", "colour", "(I)I"⟩
abbrev ql_Ref_colour : Cond := .code qy_Ref_colour qc_Ref_colour 2 (some .int)
theorem qd_Ref_colour_0 : decode qc_Ref_colour 0 = .ok (.aload_n 0, 1) := by decide +kernel
theorem qd_Ref_colour_1 : decode qc_Ref_colour 1 = .ok (.iload_n 1, 1) := by decide +kernel
theorem qd_Ref_colour_2 : decode qc_Ref_colour 2 = .ok (.invokevirtual 192, 3) := by decide +kernel
theorem qd_Ref_colour_5 : decode qc_Ref_colour 5 = .ok (.ifCond .eq 12, 3) := by decide +kernel
theorem qd_Ref_colour_8 : decode qc_Ref_colour 8 = .ok (.aload_n 0, 1) := by decide +kernel
theorem qd_Ref_colour_9 : decode qc_Ref_colour 9 = .ok (.getfield 74, 3) := by decide +kernel
theorem qd_Ref_colour_12 : decode qc_Ref_colour 12 = .ok (.iload_n 1, 1) := by decide +kernel
theorem qd_Ref_colour_13 : decode qc_Ref_colour 13 = .ok (.iaload, 1) := by decide +kernel
theorem qd_Ref_colour_14 : decode qc_Ref_colour 14 = .ok (.goto 4, 3) := by decide +kernel
theorem qd_Ref_colour_17 : decode qc_Ref_colour 17 = .ok (.iconst (-1), 1) := by decide +kernel
theorem qd_Ref_colour_18 : decode qc_Ref_colour 18 = .ok (.ireturn, 1) := by decide +kernel
abbrev qc_Ref_isCell : ByteArray := prog_9_method_39_code
abbrev qy_Ref_isCell : MethodName := ⟨"QuietSweepModel", "isCell", "(I)Z"⟩
abbrev ql_Ref_isCell : Cond := .code qy_Ref_isCell qc_Ref_isCell 2 (some .boolean)
theorem qd_Ref_isCell_0 : decode qc_Ref_isCell 0 = .ok (.iload_n 1, 1) := by decide +kernel
theorem qd_Ref_isCell_1 : decode qc_Ref_isCell 1 = .ok (.ifCond .lt 15, 3) := by decide +kernel
theorem qd_Ref_isCell_4 : decode qc_Ref_isCell 4 = .ok (.iload_n 1, 1) := by decide +kernel
theorem qd_Ref_isCell_5 : decode qc_Ref_isCell 5 = .ok (.aload_n 0, 1) := by decide +kernel
theorem qd_Ref_isCell_6 : decode qc_Ref_isCell 6 = .ok (.getfield 88, 3) := by decide +kernel
theorem qd_Ref_isCell_9 : decode qc_Ref_isCell 9 = .ok (.if_icmp .ge 7, 3) := by decide +kernel
theorem qd_Ref_isCell_12 : decode qc_Ref_isCell 12 = .ok (.iconst 1, 1) := by decide +kernel
theorem qd_Ref_isCell_13 : decode qc_Ref_isCell 13 = .ok (.goto 4, 3) := by decide +kernel
theorem qd_Ref_isCell_16 : decode qc_Ref_isCell 16 = .ok (.iconst 0, 1) := by decide +kernel
theorem qd_Ref_isCell_17 : decode qc_Ref_isCell 17 = .ok (.ireturn, 1) := by decide +kernel
abbrev qc_Ref_field : ByteArray := prog_9_method_41_code
abbrev qy_Ref_field : MethodName := ⟨"QuietSweepModel", "field", "(II)I"⟩
abbrev ql_Ref_field : Cond := .code qy_Ref_field qc_Ref_field 3 (some .int)
theorem qd_Ref_field_0 : decode qc_Ref_field 0 = .ok (.aload_n 0, 1) := by decide +kernel
theorem qd_Ref_field_1 : decode qc_Ref_field 1 = .ok (.iload_n 1, 1) := by decide +kernel
theorem qd_Ref_field_2 : decode qc_Ref_field 2 = .ok (.invokevirtual 192, 3) := by decide +kernel
theorem qd_Ref_field_5 : decode qc_Ref_field 5 = .ok (.ifCond .eq 25, 3) := by decide +kernel
theorem qd_Ref_field_8 : decode qc_Ref_field 8 = .ok (.iload_n 2, 1) := by decide +kernel
theorem qd_Ref_field_9 : decode qc_Ref_field 9 = .ok (.ifCond .lt 21, 3) := by decide +kernel
theorem qd_Ref_field_12 : decode qc_Ref_field 12 = .ok (.iload_n 2, 1) := by decide +kernel
theorem qd_Ref_field_13 : decode qc_Ref_field 13 = .ok (.iconst 2, 1) := by decide +kernel
theorem qd_Ref_field_14 : decode qc_Ref_field 14 = .ok (.if_icmp .gt 16, 3) := by decide +kernel
theorem qd_Ref_field_17 : decode qc_Ref_field 17 = .ok (.aload_n 0, 1) := by decide +kernel
theorem qd_Ref_field_18 : decode qc_Ref_field 18 = .ok (.getfield 77, 3) := by decide +kernel
theorem qd_Ref_field_21 : decode qc_Ref_field 21 = .ok (.iconst 3, 1) := by decide +kernel
theorem qd_Ref_field_22 : decode qc_Ref_field 22 = .ok (.iload_n 1, 1) := by decide +kernel
theorem qd_Ref_field_23 : decode qc_Ref_field 23 = .ok (.imul, 1) := by decide +kernel
theorem qd_Ref_field_24 : decode qc_Ref_field 24 = .ok (.iload_n 2, 1) := by decide +kernel
theorem qd_Ref_field_25 : decode qc_Ref_field 25 = .ok (.iadd, 1) := by decide +kernel
theorem qd_Ref_field_26 : decode qc_Ref_field 26 = .ok (.iaload, 1) := by decide +kernel
theorem qd_Ref_field_27 : decode qc_Ref_field 27 = .ok (.goto 4, 3) := by decide +kernel
theorem qd_Ref_field_30 : decode qc_Ref_field 30 = .ok (.iconst (-1), 1) := by decide +kernel
theorem qd_Ref_field_31 : decode qc_Ref_field 31 = .ok (.ireturn, 1) := by decide +kernel
abbrev qc_Ref_seen : ByteArray := prog_9_method_42_code
abbrev qy_Ref_seen : MethodName := ⟨"QuietSweepModel", "seen", "(III)I"⟩
abbrev ql_Ref_seen : Cond := .code qy_Ref_seen qc_Ref_seen 4 (some .int)
theorem qd_Ref_seen_0 : decode qc_Ref_seen 0 = .ok (.iload_n 1, 1) := by decide +kernel
theorem qd_Ref_seen_1 : decode qc_Ref_seen 1 = .ok (.invokestatic 128, 3) := by decide +kernel
theorem qd_Ref_seen_4 : decode qc_Ref_seen 4 = .ok (.ifCond .eq 30, 3) := by decide +kernel
theorem qd_Ref_seen_7 : decode qc_Ref_seen 7 = .ok (.aload_n 0, 1) := by decide +kernel
theorem qd_Ref_seen_8 : decode qc_Ref_seen 8 = .ok (.iload_n 2, 1) := by decide +kernel
theorem qd_Ref_seen_9 : decode qc_Ref_seen 9 = .ok (.invokevirtual 192, 3) := by decide +kernel
theorem qd_Ref_seen_12 : decode qc_Ref_seen 12 = .ok (.ifCond .eq 22, 3) := by decide +kernel
theorem qd_Ref_seen_15 : decode qc_Ref_seen 15 = .ok (.iload_n 3, 1) := by decide +kernel
theorem qd_Ref_seen_16 : decode qc_Ref_seen 16 = .ok (.ifCond .lt 18, 3) := by decide +kernel
theorem qd_Ref_seen_19 : decode qc_Ref_seen 19 = .ok (.iload_n 3, 1) := by decide +kernel
theorem qd_Ref_seen_20 : decode qc_Ref_seen 20 = .ok (.iconst 2, 1) := by decide +kernel
theorem qd_Ref_seen_21 : decode qc_Ref_seen 21 = .ok (.if_icmp .gt 13, 3) := by decide +kernel
theorem qd_Ref_seen_24 : decode qc_Ref_seen 24 = .ok (.aload_n 0, 1) := by decide +kernel
theorem qd_Ref_seen_25 : decode qc_Ref_seen 25 = .ok (.iload_n 1, 1) := by decide +kernel
theorem qd_Ref_seen_26 : decode qc_Ref_seen 26 = .ok (.iload_n 2, 1) := by decide +kernel
theorem qd_Ref_seen_27 : decode qc_Ref_seen 27 = .ok (.iload_n 3, 1) := by decide +kernel
theorem qd_Ref_seen_28 : decode qc_Ref_seen 28 = .ok (.invokevirtual 144, 3) := by decide +kernel
theorem qd_Ref_seen_31 : decode qc_Ref_seen 31 = .ok (.goto 4, 3) := by decide +kernel
theorem qd_Ref_seen_34 : decode qc_Ref_seen 34 = .ok (.iconst (-1), 1) := by decide +kernel
theorem qd_Ref_seen_35 : decode qc_Ref_seen 35 = .ok (.ireturn, 1) := by decide +kernel
abbrev qc_Ref_phase : ByteArray := prog_9_method_43_code
abbrev qy_Ref_phase : MethodName := ⟨"QuietSweepModel", "phase", "()I"⟩
abbrev ql_Ref_phase : Cond := .code qy_Ref_phase qc_Ref_phase 1 (some .int)
theorem qd_Ref_phase_0 : decode qc_Ref_phase 0 = .ok (.aload_n 0, 1) := by decide +kernel
theorem qd_Ref_phase_1 : decode qc_Ref_phase 1 = .ok (.getfield 158, 3) := by decide +kernel
theorem qd_Ref_phase_4 : decode qc_Ref_phase 4 = .ok (.ireturn, 1) := by decide +kernel
abbrev qc_Ref_cycles : ByteArray := prog_9_method_44_code
abbrev qy_Ref_cycles : MethodName := ⟨"QuietSweepModel", "cycles", "()I"⟩
abbrev ql_Ref_cycles : Cond := .code qy_Ref_cycles qc_Ref_cycles 1 (some .int)
theorem qd_Ref_cycles_0 : decode qc_Ref_cycles 0 = .ok (.aload_n 0, 1) := by decide +kernel
theorem qd_Ref_cycles_1 : decode qc_Ref_cycles 1 = .ok (.getfield 168, 3) := by decide +kernel
theorem qd_Ref_cycles_4 : decode qc_Ref_cycles 4 = .ok (.ireturn, 1) := by decide +kernel
abbrev qc_Ref_free : ByteArray := prog_9_method_45_code
abbrev qy_Ref_free : MethodName := ⟨"QuietSweepModel", "free", "()I"⟩
abbrev ql_Ref_free : Cond := .code qy_Ref_free qc_Ref_free 3 (some .int)
theorem qd_Ref_free_0 : decode qc_Ref_free 0 = .ok (.iconst 0, 1) := by decide +kernel
theorem qd_Ref_free_1 : decode qc_Ref_free 1 = .ok (.istore_n 1, 1) := by decide +kernel
theorem qd_Ref_free_2 : decode qc_Ref_free 2 = .ok (.iconst 0, 1) := by decide +kernel
theorem qd_Ref_free_3 : decode qc_Ref_free 3 = .ok (.istore_n 2, 1) := by decide +kernel
theorem qd_Ref_free_4 : decode qc_Ref_free 4 = .ok (.iload_n 2, 1) := by decide +kernel
theorem qd_Ref_free_5 : decode qc_Ref_free 5 = .ok (.aload_n 0, 1) := by decide +kernel
theorem qd_Ref_free_6 : decode qc_Ref_free 6 = .ok (.getfield 88, 3) := by decide +kernel
theorem qd_Ref_free_9 : decode qc_Ref_free 9 = .ok (.if_icmp .ge 26, 3) := by decide +kernel
theorem qd_Ref_free_12 : decode qc_Ref_free 12 = .ok (.aload_n 0, 1) := by decide +kernel
theorem qd_Ref_free_13 : decode qc_Ref_free 13 = .ok (.getfield 74, 3) := by decide +kernel
theorem qd_Ref_free_16 : decode qc_Ref_free 16 = .ok (.iload_n 2, 1) := by decide +kernel
theorem qd_Ref_free_17 : decode qc_Ref_free 17 = .ok (.iaload, 1) := by decide +kernel
theorem qd_Ref_free_18 : decode qc_Ref_free 18 = .ok (.ifCond .ne 9, 3) := by decide +kernel
theorem qd_Ref_free_21 : decode qc_Ref_free 21 = .ok (.iload_n 1, 1) := by decide +kernel
theorem qd_Ref_free_22 : decode qc_Ref_free 22 = .ok (.iconst 1, 1) := by decide +kernel
theorem qd_Ref_free_23 : decode qc_Ref_free 23 = .ok (.iadd, 1) := by decide +kernel
theorem qd_Ref_free_24 : decode qc_Ref_free 24 = .ok (.goto 4, 3) := by decide +kernel
theorem qd_Ref_free_27 : decode qc_Ref_free 27 = .ok (.iload_n 1, 1) := by decide +kernel
theorem qd_Ref_free_28 : decode qc_Ref_free 28 = .ok (.istore_n 1, 1) := by decide +kernel
theorem qd_Ref_free_29 : decode qc_Ref_free 29 = .ok (.iinc 2 1, 3) := by decide +kernel
theorem qd_Ref_free_32 : decode qc_Ref_free 32 = .ok (.goto (-28), 3) := by decide +kernel
theorem qd_Ref_free_35 : decode qc_Ref_free 35 = .ok (.iload_n 1, 1) := by decide +kernel
theorem qd_Ref_free_36 : decode qc_Ref_free 36 = .ok (.ireturn, 1) := by decide +kernel
abbrev qc_Ref_reached : ByteArray := prog_9_method_46_code
abbrev qy_Ref_reached : MethodName := ⟨"QuietSweepModel", "reached", "()I"⟩
abbrev ql_Ref_reached : Cond := .code qy_Ref_reached qc_Ref_reached 3 (some .int)
theorem qd_Ref_reached_0 : decode qc_Ref_reached 0 = .ok (.aload_n 0, 1) := by decide +kernel
theorem qd_Ref_reached_1 : decode qc_Ref_reached 1 = .ok (.invokevirtual 195, 3) := by decide +kernel
theorem qd_Ref_reached_4 : decode qc_Ref_reached 4 = .ok (.iconst 0, 1) := by decide +kernel
theorem qd_Ref_reached_5 : decode qc_Ref_reached 5 = .ok (.istore_n 1, 1) := by decide +kernel
theorem qd_Ref_reached_6 : decode qc_Ref_reached 6 = .ok (.iconst 0, 1) := by decide +kernel
theorem qd_Ref_reached_7 : decode qc_Ref_reached 7 = .ok (.istore_n 2, 1) := by decide +kernel
theorem qd_Ref_reached_8 : decode qc_Ref_reached 8 = .ok (.iload_n 2, 1) := by decide +kernel
theorem qd_Ref_reached_9 : decode qc_Ref_reached 9 = .ok (.aload_n 0, 1) := by decide +kernel
theorem qd_Ref_reached_10 : decode qc_Ref_reached 10 = .ok (.getfield 88, 3) := by decide +kernel
theorem qd_Ref_reached_13 : decode qc_Ref_reached 13 = .ok (.if_icmp .ge 26, 3) := by decide +kernel
theorem qd_Ref_reached_16 : decode qc_Ref_reached 16 = .ok (.aload_n 0, 1) := by decide +kernel
theorem qd_Ref_reached_17 : decode qc_Ref_reached 17 = .ok (.getfield 84, 3) := by decide +kernel
theorem qd_Ref_reached_20 : decode qc_Ref_reached 20 = .ok (.iload_n 2, 1) := by decide +kernel
theorem qd_Ref_reached_21 : decode qc_Ref_reached 21 = .ok (.baload, 1) := by decide +kernel
theorem qd_Ref_reached_22 : decode qc_Ref_reached 22 = .ok (.ifCond .eq 9, 3) := by decide +kernel
theorem qd_Ref_reached_25 : decode qc_Ref_reached 25 = .ok (.iload_n 1, 1) := by decide +kernel
theorem qd_Ref_reached_26 : decode qc_Ref_reached 26 = .ok (.iconst 1, 1) := by decide +kernel
theorem qd_Ref_reached_27 : decode qc_Ref_reached 27 = .ok (.iadd, 1) := by decide +kernel
theorem qd_Ref_reached_28 : decode qc_Ref_reached 28 = .ok (.goto 4, 3) := by decide +kernel
theorem qd_Ref_reached_31 : decode qc_Ref_reached 31 = .ok (.iload_n 1, 1) := by decide +kernel
theorem qd_Ref_reached_32 : decode qc_Ref_reached 32 = .ok (.istore_n 1, 1) := by decide +kernel
theorem qd_Ref_reached_33 : decode qc_Ref_reached 33 = .ok (.iinc 2 1, 3) := by decide +kernel
theorem qd_Ref_reached_36 : decode qc_Ref_reached 36 = .ok (.goto (-28), 3) := by decide +kernel
theorem qd_Ref_reached_39 : decode qc_Ref_reached 39 = .ok (.iload_n 1, 1) := by decide +kernel
theorem qd_Ref_reached_40 : decode qc_Ref_reached 40 = .ok (.ireturn, 1) := by decide +kernel
abbrev qc_Ref_reach : ByteArray := prog_9_method_31_code
abbrev qy_Ref_reach : MethodName := ⟨"QuietSweepModel", "reach", "()V"⟩
abbrev ql_Ref_reach : Cond := .code qy_Ref_reach qc_Ref_reach 3 none
theorem qd_Ref_reach_0 : decode qc_Ref_reach 0 = .ok (.iconst 0, 1) := by decide +kernel
theorem qd_Ref_reach_1 : decode qc_Ref_reach 1 = .ok (.istore_n 1, 1) := by decide +kernel
theorem qd_Ref_reach_2 : decode qc_Ref_reach 2 = .ok (.iload_n 1, 1) := by decide +kernel
theorem qd_Ref_reach_3 : decode qc_Ref_reach 3 = .ok (.bipush 11, 2) := by decide +kernel
theorem qd_Ref_reach_5 : decode qc_Ref_reach 5 = .ok (.if_icmp .ge 16, 3) := by decide +kernel
theorem qd_Ref_reach_8 : decode qc_Ref_reach 8 = .ok (.aload_n 0, 1) := by decide +kernel
theorem qd_Ref_reach_9 : decode qc_Ref_reach 9 = .ok (.getfield 84, 3) := by decide +kernel
theorem qd_Ref_reach_12 : decode qc_Ref_reach 12 = .ok (.iload_n 1, 1) := by decide +kernel
theorem qd_Ref_reach_13 : decode qc_Ref_reach 13 = .ok (.iconst 0, 1) := by decide +kernel
theorem qd_Ref_reach_14 : decode qc_Ref_reach 14 = .ok (.bastore, 1) := by decide +kernel
theorem qd_Ref_reach_15 : decode qc_Ref_reach 15 = .ok (.iinc 1 1, 3) := by decide +kernel
theorem qd_Ref_reach_18 : decode qc_Ref_reach 18 = .ok (.goto (-16), 3) := by decide +kernel
theorem qd_Ref_reach_21 : decode qc_Ref_reach 21 = .ok (.iconst 0, 1) := by decide +kernel
theorem qd_Ref_reach_22 : decode qc_Ref_reach 22 = .ok (.istore_n 1, 1) := by decide +kernel
theorem qd_Ref_reach_23 : decode qc_Ref_reach 23 = .ok (.iload_n 1, 1) := by decide +kernel
theorem qd_Ref_reach_24 : decode qc_Ref_reach 24 = .ok (.iconst 2, 1) := by decide +kernel
theorem qd_Ref_reach_25 : decode qc_Ref_reach 25 = .ok (.if_icmp .ge 101, 3) := by decide +kernel
theorem qd_Ref_reach_28 : decode qc_Ref_reach 28 = .ok (.iconst 0, 1) := by decide +kernel
theorem qd_Ref_reach_29 : decode qc_Ref_reach 29 = .ok (.istore_n 2, 1) := by decide +kernel
theorem qd_Ref_reach_30 : decode qc_Ref_reach 30 = .ok (.iload_n 2, 1) := by decide +kernel
theorem qd_Ref_reach_31 : decode qc_Ref_reach 31 = .ok (.iconst 4, 1) := by decide +kernel
theorem qd_Ref_reach_32 : decode qc_Ref_reach 32 = .ok (.if_icmp .ge 24, 3) := by decide +kernel
theorem qd_Ref_reach_35 : decode qc_Ref_reach 35 = .ok (.aload_n 0, 1) := by decide +kernel
theorem qd_Ref_reach_36 : decode qc_Ref_reach 36 = .ok (.aload_n 0, 1) := by decide +kernel
theorem qd_Ref_reach_37 : decode qc_Ref_reach 37 = .ok (.getfield 47, 3) := by decide +kernel
theorem qd_Ref_reach_40 : decode qc_Ref_reach 40 = .ok (.bipush 7, 2) := by decide +kernel
theorem qd_Ref_reach_42 : decode qc_Ref_reach 42 = .ok (.iload_n 1, 1) := by decide +kernel
theorem qd_Ref_reach_43 : decode qc_Ref_reach 43 = .ok (.imul, 1) := by decide +kernel
theorem qd_Ref_reach_44 : decode qc_Ref_reach 44 = .ok (.iload_n 2, 1) := by decide +kernel
theorem qd_Ref_reach_45 : decode qc_Ref_reach 45 = .ok (.iadd, 1) := by decide +kernel
theorem qd_Ref_reach_46 : decode qc_Ref_reach 46 = .ok (.iaload, 1) := by decide +kernel
theorem qd_Ref_reach_47 : decode qc_Ref_reach 47 = .ok (.invokevirtual 189, 3) := by decide +kernel
theorem qd_Ref_reach_50 : decode qc_Ref_reach 50 = .ok (.iinc 2 1, 3) := by decide +kernel
theorem qd_Ref_reach_53 : decode qc_Ref_reach 53 = .ok (.goto (-23), 3) := by decide +kernel
theorem qd_Ref_reach_56 : decode qc_Ref_reach 56 = .ok (.iconst 0, 1) := by decide +kernel
theorem qd_Ref_reach_57 : decode qc_Ref_reach 57 = .ok (.istore_n 2, 1) := by decide +kernel
theorem qd_Ref_reach_58 : decode qc_Ref_reach 58 = .ok (.iload_n 2, 1) := by decide +kernel
theorem qd_Ref_reach_59 : decode qc_Ref_reach 59 = .ok (.aload_n 0, 1) := by decide +kernel
theorem qd_Ref_reach_60 : decode qc_Ref_reach 60 = .ok (.getfield 56, 3) := by decide +kernel
theorem qd_Ref_reach_63 : decode qc_Ref_reach 63 = .ok (.iload_n 1, 1) := by decide +kernel
theorem qd_Ref_reach_64 : decode qc_Ref_reach 64 = .ok (.iaload, 1) := by decide +kernel
theorem qd_Ref_reach_65 : decode qc_Ref_reach 65 = .ok (.if_icmp .ge 55, 3) := by decide +kernel
theorem qd_Ref_reach_68 : decode qc_Ref_reach 68 = .ok (.aload_n 0, 1) := by decide +kernel
theorem qd_Ref_reach_69 : decode qc_Ref_reach 69 = .ok (.aload_n 0, 1) := by decide +kernel
theorem qd_Ref_reach_70 : decode qc_Ref_reach 70 = .ok (.getfield 59, 3) := by decide +kernel
theorem qd_Ref_reach_73 : decode qc_Ref_reach 73 = .ok (.iconst 3, 1) := by decide +kernel
theorem qd_Ref_reach_74 : decode qc_Ref_reach 74 = .ok (.iload_n 1, 1) := by decide +kernel
theorem qd_Ref_reach_75 : decode qc_Ref_reach 75 = .ok (.imul, 1) := by decide +kernel
theorem qd_Ref_reach_76 : decode qc_Ref_reach 76 = .ok (.iload_n 2, 1) := by decide +kernel
theorem qd_Ref_reach_77 : decode qc_Ref_reach 77 = .ok (.iadd, 1) := by decide +kernel
theorem qd_Ref_reach_78 : decode qc_Ref_reach 78 = .ok (.iaload, 1) := by decide +kernel
theorem qd_Ref_reach_79 : decode qc_Ref_reach 79 = .ok (.invokevirtual 189, 3) := by decide +kernel
theorem qd_Ref_reach_82 : decode qc_Ref_reach 82 = .ok (.aload_n 0, 1) := by decide +kernel
theorem qd_Ref_reach_83 : decode qc_Ref_reach 83 = .ok (.aload_n 0, 1) := by decide +kernel
theorem qd_Ref_reach_84 : decode qc_Ref_reach 84 = .ok (.getfield 62, 3) := by decide +kernel
theorem qd_Ref_reach_87 : decode qc_Ref_reach 87 = .ok (.iconst 3, 1) := by decide +kernel
theorem qd_Ref_reach_88 : decode qc_Ref_reach 88 = .ok (.iload_n 1, 1) := by decide +kernel
theorem qd_Ref_reach_89 : decode qc_Ref_reach 89 = .ok (.imul, 1) := by decide +kernel
theorem qd_Ref_reach_90 : decode qc_Ref_reach 90 = .ok (.iload_n 2, 1) := by decide +kernel
theorem qd_Ref_reach_91 : decode qc_Ref_reach 91 = .ok (.iadd, 1) := by decide +kernel
theorem qd_Ref_reach_92 : decode qc_Ref_reach 92 = .ok (.iaload, 1) := by decide +kernel
theorem qd_Ref_reach_93 : decode qc_Ref_reach 93 = .ok (.iconst 2, 1) := by decide +kernel
theorem qd_Ref_reach_94 : decode qc_Ref_reach 94 = .ok (.if_icmp .ge 16, 3) := by decide +kernel
theorem qd_Ref_reach_97 : decode qc_Ref_reach 97 = .ok (.aload_n 0, 1) := by decide +kernel
theorem qd_Ref_reach_98 : decode qc_Ref_reach 98 = .ok (.getfield 65, 3) := by decide +kernel
theorem qd_Ref_reach_101 : decode qc_Ref_reach 101 = .ok (.iconst 3, 1) := by decide +kernel
theorem qd_Ref_reach_102 : decode qc_Ref_reach 102 = .ok (.iload_n 1, 1) := by decide +kernel
theorem qd_Ref_reach_103 : decode qc_Ref_reach 103 = .ok (.imul, 1) := by decide +kernel
theorem qd_Ref_reach_104 : decode qc_Ref_reach 104 = .ok (.iload_n 2, 1) := by decide +kernel
theorem qd_Ref_reach_105 : decode qc_Ref_reach 105 = .ok (.iadd, 1) := by decide +kernel
theorem qd_Ref_reach_106 : decode qc_Ref_reach 106 = .ok (.iaload, 1) := by decide +kernel
theorem qd_Ref_reach_107 : decode qc_Ref_reach 107 = .ok (.goto 4, 3) := by decide +kernel
theorem qd_Ref_reach_110 : decode qc_Ref_reach 110 = .ok (.iconst (-1), 1) := by decide +kernel
theorem qd_Ref_reach_111 : decode qc_Ref_reach 111 = .ok (.invokevirtual 189, 3) := by decide +kernel
theorem qd_Ref_reach_114 : decode qc_Ref_reach 114 = .ok (.iinc 2 1, 3) := by decide +kernel
theorem qd_Ref_reach_117 : decode qc_Ref_reach 117 = .ok (.goto (-59), 3) := by decide +kernel
theorem qd_Ref_reach_120 : decode qc_Ref_reach 120 = .ok (.iinc 1 1, 3) := by decide +kernel
theorem qd_Ref_reach_123 : decode qc_Ref_reach 123 = .ok (.goto (-100), 3) := by decide +kernel
theorem qd_Ref_reach_126 : decode qc_Ref_reach 126 = .ok (.iconst 0, 1) := by decide +kernel
theorem qd_Ref_reach_127 : decode qc_Ref_reach 127 = .ok (.istore_n 1, 1) := by decide +kernel
theorem qd_Ref_reach_128 : decode qc_Ref_reach 128 = .ok (.iload_n 1, 1) := by decide +kernel
theorem qd_Ref_reach_129 : decode qc_Ref_reach 129 = .ok (.aload_n 0, 1) := by decide +kernel
theorem qd_Ref_reach_130 : decode qc_Ref_reach 130 = .ok (.getfield 88, 3) := by decide +kernel
theorem qd_Ref_reach_133 : decode qc_Ref_reach 133 = .ok (.if_icmp .ge 60, 3) := by decide +kernel
theorem qd_Ref_reach_136 : decode qc_Ref_reach 136 = .ok (.iconst 0, 1) := by decide +kernel
theorem qd_Ref_reach_137 : decode qc_Ref_reach 137 = .ok (.istore_n 2, 1) := by decide +kernel
theorem qd_Ref_reach_138 : decode qc_Ref_reach 138 = .ok (.iload_n 2, 1) := by decide +kernel
theorem qd_Ref_reach_139 : decode qc_Ref_reach 139 = .ok (.aload_n 0, 1) := by decide +kernel
theorem qd_Ref_reach_140 : decode qc_Ref_reach 140 = .ok (.getfield 88, 3) := by decide +kernel
theorem qd_Ref_reach_143 : decode qc_Ref_reach 143 = .ok (.if_icmp .ge 44, 3) := by decide +kernel
theorem qd_Ref_reach_146 : decode qc_Ref_reach 146 = .ok (.aload_n 0, 1) := by decide +kernel
theorem qd_Ref_reach_147 : decode qc_Ref_reach 147 = .ok (.getfield 84, 3) := by decide +kernel
theorem qd_Ref_reach_150 : decode qc_Ref_reach 150 = .ok (.iload_n 2, 1) := by decide +kernel
theorem qd_Ref_reach_151 : decode qc_Ref_reach 151 = .ok (.baload, 1) := by decide +kernel
theorem qd_Ref_reach_152 : decode qc_Ref_reach 152 = .ok (.ifCond .eq 29, 3) := by decide +kernel
theorem qd_Ref_reach_155 : decode qc_Ref_reach 155 = .ok (.aload_n 0, 1) := by decide +kernel
theorem qd_Ref_reach_156 : decode qc_Ref_reach 156 = .ok (.aload_n 0, 1) := by decide +kernel
theorem qd_Ref_reach_157 : decode qc_Ref_reach 157 = .ok (.getfield 77, 3) := by decide +kernel
theorem qd_Ref_reach_160 : decode qc_Ref_reach 160 = .ok (.iconst 3, 1) := by decide +kernel
theorem qd_Ref_reach_161 : decode qc_Ref_reach 161 = .ok (.iload_n 2, 1) := by decide +kernel
theorem qd_Ref_reach_162 : decode qc_Ref_reach 162 = .ok (.imul, 1) := by decide +kernel
theorem qd_Ref_reach_163 : decode qc_Ref_reach 163 = .ok (.iaload, 1) := by decide +kernel
theorem qd_Ref_reach_164 : decode qc_Ref_reach 164 = .ok (.invokevirtual 189, 3) := by decide +kernel
theorem qd_Ref_reach_167 : decode qc_Ref_reach 167 = .ok (.aload_n 0, 1) := by decide +kernel
theorem qd_Ref_reach_168 : decode qc_Ref_reach 168 = .ok (.aload_n 0, 1) := by decide +kernel
theorem qd_Ref_reach_169 : decode qc_Ref_reach 169 = .ok (.getfield 77, 3) := by decide +kernel
theorem qd_Ref_reach_172 : decode qc_Ref_reach 172 = .ok (.iconst 3, 1) := by decide +kernel
theorem qd_Ref_reach_173 : decode qc_Ref_reach 173 = .ok (.iload_n 2, 1) := by decide +kernel
theorem qd_Ref_reach_174 : decode qc_Ref_reach 174 = .ok (.imul, 1) := by decide +kernel
theorem qd_Ref_reach_175 : decode qc_Ref_reach 175 = .ok (.iconst 1, 1) := by decide +kernel
theorem qd_Ref_reach_176 : decode qc_Ref_reach 176 = .ok (.iadd, 1) := by decide +kernel
theorem qd_Ref_reach_177 : decode qc_Ref_reach 177 = .ok (.iaload, 1) := by decide +kernel
theorem qd_Ref_reach_178 : decode qc_Ref_reach 178 = .ok (.invokevirtual 189, 3) := by decide +kernel
theorem qd_Ref_reach_181 : decode qc_Ref_reach 181 = .ok (.iinc 2 1, 3) := by decide +kernel
theorem qd_Ref_reach_184 : decode qc_Ref_reach 184 = .ok (.goto (-46), 3) := by decide +kernel
theorem qd_Ref_reach_187 : decode qc_Ref_reach 187 = .ok (.iinc 1 1, 3) := by decide +kernel
theorem qd_Ref_reach_190 : decode qc_Ref_reach 190 = .ok (.goto (-62), 3) := by decide +kernel
theorem qd_Ref_reach_193 : decode qc_Ref_reach 193 = .ok (.return_, 1) := by decide +kernel
abbrev qc_Ref_hold : ByteArray := prog_9_method_30_code
abbrev qy_Ref_hold : MethodName := ⟨"QuietSweepModel", "hold", "(I)V"⟩
abbrev ql_Ref_hold : Cond := .code qy_Ref_hold qc_Ref_hold 2 none
theorem qd_Ref_hold_0 : decode qc_Ref_hold 0 = .ok (.iload_n 1, 1) := by decide +kernel
theorem qd_Ref_hold_1 : decode qc_Ref_hold 1 = .ok (.ifCond .lt 10, 3) := by decide +kernel
theorem qd_Ref_hold_4 : decode qc_Ref_hold 4 = .ok (.aload_n 0, 1) := by decide +kernel
theorem qd_Ref_hold_5 : decode qc_Ref_hold 5 = .ok (.getfield 84, 3) := by decide +kernel
theorem qd_Ref_hold_8 : decode qc_Ref_hold 8 = .ok (.iload_n 1, 1) := by decide +kernel
theorem qd_Ref_hold_9 : decode qc_Ref_hold 9 = .ok (.iconst 1, 1) := by decide +kernel
theorem qd_Ref_hold_10 : decode qc_Ref_hold 10 = .ok (.bastore, 1) := by decide +kernel
theorem qd_Ref_hold_11 : decode qc_Ref_hold 11 = .ok (.return_, 1) := by decide +kernel
abbrev qc_Ref_reaches : ByteArray := prog_9_method_47_code
abbrev qy_Ref_reaches : MethodName := ⟨"QuietSweepModel", "reaches", "(I)Z"⟩
abbrev ql_Ref_reaches : Cond := .code qy_Ref_reaches qc_Ref_reaches 2 (some .boolean)
theorem qd_Ref_reaches_0 : decode qc_Ref_reaches 0 = .ok (.aload_n 0, 1) := by decide +kernel
theorem qd_Ref_reaches_1 : decode qc_Ref_reaches 1 = .ok (.invokevirtual 195, 3) := by decide +kernel
theorem qd_Ref_reaches_4 : decode qc_Ref_reaches 4 = .ok (.aload_n 0, 1) := by decide +kernel
theorem qd_Ref_reaches_5 : decode qc_Ref_reaches 5 = .ok (.iload_n 1, 1) := by decide +kernel
theorem qd_Ref_reaches_6 : decode qc_Ref_reaches 6 = .ok (.invokevirtual 192, 3) := by decide +kernel
theorem qd_Ref_reaches_9 : decode qc_Ref_reaches 9 = .ok (.ifCond .eq 16, 3) := by decide +kernel
theorem qd_Ref_reaches_12 : decode qc_Ref_reaches 12 = .ok (.aload_n 0, 1) := by decide +kernel
theorem qd_Ref_reaches_13 : decode qc_Ref_reaches 13 = .ok (.getfield 84, 3) := by decide +kernel
theorem qd_Ref_reaches_16 : decode qc_Ref_reaches 16 = .ok (.iload_n 1, 1) := by decide +kernel
theorem qd_Ref_reaches_17 : decode qc_Ref_reaches 17 = .ok (.baload, 1) := by decide +kernel
theorem qd_Ref_reaches_18 : decode qc_Ref_reaches 18 = .ok (.ifCond .eq 7, 3) := by decide +kernel
theorem qd_Ref_reaches_21 : decode qc_Ref_reaches 21 = .ok (.iconst 1, 1) := by decide +kernel
theorem qd_Ref_reaches_22 : decode qc_Ref_reaches 22 = .ok (.goto 4, 3) := by decide +kernel
theorem qd_Ref_reaches_25 : decode qc_Ref_reaches 25 = .ok (.iconst 0, 1) := by decide +kernel
theorem qd_Ref_reaches_26 : decode qc_Ref_reaches 26 = .ok (.ireturn, 1) := by decide +kernel
