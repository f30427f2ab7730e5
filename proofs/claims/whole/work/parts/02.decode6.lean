abbrev qc_Jint_bitCount : ByteArray := prog_10_method_49_code
abbrev qy_Jint_bitCount : MethodName := ⟨"java/lang/Integer", "bitCount", "(I)I"⟩
abbrev ql_Jint_bitCount : Cond := .code qy_Jint_bitCount qc_Jint_bitCount 1 (some .int)
theorem qd_Jint_bitCount_0 : decode qc_Jint_bitCount 0 = .ok (.iload_n 0, 1) := by decide +kernel
theorem qd_Jint_bitCount_1 : decode qc_Jint_bitCount 1 = .ok (.iload_n 0, 1) := by decide +kernel
theorem qd_Jint_bitCount_2 : decode qc_Jint_bitCount 2 = .ok (.iconst 1, 1) := by decide +kernel
theorem qd_Jint_bitCount_3 : decode qc_Jint_bitCount 3 = .ok (.iushr, 1) := by decide +kernel
theorem qd_Jint_bitCount_4 : decode qc_Jint_bitCount 4 = .ok (.ldc_w 265, 3) := by decide +kernel
theorem qd_Jint_bitCount_7 : decode qc_Jint_bitCount 7 = .ok (.iand, 1) := by decide +kernel
theorem qd_Jint_bitCount_8 : decode qc_Jint_bitCount 8 = .ok (.isub, 1) := by decide +kernel
theorem qd_Jint_bitCount_9 : decode qc_Jint_bitCount 9 = .ok (.istore_n 0, 1) := by decide +kernel
theorem qd_Jint_bitCount_10 : decode qc_Jint_bitCount 10 = .ok (.iload_n 0, 1) := by decide +kernel
theorem qd_Jint_bitCount_11 : decode qc_Jint_bitCount 11 = .ok (.ldc_w 266, 3) := by decide +kernel
theorem qd_Jint_bitCount_14 : decode qc_Jint_bitCount 14 = .ok (.iand, 1) := by decide +kernel
theorem qd_Jint_bitCount_15 : decode qc_Jint_bitCount 15 = .ok (.iload_n 0, 1) := by decide +kernel
theorem qd_Jint_bitCount_16 : decode qc_Jint_bitCount 16 = .ok (.iconst 2, 1) := by decide +kernel
theorem qd_Jint_bitCount_17 : decode qc_Jint_bitCount 17 = .ok (.iushr, 1) := by decide +kernel
theorem qd_Jint_bitCount_18 : decode qc_Jint_bitCount 18 = .ok (.ldc_w 266, 3) := by decide +kernel
theorem qd_Jint_bitCount_21 : decode qc_Jint_bitCount 21 = .ok (.iand, 1) := by decide +kernel
theorem qd_Jint_bitCount_22 : decode qc_Jint_bitCount 22 = .ok (.iadd, 1) := by decide +kernel
theorem qd_Jint_bitCount_23 : decode qc_Jint_bitCount 23 = .ok (.istore_n 0, 1) := by decide +kernel
theorem qd_Jint_bitCount_24 : decode qc_Jint_bitCount 24 = .ok (.iload_n 0, 1) := by decide +kernel
theorem qd_Jint_bitCount_25 : decode qc_Jint_bitCount 25 = .ok (.iload_n 0, 1) := by decide +kernel
theorem qd_Jint_bitCount_26 : decode qc_Jint_bitCount 26 = .ok (.iconst 4, 1) := by decide +kernel
theorem qd_Jint_bitCount_27 : decode qc_Jint_bitCount 27 = .ok (.iushr, 1) := by decide +kernel
theorem qd_Jint_bitCount_28 : decode qc_Jint_bitCount 28 = .ok (.iadd, 1) := by decide +kernel
theorem qd_Jint_bitCount_29 : decode qc_Jint_bitCount 29 = .ok (.ldc_w 267, 3) := by decide +kernel
theorem qd_Jint_bitCount_32 : decode qc_Jint_bitCount 32 = .ok (.iand, 1) := by decide +kernel
theorem qd_Jint_bitCount_33 : decode qc_Jint_bitCount 33 = .ok (.istore_n 0, 1) := by decide +kernel
theorem qd_Jint_bitCount_34 : decode qc_Jint_bitCount 34 = .ok (.iload_n 0, 1) := by decide +kernel
theorem qd_Jint_bitCount_35 : decode qc_Jint_bitCount 35 = .ok (.iload_n 0, 1) := by decide +kernel
theorem qd_Jint_bitCount_36 : decode qc_Jint_bitCount 36 = .ok (.bipush 8, 2) := by decide +kernel
theorem qd_Jint_bitCount_38 : decode qc_Jint_bitCount 38 = .ok (.iushr, 1) := by decide +kernel
theorem qd_Jint_bitCount_39 : decode qc_Jint_bitCount 39 = .ok (.iadd, 1) := by decide +kernel
theorem qd_Jint_bitCount_40 : decode qc_Jint_bitCount 40 = .ok (.istore_n 0, 1) := by decide +kernel
theorem qd_Jint_bitCount_41 : decode qc_Jint_bitCount 41 = .ok (.iload_n 0, 1) := by decide +kernel
theorem qd_Jint_bitCount_42 : decode qc_Jint_bitCount 42 = .ok (.iload_n 0, 1) := by decide +kernel
theorem qd_Jint_bitCount_43 : decode qc_Jint_bitCount 43 = .ok (.bipush 16, 2) := by decide +kernel
theorem qd_Jint_bitCount_45 : decode qc_Jint_bitCount 45 = .ok (.iushr, 1) := by decide +kernel
theorem qd_Jint_bitCount_46 : decode qc_Jint_bitCount 46 = .ok (.iadd, 1) := by decide +kernel
theorem qd_Jint_bitCount_47 : decode qc_Jint_bitCount 47 = .ok (.istore_n 0, 1) := by decide +kernel
theorem qd_Jint_bitCount_48 : decode qc_Jint_bitCount 48 = .ok (.iload_n 0, 1) := by decide +kernel
theorem qd_Jint_bitCount_49 : decode qc_Jint_bitCount 49 = .ok (.bipush 63, 2) := by decide +kernel
theorem qd_Jint_bitCount_51 : decode qc_Jint_bitCount 51 = .ok (.iand, 1) := by decide +kernel
theorem qd_Jint_bitCount_52 : decode qc_Jint_bitCount 52 = .ok (.ireturn, 1) := by decide +kernel
abbrev qc_Jmat_floorMod : ByteArray := prog_11_method_50_code
abbrev qy_Jmat_floorMod : MethodName := ⟨"java/lang/Math", "floorMod", "(II)I"⟩
abbrev ql_Jmat_floorMod : Cond := .code qy_Jmat_floorMod qc_Jmat_floorMod 3 (some .int)
theorem qd_Jmat_floorMod_0 : decode qc_Jmat_floorMod 0 = .ok (.iload_n 0, 1) := by decide +kernel
theorem qd_Jmat_floorMod_1 : decode qc_Jmat_floorMod 1 = .ok (.iload_n 1, 1) := by decide +kernel
theorem qd_Jmat_floorMod_2 : decode qc_Jmat_floorMod 2 = .ok (.irem, 1) := by decide +kernel
theorem qd_Jmat_floorMod_3 : decode qc_Jmat_floorMod 3 = .ok (.istore_n 2, 1) := by decide +kernel
theorem qd_Jmat_floorMod_4 : decode qc_Jmat_floorMod 4 = .ok (.iload_n 0, 1) := by decide +kernel
theorem qd_Jmat_floorMod_5 : decode qc_Jmat_floorMod 5 = .ok (.iload_n 1, 1) := by decide +kernel
theorem qd_Jmat_floorMod_6 : decode qc_Jmat_floorMod 6 = .ok (.ixor, 1) := by decide +kernel
theorem qd_Jmat_floorMod_7 : decode qc_Jmat_floorMod 7 = .ok (.ifCond .ge 11, 3) := by decide +kernel
theorem qd_Jmat_floorMod_10 : decode qc_Jmat_floorMod 10 = .ok (.iload_n 2, 1) := by decide +kernel
theorem qd_Jmat_floorMod_11 : decode qc_Jmat_floorMod 11 = .ok (.ifCond .eq 7, 3) := by decide +kernel
theorem qd_Jmat_floorMod_14 : decode qc_Jmat_floorMod 14 = .ok (.iload_n 2, 1) := by decide +kernel
theorem qd_Jmat_floorMod_15 : decode qc_Jmat_floorMod 15 = .ok (.iload_n 1, 1) := by decide +kernel
theorem qd_Jmat_floorMod_16 : decode qc_Jmat_floorMod 16 = .ok (.iadd, 1) := by decide +kernel
theorem qd_Jmat_floorMod_17 : decode qc_Jmat_floorMod 17 = .ok (.ireturn, 1) := by decide +kernel
theorem qd_Jmat_floorMod_18 : decode qc_Jmat_floorMod 18 = .ok (.iload_n 2, 1) := by decide +kernel
theorem qd_Jmat_floorMod_19 : decode qc_Jmat_floorMod 19 = .ok (.ireturn, 1) := by decide +kernel
abbrev qc_Jstr_length : ByteArray := prog_12_method_54_code
abbrev qy_Jstr_length : MethodName := ⟨"java/lang/String", "length", "()I"⟩
abbrev ql_Jstr_length : Cond := .code qy_Jstr_length qc_Jstr_length 1 (some .int)
theorem qd_Jstr_length_0 : decode qc_Jstr_length 0 = .ok (.aload_n 0, 1) := by decide +kernel
theorem qd_Jstr_length_1 : decode qc_Jstr_length 1 = .ok (.getfield 9, 3) := by decide +kernel
theorem qd_Jstr_length_4 : decode qc_Jstr_length 4 = .ok (.arraylength, 1) := by decide +kernel
theorem qd_Jstr_length_5 : decode qc_Jstr_length 5 = .ok (.aload_n 0, 1) := by decide +kernel
theorem qd_Jstr_length_6 : decode qc_Jstr_length 6 = .ok (.invokevirtual 335, 3) := by decide +kernel
theorem qd_Jstr_length_9 : decode qc_Jstr_length 9 = .ok (.ishr, 1) := by decide +kernel
theorem qd_Jstr_length_10 : decode qc_Jstr_length 10 = .ok (.ireturn, 1) := by decide +kernel
abbrev qc_Jstr_coder : ByteArray := prog_12_method_152_code
abbrev qy_Jstr_coder : MethodName := ⟨"java/lang/String", "coder", "()B"⟩
abbrev ql_Jstr_coder : Cond := .code qy_Jstr_coder qc_Jstr_coder 1 (some .byte)
theorem qd_Jstr_coder_0 : decode qc_Jstr_coder 0 = .ok (.getstatic 38, 3) := by decide +kernel
theorem qd_Jstr_coder_3 : decode qc_Jstr_coder 3 = .ok (.ifCond .eq 10, 3) := by decide +kernel
theorem qd_Jstr_coder_6 : decode qc_Jstr_coder 6 = .ok (.aload_n 0, 1) := by decide +kernel
theorem qd_Jstr_coder_7 : decode qc_Jstr_coder 7 = .ok (.getfield 15, 3) := by decide +kernel
theorem qd_Jstr_coder_10 : decode qc_Jstr_coder 10 = .ok (.goto 4, 3) := by decide +kernel
theorem qd_Jstr_coder_13 : decode qc_Jstr_coder 13 = .ok (.iconst 1, 1) := by decide +kernel
theorem qd_Jstr_coder_14 : decode qc_Jstr_coder 14 = .ok (.ireturn, 1) := by decide +kernel
abbrev qc_Jstr_charAt : ByteArray := prog_12_method_56_code
abbrev qy_Jstr_charAt : MethodName := ⟨"java/lang/String", "charAt", "(I)C"⟩
abbrev ql_Jstr_charAt : Cond := .code qy_Jstr_charAt qc_Jstr_charAt 2 (some .char)
theorem qd_Jstr_charAt_0 : decode qc_Jstr_charAt 0 = .ok (.aload_n 0, 1) := by decide +kernel
theorem qd_Jstr_charAt_1 : decode qc_Jstr_charAt 1 = .ok (.invokevirtual 492, 3) := by decide +kernel
theorem qd_Jstr_charAt_4 : decode qc_Jstr_charAt 4 = .ok (.ifCond .eq 12, 3) := by decide +kernel
theorem qd_Jstr_charAt_7 : decode qc_Jstr_charAt 7 = .ok (.aload_n 0, 1) := by decide +kernel
theorem qd_Jstr_charAt_8 : decode qc_Jstr_charAt 8 = .ok (.getfield 9, 3) := by decide +kernel
theorem qd_Jstr_charAt_11 : decode qc_Jstr_charAt 11 = .ok (.iload_n 1, 1) := by decide +kernel
theorem qd_Jstr_charAt_12 : decode qc_Jstr_charAt 12 = .ok (.invokestatic 495, 3) := by decide +kernel
theorem qd_Jstr_charAt_15 : decode qc_Jstr_charAt 15 = .ok (.ireturn, 1) := by decide +kernel
theorem qd_Jstr_charAt_16 : decode qc_Jstr_charAt 16 = .ok (.aload_n 0, 1) := by decide +kernel
theorem qd_Jstr_charAt_17 : decode qc_Jstr_charAt 17 = .ok (.getfield 9, 3) := by decide +kernel
theorem qd_Jstr_charAt_20 : decode qc_Jstr_charAt 20 = .ok (.iload_n 1, 1) := by decide +kernel
theorem qd_Jstr_charAt_21 : decode qc_Jstr_charAt 21 = .ok (.invokestatic 498, 3) := by decide +kernel
theorem qd_Jstr_charAt_24 : decode qc_Jstr_charAt 24 = .ok (.ireturn, 1) := by decide +kernel
abbrev qc_Jstr_isLatin1 : ByteArray := prog_12_method_154_code
abbrev qy_Jstr_isLatin1 : MethodName := ⟨"java/lang/String", "isLatin1", "()Z"⟩
abbrev ql_Jstr_isLatin1 : Cond := .code qy_Jstr_isLatin1 qc_Jstr_isLatin1 1 (some .boolean)
theorem qd_Jstr_isLatin1_0 : decode qc_Jstr_isLatin1 0 = .ok (.getstatic 38, 3) := by decide +kernel
theorem qd_Jstr_isLatin1_3 : decode qc_Jstr_isLatin1 3 = .ok (.ifCond .eq 14, 3) := by decide +kernel
theorem qd_Jstr_isLatin1_6 : decode qc_Jstr_isLatin1 6 = .ok (.aload_n 0, 1) := by decide +kernel
theorem qd_Jstr_isLatin1_7 : decode qc_Jstr_isLatin1 7 = .ok (.getfield 15, 3) := by decide +kernel
theorem qd_Jstr_isLatin1_10 : decode qc_Jstr_isLatin1 10 = .ok (.ifCond .ne 7, 3) := by decide +kernel
theorem qd_Jstr_isLatin1_13 : decode qc_Jstr_isLatin1 13 = .ok (.iconst 1, 1) := by decide +kernel
theorem qd_Jstr_isLatin1_14 : decode qc_Jstr_isLatin1 14 = .ok (.goto 4, 3) := by decide +kernel
theorem qd_Jstr_isLatin1_17 : decode qc_Jstr_isLatin1 17 = .ok (.iconst 0, 1) := by decide +kernel
theorem qd_Jstr_isLatin1_18 : decode qc_Jstr_isLatin1 18 = .ok (.ireturn, 1) := by decide +kernel
abbrev qc_Jstr_checkIndex : ByteArray := prog_12_method_155_code
abbrev qy_Jstr_checkIndex : MethodName := ⟨"java/lang/String", "checkIndex", "(II)V"⟩
abbrev ql_Jstr_checkIndex : Cond := .code qy_Jstr_checkIndex qc_Jstr_checkIndex 2 none
theorem qd_Jstr_checkIndex_0 : decode qc_Jstr_checkIndex 0 = .ok (.iload_n 0, 1) := by decide +kernel
theorem qd_Jstr_checkIndex_1 : decode qc_Jstr_checkIndex 1 = .ok (.iload_n 1, 1) := by decide +kernel
theorem qd_Jstr_checkIndex_2 : decode qc_Jstr_checkIndex 2 = .ok (.getstatic 1053, 3) := by decide +kernel
theorem qd_Jstr_checkIndex_5 : decode qc_Jstr_checkIndex 5 = .ok (.invokestatic 1059, 3) := by decide +kernel
theorem qd_Jstr_checkIndex_8 : decode qc_Jstr_checkIndex 8 = .ok (.pop, 1) := by decide +kernel
theorem qd_Jstr_checkIndex_9 : decode qc_Jstr_checkIndex 9 = .ok (.return_, 1) := by decide +kernel
abbrev qc_Jlat_charAt : ByteArray := prog_13_method_2_code
abbrev qy_Jlat_charAt : MethodName := ⟨"java/lang/StringLatin1", "charAt", "([BI)C"⟩
abbrev ql_Jlat_charAt : Cond := .code qy_Jlat_charAt qc_Jlat_charAt 2 (some .char)
theorem qd_Jlat_charAt_0 : decode qc_Jlat_charAt 0 = .ok (.iload_n 1, 1) := by decide +kernel
theorem qd_Jlat_charAt_1 : decode qc_Jlat_charAt 1 = .ok (.aload_n 0, 1) := by decide +kernel
theorem qd_Jlat_charAt_2 : decode qc_Jlat_charAt 2 = .ok (.arraylength, 1) := by decide +kernel
theorem qd_Jlat_charAt_3 : decode qc_Jlat_charAt 3 = .ok (.invokestatic 9, 3) := by decide +kernel
theorem qd_Jlat_charAt_6 : decode qc_Jlat_charAt 6 = .ok (.aload_n 0, 1) := by decide +kernel
theorem qd_Jlat_charAt_7 : decode qc_Jlat_charAt 7 = .ok (.iload_n 1, 1) := by decide +kernel
theorem qd_Jlat_charAt_8 : decode qc_Jlat_charAt 8 = .ok (.baload, 1) := by decide +kernel
theorem qd_Jlat_charAt_9 : decode qc_Jlat_charAt 9 = .ok (.sipush 255, 3) := by decide +kernel
theorem qd_Jlat_charAt_12 : decode qc_Jlat_charAt 12 = .ok (.iand, 1) := by decide +kernel
theorem qd_Jlat_charAt_13 : decode qc_Jlat_charAt 13 = .ok (.i2c, 1) := by decide +kernel
theorem qd_Jlat_charAt_14 : decode qc_Jlat_charAt 14 = .ok (.ireturn, 1) := by decide +kernel
abbrev qc_Jutf_charAt : ByteArray := prog_14_method_83_code
abbrev qy_Jutf_charAt : MethodName := ⟨"java/lang/StringUTF16", "charAt", "([BI)C"⟩
abbrev ql_Jutf_charAt : Cond := .code qy_Jutf_charAt qc_Jutf_charAt 2 (some .char)
theorem qd_Jutf_charAt_0 : decode qc_Jutf_charAt 0 = .ok (.iload_n 1, 1) := by decide +kernel
theorem qd_Jutf_charAt_1 : decode qc_Jutf_charAt 1 = .ok (.aload_n 0, 1) := by decide +kernel
theorem qd_Jutf_charAt_2 : decode qc_Jutf_charAt 2 = .ok (.invokestatic 67, 3) := by decide +kernel
theorem qd_Jutf_charAt_5 : decode qc_Jutf_charAt 5 = .ok (.aload_n 0, 1) := by decide +kernel
theorem qd_Jutf_charAt_6 : decode qc_Jutf_charAt 6 = .ok (.iload_n 1, 1) := by decide +kernel
theorem qd_Jutf_charAt_7 : decode qc_Jutf_charAt 7 = .ok (.invokestatic 71, 3) := by decide +kernel
theorem qd_Jutf_charAt_10 : decode qc_Jutf_charAt 10 = .ok (.ireturn, 1) := by decide +kernel
abbrev qc_Jutf_checkIndex : ByteArray := prog_14_method_91_code
abbrev qy_Jutf_checkIndex : MethodName := ⟨"java/lang/StringUTF16", "checkIndex", "(I[B)V"⟩
abbrev ql_Jutf_checkIndex : Cond := .code qy_Jutf_checkIndex qc_Jutf_checkIndex 2 none
theorem qd_Jutf_checkIndex_0 : decode qc_Jutf_checkIndex 0 = .ok (.iload_n 0, 1) := by decide +kernel
theorem qd_Jutf_checkIndex_1 : decode qc_Jutf_checkIndex 1 = .ok (.aload_n 1, 1) := by decide +kernel
theorem qd_Jutf_checkIndex_2 : decode qc_Jutf_checkIndex 2 = .ok (.invokestatic 48, 3) := by decide +kernel
theorem qd_Jutf_checkIndex_5 : decode qc_Jutf_checkIndex 5 = .ok (.invokestatic 414, 3) := by decide +kernel
theorem qd_Jutf_checkIndex_8 : decode qc_Jutf_checkIndex 8 = .ok (.return_, 1) := by decide +kernel
abbrev qc_Jutf_length : ByteArray := prog_14_method_6_code
abbrev qy_Jutf_length : MethodName := ⟨"java/lang/StringUTF16", "length", "([B)I"⟩
abbrev ql_Jutf_length : Cond := .code qy_Jutf_length qc_Jutf_length 1 (some .int)
theorem qd_Jutf_length_0 : decode qc_Jutf_length 0 = .ok (.aload_n 0, 1) := by decide +kernel
theorem qd_Jutf_length_1 : decode qc_Jutf_length 1 = .ok (.arraylength, 1) := by decide +kernel
theorem qd_Jutf_length_2 : decode qc_Jutf_length 2 = .ok (.iconst 1, 1) := by decide +kernel
theorem qd_Jutf_length_3 : decode qc_Jutf_length 3 = .ok (.ishr, 1) := by decide +kernel
theorem qd_Jutf_length_4 : decode qc_Jutf_length 4 = .ok (.ireturn, 1) := by decide +kernel
abbrev qc_Jutf_getChar : ByteArray := prog_14_method_5_code
abbrev qy_Jutf_getChar : MethodName := ⟨"java/lang/StringUTF16", "getChar", "([BI)C"⟩
abbrev ql_Jutf_getChar : Cond := .code qy_Jutf_getChar qc_Jutf_getChar 2 (some .char)
theorem qd_Jutf_getChar_0 : decode qc_Jutf_getChar 0 = .ok (.getstatic 44, 3) := by decide +kernel
theorem qd_Jutf_getChar_3 : decode qc_Jutf_getChar 3 = .ok (.ifCond .ne 25, 3) := by decide +kernel
theorem qd_Jutf_getChar_6 : decode qc_Jutf_getChar 6 = .ok (.iload_n 1, 1) := by decide +kernel
theorem qd_Jutf_getChar_7 : decode qc_Jutf_getChar 7 = .ok (.ifCond .lt 11, 3) := by decide +kernel
theorem qd_Jutf_getChar_10 : decode qc_Jutf_getChar 10 = .ok (.iload_n 1, 1) := by decide +kernel
theorem qd_Jutf_getChar_11 : decode qc_Jutf_getChar 11 = .ok (.aload_n 0, 1) := by decide +kernel
theorem qd_Jutf_getChar_12 : decode qc_Jutf_getChar 12 = .ok (.invokestatic 48, 3) := by decide +kernel
theorem qd_Jutf_getChar_15 : decode qc_Jutf_getChar 15 = .ok (.if_icmp .lt 13, 3) := by decide +kernel
theorem qd_Jutf_getChar_18 : decode qc_Jutf_getChar 18 = .ok (.new 52, 3) := by decide +kernel
theorem qd_Jutf_getChar_21 : decode qc_Jutf_getChar 21 = .ok (.dup, 1) := by decide +kernel
theorem qd_Jutf_getChar_22 : decode qc_Jutf_getChar 22 = .ok (.ldc 54, 2) := by decide +kernel
theorem qd_Jutf_getChar_24 : decode qc_Jutf_getChar 24 = .ok (.invokespecial 56, 3) := by decide +kernel
theorem qd_Jutf_getChar_27 : decode qc_Jutf_getChar 27 = .ok (.athrow, 1) := by decide +kernel
theorem qd_Jutf_getChar_28 : decode qc_Jutf_getChar 28 = .ok (.iload_n 1, 1) := by decide +kernel
theorem qd_Jutf_getChar_29 : decode qc_Jutf_getChar 29 = .ok (.iconst 1, 1) := by decide +kernel
theorem qd_Jutf_getChar_30 : decode qc_Jutf_getChar 30 = .ok (.ishl, 1) := by decide +kernel
theorem qd_Jutf_getChar_31 : decode qc_Jutf_getChar 31 = .ok (.istore_n 1, 1) := by decide +kernel
theorem qd_Jutf_getChar_32 : decode qc_Jutf_getChar 32 = .ok (.aload_n 0, 1) := by decide +kernel
theorem qd_Jutf_getChar_33 : decode qc_Jutf_getChar 33 = .ok (.iload_n 1, 1) := by decide +kernel
theorem qd_Jutf_getChar_34 : decode qc_Jutf_getChar 34 = .ok (.iinc 1 1, 3) := by decide +kernel
theorem qd_Jutf_getChar_37 : decode qc_Jutf_getChar 37 = .ok (.baload, 1) := by decide +kernel
theorem qd_Jutf_getChar_38 : decode qc_Jutf_getChar 38 = .ok (.sipush 255, 3) := by decide +kernel
theorem qd_Jutf_getChar_41 : decode qc_Jutf_getChar 41 = .ok (.iand, 1) := by decide +kernel
theorem qd_Jutf_getChar_42 : decode qc_Jutf_getChar 42 = .ok (.getstatic 59, 3) := by decide +kernel
theorem qd_Jutf_getChar_45 : decode qc_Jutf_getChar 45 = .ok (.ishl, 1) := by decide +kernel
theorem qd_Jutf_getChar_46 : decode qc_Jutf_getChar 46 = .ok (.aload_n 0, 1) := by decide +kernel
theorem qd_Jutf_getChar_47 : decode qc_Jutf_getChar 47 = .ok (.iload_n 1, 1) := by decide +kernel
theorem qd_Jutf_getChar_48 : decode qc_Jutf_getChar 48 = .ok (.baload, 1) := by decide +kernel
theorem qd_Jutf_getChar_49 : decode qc_Jutf_getChar 49 = .ok (.sipush 255, 3) := by decide +kernel
theorem qd_Jutf_getChar_52 : decode qc_Jutf_getChar 52 = .ok (.iand, 1) := by decide +kernel
theorem qd_Jutf_getChar_53 : decode qc_Jutf_getChar 53 = .ok (.getstatic 63, 3) := by decide +kernel
theorem qd_Jutf_getChar_56 : decode qc_Jutf_getChar 56 = .ok (.ishl, 1) := by decide +kernel
theorem qd_Jutf_getChar_57 : decode qc_Jutf_getChar 57 = .ok (.ior, 1) := by decide +kernel
theorem qd_Jutf_getChar_58 : decode qc_Jutf_getChar 58 = .ok (.i2c, 1) := by decide +kernel
theorem qd_Jutf_getChar_59 : decode qc_Jutf_getChar 59 = .ok (.ireturn, 1) := by decide +kernel
abbrev qc_Jpre_checkIndex : ByteArray := prog_16_method_11_code
abbrev qy_Jpre_checkIndex : MethodName := ⟨"jdk/internal/util/Preconditions", "checkIndex", "(IILjava/util/function/BiFunction;)I"⟩
abbrev ql_Jpre_checkIndex : Cond := .code qy_Jpre_checkIndex qc_Jpre_checkIndex 3 (some .int)
theorem qd_Jpre_checkIndex_0 : decode qc_Jpre_checkIndex 0 = .ok (.iload_n 0, 1) := by decide +kernel
theorem qd_Jpre_checkIndex_1 : decode qc_Jpre_checkIndex 1 = .ok (.ifCond .lt 8, 3) := by decide +kernel
theorem qd_Jpre_checkIndex_4 : decode qc_Jpre_checkIndex 4 = .ok (.iload_n 0, 1) := by decide +kernel
theorem qd_Jpre_checkIndex_5 : decode qc_Jpre_checkIndex 5 = .ok (.iload_n 1, 1) := by decide +kernel
theorem qd_Jpre_checkIndex_6 : decode qc_Jpre_checkIndex 6 = .ok (.if_icmp .lt 10, 3) := by decide +kernel
theorem qd_Jpre_checkIndex_9 : decode qc_Jpre_checkIndex 9 = .ok (.aload_n 2, 1) := by decide +kernel
theorem qd_Jpre_checkIndex_10 : decode qc_Jpre_checkIndex 10 = .ok (.iload_n 0, 1) := by decide +kernel
theorem qd_Jpre_checkIndex_11 : decode qc_Jpre_checkIndex 11 = .ok (.iload_n 1, 1) := by decide +kernel
theorem qd_Jpre_checkIndex_12 : decode qc_Jpre_checkIndex 12 = .ok (.invokestatic 95, 3) := by decide +kernel
theorem qd_Jpre_checkIndex_15 : decode qc_Jpre_checkIndex 15 = .ok (.athrow, 1) := by decide +kernel
theorem qd_Jpre_checkIndex_16 : decode qc_Jpre_checkIndex 16 = .ok (.iload_n 0, 1) := by decide +kernel
theorem qd_Jpre_checkIndex_17 : decode qc_Jpre_checkIndex 17 = .ok (.ireturn, 1) := by decide +kernel
theorem qd_Law_law_0 : decode code 0 = .ok (.new 7, 3) := by decide +kernel
theorem qd_Law_law_3 : decode code 3 = .ok (.dup, 1) := by decide +kernel
theorem qd_Law_law_4 : decode code 4 = .ok (.aload_n 0, 1) := by decide +kernel
theorem qd_Law_law_5 : decode code 5 = .ok (.iconst 0, 1) := by decide +kernel
theorem qd_Law_law_6 : decode code 6 = .ok (.invokestatic 9, 3) := by decide +kernel
theorem qd_Law_law_9 : decode code 9 = .ok (.invokespecial 15, 3) := by decide +kernel
theorem qd_Law_law_12 : decode code 12 = .ok (.astore_n 1, 1) := by decide +kernel
theorem qd_Law_law_13 : decode code 13 = .ok (.new 18, 3) := by decide +kernel
theorem qd_Law_law_16 : decode code 16 = .ok (.dup, 1) := by decide +kernel
theorem qd_Law_law_17 : decode code 17 = .ok (.aload_n 0, 1) := by decide +kernel
theorem qd_Law_law_18 : decode code 18 = .ok (.iconst 0, 1) := by decide +kernel
theorem qd_Law_law_19 : decode code 19 = .ok (.invokestatic 9, 3) := by decide +kernel
theorem qd_Law_law_22 : decode code 22 = .ok (.invokespecial 20, 3) := by decide +kernel
theorem qd_Law_law_25 : decode code 25 = .ok (.astore_n 2, 1) := by decide +kernel
theorem qd_Law_law_26 : decode code 26 = .ok (.iconst 1, 1) := by decide +kernel
theorem qd_Law_law_27 : decode code 27 = .ok (.istore_n 3, 1) := by decide +kernel
theorem qd_Law_law_28 : decode code 28 = .ok (.iload_n 3, 1) := by decide +kernel
theorem qd_Law_law_29 : decode code 29 = .ok (.aload_n 0, 1) := by decide +kernel
theorem qd_Law_law_30 : decode code 30 = .ok (.arraylength, 1) := by decide +kernel
theorem qd_Law_law_31 : decode code 31 = .ok (.iconst 4, 1) := by decide +kernel
theorem qd_Law_law_32 : decode code 32 = .ok (.isub, 1) := by decide +kernel
theorem qd_Law_law_33 : decode code 33 = .ok (.if_icmp .gt 611, 3) := by decide +kernel
theorem qd_Law_law_36 : decode code 36 = .ok (.aload_n 0, 1) := by decide +kernel
theorem qd_Law_law_37 : decode code 37 = .ok (.iload_n 3, 1) := by decide +kernel
theorem qd_Law_law_38 : decode code 38 = .ok (.iaload, 1) := by decide +kernel
theorem qd_Law_law_39 : decode code 39 = .ok (.bipush 31, 2) := by decide +kernel
theorem qd_Law_law_41 : decode code 41 = .ok (.iand, 1) := by decide +kernel
theorem qd_Law_law_42 : decode code 42 = .ok (.tableswitch 596 0 19 #[94, 119, 142, 175, 208, 241, 264, 297, 320, 343, 366, 389, 422, 445, 478, 521, 534, 547, 560, 573], 94) := by decide +kernel
theorem qd_Law_law_136 : decode code 136 = .ok (.aload_n 1, 1) := by decide +kernel
theorem qd_Law_law_137 : decode code 137 = .ok (.aload_n 0, 1) := by decide +kernel
theorem qd_Law_law_138 : decode code 138 = .ok (.iload_n 3, 1) := by decide +kernel
theorem qd_Law_law_139 : decode code 139 = .ok (.iconst 1, 1) := by decide +kernel
theorem qd_Law_law_140 : decode code 140 = .ok (.iadd, 1) := by decide +kernel
theorem qd_Law_law_141 : decode code 141 = .ok (.iaload, 1) := by decide +kernel
theorem qd_Law_law_142 : decode code 142 = .ok (.i2c, 1) := by decide +kernel
theorem qd_Law_law_143 : decode code 143 = .ok (.invokevirtual 21, 3) := by decide +kernel
theorem qd_Law_law_146 : decode code 146 = .ok (.aload_n 2, 1) := by decide +kernel
theorem qd_Law_law_147 : decode code 147 = .ok (.aload_n 0, 1) := by decide +kernel
theorem qd_Law_law_148 : decode code 148 = .ok (.iload_n 3, 1) := by decide +kernel
theorem qd_Law_law_149 : decode code 149 = .ok (.iconst 1, 1) := by decide +kernel
theorem qd_Law_law_150 : decode code 150 = .ok (.iadd, 1) := by decide +kernel
theorem qd_Law_law_151 : decode code 151 = .ok (.iaload, 1) := by decide +kernel
theorem qd_Law_law_152 : decode code 152 = .ok (.i2c, 1) := by decide +kernel
theorem qd_Law_law_153 : decode code 153 = .ok (.invokevirtual 25, 3) := by decide +kernel
theorem qd_Law_law_156 : decode code 156 = .ok (.if_icmp .eq 482, 3) := by decide +kernel
theorem qd_Law_law_159 : decode code 159 = .ok (.iconst 0, 1) := by decide +kernel
theorem qd_Law_law_160 : decode code 160 = .ok (.ireturn, 1) := by decide +kernel
theorem qd_Law_law_161 : decode code 161 = .ok (.aload_n 1, 1) := by decide +kernel
theorem qd_Law_law_162 : decode code 162 = .ok (.aload_n 0, 1) := by decide +kernel
theorem qd_Law_law_163 : decode code 163 = .ok (.iload_n 3, 1) := by decide +kernel
theorem qd_Law_law_164 : decode code 164 = .ok (.iconst 1, 1) := by decide +kernel
theorem qd_Law_law_165 : decode code 165 = .ok (.iadd, 1) := by decide +kernel
theorem qd_Law_law_166 : decode code 166 = .ok (.iaload, 1) := by decide +kernel
theorem qd_Law_law_167 : decode code 167 = .ok (.invokevirtual 26, 3) := by decide +kernel
theorem qd_Law_law_170 : decode code 170 = .ok (.aload_n 2, 1) := by decide +kernel
theorem qd_Law_law_171 : decode code 171 = .ok (.aload_n 0, 1) := by decide +kernel
theorem qd_Law_law_172 : decode code 172 = .ok (.iload_n 3, 1) := by decide +kernel
theorem qd_Law_law_173 : decode code 173 = .ok (.iconst 1, 1) := by decide +kernel
theorem qd_Law_law_174 : decode code 174 = .ok (.iadd, 1) := by decide +kernel
theorem qd_Law_law_175 : decode code 175 = .ok (.iaload, 1) := by decide +kernel
theorem qd_Law_law_176 : decode code 176 = .ok (.invokevirtual 30, 3) := by decide +kernel
theorem qd_Law_law_179 : decode code 179 = .ok (.if_icmp .eq 459, 3) := by decide +kernel
theorem qd_Law_law_182 : decode code 182 = .ok (.iconst 0, 1) := by decide +kernel
theorem qd_Law_law_183 : decode code 183 = .ok (.ireturn, 1) := by decide +kernel
theorem qd_Law_law_184 : decode code 184 = .ok (.aload_n 1, 1) := by decide +kernel
theorem qd_Law_law_185 : decode code 185 = .ok (.aload_n 0, 1) := by decide +kernel
theorem qd_Law_law_186 : decode code 186 = .ok (.iload_n 3, 1) := by decide +kernel
theorem qd_Law_law_187 : decode code 187 = .ok (.iconst 1, 1) := by decide +kernel
theorem qd_Law_law_188 : decode code 188 = .ok (.iadd, 1) := by decide +kernel
theorem qd_Law_law_189 : decode code 189 = .ok (.iaload, 1) := by decide +kernel
theorem qd_Law_law_190 : decode code 190 = .ok (.aload_n 0, 1) := by decide +kernel
theorem qd_Law_law_191 : decode code 191 = .ok (.iload_n 3, 1) := by decide +kernel
theorem qd_Law_law_192 : decode code 192 = .ok (.iconst 2, 1) := by decide +kernel
theorem qd_Law_law_193 : decode code 193 = .ok (.iadd, 1) := by decide +kernel
theorem qd_Law_law_194 : decode code 194 = .ok (.iaload, 1) := by decide +kernel
theorem qd_Law_law_195 : decode code 195 = .ok (.invokevirtual 31, 3) := by decide +kernel
theorem qd_Law_law_198 : decode code 198 = .ok (.aload_n 2, 1) := by decide +kernel
theorem qd_Law_law_199 : decode code 199 = .ok (.aload_n 0, 1) := by decide +kernel
theorem qd_Law_law_200 : decode code 200 = .ok (.iload_n 3, 1) := by decide +kernel
theorem qd_Law_law_201 : decode code 201 = .ok (.iconst 1, 1) := by decide +kernel
theorem qd_Law_law_202 : decode code 202 = .ok (.iadd, 1) := by decide +kernel
theorem qd_Law_law_203 : decode code 203 = .ok (.iaload, 1) := by decide +kernel
theorem qd_Law_law_204 : decode code 204 = .ok (.aload_n 0, 1) := by decide +kernel
theorem qd_Law_law_205 : decode code 205 = .ok (.iload_n 3, 1) := by decide +kernel
theorem qd_Law_law_206 : decode code 206 = .ok (.iconst 2, 1) := by decide +kernel
theorem qd_Law_law_207 : decode code 207 = .ok (.iadd, 1) := by decide +kernel
theorem qd_Law_law_208 : decode code 208 = .ok (.iaload, 1) := by decide +kernel
theorem qd_Law_law_209 : decode code 209 = .ok (.invokevirtual 35, 3) := by decide +kernel
theorem qd_Law_law_212 : decode code 212 = .ok (.if_icmp .eq 426, 3) := by decide +kernel
theorem qd_Law_law_215 : decode code 215 = .ok (.iconst 0, 1) := by decide +kernel
theorem qd_Law_law_216 : decode code 216 = .ok (.ireturn, 1) := by decide +kernel
theorem qd_Law_law_217 : decode code 217 = .ok (.aload_n 1, 1) := by decide +kernel
theorem qd_Law_law_218 : decode code 218 = .ok (.aload_n 0, 1) := by decide +kernel
theorem qd_Law_law_219 : decode code 219 = .ok (.iload_n 3, 1) := by decide +kernel
theorem qd_Law_law_220 : decode code 220 = .ok (.iconst 1, 1) := by decide +kernel
theorem qd_Law_law_221 : decode code 221 = .ok (.iadd, 1) := by decide +kernel
theorem qd_Law_law_222 : decode code 222 = .ok (.iaload, 1) := by decide +kernel
theorem qd_Law_law_223 : decode code 223 = .ok (.aload_n 0, 1) := by decide +kernel
theorem qd_Law_law_224 : decode code 224 = .ok (.iload_n 3, 1) := by decide +kernel
theorem qd_Law_law_225 : decode code 225 = .ok (.iconst 2, 1) := by decide +kernel
theorem qd_Law_law_226 : decode code 226 = .ok (.iadd, 1) := by decide +kernel
theorem qd_Law_law_227 : decode code 227 = .ok (.iaload, 1) := by decide +kernel
theorem qd_Law_law_228 : decode code 228 = .ok (.invokevirtual 36, 3) := by decide +kernel
theorem qd_Law_law_231 : decode code 231 = .ok (.aload_n 2, 1) := by decide +kernel
theorem qd_Law_law_232 : decode code 232 = .ok (.aload_n 0, 1) := by decide +kernel
theorem qd_Law_law_233 : decode code 233 = .ok (.iload_n 3, 1) := by decide +kernel
theorem qd_Law_law_234 : decode code 234 = .ok (.iconst 1, 1) := by decide +kernel
theorem qd_Law_law_235 : decode code 235 = .ok (.iadd, 1) := by decide +kernel
theorem qd_Law_law_236 : decode code 236 = .ok (.iaload, 1) := by decide +kernel
theorem qd_Law_law_237 : decode code 237 = .ok (.aload_n 0, 1) := by decide +kernel
theorem qd_Law_law_238 : decode code 238 = .ok (.iload_n 3, 1) := by decide +kernel
theorem qd_Law_law_239 : decode code 239 = .ok (.iconst 2, 1) := by decide +kernel
theorem qd_Law_law_240 : decode code 240 = .ok (.iadd, 1) := by decide +kernel
theorem qd_Law_law_241 : decode code 241 = .ok (.iaload, 1) := by decide +kernel
theorem qd_Law_law_242 : decode code 242 = .ok (.invokevirtual 39, 3) := by decide +kernel
theorem qd_Law_law_245 : decode code 245 = .ok (.if_icmp .eq 393, 3) := by decide +kernel
theorem qd_Law_law_248 : decode code 248 = .ok (.iconst 0, 1) := by decide +kernel
theorem qd_Law_law_249 : decode code 249 = .ok (.ireturn, 1) := by decide +kernel
theorem qd_Law_law_250 : decode code 250 = .ok (.aload_n 1, 1) := by decide +kernel
theorem qd_Law_law_251 : decode code 251 = .ok (.aload_n 0, 1) := by decide +kernel
theorem qd_Law_law_252 : decode code 252 = .ok (.iload_n 3, 1) := by decide +kernel
theorem qd_Law_law_253 : decode code 253 = .ok (.iconst 1, 1) := by decide +kernel
theorem qd_Law_law_254 : decode code 254 = .ok (.iadd, 1) := by decide +kernel
theorem qd_Law_law_255 : decode code 255 = .ok (.iaload, 1) := by decide +kernel
theorem qd_Law_law_256 : decode code 256 = .ok (.aload_n 0, 1) := by decide +kernel
theorem qd_Law_law_257 : decode code 257 = .ok (.iload_n 3, 1) := by decide +kernel
theorem qd_Law_law_258 : decode code 258 = .ok (.iconst 2, 1) := by decide +kernel
theorem qd_Law_law_259 : decode code 259 = .ok (.iadd, 1) := by decide +kernel
theorem qd_Law_law_260 : decode code 260 = .ok (.iaload, 1) := by decide +kernel
theorem qd_Law_law_261 : decode code 261 = .ok (.invokevirtual 40, 3) := by decide +kernel
theorem qd_Law_law_264 : decode code 264 = .ok (.aload_n 2, 1) := by decide +kernel
theorem qd_Law_law_265 : decode code 265 = .ok (.aload_n 0, 1) := by decide +kernel
theorem qd_Law_law_266 : decode code 266 = .ok (.iload_n 3, 1) := by decide +kernel
theorem qd_Law_law_267 : decode code 267 = .ok (.iconst 1, 1) := by decide +kernel
theorem qd_Law_law_268 : decode code 268 = .ok (.iadd, 1) := by decide +kernel
theorem qd_Law_law_269 : decode code 269 = .ok (.iaload, 1) := by decide +kernel
theorem qd_Law_law_270 : decode code 270 = .ok (.aload_n 0, 1) := by decide +kernel
theorem qd_Law_law_271 : decode code 271 = .ok (.iload_n 3, 1) := by decide +kernel
theorem qd_Law_law_272 : decode code 272 = .ok (.iconst 2, 1) := by decide +kernel
theorem qd_Law_law_273 : decode code 273 = .ok (.iadd, 1) := by decide +kernel
theorem qd_Law_law_274 : decode code 274 = .ok (.iaload, 1) := by decide +kernel
theorem qd_Law_law_275 : decode code 275 = .ok (.invokevirtual 43, 3) := by decide +kernel
theorem qd_Law_law_278 : decode code 278 = .ok (.if_icmp .eq 360, 3) := by decide +kernel
theorem qd_Law_law_281 : decode code 281 = .ok (.iconst 0, 1) := by decide +kernel
theorem qd_Law_law_282 : decode code 282 = .ok (.ireturn, 1) := by decide +kernel
theorem qd_Law_law_283 : decode code 283 = .ok (.aload_n 1, 1) := by decide +kernel
theorem qd_Law_law_284 : decode code 284 = .ok (.aload_n 0, 1) := by decide +kernel
theorem qd_Law_law_285 : decode code 285 = .ok (.iload_n 3, 1) := by decide +kernel
theorem qd_Law_law_286 : decode code 286 = .ok (.iconst 1, 1) := by decide +kernel
theorem qd_Law_law_287 : decode code 287 = .ok (.iadd, 1) := by decide +kernel
theorem qd_Law_law_288 : decode code 288 = .ok (.iaload, 1) := by decide +kernel
theorem qd_Law_law_289 : decode code 289 = .ok (.invokevirtual 44, 3) := by decide +kernel
theorem qd_Law_law_292 : decode code 292 = .ok (.aload_n 2, 1) := by decide +kernel
theorem qd_Law_law_293 : decode code 293 = .ok (.aload_n 0, 1) := by decide +kernel
theorem qd_Law_law_294 : decode code 294 = .ok (.iload_n 3, 1) := by decide +kernel
theorem qd_Law_law_295 : decode code 295 = .ok (.iconst 1, 1) := by decide +kernel
theorem qd_Law_law_296 : decode code 296 = .ok (.iadd, 1) := by decide +kernel
theorem qd_Law_law_297 : decode code 297 = .ok (.iaload, 1) := by decide +kernel
theorem qd_Law_law_298 : decode code 298 = .ok (.invokevirtual 47, 3) := by decide +kernel
theorem qd_Law_law_301 : decode code 301 = .ok (.if_icmp .eq 337, 3) := by decide +kernel
theorem qd_Law_law_304 : decode code 304 = .ok (.iconst 0, 1) := by decide +kernel
theorem qd_Law_law_305 : decode code 305 = .ok (.ireturn, 1) := by decide +kernel
theorem qd_Law_law_306 : decode code 306 = .ok (.aload_n 1, 1) := by decide +kernel
theorem qd_Law_law_307 : decode code 307 = .ok (.aload_n 0, 1) := by decide +kernel
theorem qd_Law_law_308 : decode code 308 = .ok (.iload_n 3, 1) := by decide +kernel
theorem qd_Law_law_309 : decode code 309 = .ok (.iconst 1, 1) := by decide +kernel
theorem qd_Law_law_310 : decode code 310 = .ok (.iadd, 1) := by decide +kernel
theorem qd_Law_law_311 : decode code 311 = .ok (.iaload, 1) := by decide +kernel
theorem qd_Law_law_312 : decode code 312 = .ok (.aload_n 0, 1) := by decide +kernel
theorem qd_Law_law_313 : decode code 313 = .ok (.iload_n 3, 1) := by decide +kernel
theorem qd_Law_law_314 : decode code 314 = .ok (.iconst 2, 1) := by decide +kernel
theorem qd_Law_law_315 : decode code 315 = .ok (.iadd, 1) := by decide +kernel
theorem qd_Law_law_316 : decode code 316 = .ok (.iaload, 1) := by decide +kernel
theorem qd_Law_law_317 : decode code 317 = .ok (.invokevirtual 48, 3) := by decide +kernel
theorem qd_Law_law_320 : decode code 320 = .ok (.aload_n 2, 1) := by decide +kernel
theorem qd_Law_law_321 : decode code 321 = .ok (.aload_n 0, 1) := by decide +kernel
theorem qd_Law_law_322 : decode code 322 = .ok (.iload_n 3, 1) := by decide +kernel
theorem qd_Law_law_323 : decode code 323 = .ok (.iconst 1, 1) := by decide +kernel
theorem qd_Law_law_324 : decode code 324 = .ok (.iadd, 1) := by decide +kernel
theorem qd_Law_law_325 : decode code 325 = .ok (.iaload, 1) := by decide +kernel
theorem qd_Law_law_326 : decode code 326 = .ok (.aload_n 0, 1) := by decide +kernel
theorem qd_Law_law_327 : decode code 327 = .ok (.iload_n 3, 1) := by decide +kernel
theorem qd_Law_law_328 : decode code 328 = .ok (.iconst 2, 1) := by decide +kernel
theorem qd_Law_law_329 : decode code 329 = .ok (.iadd, 1) := by decide +kernel
theorem qd_Law_law_330 : decode code 330 = .ok (.iaload, 1) := by decide +kernel
theorem qd_Law_law_331 : decode code 331 = .ok (.invokevirtual 51, 3) := by decide +kernel
theorem qd_Law_law_334 : decode code 334 = .ok (.if_icmp .eq 304, 3) := by decide +kernel
theorem qd_Law_law_337 : decode code 337 = .ok (.iconst 0, 1) := by decide +kernel
theorem qd_Law_law_338 : decode code 338 = .ok (.ireturn, 1) := by decide +kernel
theorem qd_Law_law_339 : decode code 339 = .ok (.aload_n 1, 1) := by decide +kernel
theorem qd_Law_law_340 : decode code 340 = .ok (.aload_n 0, 1) := by decide +kernel
theorem qd_Law_law_341 : decode code 341 = .ok (.iload_n 3, 1) := by decide +kernel
theorem qd_Law_law_342 : decode code 342 = .ok (.iconst 1, 1) := by decide +kernel
theorem qd_Law_law_343 : decode code 343 = .ok (.iadd, 1) := by decide +kernel
theorem qd_Law_law_344 : decode code 344 = .ok (.iaload, 1) := by decide +kernel
theorem qd_Law_law_345 : decode code 345 = .ok (.invokevirtual 52, 3) := by decide +kernel
theorem qd_Law_law_348 : decode code 348 = .ok (.aload_n 2, 1) := by decide +kernel
theorem qd_Law_law_349 : decode code 349 = .ok (.aload_n 0, 1) := by decide +kernel
theorem qd_Law_law_350 : decode code 350 = .ok (.iload_n 3, 1) := by decide +kernel
theorem qd_Law_law_351 : decode code 351 = .ok (.iconst 1, 1) := by decide +kernel
theorem qd_Law_law_352 : decode code 352 = .ok (.iadd, 1) := by decide +kernel
theorem qd_Law_law_353 : decode code 353 = .ok (.iaload, 1) := by decide +kernel
theorem qd_Law_law_354 : decode code 354 = .ok (.invokevirtual 55, 3) := by decide +kernel
theorem qd_Law_law_357 : decode code 357 = .ok (.if_icmp .eq 281, 3) := by decide +kernel
theorem qd_Law_law_360 : decode code 360 = .ok (.iconst 0, 1) := by decide +kernel
theorem qd_Law_law_361 : decode code 361 = .ok (.ireturn, 1) := by decide +kernel
theorem qd_Law_law_362 : decode code 362 = .ok (.aload_n 1, 1) := by decide +kernel
theorem qd_Law_law_363 : decode code 363 = .ok (.aload_n 0, 1) := by decide +kernel
theorem qd_Law_law_364 : decode code 364 = .ok (.iload_n 3, 1) := by decide +kernel
theorem qd_Law_law_365 : decode code 365 = .ok (.iconst 1, 1) := by decide +kernel
theorem qd_Law_law_366 : decode code 366 = .ok (.iadd, 1) := by decide +kernel
theorem qd_Law_law_367 : decode code 367 = .ok (.iaload, 1) := by decide +kernel
theorem qd_Law_law_368 : decode code 368 = .ok (.invokevirtual 56, 3) := by decide +kernel
theorem qd_Law_law_371 : decode code 371 = .ok (.aload_n 2, 1) := by decide +kernel
theorem qd_Law_law_372 : decode code 372 = .ok (.aload_n 0, 1) := by decide +kernel
theorem qd_Law_law_373 : decode code 373 = .ok (.iload_n 3, 1) := by decide +kernel
theorem qd_Law_law_374 : decode code 374 = .ok (.iconst 1, 1) := by decide +kernel
theorem qd_Law_law_375 : decode code 375 = .ok (.iadd, 1) := by decide +kernel
theorem qd_Law_law_376 : decode code 376 = .ok (.iaload, 1) := by decide +kernel
theorem qd_Law_law_377 : decode code 377 = .ok (.invokevirtual 59, 3) := by decide +kernel
theorem qd_Law_law_380 : decode code 380 = .ok (.if_icmp .eq 258, 3) := by decide +kernel
theorem qd_Law_law_383 : decode code 383 = .ok (.iconst 0, 1) := by decide +kernel
theorem qd_Law_law_384 : decode code 384 = .ok (.ireturn, 1) := by decide +kernel
theorem qd_Law_law_385 : decode code 385 = .ok (.aload_n 1, 1) := by decide +kernel
theorem qd_Law_law_386 : decode code 386 = .ok (.aload_n 0, 1) := by decide +kernel
theorem qd_Law_law_387 : decode code 387 = .ok (.iload_n 3, 1) := by decide +kernel
theorem qd_Law_law_388 : decode code 388 = .ok (.iconst 1, 1) := by decide +kernel
theorem qd_Law_law_389 : decode code 389 = .ok (.iadd, 1) := by decide +kernel
theorem qd_Law_law_390 : decode code 390 = .ok (.iaload, 1) := by decide +kernel
theorem qd_Law_law_391 : decode code 391 = .ok (.invokevirtual 60, 3) := by decide +kernel
theorem qd_Law_law_394 : decode code 394 = .ok (.aload_n 2, 1) := by decide +kernel
theorem qd_Law_law_395 : decode code 395 = .ok (.aload_n 0, 1) := by decide +kernel
theorem qd_Law_law_396 : decode code 396 = .ok (.iload_n 3, 1) := by decide +kernel
theorem qd_Law_law_397 : decode code 397 = .ok (.iconst 1, 1) := by decide +kernel
theorem qd_Law_law_398 : decode code 398 = .ok (.iadd, 1) := by decide +kernel
theorem qd_Law_law_399 : decode code 399 = .ok (.iaload, 1) := by decide +kernel
theorem qd_Law_law_400 : decode code 400 = .ok (.invokevirtual 63, 3) := by decide +kernel
theorem qd_Law_law_403 : decode code 403 = .ok (.if_icmp .eq 235, 3) := by decide +kernel
theorem qd_Law_law_406 : decode code 406 = .ok (.iconst 0, 1) := by decide +kernel
theorem qd_Law_law_407 : decode code 407 = .ok (.ireturn, 1) := by decide +kernel
theorem qd_Law_law_408 : decode code 408 = .ok (.aload_n 1, 1) := by decide +kernel
theorem qd_Law_law_409 : decode code 409 = .ok (.aload_n 0, 1) := by decide +kernel
theorem qd_Law_law_410 : decode code 410 = .ok (.iload_n 3, 1) := by decide +kernel
theorem qd_Law_law_411 : decode code 411 = .ok (.iconst 1, 1) := by decide +kernel
theorem qd_Law_law_412 : decode code 412 = .ok (.iadd, 1) := by decide +kernel
theorem qd_Law_law_413 : decode code 413 = .ok (.iaload, 1) := by decide +kernel
theorem qd_Law_law_414 : decode code 414 = .ok (.invokevirtual 64, 3) := by decide +kernel
theorem qd_Law_law_417 : decode code 417 = .ok (.aload_n 2, 1) := by decide +kernel
theorem qd_Law_law_418 : decode code 418 = .ok (.aload_n 0, 1) := by decide +kernel
theorem qd_Law_law_419 : decode code 419 = .ok (.iload_n 3, 1) := by decide +kernel
theorem qd_Law_law_420 : decode code 420 = .ok (.iconst 1, 1) := by decide +kernel
theorem qd_Law_law_421 : decode code 421 = .ok (.iadd, 1) := by decide +kernel
theorem qd_Law_law_422 : decode code 422 = .ok (.iaload, 1) := by decide +kernel
theorem qd_Law_law_423 : decode code 423 = .ok (.invokevirtual 67, 3) := by decide +kernel
theorem qd_Law_law_426 : decode code 426 = .ok (.if_icmp .eq 212, 3) := by decide +kernel
theorem qd_Law_law_429 : decode code 429 = .ok (.iconst 0, 1) := by decide +kernel
theorem qd_Law_law_430 : decode code 430 = .ok (.ireturn, 1) := by decide +kernel
theorem qd_Law_law_431 : decode code 431 = .ok (.aload_n 1, 1) := by decide +kernel
theorem qd_Law_law_432 : decode code 432 = .ok (.aload_n 0, 1) := by decide +kernel
theorem qd_Law_law_433 : decode code 433 = .ok (.iload_n 3, 1) := by decide +kernel
theorem qd_Law_law_434 : decode code 434 = .ok (.iconst 1, 1) := by decide +kernel
theorem qd_Law_law_435 : decode code 435 = .ok (.iadd, 1) := by decide +kernel
theorem qd_Law_law_436 : decode code 436 = .ok (.iaload, 1) := by decide +kernel
theorem qd_Law_law_437 : decode code 437 = .ok (.aload_n 0, 1) := by decide +kernel
theorem qd_Law_law_438 : decode code 438 = .ok (.iload_n 3, 1) := by decide +kernel
theorem qd_Law_law_439 : decode code 439 = .ok (.iconst 2, 1) := by decide +kernel
theorem qd_Law_law_440 : decode code 440 = .ok (.iadd, 1) := by decide +kernel
theorem qd_Law_law_441 : decode code 441 = .ok (.iaload, 1) := by decide +kernel
theorem qd_Law_law_442 : decode code 442 = .ok (.invokevirtual 68, 3) := by decide +kernel
theorem qd_Law_law_445 : decode code 445 = .ok (.aload_n 2, 1) := by decide +kernel
theorem qd_Law_law_446 : decode code 446 = .ok (.aload_n 0, 1) := by decide +kernel
theorem qd_Law_law_447 : decode code 447 = .ok (.iload_n 3, 1) := by decide +kernel
theorem qd_Law_law_448 : decode code 448 = .ok (.iconst 1, 1) := by decide +kernel
theorem qd_Law_law_449 : decode code 449 = .ok (.iadd, 1) := by decide +kernel
theorem qd_Law_law_450 : decode code 450 = .ok (.iaload, 1) := by decide +kernel
theorem qd_Law_law_451 : decode code 451 = .ok (.aload_n 0, 1) := by decide +kernel
theorem qd_Law_law_452 : decode code 452 = .ok (.iload_n 3, 1) := by decide +kernel
theorem qd_Law_law_453 : decode code 453 = .ok (.iconst 2, 1) := by decide +kernel
theorem qd_Law_law_454 : decode code 454 = .ok (.iadd, 1) := by decide +kernel
theorem qd_Law_law_455 : decode code 455 = .ok (.iaload, 1) := by decide +kernel
theorem qd_Law_law_456 : decode code 456 = .ok (.invokevirtual 71, 3) := by decide +kernel
theorem qd_Law_law_459 : decode code 459 = .ok (.if_icmp .eq 179, 3) := by decide +kernel
theorem qd_Law_law_462 : decode code 462 = .ok (.iconst 0, 1) := by decide +kernel
theorem qd_Law_law_463 : decode code 463 = .ok (.ireturn, 1) := by decide +kernel
theorem qd_Law_law_464 : decode code 464 = .ok (.aload_n 1, 1) := by decide +kernel
theorem qd_Law_law_465 : decode code 465 = .ok (.aload_n 0, 1) := by decide +kernel
theorem qd_Law_law_466 : decode code 466 = .ok (.iload_n 3, 1) := by decide +kernel
theorem qd_Law_law_467 : decode code 467 = .ok (.iconst 1, 1) := by decide +kernel
theorem qd_Law_law_468 : decode code 468 = .ok (.iadd, 1) := by decide +kernel
theorem qd_Law_law_469 : decode code 469 = .ok (.iaload, 1) := by decide +kernel
theorem qd_Law_law_470 : decode code 470 = .ok (.invokevirtual 72, 3) := by decide +kernel
theorem qd_Law_law_473 : decode code 473 = .ok (.aload_n 2, 1) := by decide +kernel
theorem qd_Law_law_474 : decode code 474 = .ok (.aload_n 0, 1) := by decide +kernel
theorem qd_Law_law_475 : decode code 475 = .ok (.iload_n 3, 1) := by decide +kernel
theorem qd_Law_law_476 : decode code 476 = .ok (.iconst 1, 1) := by decide +kernel
theorem qd_Law_law_477 : decode code 477 = .ok (.iadd, 1) := by decide +kernel
theorem qd_Law_law_478 : decode code 478 = .ok (.iaload, 1) := by decide +kernel
theorem qd_Law_law_479 : decode code 479 = .ok (.invokevirtual 75, 3) := by decide +kernel
theorem qd_Law_law_482 : decode code 482 = .ok (.if_icmp .eq 156, 3) := by decide +kernel
theorem qd_Law_law_485 : decode code 485 = .ok (.iconst 0, 1) := by decide +kernel
theorem qd_Law_law_486 : decode code 486 = .ok (.ireturn, 1) := by decide +kernel
theorem qd_Law_law_487 : decode code 487 = .ok (.aload_n 1, 1) := by decide +kernel
theorem qd_Law_law_488 : decode code 488 = .ok (.aload_n 0, 1) := by decide +kernel
theorem qd_Law_law_489 : decode code 489 = .ok (.iload_n 3, 1) := by decide +kernel
theorem qd_Law_law_490 : decode code 490 = .ok (.iconst 1, 1) := by decide +kernel
theorem qd_Law_law_491 : decode code 491 = .ok (.iadd, 1) := by decide +kernel
theorem qd_Law_law_492 : decode code 492 = .ok (.iaload, 1) := by decide +kernel
theorem qd_Law_law_493 : decode code 493 = .ok (.aload_n 0, 1) := by decide +kernel
theorem qd_Law_law_494 : decode code 494 = .ok (.iload_n 3, 1) := by decide +kernel
theorem qd_Law_law_495 : decode code 495 = .ok (.iconst 2, 1) := by decide +kernel
theorem qd_Law_law_496 : decode code 496 = .ok (.iadd, 1) := by decide +kernel
theorem qd_Law_law_497 : decode code 497 = .ok (.iaload, 1) := by decide +kernel
theorem qd_Law_law_498 : decode code 498 = .ok (.invokevirtual 76, 3) := by decide +kernel
theorem qd_Law_law_501 : decode code 501 = .ok (.aload_n 2, 1) := by decide +kernel
theorem qd_Law_law_502 : decode code 502 = .ok (.aload_n 0, 1) := by decide +kernel
theorem qd_Law_law_503 : decode code 503 = .ok (.iload_n 3, 1) := by decide +kernel
theorem qd_Law_law_504 : decode code 504 = .ok (.iconst 1, 1) := by decide +kernel
theorem qd_Law_law_505 : decode code 505 = .ok (.iadd, 1) := by decide +kernel
theorem qd_Law_law_506 : decode code 506 = .ok (.iaload, 1) := by decide +kernel
theorem qd_Law_law_507 : decode code 507 = .ok (.aload_n 0, 1) := by decide +kernel
theorem qd_Law_law_508 : decode code 508 = .ok (.iload_n 3, 1) := by decide +kernel
theorem qd_Law_law_509 : decode code 509 = .ok (.iconst 2, 1) := by decide +kernel
theorem qd_Law_law_510 : decode code 510 = .ok (.iadd, 1) := by decide +kernel
theorem qd_Law_law_511 : decode code 511 = .ok (.iaload, 1) := by decide +kernel
theorem qd_Law_law_512 : decode code 512 = .ok (.invokevirtual 79, 3) := by decide +kernel
theorem qd_Law_law_515 : decode code 515 = .ok (.if_icmp .eq 123, 3) := by decide +kernel
theorem qd_Law_law_518 : decode code 518 = .ok (.iconst 0, 1) := by decide +kernel
theorem qd_Law_law_519 : decode code 519 = .ok (.ireturn, 1) := by decide +kernel
theorem qd_Law_law_520 : decode code 520 = .ok (.aload_n 1, 1) := by decide +kernel
theorem qd_Law_law_521 : decode code 521 = .ok (.aload_n 0, 1) := by decide +kernel
theorem qd_Law_law_522 : decode code 522 = .ok (.iload_n 3, 1) := by decide +kernel
theorem qd_Law_law_523 : decode code 523 = .ok (.iconst 1, 1) := by decide +kernel
theorem qd_Law_law_524 : decode code 524 = .ok (.iadd, 1) := by decide +kernel
theorem qd_Law_law_525 : decode code 525 = .ok (.iaload, 1) := by decide +kernel
theorem qd_Law_law_526 : decode code 526 = .ok (.aload_n 0, 1) := by decide +kernel
theorem qd_Law_law_527 : decode code 527 = .ok (.iload_n 3, 1) := by decide +kernel
theorem qd_Law_law_528 : decode code 528 = .ok (.iconst 2, 1) := by decide +kernel
theorem qd_Law_law_529 : decode code 529 = .ok (.iadd, 1) := by decide +kernel
theorem qd_Law_law_530 : decode code 530 = .ok (.iaload, 1) := by decide +kernel
theorem qd_Law_law_531 : decode code 531 = .ok (.aload_n 0, 1) := by decide +kernel
theorem qd_Law_law_532 : decode code 532 = .ok (.iload_n 3, 1) := by decide +kernel
theorem qd_Law_law_533 : decode code 533 = .ok (.iconst 3, 1) := by decide +kernel
theorem qd_Law_law_534 : decode code 534 = .ok (.iadd, 1) := by decide +kernel
theorem qd_Law_law_535 : decode code 535 = .ok (.iaload, 1) := by decide +kernel
theorem qd_Law_law_536 : decode code 536 = .ok (.invokevirtual 80, 3) := by decide +kernel
theorem qd_Law_law_539 : decode code 539 = .ok (.aload_n 2, 1) := by decide +kernel
theorem qd_Law_law_540 : decode code 540 = .ok (.aload_n 0, 1) := by decide +kernel
theorem qd_Law_law_541 : decode code 541 = .ok (.iload_n 3, 1) := by decide +kernel
theorem qd_Law_law_542 : decode code 542 = .ok (.iconst 1, 1) := by decide +kernel
theorem qd_Law_law_543 : decode code 543 = .ok (.iadd, 1) := by decide +kernel
theorem qd_Law_law_544 : decode code 544 = .ok (.iaload, 1) := by decide +kernel
theorem qd_Law_law_545 : decode code 545 = .ok (.aload_n 0, 1) := by decide +kernel
theorem qd_Law_law_546 : decode code 546 = .ok (.iload_n 3, 1) := by decide +kernel
theorem qd_Law_law_547 : decode code 547 = .ok (.iconst 2, 1) := by decide +kernel
theorem qd_Law_law_548 : decode code 548 = .ok (.iadd, 1) := by decide +kernel
theorem qd_Law_law_549 : decode code 549 = .ok (.iaload, 1) := by decide +kernel
theorem qd_Law_law_550 : decode code 550 = .ok (.aload_n 0, 1) := by decide +kernel
theorem qd_Law_law_551 : decode code 551 = .ok (.iload_n 3, 1) := by decide +kernel
theorem qd_Law_law_552 : decode code 552 = .ok (.iconst 3, 1) := by decide +kernel
theorem qd_Law_law_553 : decode code 553 = .ok (.iadd, 1) := by decide +kernel
theorem qd_Law_law_554 : decode code 554 = .ok (.iaload, 1) := by decide +kernel
theorem qd_Law_law_555 : decode code 555 = .ok (.invokevirtual 84, 3) := by decide +kernel
theorem qd_Law_law_558 : decode code 558 = .ok (.if_icmp .eq 80, 3) := by decide +kernel
theorem qd_Law_law_561 : decode code 561 = .ok (.iconst 0, 1) := by decide +kernel
theorem qd_Law_law_562 : decode code 562 = .ok (.ireturn, 1) := by decide +kernel
theorem qd_Law_law_563 : decode code 563 = .ok (.aload_n 1, 1) := by decide +kernel
theorem qd_Law_law_564 : decode code 564 = .ok (.invokevirtual 85, 3) := by decide +kernel
theorem qd_Law_law_567 : decode code 567 = .ok (.aload_n 2, 1) := by decide +kernel
theorem qd_Law_law_568 : decode code 568 = .ok (.invokevirtual 89, 3) := by decide +kernel
theorem qd_Law_law_571 : decode code 571 = .ok (.if_icmp .eq 67, 3) := by decide +kernel
theorem qd_Law_law_574 : decode code 574 = .ok (.iconst 0, 1) := by decide +kernel
theorem qd_Law_law_575 : decode code 575 = .ok (.ireturn, 1) := by decide +kernel
theorem qd_Law_law_576 : decode code 576 = .ok (.aload_n 1, 1) := by decide +kernel
theorem qd_Law_law_577 : decode code 577 = .ok (.invokevirtual 90, 3) := by decide +kernel
theorem qd_Law_law_580 : decode code 580 = .ok (.aload_n 2, 1) := by decide +kernel
theorem qd_Law_law_581 : decode code 581 = .ok (.invokevirtual 93, 3) := by decide +kernel
theorem qd_Law_law_584 : decode code 584 = .ok (.if_icmp .eq 54, 3) := by decide +kernel
theorem qd_Law_law_587 : decode code 587 = .ok (.iconst 0, 1) := by decide +kernel
theorem qd_Law_law_588 : decode code 588 = .ok (.ireturn, 1) := by decide +kernel
theorem qd_Law_law_589 : decode code 589 = .ok (.aload_n 1, 1) := by decide +kernel
theorem qd_Law_law_590 : decode code 590 = .ok (.invokevirtual 94, 3) := by decide +kernel
theorem qd_Law_law_593 : decode code 593 = .ok (.aload_n 2, 1) := by decide +kernel
theorem qd_Law_law_594 : decode code 594 = .ok (.invokevirtual 97, 3) := by decide +kernel
theorem qd_Law_law_597 : decode code 597 = .ok (.if_icmp .eq 41, 3) := by decide +kernel
theorem qd_Law_law_600 : decode code 600 = .ok (.iconst 0, 1) := by decide +kernel
theorem qd_Law_law_601 : decode code 601 = .ok (.ireturn, 1) := by decide +kernel
theorem qd_Law_law_602 : decode code 602 = .ok (.aload_n 1, 1) := by decide +kernel
theorem qd_Law_law_603 : decode code 603 = .ok (.invokevirtual 98, 3) := by decide +kernel
theorem qd_Law_law_606 : decode code 606 = .ok (.aload_n 2, 1) := by decide +kernel
theorem qd_Law_law_607 : decode code 607 = .ok (.invokevirtual 101, 3) := by decide +kernel
theorem qd_Law_law_610 : decode code 610 = .ok (.if_icmp .eq 28, 3) := by decide +kernel
theorem qd_Law_law_613 : decode code 613 = .ok (.iconst 0, 1) := by decide +kernel
theorem qd_Law_law_614 : decode code 614 = .ok (.ireturn, 1) := by decide +kernel
theorem qd_Law_law_615 : decode code 615 = .ok (.aload_n 1, 1) := by decide +kernel
theorem qd_Law_law_616 : decode code 616 = .ok (.aload_n 0, 1) := by decide +kernel
theorem qd_Law_law_617 : decode code 617 = .ok (.iload_n 3, 1) := by decide +kernel
theorem qd_Law_law_618 : decode code 618 = .ok (.iconst 1, 1) := by decide +kernel
theorem qd_Law_law_619 : decode code 619 = .ok (.iadd, 1) := by decide +kernel
theorem qd_Law_law_620 : decode code 620 = .ok (.iaload, 1) := by decide +kernel
theorem qd_Law_law_621 : decode code 621 = .ok (.invokevirtual 102, 3) := by decide +kernel
theorem qd_Law_law_624 : decode code 624 = .ok (.aload_n 2, 1) := by decide +kernel
theorem qd_Law_law_625 : decode code 625 = .ok (.aload_n 0, 1) := by decide +kernel
theorem qd_Law_law_626 : decode code 626 = .ok (.iload_n 3, 1) := by decide +kernel
theorem qd_Law_law_627 : decode code 627 = .ok (.iconst 1, 1) := by decide +kernel
theorem qd_Law_law_628 : decode code 628 = .ok (.iadd, 1) := by decide +kernel
theorem qd_Law_law_629 : decode code 629 = .ok (.iaload, 1) := by decide +kernel
theorem qd_Law_law_630 : decode code 630 = .ok (.invokevirtual 106, 3) := by decide +kernel
theorem qd_Law_law_633 : decode code 633 = .ok (.if_icmp .eq 5, 3) := by decide +kernel
theorem qd_Law_law_636 : decode code 636 = .ok (.iconst 0, 1) := by decide +kernel
theorem qd_Law_law_637 : decode code 637 = .ok (.ireturn, 1) := by decide +kernel
theorem qd_Law_law_638 : decode code 638 = .ok (.iinc 3 4, 3) := by decide +kernel
theorem qd_Law_law_641 : decode code 641 = .ok (.goto (-613), 3) := by decide +kernel
theorem qd_Law_law_644 : decode code 644 = .ok (.iconst 1, 1) := by decide +kernel
theorem qd_Law_law_645 : decode code 645 = .ok (.ireturn, 1) := by decide +kernel
