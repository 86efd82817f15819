theorem dJ0_length_8abf5_0 : decode cJ0_length_8abf5 0 = .ok (.aload_n 0, 1) := by decide +kernel
theorem dJ0_length_8abf5_1 : decode cJ0_length_8abf5 1 = .ok (.getfield 9, 3) := by decide +kernel
theorem dJ0_length_8abf5_4 : decode cJ0_length_8abf5 4 = .ok (.arraylength, 1) := by decide +kernel
theorem dJ0_length_8abf5_5 : decode cJ0_length_8abf5 5 = .ok (.aload_n 0, 1) := by decide +kernel
theorem dJ0_length_8abf5_6 : decode cJ0_length_8abf5 6 = .ok (.invokevirtual 335, 3) := by decide +kernel
theorem dJ0_length_8abf5_9 : decode cJ0_length_8abf5 9 = .ok (.ishr, 1) := by decide +kernel
theorem dJ0_length_8abf5_10 : decode cJ0_length_8abf5 10 = .ok (.ireturn, 1) := by decide +kernel
theorem dJ0_charAt_5068e_0 : decode cJ0_charAt_5068e 0 = .ok (.aload_n 0, 1) := by decide +kernel
theorem dJ0_charAt_5068e_1 : decode cJ0_charAt_5068e 1 = .ok (.invokevirtual 492, 3) := by decide +kernel
theorem dJ0_charAt_5068e_4 : decode cJ0_charAt_5068e 4 = .ok (.ifCond .eq 12, 3) := by decide +kernel
theorem dJ0_charAt_5068e_7 : decode cJ0_charAt_5068e 7 = .ok (.aload_n 0, 1) := by decide +kernel
theorem dJ0_charAt_5068e_8 : decode cJ0_charAt_5068e 8 = .ok (.getfield 9, 3) := by decide +kernel
theorem dJ0_charAt_5068e_11 : decode cJ0_charAt_5068e 11 = .ok (.iload_n 1, 1) := by decide +kernel
theorem dJ0_charAt_5068e_12 : decode cJ0_charAt_5068e 12 = .ok (.invokestatic 495, 3) := by decide +kernel
theorem dJ0_charAt_5068e_15 : decode cJ0_charAt_5068e 15 = .ok (.ireturn, 1) := by decide +kernel
theorem dJ0_charAt_5068e_16 : decode cJ0_charAt_5068e 16 = .ok (.aload_n 0, 1) := by decide +kernel
theorem dJ0_charAt_5068e_17 : decode cJ0_charAt_5068e 17 = .ok (.getfield 9, 3) := by decide +kernel
theorem dJ0_charAt_5068e_20 : decode cJ0_charAt_5068e 20 = .ok (.iload_n 1, 1) := by decide +kernel
theorem dJ0_charAt_5068e_21 : decode cJ0_charAt_5068e 21 = .ok (.invokestatic 498, 3) := by decide +kernel
theorem dJ0_charAt_5068e_24 : decode cJ0_charAt_5068e 24 = .ok (.ireturn, 1) := by decide +kernel
theorem dJ0_indexOf_0f7a4_0 : decode cJ0_indexOf_0f7a4 0 = .ok (.aload_n 0, 1) := by decide +kernel
theorem dJ0_indexOf_0f7a4_1 : decode cJ0_indexOf_0f7a4 1 = .ok (.iload_n 1, 1) := by decide +kernel
theorem dJ0_indexOf_0f7a4_2 : decode cJ0_indexOf_0f7a4 2 = .ok (.iconst 0, 1) := by decide +kernel
theorem dJ0_indexOf_0f7a4_3 : decode cJ0_indexOf_0f7a4 3 = .ok (.invokevirtual 633, 3) := by decide +kernel
theorem dJ0_indexOf_0f7a4_6 : decode cJ0_indexOf_0f7a4 6 = .ok (.ireturn, 1) := by decide +kernel
theorem dJ0_indexOf_7cf53_0 : decode cJ0_indexOf_7cf53 0 = .ok (.aload_n 0, 1) := by decide +kernel
theorem dJ0_indexOf_7cf53_1 : decode cJ0_indexOf_7cf53 1 = .ok (.invokevirtual 492, 3) := by decide +kernel
theorem dJ0_indexOf_7cf53_4 : decode cJ0_indexOf_7cf53 4 = .ok (.ifCond .eq 19, 3) := by decide +kernel
theorem dJ0_indexOf_7cf53_7 : decode cJ0_indexOf_7cf53 7 = .ok (.aload_n 0, 1) := by decide +kernel
theorem dJ0_indexOf_7cf53_8 : decode cJ0_indexOf_7cf53 8 = .ok (.getfield 9, 3) := by decide +kernel
theorem dJ0_indexOf_7cf53_11 : decode cJ0_indexOf_7cf53 11 = .ok (.iload_n 1, 1) := by decide +kernel
theorem dJ0_indexOf_7cf53_12 : decode cJ0_indexOf_7cf53 12 = .ok (.iload_n 2, 1) := by decide +kernel
theorem dJ0_indexOf_7cf53_13 : decode cJ0_indexOf_7cf53 13 = .ok (.aload_n 0, 1) := by decide +kernel
theorem dJ0_indexOf_7cf53_14 : decode cJ0_indexOf_7cf53 14 = .ok (.invokevirtual 505, 3) := by decide +kernel
theorem dJ0_indexOf_7cf53_17 : decode cJ0_indexOf_7cf53 17 = .ok (.invokestatic 637, 3) := by decide +kernel
theorem dJ0_indexOf_7cf53_20 : decode cJ0_indexOf_7cf53 20 = .ok (.goto 16, 3) := by decide +kernel
theorem dJ0_indexOf_7cf53_23 : decode cJ0_indexOf_7cf53 23 = .ok (.aload_n 0, 1) := by decide +kernel
theorem dJ0_indexOf_7cf53_24 : decode cJ0_indexOf_7cf53 24 = .ok (.getfield 9, 3) := by decide +kernel
theorem dJ0_indexOf_7cf53_27 : decode cJ0_indexOf_7cf53 27 = .ok (.iload_n 1, 1) := by decide +kernel
theorem dJ0_indexOf_7cf53_28 : decode cJ0_indexOf_7cf53 28 = .ok (.iload_n 2, 1) := by decide +kernel
theorem dJ0_indexOf_7cf53_29 : decode cJ0_indexOf_7cf53 29 = .ok (.aload_n 0, 1) := by decide +kernel
theorem dJ0_indexOf_7cf53_30 : decode cJ0_indexOf_7cf53 30 = .ok (.invokevirtual 505, 3) := by decide +kernel
theorem dJ0_indexOf_7cf53_33 : decode cJ0_indexOf_7cf53 33 = .ok (.invokestatic 640, 3) := by decide +kernel
theorem dJ0_indexOf_7cf53_36 : decode cJ0_indexOf_7cf53 36 = .ok (.ireturn, 1) := by decide +kernel
theorem dJ0_coder_7d493_0 : decode cJ0_coder_7d493 0 = .ok (.getstatic 38, 3) := by decide +kernel
theorem dJ0_coder_7d493_3 : decode cJ0_coder_7d493 3 = .ok (.ifCond .eq 10, 3) := by decide +kernel
theorem dJ0_coder_7d493_6 : decode cJ0_coder_7d493 6 = .ok (.aload_n 0, 1) := by decide +kernel
theorem dJ0_coder_7d493_7 : decode cJ0_coder_7d493 7 = .ok (.getfield 15, 3) := by decide +kernel
theorem dJ0_coder_7d493_10 : decode cJ0_coder_7d493 10 = .ok (.goto 4, 3) := by decide +kernel
theorem dJ0_coder_7d493_13 : decode cJ0_coder_7d493 13 = .ok (.iconst 1, 1) := by decide +kernel
theorem dJ0_coder_7d493_14 : decode cJ0_coder_7d493 14 = .ok (.ireturn, 1) := by decide +kernel
theorem dJ0_isLatin1_aae02_0 : decode cJ0_isLatin1_aae02 0 = .ok (.getstatic 38, 3) := by decide +kernel
theorem dJ0_isLatin1_aae02_3 : decode cJ0_isLatin1_aae02 3 = .ok (.ifCond .eq 14, 3) := by decide +kernel
theorem dJ0_isLatin1_aae02_6 : decode cJ0_isLatin1_aae02 6 = .ok (.aload_n 0, 1) := by decide +kernel
theorem dJ0_isLatin1_aae02_7 : decode cJ0_isLatin1_aae02 7 = .ok (.getfield 15, 3) := by decide +kernel
theorem dJ0_isLatin1_aae02_10 : decode cJ0_isLatin1_aae02 10 = .ok (.ifCond .ne 7, 3) := by decide +kernel
theorem dJ0_isLatin1_aae02_13 : decode cJ0_isLatin1_aae02 13 = .ok (.iconst 1, 1) := by decide +kernel
theorem dJ0_isLatin1_aae02_14 : decode cJ0_isLatin1_aae02 14 = .ok (.goto 4, 3) := by decide +kernel
theorem dJ0_isLatin1_aae02_17 : decode cJ0_isLatin1_aae02 17 = .ok (.iconst 0, 1) := by decide +kernel
theorem dJ0_isLatin1_aae02_18 : decode cJ0_isLatin1_aae02 18 = .ok (.ireturn, 1) := by decide +kernel
theorem dJ0_checkIndex_df160_0 : decode cJ0_checkIndex_df160 0 = .ok (.iload_n 0, 1) := by decide +kernel
theorem dJ0_checkIndex_df160_1 : decode cJ0_checkIndex_df160 1 = .ok (.iload_n 1, 1) := by decide +kernel
theorem dJ0_checkIndex_df160_2 : decode cJ0_checkIndex_df160 2 = .ok (.getstatic 1053, 3) := by decide +kernel
theorem dJ0_checkIndex_df160_5 : decode cJ0_checkIndex_df160 5 = .ok (.invokestatic 1059, 3) := by decide +kernel
theorem dJ0_checkIndex_df160_8 : decode cJ0_checkIndex_df160 8 = .ok (.pop, 1) := by decide +kernel
theorem dJ0_checkIndex_df160_9 : decode cJ0_checkIndex_df160 9 = .ok (.return_, 1) := by decide +kernel
theorem dJ1_charAt_3b067_0 : decode cJ1_charAt_3b067 0 = .ok (.iload_n 1, 1) := by decide +kernel
theorem dJ1_charAt_3b067_1 : decode cJ1_charAt_3b067 1 = .ok (.aload_n 0, 1) := by decide +kernel
theorem dJ1_charAt_3b067_2 : decode cJ1_charAt_3b067 2 = .ok (.arraylength, 1) := by decide +kernel
theorem dJ1_charAt_3b067_3 : decode cJ1_charAt_3b067 3 = .ok (.invokestatic 9, 3) := by decide +kernel
theorem dJ1_charAt_3b067_6 : decode cJ1_charAt_3b067 6 = .ok (.aload_n 0, 1) := by decide +kernel
theorem dJ1_charAt_3b067_7 : decode cJ1_charAt_3b067 7 = .ok (.iload_n 1, 1) := by decide +kernel
theorem dJ1_charAt_3b067_8 : decode cJ1_charAt_3b067 8 = .ok (.baload, 1) := by decide +kernel
theorem dJ1_charAt_3b067_9 : decode cJ1_charAt_3b067 9 = .ok (.sipush 255, 3) := by decide +kernel
theorem dJ1_charAt_3b067_12 : decode cJ1_charAt_3b067 12 = .ok (.iand, 1) := by decide +kernel
theorem dJ1_charAt_3b067_13 : decode cJ1_charAt_3b067 13 = .ok (.i2c, 1) := by decide +kernel
theorem dJ1_charAt_3b067_14 : decode cJ1_charAt_3b067 14 = .ok (.ireturn, 1) := by decide +kernel
theorem dJ1_canEncode_9a6ad_0 : decode cJ1_canEncode_9a6ad 0 = .ok (.iload_n 0, 1) := by decide +kernel
theorem dJ1_canEncode_9a6ad_1 : decode cJ1_canEncode_9a6ad 1 = .ok (.ifCond .lt 14, 3) := by decide +kernel
theorem dJ1_canEncode_9a6ad_4 : decode cJ1_canEncode_9a6ad 4 = .ok (.iload_n 0, 1) := by decide +kernel
theorem dJ1_canEncode_9a6ad_5 : decode cJ1_canEncode_9a6ad 5 = .ok (.sipush 255, 3) := by decide +kernel
theorem dJ1_canEncode_9a6ad_8 : decode cJ1_canEncode_9a6ad 8 = .ok (.if_icmp .gt 7, 3) := by decide +kernel
theorem dJ1_canEncode_9a6ad_11 : decode cJ1_canEncode_9a6ad 11 = .ok (.iconst 1, 1) := by decide +kernel
theorem dJ1_canEncode_9a6ad_12 : decode cJ1_canEncode_9a6ad 12 = .ok (.goto 4, 3) := by decide +kernel
theorem dJ1_canEncode_9a6ad_15 : decode cJ1_canEncode_9a6ad 15 = .ok (.iconst 0, 1) := by decide +kernel
theorem dJ1_canEncode_9a6ad_16 : decode cJ1_canEncode_9a6ad 16 = .ok (.ireturn, 1) := by decide +kernel
theorem dJ1_indexOf_4cfef_0 : decode cJ1_indexOf_4cfef 0 = .ok (.iload_n 1, 1) := by decide +kernel
theorem dJ1_indexOf_4cfef_1 : decode cJ1_indexOf_4cfef 1 = .ok (.invokestatic 88, 3) := by decide +kernel
theorem dJ1_indexOf_4cfef_4 : decode cJ1_indexOf_4cfef 4 = .ok (.ifCond .ne 5, 3) := by decide +kernel
theorem dJ1_indexOf_4cfef_7 : decode cJ1_indexOf_4cfef 7 = .ok (.iconst (-1), 1) := by decide +kernel
theorem dJ1_indexOf_4cfef_8 : decode cJ1_indexOf_4cfef 8 = .ok (.ireturn, 1) := by decide +kernel
theorem dJ1_indexOf_4cfef_9 : decode cJ1_indexOf_4cfef 9 = .ok (.iload_n 2, 1) := by decide +kernel
theorem dJ1_indexOf_4cfef_10 : decode cJ1_indexOf_4cfef 10 = .ok (.iconst 0, 1) := by decide +kernel
theorem dJ1_indexOf_4cfef_11 : decode cJ1_indexOf_4cfef 11 = .ok (.invokestatic 92, 3) := by decide +kernel
theorem dJ1_indexOf_4cfef_14 : decode cJ1_indexOf_4cfef 14 = .ok (.istore_n 2, 1) := by decide +kernel
theorem dJ1_indexOf_4cfef_15 : decode cJ1_indexOf_4cfef 15 = .ok (.iload_n 3, 1) := by decide +kernel
theorem dJ1_indexOf_4cfef_16 : decode cJ1_indexOf_4cfef 16 = .ok (.aload_n 0, 1) := by decide +kernel
theorem dJ1_indexOf_4cfef_17 : decode cJ1_indexOf_4cfef 17 = .ok (.arraylength, 1) := by decide +kernel
theorem dJ1_indexOf_4cfef_18 : decode cJ1_indexOf_4cfef 18 = .ok (.invokestatic 38, 3) := by decide +kernel
theorem dJ1_indexOf_4cfef_21 : decode cJ1_indexOf_4cfef 21 = .ok (.istore_n 3, 1) := by decide +kernel
theorem dJ1_indexOf_4cfef_22 : decode cJ1_indexOf_4cfef 22 = .ok (.iload_n 2, 1) := by decide +kernel
theorem dJ1_indexOf_4cfef_23 : decode cJ1_indexOf_4cfef 23 = .ok (.iload_n 3, 1) := by decide +kernel
theorem dJ1_indexOf_4cfef_24 : decode cJ1_indexOf_4cfef 24 = .ok (.if_icmp .lt 5, 3) := by decide +kernel
theorem dJ1_indexOf_4cfef_27 : decode cJ1_indexOf_4cfef 27 = .ok (.iconst (-1), 1) := by decide +kernel
theorem dJ1_indexOf_4cfef_28 : decode cJ1_indexOf_4cfef 28 = .ok (.ireturn, 1) := by decide +kernel
theorem dJ1_indexOf_4cfef_29 : decode cJ1_indexOf_4cfef 29 = .ok (.aload_n 0, 1) := by decide +kernel
theorem dJ1_indexOf_4cfef_30 : decode cJ1_indexOf_4cfef 30 = .ok (.iload_n 1, 1) := by decide +kernel
theorem dJ1_indexOf_4cfef_31 : decode cJ1_indexOf_4cfef 31 = .ok (.iload_n 2, 1) := by decide +kernel
theorem dJ1_indexOf_4cfef_32 : decode cJ1_indexOf_4cfef 32 = .ok (.iload_n 3, 1) := by decide +kernel
theorem dJ1_indexOf_4cfef_33 : decode cJ1_indexOf_4cfef 33 = .ok (.invokestatic 95, 3) := by decide +kernel
theorem dJ1_indexOf_4cfef_36 : decode cJ1_indexOf_4cfef 36 = .ok (.ireturn, 1) := by decide +kernel
theorem dJ1_indexOfChar_4cfef_0 : decode cJ1_indexOfChar_4cfef 0 = .ok (.iload_n 1, 1) := by decide +kernel
theorem dJ1_indexOfChar_4cfef_1 : decode cJ1_indexOfChar_4cfef 1 = .ok (.i2b, 1) := by decide +kernel
theorem dJ1_indexOfChar_4cfef_2 : decode cJ1_indexOfChar_4cfef 2 = .ok (.istore 4, 2) := by decide +kernel
theorem dJ1_indexOfChar_4cfef_4 : decode cJ1_indexOfChar_4cfef 4 = .ok (.iload_n 2, 1) := by decide +kernel
theorem dJ1_indexOfChar_4cfef_5 : decode cJ1_indexOfChar_4cfef 5 = .ok (.istore 5, 2) := by decide +kernel
theorem dJ1_indexOfChar_4cfef_7 : decode cJ1_indexOfChar_4cfef 7 = .ok (.iload 5, 2) := by decide +kernel
theorem dJ1_indexOfChar_4cfef_9 : decode cJ1_indexOfChar_4cfef 9 = .ok (.iload_n 3, 1) := by decide +kernel
theorem dJ1_indexOfChar_4cfef_10 : decode cJ1_indexOfChar_4cfef 10 = .ok (.if_icmp .ge 21, 3) := by decide +kernel
theorem dJ1_indexOfChar_4cfef_13 : decode cJ1_indexOfChar_4cfef 13 = .ok (.aload_n 0, 1) := by decide +kernel
theorem dJ1_indexOfChar_4cfef_14 : decode cJ1_indexOfChar_4cfef 14 = .ok (.iload 5, 2) := by decide +kernel
theorem dJ1_indexOfChar_4cfef_16 : decode cJ1_indexOfChar_4cfef 16 = .ok (.baload, 1) := by decide +kernel
theorem dJ1_indexOfChar_4cfef_17 : decode cJ1_indexOfChar_4cfef 17 = .ok (.iload 4, 2) := by decide +kernel
theorem dJ1_indexOfChar_4cfef_19 : decode cJ1_indexOfChar_4cfef 19 = .ok (.if_icmp .ne 6, 3) := by decide +kernel
theorem dJ1_indexOfChar_4cfef_22 : decode cJ1_indexOfChar_4cfef 22 = .ok (.iload 5, 2) := by decide +kernel
theorem dJ1_indexOfChar_4cfef_24 : decode cJ1_indexOfChar_4cfef 24 = .ok (.ireturn, 1) := by decide +kernel
theorem dJ1_indexOfChar_4cfef_25 : decode cJ1_indexOfChar_4cfef 25 = .ok (.iinc 5 1, 3) := by decide +kernel
theorem dJ1_indexOfChar_4cfef_28 : decode cJ1_indexOfChar_4cfef 28 = .ok (.goto (-21), 3) := by decide +kernel
theorem dJ1_indexOfChar_4cfef_31 : decode cJ1_indexOfChar_4cfef 31 = .ok (.iconst (-1), 1) := by decide +kernel
theorem dJ1_indexOfChar_4cfef_32 : decode cJ1_indexOfChar_4cfef 32 = .ok (.ireturn, 1) := by decide +kernel
theorem dJ3_checkIndex_8e157_0 : decode cJ3_checkIndex_8e157 0 = .ok (.iload_n 0, 1) := by decide +kernel
theorem dJ3_checkIndex_8e157_1 : decode cJ3_checkIndex_8e157 1 = .ok (.ifCond .lt 8, 3) := by decide +kernel
theorem dJ3_checkIndex_8e157_4 : decode cJ3_checkIndex_8e157 4 = .ok (.iload_n 0, 1) := by decide +kernel
theorem dJ3_checkIndex_8e157_5 : decode cJ3_checkIndex_8e157 5 = .ok (.iload_n 1, 1) := by decide +kernel
theorem dJ3_checkIndex_8e157_6 : decode cJ3_checkIndex_8e157 6 = .ok (.if_icmp .lt 10, 3) := by decide +kernel
theorem dJ3_checkIndex_8e157_9 : decode cJ3_checkIndex_8e157 9 = .ok (.aload_n 2, 1) := by decide +kernel
theorem dJ3_checkIndex_8e157_10 : decode cJ3_checkIndex_8e157 10 = .ok (.iload_n 0, 1) := by decide +kernel
theorem dJ3_checkIndex_8e157_11 : decode cJ3_checkIndex_8e157 11 = .ok (.iload_n 1, 1) := by decide +kernel
theorem dJ3_checkIndex_8e157_12 : decode cJ3_checkIndex_8e157 12 = .ok (.invokestatic 95, 3) := by decide +kernel
theorem dJ3_checkIndex_8e157_15 : decode cJ3_checkIndex_8e157 15 = .ok (.athrow, 1) := by decide +kernel
theorem dJ3_checkIndex_8e157_16 : decode cJ3_checkIndex_8e157 16 = .ok (.iload_n 0, 1) := by decide +kernel
theorem dJ3_checkIndex_8e157_17 : decode cJ3_checkIndex_8e157 17 = .ok (.ireturn, 1) := by decide +kernel
theorem qw_138 : Cond.initialized "java/lang/String" ∈ sk_tbl := sk_in 138 (by decide +kernel) rfl
theorem qw_139 : Cond.initialized "java/lang/StringLatin1" ∈ sk_tbl := sk_in 139 (by decide +kernel) rfl
theorem qw_140 : Cond.initialized "jdk/internal/util/Preconditions" ∈ sk_tbl := sk_in 140 (by decide +kernel) rfl
theorem qw_487 : Cond.instanceMethod ⟨"java/lang/String", "length", "()I"⟩ ∈ sk_tbl := sk_in 487 (by decide +kernel) rfl
theorem qw_488 : Cond.selects "java/lang/String" ⟨"java/lang/String", "length", "()I"⟩ ⟨"java/lang/String", "length", "()I"⟩ ∈ sk_tbl := sk_in 488 (by decide +kernel) rfl
theorem qw_489 : Cond.code ⟨"java/lang/String", "length", "()I"⟩ prog_17_method_54_code 1 (Option.some Jvm.ClassFile.FieldType.int) ∈ sk_tbl := sk_in 489 (by decide +kernel) rfl
theorem qw_490 : Cond.methodLink "java/lang/String" 335 ⟨"java/lang/String", "coder", "()B"⟩ ∈ sk_tbl := sk_in 490 (by decide +kernel) rfl
theorem qw_491 : Cond.instanceMethod ⟨"java/lang/String", "coder", "()B"⟩ ∈ sk_tbl := sk_in 491 (by decide +kernel) rfl
theorem qw_492 : Cond.selects "java/lang/String" ⟨"java/lang/String", "coder", "()B"⟩ ⟨"java/lang/String", "coder", "()B"⟩ ∈ sk_tbl := sk_in 492 (by decide +kernel) rfl
theorem qw_493 : Cond.code ⟨"java/lang/String", "coder", "()B"⟩ prog_17_method_152_code 1 (Option.some Jvm.ClassFile.FieldType.byte) ∈ sk_tbl := sk_in 493 (by decide +kernel) rfl
theorem qw_494 : Cond.fieldLink "java/lang/String" 38 "java/lang/String" "COMPACT_STRINGS" "Z" ∈ sk_tbl := sk_in 494 (by decide +kernel) rfl
theorem qw_497 : Cond.instanceMethod ⟨"java/lang/String", "charAt", "(I)C"⟩ ∈ sk_tbl := sk_in 497 (by decide +kernel) rfl
theorem qw_498 : Cond.selects "java/lang/String" ⟨"java/lang/String", "charAt", "(I)C"⟩ ⟨"java/lang/String", "charAt", "(I)C"⟩ ∈ sk_tbl := sk_in 498 (by decide +kernel) rfl
theorem qw_499 : Cond.code ⟨"java/lang/String", "charAt", "(I)C"⟩ prog_17_method_56_code 2 (Option.some Jvm.ClassFile.FieldType.char) ∈ sk_tbl := sk_in 499 (by decide +kernel) rfl
theorem qw_500 : Cond.methodLink "java/lang/String" 492 ⟨"java/lang/String", "isLatin1", "()Z"⟩ ∈ sk_tbl := sk_in 500 (by decide +kernel) rfl
theorem qw_501 : Cond.instanceMethod ⟨"java/lang/String", "isLatin1", "()Z"⟩ ∈ sk_tbl := sk_in 501 (by decide +kernel) rfl
theorem qw_502 : Cond.selects "java/lang/String" ⟨"java/lang/String", "isLatin1", "()Z"⟩ ⟨"java/lang/String", "isLatin1", "()Z"⟩ ∈ sk_tbl := sk_in 502 (by decide +kernel) rfl
theorem qw_503 : Cond.code ⟨"java/lang/String", "isLatin1", "()Z"⟩ prog_17_method_154_code 1 (Option.some Jvm.ClassFile.FieldType.boolean) ∈ sk_tbl := sk_in 503 (by decide +kernel) rfl
theorem qw_504 : Cond.methodLink "java/lang/String" 495 ⟨"java/lang/StringLatin1", "charAt", "([BI)C"⟩ ∈ sk_tbl := sk_in 504 (by decide +kernel) rfl
theorem qw_505 : Cond.static ⟨"java/lang/StringLatin1", "charAt", "([BI)C"⟩ ∈ sk_tbl := sk_in 505 (by decide +kernel) rfl
theorem qw_506 : Cond.code ⟨"java/lang/StringLatin1", "charAt", "([BI)C"⟩ prog_18_method_2_code 2 (Option.some Jvm.ClassFile.FieldType.char) ∈ sk_tbl := sk_in 506 (by decide +kernel) rfl
theorem qw_507 : Cond.methodLink "java/lang/StringLatin1" 9 ⟨"java/lang/String", "checkIndex", "(II)V"⟩ ∈ sk_tbl := sk_in 507 (by decide +kernel) rfl
theorem qw_508 : Cond.static ⟨"java/lang/String", "checkIndex", "(II)V"⟩ ∈ sk_tbl := sk_in 508 (by decide +kernel) rfl
theorem qw_509 : Cond.code ⟨"java/lang/String", "checkIndex", "(II)V"⟩ prog_17_method_155_code 2 (Option.none : Option Jvm.ClassFile.FieldType) ∈ sk_tbl := sk_in 509 (by decide +kernel) rfl
theorem qw_510 : Cond.fieldLink "java/lang/String" 1053 "jdk/internal/util/Preconditions" "SIOOBE_FORMATTER" "Ljava/util/function/BiFunction;" ∈ sk_tbl := sk_in 510 (by decide +kernel) rfl
theorem qw_512 : Cond.methodLink "java/lang/String" 1059 ⟨"jdk/internal/util/Preconditions", "checkIndex", "(IILjava/util/function/BiFunction;)I"⟩ ∈ sk_tbl := sk_in 512 (by decide +kernel) rfl
theorem qw_513 : Cond.static ⟨"jdk/internal/util/Preconditions", "checkIndex", "(IILjava/util/function/BiFunction;)I"⟩ ∈ sk_tbl := sk_in 513 (by decide +kernel) rfl
theorem qw_514 : Cond.code ⟨"jdk/internal/util/Preconditions", "checkIndex", "(IILjava/util/function/BiFunction;)I"⟩ prog_22_method_11_code 3 (Option.some Jvm.ClassFile.FieldType.int) ∈ sk_tbl := sk_in 514 (by decide +kernel) rfl
theorem qw_543 : Cond.instanceMethod ⟨"java/lang/String", "indexOf", "(I)I"⟩ ∈ sk_tbl := sk_in 543 (by decide +kernel) rfl
theorem qw_544 : Cond.selects "java/lang/String" ⟨"java/lang/String", "indexOf", "(I)I"⟩ ⟨"java/lang/String", "indexOf", "(I)I"⟩ ∈ sk_tbl := sk_in 544 (by decide +kernel) rfl
theorem qw_545 : Cond.code ⟨"java/lang/String", "indexOf", "(I)I"⟩ prog_17_method_79_code 2 (Option.some Jvm.ClassFile.FieldType.int) ∈ sk_tbl := sk_in 545 (by decide +kernel) rfl
theorem qw_546 : Cond.methodLink "java/lang/String" 633 ⟨"java/lang/String", "indexOf", "(II)I"⟩ ∈ sk_tbl := sk_in 546 (by decide +kernel) rfl
theorem qw_547 : Cond.instanceMethod ⟨"java/lang/String", "indexOf", "(II)I"⟩ ∈ sk_tbl := sk_in 547 (by decide +kernel) rfl
theorem qw_548 : Cond.selects "java/lang/String" ⟨"java/lang/String", "indexOf", "(II)I"⟩ ⟨"java/lang/String", "indexOf", "(II)I"⟩ ∈ sk_tbl := sk_in 548 (by decide +kernel) rfl
theorem qw_549 : Cond.code ⟨"java/lang/String", "indexOf", "(II)I"⟩ prog_17_method_80_code 3 (Option.some Jvm.ClassFile.FieldType.int) ∈ sk_tbl := sk_in 549 (by decide +kernel) rfl
theorem qw_550 : Cond.methodLink "java/lang/String" 505 ⟨"java/lang/String", "length", "()I"⟩ ∈ sk_tbl := sk_in 550 (by decide +kernel) rfl
theorem qw_551 : Cond.methodLink "java/lang/String" 637 ⟨"java/lang/StringLatin1", "indexOf", "([BIII)I"⟩ ∈ sk_tbl := sk_in 551 (by decide +kernel) rfl
theorem qw_552 : Cond.static ⟨"java/lang/StringLatin1", "indexOf", "([BIII)I"⟩ ∈ sk_tbl := sk_in 552 (by decide +kernel) rfl
theorem qw_553 : Cond.code ⟨"java/lang/StringLatin1", "indexOf", "([BIII)I"⟩ prog_18_method_22_code 4 (Option.some Jvm.ClassFile.FieldType.int) ∈ sk_tbl := sk_in 553 (by decide +kernel) rfl
theorem qw_554 : Cond.methodLink "java/lang/StringLatin1" 88 ⟨"java/lang/StringLatin1", "canEncode", "(I)Z"⟩ ∈ sk_tbl := sk_in 554 (by decide +kernel) rfl
theorem qw_555 : Cond.static ⟨"java/lang/StringLatin1", "canEncode", "(I)Z"⟩ ∈ sk_tbl := sk_in 555 (by decide +kernel) rfl
theorem qw_556 : Cond.code ⟨"java/lang/StringLatin1", "canEncode", "(I)Z"⟩ prog_18_method_4_code 1 (Option.some Jvm.ClassFile.FieldType.boolean) ∈ sk_tbl := sk_in 556 (by decide +kernel) rfl
theorem qw_557 : Cond.methodLink "java/lang/StringLatin1" 92 ⟨"java/lang/Math", "max", "(II)I"⟩ ∈ sk_tbl := sk_in 557 (by decide +kernel) rfl
theorem qw_560 : Cond.methodLink "java/lang/StringLatin1" 38 ⟨"java/lang/Math", "min", "(II)I"⟩ ∈ sk_tbl := sk_in 560 (by decide +kernel) rfl
theorem qw_561 : Cond.methodLink "java/lang/StringLatin1" 95 ⟨"java/lang/StringLatin1", "indexOfChar", "([BIII)I"⟩ ∈ sk_tbl := sk_in 561 (by decide +kernel) rfl
theorem qw_562 : Cond.static ⟨"java/lang/StringLatin1", "indexOfChar", "([BIII)I"⟩ ∈ sk_tbl := sk_in 562 (by decide +kernel) rfl
theorem qw_563 : Cond.code ⟨"java/lang/StringLatin1", "indexOfChar", "([BIII)I"⟩ prog_18_method_23_code 6 (Option.some Jvm.ClassFile.FieldType.int) ∈ sk_tbl := sk_in 563 (by decide +kernel) rfl
theorem qw_1992 : Cond.fieldLink "java/lang/String" 9 "java/lang/String" "value" "[B" ∈ sk_tbl := sk_in 1992 (by decide +kernel) rfl
theorem qw_1993 : Cond.fieldLink "java/lang/String" 15 "java/lang/String" "coder" "B" ∈ sk_tbl := sk_in 1993 (by decide +kernel) rfl
theorem st_aload_nF {X : sk_X} {C : sk_C} {cc : ByteArray} {nL : Nat} {own mn : String} {ret : Option FieldType} {kR : Nat} {l0 : Launch} {ov : Option Value} {S1 S : sk_S} {d1 d : sk_D} {pc : Nat} {lv : List (Nat × Value)} {st : List Value} {j : Fin 4} {i : Nat} {x : UInt32} (K : sk_Ok X C cc nL own mn ret kR l0 ov S1 d1) (hd : decode cc pc = .ok (.aload_n j, 1)) (hi : (j : Nat) = i) (q : Nat) (hq : lv[q]? = some (i, .float x)) (k : sk_G X C nL S d (pc + 1) lv (.float x :: st)) : sk_G X C nL S d (pc) lv (st) := by
  obtain ⟨p, l, e, R, s, m, args, below, meth, cd, Q, n0, s0⟩ := X
  obtain ⟨hx, hb, hml, hown, hts, hK, hlk, hrt, hnm, hl0, hfr, hlo, hce, hsl, hn0, hs0, hQ⟩ := K
  intro H locs ls hw hL hv
  exact lv_aload_n hx hb hd hi (sk_lvat hv q hq) (k H locs ls hw hL hv)
theorem st_low {C : sk_C} {S : sk_S} {d : sk_D} {H : Heap} (hw : sk_wd C S d H) {q : Nat} (h : ¬ sk_free C q) : H[q]? = C.2.2.2.2.1[q]? := hw.2.1 q (Nat.not_le.mp h)
def st_vx (k : UInt32) : UInt32 := if k = 0 then 10 else if k = 1 then 11 else 12
theorem st_k3 {k : UInt32} (hk : k.toNat < 3) : k = 0 ∨ k = 1 ∨ k = 2 := by
  rcases (show k.toNat = 0 ∨ k.toNat = 1 ∨ k.toNat = 2 by omega) with h | h | h
  · exact Or.inl (UInt32.toNat_inj.mp h)
  · exact Or.inr (Or.inl (UInt32.toNat_inj.mp h))
  · exact Or.inr (Or.inr (UInt32.toNat_inj.mp h))
theorem st_vxN {k : UInt32} (hk : k.toNat < 3) : (st_vx k).toNat = 10 + k.toNat := by rcases st_k3 hk with rfl | rfl | rfl <;> decide
theorem st_getV {X : sk_X} {C : sk_C} {cc : ByteArray} {nL : Nat} {own mn : String} {ret : Option FieldType} {kR : Nat} {l0 : Launch} {ov : Option Value} {S1 S : sk_S} {d1 d : sk_D} {pc : Nat} {lv : List (Nat × Value)} {st : List Value} {idx : Nat} {k : UInt32} (K : sk_Ok X C cc nL own mn ret kR l0 ov S1 d1) (hk : k.toNat < 3) (hd : decode cc pc = .ok (.getfield idx, 3)) (hq : Cond.fieldLink own idx "java/lang/String" "value" "[B" ∈ sk_tbl) (kk : sk_G X C nL S d (pc + 3) lv (.float (st_vx k) :: st)) : sk_G X C nL S d (pc) lv (.float k :: st) := by
  obtain ⟨p, l, e, R, s, m, args, below, meth, cd, Q, n0, s0⟩ := X
  obtain ⟨hx, hb, hml, hown, hts, hK, hlk, hrt, hnm, hl0, hfr, hlo, hce, hsl, hn0, hs0, hQ⟩ := K
  intro H locs ls hw hL hv
  obtain ⟨cf, k9, fi, f, cell, h1, h2, h3, h4, h5, h6⟩ := (hK.2.1.2.2.2.2.1.1 k.toNat hk).2.2.1
  refine W.getf hx hb hown (hts _ hq) h1 h2 (by rw [st_low hw h6]; exact h3) h4 (v := .ref (C.2.2.2.2.2 (10 + k.toNat))) h5 rfl rfl hd ?_
  have := kk H locs ls hw hL hv
  simp only [List.map_cons, sk_up, st_vxN hk] at this
  exact this
theorem st_getC {X : sk_X} {C : sk_C} {cc : ByteArray} {nL : Nat} {own mn : String} {ret : Option FieldType} {kR : Nat} {l0 : Launch} {ov : Option Value} {S1 S : sk_S} {d1 d : sk_D} {pc : Nat} {lv : List (Nat × Value)} {st : List Value} {idx : Nat} {k : UInt32} (K : sk_Ok X C cc nL own mn ret kR l0 ov S1 d1) (hk : k.toNat < 3) (hd : decode cc pc = .ok (.getfield idx, 3)) (hq : Cond.fieldLink own idx "java/lang/String" "coder" "B" ∈ sk_tbl) (kk : sk_G X C nL S d (pc + 3) lv (.int 0 :: st)) : sk_G X C nL S d (pc) lv (.float k :: st) := by
  obtain ⟨p, l, e, R, s, m, args, below, meth, cd, Q, n0, s0⟩ := X
  obtain ⟨hx, hb, hml, hown, hts, hK, hlk, hrt, hnm, hl0, hfr, hlo, hce, hsl, hn0, hs0, hQ⟩ := K
  intro H locs ls hw hL hv
  obtain ⟨cf, k9, fi, f, cell, h1, h2, h3, h4, h5, h6⟩ := (hK.2.1.2.2.2.2.1.1 k.toNat hk).2.1
  exact W.getf hx hb hown (hts _ hq) h1 h2 (by rw [st_low hw h6]; exact h3) h4 (v := .int 0) h5 rfl rfl hd (kk H locs ls hw hL hv)
theorem st_alenF {X : sk_X} {C : sk_C} {cc : ByteArray} {nL : Nat} {own mn : String} {ret : Option FieldType} {kR : Nat} {l0 : Launch} {ov : Option Value} {S1 S : sk_S} {d1 d : sk_D} {pc : Nat} {lv : List (Nat × Value)} {st : List Value} {k : UInt32} (K : sk_Ok X C cc nL own mn ret kR l0 ov S1 d1) (hk : k.toNat < 3) (hd : decode cc pc = .ok (.arraylength, 1)) (kk : sk_G X C nL S d (pc + 1) lv (.int (Int32.ofNat (sk_len.getD k.toNat 0)) :: st)) : sk_G X C nL S d (pc) lv (.float (st_vx k) :: st) := by
  obtain ⟨p, l, e, R, s, m, args, below, meth, cd, Q, n0, s0⟩ := X
  obtain ⟨hx, hb, hml, hown, hts, hK, hlk, hrt, hnm, hl0, hfr, hlo, hce, hsl, hn0, hs0, hQ⟩ := K
  intro H locs ls hw hL hv
  obtain ⟨cell, h1, h2, h3, h4, h5, h6, h7⟩ := (hK.2.1.2.2.2.2.1.1 k.toNat hk).2.2.2
  have hc : H[C.2.2.2.2.2 (st_vx k).toNat]? = some cell := by rw [st_vxN hk, st_low hw h7]; exact h1
  exact W.alen hx hb hc h2 h5 rfl rfl hd (kk H locs ls hw hL hv)
theorem st_baldF {X : sk_X} {C : sk_C} {cc : ByteArray} {nL : Nat} {own mn : String} {ret : Option FieldType} {kR : Nat} {l0 : Launch} {ov : Option Value} {S1 S : sk_S} {d1 d : sk_D} {pc : Nat} {lv : List (Nat × Value)} {st : List Value} {k : UInt32} {i : Int32} (K : sk_Ok X C cc nL own mn ret kR l0 ov S1 d1) (hk : k.toNat < 3) (hd : decode cc pc = .ok (.baload, 1)) (hi : ¬ (i < 0 ∨ sk_len.getD k.toNat 0 ≤ i.toNatClampNeg)) (kk : sk_G X C nL S d (pc + 1) lv (.int ((sk_byt.getD k.toNat []).getD i.toNatClampNeg 0) :: st)) : sk_G X C nL S d (pc) lv (.int i :: .float (st_vx k) :: st) := by
  obtain ⟨p, l, e, R, s, m, args, below, meth, cd, Q, n0, s0⟩ := X
  obtain ⟨hx, hb, hml, hown, hts, hK, hlk, hrt, hnm, hl0, hfr, hlo, hce, hsl, hn0, hs0, hQ⟩ := K
  intro H locs ls hw hL hv
  obtain ⟨cell, h1, h2, h3, h4, h5, h6, h7⟩ := (hK.2.1.2.2.2.2.1.1 k.toNat hk).2.2.2
  have hc : H[C.2.2.2.2.2 (st_vx k).toNat]? = some cell := by rw [st_vxN hk, st_low hw h7]; exact h1
  have hlt : i.toNatClampNeg < sk_len.getD k.toNat 0 := Nat.not_le.mp fun q => hi (Or.inr q)
  exact W.bald (v := .int ((sk_byt.getD k.toNat []).getD i.toNatClampNeg 0)) hx hb hc h2 h3 (fun q => q.elim (fun a => hi (Or.inl a)) (fun a => by omega)) (h6 _ hlt) rfl rfl hd (kk H locs ls hw hL hv)
theorem st_gets {X : sk_X} {C : sk_C} {cc : ByteArray} {nL : Nat} {own mn : String} {ret : Option FieldType} {kR : Nat} {l0 : Launch} {ov : Option Value} {S1 S : sk_S} {d1 d : sk_D} {pc : Nat} {lv : List (Nat × Value)} {st : List Value} {idx : Nat} (K : sk_Ok X C cc nL own mn ret kR l0 ov S1 d1) (hd : decode cc pc = .ok (.getstatic idx, 3)) (hq : Cond.fieldLink own idx "java/lang/String" "COMPACT_STRINGS" "Z" ∈ sk_tbl) (kk : sk_G X C nL S d (pc + 3) lv (.int 1 :: st)) : sk_G X C nL S d (pc) lv (st) := by
  obtain ⟨p, l, e, R, s, m, args, below, meth, cd, Q, n0, s0⟩ := X
  obtain ⟨hx, hb, hml, hown, hts, hK, hlk, hrt, hnm, hl0, hfr, hlo, hce, hsl, hn0, hs0, hQ⟩ := K
  intro H locs ls hw hL hv
  obtain ⟨cf, kf, fi, f, a, cell, h1, h2, h3, h4, h5, h6, h7, h8⟩ := hK.2.1.2.2.2.2.2.1.1
  exact W.gets hx hb hown (hts _ hq) h1 h2 h3 h4 (by rw [st_low hw h8]; exact h5) (fun e => by rw [e] at h6; cases h6) h7 rfl hd (kk H locs ls hw hL hv)
theorem st_getZ {X : sk_X} {C : sk_C} {cc : ByteArray} {nL : Nat} {own mn : String} {ret : Option FieldType} {kR : Nat} {l0 : Launch} {ov : Option Value} {S1 S : sk_S} {d1 d : sk_D} {pc : Nat} {lv : List (Nat × Value)} {st : List Value} {idx : Nat} (K : sk_Ok X C cc nL own mn ret kR l0 ov S1 d1) (hd : decode cc pc = .ok (.getstatic idx, 3)) (hq : Cond.fieldLink own idx "jdk/internal/util/Preconditions" "SIOOBE_FORMATTER" "Ljava/util/function/BiFunction;" ∈ sk_tbl) (kk : ∀ V : Value, (V = .null ∨ V = .float 50) → sk_G X C nL S d (pc + 3) lv (V :: st)) : sk_G X C nL S d (pc) lv (st) := by
  obtain ⟨p, l, e, R, s, m, args, below, meth, cd, Q, n0, s0⟩ := X
  obtain ⟨hx, hb, hml, hown, hts, hK, hlk, hrt, hnm, hl0, hfr, hlo, hce, hsl, hn0, hs0, hQ⟩ := K
  intro H locs ls hw hL hv
  rcases hK.2.1.2.2.2.2.2.1.2 with hZ | hZ
  · obtain ⟨cf, kf, fi, f, a, cell, h1, h2, h3, h4, h5, h6, h7, h8⟩ := hZ
    exact W.gets hx hb hown (hts _ hq) h1 h2 h3 h4 (by rw [st_low hw h8]; exact h5) (fun e => by rw [e] at h6; cases h6) h7 rfl hd (kk .null (Or.inl rfl) H locs ls hw hL hv)
  · obtain ⟨cf, kf, fi, f, a, cell, h1, h2, h3, h4, h5, h6, h7, h8⟩ := hZ
    exact W.gets hx hb hown (hts _ hq) h1 h2 h3 h4 (by rw [st_low hw h8]; exact h5) (fun e => by rw [e] at h6; cases h6) h7 rfl hd (kk (.float 50) (Or.inr rfl) H locs ls hw hL hv)
theorem st_callS {X : sk_X} {C : sk_C} {cc : ByteArray} {nL : Nat} {own mn : String} {ret : Option FieldType} {kR : Nat} {l0 : Launch} {ov : Option Value} {S1 S : sk_S} {d1 d : sk_D} {pc : Nat} {lv : List (Nat × Value)} {st : List Value} {y : MethodName} {cc2 : ByteArray} {nL2 idx n k2 : Nat} {ret2 : Option FieldType} {As : List Value} {ov2 : Option Value} {st0 : List Value}  (K : sk_Ok X C cc nL own mn ret kR l0 ov S1 d1) (hd : decode cc pc = .ok (.invokestatic idx, 3)) (hc : sk_CS own idx y cc2 nL2 ret2 n) (hM : sk_Met C l0 k2 y cc2 nL2 ret2 As S d ov2 S d) (hk2 : k2 + 1 ≤ kR) (hn : As.length = n) (hs : st0 = As.reverse ++ st) (hst : (st.map fun v => v.category).sum ≤ 8) (hr2 : S.1.1 ≤ S1.1.1 ∧ S.1.2 ≤ S1.1.2) (kk : sk_G X C nL S d (pc + 3) lv (ov2.toList ++ st)) : sk_G X C nL S d pc lv st0 := by
  obtain ⟨p, l, e, R, s, m, args, below, meth, cd, Q, n0, s0⟩ := X
  obtain ⟨hx, hb, hml, hown, hts, hK, hlk, hrt, hnm, hl0, hfr, hlo, hce, hsl, hn0, hs0, hQ⟩ := K
  intro H locs ls hw hL hv
  obtain ⟨hm1, hm2, hM⟩ := hM
  obtain ⟨w1, w2, w4, w5, hpl⟩ := hc
  have hgood : GoodIn sk_tbl (va_wsS own idx y (sk_code y cc2 nL2 ret2)) := fun w hw9 => by
    rcases List.mem_append.mp hw9 with h | h
    · simp only [List.mem_cons, List.not_mem_nil, or_false] at h
      rcases h with h | h | h
      · rw [h]; exact sk_gd w1
      · rw [h]; exact sk_gd w2
      · rw [h]; exact sk_gd w4
    · exact sk_goodC w5 w h
  obtain ⟨hp1, hp2, hp3, hp4⟩ := hpl
  have hR : (sk_rm k2 (S.1.1 - S.1.1) (S.1.2 - S.1.2)).frames + 1 ≤ R.frames ∧ 8 + (nL2 + 11) + (sk_rm k2 (S.1.1 - S.1.1) (S.1.2 - S.1.2)).locals ≤ R.locals := by
    exact ⟨Nat.le_trans hk2 hfr, by show 8 + (nL2 + 11) + 64 * k2 ≤ R.locals; omega⟩
  subst hl0
  have run := va_runS (p := p) (l := l) (e := e) (R := R) (s := s) (m := m) (args := args) (below := below) (meth := meth) (c := cd) (H := H) (locs := locs) (cells := S.1.1 - n0) (slots := S.1.2 - s0) (g := F0 m pc ls (st0.map (sk_up C))) (rest := st.map (sk_up C)) (As := As.map (sk_up C)) ⟨hx, hb, hml, hown, hts⟩ hM (va_cwS n hts hgood rfl rfl rfl ⟨hp1, hp2, hp3⟩ hR) ⟨sk_blind, (fun U hU hW => ⟨rfl, sk_K.warm hW hK, by rw [hU]; exact hw⟩)⟩ rfl (by rw [List.length_map]; exact hn) hv.1 (by rw [hs]; simp [List.map_append, List.map_reverse, sk_up]) (lv_room (by rw [sk_catsum]; exact hst)) hd ⟨by omega, by omega⟩
  intro T hT XX
  obtain ⟨v, st9, t, T9, L, h0, X9, hL9, e1, e2, ⟨hv1, hw2⟩, go⟩ := run T hT XX
  cases hv1
  have ec : S.1.1 - n0 + (S.1.1 - S.1.1) = S.1.1 - n0 := by omega
  have es : S.1.2 - s0 + (S.1.2 - S.1.2) = S.1.2 - s0 := by omega
  rw [ec, es] at X9
  rw [← e1] at hw2
  obtain ⟨t2, a1, b1⟩ := kk T9.heap (locs ++ L) ls hw2 (fun q hq => by
    rcases List.mem_append.mp hq with h | h
    · exact hL q h
    · exact hL9 q h) hv T9 rfl X9
  refine ⟨t2, go t2 ?_, b1⟩
  have ef : sk_F (p, l, e, R, s, m, args, below, meth, cd, Q, n0, s0) (pc + 3) ls ((ov2.toList ++ st).map (sk_up C)) = { F0 m pc ls (st0.map (sk_up C)) with pc := pc + 3, stack := (ov2.map (sk_up C)).toList ++ st.map (sk_up C) } := by
    cases ov2 <;> rfl
  rw [← ef]
  exact a1
def st_CV (own : String) (idx : Nat) (y : MethodName) (cc : ByteArray) (nL : Nat) (ret : Option FieldType) (n : Nat) : Prop := Cond.methodLink own idx y ∈ sk_tbl ∧ Cond.instanceMethod y ∈ sk_tbl ∧ Cond.selects y.cls y y ∈ sk_tbl ∧ Cond.initialized y.cls ∈ sk_tbl ∧ Cond.code y cc nL ret ∈ sk_tbl ∧ sk_plain y n nL ∧ y.cls = "java/lang/String"
theorem st_callV {X : sk_X} {C : sk_C} {cc : ByteArray} {nL : Nat} {own mn : String} {ret : Option FieldType} {kR : Nat} {l0 : Launch} {ov : Option Value} {S1 S : sk_S} {d1 d : sk_D} {pc : Nat} {lv : List (Nat × Value)} {st : List Value} {y : MethodName} {cc2 : ByteArray} {nL2 idx n k2 : Nat} {ret2 : Option FieldType} {As : List Value} {ov2 : Option Value} {st0 : List Value} {k : UInt32} (K : sk_Ok X C cc nL own mn ret kR l0 ov S1 d1) (hd : decode cc pc = .ok (.invokevirtual idx, 3)) (hc : st_CV own idx y cc2 nL2 ret2 n) (hk : k.toNat < 3) (hM : sk_Met C l0 k2 y cc2 nL2 ret2 (.float k :: As) S d ov2 S d) (hk2 : k2 + 1 ≤ kR) (hn : As.length = n) (hs : st0 = As.reverse ++ .float k :: st) (hst : (st.map fun v => v.category).sum ≤ 8) (hr2 : S.1.1 ≤ S1.1.1 ∧ S.1.2 ≤ S1.1.2) (kk : sk_G X C nL S d (pc + 3) lv (ov2.toList ++ st)) : sk_G X C nL S d pc lv st0 := by
  obtain ⟨p, l, e, R, s, m, args, below, meth, cd, Q, n0, s0⟩ := X
  obtain ⟨hx, hb, hml, hown, hts, hK, hlk, hrt, hnm, hl0, hfr, hlo, hce, hsl, hn0, hs0, hQ⟩ := K
  intro H locs ls hw hL hv
  obtain ⟨hm1, hm2, hM⟩ := hM
  obtain ⟨w1, w2, w3, w4, w5, hpl, hcs⟩ := hc
  have hgood : GoodIn sk_tbl (wsV own idx y.cls y (sk_code y cc2 nL2 ret2)) := fun w hw9 => by
    rcases List.mem_append.mp hw9 with h | h
    · simp only [List.mem_cons, List.not_mem_nil, or_false] at h
      rcases h with h | h | h | h
      · rw [h]; exact sk_gd w1
      · rw [h]; exact sk_gd w2
      · rw [h]; exact sk_gd w3
      · rw [h]; exact sk_gd w4
    · exact sk_goodC w5 w h
  have hrec : ∃ cellB : Cell, H[C.2.2.2.2.2 k.toNat]? = some cellB ∧ cellB.vm.isStatics = false ∧ s.vm.findClass y.cls = some cellB.cls := by
    obtain ⟨cell, q1, q2, q3, q4⟩ := (hK.2.1.2.2.2.2.1.1 k.toNat hk).1
    exact ⟨cell, by rw [st_low hw q4]; exact q1, q2, by rw [hcs]; exact q3⟩
  obtain ⟨hp1, hp2, hp3, hp4⟩ := hpl
  have hR : (sk_rm k2 (S.1.1 - S.1.1) (S.1.2 - S.1.2)).frames + 1 ≤ R.frames ∧ 8 + (nL2 + 11) + (sk_rm k2 (S.1.1 - S.1.1) (S.1.2 - S.1.2)).locals ≤ R.locals := by
    exact ⟨Nat.le_trans hk2 hfr, by show 8 + (nL2 + 11) + 64 * k2 ≤ R.locals; omega⟩
  subst hl0
  have run := va_runV (b := C.2.2.2.2.2 k.toNat) (C := y.cls) (p := p) (l := l) (e := e) (R := R) (s := s) (m := m) (args := args) (below := below) (meth := meth) (c := cd) (H := H) (locs := locs) (cells := S.1.1 - n0) (slots := S.1.2 - s0) (g := F0 m pc ls (st0.map (sk_up C))) (rest := st.map (sk_up C)) (As := As.map (sk_up C)) ⟨hx, hb, hml, hown, hts⟩ hM (cwV n hts hgood rfl rfl rfl ⟨rfl, hp1, hp2, hp3⟩ hR) ⟨sk_blind, hrec, (fun U hU hW => ⟨rfl, sk_K.warm hW hK, by rw [hU]; exact hw⟩)⟩ rfl (by rw [List.length_map]; exact hn) hv.1 (by rw [hs]; simp [List.map_append, List.map_reverse, sk_up]) (lv_room (by rw [sk_catsum]; exact hst)) hd ⟨by omega, by omega⟩
  intro T hT XX
  obtain ⟨v, st9, t, T9, L, h0, X9, hL9, e1, e2, ⟨hv1, hw2⟩, go⟩ := run T hT XX
  cases hv1
  have ec : S.1.1 - n0 + (S.1.1 - S.1.1) = S.1.1 - n0 := by omega
  have es : S.1.2 - s0 + (S.1.2 - S.1.2) = S.1.2 - s0 := by omega
  rw [ec, es] at X9
  rw [← e1] at hw2
  obtain ⟨t2, a1, b1⟩ := kk T9.heap (locs ++ L) ls hw2 (fun q hq => by
    rcases List.mem_append.mp hq with h | h
    · exact hL q h
    · exact hL9 q h) hv T9 rfl X9
  refine ⟨t2, go t2 ?_, b1⟩
  have ef : sk_F (p, l, e, R, s, m, args, below, meth, cd, Q, n0, s0) (pc + 3) ls ((ov2.toList ++ st).map (sk_up C)) = { F0 m pc ls (st0.map (sk_up C)) with pc := pc + 3, stack := (ov2.map (sk_up C)).toList ++ st.map (sk_up C) } := by
    cases ov2 <;> rfl
  rw [← ef]
  exact a1
theorem cs_coder : st_CV RJ0 335 yJ0_coder_7d493 cJ0_coder_7d493 1 (some .byte) 0 := ⟨qw_490, qw_491, qw_492, qw_138, qw_493, ⟨by decide, by decide, by decide +kernel, by decide⟩, rfl⟩
theorem cs_lat : st_CV RJ0 492 yJ0_isLatin1_aae02 cJ0_isLatin1_aae02 1 (some .boolean) 0 := ⟨qw_500, qw_501, qw_502, qw_138, qw_503, ⟨by decide, by decide, by decide +kernel, by decide⟩, rfl⟩
theorem cs_len : st_CV RJ0 505 yJ0_length_8abf5 cJ0_length_8abf5 1 (some .int) 0 := ⟨qw_550, qw_487, qw_488, qw_138, qw_489, ⟨by decide, by decide, by decide +kernel, by decide⟩, rfl⟩
theorem cs_ix2 : st_CV RJ0 633 yJ0_indexOf_7cf53 cJ0_indexOf_7cf53 3 (some .int) 2 := ⟨qw_546, qw_547, qw_548, qw_138, qw_549, ⟨by decide, by decide, by decide +kernel, by decide⟩, rfl⟩
theorem cs_ch1 : sk_CS RJ0 495 yJ1_charAt_3b067 cJ1_charAt_3b067 2 (some .char) 2 := ⟨qw_504, qw_505, qw_139, qw_506, ⟨by decide, by decide, by decide +kernel, by decide⟩⟩
theorem cs_ck0 : sk_CS RJ1 9 yJ0_checkIndex_df160 cJ0_checkIndex_df160 2 none 2 := ⟨qw_507, qw_508, qw_138, qw_509, ⟨by decide, by decide, by decide +kernel, by decide⟩⟩
theorem cs_ck3 : sk_CS RJ0 1059 yJ3_checkIndex_8e157 cJ3_checkIndex_8e157 3 (some .int) 3 := ⟨qw_512, qw_513, qw_140, qw_514, ⟨by decide, by decide, by decide +kernel, by decide⟩⟩
theorem cs_ix1 : sk_CS RJ0 637 yJ1_indexOf_4cfef cJ1_indexOf_4cfef 4 (some .int) 4 := ⟨qw_551, qw_552, qw_139, qw_553, ⟨by decide, by decide, by decide +kernel, by decide⟩⟩
theorem cs_can : sk_CS RJ1 88 yJ1_canEncode_9a6ad cJ1_canEncode_9a6ad 1 (some .boolean) 1 := ⟨qw_554, qw_555, qw_139, qw_556, ⟨by decide, by decide, by decide +kernel, by decide⟩⟩
theorem cs_ixc : sk_CS RJ1 95 yJ1_indexOfChar_4cfef cJ1_indexOfChar_4cfef 6 (some .int) 4 := ⟨qw_561, qw_562, qw_139, qw_563, ⟨by decide, by decide, by decide +kernel, by decide⟩⟩
theorem sJ0_coder (C : sk_C) (l : Launch) {S : sk_S} {d : sk_D}  {k : UInt32} (hk : k.toNat < 3) : sk_Met C l 0 yJ0_coder_7d493 cJ0_coder_7d493 1 (some .byte) [.float k] S d (some (.int 0)) S d := by
  refine sk_Met.of (by decide) (Nat.le_of_ble_eq_true rfl) (Nat.le_refl _) (Nat.le_refl _) (fun X K0 hX => ?_)
  have K : sk_Ok X C cJ0_coder_7d493 1 RJ0 "coder" (some .byte) 0 l (some (.int 0)) S d := K0
  have R2 : S.1.1 ≤ S.1.1 ∧ S.1.2 ≤ S.1.2 := ⟨Nat.le_refl _, Nat.le_refl _⟩
  show sk_G X C 1 S d 0 [(0, .float k)] []
  refine st_gets K dJ0_coder_7d493_0 qw_494 ?_
  refine sk_if_eq 13 K dJ0_coder_7d493_3 (by decide) (fun h => absurd h (by decide)) (fun _ => ?_)
  refine st_aload_nF K dJ0_coder_7d493_6 rfl 0 rfl ?_
  refine st_getC K hk dJ0_coder_7d493_7 qw_1993 ?_
  refine sk_goto 14 K dJ0_coder_7d493_10 (by decide) ?_
  exact sk_cret .byte K dJ0_coder_7d493_14 rfl (by decide) rfl rfl rfl rfl
theorem sJ0_isLatin1 (C : sk_C) (l : Launch) {S : sk_S} {d : sk_D}  {k : UInt32} (hk : k.toNat < 3) : sk_Met C l 0 yJ0_isLatin1_aae02 cJ0_isLatin1_aae02 1 (some .boolean) [.float k] S d (some (.int (sk_b true))) S d := by
  refine sk_Met.of (by decide) (Nat.le_of_ble_eq_true rfl) (Nat.le_refl _) (Nat.le_refl _) (fun X K0 hX => ?_)
  have K : sk_Ok X C cJ0_isLatin1_aae02 1 RJ0 "isLatin1" (some .boolean) 0 l (some (.int (sk_b true))) S d := K0
  have R2 : S.1.1 ≤ S.1.1 ∧ S.1.2 ≤ S.1.2 := ⟨Nat.le_refl _, Nat.le_refl _⟩
  show sk_G X C 1 S d 0 [(0, .float k)] []
  refine st_gets K dJ0_isLatin1_aae02_0 qw_494 ?_
  refine sk_if_eq 17 K dJ0_isLatin1_aae02_3 (by decide) (fun h => absurd h (by decide)) (fun _ => ?_)
  refine st_aload_nF K dJ0_isLatin1_aae02_6 rfl 0 rfl ?_
  refine st_getC K hk dJ0_isLatin1_aae02_7 qw_1993 ?_
  refine sk_if_ne 17 K dJ0_isLatin1_aae02_10 (by decide) (fun h => absurd rfl h) (fun _ => ?_)
  refine sk_iconst (1 : Int32) K dJ0_isLatin1_aae02_13 (by decide) ?_
  refine sk_goto 18 K dJ0_isLatin1_aae02_14 (by decide) ?_
  exact sk_zret (x := true) K dJ0_isLatin1_aae02_18 rfl rfl rfl rfl rfl
theorem st_len0 : ∀ k, k < 3 → Int32.ofNat (sk_len.getD k 0) >>> ((0 : Int32) &&& 31) = Int32.ofNat (sk_len.getD k 0) := by decide +kernel
theorem sJ0_length (C : sk_C) (l : Launch) {S : sk_S} {d : sk_D}  {k : UInt32} (hk : k.toNat < 3) : sk_Met C l 1 yJ0_length_8abf5 cJ0_length_8abf5 1 (some .int) [.float k] S d (some (.int (Int32.ofNat (sk_len.getD k.toNat 0)))) S d := by
  refine sk_Met.of (by decide) (Nat.le_of_ble_eq_true rfl) (Nat.le_refl _) (Nat.le_refl _) (fun X K0 hX => ?_)
  have K : sk_Ok X C cJ0_length_8abf5 1 RJ0 "length" (some .int) 1 l (some (.int (Int32.ofNat (sk_len.getD k.toNat 0)))) S d := K0
  have R2 : S.1.1 ≤ S.1.1 ∧ S.1.2 ≤ S.1.2 := ⟨Nat.le_refl _, Nat.le_refl _⟩
  show sk_G X C 1 S d 0 [(0, .float k)] []
  refine st_aload_nF K dJ0_length_8abf5_0 rfl 0 rfl ?_
  refine st_getV K hk dJ0_length_8abf5_1 qw_1992 ?_
  refine st_alenF K hk dJ0_length_8abf5_4 ?_
  refine st_aload_nF K dJ0_length_8abf5_5 rfl 0 rfl ?_
  refine st_callV (As := []) (st := [.int (Int32.ofNat (sk_len.getD k.toNat 0))]) K dJ0_length_8abf5_6 cs_coder hk (sJ0_coder C l hk) (by decide) rfl rfl (Nat.le_of_ble_eq_true rfl) R2 ?_
  refine sk_ishr K dJ0_length_8abf5_9 ?_
  exact sk_iret K dJ0_length_8abf5_10 rfl rfl (st_len0 k.toNat hk) rfl rfl
theorem sJ3_checkIndexN (C : sk_C) (l : Launch) {S : sk_S} {d : sk_D} {i n : Int32} (h1 : ¬ i < 0) (h2 : i < n) : sk_Met C l 0 yJ3_checkIndex_8e157 cJ3_checkIndex_8e157 3 (some .int) [.int i, .int n, .null] S d (some (.int i)) S d := by
  refine sk_Met.of (by decide) (Nat.le_of_ble_eq_true rfl) (Nat.le_refl _) (Nat.le_refl _) (fun X K0 hX => ?_)
  have K : sk_Ok X C cJ3_checkIndex_8e157 3 RJ3 "checkIndex" (some .int) 0 l (some (.int i)) S d := K0
  have R2 : S.1.1 ≤ S.1.1 ∧ S.1.2 ≤ S.1.2 := ⟨Nat.le_refl _, Nat.le_refl _⟩
  show sk_G X C 3 S d 0 [(0, .int i), (1, .int n), (2, .null)] []
  refine sk_iload_n K dJ3_checkIndex_8e157_0 rfl 0 rfl ?_
  refine sk_if_lt 9 K dJ3_checkIndex_8e157_1 (by decide) (fun h => absurd h h1) (fun _ => ?_)
  refine sk_iload_n K dJ3_checkIndex_8e157_4 rfl 0 rfl ?_
  refine sk_iload_n K dJ3_checkIndex_8e157_5 rfl 1 rfl ?_
  refine sk_icmp_lt 16 K dJ3_checkIndex_8e157_6 (by decide) (fun _ => ?_) (fun h => absurd h2 h)
  refine sk_iload_n K dJ3_checkIndex_8e157_16 rfl 0 rfl ?_
  exact sk_iret K dJ3_checkIndex_8e157_17 rfl rfl rfl rfl rfl
theorem sJ3_checkIndexF (C : sk_C) (l : Launch) {S : sk_S} {d : sk_D} {i n : Int32} (h1 : ¬ i < 0) (h2 : i < n) : sk_Met C l 0 yJ3_checkIndex_8e157 cJ3_checkIndex_8e157 3 (some .int) [.int i, .int n, .float 50] S d (some (.int i)) S d := by
  refine sk_Met.of (by decide) (Nat.le_of_ble_eq_true rfl) (Nat.le_refl _) (Nat.le_refl _) (fun X K0 hX => ?_)
  have K : sk_Ok X C cJ3_checkIndex_8e157 3 RJ3 "checkIndex" (some .int) 0 l (some (.int i)) S d := K0
  have R2 : S.1.1 ≤ S.1.1 ∧ S.1.2 ≤ S.1.2 := ⟨Nat.le_refl _, Nat.le_refl _⟩
  show sk_G X C 3 S d 0 [(0, .int i), (1, .int n), (2, .float 50)] []
  refine sk_iload_n K dJ3_checkIndex_8e157_0 rfl 0 rfl ?_
  refine sk_if_lt 9 K dJ3_checkIndex_8e157_1 (by decide) (fun h => absurd h h1) (fun _ => ?_)
  refine sk_iload_n K dJ3_checkIndex_8e157_4 rfl 0 rfl ?_
  refine sk_iload_n K dJ3_checkIndex_8e157_5 rfl 1 rfl ?_
  refine sk_icmp_lt 16 K dJ3_checkIndex_8e157_6 (by decide) (fun _ => ?_) (fun h => absurd h2 h)
  refine sk_iload_n K dJ3_checkIndex_8e157_16 rfl 0 rfl ?_
  exact sk_iret K dJ3_checkIndex_8e157_17 rfl rfl rfl rfl rfl
theorem sJ3_checkIndex (C : sk_C) (l : Launch) {S : sk_S} {d : sk_D} {i n : Int32} {V : Value} (h1 : ¬ i < 0) (h2 : i < n) (hV : V = .null ∨ V = .float 50) : sk_Met C l 0 yJ3_checkIndex_8e157 cJ3_checkIndex_8e157 3 (some .int) [.int i, .int n, V] S d (some (.int i)) S d := by
  rcases hV with rfl | rfl
  · exact sJ3_checkIndexN C l h1 h2
  · exact sJ3_checkIndexF C l h1 h2
theorem sJ0_checkIndex (C : sk_C) (l : Launch) {S : sk_S} {d : sk_D} {i n : Int32} (h1 : ¬ i < 0) (h2 : i < n) : sk_Met C l 1 yJ0_checkIndex_df160 cJ0_checkIndex_df160 2 none [.int i, .int n] S d none S d := by
  refine sk_Met.of (by decide) (Nat.le_of_ble_eq_true rfl) (Nat.le_refl _) (Nat.le_refl _) (fun X K0 hX => ?_)
  have K : sk_Ok X C cJ0_checkIndex_df160 2 RJ0 "checkIndex" none 1 l none S d := K0
  have R2 : S.1.1 ≤ S.1.1 ∧ S.1.2 ≤ S.1.2 := ⟨Nat.le_refl _, Nat.le_refl _⟩
  show sk_G X C 2 S d 0 [(0, .int i), (1, .int n)] []
  refine sk_iload_n K dJ0_checkIndex_df160_0 rfl 0 rfl ?_
  refine sk_iload_n K dJ0_checkIndex_df160_1 rfl 1 rfl ?_
  refine st_getZ K dJ0_checkIndex_df160_2 qw_510 (fun V hV => ?_)
  have hVc : V.category = 1 := by rcases hV with rfl | rfl <;> rfl
  refine st_callS (As := [.int i, .int n, V]) (st := []) K dJ0_checkIndex_df160_5 cs_ck3 (sJ3_checkIndex C l h1 h2 hV) (by decide) rfl rfl (Nat.le_of_ble_eq_true rfl) R2 ?_
  refine sk_pop K dJ0_checkIndex_df160_8 rfl ?_
  exact sk_vret K dJ0_checkIndex_df160_9 rfl rfl rfl rfl
theorem st_byt : ∀ k, k < 3 → (sk_len.getD k 0 = (sk_byt.getD k []).length ∧ sk_len.getD k 0 < 200) ∧ ∀ j, j < sk_len.getD k 0 → (((((sk_byt.getD k []).getD j 0) &&& 255).toUInt32 % 65536).toInt32 = (sk_byt.getD k []).getD j 0 ∧ ∃ b, b < 128 ∧ (sk_byt.getD k []).getD j 0 = nI b) := by
  have h : ∀ k, k < 3 → (sk_len.getD k 0 = (sk_byt.getD k []).length ∧ sk_len.getD k 0 < 200) ∧ ∀ j, j < sk_len.getD k 0 → (((((sk_byt.getD k []).getD j 0) &&& 255).toUInt32 % 65536).toInt32 = (sk_byt.getD k []).getD j 0 ∧ ((sk_byt.getD k []).getD j 0).toNatClampNeg < 128 ∧ (sk_byt.getD k []).getD j 0 = Int32.ofNat ((sk_byt.getD k []).getD j 0).toNatClampNeg) := by decide +kernel
  intro k hk
  refine ⟨(h k hk).1, fun j hj => ?_⟩
  obtain ⟨a, b, c⟩ := (h k hk).2 j hj
  exact ⟨a, _, b, c⟩
theorem st_nar : ∀ b, b < 128 → narrow .char (.int (nI b)) = .int (nI b) := by decide +kernel
theorem st_in {n : Nat} {i : Int32} (hn : n < 200) (h : ¬ (i < 0 ∨ n ≤ i.toNatClampNeg)) : ¬ i < 0 ∧ i < Int32.ofNat n := by
  have h0 : ¬ i < 0 := fun a => h (Or.inl a)
  refine ⟨h0, ?_⟩
  obtain ⟨m, hm, rfl⟩ := nI_of h0
  have : (nI m).toNatClampNeg < n := Nat.not_le.mp fun a => h (Or.inr a)
  rw [nI_clamp hm] at this
  exact nI_lt this (by omega)
theorem sJ1_charAt (C : sk_C) (l : Launch) {S : sk_S} {d : sk_D} {i : Int32} {k : UInt32} (hk : k.toNat < 3) (hi : ¬ (i < 0 ∨ sk_len.getD k.toNat 0 ≤ i.toNatClampNeg)) : sk_Met C l 2 yJ1_charAt_3b067 cJ1_charAt_3b067 2 (some .char) [.float (st_vx k), .int i] S d (some (.int ((sk_byt.getD k.toNat []).getD i.toNatClampNeg 0))) S d := by
  refine sk_Met.of (by decide) (Nat.le_of_ble_eq_true rfl) (Nat.le_refl _) (Nat.le_refl _) (fun X K0 hX => ?_)
  have K : sk_Ok X C cJ1_charAt_3b067 2 RJ1 "charAt" (some .char) 2 l (some (.int ((sk_byt.getD k.toNat []).getD i.toNatClampNeg 0))) S d := K0
  have R2 : S.1.1 ≤ S.1.1 ∧ S.1.2 ≤ S.1.2 := ⟨Nat.le_refl _, Nat.le_refl _⟩
  show sk_G X C 2 S d 0 [(0, .float (st_vx k)), (1, .int i)] []
  obtain ⟨⟨e1, e2⟩, e3⟩ := st_byt k.toNat hk
  obtain ⟨a1, a2⟩ := st_in e2 hi
  obtain ⟨c1, b, hb, c2⟩ := e3 i.toNatClampNeg (Nat.not_le.mp fun q => hi (Or.inr q))
  refine sk_iload_n K dJ1_charAt_3b067_0 rfl 1 rfl ?_
  refine st_aload_nF K dJ1_charAt_3b067_1 rfl 0 rfl ?_
  refine st_alenF K hk dJ1_charAt_3b067_2 ?_
  refine st_callS (As := [.int i, .int (Int32.ofNat (sk_len.getD k.toNat 0))]) (st := []) K dJ1_charAt_3b067_3 cs_ck0 (sJ0_checkIndex C l a1 a2) (by decide) rfl rfl (Nat.le_of_ble_eq_true rfl) R2 ?_
  refine st_aload_nF K dJ1_charAt_3b067_6 rfl 0 rfl ?_
  refine sk_iload_n K dJ1_charAt_3b067_7 rfl 1 rfl ?_
  refine st_baldF K hk dJ1_charAt_3b067_8 hi ?_
  refine sk_sipush (255 : Int32) K dJ1_charAt_3b067_9 (by decide) ?_
  refine sk_iand K dJ1_charAt_3b067_12 ?_
  refine sk_i2c K dJ1_charAt_3b067_13 ?_
  rw [c1]
  exact sk_cret .char K dJ1_charAt_3b067_14 rfl (by rw [c2]; exact st_nar b hb) rfl rfl rfl rfl
theorem sJ0_charAt (C : sk_C) (l : Launch) {S : sk_S} {d : sk_D} {i : Int32} {k : UInt32} (hk : k.toNat < 3) (hi : ¬ (i < 0 ∨ sk_len.getD k.toNat 0 ≤ i.toNatClampNeg)) : sk_Met C l 3 yJ0_charAt_5068e cJ0_charAt_5068e 2 (some .char) [.float k, .int i] S d (some (.int ((sk_byt.getD k.toNat []).getD i.toNatClampNeg 0))) S d := by
  refine sk_Met.of (by decide) (Nat.le_of_ble_eq_true rfl) (Nat.le_refl _) (Nat.le_refl _) (fun X K0 hX => ?_)
  have K : sk_Ok X C cJ0_charAt_5068e 2 RJ0 "charAt" (some .char) 3 l (some (.int ((sk_byt.getD k.toNat []).getD i.toNatClampNeg 0))) S d := K0
  have R2 : S.1.1 ≤ S.1.1 ∧ S.1.2 ≤ S.1.2 := ⟨Nat.le_refl _, Nat.le_refl _⟩
  show sk_G X C 2 S d 0 [(0, .float k), (1, .int i)] []
  obtain ⟨-, e3⟩ := st_byt k.toNat hk
  obtain ⟨c1, b, hb, c2⟩ := e3 i.toNatClampNeg (Nat.not_le.mp fun q => hi (Or.inr q))
  refine st_aload_nF K dJ0_charAt_5068e_0 rfl 0 rfl ?_
  refine st_callV (As := []) (st := []) K dJ0_charAt_5068e_1 cs_lat hk (sJ0_isLatin1 C l hk) (by decide) rfl rfl (Nat.le_of_ble_eq_true rfl) R2 ?_
  refine sk_ifeqB (x := true) 16 K dJ0_charAt_5068e_4 (by decide) (fun h => absurd rfl h) (fun _ => ?_)
  refine st_aload_nF K dJ0_charAt_5068e_7 rfl 0 rfl ?_
  refine st_getV K hk dJ0_charAt_5068e_8 qw_1992 ?_
  refine sk_iload_n K dJ0_charAt_5068e_11 rfl 1 rfl ?_
  refine st_callS (As := [.float (st_vx k), .int i]) (st := []) K dJ0_charAt_5068e_12 cs_ch1 (sJ1_charAt C l hk hi) (by decide) rfl rfl (Nat.le_of_ble_eq_true rfl) R2 ?_
  exact sk_cret .char K dJ0_charAt_5068e_15 rfl (by rw [c2]; exact st_nar b hb) rfl rfl rfl rfl
theorem sJ1_canEncode (C : sk_C) (l : Launch) {S : sk_S} {d : sk_D} {c : Int32} (h0 : 0 ≤ c) : sk_Met C l 0 yJ1_canEncode_9a6ad cJ1_canEncode_9a6ad 1 (some .boolean) [.int c] S d (some (.int (sk_b (decide (c ≤ 255))))) S d := by
  refine sk_Met.of (by decide) (Nat.le_of_ble_eq_true rfl) (Nat.le_refl _) (Nat.le_refl _) (fun X K0 hX => ?_)
  have K : sk_Ok X C cJ1_canEncode_9a6ad 1 RJ1 "canEncode" (some .boolean) 0 l (some (.int (sk_b (decide (c ≤ 255))))) S d := K0
  have R2 : S.1.1 ≤ S.1.1 ∧ S.1.2 ≤ S.1.2 := ⟨Nat.le_refl _, Nat.le_refl _⟩
  show sk_G X C 1 S d 0 [(0, .int c)] []
  refine sk_iload_n K dJ1_canEncode_9a6ad_0 rfl 0 rfl ?_
  refine sk_if_lt 15 K dJ1_canEncode_9a6ad_1 (by decide) (fun h => absurd h (Int32.not_lt.mpr h0)) (fun _ => ?_)
  refine sk_iload_n K dJ1_canEncode_9a6ad_4 rfl 0 rfl ?_
  refine sk_sipush (255 : Int32) K dJ1_canEncode_9a6ad_5 (by decide) ?_
  refine sk_icmp_gt 15 K dJ1_canEncode_9a6ad_8 (by decide) (fun h => ?_) (fun h => ?_)
  · refine sk_iconst (0 : Int32) K dJ1_canEncode_9a6ad_15 (by decide) ?_
    exact sk_zret (x := false) K dJ1_canEncode_9a6ad_16 rfl rfl (decide_eq_false (fun a => absurd h (Int32.not_lt.mpr a))).symm rfl rfl
  · refine sk_iconst (1 : Int32) K dJ1_canEncode_9a6ad_11 (by decide) ?_
    refine sk_goto 16 K dJ1_canEncode_9a6ad_12 (by decide) ?_
    exact sk_zret (x := true) K dJ1_canEncode_9a6ad_16 rfl rfl (decide_eq_true (Int32.not_lt.mp h)).symm rfl rfl
theorem st_i8 : (∀ c, c < 128 → (nI c).toInt8.toInt32 = nI c) ∧ ∀ c, c < 256 → 128 ≤ c → (nI c).toInt8.toInt32 < 0 := by decide +kernel
theorem st_i8eq {b c : Nat} (hb : b < 128) (hc : c < 256) : nI b = (nI c).toInt8.toInt32 ↔ nI b = nI c := by
  rcases Nat.lt_or_ge c 128 with h | h
  · rw [st_i8.1 c h]
  · have h1 := st_i8.2 c hc h
    constructor
    · intro e
      rw [← e] at h1
      exact absurd h1 (nI_pos (by omega))
    · intro e
      have h2 : nI b < nI c := nI_lt (by omega) (by omega)
      rw [e] at h2
      exact (Int32.lt_irrefl h2).elim
theorem st_ix_some {k i : Nat} {c : Int32} (hi : i < (sk_byt.getD k []).length) (h1 : (sk_byt.getD k []).getD i 0 = c) (h2 : ∀ j, j < i → (sk_byt.getD k []).getD j 0 ≠ c) : sk_ix k c = nI i := by
  have e : (sk_byt.getD k []).findIdx? (fun b => b == c) = some i := by
    rw [List.findIdx?_eq_some_iff_getElem]
    refine ⟨hi, ?_, fun j hj => ?_⟩
    · rw [List.getD_eq_getElem?_getD, List.getElem?_eq_getElem hi] at h1
      exact beq_iff_eq.mpr h1
    · have h3 := h2 j hj
      rw [List.getD_eq_getElem?_getD, List.getElem?_eq_getElem (Nat.lt_trans hj hi)] at h3
      intro a
      exact h3 (beq_iff_eq.mp a)
  unfold sk_ix
  rw [e]
  rfl
theorem st_ix_none {k : Nat} {c : Int32} (h2 : ∀ j, j < (sk_byt.getD k []).length → (sk_byt.getD k []).getD j 0 ≠ c) : sk_ix k c = -1 := by
  have e : (sk_byt.getD k []).findIdx? (fun b => b == c) = none := by
    rw [List.findIdx?_eq_none_iff]
    intro x hx
    obtain ⟨j, hj, rfl⟩ := List.getElem_of_mem hx
    have h3 := h2 j hj
    rw [List.getD_eq_getElem?_getD, List.getElem?_eq_getElem hj] at h3
    exact beq_eq_false_iff_ne.mpr h3
  unfold sk_ix
  rw [e]
theorem sJ1_indexOfChar (C : sk_C) (l : Launch) {S : sk_S} {d : sk_D} {c : Nat} {k : UInt32} (hk : k.toNat < 3) (hc : c < 256) : sk_Met C l 0 yJ1_indexOfChar_4cfef cJ1_indexOfChar_4cfef 6 (some .int) [.float (st_vx k), .int (nI c), .int 0, .int (Int32.ofNat (sk_len.getD k.toNat 0))] S d (some (.int (sk_ix k.toNat (nI c)))) S d := by
  refine sk_Met.of (by decide) (Nat.le_of_ble_eq_true rfl) (Nat.le_refl _) (Nat.le_refl _) (fun X K0 hX => ?_)
  have K : sk_Ok X C cJ1_indexOfChar_4cfef 6 RJ1 "indexOfChar" (some .int) 0 l (some (.int (sk_ix k.toNat (nI c)))) S d := K0
  have R2 : S.1.1 ≤ S.1.1 ∧ S.1.2 ≤ S.1.2 := ⟨Nat.le_refl _, Nat.le_refl _⟩
  show sk_G X C 6 S d 0 [(0, .float (st_vx k)), (1, .int (nI c)), (2, .int 0), (3, .int (Int32.ofNat (sk_len.getD k.toNat 0)))] []
  obtain ⟨⟨e1, e2⟩, e3⟩ := st_byt k.toNat hk
  refine sk_iload_n K dJ1_indexOfChar_4cfef_0 rfl 1 rfl ?_
  refine sk_i2b K dJ1_indexOfChar_4cfef_1 ?_
  refine sk_istore [(4, .int (nI c).toInt8.toInt32), (0, .float (st_vx k)), (1, .int (nI c)), (2, .int 0), (3, .int (Int32.ofNat (sk_len.getD k.toNat 0)))] K dJ1_indexOfChar_4cfef_2 (by decide) rfl ?_
  refine sk_iload_n K dJ1_indexOfChar_4cfef_4 rfl 3 rfl ?_
  refine sk_istore [(5, .int 0), (4, .int (nI c).toInt8.toInt32), (0, .float (st_vx k)), (1, .int (nI c)), (2, .int 0), (3, .int (Int32.ofNat (sk_len.getD k.toNat 0)))] K dJ1_indexOfChar_4cfef_5 (by decide) rfl ?_
  refine sk_sub [(5, .int 0), (4, .int (nI c).toInt8.toInt32), (0, .float (st_vx k)), (3, .int (Int32.ofNat (sk_len.getD k.toNat 0)))] [0, 1, 2, 5] rfl ?_
  have loop : ∀ f i, f + i = sk_len.getD k.toNat 0 → (∀ j, j < i → (sk_byt.getD k.toNat []).getD j 0 ≠ nI c) → sk_G X C 6 S d 7 [(5, .int (nI i)), (4, .int (nI c).toInt8.toInt32), (0, .float (st_vx k)), (3, .int (Int32.ofNat (sk_len.getD k.toNat 0)))] [] := by
    intro f
    induction f with
    | zero =>
      intro i hi hn
      refine sk_iload K dJ1_indexOfChar_4cfef_7 0 rfl ?_
      refine sk_iload_n K dJ1_indexOfChar_4cfef_9 rfl 3 rfl ?_
      refine sk_icmp_ge 31 K dJ1_indexOfChar_4cfef_10 (by decide) (fun _ => ?_) (fun h => absurd (by rw [← hi, Nat.zero_add]; exact Int32.le_refl _) h)
      refine sk_iconst (-1 : Int32) K dJ1_indexOfChar_4cfef_31 (by decide) ?_
      exact sk_iret K dJ1_indexOfChar_4cfef_32 rfl rfl (st_ix_none (fun j hj => hn j (by omega))).symm rfl rfl
    | succ f ih =>
      intro i hi hn
      have lt : i < sk_len.getD k.toNat 0 := by omega
      refine sk_iload K dJ1_indexOfChar_4cfef_7 0 rfl ?_
      refine sk_iload_n K dJ1_indexOfChar_4cfef_9 rfl 3 rfl ?_
      refine sk_icmp_ge 31 K dJ1_indexOfChar_4cfef_10 (by decide) (fun h => absurd h (nI_ge (b := sk_len.getD k.toNat 0) lt (by omega))) (fun _ => ?_)
      refine st_aload_nF K dJ1_indexOfChar_4cfef_13 rfl 2 rfl ?_
      refine sk_iload K dJ1_indexOfChar_4cfef_14 0 rfl ?_
      refine st_baldF K hk dJ1_indexOfChar_4cfef_16 (nI_in lt (by omega)) ?_
      rw [nI_clamp (by omega)]
      obtain ⟨-, b, hb, c2⟩ := e3 i lt
      refine sk_iload K dJ1_indexOfChar_4cfef_17 1 rfl ?_
      refine sk_icmp_ne 25 K dJ1_indexOfChar_4cfef_19 (by decide) (fun h => ?_) (fun h => ?_)
      · refine sk_iinc (v := nI (i + 1)) [(5, .int (nI (i + 1))), (4, .int (nI c).toInt8.toInt32), (0, .float (st_vx k)), (3, .int (Int32.ofNat (sk_len.getD k.toNat 0)))] K dJ1_indexOfChar_4cfef_25 0 rfl (nI_add i 1) (by decide) rfl ?_
        refine sk_goto 7 K dJ1_indexOfChar_4cfef_28 (by decide) ?_
        refine ih (i + 1) (by omega) (fun j hj => ?_)
        by_cases e : j = i
        · subst e
          intro a
          apply h
          rw [c2] at a ⊢
          exact (st_i8eq hb hc).mpr a
        · exact hn j (by omega)
      · refine sk_iload K dJ1_indexOfChar_4cfef_22 0 rfl ?_
        refine sk_iret K dJ1_indexOfChar_4cfef_24 rfl rfl (st_ix_some (by omega) ?_ hn).symm rfl rfl
        rw [c2] at h ⊢
        exact (st_i8eq hb hc).mp h
  exact loop (sk_len.getD k.toNat 0) 0 (by omega) (fun j hj => absurd hj (by omega))
theorem sJ1_indexOf (C : sk_C) (l : Launch) {S : sk_S} {d : sk_D} {c : Int32} {k : UInt32} (hk : k.toNat < 3) (hc : 0 ≤ c) : sk_Met C l 1 yJ1_indexOf_4cfef cJ1_indexOf_4cfef 4 (some .int) [.float (st_vx k), .int c, .int 0, .int (Int32.ofNat (sk_len.getD k.toNat 0))] S d (some (.int (sk_ix k.toNat c))) S d := by
  refine sk_Met.of (by decide) (Nat.le_of_ble_eq_true rfl) (Nat.le_refl _) (Nat.le_refl _) (fun X K0 hX => ?_)
  have K : sk_Ok X C cJ1_indexOf_4cfef 4 RJ1 "indexOf" (some .int) 1 l (some (.int (sk_ix k.toNat c))) S d := K0
  have R2 : S.1.1 ≤ S.1.1 ∧ S.1.2 ≤ S.1.2 := ⟨Nat.le_refl _, Nat.le_refl _⟩
  show sk_G X C 4 S d 0 [(0, .float (st_vx k)), (1, .int c), (2, .int 0), (3, .int (Int32.ofNat (sk_len.getD k.toNat 0)))] []
  obtain ⟨⟨e1, e2⟩, e3⟩ := st_byt k.toNat hk
  have lpos : 0 < sk_len.getD k.toNat 0 := by rcases st_k3 hk with rfl | rfl | rfl <;> decide
  refine sk_iload_n K dJ1_indexOf_4cfef_0 rfl 1 rfl ?_
  refine st_callS (As := [.int c]) (st := []) K dJ1_indexOf_4cfef_1 cs_can (sJ1_canEncode C l hc) (by decide) rfl rfl (Nat.le_of_ble_eq_true rfl) R2 ?_
  refine sk_ifneB (x := decide (c ≤ 255)) 9 K dJ1_indexOf_4cfef_4 (by decide) (fun h => ?_) (fun h => ?_)
  · obtain ⟨m, hm, rfl⟩ := nI_of (Int32.not_lt.mpr hc)
    have hm2 : m < 256 := by
      have h3 := of_decide_eq_true h
      rcases Nat.lt_or_ge m 256 with a | a
      · exact a
      · exact absurd h3 (Int32.not_le.mpr (nI_lt (a := 255) (b := m) (by omega) hm))
    refine sk_iload_n K dJ1_indexOf_4cfef_9 rfl 2 rfl ?_
    refine sk_iconst (0 : Int32) K dJ1_indexOf_4cfef_10 (by decide) ?_
    refine sk_mmax K dJ1_indexOf_4cfef_11 qw_557 qw_558 qw_137 qw_559 (by decide) (Nat.le_of_ble_eq_true rfl) R2 ?_
    rw [show (if (0 : Int32) < 0 then (0 : Int32) else 0) = 0 from by decide]
    refine sk_istore_n [(2, .int 0), (0, .float (st_vx k)), (1, .int (nI m)), (3, .int (Int32.ofNat (sk_len.getD k.toNat 0)))] K dJ1_indexOf_4cfef_14 rfl (by decide) rfl ?_
    refine sk_iload_n K dJ1_indexOf_4cfef_15 rfl 3 rfl ?_
    refine st_aload_nF K dJ1_indexOf_4cfef_16 rfl 1 rfl ?_
    refine st_alenF K hk dJ1_indexOf_4cfef_17 ?_
    refine sk_mmin K dJ1_indexOf_4cfef_18 qw_560 qw_473 qw_137 qw_474 (by decide) (Nat.le_of_ble_eq_true rfl) R2 ?_
    rw [ite_self]
    refine sk_istore_n [(3, .int (Int32.ofNat (sk_len.getD k.toNat 0))), (2, .int 0), (0, .float (st_vx k)), (1, .int (nI m))] K dJ1_indexOf_4cfef_21 rfl (by decide) rfl ?_
    refine sk_iload_n K dJ1_indexOf_4cfef_22 rfl 1 rfl ?_
    refine sk_iload_n K dJ1_indexOf_4cfef_23 rfl 0 rfl ?_
    refine sk_icmp_lt 29 K dJ1_indexOf_4cfef_24 (by decide) (fun _ => ?_) (fun h => absurd (nI_lt (a := 0) (b := sk_len.getD k.toNat 0) lpos (by omega)) h)
    refine st_aload_nF K dJ1_indexOf_4cfef_29 rfl 2 rfl ?_
    refine sk_iload_n K dJ1_indexOf_4cfef_30 rfl 3 rfl ?_
    refine sk_iload_n K dJ1_indexOf_4cfef_31 rfl 1 rfl ?_
    refine sk_iload_n K dJ1_indexOf_4cfef_32 rfl 0 rfl ?_
    refine st_callS (As := [.float (st_vx k), .int (nI m), .int 0, .int (Int32.ofNat (sk_len.getD k.toNat 0))]) (st := []) K dJ1_indexOf_4cfef_33 cs_ixc (sJ1_indexOfChar C l hk hm2) (by decide) rfl rfl (Nat.le_of_ble_eq_true rfl) R2 ?_
    exact sk_iret K dJ1_indexOf_4cfef_36 rfl rfl rfl rfl rfl
  · refine sk_iconst (-1 : Int32) K dJ1_indexOf_4cfef_7 (by decide) ?_
    refine sk_iret K dJ1_indexOf_4cfef_8 rfl rfl (st_ix_none (fun j hj a => ?_)).symm rfl rfl
    obtain ⟨-, b, hb, c2⟩ := e3 j (by omega)
    apply h
    rw [← a, c2]
    exact decide_eq_true (Int32.not_lt.mp (nI_nlt (a := 255) (b := b) (by omega) (by omega)))
theorem sJ0_indexOf2 (C : sk_C) (l : Launch) {S : sk_S} {d : sk_D} {c : Int32} {k : UInt32} (hk : k.toNat < 3) (hc : 0 ≤ c) : sk_Met C l 2 yJ0_indexOf_7cf53 cJ0_indexOf_7cf53 3 (some .int) [.float k, .int c, .int 0] S d (some (.int (sk_ix k.toNat c))) S d := by
  refine sk_Met.of (by decide) (Nat.le_of_ble_eq_true rfl) (Nat.le_refl _) (Nat.le_refl _) (fun X K0 hX => ?_)
  have K : sk_Ok X C cJ0_indexOf_7cf53 3 RJ0 "indexOf" (some .int) 2 l (some (.int (sk_ix k.toNat c))) S d := K0
  have R2 : S.1.1 ≤ S.1.1 ∧ S.1.2 ≤ S.1.2 := ⟨Nat.le_refl _, Nat.le_refl _⟩
  show sk_G X C 3 S d 0 [(0, .float k), (1, .int c), (2, .int 0)] []
  refine st_aload_nF K dJ0_indexOf_7cf53_0 rfl 0 rfl ?_
  refine st_callV (As := []) (st := []) K dJ0_indexOf_7cf53_1 cs_lat hk (sJ0_isLatin1 C l hk) (by decide) rfl rfl (Nat.le_of_ble_eq_true rfl) R2 ?_
  refine sk_ifeqB (x := true) 23 K dJ0_indexOf_7cf53_4 (by decide) (fun h => absurd rfl h) (fun _ => ?_)
  refine st_aload_nF K dJ0_indexOf_7cf53_7 rfl 0 rfl ?_
  refine st_getV K hk dJ0_indexOf_7cf53_8 qw_1992 ?_
  refine sk_iload_n K dJ0_indexOf_7cf53_11 rfl 1 rfl ?_
  refine sk_iload_n K dJ0_indexOf_7cf53_12 rfl 2 rfl ?_
  refine st_aload_nF K dJ0_indexOf_7cf53_13 rfl 0 rfl ?_
  refine st_callV (As := []) (st := [.int 0, .int c, .float (st_vx k)]) K dJ0_indexOf_7cf53_14 cs_len hk (sJ0_length C l hk) (by decide) rfl rfl (Nat.le_of_ble_eq_true rfl) R2 ?_
  refine st_callS (As := [.float (st_vx k), .int c, .int 0, .int (Int32.ofNat (sk_len.getD k.toNat 0))]) (st := []) K dJ0_indexOf_7cf53_17 cs_ix1 (sJ1_indexOf C l hk hc) (by decide) rfl rfl (Nat.le_of_ble_eq_true rfl) R2 ?_
  refine sk_goto 36 K dJ0_indexOf_7cf53_20 (by decide) ?_
  exact sk_iret K dJ0_indexOf_7cf53_36 rfl rfl rfl rfl rfl
theorem sJ0_indexOf1 (C : sk_C) (l : Launch) {S : sk_S} {d : sk_D} {c : Int32} {k : UInt32} (hk : k.toNat < 3) (hc : 0 ≤ c) : sk_Met C l 3 yJ0_indexOf_0f7a4 cJ0_indexOf_0f7a4 2 (some .int) [.float k, .int c] S d (some (.int (sk_ix k.toNat c))) S d := by
  refine sk_Met.of (by decide) (Nat.le_of_ble_eq_true rfl) (Nat.le_refl _) (Nat.le_refl _) (fun X K0 hX => ?_)
  have K : sk_Ok X C cJ0_indexOf_0f7a4 2 RJ0 "indexOf" (some .int) 3 l (some (.int (sk_ix k.toNat c))) S d := K0
  have R2 : S.1.1 ≤ S.1.1 ∧ S.1.2 ≤ S.1.2 := ⟨Nat.le_refl _, Nat.le_refl _⟩
  show sk_G X C 2 S d 0 [(0, .float k), (1, .int c)] []
  refine st_aload_nF K dJ0_indexOf_0f7a4_0 rfl 0 rfl ?_
  refine sk_iload_n K dJ0_indexOf_0f7a4_1 rfl 1 rfl ?_
  refine sk_iconst (0 : Int32) K dJ0_indexOf_0f7a4_2 (by decide) ?_
  refine st_callV (As := [.int c, .int 0]) (st := []) K dJ0_indexOf_0f7a4_3 cs_ix2 hk (sJ0_indexOf2 C l hk hc) (by decide) rfl rfl (Nat.le_of_ble_eq_true rfl) R2 ?_
  exact sk_iret K dJ0_indexOf_0f7a4_6 rfl rfl rfl rfl rfl
theorem sk_strlen {X : sk_X} {C : sk_C} {cc : ByteArray} {nL : Nat} {own mn : String} {ret : Option FieldType} {kR : Nat} {l0 : Launch} {ov : Option Value} {S1 S : sk_S} {d1 d : sk_D} {pc : Nat} {lv : List (Nat × Value)} {st : List Value} {idx : Nat} {k : UInt32} {v : Int32} (K : sk_Ok X C cc nL own mn ret kR l0 ov S1 d1) (hd : decode cc pc = .ok (.invokevirtual idx, 3)) (hq : Cond.methodLink own idx ⟨"java/lang/String", "length", "()I"⟩ ∈ sk_tbl) (hk : k.toNat < 3) (hkR : 7 ≤ kR) (hst : (st.map fun v => v.category).sum ≤ 8) (hr2 : S.1.1 ≤ S1.1.1 ∧ S.1.2 ≤ S1.1.2) (hv9 : Int32.ofNat (sk_len.getD k.toNat 0) = v) (kk : sk_G X C nL S d (pc + 3) lv (.int v :: st)) : sk_G X C nL S d (pc) lv (.float k :: st) := by
  subst hv9
  exact st_callV (n := 0) (As := []) K hd ⟨hq, qw_487, qw_488, qw_138, qw_489, ⟨by decide, by decide, by decide +kernel, by decide⟩, rfl⟩ hk (sJ0_length C l0 hk) (by omega) rfl rfl hst hr2 kk
theorem sk_charAt {X : sk_X} {C : sk_C} {cc : ByteArray} {nL : Nat} {own mn : String} {ret : Option FieldType} {kR : Nat} {l0 : Launch} {ov : Option Value} {S1 S : sk_S} {d1 d : sk_D} {pc : Nat} {lv : List (Nat × Value)} {st : List Value} {idx : Nat} {k : UInt32} {i v : Int32} (K : sk_Ok X C cc nL own mn ret kR l0 ov S1 d1) (hd : decode cc pc = .ok (.invokevirtual idx, 3)) (hq : Cond.methodLink own idx ⟨"java/lang/String", "charAt", "(I)C"⟩ ∈ sk_tbl) (hk : k.toNat < 3) (hkR : 7 ≤ kR) (hst : (st.map fun v => v.category).sum ≤ 8) (hr2 : S.1.1 ≤ S1.1.1 ∧ S.1.2 ≤ S1.1.2) (he : sk_ch k.toNat i = some v) (kk : sk_G X C nL S d (pc + 3) lv (.int v :: st)) : sk_G X C nL S d (pc) lv (.int i :: .float k :: st) := by
  obtain ⟨hi, he⟩ := sk_ib he
  cases he
  exact st_callV (n := 1) (As := [.int i]) K hd ⟨hq, qw_497, qw_498, qw_138, qw_499, ⟨by decide, by decide, by decide +kernel, by decide⟩, rfl⟩ hk (sJ0_charAt C l0 hk hi) (by omega) rfl rfl hst hr2 kk
theorem sk_indexOf {X : sk_X} {C : sk_C} {cc : ByteArray} {nL : Nat} {own mn : String} {ret : Option FieldType} {kR : Nat} {l0 : Launch} {ov : Option Value} {S1 S : sk_S} {d1 d : sk_D} {pc : Nat} {lv : List (Nat × Value)} {st : List Value} {idx : Nat} {k : UInt32} {c : Int32} (v : Int32) (K : sk_Ok X C cc nL own mn ret kR l0 ov S1 d1) (hd : decode cc pc = .ok (.invokevirtual idx, 3)) (hq : Cond.methodLink own idx ⟨"java/lang/String", "indexOf", "(I)I"⟩ ∈ sk_tbl) (hk : k.toNat < 3) (hkR : 7 ≤ kR) (hst : (st.map fun v => v.category).sum ≤ 8) (hr2 : S.1.1 ≤ S1.1.1 ∧ S.1.2 ≤ S1.1.2) (hc : 0 ≤ c ∧ c < 65536) (hv9 : sk_ix k.toNat c = v) (kk : sk_G X C nL S d (pc + 3) lv (.int v :: st)) : sk_G X C nL S d (pc) lv (.int c :: .float k :: st) := by
  subst hv9
  exact st_callV (n := 1) (As := [.int c]) K hd ⟨hq, qw_543, qw_544, qw_138, qw_545, ⟨by decide, by decide, by decide +kernel, by decide⟩, rfl⟩ hk (sJ0_indexOf1 C l0 hk hc.1) (by omega) rfl rfl hst hr2 kk
