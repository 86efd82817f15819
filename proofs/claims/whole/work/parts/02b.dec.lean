theorem dX5_scan_34 : decode cX5_scan 34 = .ok (.bipush 97, 2) := by decide +kernel
theorem dX5_scan_36 : decode cX5_scan 36 = .ok (.bipush 122, 2) := by decide +kernel
theorem dX5_scan_38 : decode cX5_scan 38 = .ok (.invokestatic 68, 3) := by decide +kernel
theorem dX5_scan_41 : decode cX5_scan 41 = .ok (.istore 5, 2) := by decide +kernel
theorem dX5_scan_43 : decode cX5_scan 43 = .ok (.aload_n 0, 1) := by decide +kernel
theorem dX5_scan_44 : decode cX5_scan 44 = .ok (.aload_n 1, 1) := by decide +kernel
theorem dX5_scan_45 : decode cX5_scan 45 = .ok (.iload_n 3, 1) := by decide +kernel
theorem dX5_scan_46 : decode cX5_scan 46 = .ok (.iload 5, 2) := by decide +kernel
theorem dX5_scan_48 : decode cX5_scan 48 = .ok (.invokestatic 72, 3) := by decide +kernel
theorem dX5_scan_51 : decode cX5_scan 51 = .ok (.iload_n 3, 1) := by decide +kernel
theorem dX5_scan_52 : decode cX5_scan 52 = .ok (.iconst 0, 1) := by decide +kernel
theorem dX5_scan_53 : decode cX5_scan 53 = .ok (.invokevirtual 76, 3) := by decide +kernel
theorem dX5_scan_56 : decode cX5_scan 56 = .ok (.iload 5, 2) := by decide +kernel
theorem dX5_scan_58 : decode cX5_scan 58 = .ok (.iconst 1, 1) := by decide +kernel
theorem dX5_scan_59 : decode cX5_scan 59 = .ok (.isub, 1) := by decide +kernel
theorem dX5_scan_60 : decode cX5_scan 60 = .ok (.istore_n 3, 1) := by decide +kernel
theorem dX5_scan_61 : decode cX5_scan 61 = .ok (.goto 105, 3) := by decide +kernel
theorem dX5_scan_64 : decode cX5_scan 64 = .ok (.iload 4, 2) := by decide +kernel
theorem dX5_scan_66 : decode cX5_scan 66 = .ok (.bipush 48, 2) := by decide +kernel
theorem dX5_scan_68 : decode cX5_scan 68 = .ok (.if_icmp .lt 59, 3) := by decide +kernel
theorem dX5_scan_71 : decode cX5_scan 71 = .ok (.iload 4, 2) := by decide +kernel
theorem dX5_scan_73 : decode cX5_scan 73 = .ok (.bipush 57, 2) := by decide +kernel
theorem dX5_scan_75 : decode cX5_scan 75 = .ok (.if_icmp .gt 52, 3) := by decide +kernel
theorem dX5_scan_78 : decode cX5_scan 78 = .ok (.aload_n 1, 1) := by decide +kernel
theorem dX5_scan_79 : decode cX5_scan 79 = .ok (.iload_n 2, 1) := by decide +kernel
theorem dX5_scan_80 : decode cX5_scan 80 = .ok (.iload_n 3, 1) := by decide +kernel
theorem dX5_scan_81 : decode cX5_scan 81 = .ok (.bipush 48, 2) := by decide +kernel
theorem dX5_scan_83 : decode cX5_scan 83 = .ok (.bipush 57, 2) := by decide +kernel
theorem dX5_scan_85 : decode cX5_scan 85 = .ok (.invokestatic 68, 3) := by decide +kernel
theorem dX5_scan_88 : decode cX5_scan 88 = .ok (.istore 5, 2) := by decide +kernel
theorem dX5_scan_90 : decode cX5_scan 90 = .ok (.aload_n 0, 1) := by decide +kernel
theorem dX5_scan_91 : decode cX5_scan 91 = .ok (.iload 5, 2) := by decide +kernel
theorem dX5_scan_93 : decode cX5_scan 93 = .ok (.iload_n 3, 1) := by decide +kernel
theorem dX5_scan_94 : decode cX5_scan 94 = .ok (.isub, 1) := by decide +kernel
theorem dX5_scan_95 : decode cX5_scan 95 = .ok (.iconst 3, 1) := by decide +kernel
theorem dX5_scan_96 : decode cX5_scan 96 = .ok (.if_icmp .le 9, 3) := by decide +kernel
theorem dX5_scan_99 : decode cX5_scan 99 = .ok (.sipush 203, 3) := by decide +kernel
theorem dX5_scan_102 : decode cX5_scan 102 = .ok (.goto 6, 3) := by decide +kernel
theorem dX5_scan_105 : decode cX5_scan 105 = .ok (.sipush 200, 3) := by decide +kernel
theorem dX5_scan_108 : decode cX5_scan 108 = .ok (.iload_n 3, 1) := by decide +kernel
theorem dX5_scan_109 : decode cX5_scan 109 = .ok (.aload_n 1, 1) := by decide +kernel
theorem dX5_scan_110 : decode cX5_scan 110 = .ok (.iload_n 3, 1) := by decide +kernel
theorem dX5_scan_111 : decode cX5_scan 111 = .ok (.iload 5, 2) := by decide +kernel
theorem dX5_scan_113 : decode cX5_scan 113 = .ok (.invokestatic 80, 3) := by decide +kernel
theorem dX5_scan_116 : decode cX5_scan 116 = .ok (.invokevirtual 76, 3) := by decide +kernel
theorem dX5_scan_119 : decode cX5_scan 119 = .ok (.iload 5, 2) := by decide +kernel
theorem dX5_scan_121 : decode cX5_scan 121 = .ok (.iconst 1, 1) := by decide +kernel
theorem dX5_scan_122 : decode cX5_scan 122 = .ok (.isub, 1) := by decide +kernel
theorem dX5_scan_123 : decode cX5_scan 123 = .ok (.istore_n 3, 1) := by decide +kernel
theorem dX5_scan_124 : decode cX5_scan 124 = .ok (.goto 42, 3) := by decide +kernel
theorem dX5_scan_127 : decode cX5_scan 127 = .ok (.iload 4, 2) := by decide +kernel
theorem dX5_scan_129 : decode cX5_scan 129 = .ok (.bipush 10, 2) := by decide +kernel
theorem dX5_scan_131 : decode cX5_scan 131 = .ok (.if_icmp .eq 35, 3) := by decide +kernel
theorem dX5_scan_134 : decode cX5_scan 134 = .ok (.iload 4, 2) := by decide +kernel
theorem dX5_scan_136 : decode cX5_scan 136 = .ok (.bipush 32, 2) := by decide +kernel
theorem dX5_scan_138 : decode cX5_scan 138 = .ok (.if_icmp .eq 28, 3) := by decide +kernel
theorem dX5_scan_141 : decode cX5_scan 141 = .ok (.aload_n 0, 1) := by decide +kernel
theorem dX5_scan_142 : decode cX5_scan 142 = .ok (.ldc 83, 2) := by decide +kernel
theorem dX5_scan_144 : decode cX5_scan 144 = .ok (.iload 4, 2) := by decide +kernel
theorem dX5_scan_146 : decode cX5_scan 146 = .ok (.i2c, 1) := by decide +kernel
theorem dX5_scan_147 : decode cX5_scan 147 = .ok (.invokevirtual 85, 3) := by decide +kernel
theorem dX5_scan_150 : decode cX5_scan 150 = .ok (.ifCond .ge 9, 3) := by decide +kernel
theorem dX5_scan_153 : decode cX5_scan 153 = .ok (.sipush 203, 3) := by decide +kernel
theorem dX5_scan_156 : decode cX5_scan 156 = .ok (.goto 5, 3) := by decide +kernel
theorem dX5_scan_159 : decode cX5_scan 159 = .ok (.iload 4, 2) := by decide +kernel
theorem dX5_scan_161 : decode cX5_scan 161 = .ok (.iload_n 3, 1) := by decide +kernel
theorem dX5_scan_162 : decode cX5_scan 162 = .ok (.iconst 0, 1) := by decide +kernel
theorem dX5_scan_163 : decode cX5_scan 163 = .ok (.invokevirtual 76, 3) := by decide +kernel
theorem dX5_scan_166 : decode cX5_scan 166 = .ok (.iinc 3 1, 3) := by decide +kernel
theorem dX5_scan_169 : decode cX5_scan 169 = .ok (.goto (-162), 3) := by decide +kernel
theorem dX5_scan_172 : decode cX5_scan 172 = .ok (.aload_n 0, 1) := by decide +kernel
theorem dX5_scan_173 : decode cX5_scan 173 = .ok (.sipush 202, 3) := by decide +kernel
theorem dX5_scan_176 : decode cX5_scan 176 = .ok (.iload_n 2, 1) := by decide +kernel
theorem dX5_scan_177 : decode cX5_scan 177 = .ok (.iconst 0, 1) := by decide +kernel
theorem dX5_scan_178 : decode cX5_scan 178 = .ok (.invokevirtual 76, 3) := by decide +kernel
theorem dX5_scan_181 : decode cX5_scan 181 = .ok (.return_, 1) := by decide +kernel
theorem dX5_add_0 : decode cX5_add 0 = .ok (.aload_n 0, 1) := by decide +kernel
theorem dX5_add_1 : decode cX5_add 1 = .ok (.getfield 35, 3) := by decide +kernel
theorem dX5_add_4 : decode cX5_add 4 = .ok (.aload_n 0, 1) := by decide +kernel
theorem dX5_add_5 : decode cX5_add 5 = .ok (.getfield 25, 3) := by decide +kernel
theorem dX5_add_8 : decode cX5_add 8 = .ok (.arraylength, 1) := by decide +kernel
theorem dX5_add_9 : decode cX5_add 9 = .ok (.if_icmp .ge 43, 3) := by decide +kernel
theorem dX5_add_12 : decode cX5_add 12 = .ok (.aload_n 0, 1) := by decide +kernel
theorem dX5_add_13 : decode cX5_add 13 = .ok (.getfield 25, 3) := by decide +kernel
theorem dX5_add_16 : decode cX5_add 16 = .ok (.aload_n 0, 1) := by decide +kernel
theorem dX5_add_17 : decode cX5_add 17 = .ok (.getfield 35, 3) := by decide +kernel
theorem dX5_add_20 : decode cX5_add 20 = .ok (.iload_n 1, 1) := by decide +kernel
theorem dX5_add_21 : decode cX5_add 21 = .ok (.iastore, 1) := by decide +kernel
theorem dX5_add_22 : decode cX5_add 22 = .ok (.aload_n 0, 1) := by decide +kernel
theorem dX5_add_23 : decode cX5_add 23 = .ok (.getfield 29, 3) := by decide +kernel
theorem dX5_add_26 : decode cX5_add 26 = .ok (.aload_n 0, 1) := by decide +kernel
theorem dX5_add_27 : decode cX5_add 27 = .ok (.getfield 35, 3) := by decide +kernel
theorem dX5_add_30 : decode cX5_add 30 = .ok (.iload_n 2, 1) := by decide +kernel
theorem dX5_add_31 : decode cX5_add 31 = .ok (.iastore, 1) := by decide +kernel
theorem dX5_add_32 : decode cX5_add 32 = .ok (.aload_n 0, 1) := by decide +kernel
theorem dX5_add_33 : decode cX5_add 33 = .ok (.getfield 32, 3) := by decide +kernel
theorem dX5_add_36 : decode cX5_add 36 = .ok (.aload_n 0, 1) := by decide +kernel
theorem dX5_add_37 : decode cX5_add 37 = .ok (.getfield 35, 3) := by decide +kernel
theorem dX5_add_40 : decode cX5_add 40 = .ok (.iload_n 3, 1) := by decide +kernel
theorem dX5_add_41 : decode cX5_add 41 = .ok (.iastore, 1) := by decide +kernel
theorem dX5_add_42 : decode cX5_add 42 = .ok (.aload_n 0, 1) := by decide +kernel
theorem dX5_add_43 : decode cX5_add 43 = .ok (.dup, 1) := by decide +kernel
theorem dX5_add_44 : decode cX5_add 44 = .ok (.getfield 35, 3) := by decide +kernel
theorem dX5_add_47 : decode cX5_add 47 = .ok (.iconst 1, 1) := by decide +kernel
theorem dX5_add_48 : decode cX5_add 48 = .ok (.iadd, 1) := by decide +kernel
theorem dX5_add_49 : decode cX5_add 49 = .ok (.putfield 35, 3) := by decide +kernel
theorem dX5_add_52 : decode cX5_add 52 = .ok (.return_, 1) := by decide +kernel
theorem dX5_runEnd_0 : decode cX5_runEnd 0 = .ok (.iload_n 2, 1) := by decide +kernel
theorem dX5_runEnd_1 : decode cX5_runEnd 1 = .ok (.istore 5, 2) := by decide +kernel
theorem dX5_runEnd_3 : decode cX5_runEnd 3 = .ok (.iload 5, 2) := by decide +kernel
theorem dX5_runEnd_5 : decode cX5_runEnd 5 = .ok (.iload_n 1, 1) := by decide +kernel
theorem dX5_runEnd_6 : decode cX5_runEnd 6 = .ok (.if_icmp .ge 26, 3) := by decide +kernel
theorem dX5_runEnd_9 : decode cX5_runEnd 9 = .ok (.aload_n 0, 1) := by decide +kernel
theorem dX5_runEnd_10 : decode cX5_runEnd 10 = .ok (.iload 5, 2) := by decide +kernel
theorem dX5_runEnd_12 : decode cX5_runEnd 12 = .ok (.iaload, 1) := by decide +kernel
theorem dX5_runEnd_13 : decode cX5_runEnd 13 = .ok (.iload_n 3, 1) := by decide +kernel
theorem dX5_runEnd_14 : decode cX5_runEnd 14 = .ok (.if_icmp .lt 18, 3) := by decide +kernel
theorem dX5_runEnd_17 : decode cX5_runEnd 17 = .ok (.aload_n 0, 1) := by decide +kernel
theorem dX5_runEnd_18 : decode cX5_runEnd 18 = .ok (.iload 5, 2) := by decide +kernel
theorem dX5_runEnd_20 : decode cX5_runEnd 20 = .ok (.iaload, 1) := by decide +kernel
theorem dX5_runEnd_21 : decode cX5_runEnd 21 = .ok (.iload 4, 2) := by decide +kernel
theorem dX5_runEnd_23 : decode cX5_runEnd 23 = .ok (.if_icmp .gt 9, 3) := by decide +kernel
theorem dX5_runEnd_26 : decode cX5_runEnd 26 = .ok (.iinc 5 1, 3) := by decide +kernel
theorem dX5_runEnd_29 : decode cX5_runEnd 29 = .ok (.goto (-26), 3) := by decide +kernel
theorem dX5_runEnd_32 : decode cX5_runEnd 32 = .ok (.iload 5, 2) := by decide +kernel
theorem dX5_runEnd_34 : decode cX5_runEnd 34 = .ok (.ireturn, 1) := by decide +kernel
theorem dX5_numberAt_0 : decode cX5_numberAt 0 = .ok (.iconst 0, 1) := by decide +kernel
theorem dX5_numberAt_1 : decode cX5_numberAt 1 = .ok (.istore_n 3, 1) := by decide +kernel
theorem dX5_numberAt_2 : decode cX5_numberAt 2 = .ok (.iload_n 1, 1) := by decide +kernel
theorem dX5_numberAt_3 : decode cX5_numberAt 3 = .ok (.istore 4, 2) := by decide +kernel
theorem dX5_numberAt_5 : decode cX5_numberAt 5 = .ok (.iload 4, 2) := by decide +kernel
theorem dX5_numberAt_7 : decode cX5_numberAt 7 = .ok (.iload_n 2, 1) := by decide +kernel
theorem dX5_numberAt_8 : decode cX5_numberAt 8 = .ok (.if_icmp .ge 22, 3) := by decide +kernel
theorem dX5_numberAt_11 : decode cX5_numberAt 11 = .ok (.iload_n 3, 1) := by decide +kernel
theorem dX5_numberAt_12 : decode cX5_numberAt 12 = .ok (.bipush 10, 2) := by decide +kernel
theorem dX5_numberAt_14 : decode cX5_numberAt 14 = .ok (.imul, 1) := by decide +kernel
theorem dX5_numberAt_15 : decode cX5_numberAt 15 = .ok (.aload_n 0, 1) := by decide +kernel
theorem dX5_numberAt_16 : decode cX5_numberAt 16 = .ok (.iload 4, 2) := by decide +kernel
theorem dX5_numberAt_18 : decode cX5_numberAt 18 = .ok (.iaload, 1) := by decide +kernel
theorem dX5_numberAt_19 : decode cX5_numberAt 19 = .ok (.iadd, 1) := by decide +kernel
theorem dX5_numberAt_20 : decode cX5_numberAt 20 = .ok (.bipush 48, 2) := by decide +kernel
theorem dX5_numberAt_22 : decode cX5_numberAt 22 = .ok (.isub, 1) := by decide +kernel
theorem dX5_numberAt_23 : decode cX5_numberAt 23 = .ok (.istore_n 3, 1) := by decide +kernel
theorem dX5_numberAt_24 : decode cX5_numberAt 24 = .ok (.iinc 4 1, 3) := by decide +kernel
theorem dX5_numberAt_27 : decode cX5_numberAt 27 = .ok (.goto (-22), 3) := by decide +kernel
theorem dX5_numberAt_30 : decode cX5_numberAt 30 = .ok (.iload_n 3, 1) := by decide +kernel
theorem dX5_numberAt_31 : decode cX5_numberAt 31 = .ok (.ireturn, 1) := by decide +kernel
theorem dX5_wordAt_0 : decode cX5_wordAt 0 = .ok (.iconst 0, 1) := by decide +kernel
theorem dX5_wordAt_1 : decode cX5_wordAt 1 = .ok (.istore_n 3, 1) := by decide +kernel
theorem dX5_wordAt_2 : decode cX5_wordAt 2 = .ok (.iload_n 3, 1) := by decide +kernel
theorem dX5_wordAt_3 : decode cX5_wordAt 3 = .ok (.bipush 6, 2) := by decide +kernel
theorem dX5_wordAt_5 : decode cX5_wordAt 5 = .ok (.iadd, 1) := by decide +kernel
theorem dX5_wordAt_6 : decode cX5_wordAt 6 = .ok (.ldc 91, 2) := by decide +kernel
theorem dX5_wordAt_8 : decode cX5_wordAt 8 = .ok (.invokevirtual 93, 3) := by decide +kernel
theorem dX5_wordAt_11 : decode cX5_wordAt 11 = .ok (.if_icmp .gt 93, 3) := by decide +kernel
theorem dX5_wordAt_14 : decode cX5_wordAt 14 = .ok (.iload_n 2, 1) := by decide +kernel
theorem dX5_wordAt_15 : decode cX5_wordAt 15 = .ok (.iload_n 1, 1) := by decide +kernel
theorem dX5_wordAt_16 : decode cX5_wordAt 16 = .ok (.isub, 1) := by decide +kernel
theorem dX5_wordAt_17 : decode cX5_wordAt 17 = .ok (.bipush 6, 2) := by decide +kernel
theorem dX5_wordAt_19 : decode cX5_wordAt 19 = .ok (.if_icmp .gt 85, 3) := by decide +kernel
theorem dX5_wordAt_22 : decode cX5_wordAt 22 = .ok (.iconst 1, 1) := by decide +kernel
theorem dX5_wordAt_23 : decode cX5_wordAt 23 = .ok (.istore 4, 2) := by decide +kernel
theorem dX5_wordAt_25 : decode cX5_wordAt 25 = .ok (.iconst 0, 1) := by decide +kernel
theorem dX5_wordAt_26 : decode cX5_wordAt 26 = .ok (.istore 5, 2) := by decide +kernel
theorem dX5_wordAt_28 : decode cX5_wordAt 28 = .ok (.iload 5, 2) := by decide +kernel
theorem dX5_wordAt_30 : decode cX5_wordAt 30 = .ok (.bipush 6, 2) := by decide +kernel
theorem dX5_wordAt_32 : decode cX5_wordAt 32 = .ok (.if_icmp .ge 56, 3) := by decide +kernel
theorem dX5_wordAt_35 : decode cX5_wordAt 35 = .ok (.iload_n 1, 1) := by decide +kernel
theorem dX5_wordAt_36 : decode cX5_wordAt 36 = .ok (.iload 5, 2) := by decide +kernel
theorem dX5_wordAt_38 : decode cX5_wordAt 38 = .ok (.iadd, 1) := by decide +kernel
theorem dX5_wordAt_39 : decode cX5_wordAt 39 = .ok (.iload_n 2, 1) := by decide +kernel
theorem dX5_wordAt_40 : decode cX5_wordAt 40 = .ok (.if_icmp .ge 12, 3) := by decide +kernel
theorem dX5_wordAt_43 : decode cX5_wordAt 43 = .ok (.aload_n 0, 1) := by decide +kernel
theorem dX5_wordAt_44 : decode cX5_wordAt 44 = .ok (.iload_n 1, 1) := by decide +kernel
theorem dX5_wordAt_45 : decode cX5_wordAt 45 = .ok (.iload 5, 2) := by decide +kernel
theorem dX5_wordAt_47 : decode cX5_wordAt 47 = .ok (.iadd, 1) := by decide +kernel
theorem dX5_wordAt_48 : decode cX5_wordAt 48 = .ok (.iaload, 1) := by decide +kernel
theorem dX5_wordAt_49 : decode cX5_wordAt 49 = .ok (.goto 5, 3) := by decide +kernel
theorem dX5_wordAt_52 : decode cX5_wordAt 52 = .ok (.bipush 32, 2) := by decide +kernel
theorem dX5_wordAt_54 : decode cX5_wordAt 54 = .ok (.istore 6, 2) := by decide +kernel
theorem dX5_wordAt_56 : decode cX5_wordAt 56 = .ok (.iload 4, 2) := by decide +kernel
theorem dX5_wordAt_58 : decode cX5_wordAt 58 = .ok (.ifCond .eq 21, 3) := by decide +kernel
theorem dX5_wordAt_61 : decode cX5_wordAt 61 = .ok (.ldc 91, 2) := by decide +kernel
theorem dX5_wordAt_63 : decode cX5_wordAt 63 = .ok (.iload_n 3, 1) := by decide +kernel
theorem dX5_wordAt_64 : decode cX5_wordAt 64 = .ok (.iload 5, 2) := by decide +kernel
theorem dX5_wordAt_66 : decode cX5_wordAt 66 = .ok (.iadd, 1) := by decide +kernel
theorem dX5_wordAt_67 : decode cX5_wordAt 67 = .ok (.invokevirtual 96, 3) := by decide +kernel
theorem dX5_wordAt_70 : decode cX5_wordAt 70 = .ok (.iload 6, 2) := by decide +kernel
theorem dX5_wordAt_72 : decode cX5_wordAt 72 = .ok (.if_icmp .ne 7, 3) := by decide +kernel
theorem dX5_wordAt_75 : decode cX5_wordAt 75 = .ok (.iconst 1, 1) := by decide +kernel
theorem dX5_wordAt_76 : decode cX5_wordAt 76 = .ok (.goto 4, 3) := by decide +kernel
theorem dX5_wordAt_79 : decode cX5_wordAt 79 = .ok (.iconst 0, 1) := by decide +kernel
theorem dX5_wordAt_80 : decode cX5_wordAt 80 = .ok (.istore 4, 2) := by decide +kernel
theorem dX5_wordAt_82 : decode cX5_wordAt 82 = .ok (.iinc 5 1, 3) := by decide +kernel
theorem dX5_wordAt_85 : decode cX5_wordAt 85 = .ok (.goto (-57), 3) := by decide +kernel
theorem dX5_wordAt_88 : decode cX5_wordAt 88 = .ok (.iload 4, 2) := by decide +kernel
theorem dX5_wordAt_90 : decode cX5_wordAt 90 = .ok (.ifCond .eq 8, 3) := by decide +kernel
theorem dX5_wordAt_93 : decode cX5_wordAt 93 = .ok (.iload_n 3, 1) := by decide +kernel
theorem dX5_wordAt_94 : decode cX5_wordAt 94 = .ok (.bipush 6, 2) := by decide +kernel
theorem dX5_wordAt_96 : decode cX5_wordAt 96 = .ok (.idiv, 1) := by decide +kernel
theorem dX5_wordAt_97 : decode cX5_wordAt 97 = .ok (.ireturn, 1) := by decide +kernel
theorem dX5_wordAt_98 : decode cX5_wordAt 98 = .ok (.iinc 3 6, 3) := by decide +kernel
theorem dX5_wordAt_101 : decode cX5_wordAt 101 = .ok (.goto (-99), 3) := by decide +kernel
theorem dX5_wordAt_104 : decode cX5_wordAt 104 = .ok (.sipush 201, 3) := by decide +kernel
theorem dX5_wordAt_107 : decode cX5_wordAt 107 = .ok (.ireturn, 1) := by decide +kernel
theorem dX5_kind_0 : decode cX5_kind 0 = .ok (.aload_n 0, 1) := by decide +kernel
theorem dX5_kind_1 : decode cX5_kind 1 = .ok (.getfield 18, 3) := by decide +kernel
theorem dX5_kind_4 : decode cX5_kind 4 = .ok (.ifCond .ne 14, 3) := by decide +kernel
theorem dX5_kind_7 : decode cX5_kind 7 = .ok (.aload_n 0, 1) := by decide +kernel
theorem dX5_kind_8 : decode cX5_kind 8 = .ok (.getfield 38, 3) := by decide +kernel
theorem dX5_kind_11 : decode cX5_kind 11 = .ok (.aload_n 0, 1) := by decide +kernel
theorem dX5_kind_12 : decode cX5_kind 12 = .ok (.getfield 35, 3) := by decide +kernel
theorem dX5_kind_15 : decode cX5_kind 15 = .ok (.if_icmp .lt 9, 3) := by decide +kernel
theorem dX5_kind_18 : decode cX5_kind 18 = .ok (.sipush 203, 3) := by decide +kernel
theorem dX5_kind_21 : decode cX5_kind 21 = .ok (.goto 12, 3) := by decide +kernel
theorem dX5_kind_24 : decode cX5_kind 24 = .ok (.aload_n 0, 1) := by decide +kernel
theorem dX5_kind_25 : decode cX5_kind 25 = .ok (.getfield 25, 3) := by decide +kernel
theorem dX5_kind_28 : decode cX5_kind 28 = .ok (.aload_n 0, 1) := by decide +kernel
theorem dX5_kind_29 : decode cX5_kind 29 = .ok (.getfield 38, 3) := by decide +kernel
theorem dX5_kind_32 : decode cX5_kind 32 = .ok (.iaload, 1) := by decide +kernel
theorem dX5_kind_33 : decode cX5_kind 33 = .ok (.ireturn, 1) := by decide +kernel
theorem dX5_next_0 : decode cX5_next 0 = .ok (.aload_n 0, 1) := by decide +kernel
theorem dX5_next_1 : decode cX5_next 1 = .ok (.getfield 38, 3) := by decide +kernel
theorem dX5_next_4 : decode cX5_next 4 = .ok (.aload_n 0, 1) := by decide +kernel
theorem dX5_next_5 : decode cX5_next 5 = .ok (.getfield 35, 3) := by decide +kernel
theorem dX5_next_8 : decode cX5_next 8 = .ok (.iconst 1, 1) := by decide +kernel
theorem dX5_next_9 : decode cX5_next 9 = .ok (.isub, 1) := by decide +kernel
theorem dX5_next_10 : decode cX5_next 10 = .ok (.if_icmp .ge 13, 3) := by decide +kernel
theorem dX5_next_13 : decode cX5_next 13 = .ok (.aload_n 0, 1) := by decide +kernel
theorem dX5_next_14 : decode cX5_next 14 = .ok (.dup, 1) := by decide +kernel
theorem dX5_next_15 : decode cX5_next 15 = .ok (.getfield 38, 3) := by decide +kernel
theorem dX5_next_18 : decode cX5_next 18 = .ok (.iconst 1, 1) := by decide +kernel
theorem dX5_next_19 : decode cX5_next 19 = .ok (.iadd, 1) := by decide +kernel
theorem dX5_next_20 : decode cX5_next 20 = .ok (.putfield 38, 3) := by decide +kernel
theorem dX5_next_23 : decode cX5_next 23 = .ok (.return_, 1) := by decide +kernel
theorem dX5_fail_0 : decode cX5_fail 0 = .ok (.aload_n 0, 1) := by decide +kernel
theorem dX5_fail_1 : decode cX5_fail 1 = .ok (.getfield 18, 3) := by decide +kernel
theorem dX5_fail_4 : decode cX5_fail 4 = .ok (.ifCond .ne 51, 3) := by decide +kernel
theorem dX5_fail_7 : decode cX5_fail 7 = .ok (.aload_n 0, 1) := by decide +kernel
theorem dX5_fail_8 : decode cX5_fail 8 = .ok (.getfield 38, 3) := by decide +kernel
theorem dX5_fail_11 : decode cX5_fail 11 = .ok (.aload_n 0, 1) := by decide +kernel
theorem dX5_fail_12 : decode cX5_fail 12 = .ok (.getfield 35, 3) := by decide +kernel
theorem dX5_fail_15 : decode cX5_fail 15 = .ok (.if_icmp .ge 40, 3) := by decide +kernel
theorem dX5_fail_18 : decode cX5_fail 18 = .ok (.aload_n 0, 1) := by decide +kernel
theorem dX5_fail_19 : decode cX5_fail 19 = .ok (.aload_n 0, 1) := by decide +kernel
theorem dX5_fail_20 : decode cX5_fail 20 = .ok (.getfield 25, 3) := by decide +kernel
theorem dX5_fail_23 : decode cX5_fail 23 = .ok (.aload_n 0, 1) := by decide +kernel
theorem dX5_fail_24 : decode cX5_fail 24 = .ok (.getfield 38, 3) := by decide +kernel
theorem dX5_fail_27 : decode cX5_fail 27 = .ok (.iaload, 1) := by decide +kernel
theorem dX5_fail_28 : decode cX5_fail 28 = .ok (.sipush 203, 3) := by decide +kernel
theorem dX5_fail_31 : decode cX5_fail 31 = .ok (.if_icmp .ne 7, 3) := by decide +kernel
theorem dX5_fail_34 : decode cX5_fail 34 = .ok (.iconst 1, 1) := by decide +kernel
theorem dX5_fail_35 : decode cX5_fail 35 = .ok (.goto 4, 3) := by decide +kernel
theorem dX5_fail_38 : decode cX5_fail 38 = .ok (.iload_n 1, 1) := by decide +kernel
theorem dX5_fail_39 : decode cX5_fail 39 = .ok (.putfield 18, 3) := by decide +kernel
theorem dX5_fail_42 : decode cX5_fail 42 = .ok (.aload_n 0, 1) := by decide +kernel
theorem dX5_fail_43 : decode cX5_fail 43 = .ok (.aload_n 0, 1) := by decide +kernel
theorem dX5_fail_44 : decode cX5_fail 44 = .ok (.getfield 29, 3) := by decide +kernel
theorem dX5_fail_47 : decode cX5_fail 47 = .ok (.aload_n 0, 1) := by decide +kernel
theorem dX5_fail_48 : decode cX5_fail 48 = .ok (.getfield 38, 3) := by decide +kernel
theorem dX5_fail_51 : decode cX5_fail 51 = .ok (.iaload, 1) := by decide +kernel
theorem dX5_fail_52 : decode cX5_fail 52 = .ok (.putfield 22, 3) := by decide +kernel
theorem dX5_fail_55 : decode cX5_fail 55 = .ok (.return_, 1) := by decide +kernel
theorem dX5_expect_0 : decode cX5_expect 0 = .ok (.aload_n 0, 1) := by decide +kernel
theorem dX5_expect_1 : decode cX5_expect 1 = .ok (.invokevirtual 61, 3) := by decide +kernel
theorem dX5_expect_4 : decode cX5_expect 4 = .ok (.iload_n 1, 1) := by decide +kernel
theorem dX5_expect_5 : decode cX5_expect 5 = .ok (.if_icmp .ne 10, 3) := by decide +kernel
theorem dX5_expect_8 : decode cX5_expect 8 = .ok (.aload_n 0, 1) := by decide +kernel
theorem dX5_expect_9 : decode cX5_expect 9 = .ok (.invokevirtual 100, 3) := by decide +kernel
theorem dX5_expect_12 : decode cX5_expect 12 = .ok (.goto 8, 3) := by decide +kernel
theorem dX5_expect_15 : decode cX5_expect 15 = .ok (.aload_n 0, 1) := by decide +kernel
theorem dX5_expect_16 : decode cX5_expect 16 = .ok (.iconst 2, 1) := by decide +kernel
theorem dX5_expect_17 : decode cX5_expect 17 = .ok (.invokevirtual 103, 3) := by decide +kernel
theorem dX5_expect_20 : decode cX5_expect 20 = .ok (.return_, 1) := by decide +kernel
theorem dX5_number_0 : decode cX5_number 0 = .ok (.aload_n 0, 1) := by decide +kernel
theorem dX5_number_1 : decode cX5_number 1 = .ok (.invokevirtual 61, 3) := by decide +kernel
theorem dX5_number_4 : decode cX5_number 4 = .ok (.sipush 200, 3) := by decide +kernel
theorem dX5_number_7 : decode cX5_number 7 = .ok (.if_icmp .eq 10, 3) := by decide +kernel
theorem dX5_number_10 : decode cX5_number 10 = .ok (.aload_n 0, 1) := by decide +kernel
theorem dX5_number_11 : decode cX5_number 11 = .ok (.iconst 2, 1) := by decide +kernel
theorem dX5_number_12 : decode cX5_number 12 = .ok (.invokevirtual 103, 3) := by decide +kernel
theorem dX5_number_15 : decode cX5_number 15 = .ok (.iload_n 1, 1) := by decide +kernel
theorem dX5_number_16 : decode cX5_number 16 = .ok (.ireturn, 1) := by decide +kernel
theorem dX5_number_17 : decode cX5_number 17 = .ok (.aload_n 0, 1) := by decide +kernel
theorem dX5_number_18 : decode cX5_number 18 = .ok (.getfield 32, 3) := by decide +kernel
theorem dX5_number_21 : decode cX5_number 21 = .ok (.aload_n 0, 1) := by decide +kernel
theorem dX5_number_22 : decode cX5_number 22 = .ok (.getfield 38, 3) := by decide +kernel
theorem dX5_number_25 : decode cX5_number 25 = .ok (.iaload, 1) := by decide +kernel
theorem dX5_number_26 : decode cX5_number 26 = .ok (.istore_n 3, 1) := by decide +kernel
theorem dX5_number_27 : decode cX5_number 27 = .ok (.iload_n 3, 1) := by decide +kernel
theorem dX5_number_28 : decode cX5_number 28 = .ok (.iload_n 1, 1) := by decide +kernel
theorem dX5_number_29 : decode cX5_number 29 = .ok (.if_icmp .lt 8, 3) := by decide +kernel
theorem dX5_number_32 : decode cX5_number 32 = .ok (.iload_n 3, 1) := by decide +kernel
theorem dX5_number_33 : decode cX5_number 33 = .ok (.iload_n 2, 1) := by decide +kernel
theorem dX5_number_34 : decode cX5_number 34 = .ok (.if_icmp .le 10, 3) := by decide +kernel
theorem dX5_number_37 : decode cX5_number 37 = .ok (.aload_n 0, 1) := by decide +kernel
theorem dX5_number_38 : decode cX5_number 38 = .ok (.iconst 3, 1) := by decide +kernel
theorem dX5_number_39 : decode cX5_number 39 = .ok (.invokevirtual 103, 3) := by decide +kernel
theorem dX5_number_42 : decode cX5_number 42 = .ok (.iload_n 1, 1) := by decide +kernel
theorem dX5_number_43 : decode cX5_number 43 = .ok (.ireturn, 1) := by decide +kernel
theorem dX5_number_44 : decode cX5_number 44 = .ok (.aload_n 0, 1) := by decide +kernel
theorem dX5_number_45 : decode cX5_number 45 = .ok (.invokevirtual 100, 3) := by decide +kernel
theorem dX5_number_48 : decode cX5_number 48 = .ok (.iload_n 3, 1) := by decide +kernel
theorem dX5_number_49 : decode cX5_number 49 = .ok (.ireturn, 1) := by decide +kernel
theorem dX5_lifeLine_0 : decode cX5_lifeLine 0 = .ok (.aload_n 0, 1) := by decide +kernel
theorem dX5_lifeLine_1 : decode cX5_lifeLine 1 = .ok (.iconst 0, 1) := by decide +kernel
theorem dX5_lifeLine_2 : decode cX5_lifeLine 2 = .ok (.invokevirtual 107, 3) := by decide +kernel
theorem dX5_lifeLine_5 : decode cX5_lifeLine 5 = .ok (.aload_n 0, 1) := by decide +kernel
theorem dX5_lifeLine_6 : decode cX5_lifeLine 6 = .ok (.iconst 1, 1) := by decide +kernel
theorem dX5_lifeLine_7 : decode cX5_lifeLine 7 = .ok (.invokevirtual 107, 3) := by decide +kernel
theorem dX5_lifeLine_10 : decode cX5_lifeLine 10 = .ok (.aload_n 0, 1) := by decide +kernel
theorem dX5_lifeLine_11 : decode cX5_lifeLine 11 = .ok (.getfield 12, 3) := by decide +kernel
theorem dX5_lifeLine_14 : decode cX5_lifeLine 14 = .ok (.aload_n 0, 1) := by decide +kernel
theorem dX5_lifeLine_15 : decode cX5_lifeLine 15 = .ok (.iconst 0, 1) := by decide +kernel
theorem dX5_lifeLine_16 : decode cX5_lifeLine 16 = .ok (.bipush 40, 2) := by decide +kernel
theorem dX5_lifeLine_18 : decode cX5_lifeLine 18 = .ok (.invokevirtual 110, 3) := by decide +kernel
theorem dX5_lifeLine_21 : decode cX5_lifeLine 21 = .ok (.putfield 113, 3) := by decide +kernel
theorem dX5_lifeLine_24 : decode cX5_lifeLine 24 = .ok (.aload_n 0, 1) := by decide +kernel
theorem dX5_lifeLine_25 : decode cX5_lifeLine 25 = .ok (.invokevirtual 116, 3) := by decide +kernel
theorem dX5_lifeLine_28 : decode cX5_lifeLine 28 = .ok (.return_, 1) := by decide +kernel
theorem dX5_endLine_0 : decode cX5_endLine 0 = .ok (.aload_n 0, 1) := by decide +kernel
theorem dX5_endLine_1 : decode cX5_endLine 1 = .ok (.bipush 59, 2) := by decide +kernel
theorem dX5_endLine_3 : decode cX5_endLine 3 = .ok (.invokevirtual 107, 3) := by decide +kernel
theorem dX5_endLine_6 : decode cX5_endLine 6 = .ok (.aload_n 0, 1) := by decide +kernel
theorem dX5_endLine_7 : decode cX5_endLine 7 = .ok (.getfield 12, 3) := by decide +kernel
theorem dX5_endLine_10 : decode cX5_endLine 10 = .ok (.dup, 1) := by decide +kernel
theorem dX5_endLine_11 : decode cX5_endLine 11 = .ok (.getfield 119, 3) := by decide +kernel
theorem dX5_endLine_14 : decode cX5_endLine 14 = .ok (.iconst 1, 1) := by decide +kernel
theorem dX5_endLine_15 : decode cX5_endLine 15 = .ok (.iadd, 1) := by decide +kernel
theorem dX5_endLine_16 : decode cX5_endLine 16 = .ok (.putfield 119, 3) := by decide +kernel
theorem dX5_endLine_19 : decode cX5_endLine 19 = .ok (.return_, 1) := by decide +kernel
theorem dX5_line_0 : decode cX5_line 0 = .ok (.aload_n 0, 1) := by decide +kernel
theorem dX5_line_1 : decode cX5_line 1 = .ok (.invokevirtual 61, 3) := by decide +kernel
theorem dX5_line_4 : decode cX5_line 4 = .ok (.tableswitch 172 2 15 #[72, 172, 172, 172, 172, 97, 172, 172, 172, 172, 79, 86, 118, 145], 72) := by decide +kernel
theorem dX5_line_76 : decode cX5_line 76 = .ok (.aload_n 0, 1) := by decide +kernel
theorem dX5_line_77 : decode cX5_line 77 = .ok (.invokevirtual 122, 3) := by decide +kernel
theorem dX5_line_80 : decode cX5_line 80 = .ok (.goto 101, 3) := by decide +kernel
theorem dX5_line_83 : decode cX5_line 83 = .ok (.aload_n 0, 1) := by decide +kernel
theorem dX5_line_84 : decode cX5_line 84 = .ok (.invokevirtual 125, 3) := by decide +kernel
theorem dX5_line_87 : decode cX5_line 87 = .ok (.goto 94, 3) := by decide +kernel
theorem dX5_line_90 : decode cX5_line 90 = .ok (.aload_n 0, 1) := by decide +kernel
theorem dX5_line_91 : decode cX5_line 91 = .ok (.invokevirtual 100, 3) := by decide +kernel
theorem dX5_line_94 : decode cX5_line 94 = .ok (.aload_n 0, 1) := by decide +kernel
theorem dX5_line_95 : decode cX5_line 95 = .ok (.invokevirtual 128, 3) := by decide +kernel
theorem dX5_line_98 : decode cX5_line 98 = .ok (.goto 83, 3) := by decide +kernel
theorem dX5_line_101 : decode cX5_line 101 = .ok (.aload_n 0, 1) := by decide +kernel
theorem dX5_line_102 : decode cX5_line 102 = .ok (.invokevirtual 100, 3) := by decide +kernel
theorem dX5_line_105 : decode cX5_line 105 = .ok (.aload_n 0, 1) := by decide +kernel
theorem dX5_line_106 : decode cX5_line 106 = .ok (.getfield 12, 3) := by decide +kernel
theorem dX5_line_109 : decode cX5_line 109 = .ok (.aload_n 0, 1) := by decide +kernel
theorem dX5_line_110 : decode cX5_line 110 = .ok (.iconst 0, 1) := by decide +kernel
theorem dX5_line_111 : decode cX5_line 111 = .ok (.bipush 9, 2) := by decide +kernel
theorem dX5_line_113 : decode cX5_line 113 = .ok (.invokevirtual 110, 3) := by decide +kernel
theorem dX5_line_116 : decode cX5_line 116 = .ok (.putfield 131, 3) := by decide +kernel
theorem dX5_line_119 : decode cX5_line 119 = .ok (.goto 62, 3) := by decide +kernel
theorem dX5_line_122 : decode cX5_line 122 = .ok (.aload_n 0, 1) := by decide +kernel
theorem dX5_line_123 : decode cX5_line 123 = .ok (.aload_n 0, 1) := by decide +kernel
theorem dX5_line_124 : decode cX5_line 124 = .ok (.getfield 12, 3) := by decide +kernel
theorem dX5_line_127 : decode cX5_line 127 = .ok (.getfield 134, 3) := by decide +kernel
theorem dX5_line_130 : decode cX5_line 130 = .ok (.iconst 0, 1) := by decide +kernel
theorem dX5_line_131 : decode cX5_line 131 = .ok (.invokevirtual 138, 3) := by decide +kernel
theorem dX5_line_134 : decode cX5_line 134 = .ok (.aload_n 0, 1) := by decide +kernel
theorem dX5_line_135 : decode cX5_line 135 = .ok (.aload_n 0, 1) := by decide +kernel
theorem dX5_line_136 : decode cX5_line 136 = .ok (.getfield 12, 3) := by decide +kernel
theorem dX5_line_139 : decode cX5_line 139 = .ok (.getfield 134, 3) := by decide +kernel
theorem dX5_line_142 : decode cX5_line 142 = .ok (.iconst 0, 1) := by decide +kernel
theorem dX5_line_143 : decode cX5_line 143 = .ok (.invokevirtual 142, 3) := by decide +kernel
theorem dX5_line_146 : decode cX5_line 146 = .ok (.goto 35, 3) := by decide +kernel
theorem dX5_line_149 : decode cX5_line 149 = .ok (.aload_n 0, 1) := by decide +kernel
theorem dX5_line_150 : decode cX5_line 150 = .ok (.aload_n 0, 1) := by decide +kernel
theorem dX5_line_151 : decode cX5_line 151 = .ok (.getfield 12, 3) := by decide +kernel
theorem dX5_line_154 : decode cX5_line 154 = .ok (.getfield 146, 3) := by decide +kernel
theorem dX5_line_157 : decode cX5_line 157 = .ok (.iconst 1, 1) := by decide +kernel
theorem dX5_line_158 : decode cX5_line 158 = .ok (.invokevirtual 138, 3) := by decide +kernel
theorem dX5_line_161 : decode cX5_line 161 = .ok (.aload_n 0, 1) := by decide +kernel
theorem dX5_line_162 : decode cX5_line 162 = .ok (.aload_n 0, 1) := by decide +kernel
theorem dX5_line_163 : decode cX5_line 163 = .ok (.getfield 12, 3) := by decide +kernel
theorem dX5_line_166 : decode cX5_line 166 = .ok (.getfield 146, 3) := by decide +kernel
theorem dX5_line_169 : decode cX5_line 169 = .ok (.iconst 0, 1) := by decide +kernel
theorem dX5_line_170 : decode cX5_line 170 = .ok (.invokevirtual 142, 3) := by decide +kernel
theorem dX5_line_173 : decode cX5_line 173 = .ok (.goto 8, 3) := by decide +kernel
theorem dX5_line_176 : decode cX5_line 176 = .ok (.aload_n 0, 1) := by decide +kernel
theorem dX5_line_177 : decode cX5_line 177 = .ok (.iconst 2, 1) := by decide +kernel
theorem dX5_line_178 : decode cX5_line 178 = .ok (.invokevirtual 103, 3) := by decide +kernel
theorem dX5_line_181 : decode cX5_line 181 = .ok (.aload_n 0, 1) := by decide +kernel
theorem dX5_line_182 : decode cX5_line 182 = .ok (.invokevirtual 116, 3) := by decide +kernel
theorem dX5_line_185 : decode cX5_line 185 = .ok (.return_, 1) := by decide +kernel
theorem dX5_doingLine_0 : decode cX5_doingLine 0 = .ok (.aload_n 0, 1) := by decide +kernel
theorem dX5_doingLine_1 : decode cX5_doingLine 1 = .ok (.getfield 12, 3) := by decide +kernel
theorem dX5_doingLine_4 : decode cX5_doingLine 4 = .ok (.getfield 149, 3) := by decide +kernel
theorem dX5_doingLine_7 : decode cX5_doingLine 7 = .ok (.bipush 8, 2) := by decide +kernel
theorem dX5_doingLine_9 : decode cX5_doingLine 9 = .ok (.if_icmp .lt 9, 3) := by decide +kernel
theorem dX5_doingLine_12 : decode cX5_doingLine 12 = .ok (.aload_n 0, 1) := by decide +kernel
theorem dX5_doingLine_13 : decode cX5_doingLine 13 = .ok (.iconst 4, 1) := by decide +kernel
theorem dX5_doingLine_14 : decode cX5_doingLine 14 = .ok (.invokevirtual 103, 3) := by decide +kernel
theorem dX5_doingLine_17 : decode cX5_doingLine 17 = .ok (.return_, 1) := by decide +kernel
theorem dX5_doingLine_18 : decode cX5_doingLine 18 = .ok (.aload_n 0, 1) := by decide +kernel
theorem dX5_doingLine_19 : decode cX5_doingLine 19 = .ok (.invokevirtual 100, 3) := by decide +kernel
theorem dX5_doingLine_22 : decode cX5_doingLine 22 = .ok (.aload_n 0, 1) := by decide +kernel
theorem dX5_doingLine_23 : decode cX5_doingLine 23 = .ok (.iconst 3, 1) := by decide +kernel
theorem dX5_doingLine_24 : decode cX5_doingLine 24 = .ok (.invokevirtual 107, 3) := by decide +kernel
theorem dX5_doingLine_27 : decode cX5_doingLine 27 = .ok (.aload_n 0, 1) := by decide +kernel
theorem dX5_doingLine_28 : decode cX5_doingLine 28 = .ok (.getfield 12, 3) := by decide +kernel
theorem dX5_doingLine_31 : decode cX5_doingLine 31 = .ok (.getfield 149, 3) := by decide +kernel
theorem dX5_doingLine_34 : decode cX5_doingLine 34 = .ok (.istore_n 1, 1) := by decide +kernel
theorem dX5_doingLine_35 : decode cX5_doingLine 35 = .ok (.aload_n 0, 1) := by decide +kernel
theorem dX5_doingLine_36 : decode cX5_doingLine 36 = .ok (.getfield 12, 3) := by decide +kernel
theorem dX5_doingLine_39 : decode cX5_doingLine 39 = .ok (.invokevirtual 152, 3) := by decide +kernel
theorem dX5_doingLine_42 : decode cX5_doingLine 42 = .ok (.aload_n 0, 1) := by decide +kernel
theorem dX5_doingLine_43 : decode cX5_doingLine 43 = .ok (.getfield 12, 3) := by decide +kernel
theorem dX5_doingLine_46 : decode cX5_doingLine 46 = .ok (.getfield 155, 3) := by decide +kernel
theorem dX5_doingLine_49 : decode cX5_doingLine 49 = .ok (.iload_n 1, 1) := by decide +kernel
theorem dX5_doingLine_50 : decode cX5_doingLine 50 = .ok (.aload_n 0, 1) := by decide +kernel
theorem dX5_doingLine_51 : decode cX5_doingLine 51 = .ok (.iconst 1, 1) := by decide +kernel
theorem dX5_doingLine_52 : decode cX5_doingLine 52 = .ok (.bipush 9, 2) := by decide +kernel
theorem dX5_doingLine_54 : decode cX5_doingLine 54 = .ok (.invokevirtual 110, 3) := by decide +kernel
theorem dX5_doingLine_57 : decode cX5_doingLine 57 = .ok (.iastore, 1) := by decide +kernel
theorem dX5_doingLine_58 : decode cX5_doingLine 58 = .ok (.iconst 0, 1) := by decide +kernel
theorem dX5_doingLine_59 : decode cX5_doingLine 59 = .ok (.istore_n 2, 1) := by decide +kernel
theorem dX5_doingLine_60 : decode cX5_doingLine 60 = .ok (.iload_n 2, 1) := by decide +kernel
theorem dX5_doingLine_61 : decode cX5_doingLine 61 = .ok (.sipush 900, 3) := by decide +kernel
theorem dX5_doingLine_64 : decode cX5_doingLine 64 = .ok (.if_icmp .ge 30, 3) := by decide +kernel
theorem dX5_doingLine_67 : decode cX5_doingLine 67 = .ok (.aload_n 0, 1) := by decide +kernel
theorem dX5_doingLine_68 : decode cX5_doingLine 68 = .ok (.getfield 18, 3) := by decide +kernel
theorem dX5_doingLine_71 : decode cX5_doingLine 71 = .ok (.ifCond .ne 23, 3) := by decide +kernel
theorem dX5_doingLine_74 : decode cX5_doingLine 74 = .ok (.aload_n 0, 1) := by decide +kernel
theorem dX5_doingLine_75 : decode cX5_doingLine 75 = .ok (.invokevirtual 61, 3) := by decide +kernel
theorem dX5_doingLine_78 : decode cX5_doingLine 78 = .ok (.bipush 59, 2) := by decide +kernel
theorem dX5_doingLine_80 : decode cX5_doingLine 80 = .ok (.if_icmp .eq 14, 3) := by decide +kernel
theorem dX5_doingLine_83 : decode cX5_doingLine 83 = .ok (.aload_n 0, 1) := by decide +kernel
theorem dX5_doingLine_84 : decode cX5_doingLine 84 = .ok (.iload_n 1, 1) := by decide +kernel
theorem dX5_doingLine_85 : decode cX5_doingLine 85 = .ok (.invokevirtual 158, 3) := by decide +kernel
theorem dX5_doingLine_88 : decode cX5_doingLine 88 = .ok (.iinc 2 1, 3) := by decide +kernel
theorem dX5_doingLine_91 : decode cX5_doingLine 91 = .ok (.goto (-31), 3) := by decide +kernel
theorem dX5_doingLine_94 : decode cX5_doingLine 94 = .ok (.return_, 1) := by decide +kernel
theorem dX5_flag_0 : decode cX5_flag 0 = .ok (.aload_n 0, 1) := by decide +kernel
theorem dX5_flag_1 : decode cX5_flag 1 = .ok (.invokevirtual 61, 3) := by decide +kernel
theorem dX5_flag_4 : decode cX5_flag 4 = .ok (.istore_n 2, 1) := by decide +kernel
theorem dX5_flag_5 : decode cX5_flag 5 = .ok (.iload_n 2, 1) := by decide +kernel
theorem dX5_flag_6 : decode cX5_flag 6 = .ok (.iconst 4, 1) := by decide +kernel
theorem dX5_flag_7 : decode cX5_flag 7 = .ok (.if_icmp .eq 21, 3) := by decide +kernel
theorem dX5_flag_10 : decode cX5_flag 10 = .ok (.iload_n 2, 1) := by decide +kernel
theorem dX5_flag_11 : decode cX5_flag 11 = .ok (.bipush 11, 2) := by decide +kernel
theorem dX5_flag_13 : decode cX5_flag 13 = .ok (.if_icmp .eq 15, 3) := by decide +kernel
theorem dX5_flag_16 : decode cX5_flag 16 = .ok (.iload_n 2, 1) := by decide +kernel
theorem dX5_flag_17 : decode cX5_flag 17 = .ok (.bipush 8, 2) := by decide +kernel
theorem dX5_flag_19 : decode cX5_flag 19 = .ok (.if_icmp .lt 20, 3) := by decide +kernel
theorem dX5_flag_22 : decode cX5_flag 22 = .ok (.iload_n 2, 1) := by decide +kernel
theorem dX5_flag_23 : decode cX5_flag 23 = .ok (.bipush 10, 2) := by decide +kernel
theorem dX5_flag_25 : decode cX5_flag 25 = .ok (.if_icmp .gt 14, 3) := by decide +kernel
theorem dX5_flag_28 : decode cX5_flag 28 = .ok (.aload_n 0, 1) := by decide +kernel
theorem dX5_flag_29 : decode cX5_flag 29 = .ok (.getfield 12, 3) := by decide +kernel
theorem dX5_flag_32 : decode cX5_flag 32 = .ok (.iload_n 1, 1) := by decide +kernel
theorem dX5_flag_33 : decode cX5_flag 33 = .ok (.invokevirtual 161, 3) := by decide +kernel
theorem dX5_flag_36 : decode cX5_flag 36 = .ok (.ifCond .ne 9, 3) := by decide +kernel
theorem dX5_flag_39 : decode cX5_flag 39 = .ok (.aload_n 0, 1) := by decide +kernel
theorem dX5_flag_40 : decode cX5_flag 40 = .ok (.iconst 2, 1) := by decide +kernel
theorem dX5_flag_41 : decode cX5_flag 41 = .ok (.invokevirtual 103, 3) := by decide +kernel
theorem dX5_flag_44 : decode cX5_flag 44 = .ok (.return_, 1) := by decide +kernel
theorem dX5_flag_45 : decode cX5_flag 45 = .ok (.aload_n 0, 1) := by decide +kernel
theorem dX5_flag_46 : decode cX5_flag 46 = .ok (.invokevirtual 100, 3) := by decide +kernel
theorem dX5_flag_49 : decode cX5_flag 49 = .ok (.iload_n 2, 1) := by decide +kernel
theorem dX5_flag_50 : decode cX5_flag 50 = .ok (.tableswitch 118 4 10 #[42, 118, 118, 118, 61, 80, 99], 42) := by decide +kernel
theorem dX5_flag_92 : decode cX5_flag 92 = .ok (.aload_n 0, 1) := by decide +kernel
theorem dX5_flag_93 : decode cX5_flag 93 = .ok (.getfield 12, 3) := by decide +kernel
theorem dX5_flag_96 : decode cX5_flag 96 = .ok (.getfield 165, 3) := by decide +kernel
theorem dX5_flag_99 : decode cX5_flag 99 = .ok (.iload_n 1, 1) := by decide +kernel
theorem dX5_flag_100 : decode cX5_flag 100 = .ok (.aload_n 0, 1) := by decide +kernel
theorem dX5_flag_101 : decode cX5_flag 101 = .ok (.iconst 0, 1) := by decide +kernel
theorem dX5_flag_102 : decode cX5_flag 102 = .ok (.bipush 9, 2) := by decide +kernel
theorem dX5_flag_104 : decode cX5_flag 104 = .ok (.invokevirtual 110, 3) := by decide +kernel
theorem dX5_flag_107 : decode cX5_flag 107 = .ok (.iastore, 1) := by decide +kernel
theorem dX5_flag_108 : decode cX5_flag 108 = .ok (.goto 82, 3) := by decide +kernel
theorem dX5_flag_111 : decode cX5_flag 111 = .ok (.aload_n 0, 1) := by decide +kernel
theorem dX5_flag_112 : decode cX5_flag 112 = .ok (.getfield 12, 3) := by decide +kernel
theorem dX5_flag_115 : decode cX5_flag 115 = .ok (.getfield 168, 3) := by decide +kernel
theorem dX5_flag_118 : decode cX5_flag 118 = .ok (.iload_n 1, 1) := by decide +kernel
theorem dX5_flag_119 : decode cX5_flag 119 = .ok (.aload_n 0, 1) := by decide +kernel
theorem dX5_flag_120 : decode cX5_flag 120 = .ok (.iconst 0, 1) := by decide +kernel
theorem dX5_flag_121 : decode cX5_flag 121 = .ok (.bipush 10, 2) := by decide +kernel
theorem dX5_flag_123 : decode cX5_flag 123 = .ok (.invokevirtual 110, 3) := by decide +kernel
theorem dX5_flag_126 : decode cX5_flag 126 = .ok (.iastore, 1) := by decide +kernel
theorem dX5_flag_127 : decode cX5_flag 127 = .ok (.goto 63, 3) := by decide +kernel
theorem dX5_flag_130 : decode cX5_flag 130 = .ok (.aload_n 0, 1) := by decide +kernel
theorem dX5_flag_131 : decode cX5_flag 131 = .ok (.getfield 12, 3) := by decide +kernel
theorem dX5_flag_134 : decode cX5_flag 134 = .ok (.getfield 171, 3) := by decide +kernel
theorem dX5_flag_137 : decode cX5_flag 137 = .ok (.iload_n 1, 1) := by decide +kernel
theorem dX5_flag_138 : decode cX5_flag 138 = .ok (.aload_n 0, 1) := by decide +kernel
theorem dX5_flag_139 : decode cX5_flag 139 = .ok (.iconst 0, 1) := by decide +kernel
theorem dX5_flag_140 : decode cX5_flag 140 = .ok (.bipush 10, 2) := by decide +kernel
theorem dX5_flag_142 : decode cX5_flag 142 = .ok (.invokevirtual 110, 3) := by decide +kernel
theorem dX5_flag_145 : decode cX5_flag 145 = .ok (.iastore, 1) := by decide +kernel
theorem dX5_flag_146 : decode cX5_flag 146 = .ok (.goto 44, 3) := by decide +kernel
theorem dX5_flag_149 : decode cX5_flag 149 = .ok (.aload_n 0, 1) := by decide +kernel
theorem dX5_flag_150 : decode cX5_flag 150 = .ok (.getfield 12, 3) := by decide +kernel
theorem dX5_flag_153 : decode cX5_flag 153 = .ok (.getfield 174, 3) := by decide +kernel
theorem dX5_flag_156 : decode cX5_flag 156 = .ok (.iload_n 1, 1) := by decide +kernel
theorem dX5_flag_157 : decode cX5_flag 157 = .ok (.aload_n 0, 1) := by decide +kernel
theorem dX5_flag_158 : decode cX5_flag 158 = .ok (.iconst 0, 1) := by decide +kernel
theorem dX5_flag_159 : decode cX5_flag 159 = .ok (.bipush 9, 2) := by decide +kernel
theorem dX5_flag_161 : decode cX5_flag 161 = .ok (.invokevirtual 110, 3) := by decide +kernel
theorem dX5_flag_164 : decode cX5_flag 164 = .ok (.iastore, 1) := by decide +kernel
theorem dX5_flag_165 : decode cX5_flag 165 = .ok (.goto 25, 3) := by decide +kernel
theorem dX5_flag_168 : decode cX5_flag 168 = .ok (.aload_n 0, 1) := by decide +kernel
theorem dX5_flag_169 : decode cX5_flag 169 = .ok (.getfield 12, 3) := by decide +kernel
theorem dX5_flag_172 : decode cX5_flag 172 = .ok (.getfield 177, 3) := by decide +kernel
theorem dX5_flag_175 : decode cX5_flag 175 = .ok (.iload_n 1, 1) := by decide +kernel
theorem dX5_flag_176 : decode cX5_flag 176 = .ok (.dup2, 1) := by decide +kernel
theorem dX5_flag_177 : decode cX5_flag 177 = .ok (.iaload, 1) := by decide +kernel
theorem dX5_flag_178 : decode cX5_flag 178 = .ok (.iconst 1, 1) := by decide +kernel
theorem dX5_flag_179 : decode cX5_flag 179 = .ok (.aload_n 0, 1) := by decide +kernel
theorem dX5_flag_180 : decode cX5_flag 180 = .ok (.iconst 0, 1) := by decide +kernel
theorem dX5_flag_181 : decode cX5_flag 181 = .ok (.iload_n 1, 1) := by decide +kernel
theorem dX5_flag_182 : decode cX5_flag 182 = .ok (.iconst 1, 1) := by decide +kernel
theorem dX5_flag_183 : decode cX5_flag 183 = .ok (.isub, 1) := by decide +kernel
theorem dX5_flag_184 : decode cX5_flag 184 = .ok (.invokevirtual 110, 3) := by decide +kernel
theorem dX5_flag_187 : decode cX5_flag 187 = .ok (.ishl, 1) := by decide +kernel
theorem dX5_flag_188 : decode cX5_flag 188 = .ok (.ior, 1) := by decide +kernel
theorem dX5_flag_189 : decode cX5_flag 189 = .ok (.iastore, 1) := by decide +kernel
theorem dX5_flag_190 : decode cX5_flag 190 = .ok (.return_, 1) := by decide +kernel
theorem dX5_doorLine_0 : decode cX5_doorLine 0 = .ok (.aload_n 0, 1) := by decide +kernel
theorem dX5_doorLine_1 : decode cX5_doorLine 1 = .ok (.getfield 12, 3) := by decide +kernel
theorem dX5_doorLine_4 : decode cX5_doorLine 4 = .ok (.getfield 180, 3) := by decide +kernel
theorem dX5_doorLine_7 : decode cX5_doorLine 7 = .ok (.bipush 8, 2) := by decide +kernel
theorem dX5_doorLine_9 : decode cX5_doorLine 9 = .ok (.if_icmp .lt 9, 3) := by decide +kernel
theorem dX5_doorLine_12 : decode cX5_doorLine 12 = .ok (.aload_n 0, 1) := by decide +kernel
theorem dX5_doorLine_13 : decode cX5_doorLine 13 = .ok (.iconst 4, 1) := by decide +kernel
theorem dX5_doorLine_14 : decode cX5_doorLine 14 = .ok (.invokevirtual 103, 3) := by decide +kernel
theorem dX5_doorLine_17 : decode cX5_doorLine 17 = .ok (.return_, 1) := by decide +kernel
theorem dX5_doorLine_18 : decode cX5_doorLine 18 = .ok (.aload_n 0, 1) := by decide +kernel
theorem dX5_doorLine_19 : decode cX5_doorLine 19 = .ok (.invokevirtual 100, 3) := by decide +kernel
theorem dX5_doorLine_22 : decode cX5_doorLine 22 = .ok (.aload_n 0, 1) := by decide +kernel
theorem dX5_doorLine_23 : decode cX5_doorLine 23 = .ok (.getfield 12, 3) := by decide +kernel
theorem dX5_doorLine_26 : decode cX5_doorLine 26 = .ok (.aload_n 0, 1) := by decide +kernel
theorem dX5_doorLine_27 : decode cX5_doorLine 27 = .ok (.iconst 0, 1) := by decide +kernel
theorem dX5_doorLine_28 : decode cX5_doorLine 28 = .ok (.bipush 9, 2) := by decide +kernel
theorem dX5_doorLine_30 : decode cX5_doorLine 30 = .ok (.invokevirtual 110, 3) := by decide +kernel
theorem dX5_doorLine_33 : decode cX5_doorLine 33 = .ok (.invokevirtual 183, 3) := by decide +kernel
theorem dX5_doorLine_36 : decode cX5_doorLine 36 = .ok (.return_, 1) := by decide +kernel
theorem dX5_clashPair_0 : decode cX5_clashPair 0 = .ok (.aload_n 0, 1) := by decide +kernel
theorem dX5_clashPair_1 : decode cX5_clashPair 1 = .ok (.iconst 0, 1) := by decide +kernel
theorem dX5_clashPair_2 : decode cX5_clashPair 2 = .ok (.aload_n 0, 1) := by decide +kernel
theorem dX5_clashPair_3 : decode cX5_clashPair 3 = .ok (.getfield 12, 3) := by decide +kernel
theorem dX5_clashPair_6 : decode cX5_clashPair 6 = .ok (.getfield 149, 3) := by decide +kernel
theorem dX5_clashPair_9 : decode cX5_clashPair 9 = .ok (.iconst 1, 1) := by decide +kernel
theorem dX5_clashPair_10 : decode cX5_clashPair 10 = .ok (.isub, 1) := by decide +kernel
theorem dX5_clashPair_11 : decode cX5_clashPair 11 = .ok (.invokevirtual 110, 3) := by decide +kernel
theorem dX5_clashPair_14 : decode cX5_clashPair 14 = .ok (.istore_n 1, 1) := by decide +kernel
theorem dX5_clashPair_15 : decode cX5_clashPair 15 = .ok (.aload_n 0, 1) := by decide +kernel
theorem dX5_clashPair_16 : decode cX5_clashPair 16 = .ok (.invokevirtual 61, 3) := by decide +kernel
theorem dX5_clashPair_19 : decode cX5_clashPair 19 = .ok (.sipush 200, 3) := by decide +kernel
theorem dX5_clashPair_22 : decode cX5_clashPair 22 = .ok (.if_icmp .ne 21, 3) := by decide +kernel
theorem dX5_clashPair_25 : decode cX5_clashPair 25 = .ok (.aload_n 0, 1) := by decide +kernel
theorem dX5_clashPair_26 : decode cX5_clashPair 26 = .ok (.getfield 32, 3) := by decide +kernel
theorem dX5_clashPair_29 : decode cX5_clashPair 29 = .ok (.aload_n 0, 1) := by decide +kernel
theorem dX5_clashPair_30 : decode cX5_clashPair 30 = .ok (.getfield 38, 3) := by decide +kernel
theorem dX5_clashPair_33 : decode cX5_clashPair 33 = .ok (.iaload, 1) := by decide +kernel
theorem dX5_clashPair_34 : decode cX5_clashPair 34 = .ok (.iload_n 1, 1) := by decide +kernel
theorem dX5_clashPair_35 : decode cX5_clashPair 35 = .ok (.if_icmp .ne 8, 3) := by decide +kernel
theorem dX5_clashPair_38 : decode cX5_clashPair 38 = .ok (.aload_n 0, 1) := by decide +kernel
theorem dX5_clashPair_39 : decode cX5_clashPair 39 = .ok (.iconst 3, 1) := by decide +kernel
theorem dX5_clashPair_40 : decode cX5_clashPair 40 = .ok (.invokevirtual 103, 3) := by decide +kernel
theorem dX5_clashPair_43 : decode cX5_clashPair 43 = .ok (.aload_n 0, 1) := by decide +kernel
theorem dX5_clashPair_44 : decode cX5_clashPair 44 = .ok (.getfield 12, 3) := by decide +kernel
theorem dX5_clashPair_47 : decode cX5_clashPair 47 = .ok (.iload_n 1, 1) := by decide +kernel
theorem dX5_clashPair_48 : decode cX5_clashPair 48 = .ok (.aload_n 0, 1) := by decide +kernel
theorem dX5_clashPair_49 : decode cX5_clashPair 49 = .ok (.iconst 0, 1) := by decide +kernel
theorem dX5_clashPair_50 : decode cX5_clashPair 50 = .ok (.aload_n 0, 1) := by decide +kernel
theorem dX5_clashPair_51 : decode cX5_clashPair 51 = .ok (.getfield 12, 3) := by decide +kernel
theorem dX5_clashPair_54 : decode cX5_clashPair 54 = .ok (.getfield 149, 3) := by decide +kernel
theorem dX5_clashPair_57 : decode cX5_clashPair 57 = .ok (.iconst 1, 1) := by decide +kernel
theorem dX5_clashPair_58 : decode cX5_clashPair 58 = .ok (.isub, 1) := by decide +kernel
theorem dX5_clashPair_59 : decode cX5_clashPair 59 = .ok (.invokevirtual 110, 3) := by decide +kernel
theorem dX5_clashPair_62 : decode cX5_clashPair 62 = .ok (.invokevirtual 186, 3) := by decide +kernel
theorem dX5_clashPair_65 : decode cX5_clashPair 65 = .ok (.return_, 1) := by decide +kernel
theorem dX5_lawBegins_0 : decode cX5_lawBegins 0 = .ok (.aload_n 0, 1) := by decide +kernel
theorem dX5_lawBegins_1 : decode cX5_lawBegins 1 = .ok (.iload_n 2, 1) := by decide +kernel
theorem dX5_lawBegins_2 : decode cX5_lawBegins 2 = .ok (.putfield 41, 3) := by decide +kernel
theorem dX5_lawBegins_5 : decode cX5_lawBegins 5 = .ok (.aload_n 0, 1) := by decide +kernel
theorem dX5_lawBegins_6 : decode cX5_lawBegins 6 = .ok (.invokevirtual 100, 3) := by decide +kernel
theorem dX5_lawBegins_9 : decode cX5_lawBegins 9 = .ok (.aload_n 0, 1) := by decide +kernel
theorem dX5_lawBegins_10 : decode cX5_lawBegins 10 = .ok (.bipush 58, 2) := by decide +kernel
theorem dX5_lawBegins_12 : decode cX5_lawBegins 12 = .ok (.invokevirtual 107, 3) := by decide +kernel
theorem dX5_lawBegins_15 : decode cX5_lawBegins 15 = .ok (.aload_n 1, 1) := by decide +kernel
theorem dX5_lawBegins_16 : decode cX5_lawBegins 16 = .ok (.invokevirtual 190, 3) := by decide +kernel
theorem dX5_lawBegins_19 : decode cX5_lawBegins 19 = .ok (.return_, 1) := by decide +kernel
theorem dX5_truth_0 : decode cX5_truth 0 = .ok (.aload_n 0, 1) := by decide +kernel
theorem dX5_truth_1 : decode cX5_truth 1 = .ok (.aload_n 1, 1) := by decide +kernel
theorem dX5_truth_2 : decode cX5_truth 2 = .ok (.iload_n 2, 1) := by decide +kernel
theorem dX5_truth_3 : decode cX5_truth 3 = .ok (.invokevirtual 193, 3) := by decide +kernel
theorem dX5_truth_6 : decode cX5_truth 6 = .ok (.iconst 0, 1) := by decide +kernel
theorem dX5_truth_7 : decode cX5_truth 7 = .ok (.istore_n 3, 1) := by decide +kernel
theorem dX5_truth_8 : decode cX5_truth 8 = .ok (.iload_n 3, 1) := by decide +kernel
theorem dX5_truth_9 : decode cX5_truth 9 = .ok (.sipush 900, 3) := by decide +kernel
theorem dX5_truth_12 : decode cX5_truth 12 = .ok (.if_icmp .ge 34, 3) := by decide +kernel
theorem dX5_truth_15 : decode cX5_truth 15 = .ok (.aload_n 0, 1) := by decide +kernel
theorem dX5_truth_16 : decode cX5_truth 16 = .ok (.invokevirtual 61, 3) := by decide +kernel
theorem dX5_truth_19 : decode cX5_truth 19 = .ok (.bipush 16, 2) := by decide +kernel
theorem dX5_truth_21 : decode cX5_truth 21 = .ok (.if_icmp .ne 25, 3) := by decide +kernel
theorem dX5_truth_24 : decode cX5_truth 24 = .ok (.aload_n 0, 1) := by decide +kernel
theorem dX5_truth_25 : decode cX5_truth 25 = .ok (.invokevirtual 100, 3) := by decide +kernel
theorem dX5_truth_28 : decode cX5_truth 28 = .ok (.aload_n 0, 1) := by decide +kernel
theorem dX5_truth_29 : decode cX5_truth 29 = .ok (.aload_n 1, 1) := by decide +kernel
theorem dX5_truth_30 : decode cX5_truth 30 = .ok (.iload_n 2, 1) := by decide +kernel
theorem dX5_truth_31 : decode cX5_truth 31 = .ok (.invokevirtual 193, 3) := by decide +kernel
theorem dX5_truth_34 : decode cX5_truth 34 = .ok (.aload_n 1, 1) := by decide +kernel
theorem dX5_truth_35 : decode cX5_truth 35 = .ok (.bipush (-14), 2) := by decide +kernel
theorem dX5_truth_37 : decode cX5_truth 37 = .ok (.invokevirtual 196, 3) := by decide +kernel
theorem dX5_truth_40 : decode cX5_truth 40 = .ok (.iinc 3 1, 3) := by decide +kernel
theorem dX5_truth_43 : decode cX5_truth 43 = .ok (.goto (-35), 3) := by decide +kernel
theorem dX5_truth_46 : decode cX5_truth 46 = .ok (.return_, 1) := by decide +kernel
theorem dX5_both_0 : decode cX5_both 0 = .ok (.aload_n 0, 1) := by decide +kernel
theorem dX5_both_1 : decode cX5_both 1 = .ok (.aload_n 1, 1) := by decide +kernel
theorem dX5_both_2 : decode cX5_both 2 = .ok (.iload_n 2, 1) := by decide +kernel
theorem dX5_both_3 : decode cX5_both 3 = .ok (.invokevirtual 199, 3) := by decide +kernel
theorem dX5_both_6 : decode cX5_both 6 = .ok (.iconst 0, 1) := by decide +kernel
theorem dX5_both_7 : decode cX5_both 7 = .ok (.istore_n 3, 1) := by decide +kernel
theorem dX5_both_8 : decode cX5_both 8 = .ok (.iload_n 3, 1) := by decide +kernel
theorem dX5_both_9 : decode cX5_both 9 = .ok (.sipush 900, 3) := by decide +kernel
theorem dX5_both_12 : decode cX5_both 12 = .ok (.if_icmp .ge 34, 3) := by decide +kernel
theorem dX5_both_15 : decode cX5_both 15 = .ok (.aload_n 0, 1) := by decide +kernel
theorem dX5_both_16 : decode cX5_both 16 = .ok (.invokevirtual 61, 3) := by decide +kernel
theorem dX5_both_19 : decode cX5_both 19 = .ok (.bipush 17, 2) := by decide +kernel
theorem dX5_both_21 : decode cX5_both 21 = .ok (.if_icmp .ne 25, 3) := by decide +kernel
theorem dX5_both_24 : decode cX5_both 24 = .ok (.aload_n 0, 1) := by decide +kernel
theorem dX5_both_25 : decode cX5_both 25 = .ok (.invokevirtual 100, 3) := by decide +kernel
theorem dX5_both_28 : decode cX5_both 28 = .ok (.aload_n 0, 1) := by decide +kernel
theorem dX5_both_29 : decode cX5_both 29 = .ok (.aload_n 1, 1) := by decide +kernel
theorem dX5_both_30 : decode cX5_both 30 = .ok (.iload_n 2, 1) := by decide +kernel
theorem dX5_both_31 : decode cX5_both 31 = .ok (.invokevirtual 199, 3) := by decide +kernel
theorem dX5_both_34 : decode cX5_both 34 = .ok (.aload_n 1, 1) := by decide +kernel
theorem dX5_both_35 : decode cX5_both 35 = .ok (.bipush (-13), 2) := by decide +kernel
theorem dX5_both_37 : decode cX5_both 37 = .ok (.invokevirtual 196, 3) := by decide +kernel
theorem dX5_both_40 : decode cX5_both 40 = .ok (.iinc 3 1, 3) := by decide +kernel
theorem dX5_both_43 : decode cX5_both 43 = .ok (.goto (-35), 3) := by decide +kernel
theorem dX5_both_46 : decode cX5_both 46 = .ok (.return_, 1) := by decide +kernel
theorem dX5_unit_0 : decode cX5_unit 0 = .ok (.aload_n 0, 1) := by decide +kernel
theorem dX5_unit_1 : decode cX5_unit 1 = .ok (.invokevirtual 61, 3) := by decide +kernel
theorem dX5_unit_4 : decode cX5_unit 4 = .ok (.istore_n 3, 1) := by decide +kernel
theorem dX5_unit_5 : decode cX5_unit 5 = .ok (.iload_n 3, 1) := by decide +kernel
theorem dX5_unit_6 : decode cX5_unit 6 = .ok (.bipush 18, 2) := by decide +kernel
theorem dX5_unit_8 : decode cX5_unit 8 = .ok (.if_icmp .eq 18, 3) := by decide +kernel
theorem dX5_unit_11 : decode cX5_unit 11 = .ok (.iload_n 3, 1) := by decide +kernel
theorem dX5_unit_12 : decode cX5_unit 12 = .ok (.bipush 91, 2) := by decide +kernel
theorem dX5_unit_14 : decode cX5_unit 14 = .ok (.if_icmp .eq 12, 3) := by decide +kernel
theorem dX5_unit_17 : decode cX5_unit 17 = .ok (.aload_n 0, 1) := by decide +kernel
theorem dX5_unit_18 : decode cX5_unit 18 = .ok (.aload_n 1, 1) := by decide +kernel
theorem dX5_unit_19 : decode cX5_unit 19 = .ok (.iload_n 2, 1) := by decide +kernel
theorem dX5_unit_20 : decode cX5_unit 20 = .ok (.invokevirtual 202, 3) := by decide +kernel
theorem dX5_unit_23 : decode cX5_unit 23 = .ok (.goto 50, 3) := by decide +kernel
theorem dX5_unit_26 : decode cX5_unit 26 = .ok (.iload_n 2, 1) := by decide +kernel
theorem dX5_unit_27 : decode cX5_unit 27 = .ok (.bipush 6, 2) := by decide +kernel
theorem dX5_unit_29 : decode cX5_unit 29 = .ok (.if_icmp .lt 11, 3) := by decide +kernel
theorem dX5_unit_32 : decode cX5_unit 32 = .ok (.aload_n 0, 1) := by decide +kernel
theorem dX5_unit_33 : decode cX5_unit 33 = .ok (.iconst 4, 1) := by decide +kernel
theorem dX5_unit_34 : decode cX5_unit 34 = .ok (.invokevirtual 103, 3) := by decide +kernel
theorem dX5_unit_37 : decode cX5_unit 37 = .ok (.goto 36, 3) := by decide +kernel
theorem dX5_unit_40 : decode cX5_unit 40 = .ok (.iload_n 3, 1) := by decide +kernel
theorem dX5_unit_41 : decode cX5_unit 41 = .ok (.bipush 18, 2) := by decide +kernel
theorem dX5_unit_43 : decode cX5_unit 43 = .ok (.if_icmp .ne 12, 3) := by decide +kernel
theorem dX5_unit_46 : decode cX5_unit 46 = .ok (.aload_n 0, 1) := by decide +kernel
theorem dX5_unit_47 : decode cX5_unit 47 = .ok (.aload_n 1, 1) := by decide +kernel
theorem dX5_unit_48 : decode cX5_unit 48 = .ok (.iload_n 2, 1) := by decide +kernel
theorem dX5_unit_49 : decode cX5_unit 49 = .ok (.invokevirtual 205, 3) := by decide +kernel
theorem dX5_unit_52 : decode cX5_unit 52 = .ok (.goto 21, 3) := by decide +kernel
theorem dX5_unit_55 : decode cX5_unit 55 = .ok (.aload_n 0, 1) := by decide +kernel
theorem dX5_unit_56 : decode cX5_unit 56 = .ok (.invokevirtual 100, 3) := by decide +kernel
theorem dX5_unit_59 : decode cX5_unit 59 = .ok (.aload_n 0, 1) := by decide +kernel
theorem dX5_unit_60 : decode cX5_unit 60 = .ok (.aload_n 1, 1) := by decide +kernel
theorem dX5_unit_61 : decode cX5_unit 61 = .ok (.iload_n 2, 1) := by decide +kernel
theorem dX5_unit_62 : decode cX5_unit 62 = .ok (.iconst 1, 1) := by decide +kernel
theorem dX5_unit_63 : decode cX5_unit 63 = .ok (.iadd, 1) := by decide +kernel
theorem dX5_unit_64 : decode cX5_unit 64 = .ok (.invokevirtual 142, 3) := by decide +kernel
theorem dX5_unit_67 : decode cX5_unit 67 = .ok (.aload_n 0, 1) := by decide +kernel
theorem dX5_unit_68 : decode cX5_unit 68 = .ok (.bipush 93, 2) := by decide +kernel
theorem dX5_unit_70 : decode cX5_unit 70 = .ok (.invokevirtual 107, 3) := by decide +kernel
theorem dX5_unit_73 : decode cX5_unit 73 = .ok (.return_, 1) := by decide +kernel
theorem dX5_negated_0 : decode cX5_negated 0 = .ok (.aload_n 0, 1) := by decide +kernel
theorem dX5_negated_1 : decode cX5_negated 1 = .ok (.invokevirtual 100, 3) := by decide +kernel
theorem dX5_negated_4 : decode cX5_negated 4 = .ok (.aload_n 0, 1) := by decide +kernel
theorem dX5_negated_5 : decode cX5_negated 5 = .ok (.aload_n 1, 1) := by decide +kernel
theorem dX5_negated_6 : decode cX5_negated 6 = .ok (.iload_n 2, 1) := by decide +kernel
theorem dX5_negated_7 : decode cX5_negated 7 = .ok (.iconst 1, 1) := by decide +kernel
theorem dX5_negated_8 : decode cX5_negated 8 = .ok (.iadd, 1) := by decide +kernel
theorem dX5_negated_9 : decode cX5_negated 9 = .ok (.invokevirtual 199, 3) := by decide +kernel
theorem dX5_negated_12 : decode cX5_negated 12 = .ok (.aload_n 1, 1) := by decide +kernel
theorem dX5_negated_13 : decode cX5_negated 13 = .ok (.bipush (-15), 2) := by decide +kernel
theorem dX5_negated_15 : decode cX5_negated 15 = .ok (.invokevirtual 196, 3) := by decide +kernel
theorem dX5_negated_18 : decode cX5_negated 18 = .ok (.return_, 1) := by decide +kernel
theorem dX5_compared_0 : decode cX5_compared 0 = .ok (.aload_n 0, 1) := by decide +kernel
theorem dX5_compared_1 : decode cX5_compared 1 = .ok (.aload_n 1, 1) := by decide +kernel
theorem dX5_compared_2 : decode cX5_compared 2 = .ok (.iload_n 2, 1) := by decide +kernel
theorem dX5_compared_3 : decode cX5_compared 3 = .ok (.invokevirtual 208, 3) := by decide +kernel
theorem dX5_compared_6 : decode cX5_compared 6 = .ok (.aload_n 0, 1) := by decide +kernel
theorem dX5_compared_7 : decode cX5_compared 7 = .ok (.invokevirtual 61, 3) := by decide +kernel
theorem dX5_compared_10 : decode cX5_compared 10 = .ok (.istore_n 3, 1) := by decide +kernel
theorem dX5_compared_11 : decode cX5_compared 11 = .ok (.iload_n 3, 1) := by decide +kernel
theorem dX5_compared_12 : decode cX5_compared 12 = .ok (.bipush 61, 2) := by decide +kernel
theorem dX5_compared_14 : decode cX5_compared 14 = .ok (.if_icmp .eq 21, 3) := by decide +kernel
theorem dX5_compared_17 : decode cX5_compared 17 = .ok (.iload_n 3, 1) := by decide +kernel
theorem dX5_compared_18 : decode cX5_compared 18 = .ok (.bipush 60, 2) := by decide +kernel
theorem dX5_compared_20 : decode cX5_compared 20 = .ok (.if_icmp .eq 15, 3) := by decide +kernel
theorem dX5_compared_23 : decode cX5_compared 23 = .ok (.iload_n 3, 1) := by decide +kernel
theorem dX5_compared_24 : decode cX5_compared 24 = .ok (.bipush 62, 2) := by decide +kernel
theorem dX5_compared_26 : decode cX5_compared 26 = .ok (.if_icmp .eq 9, 3) := by decide +kernel
theorem dX5_compared_29 : decode cX5_compared 29 = .ok (.aload_n 0, 1) := by decide +kernel
theorem dX5_compared_30 : decode cX5_compared 30 = .ok (.iconst 2, 1) := by decide +kernel
theorem dX5_compared_31 : decode cX5_compared 31 = .ok (.invokevirtual 103, 3) := by decide +kernel
theorem dX5_compared_34 : decode cX5_compared 34 = .ok (.return_, 1) := by decide +kernel
theorem dX5_compared_35 : decode cX5_compared 35 = .ok (.aload_n 0, 1) := by decide +kernel
theorem dX5_compared_36 : decode cX5_compared 36 = .ok (.invokevirtual 100, 3) := by decide +kernel
theorem dX5_compared_39 : decode cX5_compared 39 = .ok (.aload_n 0, 1) := by decide +kernel
theorem dX5_compared_40 : decode cX5_compared 40 = .ok (.aload_n 1, 1) := by decide +kernel
theorem dX5_compared_41 : decode cX5_compared 41 = .ok (.iload_n 2, 1) := by decide +kernel
theorem dX5_compared_42 : decode cX5_compared 42 = .ok (.invokevirtual 208, 3) := by decide +kernel
theorem dX5_compared_45 : decode cX5_compared 45 = .ok (.aload_n 1, 1) := by decide +kernel
theorem dX5_compared_46 : decode cX5_compared 46 = .ok (.iload_n 3, 1) := by decide +kernel
theorem dX5_compared_47 : decode cX5_compared 47 = .ok (.bipush 61, 2) := by decide +kernel
theorem dX5_compared_49 : decode cX5_compared 49 = .ok (.if_icmp .ne 8, 3) := by decide +kernel
theorem dX5_compared_52 : decode cX5_compared 52 = .ok (.bipush (-10), 2) := by decide +kernel
theorem dX5_compared_54 : decode cX5_compared 54 = .ok (.goto 16, 3) := by decide +kernel
theorem dX5_compared_57 : decode cX5_compared 57 = .ok (.iload_n 3, 1) := by decide +kernel
theorem dX5_compared_58 : decode cX5_compared 58 = .ok (.bipush 60, 2) := by decide +kernel
theorem dX5_compared_60 : decode cX5_compared 60 = .ok (.if_icmp .ne 8, 3) := by decide +kernel
theorem dX5_compared_63 : decode cX5_compared 63 = .ok (.bipush (-11), 2) := by decide +kernel
theorem dX5_compared_65 : decode cX5_compared 65 = .ok (.goto 5, 3) := by decide +kernel
theorem dX5_compared_68 : decode cX5_compared 68 = .ok (.bipush (-12), 2) := by decide +kernel
theorem dX5_compared_70 : decode cX5_compared 70 = .ok (.invokevirtual 196, 3) := by decide +kernel
theorem dX5_compared_73 : decode cX5_compared 73 = .ok (.return_, 1) := by decide +kernel
theorem dX5_sum_0 : decode cX5_sum 0 = .ok (.aload_n 0, 1) := by decide +kernel
theorem dX5_sum_1 : decode cX5_sum 1 = .ok (.aload_n 1, 1) := by decide +kernel
theorem dX5_sum_2 : decode cX5_sum 2 = .ok (.iload_n 2, 1) := by decide +kernel
theorem dX5_sum_3 : decode cX5_sum 3 = .ok (.invokevirtual 211, 3) := by decide +kernel
theorem dX5_sum_6 : decode cX5_sum 6 = .ok (.iconst 0, 1) := by decide +kernel
theorem dX5_sum_7 : decode cX5_sum 7 = .ok (.istore_n 3, 1) := by decide +kernel
theorem dX5_sum_8 : decode cX5_sum 8 = .ok (.iload_n 3, 1) := by decide +kernel
theorem dX5_sum_9 : decode cX5_sum 9 = .ok (.sipush 900, 3) := by decide +kernel
theorem dX5_sum_12 : decode cX5_sum 12 = .ok (.if_icmp .ge 61, 3) := by decide +kernel
theorem dX5_sum_15 : decode cX5_sum 15 = .ok (.aload_n 0, 1) := by decide +kernel
theorem dX5_sum_16 : decode cX5_sum 16 = .ok (.invokevirtual 61, 3) := by decide +kernel
theorem dX5_sum_19 : decode cX5_sum 19 = .ok (.bipush 43, 2) := by decide +kernel
theorem dX5_sum_21 : decode cX5_sum 21 = .ok (.if_icmp .eq 12, 3) := by decide +kernel
theorem dX5_sum_24 : decode cX5_sum 24 = .ok (.aload_n 0, 1) := by decide +kernel
theorem dX5_sum_25 : decode cX5_sum 25 = .ok (.invokevirtual 61, 3) := by decide +kernel
theorem dX5_sum_28 : decode cX5_sum 28 = .ok (.bipush 45, 2) := by decide +kernel
theorem dX5_sum_30 : decode cX5_sum 30 = .ok (.if_icmp .ne 43, 3) := by decide +kernel
theorem dX5_sum_33 : decode cX5_sum 33 = .ok (.aload_n 0, 1) := by decide +kernel
theorem dX5_sum_34 : decode cX5_sum 34 = .ok (.invokevirtual 61, 3) := by decide +kernel
theorem dX5_sum_37 : decode cX5_sum 37 = .ok (.bipush 43, 2) := by decide +kernel
theorem dX5_sum_39 : decode cX5_sum 39 = .ok (.if_icmp .ne 8, 3) := by decide +kernel
theorem dX5_sum_42 : decode cX5_sum 42 = .ok (.bipush (-7), 2) := by decide +kernel
theorem dX5_sum_44 : decode cX5_sum 44 = .ok (.goto 5, 3) := by decide +kernel
theorem dX5_sum_47 : decode cX5_sum 47 = .ok (.bipush (-8), 2) := by decide +kernel
theorem dX5_sum_49 : decode cX5_sum 49 = .ok (.istore 4, 2) := by decide +kernel
theorem dX5_sum_51 : decode cX5_sum 51 = .ok (.aload_n 0, 1) := by decide +kernel
theorem dX5_sum_52 : decode cX5_sum 52 = .ok (.invokevirtual 100, 3) := by decide +kernel
theorem dX5_sum_55 : decode cX5_sum 55 = .ok (.aload_n 0, 1) := by decide +kernel
theorem dX5_sum_56 : decode cX5_sum 56 = .ok (.aload_n 1, 1) := by decide +kernel
theorem dX5_sum_57 : decode cX5_sum 57 = .ok (.iload_n 2, 1) := by decide +kernel
theorem dX5_sum_58 : decode cX5_sum 58 = .ok (.invokevirtual 211, 3) := by decide +kernel
theorem dX5_sum_61 : decode cX5_sum 61 = .ok (.aload_n 1, 1) := by decide +kernel
theorem dX5_sum_62 : decode cX5_sum 62 = .ok (.iload 4, 2) := by decide +kernel
theorem dX5_sum_64 : decode cX5_sum 64 = .ok (.invokevirtual 196, 3) := by decide +kernel
theorem dX5_sum_67 : decode cX5_sum 67 = .ok (.iinc 3 1, 3) := by decide +kernel
theorem dX5_sum_70 : decode cX5_sum 70 = .ok (.goto (-62), 3) := by decide +kernel
theorem dX5_sum_73 : decode cX5_sum 73 = .ok (.return_, 1) := by decide +kernel
theorem dX5_term_0 : decode cX5_term 0 = .ok (.aload_n 0, 1) := by decide +kernel
theorem dX5_term_1 : decode cX5_term 1 = .ok (.aload_n 1, 1) := by decide +kernel
theorem dX5_term_2 : decode cX5_term 2 = .ok (.iload_n 2, 1) := by decide +kernel
theorem dX5_term_3 : decode cX5_term 3 = .ok (.invokevirtual 214, 3) := by decide +kernel
theorem dX5_term_6 : decode cX5_term 6 = .ok (.iconst 0, 1) := by decide +kernel
theorem dX5_term_7 : decode cX5_term 7 = .ok (.istore_n 3, 1) := by decide +kernel
theorem dX5_term_8 : decode cX5_term 8 = .ok (.iload_n 3, 1) := by decide +kernel
theorem dX5_term_9 : decode cX5_term 9 = .ok (.sipush 900, 3) := by decide +kernel
theorem dX5_term_12 : decode cX5_term 12 = .ok (.if_icmp .ge 34, 3) := by decide +kernel
theorem dX5_term_15 : decode cX5_term 15 = .ok (.aload_n 0, 1) := by decide +kernel
theorem dX5_term_16 : decode cX5_term 16 = .ok (.invokevirtual 61, 3) := by decide +kernel
theorem dX5_term_19 : decode cX5_term 19 = .ok (.bipush 42, 2) := by decide +kernel
theorem dX5_term_21 : decode cX5_term 21 = .ok (.if_icmp .ne 25, 3) := by decide +kernel
theorem dX5_term_24 : decode cX5_term 24 = .ok (.aload_n 0, 1) := by decide +kernel
theorem dX5_term_25 : decode cX5_term 25 = .ok (.invokevirtual 100, 3) := by decide +kernel
theorem dX5_term_28 : decode cX5_term 28 = .ok (.aload_n 0, 1) := by decide +kernel
theorem dX5_term_29 : decode cX5_term 29 = .ok (.aload_n 1, 1) := by decide +kernel
theorem dX5_term_30 : decode cX5_term 30 = .ok (.iload_n 2, 1) := by decide +kernel
theorem dX5_term_31 : decode cX5_term 31 = .ok (.invokevirtual 214, 3) := by decide +kernel
theorem dX5_term_34 : decode cX5_term 34 = .ok (.aload_n 1, 1) := by decide +kernel
theorem dX5_term_35 : decode cX5_term 35 = .ok (.bipush (-9), 2) := by decide +kernel
theorem dX5_term_37 : decode cX5_term 37 = .ok (.invokevirtual 196, 3) := by decide +kernel
theorem dX5_term_40 : decode cX5_term 40 = .ok (.iinc 3 1, 3) := by decide +kernel
theorem dX5_term_43 : decode cX5_term 43 = .ok (.goto (-35), 3) := by decide +kernel
theorem dX5_term_46 : decode cX5_term 46 = .ok (.return_, 1) := by decide +kernel
theorem dX5_atom_0 : decode cX5_atom 0 = .ok (.aload_n 0, 1) := by decide +kernel
theorem dX5_atom_1 : decode cX5_atom 1 = .ok (.invokevirtual 61, 3) := by decide +kernel
theorem dX5_atom_4 : decode cX5_atom 4 = .ok (.sipush 200, 3) := by decide +kernel
theorem dX5_atom_7 : decode cX5_atom 7 = .ok (.if_icmp .ne 16, 3) := by decide +kernel
theorem dX5_atom_10 : decode cX5_atom 10 = .ok (.aload_n 1, 1) := by decide +kernel
theorem dX5_atom_11 : decode cX5_atom 11 = .ok (.aload_n 0, 1) := by decide +kernel
theorem dX5_atom_12 : decode cX5_atom 12 = .ok (.iconst 0, 1) := by decide +kernel
theorem dX5_atom_13 : decode cX5_atom 13 = .ok (.sipush 999, 3) := by decide +kernel
theorem dX5_atom_16 : decode cX5_atom 16 = .ok (.invokevirtual 110, 3) := by decide +kernel
theorem dX5_atom_19 : decode cX5_atom 19 = .ok (.invokevirtual 196, 3) := by decide +kernel
theorem dX5_atom_22 : decode cX5_atom 22 = .ok (.return_, 1) := by decide +kernel
theorem dX5_atom_23 : decode cX5_atom 23 = .ok (.aload_n 0, 1) := by decide +kernel
theorem dX5_atom_24 : decode cX5_atom 24 = .ok (.invokevirtual 61, 3) := by decide +kernel
theorem dX5_atom_27 : decode cX5_atom 27 = .ok (.bipush 40, 2) := by decide +kernel
theorem dX5_atom_29 : decode cX5_atom 29 = .ok (.if_icmp .ne 10, 3) := by decide +kernel
theorem dX5_atom_32 : decode cX5_atom 32 = .ok (.aload_n 0, 1) := by decide +kernel
theorem dX5_atom_33 : decode cX5_atom 33 = .ok (.aload_n 1, 1) := by decide +kernel
theorem dX5_atom_34 : decode cX5_atom 34 = .ok (.iload_n 2, 1) := by decide +kernel
theorem dX5_atom_35 : decode cX5_atom 35 = .ok (.invokevirtual 217, 3) := by decide +kernel
theorem dX5_atom_38 : decode cX5_atom 38 = .ok (.return_, 1) := by decide +kernel
theorem dX5_atom_39 : decode cX5_atom 39 = .ok (.aload_n 0, 1) := by decide +kernel
theorem dX5_atom_40 : decode cX5_atom 40 = .ok (.invokevirtual 61, 3) := by decide +kernel
theorem dX5_atom_43 : decode cX5_atom 43 = .ok (.invokestatic 220, 3) := by decide +kernel
theorem dX5_atom_46 : decode cX5_atom 46 = .ok (.istore_n 3, 1) := by decide +kernel
theorem dX5_atom_47 : decode cX5_atom 47 = .ok (.iload_n 3, 1) := by decide +kernel
theorem dX5_atom_48 : decode cX5_atom 48 = .ok (.ifCond .eq 16, 3) := by decide +kernel
theorem dX5_atom_51 : decode cX5_atom 51 = .ok (.iload_n 3, 1) := by decide +kernel
theorem dX5_atom_52 : decode cX5_atom 52 = .ok (.bipush (-6), 2) := by decide +kernel
theorem dX5_atom_54 : decode cX5_atom 54 = .ok (.if_icmp .ne 16, 3) := by decide +kernel
theorem dX5_atom_57 : decode cX5_atom 57 = .ok (.aload_n 0, 1) := by decide +kernel
theorem dX5_atom_58 : decode cX5_atom 58 = .ok (.getfield 41, 3) := by decide +kernel
theorem dX5_atom_61 : decode cX5_atom 61 = .ok (.ifCond .ne 9, 3) := by decide +kernel
theorem dX5_atom_64 : decode cX5_atom 64 = .ok (.aload_n 0, 1) := by decide +kernel
theorem dX5_atom_65 : decode cX5_atom 65 = .ok (.iconst 2, 1) := by decide +kernel
theorem dX5_atom_66 : decode cX5_atom 66 = .ok (.invokevirtual 103, 3) := by decide +kernel
theorem dX5_atom_69 : decode cX5_atom 69 = .ok (.return_, 1) := by decide +kernel
theorem dX5_atom_70 : decode cX5_atom 70 = .ok (.aload_n 1, 1) := by decide +kernel
theorem dX5_atom_71 : decode cX5_atom 71 = .ok (.iload_n 3, 1) := by decide +kernel
theorem dX5_atom_72 : decode cX5_atom 72 = .ok (.invokevirtual 196, 3) := by decide +kernel
theorem dX5_atom_75 : decode cX5_atom 75 = .ok (.aload_n 0, 1) := by decide +kernel
theorem dX5_atom_76 : decode cX5_atom 76 = .ok (.invokevirtual 100, 3) := by decide +kernel
theorem dX5_atom_79 : decode cX5_atom 79 = .ok (.return_, 1) := by decide +kernel
theorem dX5_bracketed_0 : decode cX5_bracketed 0 = .ok (.iload_n 2, 1) := by decide +kernel
theorem dX5_bracketed_1 : decode cX5_bracketed 1 = .ok (.bipush 6, 2) := by decide +kernel
theorem dX5_bracketed_3 : decode cX5_bracketed 3 = .ok (.if_icmp .lt 9, 3) := by decide +kernel
theorem dX5_bracketed_6 : decode cX5_bracketed 6 = .ok (.aload_n 0, 1) := by decide +kernel
theorem dX5_bracketed_7 : decode cX5_bracketed 7 = .ok (.iconst 4, 1) := by decide +kernel
theorem dX5_bracketed_8 : decode cX5_bracketed 8 = .ok (.invokevirtual 103, 3) := by decide +kernel
theorem dX5_bracketed_11 : decode cX5_bracketed 11 = .ok (.return_, 1) := by decide +kernel
theorem dX5_bracketed_12 : decode cX5_bracketed 12 = .ok (.aload_n 0, 1) := by decide +kernel
theorem dX5_bracketed_13 : decode cX5_bracketed 13 = .ok (.invokevirtual 100, 3) := by decide +kernel
theorem dX5_bracketed_16 : decode cX5_bracketed 16 = .ok (.aload_n 0, 1) := by decide +kernel
theorem dX5_bracketed_17 : decode cX5_bracketed 17 = .ok (.aload_n 1, 1) := by decide +kernel
theorem dX5_bracketed_18 : decode cX5_bracketed 18 = .ok (.iload_n 2, 1) := by decide +kernel
theorem dX5_bracketed_19 : decode cX5_bracketed 19 = .ok (.iconst 1, 1) := by decide +kernel
theorem dX5_bracketed_20 : decode cX5_bracketed 20 = .ok (.iadd, 1) := by decide +kernel
theorem dX5_bracketed_21 : decode cX5_bracketed 21 = .ok (.invokevirtual 208, 3) := by decide +kernel
theorem dX5_bracketed_24 : decode cX5_bracketed 24 = .ok (.aload_n 0, 1) := by decide +kernel
theorem dX5_bracketed_25 : decode cX5_bracketed 25 = .ok (.bipush 41, 2) := by decide +kernel
theorem dX5_bracketed_27 : decode cX5_bracketed 27 = .ok (.invokevirtual 107, 3) := by decide +kernel
theorem dX5_bracketed_30 : decode cX5_bracketed 30 = .ok (.return_, 1) := by decide +kernel
theorem dX5_stepOf_0 : decode cX5_stepOf 0 = .ok (.iload_n 0, 1) := by decide +kernel
theorem dX5_stepOf_1 : decode cX5_stepOf 1 = .ok (.tableswitch 56 2 7 #[39, 41, 44, 47, 50, 53], 39) := by decide +kernel
theorem dX5_stepOf_40 : decode cX5_stepOf 40 = .ok (.iconst (-1), 1) := by decide +kernel
theorem dX5_stepOf_41 : decode cX5_stepOf 41 = .ok (.ireturn, 1) := by decide +kernel
theorem dX5_stepOf_42 : decode cX5_stepOf 42 = .ok (.bipush (-2), 2) := by decide +kernel
theorem dX5_stepOf_44 : decode cX5_stepOf 44 = .ok (.ireturn, 1) := by decide +kernel
theorem dX5_stepOf_45 : decode cX5_stepOf 45 = .ok (.bipush (-3), 2) := by decide +kernel
theorem dX5_stepOf_47 : decode cX5_stepOf 47 = .ok (.ireturn, 1) := by decide +kernel
theorem dX5_stepOf_48 : decode cX5_stepOf 48 = .ok (.bipush (-4), 2) := by decide +kernel
theorem dX5_stepOf_50 : decode cX5_stepOf 50 = .ok (.ireturn, 1) := by decide +kernel
theorem dX5_stepOf_51 : decode cX5_stepOf 51 = .ok (.bipush (-5), 2) := by decide +kernel
theorem dX5_stepOf_53 : decode cX5_stepOf 53 = .ok (.ireturn, 1) := by decide +kernel
theorem dX5_stepOf_54 : decode cX5_stepOf 54 = .ok (.bipush (-6), 2) := by decide +kernel
theorem dX5_stepOf_56 : decode cX5_stepOf 56 = .ok (.ireturn, 1) := by decide +kernel
theorem dX5_stepOf_57 : decode cX5_stepOf 57 = .ok (.iconst 0, 1) := by decide +kernel
theorem dX5_stepOf_58 : decode cX5_stepOf 58 = .ok (.ireturn, 1) := by decide +kernel
theorem dX6_init_0 : decode cX6_init 0 = .ok (.aload_n 0, 1) := by decide +kernel
theorem dX6_init_1 : decode cX6_init 1 = .ok (.invokespecial 1, 3) := by decide +kernel
theorem dX6_init_4 : decode cX6_init 4 = .ok (.aload_n 0, 1) := by decide +kernel
theorem dX6_init_5 : decode cX6_init 5 = .ok (.bipush 40, 2) := by decide +kernel
theorem dX6_init_7 : decode cX6_init 7 = .ok (.newarray .long, 2) := by decide +kernel
theorem dX6_init_9 : decode cX6_init 9 = .ok (.putfield 9, 3) := by decide +kernel
theorem dX6_init_12 : decode cX6_init 12 = .ok (.aload_n 0, 1) := by decide +kernel
theorem dX6_init_13 : decode cX6_init 13 = .ok (.iconst 0, 1) := by decide +kernel
theorem dX6_init_14 : decode cX6_init 14 = .ok (.putfield 13, 3) := by decide +kernel
theorem dX6_init_17 : decode cX6_init 17 = .ok (.aload_n 0, 1) := by decide +kernel
theorem dX6_init_18 : decode cX6_init 18 = .ok (.iconst 0, 1) := by decide +kernel
theorem dX6_init_19 : decode cX6_init 19 = .ok (.putfield 17, 3) := by decide +kernel
theorem dX6_init_22 : decode cX6_init 22 = .ok (.aload_n 0, 1) := by decide +kernel
theorem dX6_init_23 : decode cX6_init 23 = .ok (.iconst 0, 1) := by decide +kernel
theorem dX6_init_24 : decode cX6_init 24 = .ok (.putfield 20, 3) := by decide +kernel
theorem dX6_init_27 : decode cX6_init 27 = .ok (.return_, 1) := by decide +kernel
theorem dX6_begin_0 : decode cX6_begin 0 = .ok (.aload_n 0, 1) := by decide +kernel
theorem dX6_begin_1 : decode cX6_begin 1 = .ok (.getfield 9, 3) := by decide +kernel
theorem dX6_begin_4 : decode cX6_begin 4 = .ok (.lconst 0, 1) := by decide +kernel
theorem dX6_begin_5 : decode cX6_begin 5 = .ok (.invokestatic 24, 3) := by decide +kernel
theorem dX6_begin_8 : decode cX6_begin 8 = .ok (.aload_n 0, 1) := by decide +kernel
theorem dX6_begin_9 : decode cX6_begin 9 = .ok (.iload_n 1, 1) := by decide +kernel
theorem dX6_begin_10 : decode cX6_begin 10 = .ok (.putfield 13, 3) := by decide +kernel
theorem dX6_begin_13 : decode cX6_begin 13 = .ok (.aload_n 0, 1) := by decide +kernel
theorem dX6_begin_14 : decode cX6_begin 14 = .ok (.iload_n 2, 1) := by decide +kernel
theorem dX6_begin_15 : decode cX6_begin 15 = .ok (.putfield 17, 3) := by decide +kernel
theorem dX6_begin_18 : decode cX6_begin 18 = .ok (.aload_n 0, 1) := by decide +kernel
theorem dX6_begin_19 : decode cX6_begin 19 = .ok (.iconst 1, 1) := by decide +kernel
theorem dX6_begin_20 : decode cX6_begin 20 = .ok (.putfield 20, 3) := by decide +kernel
theorem dX6_begin_23 : decode cX6_begin 23 = .ok (.return_, 1) := by decide +kernel
theorem dX6_at_0 : decode cX6_at 0 = .ok (.iload_n 1, 1) := by decide +kernel
theorem dX6_at_1 : decode cX6_at 1 = .ok (.ifCond .lt 18, 3) := by decide +kernel
theorem dX6_at_4 : decode cX6_at 4 = .ok (.iload_n 1, 1) := by decide +kernel
theorem dX6_at_5 : decode cX6_at 5 = .ok (.bipush 40, 2) := by decide +kernel
theorem dX6_at_7 : decode cX6_at 7 = .ok (.if_icmp .ge 12, 3) := by decide +kernel
theorem dX6_at_10 : decode cX6_at 10 = .ok (.aload_n 0, 1) := by decide +kernel
theorem dX6_at_11 : decode cX6_at 11 = .ok (.getfield 9, 3) := by decide +kernel
theorem dX6_at_14 : decode cX6_at 14 = .ok (.iload_n 1, 1) := by decide +kernel
theorem dX6_at_15 : decode cX6_at 15 = .ok (.laload, 1) := by decide +kernel
theorem dX6_at_16 : decode cX6_at 16 = .ok (.goto 4, 3) := by decide +kernel
theorem dX6_at_19 : decode cX6_at 19 = .ok (.lconst 0, 1) := by decide +kernel
theorem dX6_at_20 : decode cX6_at 20 = .ok (.lreturn, 1) := by decide +kernel
theorem dX6_put_0 : decode cX6_put 0 = .ok (.iload_n 1, 1) := by decide +kernel
theorem dX6_put_1 : decode cX6_put 1 = .ok (.ifCond .lt 20, 3) := by decide +kernel
theorem dX6_put_4 : decode cX6_put 4 = .ok (.iload_n 1, 1) := by decide +kernel
theorem dX6_put_5 : decode cX6_put 5 = .ok (.bipush 40, 2) := by decide +kernel
theorem dX6_put_7 : decode cX6_put 7 = .ok (.if_icmp .ge 14, 3) := by decide +kernel
theorem dX6_put_10 : decode cX6_put 10 = .ok (.aload_n 0, 1) := by decide +kernel
theorem dX6_put_11 : decode cX6_put 11 = .ok (.getfield 9, 3) := by decide +kernel
theorem dX6_put_14 : decode cX6_put 14 = .ok (.iload_n 1, 1) := by decide +kernel
theorem dX6_put_15 : decode cX6_put 15 = .ok (.aload_n 0, 1) := by decide +kernel
theorem dX6_put_16 : decode cX6_put 16 = .ok (.lload_n 2, 1) := by decide +kernel
theorem dX6_put_17 : decode cX6_put 17 = .ok (.invokevirtual 30, 3) := by decide +kernel
theorem dX6_put_20 : decode cX6_put 20 = .ok (.lastore, 1) := by decide +kernel
theorem dX6_put_21 : decode cX6_put 21 = .ok (.return_, 1) := by decide +kernel
theorem dX6_cut_0 : decode cX6_cut 0 = .ok (.aload_n 0, 1) := by decide +kernel
theorem dX6_cut_1 : decode cX6_cut 1 = .ok (.getfield 13, 3) := by decide +kernel
theorem dX6_cut_4 : decode cX6_cut 4 = .ok (.tableswitch 42 0 2 #[28, 33, 38], 28) := by decide +kernel
theorem dX6_cut_32 : decode cX6_cut 32 = .ok (.lload_n 1, 1) := by decide +kernel
theorem dX6_cut_33 : decode cX6_cut 33 = .ok (.l2i, 1) := by decide +kernel
theorem dX6_cut_34 : decode cX6_cut 34 = .ok (.i2b, 1) := by decide +kernel
theorem dX6_cut_35 : decode cX6_cut 35 = .ok (.i2l, 1) := by decide +kernel
theorem dX6_cut_36 : decode cX6_cut 36 = .ok (.lreturn, 1) := by decide +kernel
theorem dX6_cut_37 : decode cX6_cut 37 = .ok (.lload_n 1, 1) := by decide +kernel
theorem dX6_cut_38 : decode cX6_cut 38 = .ok (.l2i, 1) := by decide +kernel
theorem dX6_cut_39 : decode cX6_cut 39 = .ok (.i2s, 1) := by decide +kernel
theorem dX6_cut_40 : decode cX6_cut 40 = .ok (.i2l, 1) := by decide +kernel
theorem dX6_cut_41 : decode cX6_cut 41 = .ok (.lreturn, 1) := by decide +kernel
theorem dX6_cut_42 : decode cX6_cut 42 = .ok (.lload_n 1, 1) := by decide +kernel
theorem dX6_cut_43 : decode cX6_cut 43 = .ok (.l2i, 1) := by decide +kernel
theorem dX6_cut_44 : decode cX6_cut 44 = .ok (.i2l, 1) := by decide +kernel
theorem dX6_cut_45 : decode cX6_cut 45 = .ok (.lreturn, 1) := by decide +kernel
theorem dX6_cut_46 : decode cX6_cut 46 = .ok (.lload_n 1, 1) := by decide +kernel
theorem dX6_cut_47 : decode cX6_cut 47 = .ok (.lreturn, 1) := by decide +kernel
theorem dX7_fewest_0 : decode cX7_fewest 0 = .ok (.iconst 0, 1) := by decide +kernel
theorem dX7_fewest_1 : decode cX7_fewest 1 = .ok (.istore_n 3, 1) := by decide +kernel
theorem dX7_fewest_2 : decode cX7_fewest 2 = .ok (.iload_n 3, 1) := by decide +kernel
theorem dX7_fewest_3 : decode cX7_fewest 3 = .ok (.iconst 3, 1) := by decide +kernel
theorem dX7_fewest_4 : decode cX7_fewest 4 = .ok (.if_icmp .gt 21, 3) := by decide +kernel
theorem dX7_fewest_7 : decode cX7_fewest 7 = .ok (.aload_n 0, 1) := by decide +kernel
theorem dX7_fewest_8 : decode cX7_fewest 8 = .ok (.iload_n 1, 1) := by decide +kernel
theorem dX7_fewest_9 : decode cX7_fewest 9 = .ok (.iload_n 2, 1) := by decide +kernel
theorem dX7_fewest_10 : decode cX7_fewest 10 = .ok (.iload_n 3, 1) := by decide +kernel
theorem dX7_fewest_11 : decode cX7_fewest 11 = .ok (.invokestatic 11, 3) := by decide +kernel
theorem dX7_fewest_14 : decode cX7_fewest 14 = .ok (.ifCond .eq 5, 3) := by decide +kernel
theorem dX7_fewest_17 : decode cX7_fewest 17 = .ok (.iload_n 3, 1) := by decide +kernel
theorem dX7_fewest_18 : decode cX7_fewest 18 = .ok (.ireturn, 1) := by decide +kernel
theorem dX7_fewest_19 : decode cX7_fewest 19 = .ok (.iinc 3 1, 3) := by decide +kernel
theorem dX7_fewest_22 : decode cX7_fewest 22 = .ok (.goto (-20), 3) := by decide +kernel
theorem dX7_fewest_25 : decode cX7_fewest 25 = .ok (.iconst (-1), 1) := by decide +kernel
theorem dX7_fewest_26 : decode cX7_fewest 26 = .ok (.ireturn, 1) := by decide +kernel
theorem dX7_firstDeed_0 : decode cX7_firstDeed 0 = .ok (.iconst 0, 1) := by decide +kernel
theorem dX7_firstDeed_1 : decode cX7_firstDeed 1 = .ok (.istore 4, 2) := by decide +kernel
theorem dX7_firstDeed_3 : decode cX7_firstDeed 3 = .ok (.iload 4, 2) := by decide +kernel
theorem dX7_firstDeed_5 : decode cX7_firstDeed 5 = .ok (.bipush 16, 2) := by decide +kernel
theorem dX7_firstDeed_7 : decode cX7_firstDeed 7 = .ok (.if_icmp .gt 46, 3) := by decide +kernel
theorem dX7_firstDeed_10 : decode cX7_firstDeed 10 = .ok (.iload_n 3, 1) := by decide +kernel
theorem dX7_firstDeed_11 : decode cX7_firstDeed 11 = .ok (.ifCond .le 42, 3) := by decide +kernel
theorem dX7_firstDeed_14 : decode cX7_firstDeed 14 = .ok (.aload_n 0, 1) := by decide +kernel
theorem dX7_firstDeed_15 : decode cX7_firstDeed 15 = .ok (.iload_n 1, 1) := by decide +kernel
theorem dX7_firstDeed_16 : decode cX7_firstDeed 16 = .ok (.iload 4, 2) := by decide +kernel
theorem dX7_firstDeed_18 : decode cX7_firstDeed 18 = .ok (.invokestatic 15, 3) := by decide +kernel
theorem dX7_firstDeed_21 : decode cX7_firstDeed 21 = .ok (.istore 5, 2) := by decide +kernel
theorem dX7_firstDeed_23 : decode cX7_firstDeed 23 = .ok (.iload 5, 2) := by decide +kernel
theorem dX7_firstDeed_25 : decode cX7_firstDeed 25 = .ok (.ifCond .lt 22, 3) := by decide +kernel
theorem dX7_firstDeed_28 : decode cX7_firstDeed 28 = .ok (.aload_n 0, 1) := by decide +kernel
theorem dX7_firstDeed_29 : decode cX7_firstDeed 29 = .ok (.iload 5, 2) := by decide +kernel
theorem dX7_firstDeed_31 : decode cX7_firstDeed 31 = .ok (.iload_n 2, 1) := by decide +kernel
theorem dX7_firstDeed_32 : decode cX7_firstDeed 32 = .ok (.iload_n 3, 1) := by decide +kernel
theorem dX7_firstDeed_33 : decode cX7_firstDeed 33 = .ok (.iconst 1, 1) := by decide +kernel
theorem dX7_firstDeed_34 : decode cX7_firstDeed 34 = .ok (.isub, 1) := by decide +kernel
theorem dX7_firstDeed_35 : decode cX7_firstDeed 35 = .ok (.invokestatic 19, 3) := by decide +kernel
theorem dX7_firstDeed_38 : decode cX7_firstDeed 38 = .ok (.ifCond .eq 9, 3) := by decide +kernel
theorem dX7_firstDeed_41 : decode cX7_firstDeed 41 = .ok (.iload 4, 2) := by decide +kernel
theorem dX7_firstDeed_43 : decode cX7_firstDeed 43 = .ok (.invokestatic 22, 3) := by decide +kernel
theorem dX7_firstDeed_46 : decode cX7_firstDeed 46 = .ok (.ireturn, 1) := by decide +kernel
theorem dX7_firstDeed_47 : decode cX7_firstDeed 47 = .ok (.iinc 4 1, 3) := by decide +kernel
theorem dX7_firstDeed_50 : decode cX7_firstDeed 50 = .ok (.goto (-47), 3) := by decide +kernel
theorem dX7_firstDeed_53 : decode cX7_firstDeed 53 = .ok (.iconst (-1), 1) := by decide +kernel
theorem dX7_firstDeed_54 : decode cX7_firstDeed 54 = .ok (.ireturn, 1) := by decide +kernel
theorem dX7_deedOf_0 : decode cX7_deedOf 0 = .ok (.iload_n 0, 1) := by decide +kernel
theorem dX7_deedOf_1 : decode cX7_deedOf 1 = .ok (.bipush 16, 2) := by decide +kernel
theorem dX7_deedOf_3 : decode cX7_deedOf 3 = .ok (.if_icmp .ne 6, 3) := by decide +kernel
theorem dX7_deedOf_6 : decode cX7_deedOf 6 = .ok (.bipush 99, 2) := by decide +kernel
theorem dX7_deedOf_8 : decode cX7_deedOf 8 = .ok (.ireturn, 1) := by decide +kernel
theorem dX7_deedOf_9 : decode cX7_deedOf 9 = .ok (.iload_n 0, 1) := by decide +kernel
theorem dX7_deedOf_10 : decode cX7_deedOf 10 = .ok (.bipush 8, 2) := by decide +kernel
theorem dX7_deedOf_12 : decode cX7_deedOf 12 = .ok (.if_icmp .ge 7, 3) := by decide +kernel
theorem dX7_deedOf_15 : decode cX7_deedOf 15 = .ok (.iload_n 0, 1) := by decide +kernel
theorem dX7_deedOf_16 : decode cX7_deedOf 16 = .ok (.goto 10, 3) := by decide +kernel
theorem dX7_deedOf_19 : decode cX7_deedOf 19 = .ok (.iload_n 0, 1) := by decide +kernel
theorem dX7_deedOf_20 : decode cX7_deedOf 20 = .ok (.bipush 8, 2) := by decide +kernel
theorem dX7_deedOf_22 : decode cX7_deedOf 22 = .ok (.isub, 1) := by decide +kernel
theorem dX7_deedOf_23 : decode cX7_deedOf 23 = .ok (.bipush 10, 2) := by decide +kernel
theorem dX7_deedOf_25 : decode cX7_deedOf 25 = .ok (.iadd, 1) := by decide +kernel
theorem dX7_deedOf_26 : decode cX7_deedOf 26 = .ok (.ireturn, 1) := by decide +kernel
theorem dX7_moved_0 : decode cX7_moved 0 = .ok (.iload_n 2, 1) := by decide +kernel
theorem dX7_moved_1 : decode cX7_moved 1 = .ok (.bipush 16, 2) := by decide +kernel
theorem dX7_moved_3 : decode cX7_moved 3 = .ok (.if_icmp .ne 5, 3) := by decide +kernel
theorem dX7_moved_6 : decode cX7_moved 6 = .ok (.iload_n 1, 1) := by decide +kernel
theorem dX7_moved_7 : decode cX7_moved 7 = .ok (.ireturn, 1) := by decide +kernel
theorem dX7_moved_8 : decode cX7_moved 8 = .ok (.iload_n 2, 1) := by decide +kernel
theorem dX7_moved_9 : decode cX7_moved 9 = .ok (.bipush 8, 2) := by decide +kernel
theorem dX7_moved_11 : decode cX7_moved 11 = .ok (.if_icmp .ge 12, 3) := by decide +kernel
theorem dX7_moved_14 : decode cX7_moved 14 = .ok (.aload_n 0, 1) := by decide +kernel
theorem dX7_moved_15 : decode cX7_moved 15 = .ok (.iload_n 1, 1) := by decide +kernel
theorem dX7_moved_16 : decode cX7_moved 16 = .ok (.iload_n 2, 1) := by decide +kernel
theorem dX7_moved_17 : decode cX7_moved 17 = .ok (.invokevirtual 26, 3) := by decide +kernel
theorem dX7_moved_20 : decode cX7_moved 20 = .ok (.goto 12, 3) := by decide +kernel
theorem dX7_moved_23 : decode cX7_moved 23 = .ok (.aload_n 0, 1) := by decide +kernel
theorem dX7_moved_24 : decode cX7_moved 24 = .ok (.iload_n 1, 1) := by decide +kernel
theorem dX7_moved_25 : decode cX7_moved 25 = .ok (.iload_n 2, 1) := by decide +kernel
theorem dX7_moved_26 : decode cX7_moved 26 = .ok (.bipush 8, 2) := by decide +kernel
theorem dX7_moved_28 : decode cX7_moved 28 = .ok (.isub, 1) := by decide +kernel
theorem dX7_moved_29 : decode cX7_moved 29 = .ok (.invokevirtual 32, 3) := by decide +kernel
theorem dX7_moved_32 : decode cX7_moved 32 = .ok (.ireturn, 1) := by decide +kernel
theorem dX7_wins_0 : decode cX7_wins 0 = .ok (.iload_n 2, 1) := by decide +kernel
theorem dX7_wins_1 : decode cX7_wins 1 = .ok (.iload_n 1, 1) := by decide +kernel
theorem dX7_wins_2 : decode cX7_wins 2 = .ok (.invokestatic 35, 3) := by decide +kernel
theorem dX7_wins_5 : decode cX7_wins 5 = .ok (.iconst (-1), 1) := by decide +kernel
theorem dX7_wins_6 : decode cX7_wins 6 = .ok (.ixor, 1) := by decide +kernel
theorem dX7_wins_7 : decode cX7_wins 7 = .ok (.iand, 1) := by decide +kernel
theorem dX7_wins_8 : decode cX7_wins 8 = .ok (.invokestatic 38, 3) := by decide +kernel
theorem dX7_wins_11 : decode cX7_wins 11 = .ok (.istore 4, 2) := by decide +kernel
theorem dX7_wins_13 : decode cX7_wins 13 = .ok (.iload 4, 2) := by decide +kernel
theorem dX7_wins_15 : decode cX7_wins 15 = .ok (.ifCond .eq 9, 3) := by decide +kernel
theorem dX7_wins_18 : decode cX7_wins 18 = .ok (.iload 4, 2) := by decide +kernel
theorem dX7_wins_20 : decode cX7_wins 20 = .ok (.iload_n 3, 1) := by decide +kernel
theorem dX7_wins_21 : decode cX7_wins 21 = .ok (.if_icmp .le 14, 3) := by decide +kernel
theorem dX7_wins_24 : decode cX7_wins 24 = .ok (.iload 4, 2) := by decide +kernel
theorem dX7_wins_26 : decode cX7_wins 26 = .ok (.ifCond .ne 7, 3) := by decide +kernel
theorem dX7_wins_29 : decode cX7_wins 29 = .ok (.iconst 1, 1) := by decide +kernel
theorem dX7_wins_30 : decode cX7_wins 30 = .ok (.goto 4, 3) := by decide +kernel
theorem dX7_wins_33 : decode cX7_wins 33 = .ok (.iconst 0, 1) := by decide +kernel
theorem dX7_wins_34 : decode cX7_wins 34 = .ok (.ireturn, 1) := by decide +kernel
theorem dX7_wins_35 : decode cX7_wins 35 = .ok (.iconst 0, 1) := by decide +kernel
theorem dX7_wins_36 : decode cX7_wins 36 = .ok (.istore 5, 2) := by decide +kernel
theorem dX7_wins_38 : decode cX7_wins 38 = .ok (.iload 5, 2) := by decide +kernel
theorem dX7_wins_40 : decode cX7_wins 40 = .ok (.bipush 16, 2) := by decide +kernel
theorem dX7_wins_42 : decode cX7_wins 42 = .ok (.if_icmp .gt 38, 3) := by decide +kernel
theorem dX7_wins_45 : decode cX7_wins 45 = .ok (.aload_n 0, 1) := by decide +kernel
theorem dX7_wins_46 : decode cX7_wins 46 = .ok (.iload_n 1, 1) := by decide +kernel
theorem dX7_wins_47 : decode cX7_wins 47 = .ok (.iload 5, 2) := by decide +kernel
theorem dX7_wins_49 : decode cX7_wins 49 = .ok (.invokestatic 15, 3) := by decide +kernel
theorem dX7_wins_52 : decode cX7_wins 52 = .ok (.istore 6, 2) := by decide +kernel
theorem dX7_wins_54 : decode cX7_wins 54 = .ok (.iload 6, 2) := by decide +kernel
theorem dX7_wins_56 : decode cX7_wins 56 = .ok (.ifCond .lt 18, 3) := by decide +kernel
theorem dX7_wins_59 : decode cX7_wins 59 = .ok (.aload_n 0, 1) := by decide +kernel
theorem dX7_wins_60 : decode cX7_wins 60 = .ok (.iload 6, 2) := by decide +kernel
theorem dX7_wins_62 : decode cX7_wins 62 = .ok (.iload_n 2, 1) := by decide +kernel
theorem dX7_wins_63 : decode cX7_wins 63 = .ok (.iload_n 3, 1) := by decide +kernel
theorem dX7_wins_64 : decode cX7_wins 64 = .ok (.iconst 1, 1) := by decide +kernel
theorem dX7_wins_65 : decode cX7_wins 65 = .ok (.isub, 1) := by decide +kernel
theorem dX7_wins_66 : decode cX7_wins 66 = .ok (.invokestatic 19, 3) := by decide +kernel
theorem dX7_wins_69 : decode cX7_wins 69 = .ok (.ifCond .eq 5, 3) := by decide +kernel
theorem dX7_wins_72 : decode cX7_wins 72 = .ok (.iconst 1, 1) := by decide +kernel
theorem dX7_wins_73 : decode cX7_wins 73 = .ok (.ireturn, 1) := by decide +kernel
theorem dX7_wins_74 : decode cX7_wins 74 = .ok (.iinc 5 1, 3) := by decide +kernel
theorem dX7_wins_77 : decode cX7_wins 77 = .ok (.goto (-39), 3) := by decide +kernel
theorem dX7_wins_80 : decode cX7_wins 80 = .ok (.iconst 0, 1) := by decide +kernel
theorem dX7_wins_81 : decode cX7_wins 81 = .ok (.ireturn, 1) := by decide +kernel
theorem dX7_withstands_0 : decode cX7_withstands 0 = .ok (.iload_n 2, 1) := by decide +kernel
theorem dX7_withstands_1 : decode cX7_withstands 1 = .ok (.iload_n 1, 1) := by decide +kernel
theorem dX7_withstands_2 : decode cX7_withstands 2 = .ok (.invokestatic 35, 3) := by decide +kernel
theorem dX7_withstands_5 : decode cX7_withstands 5 = .ok (.iconst (-1), 1) := by decide +kernel
theorem dX7_withstands_6 : decode cX7_withstands 6 = .ok (.ixor, 1) := by decide +kernel
theorem dX7_withstands_7 : decode cX7_withstands 7 = .ok (.iand, 1) := by decide +kernel
theorem dX7_withstands_8 : decode cX7_withstands 8 = .ok (.ifCond .ne 5, 3) := by decide +kernel
theorem dX7_withstands_11 : decode cX7_withstands 11 = .ok (.iconst 1, 1) := by decide +kernel
theorem dX7_withstands_12 : decode cX7_withstands 12 = .ok (.ireturn, 1) := by decide +kernel
theorem dX7_withstands_13 : decode cX7_withstands 13 = .ok (.aload_n 0, 1) := by decide +kernel
theorem dX7_withstands_14 : decode cX7_withstands 14 = .ok (.iload_n 1, 1) := by decide +kernel
theorem dX7_withstands_15 : decode cX7_withstands 15 = .ok (.iload_n 2, 1) := by decide +kernel
theorem dX7_withstands_16 : decode cX7_withstands 16 = .ok (.iload_n 3, 1) := by decide +kernel
theorem dX7_withstands_17 : decode cX7_withstands 17 = .ok (.invokestatic 11, 3) := by decide +kernel
theorem dX7_withstands_20 : decode cX7_withstands 20 = .ok (.ifCond .ne 5, 3) := by decide +kernel
theorem dX7_withstands_23 : decode cX7_withstands 23 = .ok (.iconst 0, 1) := by decide +kernel
theorem dX7_withstands_24 : decode cX7_withstands 24 = .ok (.ireturn, 1) := by decide +kernel
theorem dX7_withstands_25 : decode cX7_withstands 25 = .ok (.iconst 0, 1) := by decide +kernel
theorem dX7_withstands_26 : decode cX7_withstands 26 = .ok (.istore 4, 2) := by decide +kernel
theorem dX7_withstands_28 : decode cX7_withstands 28 = .ok (.iload 4, 2) := by decide +kernel
theorem dX7_withstands_30 : decode cX7_withstands 30 = .ok (.bipush 8, 2) := by decide +kernel
theorem dX7_withstands_32 : decode cX7_withstands 32 = .ok (.if_icmp .ge 42, 3) := by decide +kernel
theorem dX7_withstands_35 : decode cX7_withstands 35 = .ok (.aload_n 0, 1) := by decide +kernel
theorem dX7_withstands_36 : decode cX7_withstands 36 = .ok (.iload_n 1, 1) := by decide +kernel
theorem dX7_withstands_37 : decode cX7_withstands 37 = .ok (.iload 4, 2) := by decide +kernel
theorem dX7_withstands_39 : decode cX7_withstands 39 = .ok (.invokevirtual 43, 3) := by decide +kernel
theorem dX7_withstands_42 : decode cX7_withstands 42 = .ok (.istore 5, 2) := by decide +kernel
theorem dX7_withstands_44 : decode cX7_withstands 44 = .ok (.iload 5, 2) := by decide +kernel
theorem dX7_withstands_46 : decode cX7_withstands 46 = .ok (.ifCond .lt 22, 3) := by decide +kernel
theorem dX7_withstands_49 : decode cX7_withstands 49 = .ok (.iload 5, 2) := by decide +kernel
theorem dX7_withstands_51 : decode cX7_withstands 51 = .ok (.iload_n 1, 1) := by decide +kernel
theorem dX7_withstands_52 : decode cX7_withstands 52 = .ok (.if_icmp .eq 16, 3) := by decide +kernel
theorem dX7_withstands_55 : decode cX7_withstands 55 = .ok (.aload_n 0, 1) := by decide +kernel
theorem dX7_withstands_56 : decode cX7_withstands 56 = .ok (.iload 5, 2) := by decide +kernel
theorem dX7_withstands_58 : decode cX7_withstands 58 = .ok (.iload_n 2, 1) := by decide +kernel
theorem dX7_withstands_59 : decode cX7_withstands 59 = .ok (.iload_n 3, 1) := by decide +kernel
theorem dX7_withstands_60 : decode cX7_withstands 60 = .ok (.invokestatic 11, 3) := by decide +kernel
theorem dX7_withstands_63 : decode cX7_withstands 63 = .ok (.ifCond .ne 5, 3) := by decide +kernel
theorem dX7_withstands_66 : decode cX7_withstands 66 = .ok (.iconst 0, 1) := by decide +kernel
theorem dX7_withstands_67 : decode cX7_withstands 67 = .ok (.ireturn, 1) := by decide +kernel
theorem dX7_withstands_68 : decode cX7_withstands 68 = .ok (.iinc 4 1, 3) := by decide +kernel
theorem dX7_withstands_71 : decode cX7_withstands 71 = .ok (.goto (-43), 3) := by decide +kernel
theorem dX7_withstands_74 : decode cX7_withstands 74 = .ok (.iconst 1, 1) := by decide +kernel
theorem dX7_withstands_75 : decode cX7_withstands 75 = .ok (.ireturn, 1) := by decide +kernel
theorem dX8_init_0 : decode cX8_init 0 = .ok (.aload_n 0, 1) := by decide +kernel
theorem dX8_init_1 : decode cX8_init 1 = .ok (.invokespecial 3, 3) := by decide +kernel
theorem dX8_init_4 : decode cX8_init 4 = .ok (.aload_n 0, 1) := by decide +kernel
theorem dX8_init_5 : decode cX8_init 5 = .ok (.iconst 0, 1) := by decide +kernel
theorem dX8_init_6 : decode cX8_init 6 = .ok (.putfield 9, 3) := by decide +kernel
theorem dX8_init_9 : decode cX8_init 9 = .ok (.aload_n 0, 1) := by decide +kernel
theorem dX8_init_10 : decode cX8_init 10 = .ok (.iconst (-1), 1) := by decide +kernel
theorem dX8_init_11 : decode cX8_init 11 = .ok (.putfield 15, 3) := by decide +kernel
theorem dX8_init_14 : decode cX8_init 14 = .ok (.aload_n 0, 1) := by decide +kernel
theorem dX8_init_15 : decode cX8_init 15 = .ok (.iconst 0, 1) := by decide +kernel
theorem dX8_init_16 : decode cX8_init 16 = .ok (.putfield 18, 3) := by decide +kernel
theorem dX8_init_19 : decode cX8_init 19 = .ok (.aload_n 0, 1) := by decide +kernel
theorem dX8_init_20 : decode cX8_init 20 = .ok (.iconst 1, 1) := by decide +kernel
theorem dX8_init_21 : decode cX8_init 21 = .ok (.newarray .int, 2) := by decide +kernel
theorem dX8_init_23 : decode cX8_init 23 = .ok (.putfield 21, 3) := by decide +kernel
theorem dX8_init_26 : decode cX8_init 26 = .ok (.aload_n 0, 1) := by decide +kernel
theorem dX8_init_27 : decode cX8_init 27 = .ok (.iconst 1, 1) := by decide +kernel
theorem dX8_init_28 : decode cX8_init 28 = .ok (.newarray .int, 2) := by decide +kernel
theorem dX8_init_30 : decode cX8_init 30 = .ok (.putfield 25, 3) := by decide +kernel
theorem dX8_init_33 : decode cX8_init 33 = .ok (.aload_n 0, 1) := by decide +kernel
theorem dX8_init_34 : decode cX8_init 34 = .ok (.iconst 1, 1) := by decide +kernel
theorem dX8_init_35 : decode cX8_init 35 = .ok (.newarray .long, 2) := by decide +kernel
theorem dX8_init_37 : decode cX8_init 37 = .ok (.putfield 28, 3) := by decide +kernel
theorem dX8_init_40 : decode cX8_init 40 = .ok (.aload_n 0, 1) := by decide +kernel
theorem dX8_init_41 : decode cX8_init 41 = .ok (.iconst 1, 1) := by decide +kernel
theorem dX8_init_42 : decode cX8_init 42 = .ok (.newarray .long, 2) := by decide +kernel
theorem dX8_init_44 : decode cX8_init 44 = .ok (.putfield 32, 3) := by decide +kernel
theorem dX8_init_47 : decode cX8_init 47 = .ok (.return_, 1) := by decide +kernel
theorem dX8_forget_0 : decode cX8_forget 0 = .ok (.iconst 0, 1) := by decide +kernel
theorem dX8_forget_1 : decode cX8_forget 1 = .ok (.istore_n 1, 1) := by decide +kernel
theorem dX8_forget_2 : decode cX8_forget 2 = .ok (.iload_n 1, 1) := by decide +kernel
theorem dX8_forget_3 : decode cX8_forget 3 = .ok (.aload_n 0, 1) := by decide +kernel
theorem dX8_forget_4 : decode cX8_forget 4 = .ok (.getfield 9, 3) := by decide +kernel
theorem dX8_forget_7 : decode cX8_forget 7 = .ok (.if_icmp .ge 34, 3) := by decide +kernel
theorem dX8_forget_10 : decode cX8_forget 10 = .ok (.iload_n 1, 1) := by decide +kernel
theorem dX8_forget_11 : decode cX8_forget 11 = .ok (.aload_n 0, 1) := by decide +kernel
theorem dX8_forget_12 : decode cX8_forget 12 = .ok (.getfield 21, 3) := by decide +kernel
theorem dX8_forget_15 : decode cX8_forget 15 = .ok (.arraylength, 1) := by decide +kernel
theorem dX8_forget_16 : decode cX8_forget 16 = .ok (.if_icmp .ge 25, 3) := by decide +kernel
theorem dX8_forget_19 : decode cX8_forget 19 = .ok (.aload_n 0, 1) := by decide +kernel
theorem dX8_forget_20 : decode cX8_forget 20 = .ok (.getfield 25, 3) := by decide +kernel
theorem dX8_forget_23 : decode cX8_forget 23 = .ok (.aload_n 0, 1) := by decide +kernel
theorem dX8_forget_24 : decode cX8_forget 24 = .ok (.aload_n 0, 1) := by decide +kernel
theorem dX8_forget_25 : decode cX8_forget 25 = .ok (.getfield 21, 3) := by decide +kernel
theorem dX8_forget_28 : decode cX8_forget 28 = .ok (.iload_n 1, 1) := by decide +kernel
theorem dX8_forget_29 : decode cX8_forget 29 = .ok (.iaload, 1) := by decide +kernel
theorem dX8_forget_30 : decode cX8_forget 30 = .ok (.invokevirtual 35, 3) := by decide +kernel
theorem dX8_forget_33 : decode cX8_forget 33 = .ok (.iconst 0, 1) := by decide +kernel
theorem dX8_forget_34 : decode cX8_forget 34 = .ok (.iastore, 1) := by decide +kernel
theorem dX8_forget_35 : decode cX8_forget 35 = .ok (.iinc 1 1, 3) := by decide +kernel
theorem dX8_forget_38 : decode cX8_forget 38 = .ok (.goto (-36), 3) := by decide +kernel
theorem dX8_forget_41 : decode cX8_forget 41 = .ok (.aload_n 0, 1) := by decide +kernel
theorem dX8_forget_42 : decode cX8_forget 42 = .ok (.iconst 0, 1) := by decide +kernel
theorem dX8_forget_43 : decode cX8_forget 43 = .ok (.putfield 9, 3) := by decide +kernel
theorem dX8_forget_46 : decode cX8_forget 46 = .ok (.aload_n 0, 1) := by decide +kernel
theorem dX8_forget_47 : decode cX8_forget 47 = .ok (.iconst (-1), 1) := by decide +kernel
theorem dX8_forget_48 : decode cX8_forget 48 = .ok (.putfield 15, 3) := by decide +kernel
theorem dX8_forget_51 : decode cX8_forget 51 = .ok (.return_, 1) := by decide +kernel
theorem dX8_spot_0 : decode cX8_spot 0 = .ok (.iload_n 1, 1) := by decide +kernel
theorem dX8_spot_1 : decode cX8_spot 1 = .ok (.invokestatic 39, 3) := by decide +kernel
theorem dX8_spot_4 : decode cX8_spot 4 = .ok (.iload_n 1, 1) := by decide +kernel
theorem dX8_spot_5 : decode cX8_spot 5 = .ok (.invokestatic 42, 3) := by decide +kernel
theorem dX8_spot_8 : decode cX8_spot 8 = .ok (.aload_n 0, 1) := by decide +kernel
theorem dX8_spot_9 : decode cX8_spot 9 = .ok (.getfield 18, 3) := by decide +kernel
theorem dX8_spot_12 : decode cX8_spot 12 = .ok (.ishl, 1) := by decide +kernel
theorem dX8_spot_13 : decode cX8_spot 13 = .ok (.ior, 1) := by decide +kernel
theorem dX8_spot_14 : decode cX8_spot 14 = .ok (.istore_n 2, 1) := by decide +kernel
theorem dX8_spot_15 : decode cX8_spot 15 = .ok (.iload_n 2, 1) := by decide +kernel
theorem dX8_spot_16 : decode cX8_spot 16 = .ok (.aload_n 0, 1) := by decide +kernel
theorem dX8_spot_17 : decode cX8_spot 17 = .ok (.getfield 25, 3) := by decide +kernel
theorem dX8_spot_20 : decode cX8_spot 20 = .ok (.arraylength, 1) := by decide +kernel
theorem dX8_spot_21 : decode cX8_spot 21 = .ok (.if_icmp .ge 7, 3) := by decide +kernel
theorem dX8_spot_24 : decode cX8_spot 24 = .ok (.iload_n 2, 1) := by decide +kernel
theorem dX8_spot_25 : decode cX8_spot 25 = .ok (.goto 4, 3) := by decide +kernel
theorem dX8_spot_28 : decode cX8_spot 28 = .ok (.iconst 0, 1) := by decide +kernel
theorem dX8_spot_29 : decode cX8_spot 29 = .ok (.ireturn, 1) := by decide +kernel
theorem dX8_fit_0 : decode cX8_fit 0 = .ok (.aload_n 0, 1) := by decide +kernel
theorem dX8_fit_1 : decode cX8_fit 1 = .ok (.iconst 0, 1) := by decide +kernel
theorem dX8_fit_2 : decode cX8_fit 2 = .ok (.bipush 8, 2) := by decide +kernel
theorem dX8_fit_4 : decode cX8_fit 4 = .ok (.iload_n 1, 1) := by decide +kernel
theorem dX8_fit_5 : decode cX8_fit 5 = .ok (.invokestatic 45, 3) := by decide +kernel
theorem dX8_fit_8 : decode cX8_fit 8 = .ok (.invokestatic 51, 3) := by decide +kernel
theorem dX8_fit_11 : decode cX8_fit 11 = .ok (.putfield 18, 3) := by decide +kernel
theorem dX8_fit_14 : decode cX8_fit 14 = .ok (.iconst 1, 1) := by decide +kernel
theorem dX8_fit_15 : decode cX8_fit 15 = .ok (.iconst 2, 1) := by decide +kernel
theorem dX8_fit_16 : decode cX8_fit 16 = .ok (.aload_n 0, 1) := by decide +kernel
theorem dX8_fit_17 : decode cX8_fit 17 = .ok (.getfield 18, 3) := by decide +kernel
theorem dX8_fit_20 : decode cX8_fit 20 = .ok (.imul, 1) := by decide +kernel
theorem dX8_fit_21 : decode cX8_fit 21 = .ok (.ishl, 1) := by decide +kernel
theorem dX8_fit_22 : decode cX8_fit 22 = .ok (.istore_n 2, 1) := by decide +kernel
theorem dX8_fit_23 : decode cX8_fit 23 = .ok (.aload_n 0, 1) := by decide +kernel
theorem dX8_fit_24 : decode cX8_fit 24 = .ok (.getfield 25, 3) := by decide +kernel
theorem dX8_fit_27 : decode cX8_fit 27 = .ok (.arraylength, 1) := by decide +kernel
theorem dX8_fit_28 : decode cX8_fit 28 = .ok (.iload_n 2, 1) := by decide +kernel
theorem dX8_fit_29 : decode cX8_fit 29 = .ok (.if_icmp .ge 17, 3) := by decide +kernel
theorem dX8_fit_32 : decode cX8_fit 32 = .ok (.aload_n 0, 1) := by decide +kernel
theorem dX8_fit_33 : decode cX8_fit 33 = .ok (.iload_n 2, 1) := by decide +kernel
theorem dX8_fit_34 : decode cX8_fit 34 = .ok (.newarray .int, 2) := by decide +kernel
theorem dX8_fit_36 : decode cX8_fit 36 = .ok (.putfield 21, 3) := by decide +kernel
theorem dX8_fit_39 : decode cX8_fit 39 = .ok (.aload_n 0, 1) := by decide +kernel
theorem dX8_fit_40 : decode cX8_fit 40 = .ok (.iload_n 2, 1) := by decide +kernel
theorem dX8_fit_41 : decode cX8_fit 41 = .ok (.newarray .int, 2) := by decide +kernel
theorem dX8_fit_43 : decode cX8_fit 43 = .ok (.putfield 25, 3) := by decide +kernel
theorem dX8_fit_46 : decode cX8_fit 46 = .ok (.return_, 1) := by decide +kernel
theorem dX8_fitWays_0 : decode cX8_fitWays 0 = .ok (.aload_n 0, 1) := by decide +kernel
theorem dX8_fitWays_1 : decode cX8_fitWays 1 = .ok (.getfield 28, 3) := by decide +kernel
theorem dX8_fitWays_4 : decode cX8_fitWays 4 = .ok (.arraylength, 1) := by decide +kernel
theorem dX8_fitWays_5 : decode cX8_fitWays 5 = .ok (.aload_n 0, 1) := by decide +kernel
theorem dX8_fitWays_6 : decode cX8_fitWays 6 = .ok (.getfield 25, 3) := by decide +kernel
theorem dX8_fitWays_9 : decode cX8_fitWays 9 = .ok (.arraylength, 1) := by decide +kernel
theorem dX8_fitWays_10 : decode cX8_fitWays 10 = .ok (.if_icmp .ge 25, 3) := by decide +kernel
theorem dX8_fitWays_13 : decode cX8_fitWays 13 = .ok (.aload_n 0, 1) := by decide +kernel
theorem dX8_fitWays_14 : decode cX8_fitWays 14 = .ok (.aload_n 0, 1) := by decide +kernel
theorem dX8_fitWays_15 : decode cX8_fitWays 15 = .ok (.getfield 25, 3) := by decide +kernel
theorem dX8_fitWays_18 : decode cX8_fitWays 18 = .ok (.arraylength, 1) := by decide +kernel
theorem dX8_fitWays_19 : decode cX8_fitWays 19 = .ok (.newarray .long, 2) := by decide +kernel
theorem dX8_fitWays_21 : decode cX8_fitWays 21 = .ok (.putfield 28, 3) := by decide +kernel
theorem dX8_fitWays_24 : decode cX8_fitWays 24 = .ok (.aload_n 0, 1) := by decide +kernel
theorem dX8_fitWays_25 : decode cX8_fitWays 25 = .ok (.aload_n 0, 1) := by decide +kernel
theorem dX8_fitWays_26 : decode cX8_fitWays 26 = .ok (.getfield 25, 3) := by decide +kernel
theorem dX8_fitWays_29 : decode cX8_fitWays 29 = .ok (.arraylength, 1) := by decide +kernel
theorem dX8_fitWays_30 : decode cX8_fitWays 30 = .ok (.newarray .long, 2) := by decide +kernel
theorem dX8_fitWays_32 : decode cX8_fitWays 32 = .ok (.putfield 32, 3) := by decide +kernel
theorem dX8_fitWays_35 : decode cX8_fitWays 35 = .ok (.return_, 1) := by decide +kernel
theorem dX8_spread_0 : decode cX8_spread 0 = .ok (.iload_n 2, 1) := by decide +kernel
theorem dX8_spread_1 : decode cX8_spread 1 = .ok (.aload_n 0, 1) := by decide +kernel
theorem dX8_spread_2 : decode cX8_spread 2 = .ok (.getfield 15, 3) := by decide +kernel
theorem dX8_spread_5 : decode cX8_spread 5 = .ok (.if_icmp .ne 4, 3) := by decide +kernel
theorem dX8_spread_8 : decode cX8_spread 8 = .ok (.return_, 1) := by decide +kernel
theorem dX8_spread_9 : decode cX8_spread 9 = .ok (.aload_n 0, 1) := by decide +kernel
theorem dX8_spread_10 : decode cX8_spread 10 = .ok (.invokevirtual 54, 3) := by decide +kernel
theorem dX8_spread_13 : decode cX8_spread 13 = .ok (.aload_n 0, 1) := by decide +kernel
theorem dX8_spread_14 : decode cX8_spread 14 = .ok (.aload_n 1, 1) := by decide +kernel
theorem dX8_spread_15 : decode cX8_spread 15 = .ok (.getfield 57, 3) := by decide +kernel
theorem dX8_spread_18 : decode cX8_spread 18 = .ok (.getfield 63, 3) := by decide +kernel
theorem dX8_spread_21 : decode cX8_spread 21 = .ok (.invokevirtual 66, 3) := by decide +kernel
theorem dX8_spread_24 : decode cX8_spread 24 = .ok (.aload_n 0, 1) := by decide +kernel
theorem dX8_spread_25 : decode cX8_spread 25 = .ok (.iload_n 2, 1) := by decide +kernel
theorem dX8_spread_26 : decode cX8_spread 26 = .ok (.putfield 15, 3) := by decide +kernel
theorem dX8_spread_29 : decode cX8_spread 29 = .ok (.aload_n 0, 1) := by decide +kernel
theorem dX8_spread_30 : decode cX8_spread 30 = .ok (.iload_n 2, 1) := by decide +kernel
theorem dX8_spread_31 : decode cX8_spread 31 = .ok (.iconst 0, 1) := by decide +kernel
theorem dX8_spread_32 : decode cX8_spread 32 = .ok (.bipush 31, 2) := by decide +kernel
theorem dX8_spread_34 : decode cX8_spread 34 = .ok (.invokevirtual 70, 3) := by decide +kernel
theorem dX8_spread_37 : decode cX8_spread 37 = .ok (.iconst 0, 1) := by decide +kernel
theorem dX8_spread_38 : decode cX8_spread 38 = .ok (.istore_n 3, 1) := by decide +kernel
theorem dX8_spread_39 : decode cX8_spread 39 = .ok (.iload_n 3, 1) := by decide +kernel
theorem dX8_spread_40 : decode cX8_spread 40 = .ok (.aload_n 0, 1) := by decide +kernel
theorem dX8_spread_41 : decode cX8_spread 41 = .ok (.getfield 9, 3) := by decide +kernel
theorem dX8_spread_44 : decode cX8_spread 44 = .ok (.if_icmp .ge 97, 3) := by decide +kernel
theorem dX8_spread_47 : decode cX8_spread 47 = .ok (.iload_n 3, 1) := by decide +kernel
theorem dX8_spread_48 : decode cX8_spread 48 = .ok (.aload_n 0, 1) := by decide +kernel
theorem dX8_spread_49 : decode cX8_spread 49 = .ok (.getfield 21, 3) := by decide +kernel
theorem dX8_spread_52 : decode cX8_spread 52 = .ok (.arraylength, 1) := by decide +kernel
theorem dX8_spread_53 : decode cX8_spread 53 = .ok (.if_icmp .ge 88, 3) := by decide +kernel
theorem dX8_spread_56 : decode cX8_spread 56 = .ok (.aload_n 0, 1) := by decide +kernel
theorem dX8_spread_57 : decode cX8_spread 57 = .ok (.getfield 21, 3) := by decide +kernel
theorem dX8_spread_60 : decode cX8_spread 60 = .ok (.iload_n 3, 1) := by decide +kernel
theorem dX8_spread_61 : decode cX8_spread 61 = .ok (.iaload, 1) := by decide +kernel
theorem dX8_spread_62 : decode cX8_spread 62 = .ok (.istore 4, 2) := by decide +kernel
theorem dX8_spread_64 : decode cX8_spread 64 = .ok (.iconst 0, 1) := by decide +kernel
theorem dX8_spread_65 : decode cX8_spread 65 = .ok (.istore 5, 2) := by decide +kernel
theorem dX8_spread_67 : decode cX8_spread 67 = .ok (.iload 5, 2) := by decide +kernel
theorem dX8_spread_69 : decode cX8_spread 69 = .ok (.aload_n 0, 1) := by decide +kernel
theorem dX8_spread_70 : decode cX8_spread 70 = .ok (.getfield 18, 3) := by decide +kernel
theorem dX8_spread_73 : decode cX8_spread 73 = .ok (.if_icmp .ge 25, 3) := by decide +kernel
theorem dX8_spread_76 : decode cX8_spread 76 = .ok (.aload_n 0, 1) := by decide +kernel
theorem dX8_spread_77 : decode cX8_spread 77 = .ok (.aload_n 1, 1) := by decide +kernel
theorem dX8_spread_78 : decode cX8_spread 78 = .ok (.iload 4, 2) := by decide +kernel
theorem dX8_spread_80 : decode cX8_spread 80 = .ok (.iload 5, 2) := by decide +kernel
theorem dX8_spread_82 : decode cX8_spread 82 = .ok (.invokevirtual 74, 3) := by decide +kernel
theorem dX8_spread_85 : decode cX8_spread 85 = .ok (.iload 4, 2) := by decide +kernel
theorem dX8_spread_87 : decode cX8_spread 87 = .ok (.iload 5, 2) := by decide +kernel
theorem dX8_spread_89 : decode cX8_spread 89 = .ok (.invokevirtual 70, 3) := by decide +kernel
theorem dX8_spread_92 : decode cX8_spread 92 = .ok (.iinc 5 1, 3) := by decide +kernel
theorem dX8_spread_95 : decode cX8_spread 95 = .ok (.goto (-28), 3) := by decide +kernel
theorem dX8_spread_98 : decode cX8_spread 98 = .ok (.iconst 0, 1) := by decide +kernel
theorem dX8_spread_99 : decode cX8_spread 99 = .ok (.istore 5, 2) := by decide +kernel
theorem dX8_spread_101 : decode cX8_spread 101 = .ok (.iload 5, 2) := by decide +kernel
theorem dX8_spread_103 : decode cX8_spread 103 = .ok (.aload_n 0, 1) := by decide +kernel
theorem dX8_spread_104 : decode cX8_spread 104 = .ok (.getfield 18, 3) := by decide +kernel
theorem dX8_spread_107 : decode cX8_spread 107 = .ok (.if_icmp .ge 28, 3) := by decide +kernel
theorem dX8_spread_110 : decode cX8_spread 110 = .ok (.aload_n 0, 1) := by decide +kernel
theorem dX8_spread_111 : decode cX8_spread 111 = .ok (.aload_n 1, 1) := by decide +kernel
theorem dX8_spread_112 : decode cX8_spread 112 = .ok (.iload 4, 2) := by decide +kernel
theorem dX8_spread_114 : decode cX8_spread 114 = .ok (.iload 5, 2) := by decide +kernel
theorem dX8_spread_116 : decode cX8_spread 116 = .ok (.invokevirtual 77, 3) := by decide +kernel
theorem dX8_spread_119 : decode cX8_spread 119 = .ok (.iload 4, 2) := by decide +kernel
theorem dX8_spread_121 : decode cX8_spread 121 = .ok (.bipush 10, 2) := by decide +kernel
theorem dX8_spread_123 : decode cX8_spread 123 = .ok (.iload 5, 2) := by decide +kernel
theorem dX8_spread_125 : decode cX8_spread 125 = .ok (.iadd, 1) := by decide +kernel
theorem dX8_spread_126 : decode cX8_spread 126 = .ok (.invokevirtual 70, 3) := by decide +kernel
theorem dX8_spread_129 : decode cX8_spread 129 = .ok (.iinc 5 1, 3) := by decide +kernel
theorem dX8_spread_132 : decode cX8_spread 132 = .ok (.goto (-31), 3) := by decide +kernel
theorem dX8_spread_135 : decode cX8_spread 135 = .ok (.iinc 3 1, 3) := by decide +kernel
theorem dX8_spread_138 : decode cX8_spread 138 = .ok (.goto (-99), 3) := by decide +kernel
theorem dX8_spread_141 : decode cX8_spread 141 = .ok (.return_, 1) := by decide +kernel
theorem dX8_reach_0 : decode cX8_reach 0 = .ok (.iload_n 1, 1) := by decide +kernel
theorem dX8_reach_1 : decode cX8_reach 1 = .ok (.ifCond .lt 66, 3) := by decide +kernel
theorem dX8_reach_4 : decode cX8_reach 4 = .ok (.aload_n 0, 1) := by decide +kernel
theorem dX8_reach_5 : decode cX8_reach 5 = .ok (.getfield 25, 3) := by decide +kernel
theorem dX8_reach_8 : decode cX8_reach 8 = .ok (.aload_n 0, 1) := by decide +kernel
theorem dX8_reach_9 : decode cX8_reach 9 = .ok (.iload_n 1, 1) := by decide +kernel
theorem dX8_reach_10 : decode cX8_reach 10 = .ok (.invokevirtual 35, 3) := by decide +kernel
theorem dX8_reach_13 : decode cX8_reach 13 = .ok (.iaload, 1) := by decide +kernel
theorem dX8_reach_14 : decode cX8_reach 14 = .ok (.ifCond .ne 53, 3) := by decide +kernel
theorem dX8_reach_17 : decode cX8_reach 17 = .ok (.aload_n 0, 1) := by decide +kernel
theorem dX8_reach_18 : decode cX8_reach 18 = .ok (.getfield 9, 3) := by decide +kernel
theorem dX8_reach_21 : decode cX8_reach 21 = .ok (.aload_n 0, 1) := by decide +kernel
theorem dX8_reach_22 : decode cX8_reach 22 = .ok (.getfield 21, 3) := by decide +kernel
theorem dX8_reach_25 : decode cX8_reach 25 = .ok (.arraylength, 1) := by decide +kernel
theorem dX8_reach_26 : decode cX8_reach 26 = .ok (.if_icmp .ge 41, 3) := by decide +kernel
theorem dX8_reach_29 : decode cX8_reach 29 = .ok (.aload_n 0, 1) := by decide +kernel
theorem dX8_reach_30 : decode cX8_reach 30 = .ok (.getfield 25, 3) := by decide +kernel
theorem dX8_reach_33 : decode cX8_reach 33 = .ok (.aload_n 0, 1) := by decide +kernel
theorem dX8_reach_34 : decode cX8_reach 34 = .ok (.iload_n 1, 1) := by decide +kernel
theorem dX8_reach_35 : decode cX8_reach 35 = .ok (.invokevirtual 35, 3) := by decide +kernel
theorem dX8_reach_38 : decode cX8_reach 38 = .ok (.iconst 1, 1) := by decide +kernel
theorem dX8_reach_39 : decode cX8_reach 39 = .ok (.iload_n 3, 1) := by decide +kernel
theorem dX8_reach_40 : decode cX8_reach 40 = .ok (.iadd, 1) := by decide +kernel
theorem dX8_reach_41 : decode cX8_reach 41 = .ok (.bipush 32, 2) := by decide +kernel
theorem dX8_reach_43 : decode cX8_reach 43 = .ok (.iload_n 2, 1) := by decide +kernel
theorem dX8_reach_44 : decode cX8_reach 44 = .ok (.imul, 1) := by decide +kernel
theorem dX8_reach_45 : decode cX8_reach 45 = .ok (.iadd, 1) := by decide +kernel
theorem dX8_reach_46 : decode cX8_reach 46 = .ok (.iastore, 1) := by decide +kernel
theorem dX8_reach_47 : decode cX8_reach 47 = .ok (.aload_n 0, 1) := by decide +kernel
theorem dX8_reach_48 : decode cX8_reach 48 = .ok (.getfield 21, 3) := by decide +kernel
theorem dX8_reach_51 : decode cX8_reach 51 = .ok (.aload_n 0, 1) := by decide +kernel
theorem dX8_reach_52 : decode cX8_reach 52 = .ok (.getfield 9, 3) := by decide +kernel
theorem dX8_reach_55 : decode cX8_reach 55 = .ok (.iload_n 1, 1) := by decide +kernel
theorem dX8_reach_56 : decode cX8_reach 56 = .ok (.iastore, 1) := by decide +kernel
theorem dX8_reach_57 : decode cX8_reach 57 = .ok (.aload_n 0, 1) := by decide +kernel
theorem dX8_reach_58 : decode cX8_reach 58 = .ok (.dup, 1) := by decide +kernel
theorem dX8_reach_59 : decode cX8_reach 59 = .ok (.getfield 9, 3) := by decide +kernel
theorem dX8_reach_62 : decode cX8_reach 62 = .ok (.iconst 1, 1) := by decide +kernel
theorem dX8_reach_63 : decode cX8_reach 63 = .ok (.iadd, 1) := by decide +kernel
theorem dX8_reach_64 : decode cX8_reach 64 = .ok (.putfield 9, 3) := by decide +kernel
theorem dX8_reach_67 : decode cX8_reach 67 = .ok (.return_, 1) := by decide +kernel
theorem dX8_toDone_0 : decode cX8_toDone 0 = .ok (.aload_n 0, 1) := by decide +kernel
theorem dX8_toDone_1 : decode cX8_toDone 1 = .ok (.aload_n 1, 1) := by decide +kernel
theorem dX8_toDone_2 : decode cX8_toDone 2 = .ok (.iload_n 2, 1) := by decide +kernel
theorem dX8_toDone_3 : decode cX8_toDone 3 = .ok (.invokevirtual 80, 3) := by decide +kernel
theorem dX8_toDone_6 : decode cX8_toDone 6 = .ok (.iconst 0, 1) := by decide +kernel
theorem dX8_toDone_7 : decode cX8_toDone 7 = .ok (.istore 4, 2) := by decide +kernel
theorem dX8_toDone_9 : decode cX8_toDone 9 = .ok (.iload 4, 2) := by decide +kernel
theorem dX8_toDone_11 : decode cX8_toDone 11 = .ok (.aload_n 0, 1) := by decide +kernel
theorem dX8_toDone_12 : decode cX8_toDone 12 = .ok (.getfield 9, 3) := by decide +kernel
theorem dX8_toDone_15 : decode cX8_toDone 15 = .ok (.if_icmp .ge 44, 3) := by decide +kernel
theorem dX8_toDone_18 : decode cX8_toDone 18 = .ok (.iload 4, 2) := by decide +kernel
theorem dX8_toDone_20 : decode cX8_toDone 20 = .ok (.aload_n 0, 1) := by decide +kernel
theorem dX8_toDone_21 : decode cX8_toDone 21 = .ok (.getfield 21, 3) := by decide +kernel
theorem dX8_toDone_24 : decode cX8_toDone 24 = .ok (.arraylength, 1) := by decide +kernel
theorem dX8_toDone_25 : decode cX8_toDone 25 = .ok (.if_icmp .ge 34, 3) := by decide +kernel
theorem dX8_toDone_28 : decode cX8_toDone 28 = .ok (.iload_n 3, 1) := by decide +kernel
theorem dX8_toDone_29 : decode cX8_toDone 29 = .ok (.aload_n 0, 1) := by decide +kernel
theorem dX8_toDone_30 : decode cX8_toDone 30 = .ok (.getfield 21, 3) := by decide +kernel
theorem dX8_toDone_33 : decode cX8_toDone 33 = .ok (.iload 4, 2) := by decide +kernel
theorem dX8_toDone_35 : decode cX8_toDone 35 = .ok (.iaload, 1) := by decide +kernel
theorem dX8_toDone_36 : decode cX8_toDone 36 = .ok (.invokestatic 39, 3) := by decide +kernel
theorem dX8_toDone_39 : decode cX8_toDone 39 = .ok (.iconst (-1), 1) := by decide +kernel
theorem dX8_toDone_40 : decode cX8_toDone 40 = .ok (.ixor, 1) := by decide +kernel
theorem dX8_toDone_41 : decode cX8_toDone 41 = .ok (.iand, 1) := by decide +kernel
theorem dX8_toDone_42 : decode cX8_toDone 42 = .ok (.ifCond .ne 11, 3) := by decide +kernel
theorem dX8_toDone_45 : decode cX8_toDone 45 = .ok (.aload_n 0, 1) := by decide +kernel
theorem dX8_toDone_46 : decode cX8_toDone 46 = .ok (.getfield 21, 3) := by decide +kernel
theorem dX8_toDone_49 : decode cX8_toDone 49 = .ok (.iload 4, 2) := by decide +kernel
theorem dX8_toDone_51 : decode cX8_toDone 51 = .ok (.iaload, 1) := by decide +kernel
theorem dX8_toDone_52 : decode cX8_toDone 52 = .ok (.ireturn, 1) := by decide +kernel
theorem dX8_toDone_53 : decode cX8_toDone 53 = .ok (.iinc 4 1, 3) := by decide +kernel
theorem dX8_toDone_56 : decode cX8_toDone 56 = .ok (.goto (-47), 3) := by decide +kernel
theorem dX8_toDone_59 : decode cX8_toDone 59 = .ok (.iconst (-1), 1) := by decide +kernel
theorem dX8_toDone_60 : decode cX8_toDone 60 = .ok (.ireturn, 1) := by decide +kernel
theorem dX8_toShown_0 : decode cX8_toShown 0 = .ok (.aload_n 0, 1) := by decide +kernel
theorem dX8_toShown_1 : decode cX8_toShown 1 = .ok (.aload_n 1, 1) := by decide +kernel
theorem dX8_toShown_2 : decode cX8_toShown 2 = .ok (.iload_n 2, 1) := by decide +kernel
theorem dX8_toShown_3 : decode cX8_toShown 3 = .ok (.invokevirtual 80, 3) := by decide +kernel
theorem dX8_toShown_6 : decode cX8_toShown 6 = .ok (.iconst 0, 1) := by decide +kernel
theorem dX8_toShown_7 : decode cX8_toShown 7 = .ok (.istore 4, 2) := by decide +kernel
theorem dX8_toShown_9 : decode cX8_toShown 9 = .ok (.iload 4, 2) := by decide +kernel
theorem dX8_toShown_11 : decode cX8_toShown 11 = .ok (.aload_n 0, 1) := by decide +kernel
theorem dX8_toShown_12 : decode cX8_toShown 12 = .ok (.getfield 9, 3) := by decide +kernel
theorem dX8_toShown_15 : decode cX8_toShown 15 = .ok (.if_icmp .ge 44, 3) := by decide +kernel
theorem dX8_toShown_18 : decode cX8_toShown 18 = .ok (.iload 4, 2) := by decide +kernel
theorem dX8_toShown_20 : decode cX8_toShown 20 = .ok (.aload_n 0, 1) := by decide +kernel
theorem dX8_toShown_21 : decode cX8_toShown 21 = .ok (.getfield 21, 3) := by decide +kernel
theorem dX8_toShown_24 : decode cX8_toShown 24 = .ok (.arraylength, 1) := by decide +kernel
theorem dX8_toShown_25 : decode cX8_toShown 25 = .ok (.if_icmp .ge 34, 3) := by decide +kernel
