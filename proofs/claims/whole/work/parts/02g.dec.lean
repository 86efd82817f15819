theorem dX11_laysStands_77 : decode cX11_laysStands 77 = .ok (.iload_n 2, 1) := by decide +kernel
theorem dX11_laysStands_78 : decode cX11_laysStands 78 = .ok (.iadd, 1) := by decide +kernel
theorem dX11_laysStands_79 : decode cX11_laysStands 79 = .ok (.iload_n 3, 1) := by decide +kernel
theorem dX11_laysStands_80 : decode cX11_laysStands 80 = .ok (.iastore, 1) := by decide +kernel
theorem dX11_laysStands_81 : decode cX11_laysStands 81 = .ok (.iload_n 3, 1) := by decide +kernel
theorem dX11_laysStands_82 : decode cX11_laysStands 82 = .ok (.iconst (-1), 1) := by decide +kernel
theorem dX11_laysStands_83 : decode cX11_laysStands 83 = .ok (.if_icmp .eq 8, 3) := by decide +kernel
theorem dX11_laysStands_86 : decode cX11_laysStands 86 = .ok (.aload_n 0, 1) := by decide +kernel
theorem dX11_laysStands_87 : decode cX11_laysStands 87 = .ok (.iload_n 3, 1) := by decide +kernel
theorem dX11_laysStands_88 : decode cX11_laysStands 88 = .ok (.invokevirtual 358, 3) := by decide +kernel
theorem dX11_laysStands_91 : decode cX11_laysStands 91 = .ok (.iinc 2 1, 3) := by decide +kernel
theorem dX11_laysStands_94 : decode cX11_laysStands 94 = .ok (.goto (-48), 3) := by decide +kernel
theorem dX11_laysStands_97 : decode cX11_laysStands 97 = .ok (.iinc 1 1, 3) := by decide +kernel
theorem dX11_laysStands_100 : decode cX11_laysStands 100 = .ok (.goto (-64), 3) := by decide +kernel
theorem dX11_laysStands_103 : decode cX11_laysStands 103 = .ok (.return_, 1) := by decide +kernel
theorem dX11_hasAll_0 : decode cX11_hasAll 0 = .ok (.iload_n 3, 1) := by decide +kernel
theorem dX11_hasAll_1 : decode cX11_hasAll 1 = .ok (.ifCond .eq 12, 3) := by decide +kernel
theorem dX11_hasAll_4 : decode cX11_hasAll 4 = .ok (.aload_n 0, 1) := by decide +kernel
theorem dX11_hasAll_5 : decode cX11_hasAll 5 = .ok (.iload_n 1, 1) := by decide +kernel
theorem dX11_hasAll_6 : decode cX11_hasAll 6 = .ok (.iconst 1, 1) := by decide +kernel
theorem dX11_hasAll_7 : decode cX11_hasAll 7 = .ok (.invokevirtual 218, 3) := by decide +kernel
theorem dX11_hasAll_10 : decode cX11_hasAll 10 = .ok (.goto 8, 3) := by decide +kernel
theorem dX11_hasAll_13 : decode cX11_hasAll 13 = .ok (.aload_n 0, 1) := by decide +kernel
theorem dX11_hasAll_14 : decode cX11_hasAll 14 = .ok (.iload_n 1, 1) := by decide +kernel
theorem dX11_hasAll_15 : decode cX11_hasAll 15 = .ok (.invokevirtual 245, 3) := by decide +kernel
theorem dX11_hasAll_18 : decode cX11_hasAll 18 = .ok (.iload_n 2, 1) := by decide +kernel
theorem dX11_hasAll_19 : decode cX11_hasAll 19 = .ok (.iand, 1) := by decide +kernel
theorem dX11_hasAll_20 : decode cX11_hasAll 20 = .ok (.iload_n 2, 1) := by decide +kernel
theorem dX11_hasAll_21 : decode cX11_hasAll 21 = .ok (.if_icmp .ne 7, 3) := by decide +kernel
theorem dX11_hasAll_24 : decode cX11_hasAll 24 = .ok (.iconst 1, 1) := by decide +kernel
theorem dX11_hasAll_25 : decode cX11_hasAll 25 = .ok (.goto 4, 3) := by decide +kernel
theorem dX11_hasAll_28 : decode cX11_hasAll 28 = .ok (.iconst 0, 1) := by decide +kernel
theorem dX11_hasAll_29 : decode cX11_hasAll 29 = .ok (.ireturn, 1) := by decide +kernel
theorem dX11_farBy_0 : decode cX11_farBy 0 = .ok (.aload_n 0, 1) := by decide +kernel
theorem dX11_farBy_1 : decode cX11_farBy 1 = .ok (.getfield 44, 3) := by decide +kernel
theorem dX11_farBy_4 : decode cX11_farBy 4 = .ok (.bipush 16, 2) := by decide +kernel
theorem dX11_farBy_6 : decode cX11_farBy 6 = .ok (.iload_n 1, 1) := by decide +kernel
theorem dX11_farBy_7 : decode cX11_farBy 7 = .ok (.imul, 1) := by decide +kernel
theorem dX11_farBy_8 : decode cX11_farBy 8 = .ok (.iload_n 2, 1) := by decide +kernel
theorem dX11_farBy_9 : decode cX11_farBy 9 = .ok (.iadd, 1) := by decide +kernel
theorem dX11_farBy_10 : decode cX11_farBy 10 = .ok (.iaload, 1) := by decide +kernel
theorem dX11_farBy_11 : decode cX11_farBy 11 = .ok (.istore_n 3, 1) := by decide +kernel
theorem dX11_farBy_12 : decode cX11_farBy 12 = .ok (.iload_n 3, 1) := by decide +kernel
theorem dX11_farBy_13 : decode cX11_farBy 13 = .ok (.iconst (-1), 1) := by decide +kernel
theorem dX11_farBy_14 : decode cX11_farBy 14 = .ok (.if_icmp .eq 15, 3) := by decide +kernel
theorem dX11_farBy_17 : decode cX11_farBy 17 = .ok (.aload_n 0, 1) := by decide +kernel
theorem dX11_farBy_18 : decode cX11_farBy 18 = .ok (.getfield 47, 3) := by decide +kernel
theorem dX11_farBy_21 : decode cX11_farBy 21 = .ok (.iload_n 3, 1) := by decide +kernel
theorem dX11_farBy_22 : decode cX11_farBy 22 = .ok (.iaload, 1) := by decide +kernel
theorem dX11_farBy_23 : decode cX11_farBy 23 = .ok (.ldc_w 364, 3) := by decide +kernel
theorem dX11_farBy_26 : decode cX11_farBy 26 = .ok (.if_icmp .ne 9, 3) := by decide +kernel
theorem dX11_farBy_29 : decode cX11_farBy 29 = .ok (.ldc_w 364, 3) := by decide +kernel
theorem dX11_farBy_32 : decode cX11_farBy 32 = .ok (.goto 11, 3) := by decide +kernel
theorem dX11_farBy_35 : decode cX11_farBy 35 = .ok (.aload_n 0, 1) := by decide +kernel
theorem dX11_farBy_36 : decode cX11_farBy 36 = .ok (.getfield 47, 3) := by decide +kernel
theorem dX11_farBy_39 : decode cX11_farBy 39 = .ok (.iload_n 3, 1) := by decide +kernel
theorem dX11_farBy_40 : decode cX11_farBy 40 = .ok (.iaload, 1) := by decide +kernel
theorem dX11_farBy_41 : decode cX11_farBy 41 = .ok (.iconst 1, 1) := by decide +kernel
theorem dX11_farBy_42 : decode cX11_farBy 42 = .ok (.iadd, 1) := by decide +kernel
theorem dX11_farBy_43 : decode cX11_farBy 43 = .ok (.ireturn, 1) := by decide +kernel
theorem dX11_laysFar_0 : decode cX11_laysFar 0 = .ok (.aload_n 0, 1) := by decide +kernel
theorem dX11_laysFar_1 : decode cX11_laysFar 1 = .ok (.invokevirtual 365, 3) := by decide +kernel
theorem dX11_laysFar_4 : decode cX11_laysFar 4 = .ok (.iconst 0, 1) := by decide +kernel
theorem dX11_laysFar_5 : decode cX11_laysFar 5 = .ok (.istore_n 3, 1) := by decide +kernel
theorem dX11_laysFar_6 : decode cX11_laysFar 6 = .ok (.iload_n 3, 1) := by decide +kernel
theorem dX11_laysFar_7 : decode cX11_laysFar 7 = .ok (.aload_n 0, 1) := by decide +kernel
theorem dX11_laysFar_8 : decode cX11_laysFar 8 = .ok (.getfield 355, 3) := by decide +kernel
theorem dX11_laysFar_11 : decode cX11_laysFar 11 = .ok (.if_icmp .ge 42, 3) := by decide +kernel
theorem dX11_laysFar_14 : decode cX11_laysFar 14 = .ok (.aload_n 0, 1) := by decide +kernel
theorem dX11_laysFar_15 : decode cX11_laysFar 15 = .ok (.getfield 47, 3) := by decide +kernel
theorem dX11_laysFar_18 : decode cX11_laysFar 18 = .ok (.aload_n 0, 1) := by decide +kernel
theorem dX11_laysFar_19 : decode cX11_laysFar 19 = .ok (.getfield 40, 3) := by decide +kernel
theorem dX11_laysFar_22 : decode cX11_laysFar 22 = .ok (.iload_n 3, 1) := by decide +kernel
theorem dX11_laysFar_23 : decode cX11_laysFar 23 = .ok (.iaload, 1) := by decide +kernel
theorem dX11_laysFar_24 : decode cX11_laysFar 24 = .ok (.aload_n 0, 1) := by decide +kernel
theorem dX11_laysFar_25 : decode cX11_laysFar 25 = .ok (.aload_n 0, 1) := by decide +kernel
theorem dX11_laysFar_26 : decode cX11_laysFar 26 = .ok (.getfield 40, 3) := by decide +kernel
theorem dX11_laysFar_29 : decode cX11_laysFar 29 = .ok (.iload_n 3, 1) := by decide +kernel
theorem dX11_laysFar_30 : decode cX11_laysFar 30 = .ok (.iaload, 1) := by decide +kernel
theorem dX11_laysFar_31 : decode cX11_laysFar 31 = .ok (.iload_n 1, 1) := by decide +kernel
theorem dX11_laysFar_32 : decode cX11_laysFar 32 = .ok (.iload_n 2, 1) := by decide +kernel
theorem dX11_laysFar_33 : decode cX11_laysFar 33 = .ok (.invokevirtual 368, 3) := by decide +kernel
theorem dX11_laysFar_36 : decode cX11_laysFar 36 = .ok (.ifCond .eq 7, 3) := by decide +kernel
theorem dX11_laysFar_39 : decode cX11_laysFar 39 = .ok (.iconst 0, 1) := by decide +kernel
theorem dX11_laysFar_40 : decode cX11_laysFar 40 = .ok (.goto 6, 3) := by decide +kernel
theorem dX11_laysFar_43 : decode cX11_laysFar 43 = .ok (.ldc_w 364, 3) := by decide +kernel
theorem dX11_laysFar_46 : decode cX11_laysFar 46 = .ok (.iastore, 1) := by decide +kernel
theorem dX11_laysFar_47 : decode cX11_laysFar 47 = .ok (.iinc 3 1, 3) := by decide +kernel
theorem dX11_laysFar_50 : decode cX11_laysFar 50 = .ok (.goto (-44), 3) := by decide +kernel
theorem dX11_laysFar_53 : decode cX11_laysFar 53 = .ok (.iconst 1, 1) := by decide +kernel
theorem dX11_laysFar_54 : decode cX11_laysFar 54 = .ok (.istore_n 3, 1) := by decide +kernel
theorem dX11_laysFar_55 : decode cX11_laysFar 55 = .ok (.iload_n 3, 1) := by decide +kernel
theorem dX11_laysFar_56 : decode cX11_laysFar 56 = .ok (.ifCond .eq 116, 3) := by decide +kernel
theorem dX11_laysFar_59 : decode cX11_laysFar 59 = .ok (.iconst 0, 1) := by decide +kernel
theorem dX11_laysFar_60 : decode cX11_laysFar 60 = .ok (.istore_n 3, 1) := by decide +kernel
theorem dX11_laysFar_61 : decode cX11_laysFar 61 = .ok (.aload_n 0, 1) := by decide +kernel
theorem dX11_laysFar_62 : decode cX11_laysFar 62 = .ok (.getfield 355, 3) := by decide +kernel
theorem dX11_laysFar_65 : decode cX11_laysFar 65 = .ok (.iconst 1, 1) := by decide +kernel
theorem dX11_laysFar_66 : decode cX11_laysFar 66 = .ok (.isub, 1) := by decide +kernel
theorem dX11_laysFar_67 : decode cX11_laysFar 67 = .ok (.istore 4, 2) := by decide +kernel
theorem dX11_laysFar_69 : decode cX11_laysFar 69 = .ok (.iload 4, 2) := by decide +kernel
theorem dX11_laysFar_71 : decode cX11_laysFar 71 = .ok (.ifCond .lt 98, 3) := by decide +kernel
theorem dX11_laysFar_74 : decode cX11_laysFar 74 = .ok (.iconst 0, 1) := by decide +kernel
theorem dX11_laysFar_75 : decode cX11_laysFar 75 = .ok (.istore 5, 2) := by decide +kernel
theorem dX11_laysFar_77 : decode cX11_laysFar 77 = .ok (.iload 5, 2) := by decide +kernel
theorem dX11_laysFar_79 : decode cX11_laysFar 79 = .ok (.bipush 16, 2) := by decide +kernel
theorem dX11_laysFar_81 : decode cX11_laysFar 81 = .ok (.if_icmp .ge 82, 3) := by decide +kernel
theorem dX11_laysFar_84 : decode cX11_laysFar 84 = .ok (.aload_n 0, 1) := by decide +kernel
theorem dX11_laysFar_85 : decode cX11_laysFar 85 = .ok (.getfield 47, 3) := by decide +kernel
theorem dX11_laysFar_88 : decode cX11_laysFar 88 = .ok (.aload_n 0, 1) := by decide +kernel
theorem dX11_laysFar_89 : decode cX11_laysFar 89 = .ok (.getfield 40, 3) := by decide +kernel
theorem dX11_laysFar_92 : decode cX11_laysFar 92 = .ok (.iload 4, 2) := by decide +kernel
theorem dX11_laysFar_94 : decode cX11_laysFar 94 = .ok (.iaload, 1) := by decide +kernel
theorem dX11_laysFar_95 : decode cX11_laysFar 95 = .ok (.iaload, 1) := by decide +kernel
theorem dX11_laysFar_96 : decode cX11_laysFar 96 = .ok (.ifCond .le 67, 3) := by decide +kernel
theorem dX11_laysFar_99 : decode cX11_laysFar 99 = .ok (.aload_n 0, 1) := by decide +kernel
theorem dX11_laysFar_100 : decode cX11_laysFar 100 = .ok (.aload_n 0, 1) := by decide +kernel
theorem dX11_laysFar_101 : decode cX11_laysFar 101 = .ok (.getfield 40, 3) := by decide +kernel
theorem dX11_laysFar_104 : decode cX11_laysFar 104 = .ok (.iload 4, 2) := by decide +kernel
theorem dX11_laysFar_106 : decode cX11_laysFar 106 = .ok (.iaload, 1) := by decide +kernel
theorem dX11_laysFar_107 : decode cX11_laysFar 107 = .ok (.iload 5, 2) := by decide +kernel
theorem dX11_laysFar_109 : decode cX11_laysFar 109 = .ok (.invokevirtual 372, 3) := by decide +kernel
theorem dX11_laysFar_112 : decode cX11_laysFar 112 = .ok (.aload_n 0, 1) := by decide +kernel
theorem dX11_laysFar_113 : decode cX11_laysFar 113 = .ok (.getfield 47, 3) := by decide +kernel
theorem dX11_laysFar_116 : decode cX11_laysFar 116 = .ok (.aload_n 0, 1) := by decide +kernel
theorem dX11_laysFar_117 : decode cX11_laysFar 117 = .ok (.getfield 40, 3) := by decide +kernel
theorem dX11_laysFar_120 : decode cX11_laysFar 120 = .ok (.iload 4, 2) := by decide +kernel
theorem dX11_laysFar_122 : decode cX11_laysFar 122 = .ok (.iaload, 1) := by decide +kernel
theorem dX11_laysFar_123 : decode cX11_laysFar 123 = .ok (.iaload, 1) := by decide +kernel
theorem dX11_laysFar_124 : decode cX11_laysFar 124 = .ok (.if_icmp .lt 6, 3) := by decide +kernel
theorem dX11_laysFar_127 : decode cX11_laysFar 127 = .ok (.goto 30, 3) := by decide +kernel
theorem dX11_laysFar_130 : decode cX11_laysFar 130 = .ok (.aload_n 0, 1) := by decide +kernel
theorem dX11_laysFar_131 : decode cX11_laysFar 131 = .ok (.getfield 47, 3) := by decide +kernel
theorem dX11_laysFar_134 : decode cX11_laysFar 134 = .ok (.aload_n 0, 1) := by decide +kernel
theorem dX11_laysFar_135 : decode cX11_laysFar 135 = .ok (.getfield 40, 3) := by decide +kernel
theorem dX11_laysFar_138 : decode cX11_laysFar 138 = .ok (.iload 4, 2) := by decide +kernel
theorem dX11_laysFar_140 : decode cX11_laysFar 140 = .ok (.iaload, 1) := by decide +kernel
theorem dX11_laysFar_141 : decode cX11_laysFar 141 = .ok (.aload_n 0, 1) := by decide +kernel
theorem dX11_laysFar_142 : decode cX11_laysFar 142 = .ok (.aload_n 0, 1) := by decide +kernel
theorem dX11_laysFar_143 : decode cX11_laysFar 143 = .ok (.getfield 40, 3) := by decide +kernel
theorem dX11_laysFar_146 : decode cX11_laysFar 146 = .ok (.iload 4, 2) := by decide +kernel
theorem dX11_laysFar_148 : decode cX11_laysFar 148 = .ok (.iaload, 1) := by decide +kernel
theorem dX11_laysFar_149 : decode cX11_laysFar 149 = .ok (.iload 5, 2) := by decide +kernel
theorem dX11_laysFar_151 : decode cX11_laysFar 151 = .ok (.invokevirtual 372, 3) := by decide +kernel
theorem dX11_laysFar_154 : decode cX11_laysFar 154 = .ok (.iastore, 1) := by decide +kernel
theorem dX11_laysFar_155 : decode cX11_laysFar 155 = .ok (.iconst 1, 1) := by decide +kernel
theorem dX11_laysFar_156 : decode cX11_laysFar 156 = .ok (.istore_n 3, 1) := by decide +kernel
theorem dX11_laysFar_157 : decode cX11_laysFar 157 = .ok (.iinc 5 1, 3) := by decide +kernel
theorem dX11_laysFar_160 : decode cX11_laysFar 160 = .ok (.goto (-83), 3) := by decide +kernel
theorem dX11_laysFar_163 : decode cX11_laysFar 163 = .ok (.iinc 4 (-1), 3) := by decide +kernel
theorem dX11_laysFar_166 : decode cX11_laysFar 166 = .ok (.goto (-97), 3) := by decide +kernel
theorem dX11_laysFar_169 : decode cX11_laysFar 169 = .ok (.goto (-114), 3) := by decide +kernel
theorem dX11_laysFar_172 : decode cX11_laysFar 172 = .ok (.aload_n 0, 1) := by decide +kernel
theorem dX11_laysFar_173 : decode cX11_laysFar 173 = .ok (.getfield 47, 3) := by decide +kernel
theorem dX11_laysFar_176 : decode cX11_laysFar 176 = .ok (.aload_n 0, 1) := by decide +kernel
theorem dX11_laysFar_177 : decode cX11_laysFar 177 = .ok (.invokevirtual 270, 3) := by decide +kernel
theorem dX11_laysFar_180 : decode cX11_laysFar 180 = .ok (.iaload, 1) := by decide +kernel
theorem dX11_laysFar_181 : decode cX11_laysFar 181 = .ok (.ireturn, 1) := by decide +kernel
theorem dX11_toldFar_0 : decode cX11_toldFar 0 = .ok (.iload_n 0, 1) := by decide +kernel
theorem dX11_toldFar_1 : decode cX11_toldFar 1 = .ok (.ldc_w 364, 3) := by decide +kernel
theorem dX11_toldFar_4 : decode cX11_toldFar 4 = .ok (.if_icmp .ne 7, 3) := by decide +kernel
theorem dX11_toldFar_7 : decode cX11_toldFar 7 = .ok (.iconst (-1), 1) := by decide +kernel
theorem dX11_toldFar_8 : decode cX11_toldFar 8 = .ok (.goto 4, 3) := by decide +kernel
theorem dX11_toldFar_11 : decode cX11_toldFar 11 = .ok (.iload_n 0, 1) := by decide +kernel
theorem dX11_toldFar_12 : decode cX11_toldFar 12 = .ok (.ireturn, 1) := by decide +kernel
theorem dX11_moveAt_0 : decode cX11_moveAt 0 = .ok (.aload_n 0, 1) := by decide +kernel
theorem dX11_moveAt_1 : decode cX11_moveAt 1 = .ok (.invokevirtual 270, 3) := by decide +kernel
theorem dX11_moveAt_4 : decode cX11_moveAt 4 = .ok (.istore_n 2, 1) := by decide +kernel
theorem dX11_moveAt_5 : decode cX11_moveAt 5 = .ok (.iconst 0, 1) := by decide +kernel
theorem dX11_moveAt_6 : decode cX11_moveAt 6 = .ok (.istore_n 3, 1) := by decide +kernel
theorem dX11_moveAt_7 : decode cX11_moveAt 7 = .ok (.aload_n 0, 1) := by decide +kernel
theorem dX11_moveAt_8 : decode cX11_moveAt 8 = .ok (.getfield 47, 3) := by decide +kernel
theorem dX11_moveAt_11 : decode cX11_moveAt 11 = .ok (.iload_n 2, 1) := by decide +kernel
theorem dX11_moveAt_12 : decode cX11_moveAt 12 = .ok (.iaload, 1) := by decide +kernel
theorem dX11_moveAt_13 : decode cX11_moveAt 13 = .ok (.ifCond .le 70, 3) := by decide +kernel
theorem dX11_moveAt_16 : decode cX11_moveAt 16 = .ok (.aload_n 0, 1) := by decide +kernel
theorem dX11_moveAt_17 : decode cX11_moveAt 17 = .ok (.getfield 47, 3) := by decide +kernel
theorem dX11_moveAt_20 : decode cX11_moveAt 20 = .ok (.iload_n 2, 1) := by decide +kernel
theorem dX11_moveAt_21 : decode cX11_moveAt 21 = .ok (.iaload, 1) := by decide +kernel
theorem dX11_moveAt_22 : decode cX11_moveAt 22 = .ok (.ldc_w 364, 3) := by decide +kernel
theorem dX11_moveAt_25 : decode cX11_moveAt 25 = .ok (.if_icmp .ge 58, 3) := by decide +kernel
theorem dX11_moveAt_28 : decode cX11_moveAt 28 = .ok (.iconst 0, 1) := by decide +kernel
theorem dX11_moveAt_29 : decode cX11_moveAt 29 = .ok (.istore 4, 2) := by decide +kernel
theorem dX11_moveAt_31 : decode cX11_moveAt 31 = .ok (.aload_n 0, 1) := by decide +kernel
theorem dX11_moveAt_32 : decode cX11_moveAt 32 = .ok (.iload_n 2, 1) := by decide +kernel
theorem dX11_moveAt_33 : decode cX11_moveAt 33 = .ok (.iload 4, 2) := by decide +kernel
theorem dX11_moveAt_35 : decode cX11_moveAt 35 = .ok (.invokevirtual 372, 3) := by decide +kernel
theorem dX11_moveAt_38 : decode cX11_moveAt 38 = .ok (.aload_n 0, 1) := by decide +kernel
theorem dX11_moveAt_39 : decode cX11_moveAt 39 = .ok (.getfield 47, 3) := by decide +kernel
theorem dX11_moveAt_42 : decode cX11_moveAt 42 = .ok (.iload_n 2, 1) := by decide +kernel
theorem dX11_moveAt_43 : decode cX11_moveAt 43 = .ok (.iaload, 1) := by decide +kernel
theorem dX11_moveAt_44 : decode cX11_moveAt 44 = .ok (.if_icmp .eq 9, 3) := by decide +kernel
theorem dX11_moveAt_47 : decode cX11_moveAt 47 = .ok (.iinc 4 1, 3) := by decide +kernel
theorem dX11_moveAt_50 : decode cX11_moveAt 50 = .ok (.goto (-19), 3) := by decide +kernel
theorem dX11_moveAt_53 : decode cX11_moveAt 53 = .ok (.iload_n 3, 1) := by decide +kernel
theorem dX11_moveAt_54 : decode cX11_moveAt 54 = .ok (.iload_n 1, 1) := by decide +kernel
theorem dX11_moveAt_55 : decode cX11_moveAt 55 = .ok (.if_icmp .ne 9, 3) := by decide +kernel
theorem dX11_moveAt_58 : decode cX11_moveAt 58 = .ok (.iload 4, 2) := by decide +kernel
theorem dX11_moveAt_60 : decode cX11_moveAt 60 = .ok (.invokestatic 375, 3) := by decide +kernel
theorem dX11_moveAt_63 : decode cX11_moveAt 63 = .ok (.ireturn, 1) := by decide +kernel
theorem dX11_moveAt_64 : decode cX11_moveAt 64 = .ok (.aload_n 0, 1) := by decide +kernel
theorem dX11_moveAt_65 : decode cX11_moveAt 65 = .ok (.getfield 44, 3) := by decide +kernel
theorem dX11_moveAt_68 : decode cX11_moveAt 68 = .ok (.bipush 16, 2) := by decide +kernel
theorem dX11_moveAt_70 : decode cX11_moveAt 70 = .ok (.iload_n 2, 1) := by decide +kernel
theorem dX11_moveAt_71 : decode cX11_moveAt 71 = .ok (.imul, 1) := by decide +kernel
theorem dX11_moveAt_72 : decode cX11_moveAt 72 = .ok (.iload 4, 2) := by decide +kernel
theorem dX11_moveAt_74 : decode cX11_moveAt 74 = .ok (.iadd, 1) := by decide +kernel
theorem dX11_moveAt_75 : decode cX11_moveAt 75 = .ok (.iaload, 1) := by decide +kernel
theorem dX11_moveAt_76 : decode cX11_moveAt 76 = .ok (.istore_n 2, 1) := by decide +kernel
theorem dX11_moveAt_77 : decode cX11_moveAt 77 = .ok (.iinc 3 1, 3) := by decide +kernel
theorem dX11_moveAt_80 : decode cX11_moveAt 80 = .ok (.goto (-73), 3) := by decide +kernel
theorem dX11_moveAt_83 : decode cX11_moveAt 83 = .ok (.iconst (-1), 1) := by decide +kernel
theorem dX11_moveAt_84 : decode cX11_moveAt 84 = .ok (.ireturn, 1) := by decide +kernel
theorem dX11_comes_0 : decode cX11_comes 0 = .ok (.aload_n 0, 1) := by decide +kernel
theorem dX11_comes_1 : decode cX11_comes 1 = .ok (.iload_n 1, 1) := by decide +kernel
theorem dX11_comes_2 : decode cX11_comes 2 = .ok (.invokevirtual 378, 3) := by decide +kernel
theorem dX11_comes_5 : decode cX11_comes 5 = .ok (.ifCond .eq 15, 3) := by decide +kernel
theorem dX11_comes_8 : decode cX11_comes 8 = .ok (.aload_n 0, 1) := by decide +kernel
theorem dX11_comes_9 : decode cX11_comes 9 = .ok (.iload_n 1, 1) := by decide +kernel
theorem dX11_comes_10 : decode cX11_comes 10 = .ok (.iload_n 2, 1) := by decide +kernel
theorem dX11_comes_11 : decode cX11_comes 11 = .ok (.invokevirtual 381, 3) := by decide +kernel
theorem dX11_comes_14 : decode cX11_comes 14 = .ok (.invokestatic 385, 3) := by decide +kernel
theorem dX11_comes_17 : decode cX11_comes 17 = .ok (.goto 5, 3) := by decide +kernel
theorem dX11_comes_20 : decode cX11_comes 20 = .ok (.bipush (-3), 2) := by decide +kernel
theorem dX11_comes_22 : decode cX11_comes 22 = .ok (.ireturn, 1) := by decide +kernel
theorem dX11_comesBy_0 : decode cX11_comesBy 0 = .ok (.aload_n 0, 1) := by decide +kernel
theorem dX11_comesBy_1 : decode cX11_comesBy 1 = .ok (.iload_n 1, 1) := by decide +kernel
theorem dX11_comesBy_2 : decode cX11_comesBy 2 = .ok (.invokevirtual 378, 3) := by decide +kernel
theorem dX11_comesBy_5 : decode cX11_comesBy 5 = .ok (.ifCond .eq 7, 3) := by decide +kernel
theorem dX11_comesBy_8 : decode cX11_comesBy 8 = .ok (.iload_n 2, 1) := by decide +kernel
theorem dX11_comesBy_9 : decode cX11_comesBy 9 = .ok (.ifCond .ge 6, 3) := by decide +kernel
theorem dX11_comesBy_12 : decode cX11_comesBy 12 = .ok (.bipush (-3), 2) := by decide +kernel
theorem dX11_comesBy_14 : decode cX11_comesBy 14 = .ok (.ireturn, 1) := by decide +kernel
theorem dX11_comesBy_15 : decode cX11_comesBy 15 = .ok (.aload_n 0, 1) := by decide +kernel
theorem dX11_comesBy_16 : decode cX11_comesBy 16 = .ok (.iload_n 1, 1) := by decide +kernel
theorem dX11_comesBy_17 : decode cX11_comesBy 17 = .ok (.iload_n 3, 1) := by decide +kernel
theorem dX11_comesBy_18 : decode cX11_comesBy 18 = .ok (.invokevirtual 381, 3) := by decide +kernel
theorem dX11_comesBy_21 : decode cX11_comesBy 21 = .ok (.pop, 1) := by decide +kernel
theorem dX11_comesBy_22 : decode cX11_comesBy 22 = .ok (.aload_n 0, 1) := by decide +kernel
theorem dX11_comesBy_23 : decode cX11_comesBy 23 = .ok (.iload_n 2, 1) := by decide +kernel
theorem dX11_comesBy_24 : decode cX11_comesBy 24 = .ok (.invokevirtual 388, 3) := by decide +kernel
theorem dX11_comesBy_27 : decode cX11_comesBy 27 = .ok (.ireturn, 1) := by decide +kernel
theorem dX11_soonest_0 : decode cX11_soonest 0 = .ok (.aload_n 0, 1) := by decide +kernel
theorem dX11_soonest_1 : decode cX11_soonest 1 = .ok (.iconst 0, 1) := by decide +kernel
theorem dX11_soonest_2 : decode cX11_soonest 2 = .ok (.putfield 1, 3) := by decide +kernel
theorem dX11_soonest_5 : decode cX11_soonest 5 = .ok (.aload_n 0, 1) := by decide +kernel
theorem dX11_soonest_6 : decode cX11_soonest 6 = .ok (.iload_n 1, 1) := by decide +kernel
theorem dX11_soonest_7 : decode cX11_soonest 7 = .ok (.iconst 0, 1) := by decide +kernel
theorem dX11_soonest_8 : decode cX11_soonest 8 = .ok (.invokevirtual 391, 3) := by decide +kernel
theorem dX11_soonest_11 : decode cX11_soonest 11 = .ok (.ireturn, 1) := by decide +kernel
theorem dX11_way_0 : decode cX11_way 0 = .ok (.aload_n 0, 1) := by decide +kernel
theorem dX11_way_1 : decode cX11_way 1 = .ok (.iconst 0, 1) := by decide +kernel
theorem dX11_way_2 : decode cX11_way 2 = .ok (.putfield 1, 3) := by decide +kernel
theorem dX11_way_5 : decode cX11_way 5 = .ok (.aload_n 0, 1) := by decide +kernel
theorem dX11_way_6 : decode cX11_way 6 = .ok (.iload_n 1, 1) := by decide +kernel
theorem dX11_way_7 : decode cX11_way 7 = .ok (.iload_n 2, 1) := by decide +kernel
theorem dX11_way_8 : decode cX11_way 8 = .ok (.iconst 0, 1) := by decide +kernel
theorem dX11_way_9 : decode cX11_way 9 = .ok (.invokevirtual 394, 3) := by decide +kernel
theorem dX11_way_12 : decode cX11_way 12 = .ok (.ireturn, 1) := by decide +kernel
theorem dX11_shown_0 : decode cX11_shown 0 = .ok (.aload_n 0, 1) := by decide +kernel
theorem dX11_shown_1 : decode cX11_shown 1 = .ok (.iconst 0, 1) := by decide +kernel
theorem dX11_shown_2 : decode cX11_shown 2 = .ok (.putfield 1, 3) := by decide +kernel
theorem dX11_shown_5 : decode cX11_shown 5 = .ok (.aload_n 0, 1) := by decide +kernel
theorem dX11_shown_6 : decode cX11_shown 6 = .ok (.iload_n 1, 1) := by decide +kernel
theorem dX11_shown_7 : decode cX11_shown 7 = .ok (.iconst 1, 1) := by decide +kernel
theorem dX11_shown_8 : decode cX11_shown 8 = .ok (.invokevirtual 391, 3) := by decide +kernel
theorem dX11_shown_11 : decode cX11_shown 11 = .ok (.ireturn, 1) := by decide +kernel
theorem dX11_shownBy_0 : decode cX11_shownBy 0 = .ok (.aload_n 0, 1) := by decide +kernel
theorem dX11_shownBy_1 : decode cX11_shownBy 1 = .ok (.iconst 0, 1) := by decide +kernel
theorem dX11_shownBy_2 : decode cX11_shownBy 2 = .ok (.putfield 1, 3) := by decide +kernel
theorem dX11_shownBy_5 : decode cX11_shownBy 5 = .ok (.aload_n 0, 1) := by decide +kernel
theorem dX11_shownBy_6 : decode cX11_shownBy 6 = .ok (.iload_n 1, 1) := by decide +kernel
theorem dX11_shownBy_7 : decode cX11_shownBy 7 = .ok (.iload_n 2, 1) := by decide +kernel
theorem dX11_shownBy_8 : decode cX11_shownBy 8 = .ok (.iconst 1, 1) := by decide +kernel
theorem dX11_shownBy_9 : decode cX11_shownBy 9 = .ok (.invokevirtual 394, 3) := by decide +kernel
theorem dX11_shownBy_12 : decode cX11_shownBy 12 = .ok (.ireturn, 1) := by decide +kernel
theorem dX11_rows_0 : decode cX11_rows 0 = .ok (.aload_n 0, 1) := by decide +kernel
theorem dX11_rows_1 : decode cX11_rows 1 = .ok (.iconst 0, 1) := by decide +kernel
theorem dX11_rows_2 : decode cX11_rows 2 = .ok (.putfield 1, 3) := by decide +kernel
theorem dX11_rows_5 : decode cX11_rows 5 = .ok (.aload_n 0, 1) := by decide +kernel
theorem dX11_rows_6 : decode cX11_rows 6 = .ok (.iload_n 1, 1) := by decide +kernel
theorem dX11_rows_7 : decode cX11_rows 7 = .ok (.invokevirtual 378, 3) := by decide +kernel
theorem dX11_rows_10 : decode cX11_rows 10 = .ok (.ifCond .eq 15, 3) := by decide +kernel
theorem dX11_rows_13 : decode cX11_rows 13 = .ok (.iload_n 2, 1) := by decide +kernel
theorem dX11_rows_14 : decode cX11_rows 14 = .ok (.i2l, 1) := by decide +kernel
theorem dX11_rows_15 : decode cX11_rows 15 = .ok (.lconst 0, 1) := by decide +kernel
theorem dX11_rows_16 : decode cX11_rows 16 = .ok (.ldc2_w 398, 3) := by decide +kernel
theorem dX11_rows_19 : decode cX11_rows 19 = .ok (.invokestatic 150, 3) := by decide +kernel
theorem dX11_rows_22 : decode cX11_rows 22 = .ok (.ifCond .ne 7, 3) := by decide +kernel
theorem dX11_rows_25 : decode cX11_rows 25 = .ok (.ldc2_w 400, 3) := by decide +kernel
theorem dX11_rows_28 : decode cX11_rows 28 = .ok (.lreturn, 1) := by decide +kernel
theorem dX11_rows_29 : decode cX11_rows 29 = .ok (.aload_n 0, 1) := by decide +kernel
theorem dX11_rows_30 : decode cX11_rows 30 = .ok (.invokevirtual 365, 3) := by decide +kernel
theorem dX11_rows_33 : decode cX11_rows 33 = .ok (.iconst 0, 1) := by decide +kernel
theorem dX11_rows_34 : decode cX11_rows 34 = .ok (.istore_n 3, 1) := by decide +kernel
theorem dX11_rows_35 : decode cX11_rows 35 = .ok (.iload_n 3, 1) := by decide +kernel
theorem dX11_rows_36 : decode cX11_rows 36 = .ok (.aload_n 0, 1) := by decide +kernel
theorem dX11_rows_37 : decode cX11_rows 37 = .ok (.getfield 355, 3) := by decide +kernel
theorem dX11_rows_40 : decode cX11_rows 40 = .ok (.if_icmp .ge 41, 3) := by decide +kernel
theorem dX11_rows_43 : decode cX11_rows 43 = .ok (.aload_n 0, 1) := by decide +kernel
theorem dX11_rows_44 : decode cX11_rows 44 = .ok (.getfield 53, 3) := by decide +kernel
theorem dX11_rows_47 : decode cX11_rows 47 = .ok (.aload_n 0, 1) := by decide +kernel
theorem dX11_rows_48 : decode cX11_rows 48 = .ok (.getfield 40, 3) := by decide +kernel
theorem dX11_rows_51 : decode cX11_rows 51 = .ok (.iload_n 3, 1) := by decide +kernel
theorem dX11_rows_52 : decode cX11_rows 52 = .ok (.iaload, 1) := by decide +kernel
theorem dX11_rows_53 : decode cX11_rows 53 = .ok (.iload_n 3, 1) := by decide +kernel
theorem dX11_rows_54 : decode cX11_rows 54 = .ok (.ifCond .ne 7, 3) := by decide +kernel
theorem dX11_rows_57 : decode cX11_rows 57 = .ok (.lconst 1, 1) := by decide +kernel
theorem dX11_rows_58 : decode cX11_rows 58 = .ok (.goto 4, 3) := by decide +kernel
theorem dX11_rows_61 : decode cX11_rows 61 = .ok (.lconst 0, 1) := by decide +kernel
theorem dX11_rows_62 : decode cX11_rows 62 = .ok (.lastore, 1) := by decide +kernel
theorem dX11_rows_63 : decode cX11_rows 63 = .ok (.aload_n 0, 1) := by decide +kernel
theorem dX11_rows_64 : decode cX11_rows 64 = .ok (.getfield 57, 3) := by decide +kernel
theorem dX11_rows_67 : decode cX11_rows 67 = .ok (.aload_n 0, 1) := by decide +kernel
theorem dX11_rows_68 : decode cX11_rows 68 = .ok (.getfield 40, 3) := by decide +kernel
theorem dX11_rows_71 : decode cX11_rows 71 = .ok (.iload_n 3, 1) := by decide +kernel
theorem dX11_rows_72 : decode cX11_rows 72 = .ok (.iaload, 1) := by decide +kernel
theorem dX11_rows_73 : decode cX11_rows 73 = .ok (.lconst 0, 1) := by decide +kernel
theorem dX11_rows_74 : decode cX11_rows 74 = .ok (.lastore, 1) := by decide +kernel
theorem dX11_rows_75 : decode cX11_rows 75 = .ok (.iinc 3 1, 3) := by decide +kernel
theorem dX11_rows_78 : decode cX11_rows 78 = .ok (.goto (-43), 3) := by decide +kernel
theorem dX11_rows_81 : decode cX11_rows 81 = .ok (.iconst 0, 1) := by decide +kernel
theorem dX11_rows_82 : decode cX11_rows 82 = .ok (.istore_n 3, 1) := by decide +kernel
theorem dX11_rows_83 : decode cX11_rows 83 = .ok (.iload_n 3, 1) := by decide +kernel
theorem dX11_rows_84 : decode cX11_rows 84 = .ok (.iload_n 2, 1) := by decide +kernel
theorem dX11_rows_85 : decode cX11_rows 85 = .ok (.if_icmp .ge 175, 3) := by decide +kernel
theorem dX11_rows_88 : decode cX11_rows 88 = .ok (.iconst 0, 1) := by decide +kernel
theorem dX11_rows_89 : decode cX11_rows 89 = .ok (.istore 4, 2) := by decide +kernel
theorem dX11_rows_91 : decode cX11_rows 91 = .ok (.iload 4, 2) := by decide +kernel
theorem dX11_rows_93 : decode cX11_rows 93 = .ok (.aload_n 0, 1) := by decide +kernel
theorem dX11_rows_94 : decode cX11_rows 94 = .ok (.getfield 355, 3) := by decide +kernel
theorem dX11_rows_97 : decode cX11_rows 97 = .ok (.if_icmp .ge 102, 3) := by decide +kernel
theorem dX11_rows_100 : decode cX11_rows 100 = .ok (.iconst 0, 1) := by decide +kernel
theorem dX11_rows_101 : decode cX11_rows 101 = .ok (.istore 5, 2) := by decide +kernel
theorem dX11_rows_103 : decode cX11_rows 103 = .ok (.iload 5, 2) := by decide +kernel
theorem dX11_rows_105 : decode cX11_rows 105 = .ok (.bipush 16, 2) := by decide +kernel
theorem dX11_rows_107 : decode cX11_rows 107 = .ok (.if_icmp .ge 86, 3) := by decide +kernel
theorem dX11_rows_110 : decode cX11_rows 110 = .ok (.aload_n 0, 1) := by decide +kernel
theorem dX11_rows_111 : decode cX11_rows 111 = .ok (.getfield 53, 3) := by decide +kernel
theorem dX11_rows_114 : decode cX11_rows 114 = .ok (.aload_n 0, 1) := by decide +kernel
theorem dX11_rows_115 : decode cX11_rows 115 = .ok (.getfield 40, 3) := by decide +kernel
theorem dX11_rows_118 : decode cX11_rows 118 = .ok (.iload 4, 2) := by decide +kernel
theorem dX11_rows_120 : decode cX11_rows 120 = .ok (.iaload, 1) := by decide +kernel
theorem dX11_rows_121 : decode cX11_rows 121 = .ok (.laload, 1) := by decide +kernel
theorem dX11_rows_122 : decode cX11_rows 122 = .ok (.lconst 0, 1) := by decide +kernel
theorem dX11_rows_123 : decode cX11_rows 123 = .ok (.lcmp, 1) := by decide +kernel
theorem dX11_rows_124 : decode cX11_rows 124 = .ok (.ifCond .le 69, 3) := by decide +kernel
theorem dX11_rows_127 : decode cX11_rows 127 = .ok (.aload_n 0, 1) := by decide +kernel
theorem dX11_rows_128 : decode cX11_rows 128 = .ok (.getfield 44, 3) := by decide +kernel
theorem dX11_rows_131 : decode cX11_rows 131 = .ok (.bipush 16, 2) := by decide +kernel
theorem dX11_rows_133 : decode cX11_rows 133 = .ok (.aload_n 0, 1) := by decide +kernel
theorem dX11_rows_134 : decode cX11_rows 134 = .ok (.getfield 40, 3) := by decide +kernel
theorem dX11_rows_137 : decode cX11_rows 137 = .ok (.iload 4, 2) := by decide +kernel
theorem dX11_rows_139 : decode cX11_rows 139 = .ok (.iaload, 1) := by decide +kernel
theorem dX11_rows_140 : decode cX11_rows 140 = .ok (.imul, 1) := by decide +kernel
theorem dX11_rows_141 : decode cX11_rows 141 = .ok (.iload 5, 2) := by decide +kernel
theorem dX11_rows_143 : decode cX11_rows 143 = .ok (.iadd, 1) := by decide +kernel
theorem dX11_rows_144 : decode cX11_rows 144 = .ok (.iaload, 1) := by decide +kernel
theorem dX11_rows_145 : decode cX11_rows 145 = .ok (.iconst (-1), 1) := by decide +kernel
theorem dX11_rows_146 : decode cX11_rows 146 = .ok (.if_icmp .eq 41, 3) := by decide +kernel
theorem dX11_rows_149 : decode cX11_rows 149 = .ok (.aload_n 0, 1) := by decide +kernel
theorem dX11_rows_150 : decode cX11_rows 150 = .ok (.getfield 57, 3) := by decide +kernel
theorem dX11_rows_153 : decode cX11_rows 153 = .ok (.aload_n 0, 1) := by decide +kernel
theorem dX11_rows_154 : decode cX11_rows 154 = .ok (.getfield 44, 3) := by decide +kernel
theorem dX11_rows_157 : decode cX11_rows 157 = .ok (.bipush 16, 2) := by decide +kernel
theorem dX11_rows_159 : decode cX11_rows 159 = .ok (.aload_n 0, 1) := by decide +kernel
theorem dX11_rows_160 : decode cX11_rows 160 = .ok (.getfield 40, 3) := by decide +kernel
theorem dX11_rows_163 : decode cX11_rows 163 = .ok (.iload 4, 2) := by decide +kernel
theorem dX11_rows_165 : decode cX11_rows 165 = .ok (.iaload, 1) := by decide +kernel
theorem dX11_rows_166 : decode cX11_rows 166 = .ok (.imul, 1) := by decide +kernel
theorem dX11_rows_167 : decode cX11_rows 167 = .ok (.iload 5, 2) := by decide +kernel
theorem dX11_rows_169 : decode cX11_rows 169 = .ok (.iadd, 1) := by decide +kernel
theorem dX11_rows_170 : decode cX11_rows 170 = .ok (.iaload, 1) := by decide +kernel
theorem dX11_rows_171 : decode cX11_rows 171 = .ok (.dup2, 1) := by decide +kernel
theorem dX11_rows_172 : decode cX11_rows 172 = .ok (.laload, 1) := by decide +kernel
theorem dX11_rows_173 : decode cX11_rows 173 = .ok (.aload_n 0, 1) := by decide +kernel
theorem dX11_rows_174 : decode cX11_rows 174 = .ok (.getfield 53, 3) := by decide +kernel
theorem dX11_rows_177 : decode cX11_rows 177 = .ok (.aload_n 0, 1) := by decide +kernel
theorem dX11_rows_178 : decode cX11_rows 178 = .ok (.getfield 40, 3) := by decide +kernel
theorem dX11_rows_181 : decode cX11_rows 181 = .ok (.iload 4, 2) := by decide +kernel
theorem dX11_rows_183 : decode cX11_rows 183 = .ok (.iaload, 1) := by decide +kernel
theorem dX11_rows_184 : decode cX11_rows 184 = .ok (.laload, 1) := by decide +kernel
theorem dX11_rows_185 : decode cX11_rows 185 = .ok (.ladd, 1) := by decide +kernel
theorem dX11_rows_186 : decode cX11_rows 186 = .ok (.lastore, 1) := by decide +kernel
theorem dX11_rows_187 : decode cX11_rows 187 = .ok (.iinc 5 1, 3) := by decide +kernel
theorem dX11_rows_190 : decode cX11_rows 190 = .ok (.goto (-87), 3) := by decide +kernel
theorem dX11_rows_193 : decode cX11_rows 193 = .ok (.iinc 4 1, 3) := by decide +kernel
theorem dX11_rows_196 : decode cX11_rows 196 = .ok (.goto (-105), 3) := by decide +kernel
theorem dX11_rows_199 : decode cX11_rows 199 = .ok (.iconst 0, 1) := by decide +kernel
theorem dX11_rows_200 : decode cX11_rows 200 = .ok (.istore 4, 2) := by decide +kernel
theorem dX11_rows_202 : decode cX11_rows 202 = .ok (.iload 4, 2) := by decide +kernel
theorem dX11_rows_204 : decode cX11_rows 204 = .ok (.aload_n 0, 1) := by decide +kernel
theorem dX11_rows_205 : decode cX11_rows 205 = .ok (.getfield 355, 3) := by decide +kernel
theorem dX11_rows_208 : decode cX11_rows 208 = .ok (.if_icmp .ge 46, 3) := by decide +kernel
theorem dX11_rows_211 : decode cX11_rows 211 = .ok (.aload_n 0, 1) := by decide +kernel
theorem dX11_rows_212 : decode cX11_rows 212 = .ok (.getfield 53, 3) := by decide +kernel
theorem dX11_rows_215 : decode cX11_rows 215 = .ok (.aload_n 0, 1) := by decide +kernel
theorem dX11_rows_216 : decode cX11_rows 216 = .ok (.getfield 40, 3) := by decide +kernel
theorem dX11_rows_219 : decode cX11_rows 219 = .ok (.iload 4, 2) := by decide +kernel
theorem dX11_rows_221 : decode cX11_rows 221 = .ok (.iaload, 1) := by decide +kernel
theorem dX11_rows_222 : decode cX11_rows 222 = .ok (.aload_n 0, 1) := by decide +kernel
theorem dX11_rows_223 : decode cX11_rows 223 = .ok (.getfield 57, 3) := by decide +kernel
theorem dX11_rows_226 : decode cX11_rows 226 = .ok (.aload_n 0, 1) := by decide +kernel
theorem dX11_rows_227 : decode cX11_rows 227 = .ok (.getfield 40, 3) := by decide +kernel
theorem dX11_rows_230 : decode cX11_rows 230 = .ok (.iload 4, 2) := by decide +kernel
theorem dX11_rows_232 : decode cX11_rows 232 = .ok (.iaload, 1) := by decide +kernel
theorem dX11_rows_233 : decode cX11_rows 233 = .ok (.laload, 1) := by decide +kernel
theorem dX11_rows_234 : decode cX11_rows 234 = .ok (.lastore, 1) := by decide +kernel
theorem dX11_rows_235 : decode cX11_rows 235 = .ok (.aload_n 0, 1) := by decide +kernel
theorem dX11_rows_236 : decode cX11_rows 236 = .ok (.getfield 57, 3) := by decide +kernel
theorem dX11_rows_239 : decode cX11_rows 239 = .ok (.aload_n 0, 1) := by decide +kernel
theorem dX11_rows_240 : decode cX11_rows 240 = .ok (.getfield 40, 3) := by decide +kernel
theorem dX11_rows_243 : decode cX11_rows 243 = .ok (.iload 4, 2) := by decide +kernel
theorem dX11_rows_245 : decode cX11_rows 245 = .ok (.iaload, 1) := by decide +kernel
theorem dX11_rows_246 : decode cX11_rows 246 = .ok (.lconst 0, 1) := by decide +kernel
theorem dX11_rows_247 : decode cX11_rows 247 = .ok (.lastore, 1) := by decide +kernel
theorem dX11_rows_248 : decode cX11_rows 248 = .ok (.iinc 4 1, 3) := by decide +kernel
theorem dX11_rows_251 : decode cX11_rows 251 = .ok (.goto (-49), 3) := by decide +kernel
theorem dX11_rows_254 : decode cX11_rows 254 = .ok (.iinc 3 1, 3) := by decide +kernel
theorem dX11_rows_257 : decode cX11_rows 257 = .ok (.goto (-174), 3) := by decide +kernel
theorem dX11_rows_260 : decode cX11_rows 260 = .ok (.lconst 0, 1) := by decide +kernel
theorem dX11_rows_261 : decode cX11_rows 261 = .ok (.lstore_n 3, 1) := by decide +kernel
theorem dX11_rows_262 : decode cX11_rows 262 = .ok (.iconst 0, 1) := by decide +kernel
theorem dX11_rows_263 : decode cX11_rows 263 = .ok (.istore 5, 2) := by decide +kernel
theorem dX11_rows_265 : decode cX11_rows 265 = .ok (.iload 5, 2) := by decide +kernel
theorem dX11_rows_267 : decode cX11_rows 267 = .ok (.aload_n 0, 1) := by decide +kernel
theorem dX11_rows_268 : decode cX11_rows 268 = .ok (.getfield 355, 3) := by decide +kernel
theorem dX11_rows_271 : decode cX11_rows 271 = .ok (.if_icmp .ge 44, 3) := by decide +kernel
theorem dX11_rows_274 : decode cX11_rows 274 = .ok (.lload_n 3, 1) := by decide +kernel
theorem dX11_rows_275 : decode cX11_rows 275 = .ok (.aload_n 0, 1) := by decide +kernel
theorem dX11_rows_276 : decode cX11_rows 276 = .ok (.aload_n 0, 1) := by decide +kernel
theorem dX11_rows_277 : decode cX11_rows 277 = .ok (.getfield 40, 3) := by decide +kernel
theorem dX11_rows_280 : decode cX11_rows 280 = .ok (.iload 5, 2) := by decide +kernel
theorem dX11_rows_282 : decode cX11_rows 282 = .ok (.iaload, 1) := by decide +kernel
theorem dX11_rows_283 : decode cX11_rows 283 = .ok (.iload_n 1, 1) := by decide +kernel
theorem dX11_rows_284 : decode cX11_rows 284 = .ok (.iconst 1, 1) := by decide +kernel
theorem dX11_rows_285 : decode cX11_rows 285 = .ok (.invokevirtual 368, 3) := by decide +kernel
theorem dX11_rows_288 : decode cX11_rows 288 = .ok (.ifCond .eq 18, 3) := by decide +kernel
theorem dX11_rows_291 : decode cX11_rows 291 = .ok (.aload_n 0, 1) := by decide +kernel
theorem dX11_rows_292 : decode cX11_rows 292 = .ok (.getfield 53, 3) := by decide +kernel
theorem dX11_rows_295 : decode cX11_rows 295 = .ok (.aload_n 0, 1) := by decide +kernel
theorem dX11_rows_296 : decode cX11_rows 296 = .ok (.getfield 40, 3) := by decide +kernel
theorem dX11_rows_299 : decode cX11_rows 299 = .ok (.iload 5, 2) := by decide +kernel
theorem dX11_rows_301 : decode cX11_rows 301 = .ok (.iaload, 1) := by decide +kernel
theorem dX11_rows_302 : decode cX11_rows 302 = .ok (.laload, 1) := by decide +kernel
theorem dX11_rows_303 : decode cX11_rows 303 = .ok (.goto 4, 3) := by decide +kernel
theorem dX11_rows_306 : decode cX11_rows 306 = .ok (.lconst 0, 1) := by decide +kernel
theorem dX11_rows_307 : decode cX11_rows 307 = .ok (.ladd, 1) := by decide +kernel
theorem dX11_rows_308 : decode cX11_rows 308 = .ok (.lstore_n 3, 1) := by decide +kernel
theorem dX11_rows_309 : decode cX11_rows 309 = .ok (.iinc 5 1, 3) := by decide +kernel
theorem dX11_rows_312 : decode cX11_rows 312 = .ok (.goto (-47), 3) := by decide +kernel
theorem dX11_rows_315 : decode cX11_rows 315 = .ok (.lload_n 3, 1) := by decide +kernel
theorem dX11_rows_316 : decode cX11_rows 316 = .ok (.lreturn, 1) := by decide +kernel
theorem dX11_most_0 : decode cX11_most 0 = .ok (.aload_n 0, 1) := by decide +kernel
theorem dX11_most_1 : decode cX11_most 1 = .ok (.iconst 0, 1) := by decide +kernel
theorem dX11_most_2 : decode cX11_most 2 = .ok (.putfield 1, 3) := by decide +kernel
theorem dX11_most_5 : decode cX11_most 5 = .ok (.aload_n 0, 1) := by decide +kernel
theorem dX11_most_6 : decode cX11_most 6 = .ok (.invokevirtual 365, 3) := by decide +kernel
theorem dX11_most_9 : decode cX11_most 9 = .ok (.iconst 0, 1) := by decide +kernel
theorem dX11_most_10 : decode cX11_most 10 = .ok (.istore_n 1, 1) := by decide +kernel
theorem dX11_most_11 : decode cX11_most 11 = .ok (.iconst 0, 1) := by decide +kernel
theorem dX11_most_12 : decode cX11_most 12 = .ok (.istore_n 2, 1) := by decide +kernel
theorem dX11_most_13 : decode cX11_most 13 = .ok (.iload_n 2, 1) := by decide +kernel
theorem dX11_most_14 : decode cX11_most 14 = .ok (.aload_n 0, 1) := by decide +kernel
theorem dX11_most_15 : decode cX11_most 15 = .ok (.getfield 355, 3) := by decide +kernel
theorem dX11_most_18 : decode cX11_most 18 = .ok (.if_icmp .ge 46, 3) := by decide +kernel
theorem dX11_most_21 : decode cX11_most 21 = .ok (.aload_n 0, 1) := by decide +kernel
theorem dX11_most_22 : decode cX11_most 22 = .ok (.aload_n 0, 1) := by decide +kernel
theorem dX11_most_23 : decode cX11_most 23 = .ok (.getfield 40, 3) := by decide +kernel
theorem dX11_most_26 : decode cX11_most 26 = .ok (.iload_n 2, 1) := by decide +kernel
theorem dX11_most_27 : decode cX11_most 27 = .ok (.iaload, 1) := by decide +kernel
theorem dX11_most_28 : decode cX11_most 28 = .ok (.iconst 1, 1) := by decide +kernel
theorem dX11_most_29 : decode cX11_most 29 = .ok (.invokevirtual 218, 3) := by decide +kernel
theorem dX11_most_32 : decode cX11_most 32 = .ok (.invokestatic 235, 3) := by decide +kernel
theorem dX11_most_35 : decode cX11_most 35 = .ok (.iload_n 1, 1) := by decide +kernel
theorem dX11_most_36 : decode cX11_most 36 = .ok (.if_icmp .le 20, 3) := by decide +kernel
theorem dX11_most_39 : decode cX11_most 39 = .ok (.aload_n 0, 1) := by decide +kernel
theorem dX11_most_40 : decode cX11_most 40 = .ok (.aload_n 0, 1) := by decide +kernel
theorem dX11_most_41 : decode cX11_most 41 = .ok (.getfield 40, 3) := by decide +kernel
theorem dX11_most_44 : decode cX11_most 44 = .ok (.iload_n 2, 1) := by decide +kernel
theorem dX11_most_45 : decode cX11_most 45 = .ok (.iaload, 1) := by decide +kernel
theorem dX11_most_46 : decode cX11_most 46 = .ok (.iconst 1, 1) := by decide +kernel
theorem dX11_most_47 : decode cX11_most 47 = .ok (.invokevirtual 218, 3) := by decide +kernel
theorem dX11_most_50 : decode cX11_most 50 = .ok (.invokestatic 235, 3) := by decide +kernel
theorem dX11_most_53 : decode cX11_most 53 = .ok (.goto 4, 3) := by decide +kernel
theorem dX11_most_56 : decode cX11_most 56 = .ok (.iload_n 1, 1) := by decide +kernel
theorem dX11_most_57 : decode cX11_most 57 = .ok (.istore_n 1, 1) := by decide +kernel
theorem dX11_most_58 : decode cX11_most 58 = .ok (.iinc 2 1, 3) := by decide +kernel
theorem dX11_most_61 : decode cX11_most 61 = .ok (.goto (-48), 3) := by decide +kernel
theorem dX11_most_64 : decode cX11_most 64 = .ok (.iload_n 1, 1) := by decide +kernel
theorem dX11_most_65 : decode cX11_most 65 = .ok (.ireturn, 1) := by decide +kernel
theorem dX11_stands_0 : decode cX11_stands 0 = .ok (.aload_n 0, 1) := by decide +kernel
theorem dX11_stands_1 : decode cX11_stands 1 = .ok (.iconst 0, 1) := by decide +kernel
theorem dX11_stands_2 : decode cX11_stands 2 = .ok (.putfield 1, 3) := by decide +kernel
theorem dX11_stands_5 : decode cX11_stands 5 = .ok (.aload_n 0, 1) := by decide +kernel
theorem dX11_stands_6 : decode cX11_stands 6 = .ok (.invokevirtual 365, 3) := by decide +kernel
theorem dX11_stands_9 : decode cX11_stands 9 = .ok (.aload_n 0, 1) := by decide +kernel
theorem dX11_stands_10 : decode cX11_stands 10 = .ok (.getfield 355, 3) := by decide +kernel
theorem dX11_stands_13 : decode cX11_stands 13 = .ok (.ireturn, 1) := by decide +kernel
theorem dX11_gainOf_0 : decode cX11_gainOf 0 = .ok (.aload_n 0, 1) := by decide +kernel
theorem dX11_gainOf_1 : decode cX11_gainOf 1 = .ok (.aload_n 0, 1) := by decide +kernel
theorem dX11_gainOf_2 : decode cX11_gainOf 2 = .ok (.invokevirtual 270, 3) := by decide +kernel
theorem dX11_gainOf_5 : decode cX11_gainOf 5 = .ok (.iload_n 1, 1) := by decide +kernel
theorem dX11_gainOf_6 : decode cX11_gainOf 6 = .ok (.invokevirtual 263, 3) := by decide +kernel
theorem dX11_gainOf_9 : decode cX11_gainOf 9 = .ok (.istore_n 2, 1) := by decide +kernel
theorem dX11_gainOf_10 : decode cX11_gainOf 10 = .ok (.iconst 0, 1) := by decide +kernel
theorem dX11_gainOf_11 : decode cX11_gainOf 11 = .ok (.istore_n 3, 1) := by decide +kernel
theorem dX11_gainOf_12 : decode cX11_gainOf 12 = .ok (.iconst 0, 1) := by decide +kernel
theorem dX11_gainOf_13 : decode cX11_gainOf 13 = .ok (.istore 4, 2) := by decide +kernel
theorem dX11_gainOf_15 : decode cX11_gainOf 15 = .ok (.iload 4, 2) := by decide +kernel
theorem dX11_gainOf_17 : decode cX11_gainOf 17 = .ok (.aload_n 0, 1) := by decide +kernel
theorem dX11_gainOf_18 : decode cX11_gainOf 18 = .ok (.getfield 13, 3) := by decide +kernel
theorem dX11_gainOf_21 : decode cX11_gainOf 21 = .ok (.iconst 1, 1) := by decide +kernel
theorem dX11_gainOf_22 : decode cX11_gainOf 22 = .ok (.iaload, 1) := by decide +kernel
theorem dX11_gainOf_23 : decode cX11_gainOf 23 = .ok (.if_icmp .ge 36, 3) := by decide +kernel
theorem dX11_gainOf_26 : decode cX11_gainOf 26 = .ok (.iload_n 3, 1) := by decide +kernel
theorem dX11_gainOf_27 : decode cX11_gainOf 27 = .ok (.iload_n 2, 1) := by decide +kernel
theorem dX11_gainOf_28 : decode cX11_gainOf 28 = .ok (.i2l, 1) := by decide +kernel
theorem dX11_gainOf_29 : decode cX11_gainOf 29 = .ok (.iload 4, 2) := by decide +kernel
theorem dX11_gainOf_31 : decode cX11_gainOf 31 = .ok (.invokestatic 221, 3) := by decide +kernel
theorem dX11_gainOf_34 : decode cX11_gainOf 34 = .ok (.ifCond .eq 16, 3) := by decide +kernel
theorem dX11_gainOf_37 : decode cX11_gainOf 37 = .ok (.aload_n 0, 1) := by decide +kernel
theorem dX11_gainOf_38 : decode cX11_gainOf 38 = .ok (.getfield 13, 3) := by decide +kernel
theorem dX11_gainOf_41 : decode cX11_gainOf 41 = .ok (.bipush 42, 2) := by decide +kernel
theorem dX11_gainOf_43 : decode cX11_gainOf 43 = .ok (.iload 4, 2) := by decide +kernel
theorem dX11_gainOf_45 : decode cX11_gainOf 45 = .ok (.iadd, 1) := by decide +kernel
theorem dX11_gainOf_46 : decode cX11_gainOf 46 = .ok (.iaload, 1) := by decide +kernel
theorem dX11_gainOf_47 : decode cX11_gainOf 47 = .ok (.goto 4, 3) := by decide +kernel
theorem dX11_gainOf_50 : decode cX11_gainOf 50 = .ok (.iconst 0, 1) := by decide +kernel
theorem dX11_gainOf_51 : decode cX11_gainOf 51 = .ok (.iadd, 1) := by decide +kernel
theorem dX11_gainOf_52 : decode cX11_gainOf 52 = .ok (.istore_n 3, 1) := by decide +kernel
theorem dX11_gainOf_53 : decode cX11_gainOf 53 = .ok (.iinc 4 1, 3) := by decide +kernel
theorem dX11_gainOf_56 : decode cX11_gainOf 56 = .ok (.goto (-41), 3) := by decide +kernel
theorem dX11_gainOf_59 : decode cX11_gainOf 59 = .ok (.aload_n 0, 1) := by decide +kernel
theorem dX11_gainOf_60 : decode cX11_gainOf 60 = .ok (.getfield 13, 3) := by decide +kernel
theorem dX11_gainOf_63 : decode cX11_gainOf 63 = .ok (.bipush 26, 2) := by decide +kernel
theorem dX11_gainOf_65 : decode cX11_gainOf 65 = .ok (.iload_n 1, 1) := by decide +kernel
theorem dX11_gainOf_66 : decode cX11_gainOf 66 = .ok (.iadd, 1) := by decide +kernel
theorem dX11_gainOf_67 : decode cX11_gainOf 67 = .ok (.iaload, 1) := by decide +kernel
theorem dX11_gainOf_68 : decode cX11_gainOf 68 = .ok (.iload_n 3, 1) := by decide +kernel
theorem dX11_gainOf_69 : decode cX11_gainOf 69 = .ok (.imul, 1) := by decide +kernel
theorem dX11_gainOf_70 : decode cX11_gainOf 70 = .ok (.ireturn, 1) := by decide +kernel
theorem dX11_gain_0 : decode cX11_gain 0 = .ok (.aload_n 0, 1) := by decide +kernel
theorem dX11_gain_1 : decode cX11_gain 1 = .ok (.iconst 0, 1) := by decide +kernel
theorem dX11_gain_2 : decode cX11_gain 2 = .ok (.putfield 1, 3) := by decide +kernel
theorem dX11_gain_5 : decode cX11_gain 5 = .ok (.aload_n 0, 1) := by decide +kernel
theorem dX11_gain_6 : decode cX11_gain 6 = .ok (.iload_n 1, 1) := by decide +kernel
theorem dX11_gain_7 : decode cX11_gain 7 = .ok (.i2l, 1) := by decide +kernel
theorem dX11_gain_8 : decode cX11_gain 8 = .ok (.invokevirtual 266, 3) := by decide +kernel
theorem dX11_gain_11 : decode cX11_gain 11 = .ok (.ifCond .ne 6, 3) := by decide +kernel
theorem dX11_gain_14 : decode cX11_gain 14 = .ok (.bipush (-2), 2) := by decide +kernel
theorem dX11_gain_16 : decode cX11_gain 16 = .ok (.ireturn, 1) := by decide +kernel
theorem dX11_gain_17 : decode cX11_gain 17 = .ok (.aload_n 0, 1) := by decide +kernel
theorem dX11_gain_18 : decode cX11_gain 18 = .ok (.invokevirtual 270, 3) := by decide +kernel
theorem dX11_gain_21 : decode cX11_gain 21 = .ok (.iload_n 1, 1) := by decide +kernel
theorem dX11_gain_22 : decode cX11_gain 22 = .ok (.invokestatic 255, 3) := by decide +kernel
theorem dX11_gain_25 : decode cX11_gain 25 = .ok (.ifCond .eq 11, 3) := by decide +kernel
theorem dX11_gain_28 : decode cX11_gain 28 = .ok (.aload_n 0, 1) := by decide +kernel
theorem dX11_gain_29 : decode cX11_gain 29 = .ok (.iload_n 1, 1) := by decide +kernel
theorem dX11_gain_30 : decode cX11_gain 30 = .ok (.invokevirtual 402, 3) := by decide +kernel
theorem dX11_gain_33 : decode cX11_gain 33 = .ok (.goto 5, 3) := by decide +kernel
theorem dX11_gain_36 : decode cX11_gain 36 = .ok (.bipush (-5), 2) := by decide +kernel
theorem dX11_gain_38 : decode cX11_gain 38 = .ok (.ireturn, 1) := by decide +kernel
theorem dX11_pack_0 : decode cX11_pack 0 = .ok (.aload_n 0, 1) := by decide +kernel
theorem dX11_pack_1 : decode cX11_pack 1 = .ok (.iconst 0, 1) := by decide +kernel
theorem dX11_pack_2 : decode cX11_pack 2 = .ok (.putfield 1, 3) := by decide +kernel
theorem dX11_pack_5 : decode cX11_pack 5 = .ok (.iload_n 1, 1) := by decide +kernel
theorem dX11_pack_6 : decode cX11_pack 6 = .ok (.i2l, 1) := by decide +kernel
theorem dX11_pack_7 : decode cX11_pack 7 = .ok (.lconst 0, 1) := by decide +kernel
theorem dX11_pack_8 : decode cX11_pack 8 = .ok (.lconst 1, 1) := by decide +kernel
theorem dX11_pack_9 : decode cX11_pack 9 = .ok (.invokestatic 150, 3) := by decide +kernel
theorem dX11_pack_12 : decode cX11_pack 12 = .ok (.ifCond .ne 6, 3) := by decide +kernel
theorem dX11_pack_15 : decode cX11_pack 15 = .ok (.bipush (-2), 2) := by decide +kernel
theorem dX11_pack_17 : decode cX11_pack 17 = .ok (.ireturn, 1) := by decide +kernel
theorem dX11_pack_18 : decode cX11_pack 18 = .ok (.aload_n 0, 1) := by decide +kernel
theorem dX11_pack_19 : decode cX11_pack 19 = .ok (.aload_n 0, 1) := by decide +kernel
theorem dX11_pack_20 : decode cX11_pack 20 = .ok (.invokevirtual 270, 3) := by decide +kernel
theorem dX11_pack_23 : decode cX11_pack 23 = .ok (.invokevirtual 245, 3) := by decide +kernel
theorem dX11_pack_26 : decode cX11_pack 26 = .ok (.istore_n 2, 1) := by decide +kernel
theorem dX11_pack_27 : decode cX11_pack 27 = .ok (.iconst 0, 1) := by decide +kernel
theorem dX11_pack_28 : decode cX11_pack 28 = .ok (.istore_n 3, 1) := by decide +kernel
theorem dX11_pack_29 : decode cX11_pack 29 = .ok (.iconst 0, 1) := by decide +kernel
theorem dX11_pack_30 : decode cX11_pack 30 = .ok (.istore 4, 2) := by decide +kernel
theorem dX11_pack_32 : decode cX11_pack 32 = .ok (.iconst 1, 1) := by decide +kernel
theorem dX11_pack_33 : decode cX11_pack 33 = .ok (.istore 5, 2) := by decide +kernel
theorem dX11_pack_35 : decode cX11_pack 35 = .ok (.iload 5, 2) := by decide +kernel
theorem dX11_pack_37 : decode cX11_pack 37 = .ok (.iconst 1, 1) := by decide +kernel
theorem dX11_pack_38 : decode cX11_pack 38 = .ok (.aload_n 0, 1) := by decide +kernel
theorem dX11_pack_39 : decode cX11_pack 39 = .ok (.getfield 13, 3) := by decide +kernel
theorem dX11_pack_42 : decode cX11_pack 42 = .ok (.iconst 1, 1) := by decide +kernel
theorem dX11_pack_43 : decode cX11_pack 43 = .ok (.iaload, 1) := by decide +kernel
theorem dX11_pack_44 : decode cX11_pack 44 = .ok (.ishl, 1) := by decide +kernel
theorem dX11_pack_45 : decode cX11_pack 45 = .ok (.if_icmp .ge 102, 3) := by decide +kernel
theorem dX11_pack_48 : decode cX11_pack 48 = .ok (.iload 5, 2) := by decide +kernel
theorem dX11_pack_50 : decode cX11_pack 50 = .ok (.iload_n 2, 1) := by decide +kernel
theorem dX11_pack_51 : decode cX11_pack 51 = .ok (.iconst (-1), 1) := by decide +kernel
theorem dX11_pack_52 : decode cX11_pack 52 = .ok (.ixor, 1) := by decide +kernel
theorem dX11_pack_53 : decode cX11_pack 53 = .ok (.iand, 1) := by decide +kernel
theorem dX11_pack_54 : decode cX11_pack 54 = .ok (.ifCond .ne 87, 3) := by decide +kernel
theorem dX11_pack_57 : decode cX11_pack 57 = .ok (.aload_n 0, 1) := by decide +kernel
theorem dX11_pack_58 : decode cX11_pack 58 = .ok (.iload 5, 2) := by decide +kernel
theorem dX11_pack_60 : decode cX11_pack 60 = .ok (.invokevirtual 228, 3) := by decide +kernel
theorem dX11_pack_63 : decode cX11_pack 63 = .ok (.aload_n 0, 1) := by decide +kernel
theorem dX11_pack_64 : decode cX11_pack 64 = .ok (.getfield 13, 3) := by decide +kernel
theorem dX11_pack_67 : decode cX11_pack 67 = .ok (.iconst 3, 1) := by decide +kernel
theorem dX11_pack_68 : decode cX11_pack 68 = .ok (.iaload, 1) := by decide +kernel
theorem dX11_pack_69 : decode cX11_pack 69 = .ok (.if_icmp .le 6, 3) := by decide +kernel
theorem dX11_pack_72 : decode cX11_pack 72 = .ok (.goto 69, 3) := by decide +kernel
theorem dX11_pack_75 : decode cX11_pack 75 = .ok (.iconst 0, 1) := by decide +kernel
theorem dX11_pack_76 : decode cX11_pack 76 = .ok (.istore 6, 2) := by decide +kernel
theorem dX11_pack_78 : decode cX11_pack 78 = .ok (.iconst 0, 1) := by decide +kernel
theorem dX11_pack_79 : decode cX11_pack 79 = .ok (.istore 7, 2) := by decide +kernel
theorem dX11_pack_81 : decode cX11_pack 81 = .ok (.iload 7, 2) := by decide +kernel
theorem dX11_pack_83 : decode cX11_pack 83 = .ok (.aload_n 0, 1) := by decide +kernel
theorem dX11_pack_84 : decode cX11_pack 84 = .ok (.getfield 13, 3) := by decide +kernel
theorem dX11_pack_87 : decode cX11_pack 87 = .ok (.iconst 1, 1) := by decide +kernel
theorem dX11_pack_88 : decode cX11_pack 88 = .ok (.iaload, 1) := by decide +kernel
theorem dX11_pack_89 : decode cX11_pack 89 = .ok (.if_icmp .ge 35, 3) := by decide +kernel
theorem dX11_pack_92 : decode cX11_pack 92 = .ok (.iload 6, 2) := by decide +kernel
theorem dX11_pack_94 : decode cX11_pack 94 = .ok (.iload 5, 2) := by decide +kernel
theorem dX11_pack_96 : decode cX11_pack 96 = .ok (.i2l, 1) := by decide +kernel
theorem dX11_pack_97 : decode cX11_pack 97 = .ok (.iload 7, 2) := by decide +kernel
theorem dX11_pack_99 : decode cX11_pack 99 = .ok (.invokestatic 221, 3) := by decide +kernel
theorem dX11_pack_102 : decode cX11_pack 102 = .ok (.ifCond .eq 12, 3) := by decide +kernel
theorem dX11_pack_105 : decode cX11_pack 105 = .ok (.aload_n 0, 1) := by decide +kernel
theorem dX11_pack_106 : decode cX11_pack 106 = .ok (.iload 7, 2) := by decide +kernel
theorem dX11_pack_108 : decode cX11_pack 108 = .ok (.invokevirtual 402, 3) := by decide +kernel
theorem dX11_pack_111 : decode cX11_pack 111 = .ok (.goto 4, 3) := by decide +kernel
theorem dX11_pack_114 : decode cX11_pack 114 = .ok (.iconst 0, 1) := by decide +kernel
theorem dX11_pack_115 : decode cX11_pack 115 = .ok (.iadd, 1) := by decide +kernel
theorem dX11_pack_116 : decode cX11_pack 116 = .ok (.istore 6, 2) := by decide +kernel
theorem dX11_pack_118 : decode cX11_pack 118 = .ok (.iinc 7 1, 3) := by decide +kernel
theorem dX11_pack_121 : decode cX11_pack 121 = .ok (.goto (-40), 3) := by decide +kernel
theorem dX11_pack_124 : decode cX11_pack 124 = .ok (.iload 6, 2) := by decide +kernel
theorem dX11_pack_126 : decode cX11_pack 126 = .ok (.iload 4, 2) := by decide +kernel
theorem dX11_pack_128 : decode cX11_pack 128 = .ok (.if_icmp .gt 6, 3) := by decide +kernel
theorem dX11_pack_131 : decode cX11_pack 131 = .ok (.goto 10, 3) := by decide +kernel
theorem dX11_pack_134 : decode cX11_pack 134 = .ok (.iload 5, 2) := by decide +kernel
theorem dX11_pack_136 : decode cX11_pack 136 = .ok (.istore_n 3, 1) := by decide +kernel
theorem dX11_pack_137 : decode cX11_pack 137 = .ok (.iload 6, 2) := by decide +kernel
theorem dX11_pack_139 : decode cX11_pack 139 = .ok (.istore 4, 2) := by decide +kernel
theorem dX11_pack_141 : decode cX11_pack 141 = .ok (.iinc 5 1, 3) := by decide +kernel
theorem dX11_pack_144 : decode cX11_pack 144 = .ok (.goto (-109), 3) := by decide +kernel
theorem dX11_pack_147 : decode cX11_pack 147 = .ok (.iload_n 1, 1) := by decide +kernel
theorem dX11_pack_148 : decode cX11_pack 148 = .ok (.ifCond .ne 8, 3) := by decide +kernel
theorem dX11_pack_151 : decode cX11_pack 151 = .ok (.iload 4, 2) := by decide +kernel
theorem dX11_pack_153 : decode cX11_pack 153 = .ok (.goto 4, 3) := by decide +kernel
theorem dX11_pack_156 : decode cX11_pack 156 = .ok (.iload_n 3, 1) := by decide +kernel
theorem dX11_pack_157 : decode cX11_pack 157 = .ok (.ireturn, 1) := by decide +kernel
theorem dX11_noOrders_0 : decode cX11_noOrders 0 = .ok (.aload_n 0, 1) := by decide +kernel
theorem dX11_noOrders_1 : decode cX11_noOrders 1 = .ok (.iload_n 1, 1) := by decide +kernel
theorem dX11_noOrders_2 : decode cX11_noOrders 2 = .ok (.invokevirtual 336, 3) := by decide +kernel
theorem dX11_noOrders_5 : decode cX11_noOrders 5 = .ok (.istore_n 2, 1) := by decide +kernel
theorem dX11_noOrders_6 : decode cX11_noOrders 6 = .ok (.iload_n 2, 1) := by decide +kernel
theorem dX11_noOrders_7 : decode cX11_noOrders 7 = .ok (.ifCond .eq 5, 3) := by decide +kernel
theorem dX11_noOrders_10 : decode cX11_noOrders 10 = .ok (.iload_n 2, 1) := by decide +kernel
theorem dX11_noOrders_11 : decode cX11_noOrders 11 = .ok (.ireturn, 1) := by decide +kernel
theorem dX11_noOrders_12 : decode cX11_noOrders 12 = .ok (.aload_n 0, 1) := by decide +kernel
theorem dX11_noOrders_13 : decode cX11_noOrders 13 = .ok (.getfield 78, 3) := by decide +kernel
theorem dX11_noOrders_16 : decode cX11_noOrders 16 = .ok (.iload_n 1, 1) := by decide +kernel
theorem dX11_noOrders_17 : decode cX11_noOrders 17 = .ok (.iaload, 1) := by decide +kernel
theorem dX11_noOrders_18 : decode cX11_noOrders 18 = .ok (.bipush 12, 2) := by decide +kernel
theorem dX11_noOrders_20 : decode cX11_noOrders 20 = .ok (.if_icmp .le 6, 3) := by decide +kernel
theorem dX11_noOrders_23 : decode cX11_noOrders 23 = .ok (.bipush (-4), 2) := by decide +kernel
theorem dX11_noOrders_25 : decode cX11_noOrders 25 = .ok (.ireturn, 1) := by decide +kernel
theorem dX11_noOrders_26 : decode cX11_noOrders 26 = .ok (.iconst 0, 1) := by decide +kernel
theorem dX11_noOrders_27 : decode cX11_noOrders 27 = .ok (.istore_n 3, 1) := by decide +kernel
theorem dX11_noOrders_28 : decode cX11_noOrders 28 = .ok (.iload_n 3, 1) := by decide +kernel
theorem dX11_noOrders_29 : decode cX11_noOrders 29 = .ok (.aload_n 0, 1) := by decide +kernel
theorem dX11_noOrders_30 : decode cX11_noOrders 30 = .ok (.getfield 78, 3) := by decide +kernel
theorem dX11_noOrders_33 : decode cX11_noOrders 33 = .ok (.iload_n 1, 1) := by decide +kernel
theorem dX11_noOrders_34 : decode cX11_noOrders 34 = .ok (.iaload, 1) := by decide +kernel
theorem dX11_noOrders_35 : decode cX11_noOrders 35 = .ok (.if_icmp .ge 79, 3) := by decide +kernel
theorem dX11_noOrders_38 : decode cX11_noOrders 38 = .ok (.aload_n 0, 1) := by decide +kernel
theorem dX11_noOrders_39 : decode cX11_noOrders 39 = .ok (.getfield 81, 3) := by decide +kernel
theorem dX11_noOrders_42 : decode cX11_noOrders 42 = .ok (.bipush 40, 2) := by decide +kernel
theorem dX11_noOrders_44 : decode cX11_noOrders 44 = .ok (.iload_n 1, 1) := by decide +kernel
theorem dX11_noOrders_45 : decode cX11_noOrders 45 = .ok (.imul, 1) := by decide +kernel
theorem dX11_noOrders_46 : decode cX11_noOrders 46 = .ok (.iload_n 3, 1) := by decide +kernel
theorem dX11_noOrders_47 : decode cX11_noOrders 47 = .ok (.iadd, 1) := by decide +kernel
theorem dX11_noOrders_48 : decode cX11_noOrders 48 = .ok (.laload, 1) := by decide +kernel
theorem dX11_noOrders_49 : decode cX11_noOrders 49 = .ok (.lstore 4, 2) := by decide +kernel
theorem dX11_noOrders_51 : decode cX11_noOrders 51 = .ok (.lload 4, 2) := by decide +kernel
theorem dX11_noOrders_53 : decode cX11_noOrders 53 = .ok (.lconst 0, 1) := by decide +kernel
theorem dX11_noOrders_54 : decode cX11_noOrders 54 = .ok (.ldc2_w 405, 3) := by decide +kernel
theorem dX11_noOrders_57 : decode cX11_noOrders 57 = .ok (.invokestatic 150, 3) := by decide +kernel
theorem dX11_noOrders_60 : decode cX11_noOrders 60 = .ok (.ifCond .eq 45, 3) := by decide +kernel
theorem dX11_noOrders_63 : decode cX11_noOrders 63 = .ok (.lload 4, 2) := by decide +kernel
theorem dX11_noOrders_65 : decode cX11_noOrders 65 = .ok (.ldc2_w 309, 3) := by decide +kernel
theorem dX11_noOrders_68 : decode cX11_noOrders 68 = .ok (.ldiv, 1) := by decide +kernel
theorem dX11_noOrders_69 : decode cX11_noOrders 69 = .ok (.lload 4, 2) := by decide +kernel
theorem dX11_noOrders_71 : decode cX11_noOrders 71 = .ok (.ldc2_w 309, 3) := by decide +kernel
theorem dX11_noOrders_74 : decode cX11_noOrders 74 = .ok (.lrem, 1) := by decide +kernel
theorem dX11_noOrders_75 : decode cX11_noOrders 75 = .ok (.lcmp, 1) := by decide +kernel
theorem dX11_noOrders_76 : decode cX11_noOrders 76 = .ok (.ifCond .eq 29, 3) := by decide +kernel
theorem dX11_noOrders_79 : decode cX11_noOrders 79 = .ok (.aload_n 0, 1) := by decide +kernel
theorem dX11_noOrders_80 : decode cX11_noOrders 80 = .ok (.lload 4, 2) := by decide +kernel
theorem dX11_noOrders_82 : decode cX11_noOrders 82 = .ok (.ldc2_w 309, 3) := by decide +kernel
theorem dX11_noOrders_85 : decode cX11_noOrders 85 = .ok (.ldiv, 1) := by decide +kernel
theorem dX11_noOrders_86 : decode cX11_noOrders 86 = .ok (.invokevirtual 407, 3) := by decide +kernel
theorem dX11_noOrders_89 : decode cX11_noOrders 89 = .ok (.ifCond .eq 16, 3) := by decide +kernel
theorem dX11_noOrders_92 : decode cX11_noOrders 92 = .ok (.aload_n 0, 1) := by decide +kernel
theorem dX11_noOrders_93 : decode cX11_noOrders 93 = .ok (.lload 4, 2) := by decide +kernel
theorem dX11_noOrders_95 : decode cX11_noOrders 95 = .ok (.ldc2_w 309, 3) := by decide +kernel
theorem dX11_noOrders_98 : decode cX11_noOrders 98 = .ok (.lrem, 1) := by decide +kernel
theorem dX11_noOrders_99 : decode cX11_noOrders 99 = .ok (.invokevirtual 407, 3) := by decide +kernel
theorem dX11_noOrders_102 : decode cX11_noOrders 102 = .ok (.ifCond .ne 6, 3) := by decide +kernel
theorem dX11_noOrders_105 : decode cX11_noOrders 105 = .ok (.bipush (-3), 2) := by decide +kernel
theorem dX11_noOrders_107 : decode cX11_noOrders 107 = .ok (.ireturn, 1) := by decide +kernel
theorem dX11_noOrders_108 : decode cX11_noOrders 108 = .ok (.iinc 3 1, 3) := by decide +kernel
theorem dX11_noOrders_111 : decode cX11_noOrders 111 = .ok (.goto (-83), 3) := by decide +kernel
theorem dX11_noOrders_114 : decode cX11_noOrders 114 = .ok (.iconst 0, 1) := by decide +kernel
theorem dX11_noOrders_115 : decode cX11_noOrders 115 = .ok (.ireturn, 1) := by decide +kernel
theorem dX11_isDoneOne_0 : decode cX11_isDoneOne 0 = .ok (.aload_n 0, 1) := by decide +kernel
theorem dX11_isDoneOne_1 : decode cX11_isDoneOne 1 = .ok (.lload_n 1, 1) := by decide +kernel
theorem dX11_isDoneOne_2 : decode cX11_isDoneOne 2 = .ok (.invokevirtual 266, 3) := by decide +kernel
theorem dX11_isDoneOne_5 : decode cX11_isDoneOne 5 = .ok (.ifCond .eq 19, 3) := by decide +kernel
theorem dX11_isDoneOne_8 : decode cX11_isDoneOne 8 = .ok (.aload_n 0, 1) := by decide +kernel
theorem dX11_isDoneOne_9 : decode cX11_isDoneOne 9 = .ok (.invokevirtual 270, 3) := by decide +kernel
theorem dX11_isDoneOne_12 : decode cX11_isDoneOne 12 = .ok (.lload_n 1, 1) := by decide +kernel
theorem dX11_isDoneOne_13 : decode cX11_isDoneOne 13 = .ok (.l2i, 1) := by decide +kernel
theorem dX11_isDoneOne_14 : decode cX11_isDoneOne 14 = .ok (.invokestatic 255, 3) := by decide +kernel
theorem dX11_isDoneOne_17 : decode cX11_isDoneOne 17 = .ok (.ifCond .eq 7, 3) := by decide +kernel
theorem dX11_isDoneOne_20 : decode cX11_isDoneOne 20 = .ok (.iconst 1, 1) := by decide +kernel
theorem dX11_isDoneOne_21 : decode cX11_isDoneOne 21 = .ok (.goto 4, 3) := by decide +kernel
theorem dX11_isDoneOne_24 : decode cX11_isDoneOne 24 = .ok (.iconst 0, 1) := by decide +kernel
theorem dX11_isDoneOne_25 : decode cX11_isDoneOne 25 = .ok (.ireturn, 1) := by decide +kernel
theorem dX11_laysOrders_0 : decode cX11_laysOrders 0 = .ok (.aload_n 0, 1) := by decide +kernel
theorem dX11_laysOrders_1 : decode cX11_laysOrders 1 = .ok (.aload_n 0, 1) := by decide +kernel
theorem dX11_laysOrders_2 : decode cX11_laysOrders 2 = .ok (.invokevirtual 270, 3) := by decide +kernel
theorem dX11_laysOrders_5 : decode cX11_laysOrders 5 = .ok (.invokevirtual 245, 3) := by decide +kernel
theorem dX11_laysOrders_8 : decode cX11_laysOrders 8 = .ok (.istore 4, 2) := by decide +kernel
theorem dX11_laysOrders_10 : decode cX11_laysOrders 10 = .ok (.iconst 0, 1) := by decide +kernel
theorem dX11_laysOrders_11 : decode cX11_laysOrders 11 = .ok (.istore 5, 2) := by decide +kernel
theorem dX11_laysOrders_13 : decode cX11_laysOrders 13 = .ok (.iload 5, 2) := by decide +kernel
theorem dX11_laysOrders_15 : decode cX11_laysOrders 15 = .ok (.aload_n 0, 1) := by decide +kernel
theorem dX11_laysOrders_16 : decode cX11_laysOrders 16 = .ok (.getfield 13, 3) := by decide +kernel
theorem dX11_laysOrders_19 : decode cX11_laysOrders 19 = .ok (.iconst 1, 1) := by decide +kernel
theorem dX11_laysOrders_20 : decode cX11_laysOrders 20 = .ok (.iaload, 1) := by decide +kernel
theorem dX11_laysOrders_21 : decode cX11_laysOrders 21 = .ok (.if_icmp .ge 26, 3) := by decide +kernel
theorem dX11_laysOrders_24 : decode cX11_laysOrders 24 = .ok (.aload_n 0, 1) := by decide +kernel
theorem dX11_laysOrders_25 : decode cX11_laysOrders 25 = .ok (.getfield 60, 3) := by decide +kernel
theorem dX11_laysOrders_28 : decode cX11_laysOrders 28 = .ok (.iload 5, 2) := by decide +kernel
theorem dX11_laysOrders_30 : decode cX11_laysOrders 30 = .ok (.aload_n 0, 1) := by decide +kernel
theorem dX11_laysOrders_31 : decode cX11_laysOrders 31 = .ok (.getfield 13, 3) := by decide +kernel
theorem dX11_laysOrders_34 : decode cX11_laysOrders 34 = .ok (.bipush 50, 2) := by decide +kernel
theorem dX11_laysOrders_36 : decode cX11_laysOrders 36 = .ok (.iload 5, 2) := by decide +kernel
theorem dX11_laysOrders_38 : decode cX11_laysOrders 38 = .ok (.iadd, 1) := by decide +kernel
theorem dX11_laysOrders_39 : decode cX11_laysOrders 39 = .ok (.iaload, 1) := by decide +kernel
theorem dX11_laysOrders_40 : decode cX11_laysOrders 40 = .ok (.iastore, 1) := by decide +kernel
theorem dX11_laysOrders_41 : decode cX11_laysOrders 41 = .ok (.iinc 5 1, 3) := by decide +kernel
theorem dX11_laysOrders_44 : decode cX11_laysOrders 44 = .ok (.goto (-31), 3) := by decide +kernel
theorem dX11_laysOrders_47 : decode cX11_laysOrders 47 = .ok (.iconst 0, 1) := by decide +kernel
theorem dX11_laysOrders_48 : decode cX11_laysOrders 48 = .ok (.istore 5, 2) := by decide +kernel
theorem dX11_laysOrders_50 : decode cX11_laysOrders 50 = .ok (.iload 5, 2) := by decide +kernel
theorem dX11_laysOrders_52 : decode cX11_laysOrders 52 = .ok (.aload_n 0, 1) := by decide +kernel
theorem dX11_laysOrders_53 : decode cX11_laysOrders 53 = .ok (.getfield 78, 3) := by decide +kernel
theorem dX11_laysOrders_56 : decode cX11_laysOrders 56 = .ok (.iload_n 1, 1) := by decide +kernel
theorem dX11_laysOrders_57 : decode cX11_laysOrders 57 = .ok (.iaload, 1) := by decide +kernel
theorem dX11_laysOrders_58 : decode cX11_laysOrders 58 = .ok (.if_icmp .ge 51, 3) := by decide +kernel
theorem dX11_laysOrders_61 : decode cX11_laysOrders 61 = .ok (.aload_n 0, 1) := by decide +kernel
theorem dX11_laysOrders_62 : decode cX11_laysOrders 62 = .ok (.getfield 60, 3) := by decide +kernel
theorem dX11_laysOrders_65 : decode cX11_laysOrders 65 = .ok (.aload_n 0, 1) := by decide +kernel
theorem dX11_laysOrders_66 : decode cX11_laysOrders 66 = .ok (.getfield 81, 3) := by decide +kernel
theorem dX11_laysOrders_69 : decode cX11_laysOrders 69 = .ok (.bipush 40, 2) := by decide +kernel
theorem dX11_laysOrders_71 : decode cX11_laysOrders 71 = .ok (.iload_n 1, 1) := by decide +kernel
theorem dX11_laysOrders_72 : decode cX11_laysOrders 72 = .ok (.imul, 1) := by decide +kernel
theorem dX11_laysOrders_73 : decode cX11_laysOrders 73 = .ok (.iload 5, 2) := by decide +kernel
theorem dX11_laysOrders_75 : decode cX11_laysOrders 75 = .ok (.iadd, 1) := by decide +kernel
theorem dX11_laysOrders_76 : decode cX11_laysOrders 76 = .ok (.laload, 1) := by decide +kernel
theorem dX11_laysOrders_77 : decode cX11_laysOrders 77 = .ok (.l2i, 1) := by decide +kernel
theorem dX11_laysOrders_78 : decode cX11_laysOrders 78 = .ok (.bipush 10, 2) := by decide +kernel
theorem dX11_laysOrders_80 : decode cX11_laysOrders 80 = .ok (.irem, 1) := by decide +kernel
theorem dX11_laysOrders_81 : decode cX11_laysOrders 81 = .ok (.dup2, 1) := by decide +kernel
theorem dX11_laysOrders_82 : decode cX11_laysOrders 82 = .ok (.iaload, 1) := by decide +kernel
theorem dX11_laysOrders_83 : decode cX11_laysOrders 83 = .ok (.iconst 1, 1) := by decide +kernel
theorem dX11_laysOrders_84 : decode cX11_laysOrders 84 = .ok (.aload_n 0, 1) := by decide +kernel
theorem dX11_laysOrders_85 : decode cX11_laysOrders 85 = .ok (.getfield 81, 3) := by decide +kernel
theorem dX11_laysOrders_88 : decode cX11_laysOrders 88 = .ok (.bipush 40, 2) := by decide +kernel
theorem dX11_laysOrders_90 : decode cX11_laysOrders 90 = .ok (.iload_n 1, 1) := by decide +kernel
theorem dX11_laysOrders_91 : decode cX11_laysOrders 91 = .ok (.imul, 1) := by decide +kernel
theorem dX11_laysOrders_92 : decode cX11_laysOrders 92 = .ok (.iload 5, 2) := by decide +kernel
theorem dX11_laysOrders_94 : decode cX11_laysOrders 94 = .ok (.iadd, 1) := by decide +kernel
theorem dX11_laysOrders_95 : decode cX11_laysOrders 95 = .ok (.laload, 1) := by decide +kernel
theorem dX11_laysOrders_96 : decode cX11_laysOrders 96 = .ok (.l2i, 1) := by decide +kernel
theorem dX11_laysOrders_97 : decode cX11_laysOrders 97 = .ok (.bipush 10, 2) := by decide +kernel
theorem dX11_laysOrders_99 : decode cX11_laysOrders 99 = .ok (.idiv, 1) := by decide +kernel
theorem dX11_laysOrders_100 : decode cX11_laysOrders 100 = .ok (.ishl, 1) := by decide +kernel
theorem dX11_laysOrders_101 : decode cX11_laysOrders 101 = .ok (.ior, 1) := by decide +kernel
theorem dX11_laysOrders_102 : decode cX11_laysOrders 102 = .ok (.iastore, 1) := by decide +kernel
theorem dX11_laysOrders_103 : decode cX11_laysOrders 103 = .ok (.iinc 5 1, 3) := by decide +kernel
theorem dX11_laysOrders_106 : decode cX11_laysOrders 106 = .ok (.goto (-56), 3) := by decide +kernel
theorem dX11_laysOrders_109 : decode cX11_laysOrders 109 = .ok (.iload_n 2, 1) := by decide +kernel
theorem dX11_laysOrders_110 : decode cX11_laysOrders 110 = .ok (.iconst (-1), 1) := by decide +kernel
theorem dX11_laysOrders_111 : decode cX11_laysOrders 111 = .ok (.if_icmp .eq 15, 3) := by decide +kernel
theorem dX11_laysOrders_114 : decode cX11_laysOrders 114 = .ok (.aload_n 0, 1) := by decide +kernel
theorem dX11_laysOrders_115 : decode cX11_laysOrders 115 = .ok (.getfield 60, 3) := by decide +kernel
theorem dX11_laysOrders_118 : decode cX11_laysOrders 118 = .ok (.iload_n 3, 1) := by decide +kernel
theorem dX11_laysOrders_119 : decode cX11_laysOrders 119 = .ok (.dup2, 1) := by decide +kernel
theorem dX11_laysOrders_120 : decode cX11_laysOrders 120 = .ok (.iaload, 1) := by decide +kernel
theorem dX11_laysOrders_121 : decode cX11_laysOrders 121 = .ok (.iconst 1, 1) := by decide +kernel
theorem dX11_laysOrders_122 : decode cX11_laysOrders 122 = .ok (.iload_n 2, 1) := by decide +kernel
theorem dX11_laysOrders_123 : decode cX11_laysOrders 123 = .ok (.ishl, 1) := by decide +kernel
theorem dX11_laysOrders_124 : decode cX11_laysOrders 124 = .ok (.ior, 1) := by decide +kernel
theorem dX11_laysOrders_125 : decode cX11_laysOrders 125 = .ok (.iastore, 1) := by decide +kernel
theorem dX11_laysOrders_126 : decode cX11_laysOrders 126 = .ok (.aload_n 0, 1) := by decide +kernel
theorem dX11_laysOrders_127 : decode cX11_laysOrders 127 = .ok (.getfield 63, 3) := by decide +kernel
theorem dX11_laysOrders_130 : decode cX11_laysOrders 130 = .ok (.iload 4, 2) := by decide +kernel
theorem dX11_laysOrders_132 : decode cX11_laysOrders 132 = .ok (.iconst 1, 1) := by decide +kernel
theorem dX11_laysOrders_133 : decode cX11_laysOrders 133 = .ok (.iastore, 1) := by decide +kernel
theorem dX11_laysOrders_134 : decode cX11_laysOrders 134 = .ok (.iload 4, 2) := by decide +kernel
theorem dX11_laysOrders_136 : decode cX11_laysOrders 136 = .ok (.iconst 1, 1) := by decide +kernel
theorem dX11_laysOrders_137 : decode cX11_laysOrders 137 = .ok (.isub, 1) := by decide +kernel
theorem dX11_laysOrders_138 : decode cX11_laysOrders 138 = .ok (.istore 5, 2) := by decide +kernel
theorem dX11_laysOrders_140 : decode cX11_laysOrders 140 = .ok (.iload 5, 2) := by decide +kernel
theorem dX11_laysOrders_142 : decode cX11_laysOrders 142 = .ok (.ifCond .lt 102, 3) := by decide +kernel
theorem dX11_laysOrders_145 : decode cX11_laysOrders 145 = .ok (.iload 5, 2) := by decide +kernel
theorem dX11_laysOrders_147 : decode cX11_laysOrders 147 = .ok (.iload 4, 2) := by decide +kernel
theorem dX11_laysOrders_149 : decode cX11_laysOrders 149 = .ok (.iconst (-1), 1) := by decide +kernel
theorem dX11_laysOrders_150 : decode cX11_laysOrders 150 = .ok (.ixor, 1) := by decide +kernel
theorem dX11_laysOrders_151 : decode cX11_laysOrders 151 = .ok (.iand, 1) := by decide +kernel
theorem dX11_laysOrders_152 : decode cX11_laysOrders 152 = .ok (.ifCond .eq 6, 3) := by decide +kernel
theorem dX11_laysOrders_155 : decode cX11_laysOrders 155 = .ok (.goto 83, 3) := by decide +kernel
theorem dX11_laysOrders_158 : decode cX11_laysOrders 158 = .ok (.iconst 0, 1) := by decide +kernel
theorem dX11_laysOrders_159 : decode cX11_laysOrders 159 = .ok (.istore 6, 2) := by decide +kernel
theorem dX11_laysOrders_161 : decode cX11_laysOrders 161 = .ok (.iconst 0, 1) := by decide +kernel
theorem dX11_laysOrders_162 : decode cX11_laysOrders 162 = .ok (.istore 7, 2) := by decide +kernel
theorem dX11_laysOrders_164 : decode cX11_laysOrders 164 = .ok (.iload 7, 2) := by decide +kernel
theorem dX11_laysOrders_166 : decode cX11_laysOrders 166 = .ok (.aload_n 0, 1) := by decide +kernel
theorem dX11_laysOrders_167 : decode cX11_laysOrders 167 = .ok (.getfield 13, 3) := by decide +kernel
theorem dX11_laysOrders_170 : decode cX11_laysOrders 170 = .ok (.iconst 1, 1) := by decide +kernel
theorem dX11_laysOrders_171 : decode cX11_laysOrders 171 = .ok (.iaload, 1) := by decide +kernel
theorem dX11_laysOrders_172 : decode cX11_laysOrders 172 = .ok (.if_icmp .ge 57, 3) := by decide +kernel
theorem dX11_laysOrders_175 : decode cX11_laysOrders 175 = .ok (.iload 4, 2) := by decide +kernel
theorem dX11_laysOrders_177 : decode cX11_laysOrders 177 = .ok (.iload 5, 2) := by decide +kernel
theorem dX11_laysOrders_179 : decode cX11_laysOrders 179 = .ok (.iconst (-1), 1) := by decide +kernel
theorem dX11_laysOrders_180 : decode cX11_laysOrders 180 = .ok (.ixor, 1) := by decide +kernel
theorem dX11_laysOrders_181 : decode cX11_laysOrders 181 = .ok (.iand, 1) := by decide +kernel
theorem dX11_laysOrders_182 : decode cX11_laysOrders 182 = .ok (.i2l, 1) := by decide +kernel
theorem dX11_laysOrders_183 : decode cX11_laysOrders 183 = .ok (.iload 7, 2) := by decide +kernel
theorem dX11_laysOrders_185 : decode cX11_laysOrders 185 = .ok (.invokestatic 221, 3) := by decide +kernel
theorem dX11_laysOrders_188 : decode cX11_laysOrders 188 = .ok (.ifCond .eq 35, 3) := by decide +kernel
theorem dX11_laysOrders_191 : decode cX11_laysOrders 191 = .ok (.aload_n 0, 1) := by decide +kernel
theorem dX11_laysOrders_192 : decode cX11_laysOrders 192 = .ok (.getfield 60, 3) := by decide +kernel
theorem dX11_laysOrders_195 : decode cX11_laysOrders 195 = .ok (.iload 7, 2) := by decide +kernel
theorem dX11_laysOrders_197 : decode cX11_laysOrders 197 = .ok (.iaload, 1) := by decide +kernel
theorem dX11_laysOrders_198 : decode cX11_laysOrders 198 = .ok (.iload 5, 2) := by decide +kernel
theorem dX11_laysOrders_200 : decode cX11_laysOrders 200 = .ok (.iconst (-1), 1) := by decide +kernel
theorem dX11_laysOrders_201 : decode cX11_laysOrders 201 = .ok (.ixor, 1) := by decide +kernel
theorem dX11_laysOrders_202 : decode cX11_laysOrders 202 = .ok (.iand, 1) := by decide +kernel
theorem dX11_laysOrders_203 : decode cX11_laysOrders 203 = .ok (.ifCond .ne 20, 3) := by decide +kernel
theorem dX11_laysOrders_206 : decode cX11_laysOrders 206 = .ok (.iload 6, 2) := by decide +kernel
theorem dX11_laysOrders_208 : decode cX11_laysOrders 208 = .ok (.aload_n 0, 1) := by decide +kernel
theorem dX11_laysOrders_209 : decode cX11_laysOrders 209 = .ok (.getfield 63, 3) := by decide +kernel
theorem dX11_laysOrders_212 : decode cX11_laysOrders 212 = .ok (.iload 5, 2) := by decide +kernel
theorem dX11_laysOrders_214 : decode cX11_laysOrders 214 = .ok (.iconst 1, 1) := by decide +kernel
theorem dX11_laysOrders_215 : decode cX11_laysOrders 215 = .ok (.iload 7, 2) := by decide +kernel
theorem dX11_laysOrders_217 : decode cX11_laysOrders 217 = .ok (.ishl, 1) := by decide +kernel
theorem dX11_laysOrders_218 : decode cX11_laysOrders 218 = .ok (.ior, 1) := by decide +kernel
theorem dX11_laysOrders_219 : decode cX11_laysOrders 219 = .ok (.iaload, 1) := by decide +kernel
theorem dX11_laysOrders_220 : decode cX11_laysOrders 220 = .ok (.iadd, 1) := by decide +kernel
theorem dX11_laysOrders_221 : decode cX11_laysOrders 221 = .ok (.istore 6, 2) := by decide +kernel
theorem dX11_laysOrders_223 : decode cX11_laysOrders 223 = .ok (.iinc 7 1, 3) := by decide +kernel
theorem dX11_laysOrders_226 : decode cX11_laysOrders 226 = .ok (.goto (-62), 3) := by decide +kernel
theorem dX11_laysOrders_229 : decode cX11_laysOrders 229 = .ok (.aload_n 0, 1) := by decide +kernel
theorem dX11_laysOrders_230 : decode cX11_laysOrders 230 = .ok (.getfield 63, 3) := by decide +kernel
theorem dX11_laysOrders_233 : decode cX11_laysOrders 233 = .ok (.iload 5, 2) := by decide +kernel
theorem dX11_laysOrders_235 : decode cX11_laysOrders 235 = .ok (.iload 6, 2) := by decide +kernel
theorem dX11_laysOrders_237 : decode cX11_laysOrders 237 = .ok (.iastore, 1) := by decide +kernel
theorem dX11_laysOrders_238 : decode cX11_laysOrders 238 = .ok (.iinc 5 (-1), 3) := by decide +kernel
theorem dX11_laysOrders_241 : decode cX11_laysOrders 241 = .ok (.goto (-101), 3) := by decide +kernel
theorem dX11_laysOrders_244 : decode cX11_laysOrders 244 = .ok (.aload_n 0, 1) := by decide +kernel
theorem dX11_laysOrders_245 : decode cX11_laysOrders 245 = .ok (.getfield 63, 3) := by decide +kernel
theorem dX11_laysOrders_248 : decode cX11_laysOrders 248 = .ok (.iconst 0, 1) := by decide +kernel
theorem dX11_laysOrders_249 : decode cX11_laysOrders 249 = .ok (.iaload, 1) := by decide +kernel
theorem dX11_laysOrders_250 : decode cX11_laysOrders 250 = .ok (.ireturn, 1) := by decide +kernel
theorem dX11_orders_0 : decode cX11_orders 0 = .ok (.aload_n 0, 1) := by decide +kernel
theorem dX11_orders_1 : decode cX11_orders 1 = .ok (.iconst 0, 1) := by decide +kernel
theorem dX11_orders_2 : decode cX11_orders 2 = .ok (.putfield 1, 3) := by decide +kernel
theorem dX11_orders_5 : decode cX11_orders 5 = .ok (.aload_n 0, 1) := by decide +kernel
theorem dX11_orders_6 : decode cX11_orders 6 = .ok (.iload_n 1, 1) := by decide +kernel
theorem dX11_orders_7 : decode cX11_orders 7 = .ok (.invokevirtual 410, 3) := by decide +kernel
theorem dX11_orders_10 : decode cX11_orders 10 = .ok (.istore_n 2, 1) := by decide +kernel
theorem dX11_orders_11 : decode cX11_orders 11 = .ok (.iload_n 2, 1) := by decide +kernel
theorem dX11_orders_12 : decode cX11_orders 12 = .ok (.ifCond .eq 7, 3) := by decide +kernel
theorem dX11_orders_15 : decode cX11_orders 15 = .ok (.iload_n 2, 1) := by decide +kernel
theorem dX11_orders_16 : decode cX11_orders 16 = .ok (.goto 10, 3) := by decide +kernel
theorem dX11_orders_19 : decode cX11_orders 19 = .ok (.aload_n 0, 1) := by decide +kernel
theorem dX11_orders_20 : decode cX11_orders 20 = .ok (.iload_n 1, 1) := by decide +kernel
theorem dX11_orders_21 : decode cX11_orders 21 = .ok (.iconst (-1), 1) := by decide +kernel
theorem dX11_orders_22 : decode cX11_orders 22 = .ok (.iconst (-1), 1) := by decide +kernel
theorem dX11_orders_23 : decode cX11_orders 23 = .ok (.invokevirtual 413, 3) := by decide +kernel
theorem dX11_orders_26 : decode cX11_orders 26 = .ok (.ireturn, 1) := by decide +kernel
theorem dX11_order_0 : decode cX11_order 0 = .ok (.aload_n 0, 1) := by decide +kernel
theorem dX11_order_1 : decode cX11_order 1 = .ok (.iconst 0, 1) := by decide +kernel
theorem dX11_order_2 : decode cX11_order 2 = .ok (.putfield 1, 3) := by decide +kernel
theorem dX11_order_5 : decode cX11_order 5 = .ok (.aload_n 0, 1) := by decide +kernel
theorem dX11_order_6 : decode cX11_order 6 = .ok (.iload_n 1, 1) := by decide +kernel
theorem dX11_order_7 : decode cX11_order 7 = .ok (.invokevirtual 410, 3) := by decide +kernel
theorem dX11_order_10 : decode cX11_order 10 = .ok (.istore_n 3, 1) := by decide +kernel
theorem dX11_order_11 : decode cX11_order 11 = .ok (.iload_n 3, 1) := by decide +kernel
theorem dX11_order_12 : decode cX11_order 12 = .ok (.ifCond .eq 5, 3) := by decide +kernel
theorem dX11_order_15 : decode cX11_order 15 = .ok (.iload_n 3, 1) := by decide +kernel
theorem dX11_order_16 : decode cX11_order 16 = .ok (.ireturn, 1) := by decide +kernel
theorem dX11_order_17 : decode cX11_order 17 = .ok (.iload_n 2, 1) := by decide +kernel
theorem dX11_order_18 : decode cX11_order 18 = .ok (.ifCond .ge 6, 3) := by decide +kernel
theorem dX11_order_21 : decode cX11_order 21 = .ok (.bipush (-3), 2) := by decide +kernel
theorem dX11_order_23 : decode cX11_order 23 = .ok (.ireturn, 1) := by decide +kernel
theorem dX11_order_24 : decode cX11_order 24 = .ok (.aload_n 0, 1) := by decide +kernel
theorem dX11_order_25 : decode cX11_order 25 = .ok (.aload_n 0, 1) := by decide +kernel
theorem dX11_order_26 : decode cX11_order 26 = .ok (.invokevirtual 270, 3) := by decide +kernel
theorem dX11_order_29 : decode cX11_order 29 = .ok (.invokevirtual 245, 3) := by decide +kernel
theorem dX11_order_32 : decode cX11_order 32 = .ok (.istore 4, 2) := by decide +kernel
theorem dX11_order_34 : decode cX11_order 34 = .ok (.aload_n 0, 1) := by decide +kernel
theorem dX11_order_35 : decode cX11_order 35 = .ok (.iload_n 1, 1) := by decide +kernel
theorem dX11_order_36 : decode cX11_order 36 = .ok (.iconst (-1), 1) := by decide +kernel
theorem dX11_order_37 : decode cX11_order 37 = .ok (.iconst (-1), 1) := by decide +kernel
theorem dX11_order_38 : decode cX11_order 38 = .ok (.invokevirtual 413, 3) := by decide +kernel
theorem dX11_order_41 : decode cX11_order 41 = .ok (.ifCond .ne 5, 3) := by decide +kernel
theorem dX11_order_44 : decode cX11_order 44 = .ok (.iconst (-1), 1) := by decide +kernel
theorem dX11_order_45 : decode cX11_order 45 = .ok (.ireturn, 1) := by decide +kernel
theorem dX11_order_46 : decode cX11_order 46 = .ok (.iconst 0, 1) := by decide +kernel
theorem dX11_order_47 : decode cX11_order 47 = .ok (.istore 5, 2) := by decide +kernel
theorem dX11_order_49 : decode cX11_order 49 = .ok (.iconst 0, 1) := by decide +kernel
theorem dX11_order_50 : decode cX11_order 50 = .ok (.istore 6, 2) := by decide +kernel
theorem dX11_order_52 : decode cX11_order 52 = .ok (.iload 5, 2) := by decide +kernel
theorem dX11_order_54 : decode cX11_order 54 = .ok (.iload 4, 2) := by decide +kernel
theorem dX11_order_56 : decode cX11_order 56 = .ok (.if_icmp .eq 82, 3) := by decide +kernel
theorem dX11_order_59 : decode cX11_order 59 = .ok (.iconst 0, 1) := by decide +kernel
theorem dX11_order_60 : decode cX11_order 60 = .ok (.istore 7, 2) := by decide +kernel
theorem dX11_order_62 : decode cX11_order 62 = .ok (.iload 4, 2) := by decide +kernel
theorem dX11_order_64 : decode cX11_order 64 = .ok (.iload 5, 2) := by decide +kernel
theorem dX11_order_66 : decode cX11_order 66 = .ok (.iconst (-1), 1) := by decide +kernel
theorem dX11_order_67 : decode cX11_order 67 = .ok (.ixor, 1) := by decide +kernel
theorem dX11_order_68 : decode cX11_order 68 = .ok (.iand, 1) := by decide +kernel
theorem dX11_order_69 : decode cX11_order 69 = .ok (.i2l, 1) := by decide +kernel
theorem dX11_order_70 : decode cX11_order 70 = .ok (.iload 7, 2) := by decide +kernel
theorem dX11_order_72 : decode cX11_order 72 = .ok (.invokestatic 221, 3) := by decide +kernel
theorem dX11_order_75 : decode cX11_order 75 = .ok (.ifCond .eq 33, 3) := by decide +kernel
theorem dX11_order_78 : decode cX11_order 78 = .ok (.aload_n 0, 1) := by decide +kernel
theorem dX11_order_79 : decode cX11_order 79 = .ok (.getfield 60, 3) := by decide +kernel
theorem dX11_order_82 : decode cX11_order 82 = .ok (.iload 7, 2) := by decide +kernel
theorem dX11_order_84 : decode cX11_order 84 = .ok (.iaload, 1) := by decide +kernel
theorem dX11_order_85 : decode cX11_order 85 = .ok (.iload 5, 2) := by decide +kernel
theorem dX11_order_87 : decode cX11_order 87 = .ok (.iconst (-1), 1) := by decide +kernel
theorem dX11_order_88 : decode cX11_order 88 = .ok (.ixor, 1) := by decide +kernel
theorem dX11_order_89 : decode cX11_order 89 = .ok (.iand, 1) := by decide +kernel
theorem dX11_order_90 : decode cX11_order 90 = .ok (.ifCond .ne 18, 3) := by decide +kernel
theorem dX11_order_93 : decode cX11_order 93 = .ok (.aload_n 0, 1) := by decide +kernel
theorem dX11_order_94 : decode cX11_order 94 = .ok (.getfield 63, 3) := by decide +kernel
theorem dX11_order_97 : decode cX11_order 97 = .ok (.iload 5, 2) := by decide +kernel
theorem dX11_order_99 : decode cX11_order 99 = .ok (.iconst 1, 1) := by decide +kernel
theorem dX11_order_100 : decode cX11_order 100 = .ok (.iload 7, 2) := by decide +kernel
theorem dX11_order_102 : decode cX11_order 102 = .ok (.ishl, 1) := by decide +kernel
theorem dX11_order_103 : decode cX11_order 103 = .ok (.ior, 1) := by decide +kernel
theorem dX11_order_104 : decode cX11_order 104 = .ok (.iaload, 1) := by decide +kernel
theorem dX11_order_105 : decode cX11_order 105 = .ok (.ifCond .ne 9, 3) := by decide +kernel
theorem dX11_order_108 : decode cX11_order 108 = .ok (.iinc 7 1, 3) := by decide +kernel
theorem dX11_order_111 : decode cX11_order 111 = .ok (.goto (-49), 3) := by decide +kernel
theorem dX11_order_114 : decode cX11_order 114 = .ok (.iload 6, 2) := by decide +kernel
theorem dX11_order_116 : decode cX11_order 116 = .ok (.iload_n 2, 1) := by decide +kernel
theorem dX11_order_117 : decode cX11_order 117 = .ok (.if_icmp .ne 6, 3) := by decide +kernel
theorem dX11_order_120 : decode cX11_order 120 = .ok (.iload 7, 2) := by decide +kernel
theorem dX11_order_122 : decode cX11_order 122 = .ok (.ireturn, 1) := by decide +kernel
theorem dX11_order_123 : decode cX11_order 123 = .ok (.iload 5, 2) := by decide +kernel
theorem dX11_order_125 : decode cX11_order 125 = .ok (.iconst 1, 1) := by decide +kernel
theorem dX11_order_126 : decode cX11_order 126 = .ok (.iload 7, 2) := by decide +kernel
theorem dX11_order_128 : decode cX11_order 128 = .ok (.ishl, 1) := by decide +kernel
theorem dX11_order_129 : decode cX11_order 129 = .ok (.ior, 1) := by decide +kernel
theorem dX11_order_130 : decode cX11_order 130 = .ok (.istore 5, 2) := by decide +kernel
theorem dX11_order_132 : decode cX11_order 132 = .ok (.iinc 6 1, 3) := by decide +kernel
theorem dX11_order_135 : decode cX11_order 135 = .ok (.goto (-83), 3) := by decide +kernel
theorem dX11_order_138 : decode cX11_order 138 = .ok (.iconst (-1), 1) := by decide +kernel
theorem dX11_order_139 : decode cX11_order 139 = .ok (.ireturn, 1) := by decide +kernel
theorem dX11_ahead_0 : decode cX11_ahead 0 = .ok (.aload_n 0, 1) := by decide +kernel
theorem dX11_ahead_1 : decode cX11_ahead 1 = .ok (.iconst 0, 1) := by decide +kernel
theorem dX11_ahead_2 : decode cX11_ahead 2 = .ok (.putfield 1, 3) := by decide +kernel
theorem dX11_ahead_5 : decode cX11_ahead 5 = .ok (.iload_n 1, 1) := by decide +kernel
theorem dX11_ahead_6 : decode cX11_ahead 6 = .ok (.i2l, 1) := by decide +kernel
theorem dX11_ahead_7 : decode cX11_ahead 7 = .ok (.lconst 0, 1) := by decide +kernel
theorem dX11_ahead_8 : decode cX11_ahead 8 = .ok (.ldc2_w 334, 3) := by decide +kernel
theorem dX11_ahead_11 : decode cX11_ahead 11 = .ok (.invokestatic 150, 3) := by decide +kernel
theorem dX11_ahead_14 : decode cX11_ahead 14 = .ok (.ifCond .eq 26, 3) := by decide +kernel
theorem dX11_ahead_17 : decode cX11_ahead 17 = .ok (.aload_n 0, 1) := by decide +kernel
theorem dX11_ahead_18 : decode cX11_ahead 18 = .ok (.iload_n 2, 1) := by decide +kernel
theorem dX11_ahead_19 : decode cX11_ahead 19 = .ok (.i2l, 1) := by decide +kernel
theorem dX11_ahead_20 : decode cX11_ahead 20 = .ok (.invokevirtual 266, 3) := by decide +kernel
theorem dX11_ahead_23 : decode cX11_ahead 23 = .ok (.ifCond .eq 17, 3) := by decide +kernel
theorem dX11_ahead_26 : decode cX11_ahead 26 = .ok (.aload_n 0, 1) := by decide +kernel
theorem dX11_ahead_27 : decode cX11_ahead 27 = .ok (.iload_n 3, 1) := by decide +kernel
theorem dX11_ahead_28 : decode cX11_ahead 28 = .ok (.i2l, 1) := by decide +kernel
theorem dX11_ahead_29 : decode cX11_ahead 29 = .ok (.invokevirtual 266, 3) := by decide +kernel
theorem dX11_ahead_32 : decode cX11_ahead 32 = .ok (.ifCond .eq 8, 3) := by decide +kernel
theorem dX11_ahead_35 : decode cX11_ahead 35 = .ok (.iload_n 2, 1) := by decide +kernel
theorem dX11_ahead_36 : decode cX11_ahead 36 = .ok (.iload_n 3, 1) := by decide +kernel
theorem dX11_ahead_37 : decode cX11_ahead 37 = .ok (.if_icmp .ne 6, 3) := by decide +kernel
theorem dX11_ahead_40 : decode cX11_ahead 40 = .ok (.bipush (-2), 2) := by decide +kernel
theorem dX11_ahead_42 : decode cX11_ahead 42 = .ok (.ireturn, 1) := by decide +kernel
theorem dX11_ahead_43 : decode cX11_ahead 43 = .ok (.aload_n 0, 1) := by decide +kernel
theorem dX11_ahead_44 : decode cX11_ahead 44 = .ok (.iload_n 1, 1) := by decide +kernel
theorem dX11_ahead_45 : decode cX11_ahead 45 = .ok (.invokevirtual 410, 3) := by decide +kernel
theorem dX11_ahead_48 : decode cX11_ahead 48 = .ok (.istore 4, 2) := by decide +kernel
theorem dX11_ahead_50 : decode cX11_ahead 50 = .ok (.iload 4, 2) := by decide +kernel
theorem dX11_ahead_52 : decode cX11_ahead 52 = .ok (.ifCond .eq 6, 3) := by decide +kernel
theorem dX11_ahead_55 : decode cX11_ahead 55 = .ok (.iload 4, 2) := by decide +kernel
theorem dX11_ahead_57 : decode cX11_ahead 57 = .ok (.ireturn, 1) := by decide +kernel
theorem dX11_ahead_58 : decode cX11_ahead 58 = .ok (.aload_n 0, 1) := by decide +kernel
theorem dX11_ahead_59 : decode cX11_ahead 59 = .ok (.iload_n 2, 1) := by decide +kernel
theorem dX11_ahead_60 : decode cX11_ahead 60 = .ok (.i2l, 1) := by decide +kernel
theorem dX11_ahead_61 : decode cX11_ahead 61 = .ok (.invokevirtual 407, 3) := by decide +kernel
theorem dX11_ahead_64 : decode cX11_ahead 64 = .ok (.ifCond .eq 22, 3) := by decide +kernel
theorem dX11_ahead_67 : decode cX11_ahead 67 = .ok (.aload_n 0, 1) := by decide +kernel
theorem dX11_ahead_68 : decode cX11_ahead 68 = .ok (.iload_n 3, 1) := by decide +kernel
theorem dX11_ahead_69 : decode cX11_ahead 69 = .ok (.i2l, 1) := by decide +kernel
theorem dX11_ahead_70 : decode cX11_ahead 70 = .ok (.invokevirtual 407, 3) := by decide +kernel
theorem dX11_ahead_73 : decode cX11_ahead 73 = .ok (.ifCond .eq 13, 3) := by decide +kernel
theorem dX11_ahead_76 : decode cX11_ahead 76 = .ok (.aload_n 0, 1) := by decide +kernel
theorem dX11_ahead_77 : decode cX11_ahead 77 = .ok (.iload_n 1, 1) := by decide +kernel
theorem dX11_ahead_78 : decode cX11_ahead 78 = .ok (.iload_n 2, 1) := by decide +kernel
theorem dX11_ahead_79 : decode cX11_ahead 79 = .ok (.iload_n 3, 1) := by decide +kernel
theorem dX11_ahead_80 : decode cX11_ahead 80 = .ok (.invokevirtual 413, 3) := by decide +kernel
theorem dX11_ahead_83 : decode cX11_ahead 83 = .ok (.goto 5, 3) := by decide +kernel
theorem dX11_ahead_86 : decode cX11_ahead 86 = .ok (.bipush (-5), 2) := by decide +kernel
theorem dX11_ahead_88 : decode cX11_ahead 88 = .ok (.ireturn, 1) := by decide +kernel
theorem dX11_laysJoined_0 : decode cX11_laysJoined 0 = .ok (.aload_n 0, 1) := by decide +kernel
theorem dX11_laysJoined_1 : decode cX11_laysJoined 1 = .ok (.iconst 0, 1) := by decide +kernel
theorem dX11_laysJoined_2 : decode cX11_laysJoined 2 = .ok (.putfield 416, 3) := by decide +kernel
theorem dX11_laysJoined_5 : decode cX11_laysJoined 5 = .ok (.iconst 0, 1) := by decide +kernel
theorem dX11_laysJoined_6 : decode cX11_laysJoined 6 = .ok (.istore_n 1, 1) := by decide +kernel
theorem dX11_laysJoined_7 : decode cX11_laysJoined 7 = .ok (.iload_n 1, 1) := by decide +kernel
theorem dX11_laysJoined_8 : decode cX11_laysJoined 8 = .ok (.aload_n 0, 1) := by decide +kernel
theorem dX11_laysJoined_9 : decode cX11_laysJoined 9 = .ok (.getfield 13, 3) := by decide +kernel
theorem dX11_laysJoined_12 : decode cX11_laysJoined 12 = .ok (.iconst 1, 1) := by decide +kernel
theorem dX11_laysJoined_13 : decode cX11_laysJoined 13 = .ok (.iaload, 1) := by decide +kernel
theorem dX11_laysJoined_14 : decode cX11_laysJoined 14 = .ok (.if_icmp .ge 115, 3) := by decide +kernel
theorem dX11_laysJoined_17 : decode cX11_laysJoined 17 = .ok (.aload_n 0, 1) := by decide +kernel
theorem dX11_laysJoined_18 : decode cX11_laysJoined 18 = .ok (.getfield 69, 3) := by decide +kernel
theorem dX11_laysJoined_21 : decode cX11_laysJoined 21 = .ok (.iload_n 1, 1) := by decide +kernel
theorem dX11_laysJoined_22 : decode cX11_laysJoined 22 = .ok (.iconst (-1), 1) := by decide +kernel
theorem dX11_laysJoined_23 : decode cX11_laysJoined 23 = .ok (.iastore, 1) := by decide +kernel
theorem dX11_laysJoined_24 : decode cX11_laysJoined 24 = .ok (.iconst 0, 1) := by decide +kernel
theorem dX11_laysJoined_25 : decode cX11_laysJoined 25 = .ok (.istore_n 2, 1) := by decide +kernel
theorem dX11_laysJoined_26 : decode cX11_laysJoined 26 = .ok (.iload_n 2, 1) := by decide +kernel
theorem dX11_laysJoined_27 : decode cX11_laysJoined 27 = .ok (.aload_n 0, 1) := by decide +kernel
theorem dX11_laysJoined_28 : decode cX11_laysJoined 28 = .ok (.getfield 13, 3) := by decide +kernel
theorem dX11_laysJoined_31 : decode cX11_laysJoined 31 = .ok (.iconst 2, 1) := by decide +kernel
theorem dX11_laysJoined_32 : decode cX11_laysJoined 32 = .ok (.iaload, 1) := by decide +kernel
theorem dX11_laysJoined_33 : decode cX11_laysJoined 33 = .ok (.if_icmp .ge 90, 3) := by decide +kernel
theorem dX11_laysJoined_36 : decode cX11_laysJoined 36 = .ok (.aload_n 0, 1) := by decide +kernel
theorem dX11_laysJoined_37 : decode cX11_laysJoined 37 = .ok (.getfield 69, 3) := by decide +kernel
theorem dX11_laysJoined_40 : decode cX11_laysJoined 40 = .ok (.iload_n 1, 1) := by decide +kernel
theorem dX11_laysJoined_41 : decode cX11_laysJoined 41 = .ok (.iaload, 1) := by decide +kernel
theorem dX11_laysJoined_42 : decode cX11_laysJoined 42 = .ok (.iconst (-1), 1) := by decide +kernel
theorem dX11_laysJoined_43 : decode cX11_laysJoined 43 = .ok (.if_icmp .ne 80, 3) := by decide +kernel
theorem dX11_laysJoined_46 : decode cX11_laysJoined 46 = .ok (.aload_n 0, 1) := by decide +kernel
theorem dX11_laysJoined_47 : decode cX11_laysJoined 47 = .ok (.getfield 13, 3) := by decide +kernel
theorem dX11_laysJoined_50 : decode cX11_laysJoined 50 = .ok (.bipush 74, 2) := by decide +kernel
theorem dX11_laysJoined_52 : decode cX11_laysJoined 52 = .ok (.iload_n 1, 1) := by decide +kernel
theorem dX11_laysJoined_53 : decode cX11_laysJoined 53 = .ok (.iadd, 1) := by decide +kernel
theorem dX11_laysJoined_54 : decode cX11_laysJoined 54 = .ok (.iaload, 1) := by decide +kernel
theorem dX11_laysJoined_55 : decode cX11_laysJoined 55 = .ok (.iconst 1, 1) := by decide +kernel
theorem dX11_laysJoined_56 : decode cX11_laysJoined 56 = .ok (.if_icmp .ne 67, 3) := by decide +kernel
theorem dX11_laysJoined_59 : decode cX11_laysJoined 59 = .ok (.aload_n 0, 1) := by decide +kernel
theorem dX11_laysJoined_60 : decode cX11_laysJoined 60 = .ok (.getfield 416, 3) := by decide +kernel
theorem dX11_laysJoined_63 : decode cX11_laysJoined 63 = .ok (.i2l, 1) := by decide +kernel
theorem dX11_laysJoined_64 : decode cX11_laysJoined 64 = .ok (.iload_n 2, 1) := by decide +kernel
theorem dX11_laysJoined_65 : decode cX11_laysJoined 65 = .ok (.invokestatic 221, 3) := by decide +kernel
theorem dX11_laysJoined_68 : decode cX11_laysJoined 68 = .ok (.ifCond .ne 49, 3) := by decide +kernel
theorem dX11_laysJoined_71 : decode cX11_laysJoined 71 = .ok (.aload_n 0, 1) := by decide +kernel
theorem dX11_laysJoined_72 : decode cX11_laysJoined 72 = .ok (.getfield 13, 3) := by decide +kernel
theorem dX11_laysJoined_75 : decode cX11_laysJoined 75 = .ok (.bipush 18, 2) := by decide +kernel
theorem dX11_laysJoined_77 : decode cX11_laysJoined 77 = .ok (.iload_n 1, 1) := by decide +kernel
theorem dX11_laysJoined_78 : decode cX11_laysJoined 78 = .ok (.iadd, 1) := by decide +kernel
theorem dX11_laysJoined_79 : decode cX11_laysJoined 79 = .ok (.iaload, 1) := by decide +kernel
theorem dX11_laysJoined_80 : decode cX11_laysJoined 80 = .ok (.aload_n 0, 1) := by decide +kernel
theorem dX11_laysJoined_81 : decode cX11_laysJoined 81 = .ok (.getfield 13, 3) := by decide +kernel
theorem dX11_laysJoined_84 : decode cX11_laysJoined 84 = .ok (.bipush 66, 2) := by decide +kernel
theorem dX11_laysJoined_86 : decode cX11_laysJoined 86 = .ok (.iload_n 2, 1) := by decide +kernel
theorem dX11_laysJoined_87 : decode cX11_laysJoined 87 = .ok (.iadd, 1) := by decide +kernel
theorem dX11_laysJoined_88 : decode cX11_laysJoined 88 = .ok (.iaload, 1) := by decide +kernel
theorem dX11_laysJoined_89 : decode cX11_laysJoined 89 = .ok (.iadd, 1) := by decide +kernel
theorem dX11_laysJoined_90 : decode cX11_laysJoined 90 = .ok (.bipush 9, 2) := by decide +kernel
theorem dX11_laysJoined_92 : decode cX11_laysJoined 92 = .ok (.if_icmp .eq 6, 3) := by decide +kernel
theorem dX11_laysJoined_95 : decode cX11_laysJoined 95 = .ok (.goto 22, 3) := by decide +kernel
theorem dX11_laysJoined_98 : decode cX11_laysJoined 98 = .ok (.aload_n 0, 1) := by decide +kernel
theorem dX11_laysJoined_99 : decode cX11_laysJoined 99 = .ok (.getfield 69, 3) := by decide +kernel
theorem dX11_laysJoined_102 : decode cX11_laysJoined 102 = .ok (.iload_n 1, 1) := by decide +kernel
theorem dX11_laysJoined_103 : decode cX11_laysJoined 103 = .ok (.iload_n 2, 1) := by decide +kernel
theorem dX11_laysJoined_104 : decode cX11_laysJoined 104 = .ok (.iastore, 1) := by decide +kernel
theorem dX11_laysJoined_105 : decode cX11_laysJoined 105 = .ok (.aload_n 0, 1) := by decide +kernel
theorem dX11_laysJoined_106 : decode cX11_laysJoined 106 = .ok (.dup, 1) := by decide +kernel
theorem dX11_laysJoined_107 : decode cX11_laysJoined 107 = .ok (.getfield 416, 3) := by decide +kernel
theorem dX11_laysJoined_110 : decode cX11_laysJoined 110 = .ok (.iconst 1, 1) := by decide +kernel
theorem dX11_laysJoined_111 : decode cX11_laysJoined 111 = .ok (.iload_n 2, 1) := by decide +kernel
theorem dX11_laysJoined_112 : decode cX11_laysJoined 112 = .ok (.ishl, 1) := by decide +kernel
theorem dX11_laysJoined_113 : decode cX11_laysJoined 113 = .ok (.ior, 1) := by decide +kernel
theorem dX11_laysJoined_114 : decode cX11_laysJoined 114 = .ok (.putfield 416, 3) := by decide +kernel
theorem dX11_laysJoined_117 : decode cX11_laysJoined 117 = .ok (.iinc 2 1, 3) := by decide +kernel
theorem dX11_laysJoined_120 : decode cX11_laysJoined 120 = .ok (.goto (-94), 3) := by decide +kernel
theorem dX11_laysJoined_123 : decode cX11_laysJoined 123 = .ok (.iinc 1 1, 3) := by decide +kernel
theorem dX11_laysJoined_126 : decode cX11_laysJoined 126 = .ok (.goto (-119), 3) := by decide +kernel
theorem dX11_laysJoined_129 : decode cX11_laysJoined 129 = .ok (.return_, 1) := by decide +kernel
theorem dX11_isWhat_0 : decode cX11_isWhat 0 = .ok (.iload_n 1, 1) := by decide +kernel
theorem dX11_isWhat_1 : decode cX11_isWhat 1 = .ok (.ifCond .eq 21, 3) := by decide +kernel
theorem dX11_isWhat_4 : decode cX11_isWhat 4 = .ok (.iload_n 1, 1) := by decide +kernel
theorem dX11_isWhat_5 : decode cX11_isWhat 5 = .ok (.bipush 10, 2) := by decide +kernel
theorem dX11_isWhat_7 : decode cX11_isWhat 7 = .ok (.if_icmp .lt 19, 3) := by decide +kernel
theorem dX11_isWhat_10 : decode cX11_isWhat 10 = .ok (.aload_n 0, 1) := by decide +kernel
theorem dX11_isWhat_11 : decode cX11_isWhat 11 = .ok (.iload_n 1, 1) := by decide +kernel
theorem dX11_isWhat_12 : decode cX11_isWhat 12 = .ok (.bipush 10, 2) := by decide +kernel
theorem dX11_isWhat_14 : decode cX11_isWhat 14 = .ok (.isub, 1) := by decide +kernel
theorem dX11_isWhat_15 : decode cX11_isWhat 15 = .ok (.i2l, 1) := by decide +kernel
theorem dX11_isWhat_16 : decode cX11_isWhat 16 = .ok (.invokevirtual 266, 3) := by decide +kernel
theorem dX11_isWhat_19 : decode cX11_isWhat 19 = .ok (.ifCond .eq 7, 3) := by decide +kernel
theorem dX11_isWhat_22 : decode cX11_isWhat 22 = .ok (.iconst 1, 1) := by decide +kernel
theorem dX11_isWhat_23 : decode cX11_isWhat 23 = .ok (.goto 4, 3) := by decide +kernel
theorem dX11_isWhat_26 : decode cX11_isWhat 26 = .ok (.iconst 0, 1) := by decide +kernel
theorem dX11_isWhat_27 : decode cX11_isWhat 27 = .ok (.ireturn, 1) := by decide +kernel
theorem dX11_join_0 : decode cX11_join 0 = .ok (.aload_n 0, 1) := by decide +kernel
theorem dX11_join_1 : decode cX11_join 1 = .ok (.iconst 0, 1) := by decide +kernel
theorem dX11_join_2 : decode cX11_join 2 = .ok (.putfield 1, 3) := by decide +kernel
theorem dX11_join_5 : decode cX11_join 5 = .ok (.aload_n 0, 1) := by decide +kernel
theorem dX11_join_6 : decode cX11_join 6 = .ok (.iload_n 1, 1) := by decide +kernel
theorem dX11_join_7 : decode cX11_join 7 = .ok (.invokevirtual 419, 3) := by decide +kernel
theorem dX11_join_10 : decode cX11_join 10 = .ok (.ifCond .ne 6, 3) := by decide +kernel
theorem dX11_join_13 : decode cX11_join 13 = .ok (.bipush (-2), 2) := by decide +kernel
theorem dX11_join_15 : decode cX11_join 15 = .ok (.ireturn, 1) := by decide +kernel
theorem dX11_join_16 : decode cX11_join 16 = .ok (.aload_n 0, 1) := by decide +kernel
theorem dX11_join_17 : decode cX11_join 17 = .ok (.invokevirtual 422, 3) := by decide +kernel
theorem dX11_join_20 : decode cX11_join 20 = .ok (.iload_n 1, 1) := by decide +kernel
theorem dX11_join_21 : decode cX11_join 21 = .ok (.ifCond .ne 13, 3) := by decide +kernel
theorem dX11_join_24 : decode cX11_join 24 = .ok (.aload_n 0, 1) := by decide +kernel
theorem dX11_join_25 : decode cX11_join 25 = .ok (.getfield 416, 3) := by decide +kernel
theorem dX11_join_28 : decode cX11_join 28 = .ok (.invokestatic 235, 3) := by decide +kernel
theorem dX11_join_31 : decode cX11_join 31 = .ok (.goto 12, 3) := by decide +kernel
theorem dX11_join_34 : decode cX11_join 34 = .ok (.aload_n 0, 1) := by decide +kernel
theorem dX11_join_35 : decode cX11_join 35 = .ok (.getfield 69, 3) := by decide +kernel
theorem dX11_join_38 : decode cX11_join 38 = .ok (.iload_n 1, 1) := by decide +kernel
theorem dX11_join_39 : decode cX11_join 39 = .ok (.bipush 10, 2) := by decide +kernel
theorem dX11_join_41 : decode cX11_join 41 = .ok (.isub, 1) := by decide +kernel
theorem dX11_join_42 : decode cX11_join 42 = .ok (.iaload, 1) := by decide +kernel
theorem dX11_join_43 : decode cX11_join 43 = .ok (.ireturn, 1) := by decide +kernel
theorem dX11_over_0 : decode cX11_over 0 = .ok (.aload_n 0, 1) := by decide +kernel
theorem dX11_over_1 : decode cX11_over 1 = .ok (.iconst 0, 1) := by decide +kernel
theorem dX11_over_2 : decode cX11_over 2 = .ok (.putfield 1, 3) := by decide +kernel
theorem dX11_over_5 : decode cX11_over 5 = .ok (.aload_n 0, 1) := by decide +kernel
theorem dX11_over_6 : decode cX11_over 6 = .ok (.invokevirtual 422, 3) := by decide +kernel
theorem dX11_over_9 : decode cX11_over 9 = .ok (.iconst 1, 1) := by decide +kernel
theorem dX11_over_10 : decode cX11_over 10 = .ok (.aload_n 0, 1) := by decide +kernel
theorem dX11_over_11 : decode cX11_over 11 = .ok (.getfield 13, 3) := by decide +kernel
theorem dX11_over_14 : decode cX11_over 14 = .ok (.iconst 2, 1) := by decide +kernel
theorem dX11_over_15 : decode cX11_over 15 = .ok (.iaload, 1) := by decide +kernel
theorem dX11_over_16 : decode cX11_over 16 = .ok (.ishl, 1) := by decide +kernel
theorem dX11_over_17 : decode cX11_over 17 = .ok (.iconst 1, 1) := by decide +kernel
theorem dX11_over_18 : decode cX11_over 18 = .ok (.isub, 1) := by decide +kernel
theorem dX11_over_19 : decode cX11_over 19 = .ok (.aload_n 0, 1) := by decide +kernel
theorem dX11_over_20 : decode cX11_over 20 = .ok (.getfield 416, 3) := by decide +kernel
theorem dX11_over_23 : decode cX11_over 23 = .ok (.iconst (-1), 1) := by decide +kernel
theorem dX11_over_24 : decode cX11_over 24 = .ok (.ixor, 1) := by decide +kernel
theorem dX11_over_25 : decode cX11_over 25 = .ok (.iand, 1) := by decide +kernel
theorem dX11_over_26 : decode cX11_over 26 = .ok (.ireturn, 1) := by decide +kernel
theorem dX11_noSlips_0 : decode cX11_noSlips 0 = .ok (.aload_n 0, 1) := by decide +kernel
theorem dX11_noSlips_1 : decode cX11_noSlips 1 = .ok (.iload_n 1, 1) := by decide +kernel
theorem dX11_noSlips_2 : decode cX11_noSlips 2 = .ok (.invokevirtual 336, 3) := by decide +kernel
theorem dX11_noSlips_5 : decode cX11_noSlips 5 = .ok (.istore_n 2, 1) := by decide +kernel
theorem dX11_noSlips_6 : decode cX11_noSlips 6 = .ok (.iload_n 2, 1) := by decide +kernel
theorem dX11_noSlips_7 : decode cX11_noSlips 7 = .ok (.ifCond .eq 5, 3) := by decide +kernel
theorem dX11_noSlips_10 : decode cX11_noSlips 10 = .ok (.iload_n 2, 1) := by decide +kernel
theorem dX11_noSlips_11 : decode cX11_noSlips 11 = .ok (.ireturn, 1) := by decide +kernel
theorem dX11_noSlips_12 : decode cX11_noSlips 12 = .ok (.aload_n 0, 1) := by decide +kernel
theorem dX11_noSlips_13 : decode cX11_noSlips 13 = .ok (.getfield 78, 3) := by decide +kernel
theorem dX11_noSlips_16 : decode cX11_noSlips 16 = .ok (.iload_n 1, 1) := by decide +kernel
theorem dX11_noSlips_17 : decode cX11_noSlips 17 = .ok (.iaload, 1) := by decide +kernel
theorem dX11_noSlips_18 : decode cX11_noSlips 18 = .ok (.i2l, 1) := by decide +kernel
theorem dX11_noSlips_19 : decode cX11_noSlips 19 = .ok (.lconst 1, 1) := by decide +kernel
theorem dX11_noSlips_20 : decode cX11_noSlips 20 = .ok (.ldc2_w 425, 3) := by decide +kernel
theorem dX11_noSlips_23 : decode cX11_noSlips 23 = .ok (.invokestatic 150, 3) := by decide +kernel
theorem dX11_noSlips_26 : decode cX11_noSlips 26 = .ok (.ifCond .ne 6, 3) := by decide +kernel
theorem dX11_noSlips_29 : decode cX11_noSlips 29 = .ok (.bipush (-4), 2) := by decide +kernel
theorem dX11_noSlips_31 : decode cX11_noSlips 31 = .ok (.ireturn, 1) := by decide +kernel
theorem dX11_noSlips_32 : decode cX11_noSlips 32 = .ok (.iconst 0, 1) := by decide +kernel
theorem dX11_noSlips_33 : decode cX11_noSlips 33 = .ok (.istore_n 3, 1) := by decide +kernel
theorem dX11_noSlips_34 : decode cX11_noSlips 34 = .ok (.iload_n 3, 1) := by decide +kernel
theorem dX11_noSlips_35 : decode cX11_noSlips 35 = .ok (.aload_n 0, 1) := by decide +kernel
theorem dX11_noSlips_36 : decode cX11_noSlips 36 = .ok (.getfield 78, 3) := by decide +kernel
theorem dX11_noSlips_39 : decode cX11_noSlips 39 = .ok (.iload_n 1, 1) := by decide +kernel
theorem dX11_noSlips_40 : decode cX11_noSlips 40 = .ok (.iaload, 1) := by decide +kernel
theorem dX11_noSlips_41 : decode cX11_noSlips 41 = .ok (.if_icmp .ge 64, 3) := by decide +kernel
theorem dX11_noSlips_44 : decode cX11_noSlips 44 = .ok (.aload_n 0, 1) := by decide +kernel
theorem dX11_noSlips_45 : decode cX11_noSlips 45 = .ok (.getfield 81, 3) := by decide +kernel
theorem dX11_noSlips_48 : decode cX11_noSlips 48 = .ok (.bipush 40, 2) := by decide +kernel
theorem dX11_noSlips_50 : decode cX11_noSlips 50 = .ok (.iload_n 1, 1) := by decide +kernel
theorem dX11_noSlips_51 : decode cX11_noSlips 51 = .ok (.imul, 1) := by decide +kernel
theorem dX11_noSlips_52 : decode cX11_noSlips 52 = .ok (.iload_n 3, 1) := by decide +kernel
theorem dX11_noSlips_53 : decode cX11_noSlips 53 = .ok (.iadd, 1) := by decide +kernel
theorem dX11_noSlips_54 : decode cX11_noSlips 54 = .ok (.laload, 1) := by decide +kernel
theorem dX11_noSlips_55 : decode cX11_noSlips 55 = .ok (.lstore 4, 2) := by decide +kernel
theorem dX11_noSlips_57 : decode cX11_noSlips 57 = .ok (.lload 4, 2) := by decide +kernel
theorem dX11_noSlips_59 : decode cX11_noSlips 59 = .ok (.lconst 0, 1) := by decide +kernel
theorem dX11_noSlips_60 : decode cX11_noSlips 60 = .ok (.ldc2_w 427, 3) := by decide +kernel
theorem dX11_noSlips_63 : decode cX11_noSlips 63 = .ok (.aload_n 0, 1) := by decide +kernel
theorem dX11_noSlips_64 : decode cX11_noSlips 64 = .ok (.getfield 13, 3) := by decide +kernel
theorem dX11_noSlips_67 : decode cX11_noSlips 67 = .ok (.iconst 1, 1) := by decide +kernel
theorem dX11_noSlips_68 : decode cX11_noSlips 68 = .ok (.iaload, 1) := by decide +kernel
theorem dX11_noSlips_69 : decode cX11_noSlips 69 = .ok (.i2l, 1) := by decide +kernel
theorem dX11_noSlips_70 : decode cX11_noSlips 70 = .ok (.lmul, 1) := by decide +kernel
theorem dX11_noSlips_71 : decode cX11_noSlips 71 = .ok (.lconst 1, 1) := by decide +kernel
theorem dX11_noSlips_72 : decode cX11_noSlips 72 = .ok (.lsub, 1) := by decide +kernel
theorem dX11_noSlips_73 : decode cX11_noSlips 73 = .ok (.invokestatic 150, 3) := by decide +kernel
theorem dX11_noSlips_76 : decode cX11_noSlips 76 = .ok (.ifCond .eq 20, 3) := by decide +kernel
theorem dX11_noSlips_79 : decode cX11_noSlips 79 = .ok (.aload_n 0, 1) := by decide +kernel
theorem dX11_noSlips_80 : decode cX11_noSlips 80 = .ok (.getfield 13, 3) := by decide +kernel
theorem dX11_noSlips_83 : decode cX11_noSlips 83 = .ok (.bipush 74, 2) := by decide +kernel
theorem dX11_noSlips_85 : decode cX11_noSlips 85 = .ok (.lload 4, 2) := by decide +kernel
theorem dX11_noSlips_87 : decode cX11_noSlips 87 = .ok (.l2i, 1) := by decide +kernel
theorem dX11_noSlips_88 : decode cX11_noSlips 88 = .ok (.iconst 2, 1) := by decide +kernel
theorem dX11_noSlips_89 : decode cX11_noSlips 89 = .ok (.idiv, 1) := by decide +kernel
theorem dX11_noSlips_90 : decode cX11_noSlips 90 = .ok (.iadd, 1) := by decide +kernel
theorem dX11_noSlips_91 : decode cX11_noSlips 91 = .ok (.iaload, 1) := by decide +kernel
theorem dX11_noSlips_92 : decode cX11_noSlips 92 = .ok (.iconst 3, 1) := by decide +kernel
theorem dX11_noSlips_93 : decode cX11_noSlips 93 = .ok (.if_icmp .eq 6, 3) := by decide +kernel
theorem dX11_noSlips_96 : decode cX11_noSlips 96 = .ok (.bipush (-3), 2) := by decide +kernel
theorem dX11_noSlips_98 : decode cX11_noSlips 98 = .ok (.ireturn, 1) := by decide +kernel
theorem dX11_noSlips_99 : decode cX11_noSlips 99 = .ok (.iinc 3 1, 3) := by decide +kernel
theorem dX11_noSlips_102 : decode cX11_noSlips 102 = .ok (.goto (-68), 3) := by decide +kernel
theorem dX11_noSlips_105 : decode cX11_noSlips 105 = .ok (.iconst 0, 1) := by decide +kernel
theorem dX11_noSlips_106 : decode cX11_noSlips 106 = .ok (.ireturn, 1) := by decide +kernel
theorem dX11_slipsOf_0 : decode cX11_slipsOf 0 = .ok (.iconst 0, 1) := by decide +kernel
theorem dX11_slipsOf_1 : decode cX11_slipsOf 1 = .ok (.istore_n 2, 1) := by decide +kernel
theorem dX11_slipsOf_2 : decode cX11_slipsOf 2 = .ok (.iconst 0, 1) := by decide +kernel
theorem dX11_slipsOf_3 : decode cX11_slipsOf 3 = .ok (.istore_n 3, 1) := by decide +kernel
theorem dX11_slipsOf_4 : decode cX11_slipsOf 4 = .ok (.iload_n 3, 1) := by decide +kernel
theorem dX11_slipsOf_5 : decode cX11_slipsOf 5 = .ok (.bipush 10, 2) := by decide +kernel
theorem dX11_slipsOf_7 : decode cX11_slipsOf 7 = .ok (.if_icmp .ge 101, 3) := by decide +kernel
theorem dX11_slipsOf_10 : decode cX11_slipsOf 10 = .ok (.iconst 1, 1) := by decide +kernel
theorem dX11_slipsOf_11 : decode cX11_slipsOf 11 = .ok (.istore 4, 2) := by decide +kernel
theorem dX11_slipsOf_13 : decode cX11_slipsOf 13 = .ok (.iconst 0, 1) := by decide +kernel
theorem dX11_slipsOf_14 : decode cX11_slipsOf 14 = .ok (.istore 5, 2) := by decide +kernel
theorem dX11_slipsOf_16 : decode cX11_slipsOf 16 = .ok (.iload 5, 2) := by decide +kernel
theorem dX11_slipsOf_18 : decode cX11_slipsOf 18 = .ok (.aload_n 0, 1) := by decide +kernel
theorem dX11_slipsOf_19 : decode cX11_slipsOf 19 = .ok (.getfield 78, 3) := by decide +kernel
theorem dX11_slipsOf_22 : decode cX11_slipsOf 22 = .ok (.iload_n 1, 1) := by decide +kernel
theorem dX11_slipsOf_23 : decode cX11_slipsOf 23 = .ok (.iaload, 1) := by decide +kernel
theorem dX11_slipsOf_24 : decode cX11_slipsOf 24 = .ok (.if_icmp .ge 63, 3) := by decide +kernel
theorem dX11_slipsOf_27 : decode cX11_slipsOf 27 = .ok (.aload_n 0, 1) := by decide +kernel
theorem dX11_slipsOf_28 : decode cX11_slipsOf 28 = .ok (.getfield 81, 3) := by decide +kernel
theorem dX11_slipsOf_31 : decode cX11_slipsOf 31 = .ok (.bipush 40, 2) := by decide +kernel
theorem dX11_slipsOf_33 : decode cX11_slipsOf 33 = .ok (.iload_n 1, 1) := by decide +kernel
theorem dX11_slipsOf_34 : decode cX11_slipsOf 34 = .ok (.imul, 1) := by decide +kernel
theorem dX11_slipsOf_35 : decode cX11_slipsOf 35 = .ok (.iload 5, 2) := by decide +kernel
theorem dX11_slipsOf_37 : decode cX11_slipsOf 37 = .ok (.iadd, 1) := by decide +kernel
theorem dX11_slipsOf_38 : decode cX11_slipsOf 38 = .ok (.laload, 1) := by decide +kernel
theorem dX11_slipsOf_39 : decode cX11_slipsOf 39 = .ok (.l2i, 1) := by decide +kernel
theorem dX11_slipsOf_40 : decode cX11_slipsOf 40 = .ok (.istore 6, 2) := by decide +kernel
theorem dX11_slipsOf_42 : decode cX11_slipsOf 42 = .ok (.iload 4, 2) := by decide +kernel
theorem dX11_slipsOf_44 : decode cX11_slipsOf 44 = .ok (.aload_n 0, 1) := by decide +kernel
theorem dX11_slipsOf_45 : decode cX11_slipsOf 45 = .ok (.aload_n 0, 1) := by decide +kernel
theorem dX11_slipsOf_46 : decode cX11_slipsOf 46 = .ok (.invokevirtual 270, 3) := by decide +kernel
theorem dX11_slipsOf_49 : decode cX11_slipsOf 49 = .ok (.iload 6, 2) := by decide +kernel
theorem dX11_slipsOf_51 : decode cX11_slipsOf 51 = .ok (.iconst 2, 1) := by decide +kernel
theorem dX11_slipsOf_52 : decode cX11_slipsOf 52 = .ok (.idiv, 1) := by decide +kernel
theorem dX11_slipsOf_53 : decode cX11_slipsOf 53 = .ok (.iload_n 3, 1) := by decide +kernel
theorem dX11_slipsOf_54 : decode cX11_slipsOf 54 = .ok (.invokevirtual 259, 3) := by decide +kernel
theorem dX11_slipsOf_57 : decode cX11_slipsOf 57 = .ok (.iload 6, 2) := by decide +kernel
theorem dX11_slipsOf_59 : decode cX11_slipsOf 59 = .ok (.iconst 2, 1) := by decide +kernel
theorem dX11_slipsOf_60 : decode cX11_slipsOf 60 = .ok (.irem, 1) := by decide +kernel
theorem dX11_slipsOf_61 : decode cX11_slipsOf 61 = .ok (.iconst 1, 1) := by decide +kernel
theorem dX11_slipsOf_62 : decode cX11_slipsOf 62 = .ok (.if_icmp .ne 7, 3) := by decide +kernel
theorem dX11_slipsOf_65 : decode cX11_slipsOf 65 = .ok (.iconst 1, 1) := by decide +kernel
theorem dX11_slipsOf_66 : decode cX11_slipsOf 66 = .ok (.goto 4, 3) := by decide +kernel
theorem dX11_slipsOf_69 : decode cX11_slipsOf 69 = .ok (.iconst 0, 1) := by decide +kernel
theorem dX11_slipsOf_70 : decode cX11_slipsOf 70 = .ok (.if_icmp .ne 7, 3) := by decide +kernel
theorem dX11_slipsOf_73 : decode cX11_slipsOf 73 = .ok (.iconst 1, 1) := by decide +kernel
theorem dX11_slipsOf_74 : decode cX11_slipsOf 74 = .ok (.goto 4, 3) := by decide +kernel
theorem dX11_slipsOf_77 : decode cX11_slipsOf 77 = .ok (.iconst 0, 1) := by decide +kernel
theorem dX11_slipsOf_78 : decode cX11_slipsOf 78 = .ok (.iand, 1) := by decide +kernel
theorem dX11_slipsOf_79 : decode cX11_slipsOf 79 = .ok (.istore 4, 2) := by decide +kernel
theorem dX11_slipsOf_81 : decode cX11_slipsOf 81 = .ok (.iinc 5 1, 3) := by decide +kernel
theorem dX11_slipsOf_84 : decode cX11_slipsOf 84 = .ok (.goto (-68), 3) := by decide +kernel
theorem dX11_slipsOf_87 : decode cX11_slipsOf 87 = .ok (.iload_n 2, 1) := by decide +kernel
theorem dX11_slipsOf_88 : decode cX11_slipsOf 88 = .ok (.iload 4, 2) := by decide +kernel
theorem dX11_slipsOf_90 : decode cX11_slipsOf 90 = .ok (.ifCond .eq 9, 3) := by decide +kernel
theorem dX11_slipsOf_93 : decode cX11_slipsOf 93 = .ok (.iconst 1, 1) := by decide +kernel
theorem dX11_slipsOf_94 : decode cX11_slipsOf 94 = .ok (.iload_n 3, 1) := by decide +kernel
theorem dX11_slipsOf_95 : decode cX11_slipsOf 95 = .ok (.ishl, 1) := by decide +kernel
theorem dX11_slipsOf_96 : decode cX11_slipsOf 96 = .ok (.goto 4, 3) := by decide +kernel
theorem dX11_slipsOf_99 : decode cX11_slipsOf 99 = .ok (.iconst 0, 1) := by decide +kernel
theorem dX11_slipsOf_100 : decode cX11_slipsOf 100 = .ok (.ior, 1) := by decide +kernel
theorem dX11_slipsOf_101 : decode cX11_slipsOf 101 = .ok (.istore_n 2, 1) := by decide +kernel
theorem dX11_slipsOf_102 : decode cX11_slipsOf 102 = .ok (.iinc 3 1, 3) := by decide +kernel
theorem dX11_slipsOf_105 : decode cX11_slipsOf 105 = .ok (.goto (-101), 3) := by decide +kernel
theorem dX11_slipsOf_108 : decode cX11_slipsOf 108 = .ok (.iload_n 2, 1) := by decide +kernel
theorem dX11_slipsOf_109 : decode cX11_slipsOf 109 = .ok (.ireturn, 1) := by decide +kernel
theorem dX11_slips_0 : decode cX11_slips 0 = .ok (.aload_n 0, 1) := by decide +kernel
theorem dX11_slips_1 : decode cX11_slips 1 = .ok (.iconst 0, 1) := by decide +kernel
theorem dX11_slips_2 : decode cX11_slips 2 = .ok (.putfield 1, 3) := by decide +kernel
theorem dX11_slips_5 : decode cX11_slips 5 = .ok (.aload_n 0, 1) := by decide +kernel
theorem dX11_slips_6 : decode cX11_slips 6 = .ok (.iload_n 1, 1) := by decide +kernel
theorem dX11_slips_7 : decode cX11_slips 7 = .ok (.invokevirtual 429, 3) := by decide +kernel
theorem dX11_slips_10 : decode cX11_slips 10 = .ok (.istore_n 2, 1) := by decide +kernel
theorem dX11_slips_11 : decode cX11_slips 11 = .ok (.iload_n 2, 1) := by decide +kernel
theorem dX11_slips_12 : decode cX11_slips 12 = .ok (.ifCond .eq 7, 3) := by decide +kernel
theorem dX11_slips_15 : decode cX11_slips 15 = .ok (.iload_n 2, 1) := by decide +kernel
theorem dX11_slips_16 : decode cX11_slips 16 = .ok (.goto 8, 3) := by decide +kernel
theorem dX11_slips_19 : decode cX11_slips 19 = .ok (.aload_n 0, 1) := by decide +kernel
theorem dX11_slips_20 : decode cX11_slips 20 = .ok (.iload_n 1, 1) := by decide +kernel
theorem dX11_slips_21 : decode cX11_slips 21 = .ok (.invokevirtual 432, 3) := by decide +kernel
theorem dX11_slips_24 : decode cX11_slips 24 = .ok (.ireturn, 1) := by decide +kernel
theorem dX11_attempt_0 : decode cX11_attempt 0 = .ok (.aload_n 0, 1) := by decide +kernel
theorem dX11_attempt_1 : decode cX11_attempt 1 = .ok (.iconst 0, 1) := by decide +kernel
theorem dX11_attempt_2 : decode cX11_attempt 2 = .ok (.putfield 1, 3) := by decide +kernel
theorem dX11_attempt_5 : decode cX11_attempt 5 = .ok (.aload_n 0, 1) := by decide +kernel
theorem dX11_attempt_6 : decode cX11_attempt 6 = .ok (.iload_n 1, 1) := by decide +kernel
theorem dX11_attempt_7 : decode cX11_attempt 7 = .ok (.invokevirtual 429, 3) := by decide +kernel
theorem dX11_attempt_10 : decode cX11_attempt 10 = .ok (.istore_n 2, 1) := by decide +kernel
theorem dX11_attempt_11 : decode cX11_attempt 11 = .ok (.iload_n 2, 1) := by decide +kernel
theorem dX11_attempt_12 : decode cX11_attempt 12 = .ok (.ifCond .eq 5, 3) := by decide +kernel
theorem dX11_attempt_15 : decode cX11_attempt 15 = .ok (.iload_n 2, 1) := by decide +kernel
theorem dX11_attempt_16 : decode cX11_attempt 16 = .ok (.ireturn, 1) := by decide +kernel
theorem dX11_attempt_17 : decode cX11_attempt 17 = .ok (.aload_n 0, 1) := by decide +kernel
theorem dX11_attempt_18 : decode cX11_attempt 18 = .ok (.iload_n 1, 1) := by decide +kernel
theorem dX11_attempt_19 : decode cX11_attempt 19 = .ok (.invokevirtual 432, 3) := by decide +kernel
theorem dX11_attempt_22 : decode cX11_attempt 22 = .ok (.istore_n 3, 1) := by decide +kernel
theorem dX11_attempt_23 : decode cX11_attempt 23 = .ok (.iconst (-1), 1) := by decide +kernel
theorem dX11_attempt_24 : decode cX11_attempt 24 = .ok (.istore 4, 2) := by decide +kernel
theorem dX11_attempt_26 : decode cX11_attempt 26 = .ok (.iconst (-1), 1) := by decide +kernel
theorem dX11_attempt_27 : decode cX11_attempt 27 = .ok (.istore 5, 2) := by decide +kernel
theorem dX11_attempt_29 : decode cX11_attempt 29 = .ok (.iconst 0, 1) := by decide +kernel
theorem dX11_attempt_30 : decode cX11_attempt 30 = .ok (.istore 6, 2) := by decide +kernel
theorem dX11_attempt_32 : decode cX11_attempt 32 = .ok (.iload 6, 2) := by decide +kernel
theorem dX11_attempt_34 : decode cX11_attempt 34 = .ok (.aload_n 0, 1) := by decide +kernel
theorem dX11_attempt_35 : decode cX11_attempt 35 = .ok (.getfield 13, 3) := by decide +kernel
theorem dX11_attempt_38 : decode cX11_attempt 38 = .ok (.iconst 1, 1) := by decide +kernel
theorem dX11_attempt_39 : decode cX11_attempt 39 = .ok (.iaload, 1) := by decide +kernel
theorem dX11_attempt_40 : decode cX11_attempt 40 = .ok (.if_icmp .ge 128, 3) := by decide +kernel
theorem dX11_attempt_43 : decode cX11_attempt 43 = .ok (.iload_n 3, 1) := by decide +kernel
theorem dX11_attempt_44 : decode cX11_attempt 44 = .ok (.ifCond .eq 124, 3) := by decide +kernel
theorem dX11_attempt_47 : decode cX11_attempt 47 = .ok (.aload_n 0, 1) := by decide +kernel
theorem dX11_attempt_48 : decode cX11_attempt 48 = .ok (.getfield 13, 3) := by decide +kernel
theorem dX11_attempt_51 : decode cX11_attempt 51 = .ok (.bipush 74, 2) := by decide +kernel
theorem dX11_attempt_53 : decode cX11_attempt 53 = .ok (.iload 6, 2) := by decide +kernel
theorem dX11_attempt_55 : decode cX11_attempt 55 = .ok (.iadd, 1) := by decide +kernel
theorem dX11_attempt_56 : decode cX11_attempt 56 = .ok (.iaload, 1) := by decide +kernel
theorem dX11_attempt_57 : decode cX11_attempt 57 = .ok (.iconst 3, 1) := by decide +kernel
theorem dX11_attempt_58 : decode cX11_attempt 58 = .ok (.if_icmp .eq 6, 3) := by decide +kernel
theorem dX11_attempt_61 : decode cX11_attempt 61 = .ok (.goto 101, 3) := by decide +kernel
theorem dX11_attempt_64 : decode cX11_attempt 64 = .ok (.iconst 0, 1) := by decide +kernel
theorem dX11_attempt_65 : decode cX11_attempt 65 = .ok (.istore 7, 2) := by decide +kernel
theorem dX11_attempt_67 : decode cX11_attempt 67 = .ok (.iconst 0, 1) := by decide +kernel
theorem dX11_attempt_68 : decode cX11_attempt 68 = .ok (.istore 8, 2) := by decide +kernel
theorem dX11_attempt_70 : decode cX11_attempt 70 = .ok (.iload 8, 2) := by decide +kernel
theorem dX11_attempt_72 : decode cX11_attempt 72 = .ok (.bipush 10, 2) := by decide +kernel
theorem dX11_attempt_74 : decode cX11_attempt 74 = .ok (.if_icmp .ge 44, 3) := by decide +kernel
theorem dX11_attempt_77 : decode cX11_attempt 77 = .ok (.iload 7, 2) := by decide +kernel
theorem dX11_attempt_79 : decode cX11_attempt 79 = .ok (.iload_n 3, 1) := by decide +kernel
theorem dX11_attempt_80 : decode cX11_attempt 80 = .ok (.i2l, 1) := by decide +kernel
theorem dX11_attempt_81 : decode cX11_attempt 81 = .ok (.iload 8, 2) := by decide +kernel
theorem dX11_attempt_83 : decode cX11_attempt 83 = .ok (.invokestatic 221, 3) := by decide +kernel
theorem dX11_attempt_86 : decode cX11_attempt 86 = .ok (.ifCond .eq 22, 3) := by decide +kernel
theorem dX11_attempt_89 : decode cX11_attempt 89 = .ok (.aload_n 0, 1) := by decide +kernel
theorem dX11_attempt_90 : decode cX11_attempt 90 = .ok (.aload_n 0, 1) := by decide +kernel
theorem dX11_attempt_91 : decode cX11_attempt 91 = .ok (.invokevirtual 270, 3) := by decide +kernel
theorem dX11_attempt_94 : decode cX11_attempt 94 = .ok (.iload 6, 2) := by decide +kernel
theorem dX11_attempt_96 : decode cX11_attempt 96 = .ok (.iload 8, 2) := by decide +kernel
theorem dX11_attempt_98 : decode cX11_attempt 98 = .ok (.invokevirtual 259, 3) := by decide +kernel
theorem dX11_attempt_101 : decode cX11_attempt 101 = .ok (.ifCond .eq 7, 3) := by decide +kernel
theorem dX11_attempt_104 : decode cX11_attempt 104 = .ok (.iconst 1, 1) := by decide +kernel
theorem dX11_attempt_105 : decode cX11_attempt 105 = .ok (.goto 4, 3) := by decide +kernel
theorem dX11_attempt_108 : decode cX11_attempt 108 = .ok (.iconst 0, 1) := by decide +kernel
theorem dX11_attempt_109 : decode cX11_attempt 109 = .ok (.iadd, 1) := by decide +kernel
theorem dX11_attempt_110 : decode cX11_attempt 110 = .ok (.istore 7, 2) := by decide +kernel
theorem dX11_attempt_112 : decode cX11_attempt 112 = .ok (.iinc 8 1, 3) := by decide +kernel
theorem dX11_attempt_115 : decode cX11_attempt 115 = .ok (.goto (-45), 3) := by decide +kernel
theorem dX11_attempt_118 : decode cX11_attempt 118 = .ok (.iload 7, 2) := by decide +kernel
theorem dX11_attempt_120 : decode cX11_attempt 120 = .ok (.iload_n 3, 1) := by decide +kernel
theorem dX11_attempt_121 : decode cX11_attempt 121 = .ok (.invokestatic 235, 3) := by decide +kernel
theorem dX11_attempt_124 : decode cX11_attempt 124 = .ok (.iload 7, 2) := by decide +kernel
theorem dX11_attempt_126 : decode cX11_attempt 126 = .ok (.isub, 1) := by decide +kernel
theorem dX11_attempt_127 : decode cX11_attempt 127 = .ok (.if_icmp .ge 8, 3) := by decide +kernel
theorem dX11_attempt_130 : decode cX11_attempt 130 = .ok (.iload 7, 2) := by decide +kernel
theorem dX11_attempt_132 : decode cX11_attempt 132 = .ok (.goto 10, 3) := by decide +kernel
theorem dX11_attempt_135 : decode cX11_attempt 135 = .ok (.iload_n 3, 1) := by decide +kernel
theorem dX11_attempt_136 : decode cX11_attempt 136 = .ok (.invokestatic 235, 3) := by decide +kernel
theorem dX11_attempt_139 : decode cX11_attempt 139 = .ok (.iload 7, 2) := by decide +kernel
theorem dX11_attempt_141 : decode cX11_attempt 141 = .ok (.isub, 1) := by decide +kernel
theorem dX11_attempt_142 : decode cX11_attempt 142 = .ok (.istore 8, 2) := by decide +kernel
theorem dX11_attempt_144 : decode cX11_attempt 144 = .ok (.iload 8, 2) := by decide +kernel
theorem dX11_attempt_146 : decode cX11_attempt 146 = .ok (.iload 5, 2) := by decide +kernel
theorem dX11_attempt_148 : decode cX11_attempt 148 = .ok (.if_icmp .gt 6, 3) := by decide +kernel
theorem dX11_attempt_151 : decode cX11_attempt 151 = .ok (.goto 11, 3) := by decide +kernel
theorem dX11_attempt_154 : decode cX11_attempt 154 = .ok (.iload 6, 2) := by decide +kernel
theorem dX11_attempt_156 : decode cX11_attempt 156 = .ok (.istore 4, 2) := by decide +kernel
theorem dX11_attempt_158 : decode cX11_attempt 158 = .ok (.iload 8, 2) := by decide +kernel
theorem dX11_attempt_160 : decode cX11_attempt 160 = .ok (.istore 5, 2) := by decide +kernel
theorem dX11_attempt_162 : decode cX11_attempt 162 = .ok (.iinc 6 1, 3) := by decide +kernel
theorem dX11_attempt_165 : decode cX11_attempt 165 = .ok (.goto (-133), 3) := by decide +kernel
theorem dX11_attempt_168 : decode cX11_attempt 168 = .ok (.iload 4, 2) := by decide +kernel
theorem dX11_attempt_170 : decode cX11_attempt 170 = .ok (.ireturn, 1) := by decide +kernel
theorem dX11_canLie_0 : decode cX11_canLie 0 = .ok (.iconst 0, 1) := by decide +kernel
theorem dX11_canLie_1 : decode cX11_canLie 1 = .ok (.istore_n 3, 1) := by decide +kernel
