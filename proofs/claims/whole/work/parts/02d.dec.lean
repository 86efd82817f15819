theorem dX10_enact_14 : decode cX10_enact 14 = .ok (.aload_n 0, 1) := by decide +kernel
theorem dX10_enact_15 : decode cX10_enact 15 = .ok (.getfield 10, 3) := by decide +kernel
theorem dX10_enact_18 : decode cX10_enact 18 = .ok (.aload_n 0, 1) := by decide +kernel
theorem dX10_enact_19 : decode cX10_enact 19 = .ok (.getfield 47, 3) := by decide +kernel
theorem dX10_enact_22 : decode cX10_enact 22 = .ok (.getfield 120, 3) := by decide +kernel
theorem dX10_enact_25 : decode cX10_enact 25 = .ok (.iload_n 1, 1) := by decide +kernel
theorem dX10_enact_26 : decode cX10_enact 26 = .ok (.bipush 10, 2) := by decide +kernel
theorem dX10_enact_28 : decode cX10_enact 28 = .ok (.imul, 1) := by decide +kernel
theorem dX10_enact_29 : decode cX10_enact 29 = .ok (.iload_n 2, 1) := by decide +kernel
theorem dX10_enact_30 : decode cX10_enact 30 = .ok (.iadd, 1) := by decide +kernel
theorem dX10_enact_31 : decode cX10_enact 31 = .ok (.i2l, 1) := by decide +kernel
theorem dX10_enact_32 : decode cX10_enact 32 = .ok (.invokevirtual 187, 3) := by decide +kernel
theorem dX10_enact_35 : decode cX10_enact 35 = .ok (.istore_n 3, 1) := by decide +kernel
theorem dX10_enact_36 : decode cX10_enact 36 = .ok (.iload_n 3, 1) := by decide +kernel
theorem dX10_enact_37 : decode cX10_enact 37 = .ok (.ifCond .ge 5, 3) := by decide +kernel
theorem dX10_enact_40 : decode cX10_enact 40 = .ok (.iload_n 3, 1) := by decide +kernel
theorem dX10_enact_41 : decode cX10_enact 41 = .ok (.ireturn, 1) := by decide +kernel
theorem dX10_enact_42 : decode cX10_enact 42 = .ok (.aload_n 0, 1) := by decide +kernel
theorem dX10_enact_43 : decode cX10_enact 43 = .ok (.getfield 47, 3) := by decide +kernel
theorem dX10_enact_46 : decode cX10_enact 46 = .ok (.iload_n 3, 1) := by decide +kernel
theorem dX10_enact_47 : decode cX10_enact 47 = .ok (.invokevirtual 191, 3) := by decide +kernel
theorem dX10_enact_50 : decode cX10_enact 50 = .ok (.iconst 0, 1) := by decide +kernel
theorem dX10_enact_51 : decode cX10_enact 51 = .ok (.ireturn, 1) := by decide +kernel
theorem dX10_undo_0 : decode cX10_undo 0 = .ok (.iload_n 1, 1) := by decide +kernel
theorem dX10_undo_1 : decode cX10_undo 1 = .ok (.iconst 1, 1) := by decide +kernel
theorem dX10_undo_2 : decode cX10_undo 2 = .ok (.if_icmp .lt 14, 3) := by decide +kernel
theorem dX10_undo_5 : decode cX10_undo 5 = .ok (.iload_n 1, 1) := by decide +kernel
theorem dX10_undo_6 : decode cX10_undo 6 = .ok (.aload_n 0, 1) := by decide +kernel
theorem dX10_undo_7 : decode cX10_undo 7 = .ok (.getfield 47, 3) := by decide +kernel
theorem dX10_undo_10 : decode cX10_undo 10 = .ok (.getfield 194, 3) := by decide +kernel
theorem dX10_undo_13 : decode cX10_undo 13 = .ok (.if_icmp .le 6, 3) := by decide +kernel
theorem dX10_undo_16 : decode cX10_undo 16 = .ok (.bipush (-3), 2) := by decide +kernel
theorem dX10_undo_18 : decode cX10_undo 18 = .ok (.ireturn, 1) := by decide +kernel
theorem dX10_undo_19 : decode cX10_undo 19 = .ok (.aload_n 0, 1) := by decide +kernel
theorem dX10_undo_20 : decode cX10_undo 20 = .ok (.getfield 47, 3) := by decide +kernel
theorem dX10_undo_23 : decode cX10_undo 23 = .ok (.iload_n 1, 1) := by decide +kernel
theorem dX10_undo_24 : decode cX10_undo 24 = .ok (.invokevirtual 197, 3) := by decide +kernel
theorem dX10_undo_27 : decode cX10_undo 27 = .ok (.aload_n 0, 1) := by decide +kernel
theorem dX10_undo_28 : decode cX10_undo 28 = .ok (.getfield 47, 3) := by decide +kernel
theorem dX10_undo_31 : decode cX10_undo 31 = .ok (.getfield 194, 3) := by decide +kernel
theorem dX10_undo_34 : decode cX10_undo 34 = .ok (.ireturn, 1) := by decide +kernel
theorem dX10_judge_0 : decode cX10_judge 0 = .ok (.iload_n 1, 1) := by decide +kernel
theorem dX10_judge_1 : decode cX10_judge 1 = .ok (.ifCond .lt 17, 3) := by decide +kernel
theorem dX10_judge_4 : decode cX10_judge 4 = .ok (.iload_n 1, 1) := by decide +kernel
theorem dX10_judge_5 : decode cX10_judge 5 = .ok (.iconst 4, 1) := by decide +kernel
theorem dX10_judge_6 : decode cX10_judge 6 = .ok (.if_icmp .ge 12, 3) := by decide +kernel
theorem dX10_judge_9 : decode cX10_judge 9 = .ok (.iload_n 2, 1) := by decide +kernel
theorem dX10_judge_10 : decode cX10_judge 10 = .ok (.ifCond .lt 8, 3) := by decide +kernel
theorem dX10_judge_13 : decode cX10_judge 13 = .ok (.iload_n 2, 1) := by decide +kernel
theorem dX10_judge_14 : decode cX10_judge 14 = .ok (.iconst 3, 1) := by decide +kernel
theorem dX10_judge_15 : decode cX10_judge 15 = .ok (.if_icmp .le 6, 3) := by decide +kernel
theorem dX10_judge_18 : decode cX10_judge 18 = .ok (.bipush (-2), 2) := by decide +kernel
theorem dX10_judge_20 : decode cX10_judge 20 = .ok (.ireturn, 1) := by decide +kernel
theorem dX10_judge_21 : decode cX10_judge 21 = .ok (.aload_n 0, 1) := by decide +kernel
theorem dX10_judge_22 : decode cX10_judge 22 = .ok (.getfield 53, 3) := by decide +kernel
theorem dX10_judge_25 : decode cX10_judge 25 = .ok (.iload_n 1, 1) := by decide +kernel
theorem dX10_judge_26 : decode cX10_judge 26 = .ok (.aaload, 1) := by decide +kernel
theorem dX10_judge_27 : decode cX10_judge 27 = .ok (.getfield 200, 3) := by decide +kernel
theorem dX10_judge_30 : decode cX10_judge 30 = .ok (.ifCond .ne 6, 3) := by decide +kernel
theorem dX10_judge_33 : decode cX10_judge 33 = .ok (.bipush (-6), 2) := by decide +kernel
theorem dX10_judge_35 : decode cX10_judge 35 = .ok (.ireturn, 1) := by decide +kernel
theorem dX10_judge_36 : decode cX10_judge 36 = .ok (.aload_n 0, 1) := by decide +kernel
theorem dX10_judge_37 : decode cX10_judge 37 = .ok (.getfield 53, 3) := by decide +kernel
theorem dX10_judge_40 : decode cX10_judge 40 = .ok (.iload_n 1, 1) := by decide +kernel
theorem dX10_judge_41 : decode cX10_judge 41 = .ok (.aaload, 1) := by decide +kernel
theorem dX10_judge_42 : decode cX10_judge 42 = .ok (.astore_n 3, 1) := by decide +kernel
theorem dX10_judge_43 : decode cX10_judge 43 = .ok (.aload_n 0, 1) := by decide +kernel
theorem dX10_judge_44 : decode cX10_judge 44 = .ok (.getfield 10, 3) := by decide +kernel
theorem dX10_judge_47 : decode cX10_judge 47 = .ok (.aload_n 0, 1) := by decide +kernel
theorem dX10_judge_48 : decode cX10_judge 48 = .ok (.getfield 47, 3) := by decide +kernel
theorem dX10_judge_51 : decode cX10_judge 51 = .ok (.getfield 120, 3) := by decide +kernel
theorem dX10_judge_54 : decode cX10_judge 54 = .ok (.aload_n 3, 1) := by decide +kernel
theorem dX10_judge_55 : decode cX10_judge 55 = .ok (.invokevirtual 204, 3) := by decide +kernel
theorem dX10_judge_58 : decode cX10_judge 58 = .ok (.istore 4, 2) := by decide +kernel
theorem dX10_judge_60 : decode cX10_judge 60 = .ok (.aload_n 0, 1) := by decide +kernel
theorem dX10_judge_61 : decode cX10_judge 61 = .ok (.getfield 10, 3) := by decide +kernel
theorem dX10_judge_64 : decode cX10_judge 64 = .ok (.aload_n 0, 1) := by decide +kernel
theorem dX10_judge_65 : decode cX10_judge 65 = .ok (.getfield 47, 3) := by decide +kernel
theorem dX10_judge_68 : decode cX10_judge 68 = .ok (.getfield 120, 3) := by decide +kernel
theorem dX10_judge_71 : decode cX10_judge 71 = .ok (.aload_n 3, 1) := by decide +kernel
theorem dX10_judge_72 : decode cX10_judge 72 = .ok (.iload 4, 2) := by decide +kernel
theorem dX10_judge_74 : decode cX10_judge 74 = .ok (.invokevirtual 208, 3) := by decide +kernel
theorem dX10_judge_77 : decode cX10_judge 77 = .ok (.istore 5, 2) := by decide +kernel
theorem dX10_judge_79 : decode cX10_judge 79 = .ok (.iload_n 2, 1) := by decide +kernel
theorem dX10_judge_80 : decode cX10_judge 80 = .ok (.tableswitch 80 0 2 #[28, 44, 74], 28) := by decide +kernel
theorem dX10_judge_108 : decode cX10_judge 108 = .ok (.iload 4, 2) := by decide +kernel
theorem dX10_judge_110 : decode cX10_judge 110 = .ok (.aload_n 3, 1) := by decide +kernel
theorem dX10_judge_111 : decode cX10_judge 111 = .ok (.getfield 212, 3) := by decide +kernel
theorem dX10_judge_114 : decode cX10_judge 114 = .ok (.if_icmp .ge 8, 3) := by decide +kernel
theorem dX10_judge_117 : decode cX10_judge 117 = .ok (.iload 4, 2) := by decide +kernel
theorem dX10_judge_119 : decode cX10_judge 119 = .ok (.goto 4, 3) := by decide +kernel
theorem dX10_judge_122 : decode cX10_judge 122 = .ok (.iconst (-1), 1) := by decide +kernel
theorem dX10_judge_123 : decode cX10_judge 123 = .ok (.ireturn, 1) := by decide +kernel
theorem dX10_judge_124 : decode cX10_judge 124 = .ok (.iload 4, 2) := by decide +kernel
theorem dX10_judge_126 : decode cX10_judge 126 = .ok (.aload_n 3, 1) := by decide +kernel
theorem dX10_judge_127 : decode cX10_judge 127 = .ok (.getfield 212, 3) := by decide +kernel
theorem dX10_judge_130 : decode cX10_judge 130 = .ok (.if_icmp .ge 22, 3) := by decide +kernel
theorem dX10_judge_133 : decode cX10_judge 133 = .ok (.aload_n 0, 1) := by decide +kernel
theorem dX10_judge_134 : decode cX10_judge 134 = .ok (.getfield 10, 3) := by decide +kernel
theorem dX10_judge_137 : decode cX10_judge 137 = .ok (.iload 5, 2) := by decide +kernel
theorem dX10_judge_139 : decode cX10_judge 139 = .ok (.aload_n 3, 1) := by decide +kernel
theorem dX10_judge_140 : decode cX10_judge 140 = .ok (.iload 4, 2) := by decide +kernel
theorem dX10_judge_142 : decode cX10_judge 142 = .ok (.invokevirtual 213, 3) := by decide +kernel
theorem dX10_judge_145 : decode cX10_judge 145 = .ok (.invokevirtual 187, 3) := by decide +kernel
theorem dX10_judge_148 : decode cX10_judge 148 = .ok (.ineg, 1) := by decide +kernel
theorem dX10_judge_149 : decode cX10_judge 149 = .ok (.goto 4, 3) := by decide +kernel
theorem dX10_judge_152 : decode cX10_judge 152 = .ok (.iconst 0, 1) := by decide +kernel
theorem dX10_judge_153 : decode cX10_judge 153 = .ok (.ireturn, 1) := by decide +kernel
theorem dX10_judge_154 : decode cX10_judge 154 = .ok (.iload 5, 2) := by decide +kernel
theorem dX10_judge_156 : decode cX10_judge 156 = .ok (.invokestatic 158, 3) := by decide +kernel
theorem dX10_judge_159 : decode cX10_judge 159 = .ok (.ireturn, 1) := by decide +kernel
theorem dX10_judge_160 : decode cX10_judge 160 = .ok (.iload 5, 2) := by decide +kernel
theorem dX10_judge_162 : decode cX10_judge 162 = .ok (.invokestatic 170, 3) := by decide +kernel
theorem dX10_judge_165 : decode cX10_judge 165 = .ok (.ireturn, 1) := by decide +kernel
theorem dX10_perform_0 : decode cX10_perform 0 = .ok (.aload_n 0, 1) := by decide +kernel
theorem dX10_perform_1 : decode cX10_perform 1 = .ok (.iload_n 1, 1) := by decide +kernel
theorem dX10_perform_2 : decode cX10_perform 2 = .ok (.invokevirtual 217, 3) := by decide +kernel
theorem dX10_perform_5 : decode cX10_perform 5 = .ok (.istore_n 2, 1) := by decide +kernel
theorem dX10_perform_6 : decode cX10_perform 6 = .ok (.iload_n 2, 1) := by decide +kernel
theorem dX10_perform_7 : decode cX10_perform 7 = .ok (.ifCond .eq 5, 3) := by decide +kernel
theorem dX10_perform_10 : decode cX10_perform 10 = .ok (.iload_n 2, 1) := by decide +kernel
theorem dX10_perform_11 : decode cX10_perform 11 = .ok (.ireturn, 1) := by decide +kernel
theorem dX10_perform_12 : decode cX10_perform 12 = .ok (.aload_n 0, 1) := by decide +kernel
theorem dX10_perform_13 : decode cX10_perform 13 = .ok (.getfield 10, 3) := by decide +kernel
theorem dX10_perform_16 : decode cX10_perform 16 = .ok (.aload_n 0, 1) := by decide +kernel
theorem dX10_perform_17 : decode cX10_perform 17 = .ok (.getfield 47, 3) := by decide +kernel
theorem dX10_perform_20 : decode cX10_perform 20 = .ok (.getfield 120, 3) := by decide +kernel
theorem dX10_perform_23 : decode cX10_perform 23 = .ok (.aload_n 0, 1) := by decide +kernel
theorem dX10_perform_24 : decode cX10_perform 24 = .ok (.getfield 53, 3) := by decide +kernel
theorem dX10_perform_27 : decode cX10_perform 27 = .ok (.iload_n 1, 1) := by decide +kernel
theorem dX10_perform_28 : decode cX10_perform 28 = .ok (.aaload, 1) := by decide +kernel
theorem dX10_perform_29 : decode cX10_perform 29 = .ok (.invokevirtual 204, 3) := by decide +kernel
theorem dX10_perform_32 : decode cX10_perform 32 = .ok (.istore_n 3, 1) := by decide +kernel
theorem dX10_perform_33 : decode cX10_perform 33 = .ok (.iload_n 3, 1) := by decide +kernel
theorem dX10_perform_34 : decode cX10_perform 34 = .ok (.ifCond .le 31, 3) := by decide +kernel
theorem dX10_perform_37 : decode cX10_perform 37 = .ok (.aload_n 0, 1) := by decide +kernel
theorem dX10_perform_38 : decode cX10_perform 38 = .ok (.getfield 47, 3) := by decide +kernel
theorem dX10_perform_41 : decode cX10_perform 41 = .ok (.aload_n 0, 1) := by decide +kernel
theorem dX10_perform_42 : decode cX10_perform 42 = .ok (.getfield 10, 3) := by decide +kernel
theorem dX10_perform_45 : decode cX10_perform 45 = .ok (.aload_n 0, 1) := by decide +kernel
theorem dX10_perform_46 : decode cX10_perform 46 = .ok (.getfield 47, 3) := by decide +kernel
theorem dX10_perform_49 : decode cX10_perform 49 = .ok (.getfield 120, 3) := by decide +kernel
theorem dX10_perform_52 : decode cX10_perform 52 = .ok (.aload_n 0, 1) := by decide +kernel
theorem dX10_perform_53 : decode cX10_perform 53 = .ok (.getfield 53, 3) := by decide +kernel
theorem dX10_perform_56 : decode cX10_perform 56 = .ok (.iload_n 1, 1) := by decide +kernel
theorem dX10_perform_57 : decode cX10_perform 57 = .ok (.aaload, 1) := by decide +kernel
theorem dX10_perform_58 : decode cX10_perform 58 = .ok (.iload_n 3, 1) := by decide +kernel
theorem dX10_perform_59 : decode cX10_perform 59 = .ok (.invokevirtual 208, 3) := by decide +kernel
theorem dX10_perform_62 : decode cX10_perform 62 = .ok (.invokevirtual 191, 3) := by decide +kernel
theorem dX10_perform_65 : decode cX10_perform 65 = .ok (.iload_n 3, 1) := by decide +kernel
theorem dX10_perform_66 : decode cX10_perform 66 = .ok (.ireturn, 1) := by decide +kernel
theorem dX10_noTray_0 : decode cX10_noTray 0 = .ok (.iload_n 1, 1) := by decide +kernel
theorem dX10_noTray_1 : decode cX10_noTray 1 = .ok (.ifCond .lt 8, 3) := by decide +kernel
theorem dX10_noTray_4 : decode cX10_noTray 4 = .ok (.iload_n 1, 1) := by decide +kernel
theorem dX10_noTray_5 : decode cX10_noTray 5 = .ok (.iconst 4, 1) := by decide +kernel
theorem dX10_noTray_6 : decode cX10_noTray 6 = .ok (.if_icmp .lt 6, 3) := by decide +kernel
theorem dX10_noTray_9 : decode cX10_noTray 9 = .ok (.bipush (-2), 2) := by decide +kernel
theorem dX10_noTray_11 : decode cX10_noTray 11 = .ok (.ireturn, 1) := by decide +kernel
theorem dX10_noTray_12 : decode cX10_noTray 12 = .ok (.aload_n 0, 1) := by decide +kernel
theorem dX10_noTray_13 : decode cX10_noTray 13 = .ok (.getfield 53, 3) := by decide +kernel
theorem dX10_noTray_16 : decode cX10_noTray 16 = .ok (.iload_n 1, 1) := by decide +kernel
theorem dX10_noTray_17 : decode cX10_noTray 17 = .ok (.aaload, 1) := by decide +kernel
theorem dX10_noTray_18 : decode cX10_noTray 18 = .ok (.getfield 200, 3) := by decide +kernel
theorem dX10_noTray_21 : decode cX10_noTray 21 = .ok (.ifCond .eq 7, 3) := by decide +kernel
theorem dX10_noTray_24 : decode cX10_noTray 24 = .ok (.iconst 0, 1) := by decide +kernel
theorem dX10_noTray_25 : decode cX10_noTray 25 = .ok (.goto 5, 3) := by decide +kernel
theorem dX10_noTray_28 : decode cX10_noTray 28 = .ok (.bipush (-6), 2) := by decide +kernel
theorem dX10_noTray_30 : decode cX10_noTray 30 = .ok (.ireturn, 1) := by decide +kernel
theorem dX10_year_0 : decode cX10_year 0 = .ok (.iload_n 2, 1) := by decide +kernel
theorem dX10_year_1 : decode cX10_year 1 = .ok (.iconst 1, 1) := by decide +kernel
theorem dX10_year_2 : decode cX10_year 2 = .ok (.if_icmp .lt 9, 3) := by decide +kernel
theorem dX10_year_5 : decode cX10_year 5 = .ok (.iload_n 2, 1) := by decide +kernel
theorem dX10_year_6 : decode cX10_year 6 = .ok (.bipush 40, 2) := by decide +kernel
theorem dX10_year_8 : decode cX10_year 8 = .ok (.if_icmp .le 6, 3) := by decide +kernel
theorem dX10_year_11 : decode cX10_year 11 = .ok (.bipush (-3), 2) := by decide +kernel
theorem dX10_year_13 : decode cX10_year 13 = .ok (.ireturn, 1) := by decide +kernel
theorem dX10_year_14 : decode cX10_year 14 = .ok (.iload_n 1, 1) := by decide +kernel
theorem dX10_year_15 : decode cX10_year 15 = .ok (.istore_n 3, 1) := by decide +kernel
theorem dX10_year_16 : decode cX10_year 16 = .ok (.aload_n 0, 1) := by decide +kernel
theorem dX10_year_17 : decode cX10_year 17 = .ok (.getfield 47, 3) := by decide +kernel
theorem dX10_year_20 : decode cX10_year 20 = .ok (.getfield 120, 3) := by decide +kernel
theorem dX10_year_23 : decode cX10_year 23 = .ok (.istore 4, 2) := by decide +kernel
theorem dX10_year_25 : decode cX10_year 25 = .ok (.iconst 0, 1) := by decide +kernel
theorem dX10_year_26 : decode cX10_year 26 = .ok (.istore 5, 2) := by decide +kernel
theorem dX10_year_28 : decode cX10_year 28 = .ok (.iconst 0, 1) := by decide +kernel
theorem dX10_year_29 : decode cX10_year 29 = .ok (.istore 6, 2) := by decide +kernel
theorem dX10_year_31 : decode cX10_year 31 = .ok (.iload 6, 2) := by decide +kernel
theorem dX10_year_33 : decode cX10_year 33 = .ok (.iload_n 2, 1) := by decide +kernel
theorem dX10_year_34 : decode cX10_year 34 = .ok (.if_icmp .ge 76, 3) := by decide +kernel
theorem dX10_year_37 : decode cX10_year 37 = .ok (.ldc 220, 2) := by decide +kernel
theorem dX10_year_39 : decode cX10_year 39 = .ok (.iload_n 3, 1) := by decide +kernel
theorem dX10_year_40 : decode cX10_year 40 = .ok (.imul, 1) := by decide +kernel
theorem dX10_year_41 : decode cX10_year 41 = .ok (.sipush 12345, 3) := by decide +kernel
theorem dX10_year_44 : decode cX10_year 44 = .ok (.iadd, 1) := by decide +kernel
theorem dX10_year_45 : decode cX10_year 45 = .ok (.istore_n 3, 1) := by decide +kernel
theorem dX10_year_46 : decode cX10_year 46 = .ok (.iload_n 3, 1) := by decide +kernel
theorem dX10_year_47 : decode cX10_year 47 = .ok (.bipush 16, 2) := by decide +kernel
theorem dX10_year_49 : decode cX10_year 49 = .ok (.iushr, 1) := by decide +kernel
theorem dX10_year_50 : decode cX10_year 50 = .ok (.bipush 8, 2) := by decide +kernel
theorem dX10_year_52 : decode cX10_year 52 = .ok (.irem, 1) := by decide +kernel
theorem dX10_year_53 : decode cX10_year 53 = .ok (.invokestatic 221, 3) := by decide +kernel
theorem dX10_year_56 : decode cX10_year 56 = .ok (.istore 7, 2) := by decide +kernel
theorem dX10_year_58 : decode cX10_year 58 = .ok (.ldc 220, 2) := by decide +kernel
theorem dX10_year_60 : decode cX10_year 60 = .ok (.iload_n 3, 1) := by decide +kernel
theorem dX10_year_61 : decode cX10_year 61 = .ok (.imul, 1) := by decide +kernel
theorem dX10_year_62 : decode cX10_year 62 = .ok (.sipush 12345, 3) := by decide +kernel
theorem dX10_year_65 : decode cX10_year 65 = .ok (.iadd, 1) := by decide +kernel
theorem dX10_year_66 : decode cX10_year 66 = .ok (.istore_n 3, 1) := by decide +kernel
theorem dX10_year_67 : decode cX10_year 67 = .ok (.aload_n 0, 1) := by decide +kernel
theorem dX10_year_68 : decode cX10_year 68 = .ok (.getfield 10, 3) := by decide +kernel
theorem dX10_year_71 : decode cX10_year 71 = .ok (.iload 4, 2) := by decide +kernel
theorem dX10_year_73 : decode cX10_year 73 = .ok (.iload 7, 2) := by decide +kernel
theorem dX10_year_75 : decode cX10_year 75 = .ok (.bipush 10, 2) := by decide +kernel
theorem dX10_year_77 : decode cX10_year 77 = .ok (.imul, 1) := by decide +kernel
theorem dX10_year_78 : decode cX10_year 78 = .ok (.iload_n 3, 1) := by decide +kernel
theorem dX10_year_79 : decode cX10_year 79 = .ok (.bipush 16, 2) := by decide +kernel
theorem dX10_year_81 : decode cX10_year 81 = .ok (.iushr, 1) := by decide +kernel
theorem dX10_year_82 : decode cX10_year 82 = .ok (.bipush 8, 2) := by decide +kernel
theorem dX10_year_84 : decode cX10_year 84 = .ok (.irem, 1) := by decide +kernel
theorem dX10_year_85 : decode cX10_year 85 = .ok (.iadd, 1) := by decide +kernel
theorem dX10_year_86 : decode cX10_year 86 = .ok (.i2l, 1) := by decide +kernel
theorem dX10_year_87 : decode cX10_year 87 = .ok (.invokevirtual 187, 3) := by decide +kernel
theorem dX10_year_90 : decode cX10_year 90 = .ok (.istore 8, 2) := by decide +kernel
theorem dX10_year_92 : decode cX10_year 92 = .ok (.iload 8, 2) := by decide +kernel
theorem dX10_year_94 : decode cX10_year 94 = .ok (.ifCond .lt 10, 3) := by decide +kernel
theorem dX10_year_97 : decode cX10_year 97 = .ok (.iload 8, 2) := by decide +kernel
theorem dX10_year_99 : decode cX10_year 99 = .ok (.istore 4, 2) := by decide +kernel
theorem dX10_year_101 : decode cX10_year 101 = .ok (.iinc 5 1, 3) := by decide +kernel
theorem dX10_year_104 : decode cX10_year 104 = .ok (.iinc 6 1, 3) := by decide +kernel
theorem dX10_year_107 : decode cX10_year 107 = .ok (.goto (-76), 3) := by decide +kernel
theorem dX10_year_110 : decode cX10_year 110 = .ok (.iload 5, 2) := by decide +kernel
theorem dX10_year_112 : decode cX10_year 112 = .ok (.ifCond .le 12, 3) := by decide +kernel
theorem dX10_year_115 : decode cX10_year 115 = .ok (.aload_n 0, 1) := by decide +kernel
theorem dX10_year_116 : decode cX10_year 116 = .ok (.getfield 47, 3) := by decide +kernel
theorem dX10_year_119 : decode cX10_year 119 = .ok (.iload 4, 2) := by decide +kernel
theorem dX10_year_121 : decode cX10_year 121 = .ok (.invokevirtual 191, 3) := by decide +kernel
theorem dX10_year_124 : decode cX10_year 124 = .ok (.iload 5, 2) := by decide +kernel
theorem dX10_year_126 : decode cX10_year 126 = .ok (.ireturn, 1) := by decide +kernel
theorem dX10_kindDrawn_0 : decode cX10_kindDrawn 0 = .ok (.iload_n 0, 1) := by decide +kernel
theorem dX10_kindDrawn_1 : decode cX10_kindDrawn 1 = .ok (.iconst 4, 1) := by decide +kernel
theorem dX10_kindDrawn_2 : decode cX10_kindDrawn 2 = .ok (.if_icmp .ge 5, 3) := by decide +kernel
theorem dX10_kindDrawn_5 : decode cX10_kindDrawn 5 = .ok (.iconst 0, 1) := by decide +kernel
theorem dX10_kindDrawn_6 : decode cX10_kindDrawn 6 = .ok (.ireturn, 1) := by decide +kernel
theorem dX10_kindDrawn_7 : decode cX10_kindDrawn 7 = .ok (.iload_n 0, 1) := by decide +kernel
theorem dX10_kindDrawn_8 : decode cX10_kindDrawn 8 = .ok (.iconst 4, 1) := by decide +kernel
theorem dX10_kindDrawn_9 : decode cX10_kindDrawn 9 = .ok (.if_icmp .ne 5, 3) := by decide +kernel
theorem dX10_kindDrawn_12 : decode cX10_kindDrawn 12 = .ok (.iconst 1, 1) := by decide +kernel
theorem dX10_kindDrawn_13 : decode cX10_kindDrawn 13 = .ok (.ireturn, 1) := by decide +kernel
theorem dX10_kindDrawn_14 : decode cX10_kindDrawn 14 = .ok (.iload_n 0, 1) := by decide +kernel
theorem dX10_kindDrawn_15 : decode cX10_kindDrawn 15 = .ok (.iconst 5, 1) := by decide +kernel
theorem dX10_kindDrawn_16 : decode cX10_kindDrawn 16 = .ok (.if_icmp .ne 7, 3) := by decide +kernel
theorem dX10_kindDrawn_19 : decode cX10_kindDrawn 19 = .ok (.iconst 2, 1) := by decide +kernel
theorem dX10_kindDrawn_20 : decode cX10_kindDrawn 20 = .ok (.goto 4, 3) := by decide +kernel
theorem dX10_kindDrawn_23 : decode cX10_kindDrawn 23 = .ok (.iconst 3, 1) := by decide +kernel
theorem dX10_kindDrawn_24 : decode cX10_kindDrawn 24 = .ok (.ireturn, 1) := by decide +kernel
theorem dX10_soonest_0 : decode cX10_soonest 0 = .ok (.aload_n 0, 1) := by decide +kernel
theorem dX10_soonest_1 : decode cX10_soonest 1 = .ok (.getfield 10, 3) := by decide +kernel
theorem dX10_soonest_4 : decode cX10_soonest 4 = .ok (.getfield 98, 3) := by decide +kernel
theorem dX10_soonest_7 : decode cX10_soonest 7 = .ok (.iload_n 1, 1) := by decide +kernel
theorem dX10_soonest_8 : decode cX10_soonest 8 = .ok (.invokevirtual 224, 3) := by decide +kernel
theorem dX10_soonest_11 : decode cX10_soonest 11 = .ok (.ifCond .ne 6, 3) := by decide +kernel
theorem dX10_soonest_14 : decode cX10_soonest 14 = .ok (.bipush (-3), 2) := by decide +kernel
theorem dX10_soonest_16 : decode cX10_soonest 16 = .ok (.ireturn, 1) := by decide +kernel
theorem dX10_soonest_17 : decode cX10_soonest 17 = .ok (.aload_n 0, 1) := by decide +kernel
theorem dX10_soonest_18 : decode cX10_soonest 18 = .ok (.getfield 26, 3) := by decide +kernel
theorem dX10_soonest_21 : decode cX10_soonest 21 = .ok (.aload_n 0, 1) := by decide +kernel
theorem dX10_soonest_22 : decode cX10_soonest 22 = .ok (.getfield 26, 3) := by decide +kernel
theorem dX10_soonest_25 : decode cX10_soonest 25 = .ok (.aload_n 0, 1) := by decide +kernel
theorem dX10_soonest_26 : decode cX10_soonest 26 = .ok (.getfield 10, 3) := by decide +kernel
theorem dX10_soonest_29 : decode cX10_soonest 29 = .ok (.aload_n 0, 1) := by decide +kernel
theorem dX10_soonest_30 : decode cX10_soonest 30 = .ok (.getfield 47, 3) := by decide +kernel
theorem dX10_soonest_33 : decode cX10_soonest 33 = .ok (.getfield 120, 3) := by decide +kernel
theorem dX10_soonest_36 : decode cX10_soonest 36 = .ok (.invokestatic 227, 3) := by decide +kernel
theorem dX10_soonest_39 : decode cX10_soonest 39 = .ok (.iload_n 1, 1) := by decide +kernel
theorem dX10_soonest_40 : decode cX10_soonest 40 = .ok (.invokevirtual 230, 3) := by decide +kernel
theorem dX10_soonest_43 : decode cX10_soonest 43 = .ok (.invokevirtual 234, 3) := by decide +kernel
theorem dX10_soonest_46 : decode cX10_soonest 46 = .ok (.ireturn, 1) := by decide +kernel
theorem dX10_way_0 : decode cX10_way 0 = .ok (.aload_n 0, 1) := by decide +kernel
theorem dX10_way_1 : decode cX10_way 1 = .ok (.getfield 10, 3) := by decide +kernel
theorem dX10_way_4 : decode cX10_way 4 = .ok (.getfield 98, 3) := by decide +kernel
theorem dX10_way_7 : decode cX10_way 7 = .ok (.iload_n 1, 1) := by decide +kernel
theorem dX10_way_8 : decode cX10_way 8 = .ok (.invokevirtual 224, 3) := by decide +kernel
theorem dX10_way_11 : decode cX10_way 11 = .ok (.ifCond .eq 7, 3) := by decide +kernel
theorem dX10_way_14 : decode cX10_way 14 = .ok (.iload_n 2, 1) := by decide +kernel
theorem dX10_way_15 : decode cX10_way 15 = .ok (.ifCond .ge 6, 3) := by decide +kernel
theorem dX10_way_18 : decode cX10_way 18 = .ok (.bipush (-3), 2) := by decide +kernel
theorem dX10_way_20 : decode cX10_way 20 = .ok (.ireturn, 1) := by decide +kernel
theorem dX10_way_21 : decode cX10_way 21 = .ok (.aload_n 0, 1) := by decide +kernel
theorem dX10_way_22 : decode cX10_way 22 = .ok (.getfield 26, 3) := by decide +kernel
theorem dX10_way_25 : decode cX10_way 25 = .ok (.aload_n 0, 1) := by decide +kernel
theorem dX10_way_26 : decode cX10_way 26 = .ok (.getfield 26, 3) := by decide +kernel
theorem dX10_way_29 : decode cX10_way 29 = .ok (.aload_n 0, 1) := by decide +kernel
theorem dX10_way_30 : decode cX10_way 30 = .ok (.getfield 10, 3) := by decide +kernel
theorem dX10_way_33 : decode cX10_way 33 = .ok (.aload_n 0, 1) := by decide +kernel
theorem dX10_way_34 : decode cX10_way 34 = .ok (.getfield 47, 3) := by decide +kernel
theorem dX10_way_37 : decode cX10_way 37 = .ok (.getfield 120, 3) := by decide +kernel
theorem dX10_way_40 : decode cX10_way 40 = .ok (.invokestatic 227, 3) := by decide +kernel
theorem dX10_way_43 : decode cX10_way 43 = .ok (.iload_n 1, 1) := by decide +kernel
theorem dX10_way_44 : decode cX10_way 44 = .ok (.invokevirtual 230, 3) := by decide +kernel
theorem dX10_way_47 : decode cX10_way 47 = .ok (.iload_n 2, 1) := by decide +kernel
theorem dX10_way_48 : decode cX10_way 48 = .ok (.invokevirtual 237, 3) := by decide +kernel
theorem dX10_way_51 : decode cX10_way 51 = .ok (.ireturn, 1) := by decide +kernel
theorem dX10_shown_0 : decode cX10_shown 0 = .ok (.aload_n 0, 1) := by decide +kernel
theorem dX10_shown_1 : decode cX10_shown 1 = .ok (.getfield 10, 3) := by decide +kernel
theorem dX10_shown_4 : decode cX10_shown 4 = .ok (.getfield 98, 3) := by decide +kernel
theorem dX10_shown_7 : decode cX10_shown 7 = .ok (.iload_n 1, 1) := by decide +kernel
theorem dX10_shown_8 : decode cX10_shown 8 = .ok (.invokevirtual 224, 3) := by decide +kernel
theorem dX10_shown_11 : decode cX10_shown 11 = .ok (.ifCond .ne 6, 3) := by decide +kernel
theorem dX10_shown_14 : decode cX10_shown 14 = .ok (.bipush (-3), 2) := by decide +kernel
theorem dX10_shown_16 : decode cX10_shown 16 = .ok (.ireturn, 1) := by decide +kernel
theorem dX10_shown_17 : decode cX10_shown 17 = .ok (.aload_n 0, 1) := by decide +kernel
theorem dX10_shown_18 : decode cX10_shown 18 = .ok (.getfield 26, 3) := by decide +kernel
theorem dX10_shown_21 : decode cX10_shown 21 = .ok (.aload_n 0, 1) := by decide +kernel
theorem dX10_shown_22 : decode cX10_shown 22 = .ok (.getfield 26, 3) := by decide +kernel
theorem dX10_shown_25 : decode cX10_shown 25 = .ok (.aload_n 0, 1) := by decide +kernel
theorem dX10_shown_26 : decode cX10_shown 26 = .ok (.getfield 10, 3) := by decide +kernel
theorem dX10_shown_29 : decode cX10_shown 29 = .ok (.aload_n 0, 1) := by decide +kernel
theorem dX10_shown_30 : decode cX10_shown 30 = .ok (.getfield 47, 3) := by decide +kernel
theorem dX10_shown_33 : decode cX10_shown 33 = .ok (.getfield 120, 3) := by decide +kernel
theorem dX10_shown_36 : decode cX10_shown 36 = .ok (.invokestatic 227, 3) := by decide +kernel
theorem dX10_shown_39 : decode cX10_shown 39 = .ok (.iload_n 1, 1) := by decide +kernel
theorem dX10_shown_40 : decode cX10_shown 40 = .ok (.invokevirtual 240, 3) := by decide +kernel
theorem dX10_shown_43 : decode cX10_shown 43 = .ok (.invokevirtual 234, 3) := by decide +kernel
theorem dX10_shown_46 : decode cX10_shown 46 = .ok (.ireturn, 1) := by decide +kernel
theorem dX10_shownBy_0 : decode cX10_shownBy 0 = .ok (.aload_n 0, 1) := by decide +kernel
theorem dX10_shownBy_1 : decode cX10_shownBy 1 = .ok (.getfield 10, 3) := by decide +kernel
theorem dX10_shownBy_4 : decode cX10_shownBy 4 = .ok (.getfield 98, 3) := by decide +kernel
theorem dX10_shownBy_7 : decode cX10_shownBy 7 = .ok (.iload_n 1, 1) := by decide +kernel
theorem dX10_shownBy_8 : decode cX10_shownBy 8 = .ok (.invokevirtual 224, 3) := by decide +kernel
theorem dX10_shownBy_11 : decode cX10_shownBy 11 = .ok (.ifCond .eq 7, 3) := by decide +kernel
theorem dX10_shownBy_14 : decode cX10_shownBy 14 = .ok (.iload_n 2, 1) := by decide +kernel
theorem dX10_shownBy_15 : decode cX10_shownBy 15 = .ok (.ifCond .ge 6, 3) := by decide +kernel
theorem dX10_shownBy_18 : decode cX10_shownBy 18 = .ok (.bipush (-3), 2) := by decide +kernel
theorem dX10_shownBy_20 : decode cX10_shownBy 20 = .ok (.ireturn, 1) := by decide +kernel
theorem dX10_shownBy_21 : decode cX10_shownBy 21 = .ok (.aload_n 0, 1) := by decide +kernel
theorem dX10_shownBy_22 : decode cX10_shownBy 22 = .ok (.getfield 26, 3) := by decide +kernel
theorem dX10_shownBy_25 : decode cX10_shownBy 25 = .ok (.aload_n 0, 1) := by decide +kernel
theorem dX10_shownBy_26 : decode cX10_shownBy 26 = .ok (.getfield 26, 3) := by decide +kernel
theorem dX10_shownBy_29 : decode cX10_shownBy 29 = .ok (.aload_n 0, 1) := by decide +kernel
theorem dX10_shownBy_30 : decode cX10_shownBy 30 = .ok (.getfield 10, 3) := by decide +kernel
theorem dX10_shownBy_33 : decode cX10_shownBy 33 = .ok (.aload_n 0, 1) := by decide +kernel
theorem dX10_shownBy_34 : decode cX10_shownBy 34 = .ok (.getfield 47, 3) := by decide +kernel
theorem dX10_shownBy_37 : decode cX10_shownBy 37 = .ok (.getfield 120, 3) := by decide +kernel
theorem dX10_shownBy_40 : decode cX10_shownBy 40 = .ok (.invokestatic 227, 3) := by decide +kernel
theorem dX10_shownBy_43 : decode cX10_shownBy 43 = .ok (.iload_n 1, 1) := by decide +kernel
theorem dX10_shownBy_44 : decode cX10_shownBy 44 = .ok (.invokevirtual 240, 3) := by decide +kernel
theorem dX10_shownBy_47 : decode cX10_shownBy 47 = .ok (.iload_n 2, 1) := by decide +kernel
theorem dX10_shownBy_48 : decode cX10_shownBy 48 = .ok (.invokevirtual 237, 3) := by decide +kernel
theorem dX10_shownBy_51 : decode cX10_shownBy 51 = .ok (.ireturn, 1) := by decide +kernel
theorem dX10_rows_0 : decode cX10_rows 0 = .ok (.aload_n 0, 1) := by decide +kernel
theorem dX10_rows_1 : decode cX10_rows 1 = .ok (.getfield 10, 3) := by decide +kernel
theorem dX10_rows_4 : decode cX10_rows 4 = .ok (.getfield 98, 3) := by decide +kernel
theorem dX10_rows_7 : decode cX10_rows 7 = .ok (.iload_n 1, 1) := by decide +kernel
theorem dX10_rows_8 : decode cX10_rows 8 = .ok (.invokevirtual 224, 3) := by decide +kernel
theorem dX10_rows_11 : decode cX10_rows 11 = .ok (.ifCond .eq 13, 3) := by decide +kernel
theorem dX10_rows_14 : decode cX10_rows 14 = .ok (.iload_n 2, 1) := by decide +kernel
theorem dX10_rows_15 : decode cX10_rows 15 = .ok (.ifCond .lt 9, 3) := by decide +kernel
theorem dX10_rows_18 : decode cX10_rows 18 = .ok (.iload_n 2, 1) := by decide +kernel
theorem dX10_rows_19 : decode cX10_rows 19 = .ok (.bipush 8, 2) := by decide +kernel
theorem dX10_rows_21 : decode cX10_rows 21 = .ok (.if_icmp .le 7, 3) := by decide +kernel
theorem dX10_rows_24 : decode cX10_rows 24 = .ok (.ldc2_w 243, 3) := by decide +kernel
theorem dX10_rows_27 : decode cX10_rows 27 = .ok (.lreturn, 1) := by decide +kernel
theorem dX10_rows_28 : decode cX10_rows 28 = .ok (.aload_n 0, 1) := by decide +kernel
theorem dX10_rows_29 : decode cX10_rows 29 = .ok (.getfield 26, 3) := by decide +kernel
theorem dX10_rows_32 : decode cX10_rows 32 = .ok (.aload_n 0, 1) := by decide +kernel
theorem dX10_rows_33 : decode cX10_rows 33 = .ok (.getfield 10, 3) := by decide +kernel
theorem dX10_rows_36 : decode cX10_rows 36 = .ok (.aload_n 0, 1) := by decide +kernel
theorem dX10_rows_37 : decode cX10_rows 37 = .ok (.getfield 47, 3) := by decide +kernel
theorem dX10_rows_40 : decode cX10_rows 40 = .ok (.getfield 120, 3) := by decide +kernel
theorem dX10_rows_43 : decode cX10_rows 43 = .ok (.invokestatic 227, 3) := by decide +kernel
theorem dX10_rows_46 : decode cX10_rows 46 = .ok (.iload_n 1, 1) := by decide +kernel
theorem dX10_rows_47 : decode cX10_rows 47 = .ok (.iload_n 2, 1) := by decide +kernel
theorem dX10_rows_48 : decode cX10_rows 48 = .ok (.invokevirtual 245, 3) := by decide +kernel
theorem dX10_rows_51 : decode cX10_rows 51 = .ok (.lreturn, 1) := by decide +kernel
theorem dX10_most_0 : decode cX10_most 0 = .ok (.aload_n 0, 1) := by decide +kernel
theorem dX10_most_1 : decode cX10_most 1 = .ok (.getfield 26, 3) := by decide +kernel
theorem dX10_most_4 : decode cX10_most 4 = .ok (.aload_n 0, 1) := by decide +kernel
theorem dX10_most_5 : decode cX10_most 5 = .ok (.getfield 10, 3) := by decide +kernel
theorem dX10_most_8 : decode cX10_most 8 = .ok (.aload_n 0, 1) := by decide +kernel
theorem dX10_most_9 : decode cX10_most 9 = .ok (.getfield 47, 3) := by decide +kernel
theorem dX10_most_12 : decode cX10_most 12 = .ok (.getfield 120, 3) := by decide +kernel
theorem dX10_most_15 : decode cX10_most 15 = .ok (.invokestatic 227, 3) := by decide +kernel
theorem dX10_most_18 : decode cX10_most 18 = .ok (.invokevirtual 249, 3) := by decide +kernel
theorem dX10_most_21 : decode cX10_most 21 = .ok (.ireturn, 1) := by decide +kernel
theorem dX10_stands_0 : decode cX10_stands 0 = .ok (.aload_n 0, 1) := by decide +kernel
theorem dX10_stands_1 : decode cX10_stands 1 = .ok (.getfield 26, 3) := by decide +kernel
theorem dX10_stands_4 : decode cX10_stands 4 = .ok (.aload_n 0, 1) := by decide +kernel
theorem dX10_stands_5 : decode cX10_stands 5 = .ok (.getfield 10, 3) := by decide +kernel
theorem dX10_stands_8 : decode cX10_stands 8 = .ok (.aload_n 0, 1) := by decide +kernel
theorem dX10_stands_9 : decode cX10_stands 9 = .ok (.getfield 47, 3) := by decide +kernel
theorem dX10_stands_12 : decode cX10_stands 12 = .ok (.getfield 120, 3) := by decide +kernel
theorem dX10_stands_15 : decode cX10_stands 15 = .ok (.invokestatic 227, 3) := by decide +kernel
theorem dX10_stands_18 : decode cX10_stands 18 = .ok (.invokevirtual 253, 3) := by decide +kernel
theorem dX10_stands_21 : decode cX10_stands 21 = .ok (.aload_n 0, 1) := by decide +kernel
theorem dX10_stands_22 : decode cX10_stands 22 = .ok (.getfield 26, 3) := by decide +kernel
theorem dX10_stands_25 : decode cX10_stands 25 = .ok (.getfield 257, 3) := by decide +kernel
theorem dX10_stands_28 : decode cX10_stands 28 = .ok (.ireturn, 1) := by decide +kernel
theorem dX10_gain_0 : decode cX10_gain 0 = .ok (.aload_n 0, 1) := by decide +kernel
theorem dX10_gain_1 : decode cX10_gain 1 = .ok (.iload_n 1, 1) := by decide +kernel
theorem dX10_gain_2 : decode cX10_gain 2 = .ok (.invokevirtual 154, 3) := by decide +kernel
theorem dX10_gain_5 : decode cX10_gain 5 = .ok (.istore_n 2, 1) := by decide +kernel
theorem dX10_gain_6 : decode cX10_gain 6 = .ok (.iload_n 2, 1) := by decide +kernel
theorem dX10_gain_7 : decode cX10_gain 7 = .ok (.ifCond .eq 7, 3) := by decide +kernel
theorem dX10_gain_10 : decode cX10_gain 10 = .ok (.iload_n 2, 1) := by decide +kernel
theorem dX10_gain_11 : decode cX10_gain 11 = .ok (.goto 24, 3) := by decide +kernel
theorem dX10_gain_14 : decode cX10_gain 14 = .ok (.aload_n 0, 1) := by decide +kernel
theorem dX10_gain_15 : decode cX10_gain 15 = .ok (.getfield 10, 3) := by decide +kernel
theorem dX10_gain_18 : decode cX10_gain 18 = .ok (.getfield 98, 3) := by decide +kernel
theorem dX10_gain_21 : decode cX10_gain 21 = .ok (.iload_n 1, 1) := by decide +kernel
theorem dX10_gain_22 : decode cX10_gain 22 = .ok (.aload_n 0, 1) := by decide +kernel
theorem dX10_gain_23 : decode cX10_gain 23 = .ok (.getfield 47, 3) := by decide +kernel
theorem dX10_gain_26 : decode cX10_gain 26 = .ok (.getfield 120, 3) := by decide +kernel
theorem dX10_gain_29 : decode cX10_gain 29 = .ok (.invokestatic 158, 3) := by decide +kernel
theorem dX10_gain_32 : decode cX10_gain 32 = .ok (.invokevirtual 258, 3) := by decide +kernel
theorem dX10_gain_35 : decode cX10_gain 35 = .ok (.ireturn, 1) := by decide +kernel
theorem dX10_pack_0 : decode cX10_pack 0 = .ok (.iload_n 1, 1) := by decide +kernel
theorem dX10_pack_1 : decode cX10_pack 1 = .ok (.ifCond .eq 11, 3) := by decide +kernel
theorem dX10_pack_4 : decode cX10_pack 4 = .ok (.iload_n 1, 1) := by decide +kernel
theorem dX10_pack_5 : decode cX10_pack 5 = .ok (.iconst 1, 1) := by decide +kernel
theorem dX10_pack_6 : decode cX10_pack 6 = .ok (.if_icmp .eq 6, 3) := by decide +kernel
theorem dX10_pack_9 : decode cX10_pack 9 = .ok (.bipush (-2), 2) := by decide +kernel
theorem dX10_pack_11 : decode cX10_pack 11 = .ok (.ireturn, 1) := by decide +kernel
theorem dX10_pack_12 : decode cX10_pack 12 = .ok (.aload_n 0, 1) := by decide +kernel
theorem dX10_pack_13 : decode cX10_pack 13 = .ok (.getfield 47, 3) := by decide +kernel
theorem dX10_pack_16 : decode cX10_pack 16 = .ok (.getfield 120, 3) := by decide +kernel
theorem dX10_pack_19 : decode cX10_pack 19 = .ok (.invokestatic 158, 3) := by decide +kernel
theorem dX10_pack_22 : decode cX10_pack 22 = .ok (.istore_n 2, 1) := by decide +kernel
theorem dX10_pack_23 : decode cX10_pack 23 = .ok (.aload_n 0, 1) := by decide +kernel
theorem dX10_pack_24 : decode cX10_pack 24 = .ok (.getfield 10, 3) := by decide +kernel
theorem dX10_pack_27 : decode cX10_pack 27 = .ok (.getfield 98, 3) := by decide +kernel
theorem dX10_pack_30 : decode cX10_pack 30 = .ok (.iload_n 2, 1) := by decide +kernel
theorem dX10_pack_31 : decode cX10_pack 31 = .ok (.invokevirtual 261, 3) := by decide +kernel
theorem dX10_pack_34 : decode cX10_pack 34 = .ok (.istore_n 3, 1) := by decide +kernel
theorem dX10_pack_35 : decode cX10_pack 35 = .ok (.iload_n 1, 1) := by decide +kernel
theorem dX10_pack_36 : decode cX10_pack 36 = .ok (.iconst 1, 1) := by decide +kernel
theorem dX10_pack_37 : decode cX10_pack 37 = .ok (.if_icmp .ne 7, 3) := by decide +kernel
theorem dX10_pack_40 : decode cX10_pack 40 = .ok (.iload_n 3, 1) := by decide +kernel
theorem dX10_pack_41 : decode cX10_pack 41 = .ok (.goto 15, 3) := by decide +kernel
theorem dX10_pack_44 : decode cX10_pack 44 = .ok (.aload_n 0, 1) := by decide +kernel
theorem dX10_pack_45 : decode cX10_pack 45 = .ok (.getfield 10, 3) := by decide +kernel
theorem dX10_pack_48 : decode cX10_pack 48 = .ok (.getfield 98, 3) := by decide +kernel
theorem dX10_pack_51 : decode cX10_pack 51 = .ok (.iload_n 3, 1) := by decide +kernel
theorem dX10_pack_52 : decode cX10_pack 52 = .ok (.iload_n 2, 1) := by decide +kernel
theorem dX10_pack_53 : decode cX10_pack 53 = .ok (.invokevirtual 264, 3) := by decide +kernel
theorem dX10_pack_56 : decode cX10_pack 56 = .ok (.ireturn, 1) := by decide +kernel
theorem dX10_orders_0 : decode cX10_orders 0 = .ok (.aload_n 0, 1) := by decide +kernel
theorem dX10_orders_1 : decode cX10_orders 1 = .ok (.iload_n 1, 1) := by decide +kernel
theorem dX10_orders_2 : decode cX10_orders 2 = .ok (.invokevirtual 267, 3) := by decide +kernel
theorem dX10_orders_5 : decode cX10_orders 5 = .ok (.istore_n 2, 1) := by decide +kernel
theorem dX10_orders_6 : decode cX10_orders 6 = .ok (.iload_n 2, 1) := by decide +kernel
theorem dX10_orders_7 : decode cX10_orders 7 = .ok (.ifCond .eq 7, 3) := by decide +kernel
theorem dX10_orders_10 : decode cX10_orders 10 = .ok (.iload_n 2, 1) := by decide +kernel
theorem dX10_orders_11 : decode cX10_orders 11 = .ok (.goto 10, 3) := by decide +kernel
theorem dX10_orders_14 : decode cX10_orders 14 = .ok (.aload_n 0, 1) := by decide +kernel
theorem dX10_orders_15 : decode cX10_orders 15 = .ok (.getfield 33, 3) := by decide +kernel
theorem dX10_orders_18 : decode cX10_orders 18 = .ok (.invokevirtual 270, 3) := by decide +kernel
theorem dX10_orders_21 : decode cX10_orders 21 = .ok (.ireturn, 1) := by decide +kernel
theorem dX10_order_0 : decode cX10_order 0 = .ok (.aload_n 0, 1) := by decide +kernel
theorem dX10_order_1 : decode cX10_order 1 = .ok (.iload_n 1, 1) := by decide +kernel
theorem dX10_order_2 : decode cX10_order 2 = .ok (.invokevirtual 267, 3) := by decide +kernel
theorem dX10_order_5 : decode cX10_order 5 = .ok (.istore_n 3, 1) := by decide +kernel
theorem dX10_order_6 : decode cX10_order 6 = .ok (.iload_n 3, 1) := by decide +kernel
theorem dX10_order_7 : decode cX10_order 7 = .ok (.ifCond .eq 5, 3) := by decide +kernel
theorem dX10_order_10 : decode cX10_order 10 = .ok (.iload_n 3, 1) := by decide +kernel
theorem dX10_order_11 : decode cX10_order 11 = .ok (.ireturn, 1) := by decide +kernel
theorem dX10_order_12 : decode cX10_order 12 = .ok (.iload_n 2, 1) := by decide +kernel
theorem dX10_order_13 : decode cX10_order 13 = .ok (.ifCond .ge 8, 3) := by decide +kernel
theorem dX10_order_16 : decode cX10_order 16 = .ok (.bipush (-3), 2) := by decide +kernel
theorem dX10_order_18 : decode cX10_order 18 = .ok (.goto 11, 3) := by decide +kernel
theorem dX10_order_21 : decode cX10_order 21 = .ok (.aload_n 0, 1) := by decide +kernel
theorem dX10_order_22 : decode cX10_order 22 = .ok (.getfield 33, 3) := by decide +kernel
theorem dX10_order_25 : decode cX10_order 25 = .ok (.iload_n 2, 1) := by decide +kernel
theorem dX10_order_26 : decode cX10_order 26 = .ok (.invokevirtual 274, 3) := by decide +kernel
theorem dX10_order_29 : decode cX10_order 29 = .ok (.ireturn, 1) := by decide +kernel
theorem dX10_ahead_0 : decode cX10_ahead 0 = .ok (.aload_n 0, 1) := by decide +kernel
theorem dX10_ahead_1 : decode cX10_ahead 1 = .ok (.getfield 10, 3) := by decide +kernel
theorem dX10_ahead_4 : decode cX10_ahead 4 = .ok (.getfield 98, 3) := by decide +kernel
theorem dX10_ahead_7 : decode cX10_ahead 7 = .ok (.iload_n 2, 1) := by decide +kernel
theorem dX10_ahead_8 : decode cX10_ahead 8 = .ok (.invokevirtual 116, 3) := by decide +kernel
theorem dX10_ahead_11 : decode cX10_ahead 11 = .ok (.ifCond .eq 22, 3) := by decide +kernel
theorem dX10_ahead_14 : decode cX10_ahead 14 = .ok (.aload_n 0, 1) := by decide +kernel
theorem dX10_ahead_15 : decode cX10_ahead 15 = .ok (.getfield 10, 3) := by decide +kernel
theorem dX10_ahead_18 : decode cX10_ahead 18 = .ok (.getfield 98, 3) := by decide +kernel
theorem dX10_ahead_21 : decode cX10_ahead 21 = .ok (.iload_n 3, 1) := by decide +kernel
theorem dX10_ahead_22 : decode cX10_ahead 22 = .ok (.invokevirtual 116, 3) := by decide +kernel
theorem dX10_ahead_25 : decode cX10_ahead 25 = .ok (.ifCond .eq 8, 3) := by decide +kernel
theorem dX10_ahead_28 : decode cX10_ahead 28 = .ok (.iload_n 2, 1) := by decide +kernel
theorem dX10_ahead_29 : decode cX10_ahead 29 = .ok (.iload_n 3, 1) := by decide +kernel
theorem dX10_ahead_30 : decode cX10_ahead 30 = .ok (.if_icmp .ne 6, 3) := by decide +kernel
theorem dX10_ahead_33 : decode cX10_ahead 33 = .ok (.bipush (-2), 2) := by decide +kernel
theorem dX10_ahead_35 : decode cX10_ahead 35 = .ok (.ireturn, 1) := by decide +kernel
theorem dX10_ahead_36 : decode cX10_ahead 36 = .ok (.aload_n 0, 1) := by decide +kernel
theorem dX10_ahead_37 : decode cX10_ahead 37 = .ok (.iload_n 1, 1) := by decide +kernel
theorem dX10_ahead_38 : decode cX10_ahead 38 = .ok (.invokevirtual 267, 3) := by decide +kernel
theorem dX10_ahead_41 : decode cX10_ahead 41 = .ok (.istore 4, 2) := by decide +kernel
theorem dX10_ahead_43 : decode cX10_ahead 43 = .ok (.iload 4, 2) := by decide +kernel
theorem dX10_ahead_45 : decode cX10_ahead 45 = .ok (.ifCond .eq 6, 3) := by decide +kernel
theorem dX10_ahead_48 : decode cX10_ahead 48 = .ok (.iload 4, 2) := by decide +kernel
theorem dX10_ahead_50 : decode cX10_ahead 50 = .ok (.ireturn, 1) := by decide +kernel
theorem dX10_ahead_51 : decode cX10_ahead 51 = .ok (.aload_n 0, 1) := by decide +kernel
theorem dX10_ahead_52 : decode cX10_ahead 52 = .ok (.iload_n 2, 1) := by decide +kernel
theorem dX10_ahead_53 : decode cX10_ahead 53 = .ok (.invokevirtual 154, 3) := by decide +kernel
theorem dX10_ahead_56 : decode cX10_ahead 56 = .ok (.ifCond .ne 11, 3) := by decide +kernel
theorem dX10_ahead_59 : decode cX10_ahead 59 = .ok (.aload_n 0, 1) := by decide +kernel
theorem dX10_ahead_60 : decode cX10_ahead 60 = .ok (.iload_n 3, 1) := by decide +kernel
theorem dX10_ahead_61 : decode cX10_ahead 61 = .ok (.invokevirtual 154, 3) := by decide +kernel
theorem dX10_ahead_64 : decode cX10_ahead 64 = .ok (.ifCond .eq 6, 3) := by decide +kernel
theorem dX10_ahead_67 : decode cX10_ahead 67 = .ok (.bipush (-5), 2) := by decide +kernel
theorem dX10_ahead_69 : decode cX10_ahead 69 = .ok (.ireturn, 1) := by decide +kernel
theorem dX10_ahead_70 : decode cX10_ahead 70 = .ok (.aload_n 0, 1) := by decide +kernel
theorem dX10_ahead_71 : decode cX10_ahead 71 = .ok (.getfield 33, 3) := by decide +kernel
theorem dX10_ahead_74 : decode cX10_ahead 74 = .ok (.iload_n 2, 1) := by decide +kernel
theorem dX10_ahead_75 : decode cX10_ahead 75 = .ok (.iload_n 3, 1) := by decide +kernel
theorem dX10_ahead_76 : decode cX10_ahead 76 = .ok (.invokevirtual 277, 3) := by decide +kernel
theorem dX10_ahead_79 : decode cX10_ahead 79 = .ok (.aload_n 0, 1) := by decide +kernel
theorem dX10_ahead_80 : decode cX10_ahead 80 = .ok (.getfield 33, 3) := by decide +kernel
theorem dX10_ahead_83 : decode cX10_ahead 83 = .ok (.invokevirtual 270, 3) := by decide +kernel
theorem dX10_ahead_86 : decode cX10_ahead 86 = .ok (.ireturn, 1) := by decide +kernel
theorem dX10_tellOrders_0 : decode cX10_tellOrders 0 = .ok (.aload_n 0, 1) := by decide +kernel
theorem dX10_tellOrders_1 : decode cX10_tellOrders 1 = .ok (.iload_n 1, 1) := by decide +kernel
theorem dX10_tellOrders_2 : decode cX10_tellOrders 2 = .ok (.invokevirtual 217, 3) := by decide +kernel
theorem dX10_tellOrders_5 : decode cX10_tellOrders 5 = .ok (.istore_n 2, 1) := by decide +kernel
theorem dX10_tellOrders_6 : decode cX10_tellOrders 6 = .ok (.iload_n 2, 1) := by decide +kernel
theorem dX10_tellOrders_7 : decode cX10_tellOrders 7 = .ok (.ifCond .eq 5, 3) := by decide +kernel
theorem dX10_tellOrders_10 : decode cX10_tellOrders 10 = .ok (.iload_n 2, 1) := by decide +kernel
theorem dX10_tellOrders_11 : decode cX10_tellOrders 11 = .ok (.ireturn, 1) := by decide +kernel
theorem dX10_tellOrders_12 : decode cX10_tellOrders 12 = .ok (.aload_n 0, 1) := by decide +kernel
theorem dX10_tellOrders_13 : decode cX10_tellOrders 13 = .ok (.getfield 53, 3) := by decide +kernel
theorem dX10_tellOrders_16 : decode cX10_tellOrders 16 = .ok (.iload_n 1, 1) := by decide +kernel
theorem dX10_tellOrders_17 : decode cX10_tellOrders 17 = .ok (.aaload, 1) := by decide +kernel
theorem dX10_tellOrders_18 : decode cX10_tellOrders 18 = .ok (.astore_n 3, 1) := by decide +kernel
theorem dX10_tellOrders_19 : decode cX10_tellOrders 19 = .ok (.aload_n 3, 1) := by decide +kernel
theorem dX10_tellOrders_20 : decode cX10_tellOrders 20 = .ok (.getfield 212, 3) := by decide +kernel
theorem dX10_tellOrders_23 : decode cX10_tellOrders 23 = .ok (.bipush 12, 2) := by decide +kernel
theorem dX10_tellOrders_25 : decode cX10_tellOrders 25 = .ok (.if_icmp .le 6, 3) := by decide +kernel
theorem dX10_tellOrders_28 : decode cX10_tellOrders 28 = .ok (.bipush (-4), 2) := by decide +kernel
theorem dX10_tellOrders_30 : decode cX10_tellOrders 30 = .ok (.ireturn, 1) := by decide +kernel
theorem dX10_tellOrders_31 : decode cX10_tellOrders 31 = .ok (.aload_n 0, 1) := by decide +kernel
theorem dX10_tellOrders_32 : decode cX10_tellOrders 32 = .ok (.getfield 33, 3) := by decide +kernel
theorem dX10_tellOrders_35 : decode cX10_tellOrders 35 = .ok (.aload_n 0, 1) := by decide +kernel
theorem dX10_tellOrders_36 : decode cX10_tellOrders 36 = .ok (.getfield 10, 3) := by decide +kernel
theorem dX10_tellOrders_39 : decode cX10_tellOrders 39 = .ok (.getfield 98, 3) := by decide +kernel
theorem dX10_tellOrders_42 : decode cX10_tellOrders 42 = .ok (.aload_n 0, 1) := by decide +kernel
theorem dX10_tellOrders_43 : decode cX10_tellOrders 43 = .ok (.getfield 47, 3) := by decide +kernel
theorem dX10_tellOrders_46 : decode cX10_tellOrders 46 = .ok (.getfield 120, 3) := by decide +kernel
theorem dX10_tellOrders_49 : decode cX10_tellOrders 49 = .ok (.invokestatic 158, 3) := by decide +kernel
theorem dX10_tellOrders_52 : decode cX10_tellOrders 52 = .ok (.invokevirtual 281, 3) := by decide +kernel
theorem dX10_tellOrders_55 : decode cX10_tellOrders 55 = .ok (.iconst 0, 1) := by decide +kernel
theorem dX10_tellOrders_56 : decode cX10_tellOrders 56 = .ok (.istore 4, 2) := by decide +kernel
theorem dX10_tellOrders_58 : decode cX10_tellOrders 58 = .ok (.iload 4, 2) := by decide +kernel
theorem dX10_tellOrders_60 : decode cX10_tellOrders 60 = .ok (.aload_n 3, 1) := by decide +kernel
theorem dX10_tellOrders_61 : decode cX10_tellOrders 61 = .ok (.getfield 212, 3) := by decide +kernel
theorem dX10_tellOrders_64 : decode cX10_tellOrders 64 = .ok (.if_icmp .ge 28, 3) := by decide +kernel
theorem dX10_tellOrders_67 : decode cX10_tellOrders 67 = .ok (.aload_n 0, 1) := by decide +kernel
theorem dX10_tellOrders_68 : decode cX10_tellOrders 68 = .ok (.getfield 33, 3) := by decide +kernel
theorem dX10_tellOrders_71 : decode cX10_tellOrders 71 = .ok (.aload_n 3, 1) := by decide +kernel
theorem dX10_tellOrders_72 : decode cX10_tellOrders 72 = .ok (.iload 4, 2) := by decide +kernel
theorem dX10_tellOrders_74 : decode cX10_tellOrders 74 = .ok (.invokevirtual 213, 3) := by decide +kernel
theorem dX10_tellOrders_77 : decode cX10_tellOrders 77 = .ok (.invokevirtual 282, 3) := by decide +kernel
theorem dX10_tellOrders_80 : decode cX10_tellOrders 80 = .ok (.ifCond .ne 6, 3) := by decide +kernel
theorem dX10_tellOrders_83 : decode cX10_tellOrders 83 = .ok (.bipush (-3), 2) := by decide +kernel
theorem dX10_tellOrders_85 : decode cX10_tellOrders 85 = .ok (.ireturn, 1) := by decide +kernel
theorem dX10_tellOrders_86 : decode cX10_tellOrders 86 = .ok (.iinc 4 1, 3) := by decide +kernel
theorem dX10_tellOrders_89 : decode cX10_tellOrders 89 = .ok (.goto (-31), 3) := by decide +kernel
theorem dX10_tellOrders_92 : decode cX10_tellOrders 92 = .ok (.iconst 0, 1) := by decide +kernel
theorem dX10_tellOrders_93 : decode cX10_tellOrders 93 = .ok (.ireturn, 1) := by decide +kernel
theorem dX10_join_0 : decode cX10_join 0 = .ok (.iload_n 1, 1) := by decide +kernel
theorem dX10_join_1 : decode cX10_join 1 = .ok (.ifCond .ne 27, 3) := by decide +kernel
theorem dX10_join_4 : decode cX10_join 4 = .ok (.aload_n 0, 1) := by decide +kernel
theorem dX10_join_5 : decode cX10_join 5 = .ok (.getfield 10, 3) := by decide +kernel
theorem dX10_join_8 : decode cX10_join 8 = .ok (.getfield 98, 3) := by decide +kernel
theorem dX10_join_11 : decode cX10_join 11 = .ok (.aload_n 0, 1) := by decide +kernel
theorem dX10_join_12 : decode cX10_join 12 = .ok (.getfield 47, 3) := by decide +kernel
theorem dX10_join_15 : decode cX10_join 15 = .ok (.getfield 120, 3) := by decide +kernel
theorem dX10_join_18 : decode cX10_join 18 = .ok (.invokestatic 286, 3) := by decide +kernel
theorem dX10_join_21 : decode cX10_join 21 = .ok (.invokevirtual 289, 3) := by decide +kernel
theorem dX10_join_24 : decode cX10_join 24 = .ok (.invokestatic 173, 3) := by decide +kernel
theorem dX10_join_27 : decode cX10_join 27 = .ok (.ireturn, 1) := by decide +kernel
theorem dX10_join_28 : decode cX10_join 28 = .ok (.iload_n 1, 1) := by decide +kernel
theorem dX10_join_29 : decode cX10_join 29 = .ok (.bipush 10, 2) := by decide +kernel
theorem dX10_join_31 : decode cX10_join 31 = .ok (.if_icmp .lt 20, 3) := by decide +kernel
theorem dX10_join_34 : decode cX10_join 34 = .ok (.aload_n 0, 1) := by decide +kernel
theorem dX10_join_35 : decode cX10_join 35 = .ok (.getfield 10, 3) := by decide +kernel
theorem dX10_join_38 : decode cX10_join 38 = .ok (.getfield 98, 3) := by decide +kernel
theorem dX10_join_41 : decode cX10_join 41 = .ok (.iload_n 1, 1) := by decide +kernel
theorem dX10_join_42 : decode cX10_join 42 = .ok (.bipush 10, 2) := by decide +kernel
theorem dX10_join_44 : decode cX10_join 44 = .ok (.isub, 1) := by decide +kernel
theorem dX10_join_45 : decode cX10_join 45 = .ok (.invokevirtual 116, 3) := by decide +kernel
theorem dX10_join_48 : decode cX10_join 48 = .ok (.ifCond .ne 6, 3) := by decide +kernel
theorem dX10_join_51 : decode cX10_join 51 = .ok (.bipush (-2), 2) := by decide +kernel
theorem dX10_join_53 : decode cX10_join 53 = .ok (.ireturn, 1) := by decide +kernel
theorem dX10_join_54 : decode cX10_join 54 = .ok (.aload_n 0, 1) := by decide +kernel
theorem dX10_join_55 : decode cX10_join 55 = .ok (.getfield 10, 3) := by decide +kernel
theorem dX10_join_58 : decode cX10_join 58 = .ok (.getfield 98, 3) := by decide +kernel
theorem dX10_join_61 : decode cX10_join 61 = .ok (.iload_n 1, 1) := by decide +kernel
theorem dX10_join_62 : decode cX10_join 62 = .ok (.bipush 10, 2) := by decide +kernel
theorem dX10_join_64 : decode cX10_join 64 = .ok (.isub, 1) := by decide +kernel
theorem dX10_join_65 : decode cX10_join 65 = .ok (.aload_n 0, 1) := by decide +kernel
theorem dX10_join_66 : decode cX10_join 66 = .ok (.getfield 47, 3) := by decide +kernel
theorem dX10_join_69 : decode cX10_join 69 = .ok (.getfield 120, 3) := by decide +kernel
theorem dX10_join_72 : decode cX10_join 72 = .ok (.invokestatic 286, 3) := by decide +kernel
theorem dX10_join_75 : decode cX10_join 75 = .ok (.invokevirtual 292, 3) := by decide +kernel
theorem dX10_join_78 : decode cX10_join 78 = .ok (.ireturn, 1) := by decide +kernel
theorem dX10_over_0 : decode cX10_over 0 = .ok (.iconst 1, 1) := by decide +kernel
theorem dX10_over_1 : decode cX10_over 1 = .ok (.aload_n 0, 1) := by decide +kernel
theorem dX10_over_2 : decode cX10_over 2 = .ok (.getfield 10, 3) := by decide +kernel
theorem dX10_over_5 : decode cX10_over 5 = .ok (.getfield 98, 3) := by decide +kernel
theorem dX10_over_8 : decode cX10_over 8 = .ok (.getfield 148, 3) := by decide +kernel
theorem dX10_over_11 : decode cX10_over 11 = .ok (.ishl, 1) := by decide +kernel
theorem dX10_over_12 : decode cX10_over 12 = .ok (.iconst 1, 1) := by decide +kernel
theorem dX10_over_13 : decode cX10_over 13 = .ok (.isub, 1) := by decide +kernel
theorem dX10_over_14 : decode cX10_over 14 = .ok (.istore_n 1, 1) := by decide +kernel
theorem dX10_over_15 : decode cX10_over 15 = .ok (.iload_n 1, 1) := by decide +kernel
theorem dX10_over_16 : decode cX10_over 16 = .ok (.aload_n 0, 1) := by decide +kernel
theorem dX10_over_17 : decode cX10_over 17 = .ok (.getfield 10, 3) := by decide +kernel
theorem dX10_over_20 : decode cX10_over 20 = .ok (.getfield 98, 3) := by decide +kernel
theorem dX10_over_23 : decode cX10_over 23 = .ok (.aload_n 0, 1) := by decide +kernel
theorem dX10_over_24 : decode cX10_over 24 = .ok (.getfield 47, 3) := by decide +kernel
theorem dX10_over_27 : decode cX10_over 27 = .ok (.getfield 120, 3) := by decide +kernel
theorem dX10_over_30 : decode cX10_over 30 = .ok (.invokestatic 286, 3) := by decide +kernel
theorem dX10_over_33 : decode cX10_over 33 = .ok (.invokevirtual 289, 3) := by decide +kernel
theorem dX10_over_36 : decode cX10_over 36 = .ok (.iconst (-1), 1) := by decide +kernel
theorem dX10_over_37 : decode cX10_over 37 = .ok (.ixor, 1) := by decide +kernel
theorem dX10_over_38 : decode cX10_over 38 = .ok (.iand, 1) := by decide +kernel
theorem dX10_over_39 : decode cX10_over 39 = .ok (.ireturn, 1) := by decide +kernel
theorem dX10_slips_0 : decode cX10_slips 0 = .ok (.aload_n 0, 1) := by decide +kernel
theorem dX10_slips_1 : decode cX10_slips 1 = .ok (.iload_n 1, 1) := by decide +kernel
theorem dX10_slips_2 : decode cX10_slips 2 = .ok (.invokevirtual 295, 3) := by decide +kernel
theorem dX10_slips_5 : decode cX10_slips 5 = .ok (.istore_n 2, 1) := by decide +kernel
theorem dX10_slips_6 : decode cX10_slips 6 = .ok (.iload_n 2, 1) := by decide +kernel
theorem dX10_slips_7 : decode cX10_slips 7 = .ok (.ifCond .eq 7, 3) := by decide +kernel
theorem dX10_slips_10 : decode cX10_slips 10 = .ok (.iload_n 2, 1) := by decide +kernel
theorem dX10_slips_11 : decode cX10_slips 11 = .ok (.goto 13, 3) := by decide +kernel
theorem dX10_slips_14 : decode cX10_slips 14 = .ok (.aload_n 0, 1) := by decide +kernel
theorem dX10_slips_15 : decode cX10_slips 15 = .ok (.aload_n 0, 1) := by decide +kernel
theorem dX10_slips_16 : decode cX10_slips 16 = .ok (.getfield 53, 3) := by decide +kernel
theorem dX10_slips_19 : decode cX10_slips 19 = .ok (.iload_n 1, 1) := by decide +kernel
theorem dX10_slips_20 : decode cX10_slips 20 = .ok (.aaload, 1) := by decide +kernel
theorem dX10_slips_21 : decode cX10_slips 21 = .ok (.invokevirtual 298, 3) := by decide +kernel
theorem dX10_slips_24 : decode cX10_slips 24 = .ok (.ireturn, 1) := by decide +kernel
theorem dX10_attempt_0 : decode cX10_attempt 0 = .ok (.aload_n 0, 1) := by decide +kernel
theorem dX10_attempt_1 : decode cX10_attempt 1 = .ok (.iload_n 1, 1) := by decide +kernel
theorem dX10_attempt_2 : decode cX10_attempt 2 = .ok (.invokevirtual 295, 3) := by decide +kernel
theorem dX10_attempt_5 : decode cX10_attempt 5 = .ok (.istore_n 2, 1) := by decide +kernel
theorem dX10_attempt_6 : decode cX10_attempt 6 = .ok (.iload_n 2, 1) := by decide +kernel
theorem dX10_attempt_7 : decode cX10_attempt 7 = .ok (.ifCond .eq 5, 3) := by decide +kernel
theorem dX10_attempt_10 : decode cX10_attempt 10 = .ok (.iload_n 2, 1) := by decide +kernel
theorem dX10_attempt_11 : decode cX10_attempt 11 = .ok (.ireturn, 1) := by decide +kernel
theorem dX10_attempt_12 : decode cX10_attempt 12 = .ok (.aload_n 0, 1) := by decide +kernel
theorem dX10_attempt_13 : decode cX10_attempt 13 = .ok (.aload_n 0, 1) := by decide +kernel
theorem dX10_attempt_14 : decode cX10_attempt 14 = .ok (.getfield 53, 3) := by decide +kernel
theorem dX10_attempt_17 : decode cX10_attempt 17 = .ok (.iload_n 1, 1) := by decide +kernel
theorem dX10_attempt_18 : decode cX10_attempt 18 = .ok (.aaload, 1) := by decide +kernel
theorem dX10_attempt_19 : decode cX10_attempt 19 = .ok (.invokevirtual 298, 3) := by decide +kernel
theorem dX10_attempt_22 : decode cX10_attempt 22 = .ok (.istore_n 3, 1) := by decide +kernel
theorem dX10_attempt_23 : decode cX10_attempt 23 = .ok (.iconst (-1), 1) := by decide +kernel
theorem dX10_attempt_24 : decode cX10_attempt 24 = .ok (.istore 4, 2) := by decide +kernel
theorem dX10_attempt_26 : decode cX10_attempt 26 = .ok (.iconst (-1), 1) := by decide +kernel
theorem dX10_attempt_27 : decode cX10_attempt 27 = .ok (.istore 5, 2) := by decide +kernel
theorem dX10_attempt_29 : decode cX10_attempt 29 = .ok (.iconst 0, 1) := by decide +kernel
theorem dX10_attempt_30 : decode cX10_attempt 30 = .ok (.istore 6, 2) := by decide +kernel
theorem dX10_attempt_32 : decode cX10_attempt 32 = .ok (.iload 6, 2) := by decide +kernel
theorem dX10_attempt_34 : decode cX10_attempt 34 = .ok (.aload_n 0, 1) := by decide +kernel
theorem dX10_attempt_35 : decode cX10_attempt 35 = .ok (.getfield 10, 3) := by decide +kernel
theorem dX10_attempt_38 : decode cX10_attempt 38 = .ok (.getfield 98, 3) := by decide +kernel
theorem dX10_attempt_41 : decode cX10_attempt 41 = .ok (.getfield 164, 3) := by decide +kernel
theorem dX10_attempt_44 : decode cX10_attempt 44 = .ok (.if_icmp .ge 86, 3) := by decide +kernel
theorem dX10_attempt_47 : decode cX10_attempt 47 = .ok (.iload_n 3, 1) := by decide +kernel
theorem dX10_attempt_48 : decode cX10_attempt 48 = .ok (.ifCond .eq 82, 3) := by decide +kernel
theorem dX10_attempt_51 : decode cX10_attempt 51 = .ok (.aload_n 0, 1) := by decide +kernel
theorem dX10_attempt_52 : decode cX10_attempt 52 = .ok (.getfield 47, 3) := by decide +kernel
theorem dX10_attempt_55 : decode cX10_attempt 55 = .ok (.getfield 120, 3) := by decide +kernel
theorem dX10_attempt_58 : decode cX10_attempt 58 = .ok (.iload 6, 2) := by decide +kernel
theorem dX10_attempt_60 : decode cX10_attempt 60 = .ok (.invokestatic 123, 3) := by decide +kernel
theorem dX10_attempt_63 : decode cX10_attempt 63 = .ok (.iconst 3, 1) := by decide +kernel
theorem dX10_attempt_64 : decode cX10_attempt 64 = .ok (.if_icmp .ne 60, 3) := by decide +kernel
theorem dX10_attempt_67 : decode cX10_attempt 67 = .ok (.iload_n 3, 1) := by decide +kernel
theorem dX10_attempt_68 : decode cX10_attempt 68 = .ok (.aload_n 0, 1) := by decide +kernel
theorem dX10_attempt_69 : decode cX10_attempt 69 = .ok (.getfield 10, 3) := by decide +kernel
theorem dX10_attempt_72 : decode cX10_attempt 72 = .ok (.iload 6, 2) := by decide +kernel
theorem dX10_attempt_74 : decode cX10_attempt 74 = .ok (.aload_n 0, 1) := by decide +kernel
theorem dX10_attempt_75 : decode cX10_attempt 75 = .ok (.getfield 47, 3) := by decide +kernel
theorem dX10_attempt_78 : decode cX10_attempt 78 = .ok (.getfield 120, 3) := by decide +kernel
theorem dX10_attempt_81 : decode cX10_attempt 81 = .ok (.invokestatic 170, 3) := by decide +kernel
theorem dX10_attempt_84 : decode cX10_attempt 84 = .ok (.invokevirtual 302, 3) := by decide +kernel
theorem dX10_attempt_87 : decode cX10_attempt 87 = .ok (.iand, 1) := by decide +kernel
theorem dX10_attempt_88 : decode cX10_attempt 88 = .ok (.istore 7, 2) := by decide +kernel
theorem dX10_attempt_90 : decode cX10_attempt 90 = .ok (.iload 7, 2) := by decide +kernel
theorem dX10_attempt_92 : decode cX10_attempt 92 = .ok (.invokestatic 173, 3) := by decide +kernel
theorem dX10_attempt_95 : decode cX10_attempt 95 = .ok (.iload_n 3, 1) := by decide +kernel
theorem dX10_attempt_96 : decode cX10_attempt 96 = .ok (.iload 7, 2) := by decide +kernel
theorem dX10_attempt_98 : decode cX10_attempt 98 = .ok (.iconst (-1), 1) := by decide +kernel
theorem dX10_attempt_99 : decode cX10_attempt 99 = .ok (.ixor, 1) := by decide +kernel
theorem dX10_attempt_100 : decode cX10_attempt 100 = .ok (.iand, 1) := by decide +kernel
theorem dX10_attempt_101 : decode cX10_attempt 101 = .ok (.invokestatic 173, 3) := by decide +kernel
theorem dX10_attempt_104 : decode cX10_attempt 104 = .ok (.invokestatic 305, 3) := by decide +kernel
theorem dX10_attempt_107 : decode cX10_attempt 107 = .ok (.istore 8, 2) := by decide +kernel
theorem dX10_attempt_109 : decode cX10_attempt 109 = .ok (.iload 8, 2) := by decide +kernel
theorem dX10_attempt_111 : decode cX10_attempt 111 = .ok (.iload 5, 2) := by decide +kernel
theorem dX10_attempt_113 : decode cX10_attempt 113 = .ok (.if_icmp .le 11, 3) := by decide +kernel
theorem dX10_attempt_116 : decode cX10_attempt 116 = .ok (.iload 8, 2) := by decide +kernel
theorem dX10_attempt_118 : decode cX10_attempt 118 = .ok (.istore 5, 2) := by decide +kernel
theorem dX10_attempt_120 : decode cX10_attempt 120 = .ok (.iload 6, 2) := by decide +kernel
theorem dX10_attempt_122 : decode cX10_attempt 122 = .ok (.istore 4, 2) := by decide +kernel
theorem dX10_attempt_124 : decode cX10_attempt 124 = .ok (.iinc 6 1, 3) := by decide +kernel
theorem dX10_attempt_127 : decode cX10_attempt 127 = .ok (.goto (-95), 3) := by decide +kernel
theorem dX10_attempt_130 : decode cX10_attempt 130 = .ok (.iload 4, 2) := by decide +kernel
theorem dX10_attempt_132 : decode cX10_attempt 132 = .ok (.ireturn, 1) := by decide +kernel
theorem dX10_noPassed_0 : decode cX10_noPassed 0 = .ok (.aload_n 0, 1) := by decide +kernel
theorem dX10_noPassed_1 : decode cX10_noPassed 1 = .ok (.iload_n 1, 1) := by decide +kernel
theorem dX10_noPassed_2 : decode cX10_noPassed 2 = .ok (.invokevirtual 217, 3) := by decide +kernel
theorem dX10_noPassed_5 : decode cX10_noPassed 5 = .ok (.istore_n 2, 1) := by decide +kernel
theorem dX10_noPassed_6 : decode cX10_noPassed 6 = .ok (.iload_n 2, 1) := by decide +kernel
theorem dX10_noPassed_7 : decode cX10_noPassed 7 = .ok (.ifCond .eq 5, 3) := by decide +kernel
theorem dX10_noPassed_10 : decode cX10_noPassed 10 = .ok (.iload_n 2, 1) := by decide +kernel
theorem dX10_noPassed_11 : decode cX10_noPassed 11 = .ok (.ireturn, 1) := by decide +kernel
theorem dX10_noPassed_12 : decode cX10_noPassed 12 = .ok (.aload_n 0, 1) := by decide +kernel
theorem dX10_noPassed_13 : decode cX10_noPassed 13 = .ok (.getfield 53, 3) := by decide +kernel
theorem dX10_noPassed_16 : decode cX10_noPassed 16 = .ok (.iload_n 1, 1) := by decide +kernel
theorem dX10_noPassed_17 : decode cX10_noPassed 17 = .ok (.aaload, 1) := by decide +kernel
theorem dX10_noPassed_18 : decode cX10_noPassed 18 = .ok (.astore_n 3, 1) := by decide +kernel
theorem dX10_noPassed_19 : decode cX10_noPassed 19 = .ok (.aload_n 3, 1) := by decide +kernel
theorem dX10_noPassed_20 : decode cX10_noPassed 20 = .ok (.getfield 212, 3) := by decide +kernel
theorem dX10_noPassed_23 : decode cX10_noPassed 23 = .ok (.iconst 1, 1) := by decide +kernel
theorem dX10_noPassed_24 : decode cX10_noPassed 24 = .ok (.if_icmp .lt 12, 3) := by decide +kernel
theorem dX10_noPassed_27 : decode cX10_noPassed 27 = .ok (.aload_n 3, 1) := by decide +kernel
theorem dX10_noPassed_28 : decode cX10_noPassed 28 = .ok (.getfield 212, 3) := by decide +kernel
theorem dX10_noPassed_31 : decode cX10_noPassed 31 = .ok (.bipush 12, 2) := by decide +kernel
theorem dX10_noPassed_33 : decode cX10_noPassed 33 = .ok (.if_icmp .le 6, 3) := by decide +kernel
theorem dX10_noPassed_36 : decode cX10_noPassed 36 = .ok (.bipush (-4), 2) := by decide +kernel
theorem dX10_noPassed_38 : decode cX10_noPassed 38 = .ok (.ireturn, 1) := by decide +kernel
theorem dX10_noPassed_39 : decode cX10_noPassed 39 = .ok (.iconst 0, 1) := by decide +kernel
theorem dX10_noPassed_40 : decode cX10_noPassed 40 = .ok (.istore 4, 2) := by decide +kernel
theorem dX10_noPassed_42 : decode cX10_noPassed 42 = .ok (.iload 4, 2) := by decide +kernel
theorem dX10_noPassed_44 : decode cX10_noPassed 44 = .ok (.aload_n 3, 1) := by decide +kernel
theorem dX10_noPassed_45 : decode cX10_noPassed 45 = .ok (.getfield 212, 3) := by decide +kernel
theorem dX10_noPassed_48 : decode cX10_noPassed 48 = .ok (.if_icmp .ge 65, 3) := by decide +kernel
theorem dX10_noPassed_51 : decode cX10_noPassed 51 = .ok (.aload_n 3, 1) := by decide +kernel
theorem dX10_noPassed_52 : decode cX10_noPassed 52 = .ok (.iload 4, 2) := by decide +kernel
theorem dX10_noPassed_54 : decode cX10_noPassed 54 = .ok (.invokevirtual 213, 3) := by decide +kernel
theorem dX10_noPassed_57 : decode cX10_noPassed 57 = .ok (.lstore 5, 2) := by decide +kernel
theorem dX10_noPassed_59 : decode cX10_noPassed 59 = .ok (.lload 5, 2) := by decide +kernel
theorem dX10_noPassed_61 : decode cX10_noPassed 61 = .ok (.lconst 0, 1) := by decide +kernel
theorem dX10_noPassed_62 : decode cX10_noPassed 62 = .ok (.lcmp, 1) := by decide +kernel
theorem dX10_noPassed_63 : decode cX10_noPassed 63 = .ok (.ifCond .lt 41, 3) := by decide +kernel
theorem dX10_noPassed_66 : decode cX10_noPassed 66 = .ok (.lload 5, 2) := by decide +kernel
theorem dX10_noPassed_68 : decode cX10_noPassed 68 = .ok (.iconst 2, 1) := by decide +kernel
theorem dX10_noPassed_69 : decode cX10_noPassed 69 = .ok (.aload_n 0, 1) := by decide +kernel
theorem dX10_noPassed_70 : decode cX10_noPassed 70 = .ok (.getfield 10, 3) := by decide +kernel
theorem dX10_noPassed_73 : decode cX10_noPassed 73 = .ok (.getfield 98, 3) := by decide +kernel
theorem dX10_noPassed_76 : decode cX10_noPassed 76 = .ok (.getfield 164, 3) := by decide +kernel
theorem dX10_noPassed_79 : decode cX10_noPassed 79 = .ok (.imul, 1) := by decide +kernel
theorem dX10_noPassed_80 : decode cX10_noPassed 80 = .ok (.i2l, 1) := by decide +kernel
theorem dX10_noPassed_81 : decode cX10_noPassed 81 = .ok (.lcmp, 1) := by decide +kernel
theorem dX10_noPassed_82 : decode cX10_noPassed 82 = .ok (.ifCond .ge 22, 3) := by decide +kernel
theorem dX10_noPassed_85 : decode cX10_noPassed 85 = .ok (.aload_n 0, 1) := by decide +kernel
theorem dX10_noPassed_86 : decode cX10_noPassed 86 = .ok (.getfield 47, 3) := by decide +kernel
theorem dX10_noPassed_89 : decode cX10_noPassed 89 = .ok (.getfield 120, 3) := by decide +kernel
theorem dX10_noPassed_92 : decode cX10_noPassed 92 = .ok (.lload 5, 2) := by decide +kernel
theorem dX10_noPassed_94 : decode cX10_noPassed 94 = .ok (.l2i, 1) := by decide +kernel
theorem dX10_noPassed_95 : decode cX10_noPassed 95 = .ok (.iconst 2, 1) := by decide +kernel
theorem dX10_noPassed_96 : decode cX10_noPassed 96 = .ok (.idiv, 1) := by decide +kernel
theorem dX10_noPassed_97 : decode cX10_noPassed 97 = .ok (.invokestatic 123, 3) := by decide +kernel
theorem dX10_noPassed_100 : decode cX10_noPassed 100 = .ok (.iconst 3, 1) := by decide +kernel
theorem dX10_noPassed_101 : decode cX10_noPassed 101 = .ok (.if_icmp .eq 6, 3) := by decide +kernel
theorem dX10_noPassed_104 : decode cX10_noPassed 104 = .ok (.bipush (-3), 2) := by decide +kernel
theorem dX10_noPassed_106 : decode cX10_noPassed 106 = .ok (.ireturn, 1) := by decide +kernel
theorem dX10_noPassed_107 : decode cX10_noPassed 107 = .ok (.iinc 4 1, 3) := by decide +kernel
theorem dX10_noPassed_110 : decode cX10_noPassed 110 = .ok (.goto (-68), 3) := by decide +kernel
theorem dX10_noPassed_113 : decode cX10_noPassed 113 = .ok (.iconst 0, 1) := by decide +kernel
theorem dX10_noPassed_114 : decode cX10_noPassed 114 = .ok (.ireturn, 1) := by decide +kernel
theorem dX10_slipsBy_0 : decode cX10_slipsBy 0 = .ok (.sipush 1023, 3) := by decide +kernel
theorem dX10_slipsBy_3 : decode cX10_slipsBy 3 = .ok (.istore_n 2, 1) := by decide +kernel
theorem dX10_slipsBy_4 : decode cX10_slipsBy 4 = .ok (.iconst 0, 1) := by decide +kernel
theorem dX10_slipsBy_5 : decode cX10_slipsBy 5 = .ok (.istore_n 3, 1) := by decide +kernel
theorem dX10_slipsBy_6 : decode cX10_slipsBy 6 = .ok (.iload_n 3, 1) := by decide +kernel
theorem dX10_slipsBy_7 : decode cX10_slipsBy 7 = .ok (.aload_n 1, 1) := by decide +kernel
theorem dX10_slipsBy_8 : decode cX10_slipsBy 8 = .ok (.getfield 212, 3) := by decide +kernel
theorem dX10_slipsBy_11 : decode cX10_slipsBy 11 = .ok (.if_icmp .ge 60, 3) := by decide +kernel
theorem dX10_slipsBy_14 : decode cX10_slipsBy 14 = .ok (.aload_n 1, 1) := by decide +kernel
theorem dX10_slipsBy_15 : decode cX10_slipsBy 15 = .ok (.iload_n 3, 1) := by decide +kernel
theorem dX10_slipsBy_16 : decode cX10_slipsBy 16 = .ok (.invokevirtual 213, 3) := by decide +kernel
theorem dX10_slipsBy_19 : decode cX10_slipsBy 19 = .ok (.l2i, 1) := by decide +kernel
theorem dX10_slipsBy_20 : decode cX10_slipsBy 20 = .ok (.istore 4, 2) := by decide +kernel
theorem dX10_slipsBy_22 : decode cX10_slipsBy 22 = .ok (.aload_n 0, 1) := by decide +kernel
theorem dX10_slipsBy_23 : decode cX10_slipsBy 23 = .ok (.getfield 10, 3) := by decide +kernel
theorem dX10_slipsBy_26 : decode cX10_slipsBy 26 = .ok (.iload 4, 2) := by decide +kernel
theorem dX10_slipsBy_28 : decode cX10_slipsBy 28 = .ok (.iconst 2, 1) := by decide +kernel
theorem dX10_slipsBy_29 : decode cX10_slipsBy 29 = .ok (.idiv, 1) := by decide +kernel
theorem dX10_slipsBy_30 : decode cX10_slipsBy 30 = .ok (.aload_n 0, 1) := by decide +kernel
theorem dX10_slipsBy_31 : decode cX10_slipsBy 31 = .ok (.getfield 47, 3) := by decide +kernel
theorem dX10_slipsBy_34 : decode cX10_slipsBy 34 = .ok (.getfield 120, 3) := by decide +kernel
theorem dX10_slipsBy_37 : decode cX10_slipsBy 37 = .ok (.invokestatic 170, 3) := by decide +kernel
theorem dX10_slipsBy_40 : decode cX10_slipsBy 40 = .ok (.invokevirtual 302, 3) := by decide +kernel
theorem dX10_slipsBy_43 : decode cX10_slipsBy 43 = .ok (.istore 5, 2) := by decide +kernel
theorem dX10_slipsBy_45 : decode cX10_slipsBy 45 = .ok (.iload_n 2, 1) := by decide +kernel
theorem dX10_slipsBy_46 : decode cX10_slipsBy 46 = .ok (.iload 4, 2) := by decide +kernel
theorem dX10_slipsBy_48 : decode cX10_slipsBy 48 = .ok (.iconst 2, 1) := by decide +kernel
theorem dX10_slipsBy_49 : decode cX10_slipsBy 49 = .ok (.irem, 1) := by decide +kernel
theorem dX10_slipsBy_50 : decode cX10_slipsBy 50 = .ok (.iconst 1, 1) := by decide +kernel
theorem dX10_slipsBy_51 : decode cX10_slipsBy 51 = .ok (.if_icmp .ne 8, 3) := by decide +kernel
theorem dX10_slipsBy_54 : decode cX10_slipsBy 54 = .ok (.iload 5, 2) := by decide +kernel
theorem dX10_slipsBy_56 : decode cX10_slipsBy 56 = .ok (.goto 7, 3) := by decide +kernel
theorem dX10_slipsBy_59 : decode cX10_slipsBy 59 = .ok (.iload 5, 2) := by decide +kernel
theorem dX10_slipsBy_61 : decode cX10_slipsBy 61 = .ok (.iconst (-1), 1) := by decide +kernel
theorem dX10_slipsBy_62 : decode cX10_slipsBy 62 = .ok (.ixor, 1) := by decide +kernel
theorem dX10_slipsBy_63 : decode cX10_slipsBy 63 = .ok (.iand, 1) := by decide +kernel
theorem dX10_slipsBy_64 : decode cX10_slipsBy 64 = .ok (.istore_n 2, 1) := by decide +kernel
theorem dX10_slipsBy_65 : decode cX10_slipsBy 65 = .ok (.iinc 3 1, 3) := by decide +kernel
theorem dX10_slipsBy_68 : decode cX10_slipsBy 68 = .ok (.goto (-62), 3) := by decide +kernel
theorem dX10_slipsBy_71 : decode cX10_slipsBy 71 = .ok (.iload_n 2, 1) := by decide +kernel
theorem dX10_slipsBy_72 : decode cX10_slipsBy 72 = .ok (.ireturn, 1) := by decide +kernel
theorem dX10_linings_0 : decode cX10_linings 0 = .ok (.iload_n 1, 1) := by decide +kernel
theorem dX10_linings_1 : decode cX10_linings 1 = .ok (.ifCond .eq 29, 3) := by decide +kernel
theorem dX10_linings_4 : decode cX10_linings 4 = .ok (.iload_n 1, 1) := by decide +kernel
theorem dX10_linings_5 : decode cX10_linings 5 = .ok (.bipush 10, 2) := by decide +kernel
theorem dX10_linings_7 : decode cX10_linings 7 = .ok (.if_icmp .lt 20, 3) := by decide +kernel
theorem dX10_linings_10 : decode cX10_linings 10 = .ok (.aload_n 0, 1) := by decide +kernel
theorem dX10_linings_11 : decode cX10_linings 11 = .ok (.getfield 10, 3) := by decide +kernel
theorem dX10_linings_14 : decode cX10_linings 14 = .ok (.getfield 98, 3) := by decide +kernel
theorem dX10_linings_17 : decode cX10_linings 17 = .ok (.iload_n 1, 1) := by decide +kernel
theorem dX10_linings_18 : decode cX10_linings 18 = .ok (.bipush 10, 2) := by decide +kernel
theorem dX10_linings_20 : decode cX10_linings 20 = .ok (.isub, 1) := by decide +kernel
theorem dX10_linings_21 : decode cX10_linings 21 = .ok (.invokevirtual 116, 3) := by decide +kernel
theorem dX10_linings_24 : decode cX10_linings 24 = .ok (.ifCond .ne 6, 3) := by decide +kernel
theorem dX10_linings_27 : decode cX10_linings 27 = .ok (.bipush (-2), 2) := by decide +kernel
theorem dX10_linings_29 : decode cX10_linings 29 = .ok (.ireturn, 1) := by decide +kernel
theorem dX10_linings_30 : decode cX10_linings 30 = .ok (.aload_n 0, 1) := by decide +kernel
theorem dX10_linings_31 : decode cX10_linings 31 = .ok (.getfield 40, 3) := by decide +kernel
theorem dX10_linings_34 : decode cX10_linings 34 = .ok (.aload_n 0, 1) := by decide +kernel
theorem dX10_linings_35 : decode cX10_linings 35 = .ok (.getfield 10, 3) := by decide +kernel
theorem dX10_linings_38 : decode cX10_linings 38 = .ok (.getfield 98, 3) := by decide +kernel
theorem dX10_linings_41 : decode cX10_linings 41 = .ok (.aload_n 0, 1) := by decide +kernel
theorem dX10_linings_42 : decode cX10_linings 42 = .ok (.getfield 47, 3) := by decide +kernel
theorem dX10_linings_45 : decode cX10_linings 45 = .ok (.getfield 120, 3) := by decide +kernel
theorem dX10_linings_48 : decode cX10_linings 48 = .ok (.invokestatic 158, 3) := by decide +kernel
theorem dX10_linings_51 : decode cX10_linings 51 = .ok (.invokevirtual 310, 3) := by decide +kernel
theorem dX10_linings_54 : decode cX10_linings 54 = .ok (.istore_n 2, 1) := by decide +kernel
theorem dX10_linings_55 : decode cX10_linings 55 = .ok (.iload_n 1, 1) := by decide +kernel
theorem dX10_linings_56 : decode cX10_linings 56 = .ok (.ifCond .ne 7, 3) := by decide +kernel
theorem dX10_linings_59 : decode cX10_linings 59 = .ok (.iload_n 2, 1) := by decide +kernel
theorem dX10_linings_60 : decode cX10_linings 60 = .ok (.goto 14, 3) := by decide +kernel
theorem dX10_linings_63 : decode cX10_linings 63 = .ok (.aload_n 0, 1) := by decide +kernel
theorem dX10_linings_64 : decode cX10_linings 64 = .ok (.getfield 40, 3) := by decide +kernel
theorem dX10_linings_67 : decode cX10_linings 67 = .ok (.iload_n 1, 1) := by decide +kernel
theorem dX10_linings_68 : decode cX10_linings 68 = .ok (.bipush 10, 2) := by decide +kernel
theorem dX10_linings_70 : decode cX10_linings 70 = .ok (.isub, 1) := by decide +kernel
theorem dX10_linings_71 : decode cX10_linings 71 = .ok (.invokevirtual 314, 3) := by decide +kernel
theorem dX10_linings_74 : decode cX10_linings 74 = .ok (.ireturn, 1) := by decide +kernel
theorem dX10_clique_0 : decode cX10_clique 0 = .ok (.aload_n 0, 1) := by decide +kernel
theorem dX10_clique_1 : decode cX10_clique 1 = .ok (.getfield 40, 3) := by decide +kernel
theorem dX10_clique_4 : decode cX10_clique 4 = .ok (.aload_n 0, 1) := by decide +kernel
theorem dX10_clique_5 : decode cX10_clique 5 = .ok (.getfield 10, 3) := by decide +kernel
theorem dX10_clique_8 : decode cX10_clique 8 = .ok (.getfield 98, 3) := by decide +kernel
theorem dX10_clique_11 : decode cX10_clique 11 = .ok (.aload_n 0, 1) := by decide +kernel
theorem dX10_clique_12 : decode cX10_clique 12 = .ok (.getfield 47, 3) := by decide +kernel
theorem dX10_clique_15 : decode cX10_clique 15 = .ok (.getfield 120, 3) := by decide +kernel
theorem dX10_clique_18 : decode cX10_clique 18 = .ok (.invokestatic 158, 3) := by decide +kernel
theorem dX10_clique_21 : decode cX10_clique 21 = .ok (.invokevirtual 317, 3) := by decide +kernel
theorem dX10_clique_24 : decode cX10_clique 24 = .ok (.ireturn, 1) := by decide +kernel
theorem dX10_forces_0 : decode cX10_forces 0 = .ok (.aload_n 0, 1) := by decide +kernel
theorem dX10_forces_1 : decode cX10_forces 1 = .ok (.getfield 10, 3) := by decide +kernel
theorem dX10_forces_4 : decode cX10_forces 4 = .ok (.getfield 98, 3) := by decide +kernel
theorem dX10_forces_7 : decode cX10_forces 7 = .ok (.iload_n 1, 1) := by decide +kernel
theorem dX10_forces_8 : decode cX10_forces 8 = .ok (.invokevirtual 224, 3) := by decide +kernel
theorem dX10_forces_11 : decode cX10_forces 11 = .ok (.ifCond .ne 6, 3) := by decide +kernel
theorem dX10_forces_14 : decode cX10_forces 14 = .ok (.bipush (-3), 2) := by decide +kernel
theorem dX10_forces_16 : decode cX10_forces 16 = .ok (.ireturn, 1) := by decide +kernel
theorem dX10_forces_17 : decode cX10_forces 17 = .ok (.aload_n 0, 1) := by decide +kernel
theorem dX10_forces_18 : decode cX10_forces 18 = .ok (.getfield 10, 3) := by decide +kernel
theorem dX10_forces_21 : decode cX10_forces 21 = .ok (.aload_n 0, 1) := by decide +kernel
theorem dX10_forces_22 : decode cX10_forces 22 = .ok (.getfield 47, 3) := by decide +kernel
theorem dX10_forces_25 : decode cX10_forces 25 = .ok (.getfield 120, 3) := by decide +kernel
theorem dX10_forces_28 : decode cX10_forces 28 = .ok (.iload_n 1, 1) := by decide +kernel
theorem dX10_forces_29 : decode cX10_forces 29 = .ok (.invokestatic 320, 3) := by decide +kernel
theorem dX10_forces_32 : decode cX10_forces 32 = .ok (.ireturn, 1) := by decide +kernel
theorem dX10_best_0 : decode cX10_best 0 = .ok (.aload_n 0, 1) := by decide +kernel
theorem dX10_best_1 : decode cX10_best 1 = .ok (.getfield 10, 3) := by decide +kernel
theorem dX10_best_4 : decode cX10_best 4 = .ok (.getfield 98, 3) := by decide +kernel
theorem dX10_best_7 : decode cX10_best 7 = .ok (.iload_n 1, 1) := by decide +kernel
theorem dX10_best_8 : decode cX10_best 8 = .ok (.invokevirtual 224, 3) := by decide +kernel
theorem dX10_best_11 : decode cX10_best 11 = .ok (.ifCond .ne 6, 3) := by decide +kernel
theorem dX10_best_14 : decode cX10_best 14 = .ok (.bipush (-3), 2) := by decide +kernel
theorem dX10_best_16 : decode cX10_best 16 = .ok (.ireturn, 1) := by decide +kernel
theorem dX10_best_17 : decode cX10_best 17 = .ok (.aload_n 0, 1) := by decide +kernel
theorem dX10_best_18 : decode cX10_best 18 = .ok (.getfield 10, 3) := by decide +kernel
theorem dX10_best_21 : decode cX10_best 21 = .ok (.aload_n 0, 1) := by decide +kernel
theorem dX10_best_22 : decode cX10_best 22 = .ok (.getfield 47, 3) := by decide +kernel
theorem dX10_best_25 : decode cX10_best 25 = .ok (.getfield 120, 3) := by decide +kernel
theorem dX10_best_28 : decode cX10_best 28 = .ok (.iload_n 1, 1) := by decide +kernel
theorem dX10_best_29 : decode cX10_best 29 = .ok (.aload_n 0, 1) := by decide +kernel
theorem dX10_best_30 : decode cX10_best 30 = .ok (.getfield 10, 3) := by decide +kernel
theorem dX10_best_33 : decode cX10_best 33 = .ok (.aload_n 0, 1) := by decide +kernel
theorem dX10_best_34 : decode cX10_best 34 = .ok (.getfield 47, 3) := by decide +kernel
theorem dX10_best_37 : decode cX10_best 37 = .ok (.getfield 120, 3) := by decide +kernel
theorem dX10_best_40 : decode cX10_best 40 = .ok (.iload_n 1, 1) := by decide +kernel
theorem dX10_best_41 : decode cX10_best 41 = .ok (.invokestatic 320, 3) := by decide +kernel
theorem dX10_best_44 : decode cX10_best 44 = .ok (.invokestatic 325, 3) := by decide +kernel
theorem dX10_best_47 : decode cX10_best 47 = .ok (.ireturn, 1) := by decide +kernel
theorem dX10_chance_0 : decode cX10_chance 0 = .ok (.aload_n 0, 1) := by decide +kernel
theorem dX10_chance_1 : decode cX10_chance 1 = .ok (.getfield 10, 3) := by decide +kernel
theorem dX10_chance_4 : decode cX10_chance 4 = .ok (.getfield 98, 3) := by decide +kernel
theorem dX10_chance_7 : decode cX10_chance 7 = .ok (.iload_n 1, 1) := by decide +kernel
theorem dX10_chance_8 : decode cX10_chance 8 = .ok (.invokevirtual 116, 3) := by decide +kernel
theorem dX10_chance_11 : decode cX10_chance 11 = .ok (.ifCond .eq 12, 3) := by decide +kernel
theorem dX10_chance_14 : decode cX10_chance 14 = .ok (.iload_n 2, 1) := by decide +kernel
theorem dX10_chance_15 : decode cX10_chance 15 = .ok (.ifCond .lt 8, 3) := by decide +kernel
theorem dX10_chance_18 : decode cX10_chance 18 = .ok (.iload_n 2, 1) := by decide +kernel
theorem dX10_chance_19 : decode cX10_chance 19 = .ok (.iconst 1, 1) := by decide +kernel
theorem dX10_chance_20 : decode cX10_chance 20 = .ok (.if_icmp .le 7, 3) := by decide +kernel
theorem dX10_chance_23 : decode cX10_chance 23 = .ok (.ldc2_w 329, 3) := by decide +kernel
theorem dX10_chance_26 : decode cX10_chance 26 = .ok (.lreturn, 1) := by decide +kernel
theorem dX10_chance_27 : decode cX10_chance 27 = .ok (.aload_n 0, 1) := by decide +kernel
theorem dX10_chance_28 : decode cX10_chance 28 = .ok (.iload_n 1, 1) := by decide +kernel
theorem dX10_chance_29 : decode cX10_chance 29 = .ok (.invokevirtual 154, 3) := by decide +kernel
theorem dX10_chance_32 : decode cX10_chance 32 = .ok (.ifCond .eq 7, 3) := by decide +kernel
theorem dX10_chance_35 : decode cX10_chance 35 = .ok (.ldc2_w 331, 3) := by decide +kernel
theorem dX10_chance_38 : decode cX10_chance 38 = .ok (.lreturn, 1) := by decide +kernel
theorem dX10_chance_39 : decode cX10_chance 39 = .ok (.aload_n 0, 1) := by decide +kernel
theorem dX10_chance_40 : decode cX10_chance 40 = .ok (.getfield 10, 3) := by decide +kernel
theorem dX10_chance_43 : decode cX10_chance 43 = .ok (.aload_n 0, 1) := by decide +kernel
theorem dX10_chance_44 : decode cX10_chance 44 = .ok (.getfield 47, 3) := by decide +kernel
theorem dX10_chance_47 : decode cX10_chance 47 = .ok (.getfield 120, 3) := by decide +kernel
theorem dX10_chance_50 : decode cX10_chance 50 = .ok (.iload_n 1, 1) := by decide +kernel
theorem dX10_chance_51 : decode cX10_chance 51 = .ok (.invokevirtual 333, 3) := by decide +kernel
theorem dX10_chance_54 : decode cX10_chance 54 = .ok (.iload_n 2, 1) := by decide +kernel
theorem dX10_chance_55 : decode cX10_chance 55 = .ok (.invokestatic 337, 3) := by decide +kernel
theorem dX10_chance_58 : decode cX10_chance 58 = .ok (.lreturn, 1) := by decide +kernel
theorem dX10_mean_0 : decode cX10_mean 0 = .ok (.iload_n 1, 1) := by decide +kernel
theorem dX10_mean_1 : decode cX10_mean 1 = .ok (.ifCond .lt 8, 3) := by decide +kernel
theorem dX10_mean_4 : decode cX10_mean 4 = .ok (.iload_n 1, 1) := by decide +kernel
theorem dX10_mean_5 : decode cX10_mean 5 = .ok (.iconst 1, 1) := by decide +kernel
theorem dX10_mean_6 : decode cX10_mean 6 = .ok (.if_icmp .le 7, 3) := by decide +kernel
theorem dX10_mean_9 : decode cX10_mean 9 = .ok (.ldc2_w 329, 3) := by decide +kernel
theorem dX10_mean_12 : decode cX10_mean 12 = .ok (.lreturn, 1) := by decide +kernel
theorem dX10_mean_13 : decode cX10_mean 13 = .ok (.aload_n 0, 1) := by decide +kernel
theorem dX10_mean_14 : decode cX10_mean 14 = .ok (.getfield 10, 3) := by decide +kernel
theorem dX10_mean_17 : decode cX10_mean 17 = .ok (.aload_n 0, 1) := by decide +kernel
theorem dX10_mean_18 : decode cX10_mean 18 = .ok (.getfield 47, 3) := by decide +kernel
theorem dX10_mean_21 : decode cX10_mean 21 = .ok (.getfield 120, 3) := by decide +kernel
theorem dX10_mean_24 : decode cX10_mean 24 = .ok (.invokevirtual 341, 3) := by decide +kernel
theorem dX10_mean_27 : decode cX10_mean 27 = .ok (.iload_n 1, 1) := by decide +kernel
theorem dX10_mean_28 : decode cX10_mean 28 = .ok (.invokestatic 337, 3) := by decide +kernel
theorem dX10_mean_31 : decode cX10_mean 31 = .ok (.lreturn, 1) := by decide +kernel
theorem dX10_wanted_0 : decode cX10_wanted 0 = .ok (.iconst (-1), 1) := by decide +kernel
theorem dX10_wanted_1 : decode cX10_wanted 1 = .ok (.istore_n 1, 1) := by decide +kernel
theorem dX10_wanted_2 : decode cX10_wanted 2 = .ok (.ldc2_w 344, 3) := by decide +kernel
theorem dX10_wanted_5 : decode cX10_wanted 5 = .ok (.lstore_n 2, 1) := by decide +kernel
theorem dX10_wanted_6 : decode cX10_wanted 6 = .ok (.iconst 0, 1) := by decide +kernel
theorem dX10_wanted_7 : decode cX10_wanted 7 = .ok (.istore 4, 2) := by decide +kernel
theorem dX10_wanted_9 : decode cX10_wanted 9 = .ok (.iload 4, 2) := by decide +kernel
theorem dX10_wanted_11 : decode cX10_wanted 11 = .ok (.aload_n 0, 1) := by decide +kernel
theorem dX10_wanted_12 : decode cX10_wanted 12 = .ok (.getfield 10, 3) := by decide +kernel
theorem dX10_wanted_15 : decode cX10_wanted 15 = .ok (.getfield 98, 3) := by decide +kernel
theorem dX10_wanted_18 : decode cX10_wanted 18 = .ok (.getfield 164, 3) := by decide +kernel
theorem dX10_wanted_21 : decode cX10_wanted 21 = .ok (.if_icmp .ge 61, 3) := by decide +kernel
theorem dX10_wanted_24 : decode cX10_wanted 24 = .ok (.aload_n 0, 1) := by decide +kernel
theorem dX10_wanted_25 : decode cX10_wanted 25 = .ok (.getfield 47, 3) := by decide +kernel
theorem dX10_wanted_28 : decode cX10_wanted 28 = .ok (.getfield 120, 3) := by decide +kernel
theorem dX10_wanted_31 : decode cX10_wanted 31 = .ok (.iload 4, 2) := by decide +kernel
theorem dX10_wanted_33 : decode cX10_wanted 33 = .ok (.invokestatic 123, 3) := by decide +kernel
theorem dX10_wanted_36 : decode cX10_wanted 36 = .ok (.iconst 2, 1) := by decide +kernel
theorem dX10_wanted_37 : decode cX10_wanted 37 = .ok (.if_icmp .ne 39, 3) := by decide +kernel
theorem dX10_wanted_40 : decode cX10_wanted 40 = .ok (.aload_n 0, 1) := by decide +kernel
theorem dX10_wanted_41 : decode cX10_wanted 41 = .ok (.getfield 10, 3) := by decide +kernel
theorem dX10_wanted_44 : decode cX10_wanted 44 = .ok (.aload_n 0, 1) := by decide +kernel
theorem dX10_wanted_45 : decode cX10_wanted 45 = .ok (.getfield 47, 3) := by decide +kernel
theorem dX10_wanted_48 : decode cX10_wanted 48 = .ok (.getfield 120, 3) := by decide +kernel
theorem dX10_wanted_51 : decode cX10_wanted 51 = .ok (.sipush 256, 3) := by decide +kernel
theorem dX10_wanted_54 : decode cX10_wanted 54 = .ok (.iload 4, 2) := by decide +kernel
theorem dX10_wanted_56 : decode cX10_wanted 56 = .ok (.ishl, 1) := by decide +kernel
theorem dX10_wanted_57 : decode cX10_wanted 57 = .ok (.ior, 1) := by decide +kernel
theorem dX10_wanted_58 : decode cX10_wanted 58 = .ok (.invokevirtual 341, 3) := by decide +kernel
theorem dX10_wanted_61 : decode cX10_wanted 61 = .ok (.lstore 5, 2) := by decide +kernel
theorem dX10_wanted_63 : decode cX10_wanted 63 = .ok (.lload 5, 2) := by decide +kernel
theorem dX10_wanted_65 : decode cX10_wanted 65 = .ok (.lload_n 2, 1) := by decide +kernel
theorem dX10_wanted_66 : decode cX10_wanted 66 = .ok (.lcmp, 1) := by decide +kernel
theorem dX10_wanted_67 : decode cX10_wanted 67 = .ok (.ifCond .le 9, 3) := by decide +kernel
theorem dX10_wanted_70 : decode cX10_wanted 70 = .ok (.lload 5, 2) := by decide +kernel
theorem dX10_wanted_72 : decode cX10_wanted 72 = .ok (.lstore_n 2, 1) := by decide +kernel
theorem dX10_wanted_73 : decode cX10_wanted 73 = .ok (.iload 4, 2) := by decide +kernel
theorem dX10_wanted_75 : decode cX10_wanted 75 = .ok (.istore_n 1, 1) := by decide +kernel
theorem dX10_wanted_76 : decode cX10_wanted 76 = .ok (.iinc 4 1, 3) := by decide +kernel
theorem dX10_wanted_79 : decode cX10_wanted 79 = .ok (.goto (-70), 3) := by decide +kernel
theorem dX10_wanted_82 : decode cX10_wanted 82 = .ok (.iload_n 1, 1) := by decide +kernel
theorem dX10_wanted_83 : decode cX10_wanted 83 = .ok (.ireturn, 1) := by decide +kernel
theorem dX10_numbers_0 : decode cX10_numbers 0 = .ok (.iload_n 1, 1) := by decide +kernel
theorem dX10_numbers_1 : decode cX10_numbers 1 = .ok (.ifCond .lt 17, 3) := by decide +kernel
theorem dX10_numbers_4 : decode cX10_numbers 4 = .ok (.iload_n 1, 1) := by decide +kernel
theorem dX10_numbers_5 : decode cX10_numbers 5 = .ok (.iconst 4, 1) := by decide +kernel
theorem dX10_numbers_6 : decode cX10_numbers 6 = .ok (.if_icmp .ge 12, 3) := by decide +kernel
theorem dX10_numbers_9 : decode cX10_numbers 9 = .ok (.iload_n 2, 1) := by decide +kernel
theorem dX10_numbers_10 : decode cX10_numbers 10 = .ok (.ifCond .lt 8, 3) := by decide +kernel
theorem dX10_numbers_13 : decode cX10_numbers 13 = .ok (.iload_n 2, 1) := by decide +kernel
theorem dX10_numbers_14 : decode cX10_numbers 14 = .ok (.iconst 3, 1) := by decide +kernel
theorem dX10_numbers_15 : decode cX10_numbers 15 = .ok (.if_icmp .le 6, 3) := by decide +kernel
theorem dX10_numbers_18 : decode cX10_numbers 18 = .ok (.bipush (-2), 2) := by decide +kernel
theorem dX10_numbers_20 : decode cX10_numbers 20 = .ok (.ireturn, 1) := by decide +kernel
theorem dX10_numbers_21 : decode cX10_numbers 21 = .ok (.iload_n 3, 1) := by decide +kernel
theorem dX10_numbers_22 : decode cX10_numbers 22 = .ok (.ifCond .lt 9, 3) := by decide +kernel
theorem dX10_numbers_25 : decode cX10_numbers 25 = .ok (.iload_n 3, 1) := by decide +kernel
theorem dX10_numbers_26 : decode cX10_numbers 26 = .ok (.bipush 40, 2) := by decide +kernel
theorem dX10_numbers_28 : decode cX10_numbers 28 = .ok (.if_icmp .le 6, 3) := by decide +kernel
theorem dX10_numbers_31 : decode cX10_numbers 31 = .ok (.bipush (-3), 2) := by decide +kernel
theorem dX10_numbers_33 : decode cX10_numbers 33 = .ok (.ireturn, 1) := by decide +kernel
theorem dX10_numbers_34 : decode cX10_numbers 34 = .ok (.aload_n 0, 1) := by decide +kernel
theorem dX10_numbers_35 : decode cX10_numbers 35 = .ok (.getfield 53, 3) := by decide +kernel
theorem dX10_numbers_38 : decode cX10_numbers 38 = .ok (.iload_n 1, 1) := by decide +kernel
theorem dX10_numbers_39 : decode cX10_numbers 39 = .ok (.aaload, 1) := by decide +kernel
theorem dX10_numbers_40 : decode cX10_numbers 40 = .ok (.iload_n 2, 1) := by decide +kernel
theorem dX10_numbers_41 : decode cX10_numbers 41 = .ok (.iload_n 3, 1) := by decide +kernel
theorem dX10_numbers_42 : decode cX10_numbers 42 = .ok (.invokevirtual 346, 3) := by decide +kernel
theorem dX10_numbers_45 : decode cX10_numbers 45 = .ok (.iconst 0, 1) := by decide +kernel
theorem dX10_numbers_46 : decode cX10_numbers 46 = .ok (.ireturn, 1) := by decide +kernel
theorem dX10_write_0 : decode cX10_write 0 = .ok (.aload_n 0, 1) := by decide +kernel
theorem dX10_write_1 : decode cX10_write 1 = .ok (.iload_n 1, 1) := by decide +kernel
theorem dX10_write_2 : decode cX10_write 2 = .ok (.invokevirtual 217, 3) := by decide +kernel
theorem dX10_write_5 : decode cX10_write 5 = .ok (.istore 5, 2) := by decide +kernel
theorem dX10_write_7 : decode cX10_write 7 = .ok (.iload 5, 2) := by decide +kernel
theorem dX10_write_9 : decode cX10_write 9 = .ok (.ifCond .eq 7, 3) := by decide +kernel
theorem dX10_write_12 : decode cX10_write 12 = .ok (.iload 5, 2) := by decide +kernel
theorem dX10_write_14 : decode cX10_write 14 = .ok (.i2l, 1) := by decide +kernel
theorem dX10_write_15 : decode cX10_write 15 = .ok (.lreturn, 1) := by decide +kernel
theorem dX10_write_16 : decode cX10_write 16 = .ok (.iload_n 2, 1) := by decide +kernel
theorem dX10_write_17 : decode cX10_write 17 = .ok (.ifCond .lt 16, 3) := by decide +kernel
theorem dX10_write_20 : decode cX10_write 20 = .ok (.iload_n 2, 1) := by decide +kernel
theorem dX10_write_21 : decode cX10_write 21 = .ok (.aload_n 0, 1) := by decide +kernel
theorem dX10_write_22 : decode cX10_write 22 = .ok (.getfield 53, 3) := by decide +kernel
theorem dX10_write_25 : decode cX10_write 25 = .ok (.iload_n 1, 1) := by decide +kernel
theorem dX10_write_26 : decode cX10_write 26 = .ok (.aaload, 1) := by decide +kernel
theorem dX10_write_27 : decode cX10_write 27 = .ok (.getfield 212, 3) := by decide +kernel
theorem dX10_write_30 : decode cX10_write 30 = .ok (.if_icmp .lt 7, 3) := by decide +kernel
theorem dX10_write_33 : decode cX10_write 33 = .ok (.ldc2_w 348, 3) := by decide +kernel
theorem dX10_write_36 : decode cX10_write 36 = .ok (.lreturn, 1) := by decide +kernel
theorem dX10_write_37 : decode cX10_write 37 = .ok (.aload_n 0, 1) := by decide +kernel
theorem dX10_write_38 : decode cX10_write 38 = .ok (.getfield 53, 3) := by decide +kernel
theorem dX10_write_41 : decode cX10_write 41 = .ok (.iload_n 1, 1) := by decide +kernel
theorem dX10_write_42 : decode cX10_write 42 = .ok (.aaload, 1) := by decide +kernel
theorem dX10_write_43 : decode cX10_write 43 = .ok (.iload_n 2, 1) := by decide +kernel
theorem dX10_write_44 : decode cX10_write 44 = .ok (.lload_n 3, 1) := by decide +kernel
theorem dX10_write_45 : decode cX10_write 45 = .ok (.invokevirtual 350, 3) := by decide +kernel
theorem dX10_write_48 : decode cX10_write 48 = .ok (.aload_n 0, 1) := by decide +kernel
theorem dX10_write_49 : decode cX10_write 49 = .ok (.getfield 53, 3) := by decide +kernel
theorem dX10_write_52 : decode cX10_write 52 = .ok (.iload_n 1, 1) := by decide +kernel
theorem dX10_write_53 : decode cX10_write 53 = .ok (.aaload, 1) := by decide +kernel
theorem dX10_write_54 : decode cX10_write 54 = .ok (.iload_n 2, 1) := by decide +kernel
theorem dX10_write_55 : decode cX10_write 55 = .ok (.invokevirtual 213, 3) := by decide +kernel
theorem dX10_write_58 : decode cX10_write 58 = .ok (.lreturn, 1) := by decide +kernel
theorem dX10_lists_0 : decode cX10_lists 0 = .ok (.aload_n 0, 1) := by decide +kernel
theorem dX10_lists_1 : decode cX10_lists 1 = .ok (.iload_n 1, 1) := by decide +kernel
theorem dX10_lists_2 : decode cX10_lists 2 = .ok (.invokevirtual 217, 3) := by decide +kernel
theorem dX10_lists_5 : decode cX10_lists 5 = .ok (.istore_n 3, 1) := by decide +kernel
theorem dX10_lists_6 : decode cX10_lists 6 = .ok (.iload_n 3, 1) := by decide +kernel
theorem dX10_lists_7 : decode cX10_lists 7 = .ok (.ifCond .eq 5, 3) := by decide +kernel
theorem dX10_lists_10 : decode cX10_lists 10 = .ok (.iload_n 3, 1) := by decide +kernel
theorem dX10_lists_11 : decode cX10_lists 11 = .ok (.ireturn, 1) := by decide +kernel
theorem dX10_lists_12 : decode cX10_lists 12 = .ok (.aload_n 0, 1) := by decide +kernel
theorem dX10_lists_13 : decode cX10_lists 13 = .ok (.getfield 10, 3) := by decide +kernel
theorem dX10_lists_16 : decode cX10_lists 16 = .ok (.getfield 98, 3) := by decide +kernel
theorem dX10_lists_19 : decode cX10_lists 19 = .ok (.iload_n 2, 1) := by decide +kernel
theorem dX10_lists_20 : decode cX10_lists 20 = .ok (.invokevirtual 224, 3) := by decide +kernel
theorem dX10_lists_23 : decode cX10_lists 23 = .ok (.ifCond .ne 6, 3) := by decide +kernel
theorem dX10_lists_26 : decode cX10_lists 26 = .ok (.bipush (-3), 2) := by decide +kernel
theorem dX10_lists_28 : decode cX10_lists 28 = .ok (.ireturn, 1) := by decide +kernel
theorem dX10_lists_29 : decode cX10_lists 29 = .ok (.aload_n 0, 1) := by decide +kernel
theorem dX10_lists_30 : decode cX10_lists 30 = .ok (.getfield 26, 3) := by decide +kernel
theorem dX10_lists_33 : decode cX10_lists 33 = .ok (.aload_n 0, 1) := by decide +kernel
theorem dX10_lists_34 : decode cX10_lists 34 = .ok (.getfield 10, 3) := by decide +kernel
theorem dX10_lists_37 : decode cX10_lists 37 = .ok (.aload_n 0, 1) := by decide +kernel
theorem dX10_lists_38 : decode cX10_lists 38 = .ok (.getfield 47, 3) := by decide +kernel
theorem dX10_lists_41 : decode cX10_lists 41 = .ok (.getfield 120, 3) := by decide +kernel
theorem dX10_lists_44 : decode cX10_lists 44 = .ok (.invokestatic 227, 3) := by decide +kernel
theorem dX10_lists_47 : decode cX10_lists 47 = .ok (.iload_n 2, 1) := by decide +kernel
theorem dX10_lists_48 : decode cX10_lists 48 = .ok (.invokevirtual 240, 3) := by decide +kernel
theorem dX10_lists_51 : decode cX10_lists 51 = .ok (.istore 4, 2) := by decide +kernel
theorem dX10_lists_53 : decode cX10_lists 53 = .ok (.iload 4, 2) := by decide +kernel
theorem dX10_lists_55 : decode cX10_lists 55 = .ok (.ifCond .ge 6, 3) := by decide +kernel
theorem dX10_lists_58 : decode cX10_lists 58 = .ok (.bipush (-5), 2) := by decide +kernel
theorem dX10_lists_60 : decode cX10_lists 60 = .ok (.ireturn, 1) := by decide +kernel
theorem dX10_lists_61 : decode cX10_lists 61 = .ok (.aload_n 0, 1) := by decide +kernel
theorem dX10_lists_62 : decode cX10_lists 62 = .ok (.getfield 26, 3) := by decide +kernel
theorem dX10_lists_65 : decode cX10_lists 65 = .ok (.iload 4, 2) := by decide +kernel
theorem dX10_lists_67 : decode cX10_lists 67 = .ok (.invokevirtual 234, 3) := by decide +kernel
theorem dX10_lists_70 : decode cX10_lists 70 = .ok (.aload_n 0, 1) := by decide +kernel
theorem dX10_lists_71 : decode cX10_lists 71 = .ok (.getfield 53, 3) := by decide +kernel
theorem dX10_lists_74 : decode cX10_lists 74 = .ok (.iload_n 1, 1) := by decide +kernel
theorem dX10_lists_75 : decode cX10_lists 75 = .ok (.aaload, 1) := by decide +kernel
theorem dX10_lists_76 : decode cX10_lists 76 = .ok (.getfield 212, 3) := by decide +kernel
theorem dX10_lists_79 : decode cX10_lists 79 = .ok (.invokestatic 305, 3) := by decide +kernel
theorem dX10_lists_82 : decode cX10_lists 82 = .ok (.istore 5, 2) := by decide +kernel
theorem dX10_lists_84 : decode cX10_lists 84 = .ok (.iconst 0, 1) := by decide +kernel
theorem dX10_lists_85 : decode cX10_lists 85 = .ok (.istore 6, 2) := by decide +kernel
theorem dX10_lists_87 : decode cX10_lists 87 = .ok (.iload 6, 2) := by decide +kernel
theorem dX10_lists_89 : decode cX10_lists 89 = .ok (.iload 5, 2) := by decide +kernel
theorem dX10_lists_91 : decode cX10_lists 91 = .ok (.if_icmp .ge 32, 3) := by decide +kernel
theorem dX10_lists_94 : decode cX10_lists 94 = .ok (.aload_n 0, 1) := by decide +kernel
theorem dX10_lists_95 : decode cX10_lists 95 = .ok (.getfield 53, 3) := by decide +kernel
theorem dX10_lists_98 : decode cX10_lists 98 = .ok (.iload_n 1, 1) := by decide +kernel
theorem dX10_lists_99 : decode cX10_lists 99 = .ok (.aaload, 1) := by decide +kernel
theorem dX10_lists_100 : decode cX10_lists 100 = .ok (.iload 6, 2) := by decide +kernel
theorem dX10_lists_102 : decode cX10_lists 102 = .ok (.aload_n 0, 1) := by decide +kernel
theorem dX10_lists_103 : decode cX10_lists 103 = .ok (.getfield 26, 3) := by decide +kernel
theorem dX10_lists_106 : decode cX10_lists 106 = .ok (.iload 4, 2) := by decide +kernel
theorem dX10_lists_108 : decode cX10_lists 108 = .ok (.iload 6, 2) := by decide +kernel
theorem dX10_lists_110 : decode cX10_lists 110 = .ok (.invokevirtual 237, 3) := by decide +kernel
theorem dX10_lists_113 : decode cX10_lists 113 = .ok (.i2l, 1) := by decide +kernel
theorem dX10_lists_114 : decode cX10_lists 114 = .ok (.invokevirtual 350, 3) := by decide +kernel
theorem dX10_lists_117 : decode cX10_lists 117 = .ok (.iinc 6 1, 3) := by decide +kernel
theorem dX10_lists_120 : decode cX10_lists 120 = .ok (.goto (-33), 3) := by decide +kernel
theorem dX10_lists_123 : decode cX10_lists 123 = .ok (.iload 5, 2) := by decide +kernel
theorem dX10_lists_125 : decode cX10_lists 125 = .ok (.ireturn, 1) := by decide +kernel
theorem dX10_image_0 : decode cX10_image 0 = .ok (.iload_n 1, 1) := by decide +kernel
theorem dX10_image_1 : decode cX10_image 1 = .ok (.ifCond .lt 8, 3) := by decide +kernel
theorem dX10_image_4 : decode cX10_image 4 = .ok (.iload_n 1, 1) := by decide +kernel
theorem dX10_image_5 : decode cX10_image 5 = .ok (.iconst 2, 1) := by decide +kernel
theorem dX10_image_6 : decode cX10_image 6 = .ok (.if_icmp .lt 6, 3) := by decide +kernel
theorem dX10_image_9 : decode cX10_image 9 = .ok (.bipush (-2), 2) := by decide +kernel
theorem dX10_image_11 : decode cX10_image 11 = .ok (.ireturn, 1) := by decide +kernel
theorem dX10_image_12 : decode cX10_image 12 = .ok (.aload_n 0, 1) := by decide +kernel
theorem dX10_image_13 : decode cX10_image 13 = .ok (.getfield 59, 3) := by decide +kernel
theorem dX10_image_16 : decode cX10_image 16 = .ok (.iload_n 1, 1) := by decide +kernel
theorem dX10_image_17 : decode cX10_image 17 = .ok (.aaload, 1) := by decide +kernel
theorem dX10_image_18 : decode cX10_image 18 = .ok (.aload_n 0, 1) := by decide +kernel
theorem dX10_image_19 : decode cX10_image 19 = .ok (.getfield 10, 3) := by decide +kernel
theorem dX10_image_22 : decode cX10_image 22 = .ok (.getfield 98, 3) := by decide +kernel
theorem dX10_image_25 : decode cX10_image 25 = .ok (.invokevirtual 354, 3) := by decide +kernel
theorem dX10_image_28 : decode cX10_image 28 = .ok (.aload_n 0, 1) := by decide +kernel
theorem dX10_image_29 : decode cX10_image 29 = .ok (.getfield 63, 3) := by decide +kernel
theorem dX10_image_32 : decode cX10_image 32 = .ok (.iload_n 1, 1) := by decide +kernel
theorem dX10_image_33 : decode cX10_image 33 = .ok (.aload_n 0, 1) := by decide +kernel
theorem dX10_image_34 : decode cX10_image 34 = .ok (.getfield 47, 3) := by decide +kernel
theorem dX10_image_37 : decode cX10_image 37 = .ok (.getfield 120, 3) := by decide +kernel
theorem dX10_image_40 : decode cX10_image 40 = .ok (.iastore, 1) := by decide +kernel
theorem dX10_image_41 : decode cX10_image 41 = .ok (.iconst 0, 1) := by decide +kernel
theorem dX10_image_42 : decode cX10_image 42 = .ok (.ireturn, 1) := by decide +kernel
theorem dX10_restore_0 : decode cX10_restore 0 = .ok (.iload_n 1, 1) := by decide +kernel
theorem dX10_restore_1 : decode cX10_restore 1 = .ok (.ifCond .lt 8, 3) := by decide +kernel
theorem dX10_restore_4 : decode cX10_restore 4 = .ok (.iload_n 1, 1) := by decide +kernel
theorem dX10_restore_5 : decode cX10_restore 5 = .ok (.iconst 2, 1) := by decide +kernel
theorem dX10_restore_6 : decode cX10_restore 6 = .ok (.if_icmp .lt 6, 3) := by decide +kernel
theorem dX10_restore_9 : decode cX10_restore 9 = .ok (.bipush (-2), 2) := by decide +kernel
theorem dX10_restore_11 : decode cX10_restore 11 = .ok (.ireturn, 1) := by decide +kernel
theorem dX10_restore_12 : decode cX10_restore 12 = .ok (.aload_n 0, 1) := by decide +kernel
theorem dX10_restore_13 : decode cX10_restore 13 = .ok (.getfield 63, 3) := by decide +kernel
theorem dX10_restore_16 : decode cX10_restore 16 = .ok (.iload_n 1, 1) := by decide +kernel
theorem dX10_restore_17 : decode cX10_restore 17 = .ok (.iaload, 1) := by decide +kernel
theorem dX10_restore_18 : decode cX10_restore 18 = .ok (.ifCond .ge 6, 3) := by decide +kernel
theorem dX10_restore_21 : decode cX10_restore 21 = .ok (.bipush (-5), 2) := by decide +kernel
theorem dX10_restore_23 : decode cX10_restore 23 = .ok (.ireturn, 1) := by decide +kernel
theorem dX10_restore_24 : decode cX10_restore 24 = .ok (.aload_n 0, 1) := by decide +kernel
theorem dX10_restore_25 : decode cX10_restore 25 = .ok (.aload_n 0, 1) := by decide +kernel
theorem dX10_restore_26 : decode cX10_restore 26 = .ok (.getfield 59, 3) := by decide +kernel
theorem dX10_restore_29 : decode cX10_restore 29 = .ok (.iload_n 1, 1) := by decide +kernel
theorem dX10_restore_30 : decode cX10_restore 30 = .ok (.aaload, 1) := by decide +kernel
theorem dX10_restore_31 : decode cX10_restore 31 = .ok (.aload_n 0, 1) := by decide +kernel
theorem dX10_restore_32 : decode cX10_restore 32 = .ok (.getfield 63, 3) := by decide +kernel
theorem dX10_restore_35 : decode cX10_restore 35 = .ok (.iload_n 1, 1) := by decide +kernel
theorem dX10_restore_36 : decode cX10_restore 36 = .ok (.iaload, 1) := by decide +kernel
theorem dX10_restore_37 : decode cX10_restore 37 = .ok (.invokevirtual 94, 3) := by decide +kernel
theorem dX10_restore_40 : decode cX10_restore 40 = .ok (.iconst 0, 1) := by decide +kernel
theorem dX10_restore_41 : decode cX10_restore 41 = .ok (.ireturn, 1) := by decide +kernel
theorem dX10_count_0 : decode cX10_count 0 = .ok (.iload_n 1, 1) := by decide +kernel
theorem dX10_count_1 : decode cX10_count 1 = .ok (.tableswitch 194 0 10 #[59, 70, 81, 92, 113, 124, 135, 159, 170, 178, 183], 59) := by decide +kernel
theorem dX10_count_60 : decode cX10_count 60 = .ok (.aload_n 0, 1) := by decide +kernel
theorem dX10_count_61 : decode cX10_count 61 = .ok (.getfield 10, 3) := by decide +kernel
theorem dX10_count_64 : decode cX10_count 64 = .ok (.getfield 98, 3) := by decide +kernel
theorem dX10_count_67 : decode cX10_count 67 = .ok (.getfield 164, 3) := by decide +kernel
theorem dX10_count_70 : decode cX10_count 70 = .ok (.ireturn, 1) := by decide +kernel
theorem dX10_count_71 : decode cX10_count 71 = .ok (.aload_n 0, 1) := by decide +kernel
theorem dX10_count_72 : decode cX10_count 72 = .ok (.getfield 10, 3) := by decide +kernel
theorem dX10_count_75 : decode cX10_count 75 = .ok (.getfield 98, 3) := by decide +kernel
theorem dX10_count_78 : decode cX10_count 78 = .ok (.getfield 148, 3) := by decide +kernel
theorem dX10_count_81 : decode cX10_count 81 = .ok (.ireturn, 1) := by decide +kernel
theorem dX10_count_82 : decode cX10_count 82 = .ok (.aload_n 0, 1) := by decide +kernel
theorem dX10_count_83 : decode cX10_count 83 = .ok (.getfield 10, 3) := by decide +kernel
theorem dX10_count_86 : decode cX10_count 86 = .ok (.getfield 98, 3) := by decide +kernel
theorem dX10_count_89 : decode cX10_count 89 = .ok (.getfield 357, 3) := by decide +kernel
theorem dX10_count_92 : decode cX10_count 92 = .ok (.ireturn, 1) := by decide +kernel
theorem dX10_count_93 : decode cX10_count 93 = .ok (.aload_n 0, 1) := by decide +kernel
theorem dX10_count_94 : decode cX10_count 94 = .ok (.getfield 10, 3) := by decide +kernel
theorem dX10_count_97 : decode cX10_count 97 = .ok (.getfield 98, 3) := by decide +kernel
theorem dX10_count_100 : decode cX10_count 100 = .ok (.aload_n 0, 1) := by decide +kernel
theorem dX10_count_101 : decode cX10_count 101 = .ok (.getfield 47, 3) := by decide +kernel
theorem dX10_count_104 : decode cX10_count 104 = .ok (.getfield 120, 3) := by decide +kernel
theorem dX10_count_107 : decode cX10_count 107 = .ok (.invokestatic 170, 3) := by decide +kernel
theorem dX10_count_110 : decode cX10_count 110 = .ok (.invokevirtual 178, 3) := by decide +kernel
theorem dX10_count_113 : decode cX10_count 113 = .ok (.ireturn, 1) := by decide +kernel
theorem dX10_count_114 : decode cX10_count 114 = .ok (.aload_n 0, 1) := by decide +kernel
theorem dX10_count_115 : decode cX10_count 115 = .ok (.getfield 47, 3) := by decide +kernel
theorem dX10_count_118 : decode cX10_count 118 = .ok (.getfield 120, 3) := by decide +kernel
theorem dX10_count_121 : decode cX10_count 121 = .ok (.invokestatic 158, 3) := by decide +kernel
theorem dX10_count_124 : decode cX10_count 124 = .ok (.ireturn, 1) := by decide +kernel
theorem dX10_count_125 : decode cX10_count 125 = .ok (.aload_n 0, 1) := by decide +kernel
theorem dX10_count_126 : decode cX10_count 126 = .ok (.getfield 47, 3) := by decide +kernel
theorem dX10_count_129 : decode cX10_count 129 = .ok (.getfield 120, 3) := by decide +kernel
theorem dX10_count_132 : decode cX10_count 132 = .ok (.invokestatic 170, 3) := by decide +kernel
theorem dX10_count_135 : decode cX10_count 135 = .ok (.ireturn, 1) := by decide +kernel
theorem dX10_count_136 : decode cX10_count 136 = .ok (.aload_n 0, 1) := by decide +kernel
theorem dX10_count_137 : decode cX10_count 137 = .ok (.getfield 47, 3) := by decide +kernel
theorem dX10_count_140 : decode cX10_count 140 = .ok (.getfield 120, 3) := by decide +kernel
theorem dX10_count_143 : decode cX10_count 143 = .ok (.invokestatic 170, 3) := by decide +kernel
theorem dX10_count_146 : decode cX10_count 146 = .ok (.aload_n 0, 1) := by decide +kernel
theorem dX10_count_147 : decode cX10_count 147 = .ok (.getfield 47, 3) := by decide +kernel
theorem dX10_count_150 : decode cX10_count 150 = .ok (.getfield 120, 3) := by decide +kernel
theorem dX10_count_153 : decode cX10_count 153 = .ok (.invokestatic 158, 3) := by decide +kernel
theorem dX10_count_156 : decode cX10_count 156 = .ok (.iconst (-1), 1) := by decide +kernel
theorem dX10_count_157 : decode cX10_count 157 = .ok (.ixor, 1) := by decide +kernel
theorem dX10_count_158 : decode cX10_count 158 = .ok (.iand, 1) := by decide +kernel
theorem dX10_count_159 : decode cX10_count 159 = .ok (.ireturn, 1) := by decide +kernel
theorem dX10_count_160 : decode cX10_count 160 = .ok (.aload_n 0, 1) := by decide +kernel
theorem dX10_count_161 : decode cX10_count 161 = .ok (.getfield 47, 3) := by decide +kernel
theorem dX10_count_164 : decode cX10_count 164 = .ok (.getfield 120, 3) := by decide +kernel
theorem dX10_count_167 : decode cX10_count 167 = .ok (.invokestatic 184, 3) := by decide +kernel
theorem dX10_count_170 : decode cX10_count 170 = .ok (.ireturn, 1) := by decide +kernel
theorem dX10_count_171 : decode cX10_count 171 = .ok (.aload_n 0, 1) := by decide +kernel
theorem dX10_count_172 : decode cX10_count 172 = .ok (.getfield 47, 3) := by decide +kernel
theorem dX10_count_175 : decode cX10_count 175 = .ok (.getfield 194, 3) := by decide +kernel
theorem dX10_count_178 : decode cX10_count 178 = .ok (.ireturn, 1) := by decide +kernel
theorem dX10_count_179 : decode cX10_count 179 = .ok (.aload_n 0, 1) := by decide +kernel
theorem dX10_count_180 : decode cX10_count 180 = .ok (.getfield 70, 3) := by decide +kernel
theorem dX10_count_183 : decode cX10_count 183 = .ok (.ireturn, 1) := by decide +kernel
theorem dX10_count_184 : decode cX10_count 184 = .ok (.aload_n 0, 1) := by decide +kernel
theorem dX10_count_185 : decode cX10_count 185 = .ok (.getfield 10, 3) := by decide +kernel
theorem dX10_count_188 : decode cX10_count 188 = .ok (.getfield 98, 3) := by decide +kernel
theorem dX10_count_191 : decode cX10_count 191 = .ok (.getfield 101, 3) := by decide +kernel
theorem dX10_count_194 : decode cX10_count 194 = .ok (.ireturn, 1) := by decide +kernel
theorem dX10_count_195 : decode cX10_count 195 = .ok (.iconst (-1), 1) := by decide +kernel
theorem dX10_count_196 : decode cX10_count 196 = .ok (.ireturn, 1) := by decide +kernel
theorem dX10_doneIn_0 : decode cX10_doneIn 0 = .ok (.iload_n 0, 1) := by decide +kernel
theorem dX10_doneIn_1 : decode cX10_doneIn 1 = .ok (.sipush 255, 3) := by decide +kernel
theorem dX10_doneIn_4 : decode cX10_doneIn 4 = .ok (.iand, 1) := by decide +kernel
theorem dX10_doneIn_5 : decode cX10_doneIn 5 = .ok (.ireturn, 1) := by decide +kernel
theorem dX10_liningIn_0 : decode cX10_liningIn 0 = .ok (.iload_n 0, 1) := by decide +kernel
theorem dX10_liningIn_1 : decode cX10_liningIn 1 = .ok (.bipush 8, 2) := by decide +kernel
theorem dX10_liningIn_3 : decode cX10_liningIn 3 = .ok (.ishr, 1) := by decide +kernel
theorem dX10_liningIn_4 : decode cX10_liningIn 4 = .ok (.sipush 255, 3) := by decide +kernel
theorem dX10_liningIn_7 : decode cX10_liningIn 7 = .ok (.iand, 1) := by decide +kernel
theorem dX10_liningIn_8 : decode cX10_liningIn 8 = .ok (.ireturn, 1) := by decide +kernel
theorem dX10_slipIn_0 : decode cX10_slipIn 0 = .ok (.iload_n 0, 1) := by decide +kernel
theorem dX10_slipIn_1 : decode cX10_slipIn 1 = .ok (.bipush 16, 2) := by decide +kernel
theorem dX10_slipIn_3 : decode cX10_slipIn 3 = .ok (.ishr, 1) := by decide +kernel
theorem dX10_slipIn_4 : decode cX10_slipIn 4 = .ok (.ireturn, 1) := by decide +kernel
theorem dX10_stateIn_0 : decode cX10_stateIn 0 = .ok (.iload_n 0, 1) := by decide +kernel
theorem dX10_stateIn_1 : decode cX10_stateIn 1 = .ok (.ldc_w 360, 3) := by decide +kernel
theorem dX10_stateIn_4 : decode cX10_stateIn 4 = .ok (.iand, 1) := by decide +kernel
theorem dX10_stateIn_5 : decode cX10_stateIn 5 = .ok (.ireturn, 1) := by decide +kernel
theorem dX10_shownIn_0 : decode cX10_shownIn 0 = .ok (.iload_n 0, 1) := by decide +kernel
theorem dX10_shownIn_1 : decode cX10_shownIn 1 = .ok (.iload_n 0, 1) := by decide +kernel
theorem dX10_shownIn_2 : decode cX10_shownIn 2 = .ok (.bipush 8, 2) := by decide +kernel
theorem dX10_shownIn_4 : decode cX10_shownIn 4 = .ok (.ishr, 1) := by decide +kernel
theorem dX10_shownIn_5 : decode cX10_shownIn 5 = .ok (.iand, 1) := by decide +kernel
theorem dX10_shownIn_6 : decode cX10_shownIn 6 = .ok (.sipush 255, 3) := by decide +kernel
theorem dX10_shownIn_9 : decode cX10_shownIn 9 = .ok (.iand, 1) := by decide +kernel
theorem dX10_shownIn_10 : decode cX10_shownIn 10 = .ok (.ireturn, 1) := by decide +kernel
theorem dX10_notOpenIn_0 : decode cX10_notOpenIn 0 = .ok (.iload_n 0, 1) := by decide +kernel
theorem dX10_notOpenIn_1 : decode cX10_notOpenIn 1 = .ok (.iload_n 0, 1) := by decide +kernel
theorem dX10_notOpenIn_2 : decode cX10_notOpenIn 2 = .ok (.bipush 8, 2) := by decide +kernel
theorem dX10_notOpenIn_4 : decode cX10_notOpenIn 4 = .ok (.ishr, 1) := by decide +kernel
theorem dX10_notOpenIn_5 : decode cX10_notOpenIn 5 = .ok (.ior, 1) := by decide +kernel
theorem dX10_notOpenIn_6 : decode cX10_notOpenIn 6 = .ok (.sipush 255, 3) := by decide +kernel
theorem dX10_notOpenIn_9 : decode cX10_notOpenIn 9 = .ok (.iand, 1) := by decide +kernel
theorem dX10_notOpenIn_10 : decode cX10_notOpenIn 10 = .ok (.ireturn, 1) := by decide +kernel
theorem dX10_moodOf_0 : decode cX10_moodOf 0 = .ok (.iload_n 0, 1) := by decide +kernel
theorem dX10_moodOf_1 : decode cX10_moodOf 1 = .ok (.iload_n 1, 1) := by decide +kernel
theorem dX10_moodOf_2 : decode cX10_moodOf 2 = .ok (.bipush 8, 2) := by decide +kernel
theorem dX10_moodOf_4 : decode cX10_moodOf 4 = .ok (.iadd, 1) := by decide +kernel
theorem dX10_moodOf_5 : decode cX10_moodOf 5 = .ok (.ishr, 1) := by decide +kernel
theorem dX10_moodOf_6 : decode cX10_moodOf 6 = .ok (.iconst 1, 1) := by decide +kernel
theorem dX10_moodOf_7 : decode cX10_moodOf 7 = .ok (.iand, 1) := by decide +kernel
theorem dX10_moodOf_8 : decode cX10_moodOf 8 = .ok (.iconst 1, 1) := by decide +kernel
theorem dX10_moodOf_9 : decode cX10_moodOf 9 = .ok (.if_icmp .ne 7, 3) := by decide +kernel
theorem dX10_moodOf_12 : decode cX10_moodOf 12 = .ok (.iconst 1, 1) := by decide +kernel
theorem dX10_moodOf_13 : decode cX10_moodOf 13 = .ok (.goto 4, 3) := by decide +kernel
theorem dX10_moodOf_16 : decode cX10_moodOf 16 = .ok (.iconst 0, 1) := by decide +kernel
theorem dX10_moodOf_17 : decode cX10_moodOf 17 = .ok (.istore_n 2, 1) := by decide +kernel
theorem dX10_moodOf_18 : decode cX10_moodOf 18 = .ok (.iload_n 0, 1) := by decide +kernel
theorem dX10_moodOf_19 : decode cX10_moodOf 19 = .ok (.iload_n 1, 1) := by decide +kernel
theorem dX10_moodOf_20 : decode cX10_moodOf 20 = .ok (.ishr, 1) := by decide +kernel
theorem dX10_moodOf_21 : decode cX10_moodOf 21 = .ok (.iconst 1, 1) := by decide +kernel
theorem dX10_moodOf_22 : decode cX10_moodOf 22 = .ok (.iand, 1) := by decide +kernel
theorem dX10_moodOf_23 : decode cX10_moodOf 23 = .ok (.iconst 1, 1) := by decide +kernel
theorem dX10_moodOf_24 : decode cX10_moodOf 24 = .ok (.if_icmp .ne 13, 3) := by decide +kernel
theorem dX10_moodOf_27 : decode cX10_moodOf 27 = .ok (.iload_n 2, 1) := by decide +kernel
theorem dX10_moodOf_28 : decode cX10_moodOf 28 = .ok (.ifCond .eq 7, 3) := by decide +kernel
theorem dX10_moodOf_31 : decode cX10_moodOf 31 = .ok (.iconst 1, 1) := by decide +kernel
theorem dX10_moodOf_32 : decode cX10_moodOf 32 = .ok (.goto 4, 3) := by decide +kernel
theorem dX10_moodOf_35 : decode cX10_moodOf 35 = .ok (.iconst 2, 1) := by decide +kernel
theorem dX10_moodOf_36 : decode cX10_moodOf 36 = .ok (.ireturn, 1) := by decide +kernel
theorem dX10_moodOf_37 : decode cX10_moodOf 37 = .ok (.iload_n 2, 1) := by decide +kernel
theorem dX10_moodOf_38 : decode cX10_moodOf 38 = .ok (.ifCond .eq 7, 3) := by decide +kernel
theorem dX10_moodOf_41 : decode cX10_moodOf 41 = .ok (.iconst 3, 1) := by decide +kernel
theorem dX10_moodOf_42 : decode cX10_moodOf 42 = .ok (.goto 4, 3) := by decide +kernel
theorem dX10_moodOf_45 : decode cX10_moodOf 45 = .ok (.iconst 0, 1) := by decide +kernel
theorem dX10_moodOf_46 : decode cX10_moodOf 46 = .ok (.ireturn, 1) := by decide +kernel
theorem dX11_within_0 : decode cX11_within 0 = .ok (.lload_n 0, 1) := by decide +kernel
theorem dX11_within_1 : decode cX11_within 1 = .ok (.lload_n 2, 1) := by decide +kernel
theorem dX11_within_2 : decode cX11_within 2 = .ok (.lcmp, 1) := by decide +kernel
theorem dX11_within_3 : decode cX11_within 3 = .ok (.ifCond .lt 14, 3) := by decide +kernel
theorem dX11_within_6 : decode cX11_within 6 = .ok (.lload_n 0, 1) := by decide +kernel
theorem dX11_within_7 : decode cX11_within 7 = .ok (.lload 4, 2) := by decide +kernel
theorem dX11_within_9 : decode cX11_within 9 = .ok (.lcmp, 1) := by decide +kernel
theorem dX11_within_10 : decode cX11_within 10 = .ok (.ifCond .gt 7, 3) := by decide +kernel
theorem dX11_within_13 : decode cX11_within 13 = .ok (.iconst 1, 1) := by decide +kernel
theorem dX11_within_14 : decode cX11_within 14 = .ok (.goto 4, 3) := by decide +kernel
theorem dX11_within_17 : decode cX11_within 17 = .ok (.iconst 0, 1) := by decide +kernel
theorem dX11_within_18 : decode cX11_within 18 = .ok (.ireturn, 1) := by decide +kernel
theorem dX11_init_0 : decode cX11_init 0 = .ok (.aload_n 0, 1) := by decide +kernel
theorem dX11_init_1 : decode cX11_init 1 = .ok (.invokespecial 7, 3) := by decide +kernel
theorem dX11_init_4 : decode cX11_init 4 = .ok (.aload_n 0, 1) := by decide +kernel
theorem dX11_init_5 : decode cX11_init 5 = .ok (.sipush 3225, 3) := by decide +kernel
theorem dX11_init_8 : decode cX11_init 8 = .ok (.newarray .int, 2) := by decide +kernel
theorem dX11_init_10 : decode cX11_init 10 = .ok (.putfield 13, 3) := by decide +kernel
theorem dX11_init_13 : decode cX11_init 13 = .ok (.aload_n 0, 1) := by decide +kernel
theorem dX11_init_14 : decode cX11_init 14 = .ok (.iconst 2, 1) := by decide +kernel
theorem dX11_init_15 : decode cX11_init 15 = .ok (.newarray .boolean, 2) := by decide +kernel
theorem dX11_init_17 : decode cX11_init 17 = .ok (.putfield 17, 3) := by decide +kernel
theorem dX11_init_20 : decode cX11_init 20 = .ok (.aload_n 0, 1) := by decide +kernel
theorem dX11_init_21 : decode cX11_init 21 = .ok (.sipush 900, 3) := by decide +kernel
theorem dX11_init_24 : decode cX11_init 24 = .ok (.newarray .int, 2) := by decide +kernel
theorem dX11_init_26 : decode cX11_init 26 = .ok (.putfield 21, 3) := by decide +kernel
theorem dX11_init_29 : decode cX11_init 29 = .ok (.aload_n 0, 1) := by decide +kernel
theorem dX11_init_30 : decode cX11_init 30 = .ok (.sipush 1075, 3) := by decide +kernel
theorem dX11_init_33 : decode cX11_init 33 = .ok (.newarray .int, 2) := by decide +kernel
theorem dX11_init_35 : decode cX11_init 35 = .ok (.putfield 24, 3) := by decide +kernel
theorem dX11_init_38 : decode cX11_init 38 = .ok (.aload_n 0, 1) := by decide +kernel
theorem dX11_init_39 : decode cX11_init 39 = .ok (.iconst (-1), 1) := by decide +kernel
theorem dX11_init_40 : decode cX11_init 40 = .ok (.putfield 27, 3) := by decide +kernel
theorem dX11_init_43 : decode cX11_init 43 = .ok (.aload_n 0, 1) := by decide +kernel
theorem dX11_init_44 : decode cX11_init 44 = .ok (.sipush 900, 3) := by decide +kernel
theorem dX11_init_47 : decode cX11_init 47 = .ok (.newarray .int, 2) := by decide +kernel
theorem dX11_init_49 : decode cX11_init 49 = .ok (.putfield 30, 3) := by decide +kernel
theorem dX11_init_52 : decode cX11_init 52 = .ok (.aload_n 0, 1) := by decide +kernel
theorem dX11_init_53 : decode cX11_init 53 = .ok (.bipush 6, 2) := by decide +kernel
theorem dX11_init_55 : decode cX11_init 55 = .ok (.newarray .int, 2) := by decide +kernel
theorem dX11_init_57 : decode cX11_init 57 = .ok (.putfield 33, 3) := by decide +kernel
theorem dX11_init_60 : decode cX11_init 60 = .ok (.aload_n 0, 1) := by decide +kernel
theorem dX11_init_61 : decode cX11_init 61 = .ok (.bipush 9, 2) := by decide +kernel
theorem dX11_init_63 : decode cX11_init 63 = .ok (.newarray .int, 2) := by decide +kernel
theorem dX11_init_65 : decode cX11_init 65 = .ok (.putfield 36, 3) := by decide +kernel
theorem dX11_init_68 : decode cX11_init 68 = .ok (.aload_n 0, 1) := by decide +kernel
theorem dX11_init_69 : decode cX11_init 69 = .ok (.ldc 39, 2) := by decide +kernel
theorem dX11_init_71 : decode cX11_init 71 = .ok (.newarray .int, 2) := by decide +kernel
theorem dX11_init_73 : decode cX11_init 73 = .ok (.putfield 40, 3) := by decide +kernel
theorem dX11_init_76 : decode cX11_init 76 = .ok (.aload_n 0, 1) := by decide +kernel
theorem dX11_init_77 : decode cX11_init 77 = .ok (.ldc 43, 2) := by decide +kernel
theorem dX11_init_79 : decode cX11_init 79 = .ok (.newarray .int, 2) := by decide +kernel
theorem dX11_init_81 : decode cX11_init 81 = .ok (.putfield 44, 3) := by decide +kernel
theorem dX11_init_84 : decode cX11_init 84 = .ok (.aload_n 0, 1) := by decide +kernel
theorem dX11_init_85 : decode cX11_init 85 = .ok (.ldc 39, 2) := by decide +kernel
theorem dX11_init_87 : decode cX11_init 87 = .ok (.newarray .int, 2) := by decide +kernel
theorem dX11_init_89 : decode cX11_init 89 = .ok (.putfield 47, 3) := by decide +kernel
theorem dX11_init_92 : decode cX11_init 92 = .ok (.aload_n 0, 1) := by decide +kernel
theorem dX11_init_93 : decode cX11_init 93 = .ok (.ldc 39, 2) := by decide +kernel
theorem dX11_init_95 : decode cX11_init 95 = .ok (.newarray .boolean, 2) := by decide +kernel
theorem dX11_init_97 : decode cX11_init 97 = .ok (.putfield 50, 3) := by decide +kernel
theorem dX11_init_100 : decode cX11_init 100 = .ok (.aload_n 0, 1) := by decide +kernel
theorem dX11_init_101 : decode cX11_init 101 = .ok (.ldc 39, 2) := by decide +kernel
theorem dX11_init_103 : decode cX11_init 103 = .ok (.newarray .long, 2) := by decide +kernel
theorem dX11_init_105 : decode cX11_init 105 = .ok (.putfield 53, 3) := by decide +kernel
theorem dX11_init_108 : decode cX11_init 108 = .ok (.aload_n 0, 1) := by decide +kernel
theorem dX11_init_109 : decode cX11_init 109 = .ok (.ldc 39, 2) := by decide +kernel
theorem dX11_init_111 : decode cX11_init 111 = .ok (.newarray .long, 2) := by decide +kernel
theorem dX11_init_113 : decode cX11_init 113 = .ok (.putfield 57, 3) := by decide +kernel
theorem dX11_init_116 : decode cX11_init 116 = .ok (.aload_n 0, 1) := by decide +kernel
theorem dX11_init_117 : decode cX11_init 117 = .ok (.bipush 8, 2) := by decide +kernel
theorem dX11_init_119 : decode cX11_init 119 = .ok (.newarray .int, 2) := by decide +kernel
theorem dX11_init_121 : decode cX11_init 121 = .ok (.putfield 60, 3) := by decide +kernel
theorem dX11_init_124 : decode cX11_init 124 = .ok (.aload_n 0, 1) := by decide +kernel
theorem dX11_init_125 : decode cX11_init 125 = .ok (.sipush 256, 3) := by decide +kernel
theorem dX11_init_128 : decode cX11_init 128 = .ok (.newarray .int, 2) := by decide +kernel
theorem dX11_init_130 : decode cX11_init 130 = .ok (.putfield 63, 3) := by decide +kernel
theorem dX11_init_133 : decode cX11_init 133 = .ok (.aload_n 0, 1) := by decide +kernel
theorem dX11_init_134 : decode cX11_init 134 = .ok (.bipush 8, 2) := by decide +kernel
theorem dX11_init_136 : decode cX11_init 136 = .ok (.newarray .int, 2) := by decide +kernel
theorem dX11_init_138 : decode cX11_init 138 = .ok (.putfield 66, 3) := by decide +kernel
theorem dX11_init_141 : decode cX11_init 141 = .ok (.aload_n 0, 1) := by decide +kernel
theorem dX11_init_142 : decode cX11_init 142 = .ok (.bipush 8, 2) := by decide +kernel
theorem dX11_init_144 : decode cX11_init 144 = .ok (.newarray .int, 2) := by decide +kernel
theorem dX11_init_146 : decode cX11_init 146 = .ok (.putfield 69, 3) := by decide +kernel
theorem dX11_init_149 : decode cX11_init 149 = .ok (.aload_n 0, 1) := by decide +kernel
theorem dX11_init_150 : decode cX11_init 150 = .ok (.bipush 8, 2) := by decide +kernel
theorem dX11_init_152 : decode cX11_init 152 = .ok (.newarray .int, 2) := by decide +kernel
theorem dX11_init_154 : decode cX11_init 154 = .ok (.putfield 72, 3) := by decide +kernel
theorem dX11_init_157 : decode cX11_init 157 = .ok (.aload_n 0, 1) := by decide +kernel
theorem dX11_init_158 : decode cX11_init 158 = .ok (.iconst 4, 1) := by decide +kernel
theorem dX11_init_159 : decode cX11_init 159 = .ok (.newarray .int, 2) := by decide +kernel
theorem dX11_init_161 : decode cX11_init 161 = .ok (.dup, 1) := by decide +kernel
theorem dX11_init_162 : decode cX11_init 162 = .ok (.iconst 0, 1) := by decide +kernel
theorem dX11_init_163 : decode cX11_init 163 = .ok (.iconst (-1), 1) := by decide +kernel
theorem dX11_init_164 : decode cX11_init 164 = .ok (.iastore, 1) := by decide +kernel
theorem dX11_init_165 : decode cX11_init 165 = .ok (.dup, 1) := by decide +kernel
theorem dX11_init_166 : decode cX11_init 166 = .ok (.iconst 1, 1) := by decide +kernel
theorem dX11_init_167 : decode cX11_init 167 = .ok (.iconst (-1), 1) := by decide +kernel
theorem dX11_init_168 : decode cX11_init 168 = .ok (.iastore, 1) := by decide +kernel
theorem dX11_init_169 : decode cX11_init 169 = .ok (.dup, 1) := by decide +kernel
theorem dX11_init_170 : decode cX11_init 170 = .ok (.iconst 2, 1) := by decide +kernel
theorem dX11_init_171 : decode cX11_init 171 = .ok (.iconst (-1), 1) := by decide +kernel
theorem dX11_init_172 : decode cX11_init 172 = .ok (.iastore, 1) := by decide +kernel
theorem dX11_init_173 : decode cX11_init 173 = .ok (.dup, 1) := by decide +kernel
theorem dX11_init_174 : decode cX11_init 174 = .ok (.iconst 3, 1) := by decide +kernel
