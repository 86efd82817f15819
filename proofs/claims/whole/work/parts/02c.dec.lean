theorem dX8_toShown_28 : decode cX8_toShown 28 = .ok (.iload_n 3, 1) := by decide +kernel
theorem dX8_toShown_29 : decode cX8_toShown 29 = .ok (.aload_n 0, 1) := by decide +kernel
theorem dX8_toShown_30 : decode cX8_toShown 30 = .ok (.getfield 21, 3) := by decide +kernel
theorem dX8_toShown_33 : decode cX8_toShown 33 = .ok (.iload 4, 2) := by decide +kernel
theorem dX8_toShown_35 : decode cX8_toShown 35 = .ok (.iaload, 1) := by decide +kernel
theorem dX8_toShown_36 : decode cX8_toShown 36 = .ok (.invokestatic 84, 3) := by decide +kernel
theorem dX8_toShown_39 : decode cX8_toShown 39 = .ok (.iconst (-1), 1) := by decide +kernel
theorem dX8_toShown_40 : decode cX8_toShown 40 = .ok (.ixor, 1) := by decide +kernel
theorem dX8_toShown_41 : decode cX8_toShown 41 = .ok (.iand, 1) := by decide +kernel
theorem dX8_toShown_42 : decode cX8_toShown 42 = .ok (.ifCond .ne 11, 3) := by decide +kernel
theorem dX8_toShown_45 : decode cX8_toShown 45 = .ok (.aload_n 0, 1) := by decide +kernel
theorem dX8_toShown_46 : decode cX8_toShown 46 = .ok (.getfield 21, 3) := by decide +kernel
theorem dX8_toShown_49 : decode cX8_toShown 49 = .ok (.iload 4, 2) := by decide +kernel
theorem dX8_toShown_51 : decode cX8_toShown 51 = .ok (.iaload, 1) := by decide +kernel
theorem dX8_toShown_52 : decode cX8_toShown 52 = .ok (.ireturn, 1) := by decide +kernel
theorem dX8_toShown_53 : decode cX8_toShown 53 = .ok (.iinc 4 1, 3) := by decide +kernel
theorem dX8_toShown_56 : decode cX8_toShown 56 = .ok (.goto (-47), 3) := by decide +kernel
theorem dX8_toShown_59 : decode cX8_toShown 59 = .ok (.iconst (-1), 1) := by decide +kernel
theorem dX8_toShown_60 : decode cX8_toShown 60 = .ok (.ireturn, 1) := by decide +kernel
theorem dX8_length_0 : decode cX8_length 0 = .ok (.iload_n 1, 1) := by decide +kernel
theorem dX8_length_1 : decode cX8_length 1 = .ok (.istore_n 2, 1) := by decide +kernel
theorem dX8_length_2 : decode cX8_length 2 = .ok (.iconst 0, 1) := by decide +kernel
theorem dX8_length_3 : decode cX8_length 3 = .ok (.istore_n 3, 1) := by decide +kernel
theorem dX8_length_4 : decode cX8_length 4 = .ok (.iload_n 3, 1) := by decide +kernel
theorem dX8_length_5 : decode cX8_length 5 = .ok (.aload_n 0, 1) := by decide +kernel
theorem dX8_length_6 : decode cX8_length 6 = .ok (.getfield 21, 3) := by decide +kernel
theorem dX8_length_9 : decode cX8_length 9 = .ok (.arraylength, 1) := by decide +kernel
theorem dX8_length_10 : decode cX8_length 10 = .ok (.if_icmp .ge 31, 3) := by decide +kernel
theorem dX8_length_13 : decode cX8_length 13 = .ok (.iload_n 2, 1) := by decide +kernel
theorem dX8_length_14 : decode cX8_length 14 = .ok (.ifCond .lt 27, 3) := by decide +kernel
theorem dX8_length_17 : decode cX8_length 17 = .ok (.aload_n 0, 1) := by decide +kernel
theorem dX8_length_18 : decode cX8_length 18 = .ok (.iload_n 2, 1) := by decide +kernel
theorem dX8_length_19 : decode cX8_length 19 = .ok (.invokevirtual 87, 3) := by decide +kernel
theorem dX8_length_22 : decode cX8_length 22 = .ok (.bipush 31, 2) := by decide +kernel
theorem dX8_length_24 : decode cX8_length 24 = .ok (.if_icmp .ne 5, 3) := by decide +kernel
theorem dX8_length_27 : decode cX8_length 27 = .ok (.iload_n 3, 1) := by decide +kernel
theorem dX8_length_28 : decode cX8_length 28 = .ok (.ireturn, 1) := by decide +kernel
theorem dX8_length_29 : decode cX8_length 29 = .ok (.aload_n 0, 1) := by decide +kernel
theorem dX8_length_30 : decode cX8_length 30 = .ok (.iload_n 2, 1) := by decide +kernel
theorem dX8_length_31 : decode cX8_length 31 = .ok (.invokevirtual 90, 3) := by decide +kernel
theorem dX8_length_34 : decode cX8_length 34 = .ok (.istore_n 2, 1) := by decide +kernel
theorem dX8_length_35 : decode cX8_length 35 = .ok (.iinc 3 1, 3) := by decide +kernel
theorem dX8_length_38 : decode cX8_length 38 = .ok (.goto (-34), 3) := by decide +kernel
theorem dX8_length_41 : decode cX8_length 41 = .ok (.iconst (-1), 1) := by decide +kernel
theorem dX8_length_42 : decode cX8_length 42 = .ok (.ireturn, 1) := by decide +kernel
theorem dX8_deedAt_0 : decode cX8_deedAt 0 = .ok (.aload_n 0, 1) := by decide +kernel
theorem dX8_deedAt_1 : decode cX8_deedAt 1 = .ok (.iload_n 1, 1) := by decide +kernel
theorem dX8_deedAt_2 : decode cX8_deedAt 2 = .ok (.invokevirtual 93, 3) := by decide +kernel
theorem dX8_deedAt_5 : decode cX8_deedAt 5 = .ok (.iconst 1, 1) := by decide +kernel
theorem dX8_deedAt_6 : decode cX8_deedAt 6 = .ok (.isub, 1) := by decide +kernel
theorem dX8_deedAt_7 : decode cX8_deedAt 7 = .ok (.istore_n 3, 1) := by decide +kernel
theorem dX8_deedAt_8 : decode cX8_deedAt 8 = .ok (.iload_n 2, 1) := by decide +kernel
theorem dX8_deedAt_9 : decode cX8_deedAt 9 = .ok (.ifCond .lt 8, 3) := by decide +kernel
theorem dX8_deedAt_12 : decode cX8_deedAt 12 = .ok (.iload_n 2, 1) := by decide +kernel
theorem dX8_deedAt_13 : decode cX8_deedAt 13 = .ok (.iload_n 3, 1) := by decide +kernel
theorem dX8_deedAt_14 : decode cX8_deedAt 14 = .ok (.if_icmp .le 5, 3) := by decide +kernel
theorem dX8_deedAt_17 : decode cX8_deedAt 17 = .ok (.iconst (-1), 1) := by decide +kernel
theorem dX8_deedAt_18 : decode cX8_deedAt 18 = .ok (.ireturn, 1) := by decide +kernel
theorem dX8_deedAt_19 : decode cX8_deedAt 19 = .ok (.iload_n 1, 1) := by decide +kernel
theorem dX8_deedAt_20 : decode cX8_deedAt 20 = .ok (.istore 4, 2) := by decide +kernel
theorem dX8_deedAt_22 : decode cX8_deedAt 22 = .ok (.iload_n 3, 1) := by decide +kernel
theorem dX8_deedAt_23 : decode cX8_deedAt 23 = .ok (.istore 5, 2) := by decide +kernel
theorem dX8_deedAt_25 : decode cX8_deedAt 25 = .ok (.iload 5, 2) := by decide +kernel
theorem dX8_deedAt_27 : decode cX8_deedAt 27 = .ok (.iload_n 2, 1) := by decide +kernel
theorem dX8_deedAt_28 : decode cX8_deedAt 28 = .ok (.if_icmp .le 17, 3) := by decide +kernel
theorem dX8_deedAt_31 : decode cX8_deedAt 31 = .ok (.aload_n 0, 1) := by decide +kernel
theorem dX8_deedAt_32 : decode cX8_deedAt 32 = .ok (.iload 4, 2) := by decide +kernel
theorem dX8_deedAt_34 : decode cX8_deedAt 34 = .ok (.invokevirtual 90, 3) := by decide +kernel
theorem dX8_deedAt_37 : decode cX8_deedAt 37 = .ok (.istore 4, 2) := by decide +kernel
theorem dX8_deedAt_39 : decode cX8_deedAt 39 = .ok (.iinc 5 (-1), 3) := by decide +kernel
theorem dX8_deedAt_42 : decode cX8_deedAt 42 = .ok (.goto (-17), 3) := by decide +kernel
theorem dX8_deedAt_45 : decode cX8_deedAt 45 = .ok (.aload_n 0, 1) := by decide +kernel
theorem dX8_deedAt_46 : decode cX8_deedAt 46 = .ok (.iload 4, 2) := by decide +kernel
theorem dX8_deedAt_48 : decode cX8_deedAt 48 = .ok (.invokevirtual 87, 3) := by decide +kernel
theorem dX8_deedAt_51 : decode cX8_deedAt 51 = .ok (.ireturn, 1) := by decide +kernel
theorem dX8_deedTo_0 : decode cX8_deedTo 0 = .ok (.aload_n 0, 1) := by decide +kernel
theorem dX8_deedTo_1 : decode cX8_deedTo 1 = .ok (.getfield 25, 3) := by decide +kernel
theorem dX8_deedTo_4 : decode cX8_deedTo 4 = .ok (.aload_n 0, 1) := by decide +kernel
theorem dX8_deedTo_5 : decode cX8_deedTo 5 = .ok (.iload_n 1, 1) := by decide +kernel
theorem dX8_deedTo_6 : decode cX8_deedTo 6 = .ok (.invokevirtual 35, 3) := by decide +kernel
theorem dX8_deedTo_9 : decode cX8_deedTo 9 = .ok (.iaload, 1) := by decide +kernel
theorem dX8_deedTo_10 : decode cX8_deedTo 10 = .ok (.iconst 1, 1) := by decide +kernel
theorem dX8_deedTo_11 : decode cX8_deedTo 11 = .ok (.isub, 1) := by decide +kernel
theorem dX8_deedTo_12 : decode cX8_deedTo 12 = .ok (.bipush 31, 2) := by decide +kernel
theorem dX8_deedTo_14 : decode cX8_deedTo 14 = .ok (.iand, 1) := by decide +kernel
theorem dX8_deedTo_15 : decode cX8_deedTo 15 = .ok (.ireturn, 1) := by decide +kernel
theorem dX8_stateBefore_0 : decode cX8_stateBefore 0 = .ok (.aload_n 0, 1) := by decide +kernel
theorem dX8_stateBefore_1 : decode cX8_stateBefore 1 = .ok (.getfield 25, 3) := by decide +kernel
theorem dX8_stateBefore_4 : decode cX8_stateBefore 4 = .ok (.aload_n 0, 1) := by decide +kernel
theorem dX8_stateBefore_5 : decode cX8_stateBefore 5 = .ok (.iload_n 1, 1) := by decide +kernel
theorem dX8_stateBefore_6 : decode cX8_stateBefore 6 = .ok (.invokevirtual 35, 3) := by decide +kernel
theorem dX8_stateBefore_9 : decode cX8_stateBefore 9 = .ok (.iaload, 1) := by decide +kernel
theorem dX8_stateBefore_10 : decode cX8_stateBefore 10 = .ok (.iconst 1, 1) := by decide +kernel
theorem dX8_stateBefore_11 : decode cX8_stateBefore 11 = .ok (.isub, 1) := by decide +kernel
theorem dX8_stateBefore_12 : decode cX8_stateBefore 12 = .ok (.iconst 5, 1) := by decide +kernel
theorem dX8_stateBefore_13 : decode cX8_stateBefore 13 = .ok (.ishr, 1) := by decide +kernel
theorem dX8_stateBefore_14 : decode cX8_stateBefore 14 = .ok (.ireturn, 1) := by decide +kernel
theorem dX8_mostShown_0 : decode cX8_mostShown 0 = .ok (.aload_n 0, 1) := by decide +kernel
theorem dX8_mostShown_1 : decode cX8_mostShown 1 = .ok (.aload_n 1, 1) := by decide +kernel
theorem dX8_mostShown_2 : decode cX8_mostShown 2 = .ok (.iload_n 2, 1) := by decide +kernel
theorem dX8_mostShown_3 : decode cX8_mostShown 3 = .ok (.invokevirtual 80, 3) := by decide +kernel
theorem dX8_mostShown_6 : decode cX8_mostShown 6 = .ok (.iconst 0, 1) := by decide +kernel
theorem dX8_mostShown_7 : decode cX8_mostShown 7 = .ok (.istore_n 3, 1) := by decide +kernel
theorem dX8_mostShown_8 : decode cX8_mostShown 8 = .ok (.iconst 0, 1) := by decide +kernel
theorem dX8_mostShown_9 : decode cX8_mostShown 9 = .ok (.istore 4, 2) := by decide +kernel
theorem dX8_mostShown_11 : decode cX8_mostShown 11 = .ok (.iload 4, 2) := by decide +kernel
theorem dX8_mostShown_13 : decode cX8_mostShown 13 = .ok (.aload_n 0, 1) := by decide +kernel
theorem dX8_mostShown_14 : decode cX8_mostShown 14 = .ok (.getfield 9, 3) := by decide +kernel
theorem dX8_mostShown_17 : decode cX8_mostShown 17 = .ok (.if_icmp .ge 37, 3) := by decide +kernel
theorem dX8_mostShown_20 : decode cX8_mostShown 20 = .ok (.iload 4, 2) := by decide +kernel
theorem dX8_mostShown_22 : decode cX8_mostShown 22 = .ok (.aload_n 0, 1) := by decide +kernel
theorem dX8_mostShown_23 : decode cX8_mostShown 23 = .ok (.getfield 21, 3) := by decide +kernel
theorem dX8_mostShown_26 : decode cX8_mostShown 26 = .ok (.arraylength, 1) := by decide +kernel
theorem dX8_mostShown_27 : decode cX8_mostShown 27 = .ok (.if_icmp .ge 27, 3) := by decide +kernel
theorem dX8_mostShown_30 : decode cX8_mostShown 30 = .ok (.iload_n 3, 1) := by decide +kernel
theorem dX8_mostShown_31 : decode cX8_mostShown 31 = .ok (.aload_n 0, 1) := by decide +kernel
theorem dX8_mostShown_32 : decode cX8_mostShown 32 = .ok (.getfield 21, 3) := by decide +kernel
theorem dX8_mostShown_35 : decode cX8_mostShown 35 = .ok (.iload 4, 2) := by decide +kernel
theorem dX8_mostShown_37 : decode cX8_mostShown 37 = .ok (.iaload, 1) := by decide +kernel
theorem dX8_mostShown_38 : decode cX8_mostShown 38 = .ok (.invokestatic 84, 3) := by decide +kernel
theorem dX8_mostShown_41 : decode cX8_mostShown 41 = .ok (.invokestatic 96, 3) := by decide +kernel
theorem dX8_mostShown_44 : decode cX8_mostShown 44 = .ok (.invokestatic 51, 3) := by decide +kernel
theorem dX8_mostShown_47 : decode cX8_mostShown 47 = .ok (.istore_n 3, 1) := by decide +kernel
theorem dX8_mostShown_48 : decode cX8_mostShown 48 = .ok (.iinc 4 1, 3) := by decide +kernel
theorem dX8_mostShown_51 : decode cX8_mostShown 51 = .ok (.goto (-40), 3) := by decide +kernel
theorem dX8_mostShown_54 : decode cX8_mostShown 54 = .ok (.iload_n 3, 1) := by decide +kernel
theorem dX8_mostShown_55 : decode cX8_mostShown 55 = .ok (.ireturn, 1) := by decide +kernel
theorem dX8_rowsTo_0 : decode cX8_rowsTo 0 = .ok (.aload_n 0, 1) := by decide +kernel
theorem dX8_rowsTo_1 : decode cX8_rowsTo 1 = .ok (.aload_n 1, 1) := by decide +kernel
theorem dX8_rowsTo_2 : decode cX8_rowsTo 2 = .ok (.iload_n 2, 1) := by decide +kernel
theorem dX8_rowsTo_3 : decode cX8_rowsTo 3 = .ok (.invokevirtual 80, 3) := by decide +kernel
theorem dX8_rowsTo_6 : decode cX8_rowsTo 6 = .ok (.aload_n 0, 1) := by decide +kernel
theorem dX8_rowsTo_7 : decode cX8_rowsTo 7 = .ok (.invokevirtual 101, 3) := by decide +kernel
theorem dX8_rowsTo_10 : decode cX8_rowsTo 10 = .ok (.iconst 0, 1) := by decide +kernel
theorem dX8_rowsTo_11 : decode cX8_rowsTo 11 = .ok (.istore 5, 2) := by decide +kernel
theorem dX8_rowsTo_13 : decode cX8_rowsTo 13 = .ok (.iload 5, 2) := by decide +kernel
theorem dX8_rowsTo_15 : decode cX8_rowsTo 15 = .ok (.aload_n 0, 1) := by decide +kernel
theorem dX8_rowsTo_16 : decode cX8_rowsTo 16 = .ok (.getfield 9, 3) := by decide +kernel
theorem dX8_rowsTo_19 : decode cX8_rowsTo 19 = .ok (.if_icmp .ge 36, 3) := by decide +kernel
theorem dX8_rowsTo_22 : decode cX8_rowsTo 22 = .ok (.iload 5, 2) := by decide +kernel
theorem dX8_rowsTo_24 : decode cX8_rowsTo 24 = .ok (.aload_n 0, 1) := by decide +kernel
theorem dX8_rowsTo_25 : decode cX8_rowsTo 25 = .ok (.getfield 21, 3) := by decide +kernel
theorem dX8_rowsTo_28 : decode cX8_rowsTo 28 = .ok (.arraylength, 1) := by decide +kernel
theorem dX8_rowsTo_29 : decode cX8_rowsTo 29 = .ok (.if_icmp .ge 26, 3) := by decide +kernel
theorem dX8_rowsTo_32 : decode cX8_rowsTo 32 = .ok (.aload_n 0, 1) := by decide +kernel
theorem dX8_rowsTo_33 : decode cX8_rowsTo 33 = .ok (.getfield 28, 3) := by decide +kernel
theorem dX8_rowsTo_36 : decode cX8_rowsTo 36 = .ok (.aload_n 0, 1) := by decide +kernel
theorem dX8_rowsTo_37 : decode cX8_rowsTo 37 = .ok (.aload_n 0, 1) := by decide +kernel
theorem dX8_rowsTo_38 : decode cX8_rowsTo 38 = .ok (.getfield 21, 3) := by decide +kernel
theorem dX8_rowsTo_41 : decode cX8_rowsTo 41 = .ok (.iload 5, 2) := by decide +kernel
theorem dX8_rowsTo_43 : decode cX8_rowsTo 43 = .ok (.iaload, 1) := by decide +kernel
theorem dX8_rowsTo_44 : decode cX8_rowsTo 44 = .ok (.invokevirtual 35, 3) := by decide +kernel
theorem dX8_rowsTo_47 : decode cX8_rowsTo 47 = .ok (.lconst 0, 1) := by decide +kernel
theorem dX8_rowsTo_48 : decode cX8_rowsTo 48 = .ok (.lastore, 1) := by decide +kernel
theorem dX8_rowsTo_49 : decode cX8_rowsTo 49 = .ok (.iinc 5 1, 3) := by decide +kernel
theorem dX8_rowsTo_52 : decode cX8_rowsTo 52 = .ok (.goto (-39), 3) := by decide +kernel
theorem dX8_rowsTo_55 : decode cX8_rowsTo 55 = .ok (.aload_n 0, 1) := by decide +kernel
theorem dX8_rowsTo_56 : decode cX8_rowsTo 56 = .ok (.getfield 28, 3) := by decide +kernel
theorem dX8_rowsTo_59 : decode cX8_rowsTo 59 = .ok (.aload_n 0, 1) := by decide +kernel
theorem dX8_rowsTo_60 : decode cX8_rowsTo 60 = .ok (.iload_n 2, 1) := by decide +kernel
theorem dX8_rowsTo_61 : decode cX8_rowsTo 61 = .ok (.invokevirtual 35, 3) := by decide +kernel
theorem dX8_rowsTo_64 : decode cX8_rowsTo 64 = .ok (.lconst 1, 1) := by decide +kernel
theorem dX8_rowsTo_65 : decode cX8_rowsTo 65 = .ok (.lastore, 1) := by decide +kernel
theorem dX8_rowsTo_66 : decode cX8_rowsTo 66 = .ok (.iconst 0, 1) := by decide +kernel
theorem dX8_rowsTo_67 : decode cX8_rowsTo 67 = .ok (.istore 5, 2) := by decide +kernel
theorem dX8_rowsTo_69 : decode cX8_rowsTo 69 = .ok (.iload 5, 2) := by decide +kernel
theorem dX8_rowsTo_71 : decode cX8_rowsTo 71 = .ok (.iload 4, 2) := by decide +kernel
theorem dX8_rowsTo_73 : decode cX8_rowsTo 73 = .ok (.if_icmp .ge 14, 3) := by decide +kernel
theorem dX8_rowsTo_76 : decode cX8_rowsTo 76 = .ok (.aload_n 0, 1) := by decide +kernel
theorem dX8_rowsTo_77 : decode cX8_rowsTo 77 = .ok (.aload_n 1, 1) := by decide +kernel
theorem dX8_rowsTo_78 : decode cX8_rowsTo 78 = .ok (.invokevirtual 104, 3) := by decide +kernel
theorem dX8_rowsTo_81 : decode cX8_rowsTo 81 = .ok (.iinc 5 1, 3) := by decide +kernel
theorem dX8_rowsTo_84 : decode cX8_rowsTo 84 = .ok (.goto (-15), 3) := by decide +kernel
theorem dX8_rowsTo_87 : decode cX8_rowsTo 87 = .ok (.lconst 0, 1) := by decide +kernel
theorem dX8_rowsTo_88 : decode cX8_rowsTo 88 = .ok (.lstore 5, 2) := by decide +kernel
theorem dX8_rowsTo_90 : decode cX8_rowsTo 90 = .ok (.iconst 0, 1) := by decide +kernel
theorem dX8_rowsTo_91 : decode cX8_rowsTo 91 = .ok (.istore 7, 2) := by decide +kernel
theorem dX8_rowsTo_93 : decode cX8_rowsTo 93 = .ok (.iload 7, 2) := by decide +kernel
theorem dX8_rowsTo_95 : decode cX8_rowsTo 95 = .ok (.aload_n 0, 1) := by decide +kernel
theorem dX8_rowsTo_96 : decode cX8_rowsTo 96 = .ok (.getfield 9, 3) := by decide +kernel
theorem dX8_rowsTo_99 : decode cX8_rowsTo 99 = .ok (.if_icmp .ge 57, 3) := by decide +kernel
theorem dX8_rowsTo_102 : decode cX8_rowsTo 102 = .ok (.iload 7, 2) := by decide +kernel
theorem dX8_rowsTo_104 : decode cX8_rowsTo 104 = .ok (.aload_n 0, 1) := by decide +kernel
theorem dX8_rowsTo_105 : decode cX8_rowsTo 105 = .ok (.getfield 21, 3) := by decide +kernel
theorem dX8_rowsTo_108 : decode cX8_rowsTo 108 = .ok (.arraylength, 1) := by decide +kernel
theorem dX8_rowsTo_109 : decode cX8_rowsTo 109 = .ok (.if_icmp .ge 47, 3) := by decide +kernel
theorem dX8_rowsTo_112 : decode cX8_rowsTo 112 = .ok (.iload_n 3, 1) := by decide +kernel
theorem dX8_rowsTo_113 : decode cX8_rowsTo 113 = .ok (.aload_n 0, 1) := by decide +kernel
theorem dX8_rowsTo_114 : decode cX8_rowsTo 114 = .ok (.getfield 21, 3) := by decide +kernel
theorem dX8_rowsTo_117 : decode cX8_rowsTo 117 = .ok (.iload 7, 2) := by decide +kernel
theorem dX8_rowsTo_119 : decode cX8_rowsTo 119 = .ok (.iaload, 1) := by decide +kernel
theorem dX8_rowsTo_120 : decode cX8_rowsTo 120 = .ok (.invokestatic 84, 3) := by decide +kernel
theorem dX8_rowsTo_123 : decode cX8_rowsTo 123 = .ok (.iconst (-1), 1) := by decide +kernel
theorem dX8_rowsTo_124 : decode cX8_rowsTo 124 = .ok (.ixor, 1) := by decide +kernel
theorem dX8_rowsTo_125 : decode cX8_rowsTo 125 = .ok (.iand, 1) := by decide +kernel
theorem dX8_rowsTo_126 : decode cX8_rowsTo 126 = .ok (.ifCond .ne 24, 3) := by decide +kernel
theorem dX8_rowsTo_129 : decode cX8_rowsTo 129 = .ok (.lload 5, 2) := by decide +kernel
theorem dX8_rowsTo_131 : decode cX8_rowsTo 131 = .ok (.aload_n 0, 1) := by decide +kernel
theorem dX8_rowsTo_132 : decode cX8_rowsTo 132 = .ok (.getfield 28, 3) := by decide +kernel
theorem dX8_rowsTo_135 : decode cX8_rowsTo 135 = .ok (.aload_n 0, 1) := by decide +kernel
theorem dX8_rowsTo_136 : decode cX8_rowsTo 136 = .ok (.aload_n 0, 1) := by decide +kernel
theorem dX8_rowsTo_137 : decode cX8_rowsTo 137 = .ok (.getfield 21, 3) := by decide +kernel
theorem dX8_rowsTo_140 : decode cX8_rowsTo 140 = .ok (.iload 7, 2) := by decide +kernel
theorem dX8_rowsTo_142 : decode cX8_rowsTo 142 = .ok (.iaload, 1) := by decide +kernel
theorem dX8_rowsTo_143 : decode cX8_rowsTo 143 = .ok (.invokevirtual 35, 3) := by decide +kernel
theorem dX8_rowsTo_146 : decode cX8_rowsTo 146 = .ok (.laload, 1) := by decide +kernel
theorem dX8_rowsTo_147 : decode cX8_rowsTo 147 = .ok (.ladd, 1) := by decide +kernel
theorem dX8_rowsTo_148 : decode cX8_rowsTo 148 = .ok (.lstore 5, 2) := by decide +kernel
theorem dX8_rowsTo_150 : decode cX8_rowsTo 150 = .ok (.iinc 7 1, 3) := by decide +kernel
theorem dX8_rowsTo_153 : decode cX8_rowsTo 153 = .ok (.goto (-60), 3) := by decide +kernel
theorem dX8_rowsTo_156 : decode cX8_rowsTo 156 = .ok (.lload 5, 2) := by decide +kernel
theorem dX8_rowsTo_158 : decode cX8_rowsTo 158 = .ok (.lreturn, 1) := by decide +kernel
theorem dX8_goOneOn_0 : decode cX8_goOneOn 0 = .ok (.iconst 0, 1) := by decide +kernel
theorem dX8_goOneOn_1 : decode cX8_goOneOn 1 = .ok (.istore_n 2, 1) := by decide +kernel
theorem dX8_goOneOn_2 : decode cX8_goOneOn 2 = .ok (.iload_n 2, 1) := by decide +kernel
theorem dX8_goOneOn_3 : decode cX8_goOneOn 3 = .ok (.aload_n 0, 1) := by decide +kernel
theorem dX8_goOneOn_4 : decode cX8_goOneOn 4 = .ok (.getfield 9, 3) := by decide +kernel
theorem dX8_goOneOn_7 : decode cX8_goOneOn 7 = .ok (.if_icmp .ge 34, 3) := by decide +kernel
theorem dX8_goOneOn_10 : decode cX8_goOneOn 10 = .ok (.iload_n 2, 1) := by decide +kernel
theorem dX8_goOneOn_11 : decode cX8_goOneOn 11 = .ok (.aload_n 0, 1) := by decide +kernel
theorem dX8_goOneOn_12 : decode cX8_goOneOn 12 = .ok (.getfield 21, 3) := by decide +kernel
theorem dX8_goOneOn_15 : decode cX8_goOneOn 15 = .ok (.arraylength, 1) := by decide +kernel
theorem dX8_goOneOn_16 : decode cX8_goOneOn 16 = .ok (.if_icmp .ge 25, 3) := by decide +kernel
theorem dX8_goOneOn_19 : decode cX8_goOneOn 19 = .ok (.aload_n 0, 1) := by decide +kernel
theorem dX8_goOneOn_20 : decode cX8_goOneOn 20 = .ok (.getfield 32, 3) := by decide +kernel
theorem dX8_goOneOn_23 : decode cX8_goOneOn 23 = .ok (.aload_n 0, 1) := by decide +kernel
theorem dX8_goOneOn_24 : decode cX8_goOneOn 24 = .ok (.aload_n 0, 1) := by decide +kernel
theorem dX8_goOneOn_25 : decode cX8_goOneOn 25 = .ok (.getfield 21, 3) := by decide +kernel
theorem dX8_goOneOn_28 : decode cX8_goOneOn 28 = .ok (.iload_n 2, 1) := by decide +kernel
theorem dX8_goOneOn_29 : decode cX8_goOneOn 29 = .ok (.iaload, 1) := by decide +kernel
theorem dX8_goOneOn_30 : decode cX8_goOneOn 30 = .ok (.invokevirtual 35, 3) := by decide +kernel
theorem dX8_goOneOn_33 : decode cX8_goOneOn 33 = .ok (.lconst 0, 1) := by decide +kernel
theorem dX8_goOneOn_34 : decode cX8_goOneOn 34 = .ok (.lastore, 1) := by decide +kernel
theorem dX8_goOneOn_35 : decode cX8_goOneOn 35 = .ok (.iinc 2 1, 3) := by decide +kernel
theorem dX8_goOneOn_38 : decode cX8_goOneOn 38 = .ok (.goto (-36), 3) := by decide +kernel
theorem dX8_goOneOn_41 : decode cX8_goOneOn 41 = .ok (.iconst 0, 1) := by decide +kernel
theorem dX8_goOneOn_42 : decode cX8_goOneOn 42 = .ok (.istore_n 2, 1) := by decide +kernel
theorem dX8_goOneOn_43 : decode cX8_goOneOn 43 = .ok (.iload_n 2, 1) := by decide +kernel
theorem dX8_goOneOn_44 : decode cX8_goOneOn 44 = .ok (.aload_n 0, 1) := by decide +kernel
theorem dX8_goOneOn_45 : decode cX8_goOneOn 45 = .ok (.getfield 9, 3) := by decide +kernel
theorem dX8_goOneOn_48 : decode cX8_goOneOn 48 = .ok (.if_icmp .ge 92, 3) := by decide +kernel
theorem dX8_goOneOn_51 : decode cX8_goOneOn 51 = .ok (.iload_n 2, 1) := by decide +kernel
theorem dX8_goOneOn_52 : decode cX8_goOneOn 52 = .ok (.aload_n 0, 1) := by decide +kernel
theorem dX8_goOneOn_53 : decode cX8_goOneOn 53 = .ok (.getfield 21, 3) := by decide +kernel
theorem dX8_goOneOn_56 : decode cX8_goOneOn 56 = .ok (.arraylength, 1) := by decide +kernel
theorem dX8_goOneOn_57 : decode cX8_goOneOn 57 = .ok (.if_icmp .ge 83, 3) := by decide +kernel
theorem dX8_goOneOn_60 : decode cX8_goOneOn 60 = .ok (.aload_n 0, 1) := by decide +kernel
theorem dX8_goOneOn_61 : decode cX8_goOneOn 61 = .ok (.getfield 28, 3) := by decide +kernel
theorem dX8_goOneOn_64 : decode cX8_goOneOn 64 = .ok (.aload_n 0, 1) := by decide +kernel
theorem dX8_goOneOn_65 : decode cX8_goOneOn 65 = .ok (.aload_n 0, 1) := by decide +kernel
theorem dX8_goOneOn_66 : decode cX8_goOneOn 66 = .ok (.getfield 21, 3) := by decide +kernel
theorem dX8_goOneOn_69 : decode cX8_goOneOn 69 = .ok (.iload_n 2, 1) := by decide +kernel
theorem dX8_goOneOn_70 : decode cX8_goOneOn 70 = .ok (.iaload, 1) := by decide +kernel
theorem dX8_goOneOn_71 : decode cX8_goOneOn 71 = .ok (.invokevirtual 35, 3) := by decide +kernel
theorem dX8_goOneOn_74 : decode cX8_goOneOn 74 = .ok (.laload, 1) := by decide +kernel
theorem dX8_goOneOn_75 : decode cX8_goOneOn 75 = .ok (.lstore_n 3, 1) := by decide +kernel
theorem dX8_goOneOn_76 : decode cX8_goOneOn 76 = .ok (.iconst 0, 1) := by decide +kernel
theorem dX8_goOneOn_77 : decode cX8_goOneOn 77 = .ok (.istore 5, 2) := by decide +kernel
theorem dX8_goOneOn_79 : decode cX8_goOneOn 79 = .ok (.iload 5, 2) := by decide +kernel
theorem dX8_goOneOn_81 : decode cX8_goOneOn 81 = .ok (.aload_n 0, 1) := by decide +kernel
theorem dX8_goOneOn_82 : decode cX8_goOneOn 82 = .ok (.getfield 18, 3) := by decide +kernel
theorem dX8_goOneOn_85 : decode cX8_goOneOn 85 = .ok (.if_icmp .ge 49, 3) := by decide +kernel
theorem dX8_goOneOn_88 : decode cX8_goOneOn 88 = .ok (.lload_n 3, 1) := by decide +kernel
theorem dX8_goOneOn_89 : decode cX8_goOneOn 89 = .ok (.lconst 0, 1) := by decide +kernel
theorem dX8_goOneOn_90 : decode cX8_goOneOn 90 = .ok (.lcmp, 1) := by decide +kernel
theorem dX8_goOneOn_91 : decode cX8_goOneOn 91 = .ok (.ifCond .eq 43, 3) := by decide +kernel
theorem dX8_goOneOn_94 : decode cX8_goOneOn 94 = .ok (.aload_n 0, 1) := by decide +kernel
theorem dX8_goOneOn_95 : decode cX8_goOneOn 95 = .ok (.aload_n 1, 1) := by decide +kernel
theorem dX8_goOneOn_96 : decode cX8_goOneOn 96 = .ok (.aload_n 0, 1) := by decide +kernel
theorem dX8_goOneOn_97 : decode cX8_goOneOn 97 = .ok (.getfield 21, 3) := by decide +kernel
theorem dX8_goOneOn_100 : decode cX8_goOneOn 100 = .ok (.iload_n 2, 1) := by decide +kernel
theorem dX8_goOneOn_101 : decode cX8_goOneOn 101 = .ok (.iaload, 1) := by decide +kernel
theorem dX8_goOneOn_102 : decode cX8_goOneOn 102 = .ok (.iload 5, 2) := by decide +kernel
theorem dX8_goOneOn_104 : decode cX8_goOneOn 104 = .ok (.invokevirtual 74, 3) := by decide +kernel
theorem dX8_goOneOn_107 : decode cX8_goOneOn 107 = .ok (.lload_n 3, 1) := by decide +kernel
theorem dX8_goOneOn_108 : decode cX8_goOneOn 108 = .ok (.invokevirtual 108, 3) := by decide +kernel
theorem dX8_goOneOn_111 : decode cX8_goOneOn 111 = .ok (.aload_n 0, 1) := by decide +kernel
theorem dX8_goOneOn_112 : decode cX8_goOneOn 112 = .ok (.aload_n 1, 1) := by decide +kernel
theorem dX8_goOneOn_113 : decode cX8_goOneOn 113 = .ok (.aload_n 0, 1) := by decide +kernel
theorem dX8_goOneOn_114 : decode cX8_goOneOn 114 = .ok (.getfield 21, 3) := by decide +kernel
theorem dX8_goOneOn_117 : decode cX8_goOneOn 117 = .ok (.iload_n 2, 1) := by decide +kernel
theorem dX8_goOneOn_118 : decode cX8_goOneOn 118 = .ok (.iaload, 1) := by decide +kernel
theorem dX8_goOneOn_119 : decode cX8_goOneOn 119 = .ok (.iload 5, 2) := by decide +kernel
theorem dX8_goOneOn_121 : decode cX8_goOneOn 121 = .ok (.invokevirtual 77, 3) := by decide +kernel
theorem dX8_goOneOn_124 : decode cX8_goOneOn 124 = .ok (.lload_n 3, 1) := by decide +kernel
theorem dX8_goOneOn_125 : decode cX8_goOneOn 125 = .ok (.invokevirtual 108, 3) := by decide +kernel
theorem dX8_goOneOn_128 : decode cX8_goOneOn 128 = .ok (.iinc 5 1, 3) := by decide +kernel
theorem dX8_goOneOn_131 : decode cX8_goOneOn 131 = .ok (.goto (-52), 3) := by decide +kernel
theorem dX8_goOneOn_134 : decode cX8_goOneOn 134 = .ok (.iinc 2 1, 3) := by decide +kernel
theorem dX8_goOneOn_137 : decode cX8_goOneOn 137 = .ok (.goto (-94), 3) := by decide +kernel
theorem dX8_goOneOn_140 : decode cX8_goOneOn 140 = .ok (.aload_n 0, 1) := by decide +kernel
theorem dX8_goOneOn_141 : decode cX8_goOneOn 141 = .ok (.getfield 28, 3) := by decide +kernel
theorem dX8_goOneOn_144 : decode cX8_goOneOn 144 = .ok (.astore_n 2, 1) := by decide +kernel
theorem dX8_goOneOn_145 : decode cX8_goOneOn 145 = .ok (.aload_n 0, 1) := by decide +kernel
theorem dX8_goOneOn_146 : decode cX8_goOneOn 146 = .ok (.aload_n 0, 1) := by decide +kernel
theorem dX8_goOneOn_147 : decode cX8_goOneOn 147 = .ok (.getfield 32, 3) := by decide +kernel
theorem dX8_goOneOn_150 : decode cX8_goOneOn 150 = .ok (.putfield 28, 3) := by decide +kernel
theorem dX8_goOneOn_153 : decode cX8_goOneOn 153 = .ok (.aload_n 0, 1) := by decide +kernel
theorem dX8_goOneOn_154 : decode cX8_goOneOn 154 = .ok (.aload_n 2, 1) := by decide +kernel
theorem dX8_goOneOn_155 : decode cX8_goOneOn 155 = .ok (.putfield 32, 3) := by decide +kernel
theorem dX8_goOneOn_158 : decode cX8_goOneOn 158 = .ok (.return_, 1) := by decide +kernel
theorem dX8_addWays_0 : decode cX8_addWays 0 = .ok (.iload_n 1, 1) := by decide +kernel
theorem dX8_addWays_1 : decode cX8_addWays 1 = .ok (.ifCond .lt 17, 3) := by decide +kernel
theorem dX8_addWays_4 : decode cX8_addWays 4 = .ok (.aload_n 0, 1) := by decide +kernel
theorem dX8_addWays_5 : decode cX8_addWays 5 = .ok (.getfield 32, 3) := by decide +kernel
theorem dX8_addWays_8 : decode cX8_addWays 8 = .ok (.aload_n 0, 1) := by decide +kernel
theorem dX8_addWays_9 : decode cX8_addWays 9 = .ok (.iload_n 1, 1) := by decide +kernel
theorem dX8_addWays_10 : decode cX8_addWays 10 = .ok (.invokevirtual 35, 3) := by decide +kernel
theorem dX8_addWays_13 : decode cX8_addWays 13 = .ok (.dup2, 1) := by decide +kernel
theorem dX8_addWays_14 : decode cX8_addWays 14 = .ok (.laload, 1) := by decide +kernel
theorem dX8_addWays_15 : decode cX8_addWays 15 = .ok (.lload_n 2, 1) := by decide +kernel
theorem dX8_addWays_16 : decode cX8_addWays 16 = .ok (.ladd, 1) := by decide +kernel
theorem dX8_addWays_17 : decode cX8_addWays 17 = .ok (.lastore, 1) := by decide +kernel
theorem dX8_addWays_18 : decode cX8_addWays 18 = .ok (.return_, 1) := by decide +kernel
theorem dX9_init_0 : decode cX9_init 0 = .ok (.aload_n 0, 1) := by decide +kernel
theorem dX9_init_1 : decode cX9_init 1 = .ok (.invokespecial 3, 3) := by decide +kernel
theorem dX9_init_4 : decode cX9_init 4 = .ok (.aload_n 0, 1) := by decide +kernel
theorem dX9_init_5 : decode cX9_init 5 = .ok (.new 9, 3) := by decide +kernel
theorem dX9_init_8 : decode cX9_init 8 = .ok (.dup, 1) := by decide +kernel
theorem dX9_init_9 : decode cX9_init 9 = .ok (.invokespecial 11, 3) := by decide +kernel
theorem dX9_init_12 : decode cX9_init 12 = .ok (.putfield 12, 3) := by decide +kernel
theorem dX9_init_15 : decode cX9_init 15 = .ok (.aload_n 0, 1) := by decide +kernel
theorem dX9_init_16 : decode cX9_init 16 = .ok (.sipush 2048, 3) := by decide +kernel
theorem dX9_init_19 : decode cX9_init 19 = .ok (.newarray .byte, 2) := by decide +kernel
theorem dX9_init_21 : decode cX9_init 21 = .ok (.putfield 18, 3) := by decide +kernel
theorem dX9_init_24 : decode cX9_init 24 = .ok (.aload_n 0, 1) := by decide +kernel
theorem dX9_init_25 : decode cX9_init 25 = .ok (.sipush 2048, 3) := by decide +kernel
theorem dX9_init_28 : decode cX9_init 28 = .ok (.newarray .int, 2) := by decide +kernel
theorem dX9_init_30 : decode cX9_init 30 = .ok (.putfield 22, 3) := by decide +kernel
theorem dX9_init_33 : decode cX9_init 33 = .ok (.aload_n 0, 1) := by decide +kernel
theorem dX9_init_34 : decode cX9_init 34 = .ok (.bipush 6, 2) := by decide +kernel
theorem dX9_init_36 : decode cX9_init 36 = .ok (.newarray .int, 2) := by decide +kernel
theorem dX9_init_38 : decode cX9_init 38 = .ok (.putfield 28, 3) := by decide +kernel
theorem dX9_init_41 : decode cX9_init 41 = .ok (.return_, 1) := by decide +kernel
theorem dX9_take_0 : decode cX9_take 0 = .ok (.aload_n 0, 1) := by decide +kernel
theorem dX9_take_1 : decode cX9_take 1 = .ok (.getfield 12, 3) := by decide +kernel
theorem dX9_take_4 : decode cX9_take 4 = .ok (.aload_n 1, 1) := by decide +kernel
theorem dX9_take_5 : decode cX9_take 5 = .ok (.invokevirtual 31, 3) := by decide +kernel
theorem dX9_take_8 : decode cX9_take 8 = .ok (.aload_n 0, 1) := by decide +kernel
theorem dX9_take_9 : decode cX9_take 9 = .ok (.getfield 18, 3) := by decide +kernel
theorem dX9_take_12 : decode cX9_take 12 = .ok (.iconst 0, 1) := by decide +kernel
theorem dX9_take_13 : decode cX9_take 13 = .ok (.invokestatic 35, 3) := by decide +kernel
theorem dX9_take_16 : decode cX9_take 16 = .ok (.aload_n 0, 1) := by decide +kernel
theorem dX9_take_17 : decode cX9_take 17 = .ok (.getfield 22, 3) := by decide +kernel
theorem dX9_take_20 : decode cX9_take 20 = .ok (.iconst 0, 1) := by decide +kernel
theorem dX9_take_21 : decode cX9_take 21 = .ok (.invokestatic 41, 3) := by decide +kernel
theorem dX9_take_24 : decode cX9_take 24 = .ok (.return_, 1) := by decide +kernel
theorem dX9_tryDeed_0 : decode cX9_tryDeed 0 = .ok (.lload_n 2, 1) := by decide +kernel
theorem dX9_tryDeed_1 : decode cX9_tryDeed 1 = .ok (.lconst 0, 1) := by decide +kernel
theorem dX9_tryDeed_2 : decode cX9_tryDeed 2 = .ok (.lcmp, 1) := by decide +kernel
theorem dX9_tryDeed_3 : decode cX9_tryDeed 3 = .ok (.ifCond .lt 11, 3) := by decide +kernel
theorem dX9_tryDeed_6 : decode cX9_tryDeed 6 = .ok (.lload_n 2, 1) := by decide +kernel
theorem dX9_tryDeed_7 : decode cX9_tryDeed 7 = .ok (.ldc2_w 44, 3) := by decide +kernel
theorem dX9_tryDeed_10 : decode cX9_tryDeed 10 = .ok (.lcmp, 1) := by decide +kernel
theorem dX9_tryDeed_11 : decode cX9_tryDeed 11 = .ok (.ifCond .le 5, 3) := by decide +kernel
theorem dX9_tryDeed_14 : decode cX9_tryDeed 14 = .ok (.iconst (-1), 1) := by decide +kernel
theorem dX9_tryDeed_15 : decode cX9_tryDeed 15 = .ok (.ireturn, 1) := by decide +kernel
theorem dX9_tryDeed_16 : decode cX9_tryDeed 16 = .ok (.lload_n 2, 1) := by decide +kernel
theorem dX9_tryDeed_17 : decode cX9_tryDeed 17 = .ok (.l2i, 1) := by decide +kernel
theorem dX9_tryDeed_18 : decode cX9_tryDeed 18 = .ok (.bipush 10, 2) := by decide +kernel
theorem dX9_tryDeed_20 : decode cX9_tryDeed 20 = .ok (.irem, 1) := by decide +kernel
theorem dX9_tryDeed_21 : decode cX9_tryDeed 21 = .ok (.istore 4, 2) := by decide +kernel
theorem dX9_tryDeed_23 : decode cX9_tryDeed 23 = .ok (.lload_n 2, 1) := by decide +kernel
theorem dX9_tryDeed_24 : decode cX9_tryDeed 24 = .ok (.l2i, 1) := by decide +kernel
theorem dX9_tryDeed_25 : decode cX9_tryDeed 25 = .ok (.bipush 10, 2) := by decide +kernel
theorem dX9_tryDeed_27 : decode cX9_tryDeed 27 = .ok (.idiv, 1) := by decide +kernel
theorem dX9_tryDeed_28 : decode cX9_tryDeed 28 = .ok (.tableswitch 64 0 3 #[32, 40, 48, 56], 32) := by decide +kernel
theorem dX9_tryDeed_60 : decode cX9_tryDeed 60 = .ok (.aload_n 0, 1) := by decide +kernel
theorem dX9_tryDeed_61 : decode cX9_tryDeed 61 = .ok (.iload_n 1, 1) := by decide +kernel
theorem dX9_tryDeed_62 : decode cX9_tryDeed 62 = .ok (.iload 4, 2) := by decide +kernel
theorem dX9_tryDeed_64 : decode cX9_tryDeed 64 = .ok (.invokevirtual 46, 3) := by decide +kernel
theorem dX9_tryDeed_67 : decode cX9_tryDeed 67 = .ok (.ireturn, 1) := by decide +kernel
theorem dX9_tryDeed_68 : decode cX9_tryDeed 68 = .ok (.aload_n 0, 1) := by decide +kernel
theorem dX9_tryDeed_69 : decode cX9_tryDeed 69 = .ok (.iload_n 1, 1) := by decide +kernel
theorem dX9_tryDeed_70 : decode cX9_tryDeed 70 = .ok (.iload 4, 2) := by decide +kernel
theorem dX9_tryDeed_72 : decode cX9_tryDeed 72 = .ok (.invokevirtual 50, 3) := by decide +kernel
theorem dX9_tryDeed_75 : decode cX9_tryDeed 75 = .ok (.ireturn, 1) := by decide +kernel
theorem dX9_tryDeed_76 : decode cX9_tryDeed 76 = .ok (.aload_n 0, 1) := by decide +kernel
theorem dX9_tryDeed_77 : decode cX9_tryDeed 77 = .ok (.iload_n 1, 1) := by decide +kernel
theorem dX9_tryDeed_78 : decode cX9_tryDeed 78 = .ok (.iload 4, 2) := by decide +kernel
theorem dX9_tryDeed_80 : decode cX9_tryDeed 80 = .ok (.invokevirtual 53, 3) := by decide +kernel
theorem dX9_tryDeed_83 : decode cX9_tryDeed 83 = .ok (.ireturn, 1) := by decide +kernel
theorem dX9_tryDeed_84 : decode cX9_tryDeed 84 = .ok (.aload_n 0, 1) := by decide +kernel
theorem dX9_tryDeed_85 : decode cX9_tryDeed 85 = .ok (.iload_n 1, 1) := by decide +kernel
theorem dX9_tryDeed_86 : decode cX9_tryDeed 86 = .ok (.iload 4, 2) := by decide +kernel
theorem dX9_tryDeed_88 : decode cX9_tryDeed 88 = .ok (.invokevirtual 56, 3) := by decide +kernel
theorem dX9_tryDeed_91 : decode cX9_tryDeed 91 = .ok (.ireturn, 1) := by decide +kernel
theorem dX9_tryDeed_92 : decode cX9_tryDeed 92 = .ok (.iload_n 1, 1) := by decide +kernel
theorem dX9_tryDeed_93 : decode cX9_tryDeed 93 = .ok (.invokestatic 59, 3) := by decide +kernel
theorem dX9_tryDeed_96 : decode cX9_tryDeed 96 = .ok (.iload 4, 2) := by decide +kernel
theorem dX9_tryDeed_98 : decode cX9_tryDeed 98 = .ok (.bipush 16, 2) := by decide +kernel
theorem dX9_tryDeed_100 : decode cX9_tryDeed 100 = .ok (.ishl, 1) := by decide +kernel
theorem dX9_tryDeed_101 : decode cX9_tryDeed 101 = .ok (.ior, 1) := by decide +kernel
theorem dX9_tryDeed_102 : decode cX9_tryDeed 102 = .ok (.ireturn, 1) := by decide +kernel
theorem dX9_tryDo_0 : decode cX9_tryDo 0 = .ok (.aload_n 0, 1) := by decide +kernel
theorem dX9_tryDo_1 : decode cX9_tryDo 1 = .ok (.getfield 12, 3) := by decide +kernel
theorem dX9_tryDo_4 : decode cX9_tryDo 4 = .ok (.iload_n 2, 1) := by decide +kernel
theorem dX9_tryDo_5 : decode cX9_tryDo 5 = .ok (.invokevirtual 63, 3) := by decide +kernel
theorem dX9_tryDo_8 : decode cX9_tryDo 8 = .ok (.ifCond .ne 5, 3) := by decide +kernel
theorem dX9_tryDo_11 : decode cX9_tryDo 11 = .ok (.iconst (-1), 1) := by decide +kernel
theorem dX9_tryDo_12 : decode cX9_tryDo 12 = .ok (.ireturn, 1) := by decide +kernel
theorem dX9_tryDo_13 : decode cX9_tryDo 13 = .ok (.iload_n 1, 1) := by decide +kernel
theorem dX9_tryDo_14 : decode cX9_tryDo 14 = .ok (.invokestatic 67, 3) := by decide +kernel
theorem dX9_tryDo_17 : decode cX9_tryDo 17 = .ok (.istore_n 3, 1) := by decide +kernel
theorem dX9_tryDo_18 : decode cX9_tryDo 18 = .ok (.iload_n 3, 1) := by decide +kernel
theorem dX9_tryDo_19 : decode cX9_tryDo 19 = .ok (.iload_n 2, 1) := by decide +kernel
theorem dX9_tryDo_20 : decode cX9_tryDo 20 = .ok (.ishr, 1) := by decide +kernel
theorem dX9_tryDo_21 : decode cX9_tryDo 21 = .ok (.iconst 1, 1) := by decide +kernel
theorem dX9_tryDo_22 : decode cX9_tryDo 22 = .ok (.iand, 1) := by decide +kernel
theorem dX9_tryDo_23 : decode cX9_tryDo 23 = .ok (.iconst 1, 1) := by decide +kernel
theorem dX9_tryDo_24 : decode cX9_tryDo 24 = .ok (.if_icmp .ne 6, 3) := by decide +kernel
theorem dX9_tryDo_27 : decode cX9_tryDo 27 = .ok (.bipush (-2), 2) := by decide +kernel
theorem dX9_tryDo_29 : decode cX9_tryDo 29 = .ok (.ireturn, 1) := by decide +kernel
theorem dX9_tryDo_30 : decode cX9_tryDo 30 = .ok (.aload_n 0, 1) := by decide +kernel
theorem dX9_tryDo_31 : decode cX9_tryDo 31 = .ok (.getfield 12, 3) := by decide +kernel
theorem dX9_tryDo_34 : decode cX9_tryDo 34 = .ok (.getfield 70, 3) := by decide +kernel
theorem dX9_tryDo_37 : decode cX9_tryDo 37 = .ok (.iload_n 2, 1) := by decide +kernel
theorem dX9_tryDo_38 : decode cX9_tryDo 38 = .ok (.iaload, 1) := by decide +kernel
theorem dX9_tryDo_39 : decode cX9_tryDo 39 = .ok (.iload_n 3, 1) := by decide +kernel
theorem dX9_tryDo_40 : decode cX9_tryDo 40 = .ok (.iconst (-1), 1) := by decide +kernel
theorem dX9_tryDo_41 : decode cX9_tryDo 41 = .ok (.ixor, 1) := by decide +kernel
theorem dX9_tryDo_42 : decode cX9_tryDo 42 = .ok (.iand, 1) := by decide +kernel
theorem dX9_tryDo_43 : decode cX9_tryDo 43 = .ok (.ifCond .eq 6, 3) := by decide +kernel
theorem dX9_tryDo_46 : decode cX9_tryDo 46 = .ok (.bipush (-3), 2) := by decide +kernel
theorem dX9_tryDo_48 : decode cX9_tryDo 48 = .ok (.ireturn, 1) := by decide +kernel
theorem dX9_tryDo_49 : decode cX9_tryDo 49 = .ok (.iload_n 1, 1) := by decide +kernel
theorem dX9_tryDo_50 : decode cX9_tryDo 50 = .ok (.sipush 256, 3) := by decide +kernel
theorem dX9_tryDo_53 : decode cX9_tryDo 53 = .ok (.iload_n 2, 1) := by decide +kernel
theorem dX9_tryDo_54 : decode cX9_tryDo 54 = .ok (.ishl, 1) := by decide +kernel
theorem dX9_tryDo_55 : decode cX9_tryDo 55 = .ok (.iconst (-1), 1) := by decide +kernel
theorem dX9_tryDo_56 : decode cX9_tryDo 56 = .ok (.ixor, 1) := by decide +kernel
theorem dX9_tryDo_57 : decode cX9_tryDo 57 = .ok (.iand, 1) := by decide +kernel
theorem dX9_tryDo_58 : decode cX9_tryDo 58 = .ok (.iconst 1, 1) := by decide +kernel
theorem dX9_tryDo_59 : decode cX9_tryDo 59 = .ok (.iload_n 2, 1) := by decide +kernel
theorem dX9_tryDo_60 : decode cX9_tryDo 60 = .ok (.ishl, 1) := by decide +kernel
theorem dX9_tryDo_61 : decode cX9_tryDo 61 = .ok (.ior, 1) := by decide +kernel
theorem dX9_tryDo_62 : decode cX9_tryDo 62 = .ok (.istore 4, 2) := by decide +kernel
theorem dX9_tryDo_64 : decode cX9_tryDo 64 = .ok (.aload_n 0, 1) := by decide +kernel
theorem dX9_tryDo_65 : decode cX9_tryDo 65 = .ok (.iload_n 2, 1) := by decide +kernel
theorem dX9_tryDo_66 : decode cX9_tryDo 66 = .ok (.iload 4, 2) := by decide +kernel
theorem dX9_tryDo_68 : decode cX9_tryDo 68 = .ok (.invokestatic 73, 3) := by decide +kernel
theorem dX9_tryDo_71 : decode cX9_tryDo 71 = .ok (.invokevirtual 76, 3) := by decide +kernel
theorem dX9_tryDo_74 : decode cX9_tryDo 74 = .ok (.ifCond .eq 14, 3) := by decide +kernel
theorem dX9_tryDo_77 : decode cX9_tryDo 77 = .ok (.iload 4, 2) := by decide +kernel
theorem dX9_tryDo_79 : decode cX9_tryDo 79 = .ok (.sipush 256, 3) := by decide +kernel
theorem dX9_tryDo_82 : decode cX9_tryDo 82 = .ok (.iload_n 2, 1) := by decide +kernel
theorem dX9_tryDo_83 : decode cX9_tryDo 83 = .ok (.ishl, 1) := by decide +kernel
theorem dX9_tryDo_84 : decode cX9_tryDo 84 = .ok (.ior, 1) := by decide +kernel
theorem dX9_tryDo_85 : decode cX9_tryDo 85 = .ok (.goto 5, 3) := by decide +kernel
theorem dX9_tryDo_88 : decode cX9_tryDo 88 = .ok (.iload 4, 2) := by decide +kernel
theorem dX9_tryDo_90 : decode cX9_tryDo 90 = .ok (.ireturn, 1) := by decide +kernel
theorem dX9_tryDrop_0 : decode cX9_tryDrop 0 = .ok (.aload_n 0, 1) := by decide +kernel
theorem dX9_tryDrop_1 : decode cX9_tryDrop 1 = .ok (.getfield 12, 3) := by decide +kernel
theorem dX9_tryDrop_4 : decode cX9_tryDrop 4 = .ok (.iload_n 2, 1) := by decide +kernel
theorem dX9_tryDrop_5 : decode cX9_tryDrop 5 = .ok (.invokevirtual 63, 3) := by decide +kernel
theorem dX9_tryDrop_8 : decode cX9_tryDrop 8 = .ok (.ifCond .ne 5, 3) := by decide +kernel
theorem dX9_tryDrop_11 : decode cX9_tryDrop 11 = .ok (.iconst (-1), 1) := by decide +kernel
theorem dX9_tryDrop_12 : decode cX9_tryDrop 12 = .ok (.ireturn, 1) := by decide +kernel
theorem dX9_tryDrop_13 : decode cX9_tryDrop 13 = .ok (.iload_n 1, 1) := by decide +kernel
theorem dX9_tryDrop_14 : decode cX9_tryDrop 14 = .ok (.invokestatic 73, 3) := by decide +kernel
theorem dX9_tryDrop_17 : decode cX9_tryDrop 17 = .ok (.iload_n 2, 1) := by decide +kernel
theorem dX9_tryDrop_18 : decode cX9_tryDrop 18 = .ok (.ishr, 1) := by decide +kernel
theorem dX9_tryDrop_19 : decode cX9_tryDrop 19 = .ok (.iconst 1, 1) := by decide +kernel
theorem dX9_tryDrop_20 : decode cX9_tryDrop 20 = .ok (.iand, 1) := by decide +kernel
theorem dX9_tryDrop_21 : decode cX9_tryDrop 21 = .ok (.ifCond .ne 8, 3) := by decide +kernel
theorem dX9_tryDrop_24 : decode cX9_tryDrop 24 = .ok (.bipush (-2), 2) := by decide +kernel
theorem dX9_tryDrop_26 : decode cX9_tryDrop 26 = .ok (.goto 12, 3) := by decide +kernel
theorem dX9_tryDrop_29 : decode cX9_tryDrop 29 = .ok (.iload_n 1, 1) := by decide +kernel
theorem dX9_tryDrop_30 : decode cX9_tryDrop 30 = .ok (.sipush 256, 3) := by decide +kernel
theorem dX9_tryDrop_33 : decode cX9_tryDrop 33 = .ok (.iload_n 2, 1) := by decide +kernel
theorem dX9_tryDrop_34 : decode cX9_tryDrop 34 = .ok (.ishl, 1) := by decide +kernel
theorem dX9_tryDrop_35 : decode cX9_tryDrop 35 = .ok (.iconst (-1), 1) := by decide +kernel
theorem dX9_tryDrop_36 : decode cX9_tryDrop 36 = .ok (.ixor, 1) := by decide +kernel
theorem dX9_tryDrop_37 : decode cX9_tryDrop 37 = .ok (.iand, 1) := by decide +kernel
theorem dX9_tryDrop_38 : decode cX9_tryDrop 38 = .ok (.ireturn, 1) := by decide +kernel
theorem dX9_tryForge_0 : decode cX9_tryForge 0 = .ok (.aload_n 0, 1) := by decide +kernel
theorem dX9_tryForge_1 : decode cX9_tryForge 1 = .ok (.getfield 12, 3) := by decide +kernel
theorem dX9_tryForge_4 : decode cX9_tryForge 4 = .ok (.iload_n 2, 1) := by decide +kernel
theorem dX9_tryForge_5 : decode cX9_tryForge 5 = .ok (.invokevirtual 63, 3) := by decide +kernel
theorem dX9_tryForge_8 : decode cX9_tryForge 8 = .ok (.ifCond .ne 5, 3) := by decide +kernel
theorem dX9_tryForge_11 : decode cX9_tryForge 11 = .ok (.iconst (-1), 1) := by decide +kernel
theorem dX9_tryForge_12 : decode cX9_tryForge 12 = .ok (.ireturn, 1) := by decide +kernel
theorem dX9_tryForge_13 : decode cX9_tryForge 13 = .ok (.iload_n 1, 1) := by decide +kernel
theorem dX9_tryForge_14 : decode cX9_tryForge 14 = .ok (.invokestatic 80, 3) := by decide +kernel
theorem dX9_tryForge_17 : decode cX9_tryForge 17 = .ok (.iload_n 2, 1) := by decide +kernel
theorem dX9_tryForge_18 : decode cX9_tryForge 18 = .ok (.ishr, 1) := by decide +kernel
theorem dX9_tryForge_19 : decode cX9_tryForge 19 = .ok (.iconst 1, 1) := by decide +kernel
theorem dX9_tryForge_20 : decode cX9_tryForge 20 = .ok (.iand, 1) := by decide +kernel
theorem dX9_tryForge_21 : decode cX9_tryForge 21 = .ok (.iconst 1, 1) := by decide +kernel
theorem dX9_tryForge_22 : decode cX9_tryForge 22 = .ok (.if_icmp .ne 6, 3) := by decide +kernel
theorem dX9_tryForge_25 : decode cX9_tryForge 25 = .ok (.bipush (-2), 2) := by decide +kernel
theorem dX9_tryForge_27 : decode cX9_tryForge 27 = .ok (.ireturn, 1) := by decide +kernel
theorem dX9_tryForge_28 : decode cX9_tryForge 28 = .ok (.aload_n 0, 1) := by decide +kernel
theorem dX9_tryForge_29 : decode cX9_tryForge 29 = .ok (.getfield 12, 3) := by decide +kernel
theorem dX9_tryForge_32 : decode cX9_tryForge 32 = .ok (.iload_n 1, 1) := by decide +kernel
theorem dX9_tryForge_33 : decode cX9_tryForge 33 = .ok (.invokestatic 73, 3) := by decide +kernel
theorem dX9_tryForge_36 : decode cX9_tryForge 36 = .ok (.invokevirtual 83, 3) := by decide +kernel
theorem dX9_tryForge_39 : decode cX9_tryForge 39 = .ok (.aload_n 0, 1) := by decide +kernel
theorem dX9_tryForge_40 : decode cX9_tryForge 40 = .ok (.getfield 12, 3) := by decide +kernel
theorem dX9_tryForge_43 : decode cX9_tryForge 43 = .ok (.getfield 86, 3) := by decide +kernel
theorem dX9_tryForge_46 : decode cX9_tryForge 46 = .ok (.iload_n 2, 1) := by decide +kernel
theorem dX9_tryForge_47 : decode cX9_tryForge 47 = .ok (.iaload, 1) := by decide +kernel
theorem dX9_tryForge_48 : decode cX9_tryForge 48 = .ok (.if_icmp .ge 8, 3) := by decide +kernel
theorem dX9_tryForge_51 : decode cX9_tryForge 51 = .ok (.bipush (-4), 2) := by decide +kernel
theorem dX9_tryForge_53 : decode cX9_tryForge 53 = .ok (.goto 10, 3) := by decide +kernel
theorem dX9_tryForge_56 : decode cX9_tryForge 56 = .ok (.iload_n 1, 1) := by decide +kernel
theorem dX9_tryForge_57 : decode cX9_tryForge 57 = .ok (.sipush 256, 3) := by decide +kernel
theorem dX9_tryForge_60 : decode cX9_tryForge 60 = .ok (.iload_n 2, 1) := by decide +kernel
theorem dX9_tryForge_61 : decode cX9_tryForge 61 = .ok (.ishl, 1) := by decide +kernel
theorem dX9_tryForge_62 : decode cX9_tryForge 62 = .ok (.ior, 1) := by decide +kernel
theorem dX9_tryForge_63 : decode cX9_tryForge 63 = .ok (.ireturn, 1) := by decide +kernel
theorem dX9_tryAsk_0 : decode cX9_tryAsk 0 = .ok (.aload_n 0, 1) := by decide +kernel
theorem dX9_tryAsk_1 : decode cX9_tryAsk 1 = .ok (.getfield 12, 3) := by decide +kernel
theorem dX9_tryAsk_4 : decode cX9_tryAsk 4 = .ok (.iload_n 2, 1) := by decide +kernel
theorem dX9_tryAsk_5 : decode cX9_tryAsk 5 = .ok (.invokevirtual 63, 3) := by decide +kernel
theorem dX9_tryAsk_8 : decode cX9_tryAsk 8 = .ok (.ifCond .ne 5, 3) := by decide +kernel
theorem dX9_tryAsk_11 : decode cX9_tryAsk 11 = .ok (.iconst (-1), 1) := by decide +kernel
theorem dX9_tryAsk_12 : decode cX9_tryAsk 12 = .ok (.ireturn, 1) := by decide +kernel
theorem dX9_tryAsk_13 : decode cX9_tryAsk 13 = .ok (.iload_n 1, 1) := by decide +kernel
theorem dX9_tryAsk_14 : decode cX9_tryAsk 14 = .ok (.iload_n 2, 1) := by decide +kernel
theorem dX9_tryAsk_15 : decode cX9_tryAsk 15 = .ok (.invokestatic 89, 3) := by decide +kernel
theorem dX9_tryAsk_18 : decode cX9_tryAsk 18 = .ok (.istore_n 3, 1) := by decide +kernel
theorem dX9_tryAsk_19 : decode cX9_tryAsk 19 = .ok (.iload_n 3, 1) := by decide +kernel
theorem dX9_tryAsk_20 : decode cX9_tryAsk 20 = .ok (.ifCond .eq 8, 3) := by decide +kernel
theorem dX9_tryAsk_23 : decode cX9_tryAsk 23 = .ok (.iload_n 3, 1) := by decide +kernel
theorem dX9_tryAsk_24 : decode cX9_tryAsk 24 = .ok (.iconst 1, 1) := by decide +kernel
theorem dX9_tryAsk_25 : decode cX9_tryAsk 25 = .ok (.if_icmp .ne 5, 3) := by decide +kernel
theorem dX9_tryAsk_28 : decode cX9_tryAsk 28 = .ok (.iload_n 1, 1) := by decide +kernel
theorem dX9_tryAsk_29 : decode cX9_tryAsk 29 = .ok (.ireturn, 1) := by decide +kernel
theorem dX9_tryAsk_30 : decode cX9_tryAsk 30 = .ok (.iload_n 3, 1) := by decide +kernel
theorem dX9_tryAsk_31 : decode cX9_tryAsk 31 = .ok (.iconst 3, 1) := by decide +kernel
theorem dX9_tryAsk_32 : decode cX9_tryAsk 32 = .ok (.if_icmp .ne 21, 3) := by decide +kernel
theorem dX9_tryAsk_35 : decode cX9_tryAsk 35 = .ok (.aload_n 0, 1) := by decide +kernel
theorem dX9_tryAsk_36 : decode cX9_tryAsk 36 = .ok (.iload_n 2, 1) := by decide +kernel
theorem dX9_tryAsk_37 : decode cX9_tryAsk 37 = .ok (.iload_n 1, 1) := by decide +kernel
theorem dX9_tryAsk_38 : decode cX9_tryAsk 38 = .ok (.invokestatic 73, 3) := by decide +kernel
theorem dX9_tryAsk_41 : decode cX9_tryAsk 41 = .ok (.iload_n 1, 1) := by decide +kernel
theorem dX9_tryAsk_42 : decode cX9_tryAsk 42 = .ok (.invokestatic 92, 3) := by decide +kernel
theorem dX9_tryAsk_45 : decode cX9_tryAsk 45 = .ok (.invokevirtual 95, 3) := by decide +kernel
theorem dX9_tryAsk_48 : decode cX9_tryAsk 48 = .ok (.ifCond .eq 5, 3) := by decide +kernel
theorem dX9_tryAsk_51 : decode cX9_tryAsk 51 = .ok (.iload_n 1, 1) := by decide +kernel
theorem dX9_tryAsk_52 : decode cX9_tryAsk 52 = .ok (.ireturn, 1) := by decide +kernel
theorem dX9_tryAsk_53 : decode cX9_tryAsk 53 = .ok (.aload_n 0, 1) := by decide +kernel
theorem dX9_tryAsk_54 : decode cX9_tryAsk 54 = .ok (.getfield 12, 3) := by decide +kernel
theorem dX9_tryAsk_57 : decode cX9_tryAsk 57 = .ok (.iload_n 2, 1) := by decide +kernel
theorem dX9_tryAsk_58 : decode cX9_tryAsk 58 = .ok (.iload_n 1, 1) := by decide +kernel
theorem dX9_tryAsk_59 : decode cX9_tryAsk 59 = .ok (.invokestatic 67, 3) := by decide +kernel
theorem dX9_tryAsk_62 : decode cX9_tryAsk 62 = .ok (.invokevirtual 99, 3) := by decide +kernel
theorem dX9_tryAsk_65 : decode cX9_tryAsk 65 = .ok (.istore 4, 2) := by decide +kernel
theorem dX9_tryAsk_67 : decode cX9_tryAsk 67 = .ok (.iload_n 1, 1) := by decide +kernel
theorem dX9_tryAsk_68 : decode cX9_tryAsk 68 = .ok (.iload 4, 2) := by decide +kernel
theorem dX9_tryAsk_70 : decode cX9_tryAsk 70 = .ok (.iload 4, 2) := by decide +kernel
theorem dX9_tryAsk_72 : decode cX9_tryAsk 72 = .ok (.bipush 8, 2) := by decide +kernel
theorem dX9_tryAsk_74 : decode cX9_tryAsk 74 = .ok (.ishl, 1) := by decide +kernel
theorem dX9_tryAsk_75 : decode cX9_tryAsk 75 = .ok (.ior, 1) := by decide +kernel
theorem dX9_tryAsk_76 : decode cX9_tryAsk 76 = .ok (.iconst (-1), 1) := by decide +kernel
theorem dX9_tryAsk_77 : decode cX9_tryAsk 77 = .ok (.ixor, 1) := by decide +kernel
theorem dX9_tryAsk_78 : decode cX9_tryAsk 78 = .ok (.iand, 1) := by decide +kernel
theorem dX9_tryAsk_79 : decode cX9_tryAsk 79 = .ok (.ireturn, 1) := by decide +kernel
theorem dX9_howMany_0 : decode cX9_howMany 0 = .ok (.iload_n 1, 1) := by decide +kernel
theorem dX9_howMany_1 : decode cX9_howMany 1 = .ok (.istore_n 3, 1) := by decide +kernel
theorem dX9_howMany_2 : decode cX9_howMany 2 = .ok (.iconst 0, 1) := by decide +kernel
theorem dX9_howMany_3 : decode cX9_howMany 3 = .ok (.istore 4, 2) := by decide +kernel
theorem dX9_howMany_5 : decode cX9_howMany 5 = .ok (.iload 4, 2) := by decide +kernel
theorem dX9_howMany_7 : decode cX9_howMany 7 = .ok (.aload_n 2, 1) := by decide +kernel
theorem dX9_howMany_8 : decode cX9_howMany 8 = .ok (.getfield 102, 3) := by decide +kernel
theorem dX9_howMany_11 : decode cX9_howMany 11 = .ok (.if_icmp .ge 28, 3) := by decide +kernel
theorem dX9_howMany_14 : decode cX9_howMany 14 = .ok (.aload_n 0, 1) := by decide +kernel
theorem dX9_howMany_15 : decode cX9_howMany 15 = .ok (.iload_n 3, 1) := by decide +kernel
theorem dX9_howMany_16 : decode cX9_howMany 16 = .ok (.aload_n 2, 1) := by decide +kernel
theorem dX9_howMany_17 : decode cX9_howMany 17 = .ok (.iload 4, 2) := by decide +kernel
theorem dX9_howMany_19 : decode cX9_howMany 19 = .ok (.invokevirtual 108, 3) := by decide +kernel
theorem dX9_howMany_22 : decode cX9_howMany 22 = .ok (.invokevirtual 112, 3) := by decide +kernel
theorem dX9_howMany_25 : decode cX9_howMany 25 = .ok (.istore_n 3, 1) := by decide +kernel
theorem dX9_howMany_26 : decode cX9_howMany 26 = .ok (.iload_n 3, 1) := by decide +kernel
theorem dX9_howMany_27 : decode cX9_howMany 27 = .ok (.ifCond .ge 6, 3) := by decide +kernel
theorem dX9_howMany_30 : decode cX9_howMany 30 = .ok (.iload 4, 2) := by decide +kernel
theorem dX9_howMany_32 : decode cX9_howMany 32 = .ok (.ireturn, 1) := by decide +kernel
theorem dX9_howMany_33 : decode cX9_howMany 33 = .ok (.iinc 4 1, 3) := by decide +kernel
theorem dX9_howMany_36 : decode cX9_howMany 36 = .ok (.goto (-31), 3) := by decide +kernel
theorem dX9_howMany_39 : decode cX9_howMany 39 = .ok (.aload_n 2, 1) := by decide +kernel
theorem dX9_howMany_40 : decode cX9_howMany 40 = .ok (.getfield 102, 3) := by decide +kernel
theorem dX9_howMany_43 : decode cX9_howMany 43 = .ok (.ireturn, 1) := by decide +kernel
theorem dX9_after_0 : decode cX9_after 0 = .ok (.iload_n 1, 1) := by decide +kernel
theorem dX9_after_1 : decode cX9_after 1 = .ok (.istore 4, 2) := by decide +kernel
theorem dX9_after_3 : decode cX9_after 3 = .ok (.iconst 0, 1) := by decide +kernel
theorem dX9_after_4 : decode cX9_after 4 = .ok (.istore 5, 2) := by decide +kernel
theorem dX9_after_6 : decode cX9_after 6 = .ok (.iload 5, 2) := by decide +kernel
theorem dX9_after_8 : decode cX9_after 8 = .ok (.iload_n 3, 1) := by decide +kernel
theorem dX9_after_9 : decode cX9_after 9 = .ok (.if_icmp .ge 23, 3) := by decide +kernel
theorem dX9_after_12 : decode cX9_after 12 = .ok (.aload_n 0, 1) := by decide +kernel
theorem dX9_after_13 : decode cX9_after 13 = .ok (.iload 4, 2) := by decide +kernel
theorem dX9_after_15 : decode cX9_after 15 = .ok (.aload_n 2, 1) := by decide +kernel
theorem dX9_after_16 : decode cX9_after 16 = .ok (.iload 5, 2) := by decide +kernel
theorem dX9_after_18 : decode cX9_after 18 = .ok (.invokevirtual 108, 3) := by decide +kernel
theorem dX9_after_21 : decode cX9_after 21 = .ok (.invokevirtual 112, 3) := by decide +kernel
theorem dX9_after_24 : decode cX9_after 24 = .ok (.istore 4, 2) := by decide +kernel
theorem dX9_after_26 : decode cX9_after 26 = .ok (.iinc 5 1, 3) := by decide +kernel
theorem dX9_after_29 : decode cX9_after 29 = .ok (.goto (-23), 3) := by decide +kernel
theorem dX9_after_32 : decode cX9_after 32 = .ok (.iload 4, 2) := by decide +kernel
theorem dX9_after_34 : decode cX9_after 34 = .ok (.ireturn, 1) := by decide +kernel
theorem dX9_keepsStub_0 : decode cX9_keepsStub 0 = .ok (.iload_n 1, 1) := by decide +kernel
theorem dX9_keepsStub_1 : decode cX9_keepsStub 1 = .ok (.sipush 256, 3) := by decide +kernel
theorem dX9_keepsStub_4 : decode cX9_keepsStub 4 = .ok (.imul, 1) := by decide +kernel
theorem dX9_keepsStub_5 : decode cX9_keepsStub 5 = .ok (.iload_n 2, 1) := by decide +kernel
theorem dX9_keepsStub_6 : decode cX9_keepsStub 6 = .ok (.iadd, 1) := by decide +kernel
theorem dX9_keepsStub_7 : decode cX9_keepsStub 7 = .ok (.istore_n 3, 1) := by decide +kernel
theorem dX9_keepsStub_8 : decode cX9_keepsStub 8 = .ok (.iload_n 3, 1) := by decide +kernel
theorem dX9_keepsStub_9 : decode cX9_keepsStub 9 = .ok (.ifCond .lt 12, 3) := by decide +kernel
theorem dX9_keepsStub_12 : decode cX9_keepsStub 12 = .ok (.iload_n 3, 1) := by decide +kernel
theorem dX9_keepsStub_13 : decode cX9_keepsStub 13 = .ok (.aload_n 0, 1) := by decide +kernel
theorem dX9_keepsStub_14 : decode cX9_keepsStub 14 = .ok (.getfield 18, 3) := by decide +kernel
theorem dX9_keepsStub_17 : decode cX9_keepsStub 17 = .ok (.arraylength, 1) := by decide +kernel
theorem dX9_keepsStub_18 : decode cX9_keepsStub 18 = .ok (.if_icmp .lt 5, 3) := by decide +kernel
theorem dX9_keepsStub_21 : decode cX9_keepsStub 21 = .ok (.iconst 0, 1) := by decide +kernel
theorem dX9_keepsStub_22 : decode cX9_keepsStub 22 = .ok (.ireturn, 1) := by decide +kernel
theorem dX9_keepsStub_23 : decode cX9_keepsStub 23 = .ok (.aload_n 0, 1) := by decide +kernel
theorem dX9_keepsStub_24 : decode cX9_keepsStub 24 = .ok (.getfield 18, 3) := by decide +kernel
theorem dX9_keepsStub_27 : decode cX9_keepsStub 27 = .ok (.iload_n 3, 1) := by decide +kernel
theorem dX9_keepsStub_28 : decode cX9_keepsStub 28 = .ok (.baload, 1) := by decide +kernel
theorem dX9_keepsStub_29 : decode cX9_keepsStub 29 = .ok (.ifCond .ne 84, 3) := by decide +kernel
theorem dX9_keepsStub_32 : decode cX9_keepsStub 32 = .ok (.aload_n 0, 1) := by decide +kernel
theorem dX9_keepsStub_33 : decode cX9_keepsStub 33 = .ok (.iload_n 1, 1) := by decide +kernel
theorem dX9_keepsStub_34 : decode cX9_keepsStub 34 = .ok (.iload_n 2, 1) := by decide +kernel
theorem dX9_keepsStub_35 : decode cX9_keepsStub 35 = .ok (.iconst 0, 1) := by decide +kernel
theorem dX9_keepsStub_36 : decode cX9_keepsStub 36 = .ok (.invokevirtual 116, 3) := by decide +kernel
theorem dX9_keepsStub_39 : decode cX9_keepsStub 39 = .ok (.aload_n 0, 1) := by decide +kernel
theorem dX9_keepsStub_40 : decode cX9_keepsStub 40 = .ok (.getfield 12, 3) := by decide +kernel
theorem dX9_keepsStub_43 : decode cX9_keepsStub 43 = .ok (.iload_n 2, 1) := by decide +kernel
theorem dX9_keepsStub_44 : decode cX9_keepsStub 44 = .ok (.invokevirtual 83, 3) := by decide +kernel
theorem dX9_keepsStub_47 : decode cX9_keepsStub 47 = .ok (.aload_n 0, 1) := by decide +kernel
theorem dX9_keepsStub_48 : decode cX9_keepsStub 48 = .ok (.getfield 12, 3) := by decide +kernel
theorem dX9_keepsStub_51 : decode cX9_keepsStub 51 = .ok (.getfield 86, 3) := by decide +kernel
theorem dX9_keepsStub_54 : decode cX9_keepsStub 54 = .ok (.iload_n 1, 1) := by decide +kernel
theorem dX9_keepsStub_55 : decode cX9_keepsStub 55 = .ok (.iaload, 1) := by decide +kernel
theorem dX9_keepsStub_56 : decode cX9_keepsStub 56 = .ok (.if_icmp .lt 37, 3) := by decide +kernel
theorem dX9_keepsStub_59 : decode cX9_keepsStub 59 = .ok (.aload_n 0, 1) := by decide +kernel
theorem dX9_keepsStub_60 : decode cX9_keepsStub 60 = .ok (.getfield 12, 3) := by decide +kernel
theorem dX9_keepsStub_63 : decode cX9_keepsStub 63 = .ok (.getfield 120, 3) := by decide +kernel
theorem dX9_keepsStub_66 : decode cX9_keepsStub 66 = .ok (.invokevirtual 124, 3) := by decide +kernel
theorem dX9_keepsStub_69 : decode cX9_keepsStub 69 = .ok (.ifCond .eq 20, 3) := by decide +kernel
theorem dX9_keepsStub_72 : decode cX9_keepsStub 72 = .ok (.aload_n 0, 1) := by decide +kernel
theorem dX9_keepsStub_73 : decode cX9_keepsStub 73 = .ok (.getfield 12, 3) := by decide +kernel
theorem dX9_keepsStub_76 : decode cX9_keepsStub 76 = .ok (.getfield 120, 3) := by decide +kernel
theorem dX9_keepsStub_79 : decode cX9_keepsStub 79 = .ok (.aload_n 0, 1) := by decide +kernel
theorem dX9_keepsStub_80 : decode cX9_keepsStub 80 = .ok (.getfield 28, 3) := by decide +kernel
theorem dX9_keepsStub_83 : decode cX9_keepsStub 83 = .ok (.invokevirtual 128, 3) := by decide +kernel
theorem dX9_keepsStub_86 : decode cX9_keepsStub 86 = .ok (.ifCond .eq 7, 3) := by decide +kernel
theorem dX9_keepsStub_89 : decode cX9_keepsStub 89 = .ok (.iconst 1, 1) := by decide +kernel
theorem dX9_keepsStub_90 : decode cX9_keepsStub 90 = .ok (.goto 4, 3) := by decide +kernel
theorem dX9_keepsStub_93 : decode cX9_keepsStub 93 = .ok (.iconst 0, 1) := by decide +kernel
theorem dX9_keepsStub_94 : decode cX9_keepsStub 94 = .ok (.istore 4, 2) := by decide +kernel
theorem dX9_keepsStub_96 : decode cX9_keepsStub 96 = .ok (.aload_n 0, 1) := by decide +kernel
theorem dX9_keepsStub_97 : decode cX9_keepsStub 97 = .ok (.getfield 18, 3) := by decide +kernel
theorem dX9_keepsStub_100 : decode cX9_keepsStub 100 = .ok (.iload_n 3, 1) := by decide +kernel
theorem dX9_keepsStub_101 : decode cX9_keepsStub 101 = .ok (.iload 4, 2) := by decide +kernel
theorem dX9_keepsStub_103 : decode cX9_keepsStub 103 = .ok (.ifCond .eq 7, 3) := by decide +kernel
theorem dX9_keepsStub_106 : decode cX9_keepsStub 106 = .ok (.iconst 2, 1) := by decide +kernel
theorem dX9_keepsStub_107 : decode cX9_keepsStub 107 = .ok (.goto 4, 3) := by decide +kernel
theorem dX9_keepsStub_110 : decode cX9_keepsStub 110 = .ok (.iconst 1, 1) := by decide +kernel
theorem dX9_keepsStub_111 : decode cX9_keepsStub 111 = .ok (.i2b, 1) := by decide +kernel
theorem dX9_keepsStub_112 : decode cX9_keepsStub 112 = .ok (.bastore, 1) := by decide +kernel
theorem dX9_keepsStub_113 : decode cX9_keepsStub 113 = .ok (.aload_n 0, 1) := by decide +kernel
theorem dX9_keepsStub_114 : decode cX9_keepsStub 114 = .ok (.getfield 18, 3) := by decide +kernel
theorem dX9_keepsStub_117 : decode cX9_keepsStub 117 = .ok (.iload_n 3, 1) := by decide +kernel
theorem dX9_keepsStub_118 : decode cX9_keepsStub 118 = .ok (.baload, 1) := by decide +kernel
theorem dX9_keepsStub_119 : decode cX9_keepsStub 119 = .ok (.iconst 2, 1) := by decide +kernel
theorem dX9_keepsStub_120 : decode cX9_keepsStub 120 = .ok (.if_icmp .ne 7, 3) := by decide +kernel
theorem dX9_keepsStub_123 : decode cX9_keepsStub 123 = .ok (.iconst 1, 1) := by decide +kernel
theorem dX9_keepsStub_124 : decode cX9_keepsStub 124 = .ok (.goto 4, 3) := by decide +kernel
theorem dX9_keepsStub_127 : decode cX9_keepsStub 127 = .ok (.iconst 0, 1) := by decide +kernel
theorem dX9_keepsStub_128 : decode cX9_keepsStub 128 = .ok (.ireturn, 1) := by decide +kernel
theorem dX9_passesStub_0 : decode cX9_passesStub 0 = .ok (.iload_n 1, 1) := by decide +kernel
theorem dX9_passesStub_1 : decode cX9_passesStub 1 = .ok (.sipush 256, 3) := by decide +kernel
theorem dX9_passesStub_4 : decode cX9_passesStub 4 = .ok (.imul, 1) := by decide +kernel
theorem dX9_passesStub_5 : decode cX9_passesStub 5 = .ok (.iload_n 2, 1) := by decide +kernel
theorem dX9_passesStub_6 : decode cX9_passesStub 6 = .ok (.iadd, 1) := by decide +kernel
theorem dX9_passesStub_7 : decode cX9_passesStub 7 = .ok (.istore 4, 2) := by decide +kernel
theorem dX9_passesStub_9 : decode cX9_passesStub 9 = .ok (.iload 4, 2) := by decide +kernel
theorem dX9_passesStub_11 : decode cX9_passesStub 11 = .ok (.ifCond .lt 26, 3) := by decide +kernel
theorem dX9_passesStub_14 : decode cX9_passesStub 14 = .ok (.iload 4, 2) := by decide +kernel
theorem dX9_passesStub_16 : decode cX9_passesStub 16 = .ok (.aload_n 0, 1) := by decide +kernel
theorem dX9_passesStub_17 : decode cX9_passesStub 17 = .ok (.getfield 22, 3) := by decide +kernel
theorem dX9_passesStub_20 : decode cX9_passesStub 20 = .ok (.arraylength, 1) := by decide +kernel
theorem dX9_passesStub_21 : decode cX9_passesStub 21 = .ok (.if_icmp .ge 16, 3) := by decide +kernel
theorem dX9_passesStub_24 : decode cX9_passesStub 24 = .ok (.aload_n 0, 1) := by decide +kernel
theorem dX9_passesStub_25 : decode cX9_passesStub 25 = .ok (.getfield 12, 3) := by decide +kernel
theorem dX9_passesStub_28 : decode cX9_passesStub 28 = .ok (.getfield 132, 3) := by decide +kernel
theorem dX9_passesStub_31 : decode cX9_passesStub 31 = .ok (.invokevirtual 124, 3) := by decide +kernel
theorem dX9_passesStub_34 : decode cX9_passesStub 34 = .ok (.ifCond .ne 5, 3) := by decide +kernel
theorem dX9_passesStub_37 : decode cX9_passesStub 37 = .ok (.iconst 0, 1) := by decide +kernel
theorem dX9_passesStub_38 : decode cX9_passesStub 38 = .ok (.ireturn, 1) := by decide +kernel
theorem dX9_passesStub_39 : decode cX9_passesStub 39 = .ok (.aload_n 0, 1) := by decide +kernel
theorem dX9_passesStub_40 : decode cX9_passesStub 40 = .ok (.getfield 22, 3) := by decide +kernel
theorem dX9_passesStub_43 : decode cX9_passesStub 43 = .ok (.iload 4, 2) := by decide +kernel
theorem dX9_passesStub_45 : decode cX9_passesStub 45 = .ok (.iaload, 1) := by decide +kernel
theorem dX9_passesStub_46 : decode cX9_passesStub 46 = .ok (.iload_n 3, 1) := by decide +kernel
theorem dX9_passesStub_47 : decode cX9_passesStub 47 = .ok (.ishr, 1) := by decide +kernel
theorem dX9_passesStub_48 : decode cX9_passesStub 48 = .ok (.iconst 1, 1) := by decide +kernel
theorem dX9_passesStub_49 : decode cX9_passesStub 49 = .ok (.iand, 1) := by decide +kernel
theorem dX9_passesStub_50 : decode cX9_passesStub 50 = .ok (.ifCond .ne 45, 3) := by decide +kernel
theorem dX9_passesStub_53 : decode cX9_passesStub 53 = .ok (.aload_n 0, 1) := by decide +kernel
theorem dX9_passesStub_54 : decode cX9_passesStub 54 = .ok (.iload_n 1, 1) := by decide +kernel
theorem dX9_passesStub_55 : decode cX9_passesStub 55 = .ok (.iload_n 2, 1) := by decide +kernel
theorem dX9_passesStub_56 : decode cX9_passesStub 56 = .ok (.iload_n 3, 1) := by decide +kernel
theorem dX9_passesStub_57 : decode cX9_passesStub 57 = .ok (.invokevirtual 116, 3) := by decide +kernel
theorem dX9_passesStub_60 : decode cX9_passesStub 60 = .ok (.aload_n 0, 1) := by decide +kernel
theorem dX9_passesStub_61 : decode cX9_passesStub 61 = .ok (.getfield 22, 3) := by decide +kernel
theorem dX9_passesStub_64 : decode cX9_passesStub 64 = .ok (.iload 4, 2) := by decide +kernel
theorem dX9_passesStub_66 : decode cX9_passesStub 66 = .ok (.dup2, 1) := by decide +kernel
theorem dX9_passesStub_67 : decode cX9_passesStub 67 = .ok (.iaload, 1) := by decide +kernel
theorem dX9_passesStub_68 : decode cX9_passesStub 68 = .ok (.aload_n 0, 1) := by decide +kernel
theorem dX9_passesStub_69 : decode cX9_passesStub 69 = .ok (.getfield 12, 3) := by decide +kernel
theorem dX9_passesStub_72 : decode cX9_passesStub 72 = .ok (.getfield 132, 3) := by decide +kernel
theorem dX9_passesStub_75 : decode cX9_passesStub 75 = .ok (.aload_n 0, 1) := by decide +kernel
theorem dX9_passesStub_76 : decode cX9_passesStub 76 = .ok (.getfield 28, 3) := by decide +kernel
theorem dX9_passesStub_79 : decode cX9_passesStub 79 = .ok (.invokevirtual 128, 3) := by decide +kernel
theorem dX9_passesStub_82 : decode cX9_passesStub 82 = .ok (.ifCond .eq 8, 3) := by decide +kernel
theorem dX9_passesStub_85 : decode cX9_passesStub 85 = .ok (.ldc 135, 2) := by decide +kernel
theorem dX9_passesStub_87 : decode cX9_passesStub 87 = .ok (.goto 4, 3) := by decide +kernel
theorem dX9_passesStub_90 : decode cX9_passesStub 90 = .ok (.iconst 1, 1) := by decide +kernel
theorem dX9_passesStub_91 : decode cX9_passesStub 91 = .ok (.iload_n 3, 1) := by decide +kernel
theorem dX9_passesStub_92 : decode cX9_passesStub 92 = .ok (.ishl, 1) := by decide +kernel
theorem dX9_passesStub_93 : decode cX9_passesStub 93 = .ok (.ior, 1) := by decide +kernel
theorem dX9_passesStub_94 : decode cX9_passesStub 94 = .ok (.iastore, 1) := by decide +kernel
theorem dX9_passesStub_95 : decode cX9_passesStub 95 = .ok (.aload_n 0, 1) := by decide +kernel
theorem dX9_passesStub_96 : decode cX9_passesStub 96 = .ok (.getfield 22, 3) := by decide +kernel
theorem dX9_passesStub_99 : decode cX9_passesStub 99 = .ok (.iload 4, 2) := by decide +kernel
theorem dX9_passesStub_101 : decode cX9_passesStub 101 = .ok (.iaload, 1) := by decide +kernel
theorem dX9_passesStub_102 : decode cX9_passesStub 102 = .ok (.iload_n 3, 1) := by decide +kernel
theorem dX9_passesStub_103 : decode cX9_passesStub 103 = .ok (.bipush 16, 2) := by decide +kernel
theorem dX9_passesStub_105 : decode cX9_passesStub 105 = .ok (.iadd, 1) := by decide +kernel
theorem dX9_passesStub_106 : decode cX9_passesStub 106 = .ok (.ishr, 1) := by decide +kernel
theorem dX9_passesStub_107 : decode cX9_passesStub 107 = .ok (.iconst 1, 1) := by decide +kernel
theorem dX9_passesStub_108 : decode cX9_passesStub 108 = .ok (.iand, 1) := by decide +kernel
theorem dX9_passesStub_109 : decode cX9_passesStub 109 = .ok (.iconst 1, 1) := by decide +kernel
theorem dX9_passesStub_110 : decode cX9_passesStub 110 = .ok (.if_icmp .ne 7, 3) := by decide +kernel
theorem dX9_passesStub_113 : decode cX9_passesStub 113 = .ok (.iconst 1, 1) := by decide +kernel
theorem dX9_passesStub_114 : decode cX9_passesStub 114 = .ok (.goto 4, 3) := by decide +kernel
theorem dX9_passesStub_117 : decode cX9_passesStub 117 = .ok (.iconst 0, 1) := by decide +kernel
theorem dX9_passesStub_118 : decode cX9_passesStub 118 = .ok (.ireturn, 1) := by decide +kernel
theorem dX9_slipsPassing_0 : decode cX9_slipsPassing 0 = .ok (.iconst 0, 1) := by decide +kernel
theorem dX9_slipsPassing_1 : decode cX9_slipsPassing 1 = .ok (.istore_n 3, 1) := by decide +kernel
theorem dX9_slipsPassing_2 : decode cX9_slipsPassing 2 = .ok (.iconst 0, 1) := by decide +kernel
theorem dX9_slipsPassing_3 : decode cX9_slipsPassing 3 = .ok (.istore 4, 2) := by decide +kernel
theorem dX9_slipsPassing_5 : decode cX9_slipsPassing 5 = .ok (.iload 4, 2) := by decide +kernel
theorem dX9_slipsPassing_7 : decode cX9_slipsPassing 7 = .ok (.bipush 10, 2) := by decide +kernel
theorem dX9_slipsPassing_9 : decode cX9_slipsPassing 9 = .ok (.if_icmp .ge 27, 3) := by decide +kernel
theorem dX9_slipsPassing_12 : decode cX9_slipsPassing 12 = .ok (.aload_n 0, 1) := by decide +kernel
theorem dX9_slipsPassing_13 : decode cX9_slipsPassing 13 = .ok (.iload_n 1, 1) := by decide +kernel
theorem dX9_slipsPassing_14 : decode cX9_slipsPassing 14 = .ok (.iload_n 2, 1) := by decide +kernel
theorem dX9_slipsPassing_15 : decode cX9_slipsPassing 15 = .ok (.iload 4, 2) := by decide +kernel
theorem dX9_slipsPassing_17 : decode cX9_slipsPassing 17 = .ok (.invokevirtual 95, 3) := by decide +kernel
theorem dX9_slipsPassing_20 : decode cX9_slipsPassing 20 = .ok (.ifCond .eq 10, 3) := by decide +kernel
theorem dX9_slipsPassing_23 : decode cX9_slipsPassing 23 = .ok (.iload_n 3, 1) := by decide +kernel
theorem dX9_slipsPassing_24 : decode cX9_slipsPassing 24 = .ok (.iconst 1, 1) := by decide +kernel
theorem dX9_slipsPassing_25 : decode cX9_slipsPassing 25 = .ok (.iload 4, 2) := by decide +kernel
theorem dX9_slipsPassing_27 : decode cX9_slipsPassing 27 = .ok (.ishl, 1) := by decide +kernel
theorem dX9_slipsPassing_28 : decode cX9_slipsPassing 28 = .ok (.ior, 1) := by decide +kernel
theorem dX9_slipsPassing_29 : decode cX9_slipsPassing 29 = .ok (.istore_n 3, 1) := by decide +kernel
theorem dX9_slipsPassing_30 : decode cX9_slipsPassing 30 = .ok (.iinc 4 1, 3) := by decide +kernel
theorem dX9_slipsPassing_33 : decode cX9_slipsPassing 33 = .ok (.goto (-28), 3) := by decide +kernel
theorem dX9_slipsPassing_36 : decode cX9_slipsPassing 36 = .ok (.iload_n 3, 1) := by decide +kernel
theorem dX9_slipsPassing_37 : decode cX9_slipsPassing 37 = .ok (.ireturn, 1) := by decide +kernel
theorem dX9_give_0 : decode cX9_give 0 = .ok (.aload_n 0, 1) := by decide +kernel
theorem dX9_give_1 : decode cX9_give 1 = .ok (.getfield 28, 3) := by decide +kernel
theorem dX9_give_4 : decode cX9_give 4 = .ok (.iconst 0, 1) := by decide +kernel
theorem dX9_give_5 : decode cX9_give 5 = .ok (.iload_n 1, 1) := by decide +kernel
theorem dX9_give_6 : decode cX9_give 6 = .ok (.iastore, 1) := by decide +kernel
theorem dX9_give_7 : decode cX9_give 7 = .ok (.aload_n 0, 1) := by decide +kernel
theorem dX9_give_8 : decode cX9_give 8 = .ok (.getfield 28, 3) := by decide +kernel
theorem dX9_give_11 : decode cX9_give 11 = .ok (.iconst 1, 1) := by decide +kernel
theorem dX9_give_12 : decode cX9_give 12 = .ok (.aload_n 0, 1) := by decide +kernel
theorem dX9_give_13 : decode cX9_give 13 = .ok (.getfield 12, 3) := by decide +kernel
theorem dX9_give_16 : decode cX9_give 16 = .ok (.getfield 86, 3) := by decide +kernel
theorem dX9_give_19 : decode cX9_give 19 = .ok (.iload_n 1, 1) := by decide +kernel
theorem dX9_give_20 : decode cX9_give 20 = .ok (.iaload, 1) := by decide +kernel
theorem dX9_give_21 : decode cX9_give 21 = .ok (.iastore, 1) := by decide +kernel
theorem dX9_give_22 : decode cX9_give 22 = .ok (.aload_n 0, 1) := by decide +kernel
theorem dX9_give_23 : decode cX9_give 23 = .ok (.getfield 28, 3) := by decide +kernel
theorem dX9_give_26 : decode cX9_give 26 = .ok (.iconst 2, 1) := by decide +kernel
theorem dX9_give_27 : decode cX9_give 27 = .ok (.aload_n 0, 1) := by decide +kernel
theorem dX9_give_28 : decode cX9_give 28 = .ok (.getfield 12, 3) := by decide +kernel
theorem dX9_give_31 : decode cX9_give 31 = .ok (.getfield 136, 3) := by decide +kernel
theorem dX9_give_34 : decode cX9_give 34 = .ok (.iload_n 1, 1) := by decide +kernel
theorem dX9_give_35 : decode cX9_give 35 = .ok (.iaload, 1) := by decide +kernel
theorem dX9_give_36 : decode cX9_give 36 = .ok (.iastore, 1) := by decide +kernel
theorem dX9_give_37 : decode cX9_give 37 = .ok (.aload_n 0, 1) := by decide +kernel
theorem dX9_give_38 : decode cX9_give 38 = .ok (.getfield 28, 3) := by decide +kernel
theorem dX9_give_41 : decode cX9_give 41 = .ok (.iconst 3, 1) := by decide +kernel
theorem dX9_give_42 : decode cX9_give 42 = .ok (.iload_n 2, 1) := by decide +kernel
theorem dX9_give_43 : decode cX9_give 43 = .ok (.invokestatic 139, 3) := by decide +kernel
theorem dX9_give_46 : decode cX9_give 46 = .ok (.iastore, 1) := by decide +kernel
theorem dX9_give_47 : decode cX9_give 47 = .ok (.aload_n 0, 1) := by decide +kernel
theorem dX9_give_48 : decode cX9_give 48 = .ok (.getfield 28, 3) := by decide +kernel
theorem dX9_give_51 : decode cX9_give 51 = .ok (.iconst 4, 1) := by decide +kernel
theorem dX9_give_52 : decode cX9_give 52 = .ok (.aload_n 0, 1) := by decide +kernel
theorem dX9_give_53 : decode cX9_give 53 = .ok (.getfield 12, 3) := by decide +kernel
theorem dX9_give_56 : decode cX9_give 56 = .ok (.iload_n 2, 1) := by decide +kernel
theorem dX9_give_57 : decode cX9_give 57 = .ok (.invokevirtual 83, 3) := by decide +kernel
theorem dX9_give_60 : decode cX9_give 60 = .ok (.iastore, 1) := by decide +kernel
theorem dX9_give_61 : decode cX9_give 61 = .ok (.aload_n 0, 1) := by decide +kernel
theorem dX9_give_62 : decode cX9_give 62 = .ok (.getfield 28, 3) := by decide +kernel
theorem dX9_give_65 : decode cX9_give 65 = .ok (.iconst 5, 1) := by decide +kernel
theorem dX9_give_66 : decode cX9_give 66 = .ok (.iload_n 3, 1) := by decide +kernel
theorem dX9_give_67 : decode cX9_give 67 = .ok (.iastore, 1) := by decide +kernel
theorem dX9_give_68 : decode cX9_give 68 = .ok (.return_, 1) := by decide +kernel
theorem dX9_stillDone_0 : decode cX9_stillDone 0 = .ok (.aload_n 0, 1) := by decide +kernel
theorem dX9_stillDone_1 : decode cX9_stillDone 1 = .ok (.getfield 12, 3) := by decide +kernel
theorem dX9_stillDone_4 : decode cX9_stillDone 4 = .ok (.iload_n 2, 1) := by decide +kernel
theorem dX9_stillDone_5 : decode cX9_stillDone 5 = .ok (.invokevirtual 144, 3) := by decide +kernel
theorem dX9_stillDone_8 : decode cX9_stillDone 8 = .ok (.istore_n 3, 1) := by decide +kernel
theorem dX9_stillDone_9 : decode cX9_stillDone 9 = .ok (.lconst 1, 1) := by decide +kernel
theorem dX9_stillDone_10 : decode cX9_stillDone 10 = .ok (.lstore 4, 2) := by decide +kernel
theorem dX9_stillDone_12 : decode cX9_stillDone 12 = .ok (.iconst 0, 1) := by decide +kernel
theorem dX9_stillDone_13 : decode cX9_stillDone 13 = .ok (.istore 6, 2) := by decide +kernel
theorem dX9_stillDone_15 : decode cX9_stillDone 15 = .ok (.iload 6, 2) := by decide +kernel
theorem dX9_stillDone_17 : decode cX9_stillDone 17 = .ok (.bipush 8, 2) := by decide +kernel
theorem dX9_stillDone_19 : decode cX9_stillDone 19 = .ok (.if_icmp .ge 41, 3) := by decide +kernel
theorem dX9_stillDone_22 : decode cX9_stillDone 22 = .ok (.lload 4, 2) := by decide +kernel
theorem dX9_stillDone_24 : decode cX9_stillDone 24 = .ok (.iload_n 3, 1) := by decide +kernel
theorem dX9_stillDone_25 : decode cX9_stillDone 25 = .ok (.iload 6, 2) := by decide +kernel
theorem dX9_stillDone_27 : decode cX9_stillDone 27 = .ok (.ishr, 1) := by decide +kernel
theorem dX9_stillDone_28 : decode cX9_stillDone 28 = .ok (.iconst 1, 1) := by decide +kernel
theorem dX9_stillDone_29 : decode cX9_stillDone 29 = .ok (.iand, 1) := by decide +kernel
theorem dX9_stillDone_30 : decode cX9_stillDone 30 = .ok (.iconst 1, 1) := by decide +kernel
theorem dX9_stillDone_31 : decode cX9_stillDone 31 = .ok (.if_icmp .ne 17, 3) := by decide +kernel
theorem dX9_stillDone_34 : decode cX9_stillDone 34 = .ok (.bipush 100, 2) := by decide +kernel
theorem dX9_stillDone_36 : decode cX9_stillDone 36 = .ok (.aload_n 0, 1) := by decide +kernel
theorem dX9_stillDone_37 : decode cX9_stillDone 37 = .ok (.iload_n 1, 1) := by decide +kernel
theorem dX9_stillDone_38 : decode cX9_stillDone 38 = .ok (.iload 6, 2) := by decide +kernel
theorem dX9_stillDone_40 : decode cX9_stillDone 40 = .ok (.invokevirtual 147, 3) := by decide +kernel
theorem dX9_stillDone_43 : decode cX9_stillDone 43 = .ok (.isub, 1) := by decide +kernel
theorem dX9_stillDone_44 : decode cX9_stillDone 44 = .ok (.i2l, 1) := by decide +kernel
theorem dX9_stillDone_45 : decode cX9_stillDone 45 = .ok (.goto 6, 3) := by decide +kernel
theorem dX9_stillDone_48 : decode cX9_stillDone 48 = .ok (.ldc2_w 150, 3) := by decide +kernel
theorem dX9_stillDone_51 : decode cX9_stillDone 51 = .ok (.lmul, 1) := by decide +kernel
theorem dX9_stillDone_52 : decode cX9_stillDone 52 = .ok (.lstore 4, 2) := by decide +kernel
theorem dX9_stillDone_54 : decode cX9_stillDone 54 = .ok (.iinc 6 1, 3) := by decide +kernel
theorem dX9_stillDone_57 : decode cX9_stillDone 57 = .ok (.goto (-42), 3) := by decide +kernel
theorem dX9_stillDone_60 : decode cX9_stillDone 60 = .ok (.lload 4, 2) := by decide +kernel
theorem dX9_stillDone_62 : decode cX9_stillDone 62 = .ok (.lreturn, 1) := by decide +kernel
theorem dX9_lostInHundred_0 : decode cX9_lostInHundred 0 = .ok (.iload_n 1, 1) := by decide +kernel
theorem dX9_lostInHundred_1 : decode cX9_lostInHundred 1 = .ok (.invokestatic 73, 3) := by decide +kernel
theorem dX9_lostInHundred_4 : decode cX9_lostInHundred 4 = .ok (.iload_n 2, 1) := by decide +kernel
theorem dX9_lostInHundred_5 : decode cX9_lostInHundred 5 = .ok (.ishr, 1) := by decide +kernel
theorem dX9_lostInHundred_6 : decode cX9_lostInHundred 6 = .ok (.iconst 1, 1) := by decide +kernel
theorem dX9_lostInHundred_7 : decode cX9_lostInHundred 7 = .ok (.iand, 1) := by decide +kernel
theorem dX9_lostInHundred_8 : decode cX9_lostInHundred 8 = .ok (.iconst 1, 1) := by decide +kernel
theorem dX9_lostInHundred_9 : decode cX9_lostInHundred 9 = .ok (.if_icmp .ne 7, 3) := by decide +kernel
theorem dX9_lostInHundred_12 : decode cX9_lostInHundred 12 = .ok (.iconst 1, 1) := by decide +kernel
theorem dX9_lostInHundred_13 : decode cX9_lostInHundred 13 = .ok (.goto 4, 3) := by decide +kernel
theorem dX9_lostInHundred_16 : decode cX9_lostInHundred 16 = .ok (.iconst 0, 1) := by decide +kernel
theorem dX9_lostInHundred_17 : decode cX9_lostInHundred 17 = .ok (.istore_n 3, 1) := by decide +kernel
theorem dX9_lostInHundred_18 : decode cX9_lostInHundred 18 = .ok (.aload_n 0, 1) := by decide +kernel
theorem dX9_lostInHundred_19 : decode cX9_lostInHundred 19 = .ok (.getfield 12, 3) := by decide +kernel
theorem dX9_lostInHundred_22 : decode cX9_lostInHundred 22 = .ok (.getfield 152, 3) := by decide +kernel
theorem dX9_lostInHundred_25 : decode cX9_lostInHundred 25 = .ok (.iload_n 2, 1) := by decide +kernel
theorem dX9_lostInHundred_26 : decode cX9_lostInHundred 26 = .ok (.iaload, 1) := by decide +kernel
theorem dX9_lostInHundred_27 : decode cX9_lostInHundred 27 = .ok (.iload_n 3, 1) := by decide +kernel
theorem dX9_lostInHundred_28 : decode cX9_lostInHundred 28 = .ok (.ifCond .eq 15, 3) := by decide +kernel
theorem dX9_lostInHundred_31 : decode cX9_lostInHundred 31 = .ok (.aload_n 0, 1) := by decide +kernel
theorem dX9_lostInHundred_32 : decode cX9_lostInHundred 32 = .ok (.getfield 12, 3) := by decide +kernel
theorem dX9_lostInHundred_35 : decode cX9_lostInHundred 35 = .ok (.getfield 155, 3) := by decide +kernel
theorem dX9_lostInHundred_38 : decode cX9_lostInHundred 38 = .ok (.iload_n 2, 1) := by decide +kernel
theorem dX9_lostInHundred_39 : decode cX9_lostInHundred 39 = .ok (.iaload, 1) := by decide +kernel
theorem dX9_lostInHundred_40 : decode cX9_lostInHundred 40 = .ok (.goto 5, 3) := by decide +kernel
theorem dX9_lostInHundred_43 : decode cX9_lostInHundred 43 = .ok (.bipush 10, 2) := by decide +kernel
theorem dX9_lostInHundred_45 : decode cX9_lostInHundred 45 = .ok (.imul, 1) := by decide +kernel
theorem dX9_lostInHundred_46 : decode cX9_lostInHundred 46 = .ok (.ireturn, 1) := by decide +kernel
theorem dX9_sumDone_0 : decode cX9_sumDone 0 = .ok (.lconst 0, 1) := by decide +kernel
theorem dX9_sumDone_1 : decode cX9_sumDone 1 = .ok (.lstore_n 2, 1) := by decide +kernel
theorem dX9_sumDone_2 : decode cX9_sumDone 2 = .ok (.iconst 0, 1) := by decide +kernel
theorem dX9_sumDone_3 : decode cX9_sumDone 3 = .ok (.istore 4, 2) := by decide +kernel
theorem dX9_sumDone_5 : decode cX9_sumDone 5 = .ok (.iload 4, 2) := by decide +kernel
theorem dX9_sumDone_7 : decode cX9_sumDone 7 = .ok (.aload_n 0, 1) := by decide +kernel
theorem dX9_sumDone_8 : decode cX9_sumDone 8 = .ok (.getfield 12, 3) := by decide +kernel
theorem dX9_sumDone_11 : decode cX9_sumDone 11 = .ok (.getfield 158, 3) := by decide +kernel
theorem dX9_sumDone_14 : decode cX9_sumDone 14 = .ok (.if_icmp .ge 32, 3) := by decide +kernel
theorem dX9_sumDone_17 : decode cX9_sumDone 17 = .ok (.iload_n 1, 1) := by decide +kernel
theorem dX9_sumDone_18 : decode cX9_sumDone 18 = .ok (.invokestatic 67, 3) := by decide +kernel
theorem dX9_sumDone_21 : decode cX9_sumDone 21 = .ok (.iload 4, 2) := by decide +kernel
theorem dX9_sumDone_23 : decode cX9_sumDone 23 = .ok (.ishr, 1) := by decide +kernel
theorem dX9_sumDone_24 : decode cX9_sumDone 24 = .ok (.iconst 1, 1) := by decide +kernel
theorem dX9_sumDone_25 : decode cX9_sumDone 25 = .ok (.iand, 1) := by decide +kernel
theorem dX9_sumDone_26 : decode cX9_sumDone 26 = .ok (.iconst 1, 1) := by decide +kernel
theorem dX9_sumDone_27 : decode cX9_sumDone 27 = .ok (.if_icmp .ne 13, 3) := by decide +kernel
theorem dX9_sumDone_30 : decode cX9_sumDone 30 = .ok (.lload_n 2, 1) := by decide +kernel
theorem dX9_sumDone_31 : decode cX9_sumDone 31 = .ok (.aload_n 0, 1) := by decide +kernel
theorem dX9_sumDone_32 : decode cX9_sumDone 32 = .ok (.iload_n 1, 1) := by decide +kernel
theorem dX9_sumDone_33 : decode cX9_sumDone 33 = .ok (.iload 4, 2) := by decide +kernel
theorem dX9_sumDone_35 : decode cX9_sumDone 35 = .ok (.invokevirtual 161, 3) := by decide +kernel
theorem dX9_sumDone_38 : decode cX9_sumDone 38 = .ok (.ladd, 1) := by decide +kernel
theorem dX9_sumDone_39 : decode cX9_sumDone 39 = .ok (.lstore_n 2, 1) := by decide +kernel
theorem dX9_sumDone_40 : decode cX9_sumDone 40 = .ok (.iinc 4 1, 3) := by decide +kernel
theorem dX9_sumDone_43 : decode cX9_sumDone 43 = .ok (.goto (-38), 3) := by decide +kernel
theorem dX9_sumDone_46 : decode cX9_sumDone 46 = .ok (.lload_n 2, 1) := by decide +kernel
theorem dX9_sumDone_47 : decode cX9_sumDone 47 = .ok (.lreturn, 1) := by decide +kernel
theorem dX9_lowest_0 : decode cX9_lowest 0 = .ok (.ldc2_w 165, 3) := by decide +kernel
theorem dX9_lowest_3 : decode cX9_lowest 3 = .ok (.lstore_n 3, 1) := by decide +kernel
theorem dX9_lowest_4 : decode cX9_lowest 4 = .ok (.lload_n 0, 1) := by decide +kernel
theorem dX9_lowest_5 : decode cX9_lowest 5 = .ok (.lstore 5, 2) := by decide +kernel
theorem dX9_lowest_7 : decode cX9_lowest 7 = .ok (.iconst 0, 1) := by decide +kernel
theorem dX9_lowest_8 : decode cX9_lowest 8 = .ok (.istore 7, 2) := by decide +kernel
theorem dX9_lowest_10 : decode cX9_lowest 10 = .ok (.iload 7, 2) := by decide +kernel
theorem dX9_lowest_12 : decode cX9_lowest 12 = .ok (.sipush 200, 3) := by decide +kernel
theorem dX9_lowest_15 : decode cX9_lowest 15 = .ok (.if_icmp .ge 29, 3) := by decide +kernel
theorem dX9_lowest_18 : decode cX9_lowest 18 = .ok (.lload 5, 2) := by decide +kernel
theorem dX9_lowest_20 : decode cX9_lowest 20 = .ok (.lconst 0, 1) := by decide +kernel
theorem dX9_lowest_21 : decode cX9_lowest 21 = .ok (.lcmp, 1) := by decide +kernel
theorem dX9_lowest_22 : decode cX9_lowest 22 = .ok (.ifCond .eq 22, 3) := by decide +kernel
theorem dX9_lowest_25 : decode cX9_lowest 25 = .ok (.lload_n 3, 1) := by decide +kernel
theorem dX9_lowest_26 : decode cX9_lowest 26 = .ok (.lload 5, 2) := by decide +kernel
theorem dX9_lowest_28 : decode cX9_lowest 28 = .ok (.lrem, 1) := by decide +kernel
theorem dX9_lowest_29 : decode cX9_lowest 29 = .ok (.lstore 8, 2) := by decide +kernel
theorem dX9_lowest_31 : decode cX9_lowest 31 = .ok (.lload 5, 2) := by decide +kernel
theorem dX9_lowest_33 : decode cX9_lowest 33 = .ok (.lstore_n 3, 1) := by decide +kernel
theorem dX9_lowest_34 : decode cX9_lowest 34 = .ok (.lload 8, 2) := by decide +kernel
theorem dX9_lowest_36 : decode cX9_lowest 36 = .ok (.lstore 5, 2) := by decide +kernel
theorem dX9_lowest_38 : decode cX9_lowest 38 = .ok (.iinc 7 1, 3) := by decide +kernel
theorem dX9_lowest_41 : decode cX9_lowest 41 = .ok (.goto (-31), 3) := by decide +kernel
theorem dX9_lowest_44 : decode cX9_lowest 44 = .ok (.lconst 1, 1) := by decide +kernel
theorem dX9_lowest_45 : decode cX9_lowest 45 = .ok (.lload_n 3, 1) := by decide +kernel
theorem dX9_lowest_46 : decode cX9_lowest 46 = .ok (.invokestatic 167, 3) := by decide +kernel
theorem dX9_lowest_49 : decode cX9_lowest 49 = .ok (.lstore 7, 2) := by decide +kernel
theorem dX9_lowest_51 : decode cX9_lowest 51 = .ok (.iload_n 2, 1) := by decide +kernel
theorem dX9_lowest_52 : decode cX9_lowest 52 = .ok (.ifCond .ne 10, 3) := by decide +kernel
theorem dX9_lowest_55 : decode cX9_lowest 55 = .ok (.lload_n 0, 1) := by decide +kernel
theorem dX9_lowest_56 : decode cX9_lowest 56 = .ok (.lload 7, 2) := by decide +kernel
theorem dX9_lowest_58 : decode cX9_lowest 58 = .ok (.ldiv, 1) := by decide +kernel
theorem dX9_lowest_59 : decode cX9_lowest 59 = .ok (.goto 9, 3) := by decide +kernel
theorem dX9_lowest_62 : decode cX9_lowest 62 = .ok (.ldc2_w 165, 3) := by decide +kernel
theorem dX9_lowest_65 : decode cX9_lowest 65 = .ok (.lload 7, 2) := by decide +kernel
theorem dX9_lowest_67 : decode cX9_lowest 67 = .ok (.ldiv, 1) := by decide +kernel
theorem dX9_lowest_68 : decode cX9_lowest 68 = .ok (.lreturn, 1) := by decide +kernel
theorem dX10_init_0 : decode cX10_init 0 = .ok (.aload_n 0, 1) := by decide +kernel
theorem dX10_init_1 : decode cX10_init 1 = .ok (.invokespecial 1, 3) := by decide +kernel
theorem dX10_init_4 : decode cX10_init 4 = .ok (.aload_n 0, 1) := by decide +kernel
theorem dX10_init_5 : decode cX10_init 5 = .ok (.new 7, 3) := by decide +kernel
theorem dX10_init_8 : decode cX10_init 8 = .ok (.dup, 1) := by decide +kernel
theorem dX10_init_9 : decode cX10_init 9 = .ok (.invokespecial 9, 3) := by decide +kernel
theorem dX10_init_12 : decode cX10_init 12 = .ok (.putfield 10, 3) := by decide +kernel
theorem dX10_init_15 : decode cX10_init 15 = .ok (.aload_n 0, 1) := by decide +kernel
theorem dX10_init_16 : decode cX10_init 16 = .ok (.new 16, 3) := by decide +kernel
theorem dX10_init_19 : decode cX10_init 19 = .ok (.dup, 1) := by decide +kernel
theorem dX10_init_20 : decode cX10_init 20 = .ok (.invokespecial 18, 3) := by decide +kernel
theorem dX10_init_23 : decode cX10_init 23 = .ok (.putfield 19, 3) := by decide +kernel
theorem dX10_init_26 : decode cX10_init 26 = .ok (.aload_n 0, 1) := by decide +kernel
theorem dX10_init_27 : decode cX10_init 27 = .ok (.new 23, 3) := by decide +kernel
theorem dX10_init_30 : decode cX10_init 30 = .ok (.dup, 1) := by decide +kernel
theorem dX10_init_31 : decode cX10_init 31 = .ok (.invokespecial 25, 3) := by decide +kernel
theorem dX10_init_34 : decode cX10_init 34 = .ok (.putfield 26, 3) := by decide +kernel
theorem dX10_init_37 : decode cX10_init 37 = .ok (.aload_n 0, 1) := by decide +kernel
theorem dX10_init_38 : decode cX10_init 38 = .ok (.new 30, 3) := by decide +kernel
theorem dX10_init_41 : decode cX10_init 41 = .ok (.dup, 1) := by decide +kernel
theorem dX10_init_42 : decode cX10_init 42 = .ok (.invokespecial 32, 3) := by decide +kernel
theorem dX10_init_45 : decode cX10_init 45 = .ok (.putfield 33, 3) := by decide +kernel
theorem dX10_init_48 : decode cX10_init 48 = .ok (.aload_n 0, 1) := by decide +kernel
theorem dX10_init_49 : decode cX10_init 49 = .ok (.new 37, 3) := by decide +kernel
theorem dX10_init_52 : decode cX10_init 52 = .ok (.dup, 1) := by decide +kernel
theorem dX10_init_53 : decode cX10_init 53 = .ok (.invokespecial 39, 3) := by decide +kernel
theorem dX10_init_56 : decode cX10_init 56 = .ok (.putfield 40, 3) := by decide +kernel
theorem dX10_init_59 : decode cX10_init 59 = .ok (.aload_n 0, 1) := by decide +kernel
theorem dX10_init_60 : decode cX10_init 60 = .ok (.new 44, 3) := by decide +kernel
theorem dX10_init_63 : decode cX10_init 63 = .ok (.dup, 1) := by decide +kernel
theorem dX10_init_64 : decode cX10_init 64 = .ok (.invokespecial 46, 3) := by decide +kernel
theorem dX10_init_67 : decode cX10_init 67 = .ok (.putfield 47, 3) := by decide +kernel
theorem dX10_init_70 : decode cX10_init 70 = .ok (.aload_n 0, 1) := by decide +kernel
theorem dX10_init_71 : decode cX10_init 71 = .ok (.iconst 4, 1) := by decide +kernel
theorem dX10_init_72 : decode cX10_init 72 = .ok (.anewarray 51, 3) := by decide +kernel
theorem dX10_init_75 : decode cX10_init 75 = .ok (.putfield 53, 3) := by decide +kernel
theorem dX10_init_78 : decode cX10_init 78 = .ok (.aload_n 0, 1) := by decide +kernel
theorem dX10_init_79 : decode cX10_init 79 = .ok (.iconst 2, 1) := by decide +kernel
theorem dX10_init_80 : decode cX10_init 80 = .ok (.anewarray 57, 3) := by decide +kernel
theorem dX10_init_83 : decode cX10_init 83 = .ok (.putfield 59, 3) := by decide +kernel
theorem dX10_init_86 : decode cX10_init 86 = .ok (.aload_n 0, 1) := by decide +kernel
theorem dX10_init_87 : decode cX10_init 87 = .ok (.iconst 2, 1) := by decide +kernel
theorem dX10_init_88 : decode cX10_init 88 = .ok (.newarray .int, 2) := by decide +kernel
theorem dX10_init_90 : decode cX10_init 90 = .ok (.putfield 63, 3) := by decide +kernel
theorem dX10_init_93 : decode cX10_init 93 = .ok (.aload_n 0, 1) := by decide +kernel
theorem dX10_init_94 : decode cX10_init 94 = .ok (.sipush 900, 3) := by decide +kernel
theorem dX10_init_97 : decode cX10_init 97 = .ok (.newarray .int, 2) := by decide +kernel
theorem dX10_init_99 : decode cX10_init 99 = .ok (.putfield 67, 3) := by decide +kernel
theorem dX10_init_102 : decode cX10_init 102 = .ok (.aload_n 0, 1) := by decide +kernel
theorem dX10_init_103 : decode cX10_init 103 = .ok (.iconst 0, 1) := by decide +kernel
theorem dX10_init_104 : decode cX10_init 104 = .ok (.putfield 70, 3) := by decide +kernel
theorem dX10_init_107 : decode cX10_init 107 = .ok (.iconst 0, 1) := by decide +kernel
theorem dX10_init_108 : decode cX10_init 108 = .ok (.istore_n 1, 1) := by decide +kernel
theorem dX10_init_109 : decode cX10_init 109 = .ok (.iload_n 1, 1) := by decide +kernel
theorem dX10_init_110 : decode cX10_init 110 = .ok (.iconst 4, 1) := by decide +kernel
theorem dX10_init_111 : decode cX10_init 111 = .ok (.if_icmp .ge 22, 3) := by decide +kernel
theorem dX10_init_114 : decode cX10_init 114 = .ok (.aload_n 0, 1) := by decide +kernel
theorem dX10_init_115 : decode cX10_init 115 = .ok (.getfield 53, 3) := by decide +kernel
theorem dX10_init_118 : decode cX10_init 118 = .ok (.iload_n 1, 1) := by decide +kernel
theorem dX10_init_119 : decode cX10_init 119 = .ok (.new 51, 3) := by decide +kernel
theorem dX10_init_122 : decode cX10_init 122 = .ok (.dup, 1) := by decide +kernel
theorem dX10_init_123 : decode cX10_init 123 = .ok (.invokespecial 74, 3) := by decide +kernel
theorem dX10_init_126 : decode cX10_init 126 = .ok (.aastore, 1) := by decide +kernel
theorem dX10_init_127 : decode cX10_init 127 = .ok (.iinc 1 1, 3) := by decide +kernel
theorem dX10_init_130 : decode cX10_init 130 = .ok (.goto (-21), 3) := by decide +kernel
theorem dX10_init_133 : decode cX10_init 133 = .ok (.iconst 0, 1) := by decide +kernel
theorem dX10_init_134 : decode cX10_init 134 = .ok (.istore_n 1, 1) := by decide +kernel
theorem dX10_init_135 : decode cX10_init 135 = .ok (.iload_n 1, 1) := by decide +kernel
theorem dX10_init_136 : decode cX10_init 136 = .ok (.iconst 2, 1) := by decide +kernel
theorem dX10_init_137 : decode cX10_init 137 = .ok (.if_icmp .ge 29, 3) := by decide +kernel
theorem dX10_init_140 : decode cX10_init 140 = .ok (.aload_n 0, 1) := by decide +kernel
theorem dX10_init_141 : decode cX10_init 141 = .ok (.getfield 59, 3) := by decide +kernel
theorem dX10_init_144 : decode cX10_init 144 = .ok (.iload_n 1, 1) := by decide +kernel
theorem dX10_init_145 : decode cX10_init 145 = .ok (.new 57, 3) := by decide +kernel
theorem dX10_init_148 : decode cX10_init 148 = .ok (.dup, 1) := by decide +kernel
theorem dX10_init_149 : decode cX10_init 149 = .ok (.invokespecial 75, 3) := by decide +kernel
theorem dX10_init_152 : decode cX10_init 152 = .ok (.aastore, 1) := by decide +kernel
theorem dX10_init_153 : decode cX10_init 153 = .ok (.aload_n 0, 1) := by decide +kernel
theorem dX10_init_154 : decode cX10_init 154 = .ok (.getfield 63, 3) := by decide +kernel
theorem dX10_init_157 : decode cX10_init 157 = .ok (.iload_n 1, 1) := by decide +kernel
theorem dX10_init_158 : decode cX10_init 158 = .ok (.iconst (-1), 1) := by decide +kernel
theorem dX10_init_159 : decode cX10_init 159 = .ok (.iastore, 1) := by decide +kernel
theorem dX10_init_160 : decode cX10_init 160 = .ok (.iinc 1 1, 3) := by decide +kernel
theorem dX10_init_163 : decode cX10_init 163 = .ok (.goto (-28), 3) := by decide +kernel
theorem dX10_init_166 : decode cX10_init 166 = .ok (.return_, 1) := by decide +kernel
theorem dX10_feed_0 : decode cX10_feed 0 = .ok (.aload_n 0, 1) := by decide +kernel
theorem dX10_feed_1 : decode cX10_feed 1 = .ok (.getfield 70, 3) := by decide +kernel
theorem dX10_feed_4 : decode cX10_feed 4 = .ok (.bipush 20, 2) := by decide +kernel
theorem dX10_feed_6 : decode cX10_feed 6 = .ok (.iadd, 1) := by decide +kernel
theorem dX10_feed_7 : decode cX10_feed 7 = .ok (.sipush 900, 3) := by decide +kernel
theorem dX10_feed_10 : decode cX10_feed 10 = .ok (.if_icmp .le 6, 3) := by decide +kernel
theorem dX10_feed_13 : decode cX10_feed 13 = .ok (.bipush (-5), 2) := by decide +kernel
theorem dX10_feed_15 : decode cX10_feed 15 = .ok (.ireturn, 1) := by decide +kernel
theorem dX10_feed_16 : decode cX10_feed 16 = .ok (.aload_n 0, 1) := by decide +kernel
theorem dX10_feed_17 : decode cX10_feed 17 = .ok (.iload_n 1, 1) := by decide +kernel
theorem dX10_feed_18 : decode cX10_feed 18 = .ok (.invokevirtual 76, 3) := by decide +kernel
theorem dX10_feed_21 : decode cX10_feed 21 = .ok (.aload_n 0, 1) := by decide +kernel
theorem dX10_feed_22 : decode cX10_feed 22 = .ok (.iload_n 2, 1) := by decide +kernel
theorem dX10_feed_23 : decode cX10_feed 23 = .ok (.invokevirtual 76, 3) := by decide +kernel
theorem dX10_feed_26 : decode cX10_feed 26 = .ok (.aload_n 0, 1) := by decide +kernel
theorem dX10_feed_27 : decode cX10_feed 27 = .ok (.iload_n 3, 1) := by decide +kernel
theorem dX10_feed_28 : decode cX10_feed 28 = .ok (.invokevirtual 76, 3) := by decide +kernel
theorem dX10_feed_31 : decode cX10_feed 31 = .ok (.aload_n 0, 1) := by decide +kernel
theorem dX10_feed_32 : decode cX10_feed 32 = .ok (.iload 4, 2) := by decide +kernel
theorem dX10_feed_34 : decode cX10_feed 34 = .ok (.invokevirtual 76, 3) := by decide +kernel
theorem dX10_feed_37 : decode cX10_feed 37 = .ok (.aload_n 0, 1) := by decide +kernel
theorem dX10_feed_38 : decode cX10_feed 38 = .ok (.iload 5, 2) := by decide +kernel
theorem dX10_feed_40 : decode cX10_feed 40 = .ok (.invokevirtual 76, 3) := by decide +kernel
theorem dX10_feed_43 : decode cX10_feed 43 = .ok (.aload_n 0, 1) := by decide +kernel
theorem dX10_feed_44 : decode cX10_feed 44 = .ok (.getfield 70, 3) := by decide +kernel
theorem dX10_feed_47 : decode cX10_feed 47 = .ok (.ireturn, 1) := by decide +kernel
theorem dX10_feedInt_0 : decode cX10_feedInt 0 = .ok (.bipush 24, 2) := by decide +kernel
theorem dX10_feedInt_2 : decode cX10_feedInt 2 = .ok (.istore_n 2, 1) := by decide +kernel
theorem dX10_feedInt_3 : decode cX10_feedInt 3 = .ok (.iload_n 2, 1) := by decide +kernel
theorem dX10_feedInt_4 : decode cX10_feedInt 4 = .ok (.ifCond .lt 45, 3) := by decide +kernel
theorem dX10_feedInt_7 : decode cX10_feedInt 7 = .ok (.aload_n 0, 1) := by decide +kernel
theorem dX10_feedInt_8 : decode cX10_feedInt 8 = .ok (.getfield 70, 3) := by decide +kernel
theorem dX10_feedInt_11 : decode cX10_feedInt 11 = .ok (.sipush 900, 3) := by decide +kernel
theorem dX10_feedInt_14 : decode cX10_feedInt 14 = .ok (.if_icmp .ge 29, 3) := by decide +kernel
theorem dX10_feedInt_17 : decode cX10_feedInt 17 = .ok (.aload_n 0, 1) := by decide +kernel
theorem dX10_feedInt_18 : decode cX10_feedInt 18 = .ok (.getfield 67, 3) := by decide +kernel
theorem dX10_feedInt_21 : decode cX10_feedInt 21 = .ok (.aload_n 0, 1) := by decide +kernel
theorem dX10_feedInt_22 : decode cX10_feedInt 22 = .ok (.getfield 70, 3) := by decide +kernel
theorem dX10_feedInt_25 : decode cX10_feedInt 25 = .ok (.iload_n 1, 1) := by decide +kernel
theorem dX10_feedInt_26 : decode cX10_feedInt 26 = .ok (.iload_n 2, 1) := by decide +kernel
theorem dX10_feedInt_27 : decode cX10_feedInt 27 = .ok (.iushr, 1) := by decide +kernel
theorem dX10_feedInt_28 : decode cX10_feedInt 28 = .ok (.sipush 255, 3) := by decide +kernel
theorem dX10_feedInt_31 : decode cX10_feedInt 31 = .ok (.iand, 1) := by decide +kernel
theorem dX10_feedInt_32 : decode cX10_feedInt 32 = .ok (.iastore, 1) := by decide +kernel
theorem dX10_feedInt_33 : decode cX10_feedInt 33 = .ok (.aload_n 0, 1) := by decide +kernel
theorem dX10_feedInt_34 : decode cX10_feedInt 34 = .ok (.dup, 1) := by decide +kernel
theorem dX10_feedInt_35 : decode cX10_feedInt 35 = .ok (.getfield 70, 3) := by decide +kernel
theorem dX10_feedInt_38 : decode cX10_feedInt 38 = .ok (.iconst 1, 1) := by decide +kernel
theorem dX10_feedInt_39 : decode cX10_feedInt 39 = .ok (.iadd, 1) := by decide +kernel
theorem dX10_feedInt_40 : decode cX10_feedInt 40 = .ok (.putfield 70, 3) := by decide +kernel
theorem dX10_feedInt_43 : decode cX10_feedInt 43 = .ok (.iinc 2 (-8), 3) := by decide +kernel
theorem dX10_feedInt_46 : decode cX10_feedInt 46 = .ok (.goto (-43), 3) := by decide +kernel
theorem dX10_feedInt_49 : decode cX10_feedInt 49 = .ok (.return_, 1) := by decide +kernel
theorem dX10_life_0 : decode cX10_life 0 = .ok (.iload_n 1, 1) := by decide +kernel
theorem dX10_life_1 : decode cX10_life 1 = .ok (.ifCond .lt 11, 3) := by decide +kernel
theorem dX10_life_4 : decode cX10_life 4 = .ok (.iload_n 1, 1) := by decide +kernel
theorem dX10_life_5 : decode cX10_life 5 = .ok (.aload_n 0, 1) := by decide +kernel
theorem dX10_life_6 : decode cX10_life 6 = .ok (.getfield 70, 3) := by decide +kernel
theorem dX10_life_9 : decode cX10_life 9 = .ok (.if_icmp .le 6, 3) := by decide +kernel
theorem dX10_life_12 : decode cX10_life 12 = .ok (.bipush (-3), 2) := by decide +kernel
theorem dX10_life_14 : decode cX10_life 14 = .ok (.ireturn, 1) := by decide +kernel
theorem dX10_life_15 : decode cX10_life 15 = .ok (.aload_n 0, 1) := by decide +kernel
theorem dX10_life_16 : decode cX10_life 16 = .ok (.iconst 0, 1) := by decide +kernel
theorem dX10_life_17 : decode cX10_life 17 = .ok (.putfield 70, 3) := by decide +kernel
theorem dX10_life_20 : decode cX10_life 20 = .ok (.aload_n 0, 1) := by decide +kernel
theorem dX10_life_21 : decode cX10_life 21 = .ok (.getfield 19, 3) := by decide +kernel
theorem dX10_life_24 : decode cX10_life 24 = .ok (.aload_n 0, 1) := by decide +kernel
theorem dX10_life_25 : decode cX10_life 25 = .ok (.getfield 67, 3) := by decide +kernel
theorem dX10_life_28 : decode cX10_life 28 = .ok (.iload_n 1, 1) := by decide +kernel
theorem dX10_life_29 : decode cX10_life 29 = .ok (.invokevirtual 80, 3) := by decide +kernel
theorem dX10_life_32 : decode cX10_life 32 = .ok (.aload_n 0, 1) := by decide +kernel
theorem dX10_life_33 : decode cX10_life 33 = .ok (.getfield 19, 3) := by decide +kernel
theorem dX10_life_36 : decode cX10_life 36 = .ok (.getfield 84, 3) := by decide +kernel
theorem dX10_life_39 : decode cX10_life 39 = .ok (.ifCond .eq 14, 3) := by decide +kernel
theorem dX10_life_42 : decode cX10_life 42 = .ok (.bipush (-30), 2) := by decide +kernel
theorem dX10_life_44 : decode cX10_life 44 = .ok (.aload_n 0, 1) := by decide +kernel
theorem dX10_life_45 : decode cX10_life 45 = .ok (.getfield 19, 3) := by decide +kernel
theorem dX10_life_48 : decode cX10_life 48 = .ok (.getfield 84, 3) := by decide +kernel
theorem dX10_life_51 : decode cX10_life 51 = .ok (.isub, 1) := by decide +kernel
theorem dX10_life_52 : decode cX10_life 52 = .ok (.ireturn, 1) := by decide +kernel
theorem dX10_life_53 : decode cX10_life 53 = .ok (.aload_n 0, 1) := by decide +kernel
theorem dX10_life_54 : decode cX10_life 54 = .ok (.aload_n 0, 1) := by decide +kernel
theorem dX10_life_55 : decode cX10_life 55 = .ok (.getfield 19, 3) := by decide +kernel
theorem dX10_life_58 : decode cX10_life 58 = .ok (.getfield 87, 3) := by decide +kernel
theorem dX10_life_61 : decode cX10_life 61 = .ok (.aload_n 0, 1) := by decide +kernel
theorem dX10_life_62 : decode cX10_life 62 = .ok (.getfield 19, 3) := by decide +kernel
theorem dX10_life_65 : decode cX10_life 65 = .ok (.getfield 87, 3) := by decide +kernel
theorem dX10_life_68 : decode cX10_life 68 = .ok (.getfield 91, 3) := by decide +kernel
theorem dX10_life_71 : decode cX10_life 71 = .ok (.bipush 16, 2) := by decide +kernel
theorem dX10_life_73 : decode cX10_life 73 = .ok (.ishl, 1) := by decide +kernel
theorem dX10_life_74 : decode cX10_life 74 = .ok (.invokevirtual 94, 3) := by decide +kernel
theorem dX10_life_77 : decode cX10_life 77 = .ok (.aload_n 0, 1) := by decide +kernel
theorem dX10_life_78 : decode cX10_life 78 = .ok (.getfield 10, 3) := by decide +kernel
theorem dX10_life_81 : decode cX10_life 81 = .ok (.getfield 98, 3) := by decide +kernel
theorem dX10_life_84 : decode cX10_life 84 = .ok (.getfield 101, 3) := by decide +kernel
theorem dX10_life_87 : decode cX10_life 87 = .ok (.ireturn, 1) := by decide +kernel
theorem dX10_begin_0 : decode cX10_begin 0 = .ok (.aload_n 0, 1) := by decide +kernel
theorem dX10_begin_1 : decode cX10_begin 1 = .ok (.getfield 10, 3) := by decide +kernel
theorem dX10_begin_4 : decode cX10_begin 4 = .ok (.aload_n 1, 1) := by decide +kernel
theorem dX10_begin_5 : decode cX10_begin 5 = .ok (.invokevirtual 104, 3) := by decide +kernel
theorem dX10_begin_8 : decode cX10_begin 8 = .ok (.aload_n 0, 1) := by decide +kernel
theorem dX10_begin_9 : decode cX10_begin 9 = .ok (.getfield 26, 3) := by decide +kernel
theorem dX10_begin_12 : decode cX10_begin 12 = .ok (.invokevirtual 108, 3) := by decide +kernel
theorem dX10_begin_15 : decode cX10_begin 15 = .ok (.aload_n 0, 1) := by decide +kernel
theorem dX10_begin_16 : decode cX10_begin 16 = .ok (.getfield 47, 3) := by decide +kernel
theorem dX10_begin_19 : decode cX10_begin 19 = .ok (.iload_n 2, 1) := by decide +kernel
theorem dX10_begin_20 : decode cX10_begin 20 = .ok (.invokevirtual 111, 3) := by decide +kernel
theorem dX10_begin_23 : decode cX10_begin 23 = .ok (.return_, 1) := by decide +kernel
theorem dX10_fault_0 : decode cX10_fault 0 = .ok (.iload_n 1, 1) := by decide +kernel
theorem dX10_fault_1 : decode cX10_fault 1 = .ok (.ifCond .ne 11, 3) := by decide +kernel
theorem dX10_fault_4 : decode cX10_fault 4 = .ok (.aload_n 0, 1) := by decide +kernel
theorem dX10_fault_5 : decode cX10_fault 5 = .ok (.getfield 19, 3) := by decide +kernel
theorem dX10_fault_8 : decode cX10_fault 8 = .ok (.getfield 84, 3) := by decide +kernel
theorem dX10_fault_11 : decode cX10_fault 11 = .ok (.ireturn, 1) := by decide +kernel
theorem dX10_fault_12 : decode cX10_fault 12 = .ok (.iload_n 1, 1) := by decide +kernel
theorem dX10_fault_13 : decode cX10_fault 13 = .ok (.iconst 1, 1) := by decide +kernel
theorem dX10_fault_14 : decode cX10_fault 14 = .ok (.if_icmp .ne 13, 3) := by decide +kernel
theorem dX10_fault_17 : decode cX10_fault 17 = .ok (.aload_n 0, 1) := by decide +kernel
theorem dX10_fault_18 : decode cX10_fault 18 = .ok (.getfield 19, 3) := by decide +kernel
theorem dX10_fault_21 : decode cX10_fault 21 = .ok (.getfield 113, 3) := by decide +kernel
theorem dX10_fault_24 : decode cX10_fault 24 = .ok (.goto 4, 3) := by decide +kernel
theorem dX10_fault_27 : decode cX10_fault 27 = .ok (.iconst (-1), 1) := by decide +kernel
theorem dX10_fault_28 : decode cX10_fault 28 = .ok (.ireturn, 1) := by decide +kernel
theorem dX10_doing_0 : decode cX10_doing 0 = .ok (.aload_n 0, 1) := by decide +kernel
theorem dX10_doing_1 : decode cX10_doing 1 = .ok (.getfield 10, 3) := by decide +kernel
theorem dX10_doing_4 : decode cX10_doing 4 = .ok (.getfield 98, 3) := by decide +kernel
theorem dX10_doing_7 : decode cX10_doing 7 = .ok (.astore_n 3, 1) := by decide +kernel
theorem dX10_doing_8 : decode cX10_doing 8 = .ok (.aload_n 3, 1) := by decide +kernel
theorem dX10_doing_9 : decode cX10_doing 9 = .ok (.iload_n 1, 1) := by decide +kernel
theorem dX10_doing_10 : decode cX10_doing 10 = .ok (.invokevirtual 116, 3) := by decide +kernel
theorem dX10_doing_13 : decode cX10_doing 13 = .ok (.ifCond .ne 6, 3) := by decide +kernel
theorem dX10_doing_16 : decode cX10_doing 16 = .ok (.bipush (-2), 2) := by decide +kernel
theorem dX10_doing_18 : decode cX10_doing 18 = .ok (.ireturn, 1) := by decide +kernel
theorem dX10_doing_19 : decode cX10_doing 19 = .ok (.iload_n 2, 1) := by decide +kernel
theorem dX10_doing_20 : decode cX10_doing 20 = .ok (.tableswitch 109 0 7 #[48, 60, 67, 74, 81, 88, 95, 102], 48) := by decide +kernel
theorem dX10_doing_68 : decode cX10_doing 68 = .ok (.aload_n 0, 1) := by decide +kernel
theorem dX10_doing_69 : decode cX10_doing 69 = .ok (.getfield 47, 3) := by decide +kernel
theorem dX10_doing_72 : decode cX10_doing 72 = .ok (.getfield 120, 3) := by decide +kernel
theorem dX10_doing_75 : decode cX10_doing 75 = .ok (.iload_n 1, 1) := by decide +kernel
theorem dX10_doing_76 : decode cX10_doing 76 = .ok (.invokestatic 123, 3) := by decide +kernel
theorem dX10_doing_79 : decode cX10_doing 79 = .ok (.ireturn, 1) := by decide +kernel
theorem dX10_doing_80 : decode cX10_doing 80 = .ok (.aload_n 3, 1) := by decide +kernel
theorem dX10_doing_81 : decode cX10_doing 81 = .ok (.getfield 127, 3) := by decide +kernel
theorem dX10_doing_84 : decode cX10_doing 84 = .ok (.iload_n 1, 1) := by decide +kernel
theorem dX10_doing_85 : decode cX10_doing 85 = .ok (.iaload, 1) := by decide +kernel
theorem dX10_doing_86 : decode cX10_doing 86 = .ok (.ireturn, 1) := by decide +kernel
theorem dX10_doing_87 : decode cX10_doing 87 = .ok (.aload_n 3, 1) := by decide +kernel
theorem dX10_doing_88 : decode cX10_doing 88 = .ok (.getfield 130, 3) := by decide +kernel
theorem dX10_doing_91 : decode cX10_doing 91 = .ok (.iload_n 1, 1) := by decide +kernel
theorem dX10_doing_92 : decode cX10_doing 92 = .ok (.iaload, 1) := by decide +kernel
theorem dX10_doing_93 : decode cX10_doing 93 = .ok (.ireturn, 1) := by decide +kernel
theorem dX10_doing_94 : decode cX10_doing 94 = .ok (.aload_n 3, 1) := by decide +kernel
theorem dX10_doing_95 : decode cX10_doing 95 = .ok (.getfield 133, 3) := by decide +kernel
theorem dX10_doing_98 : decode cX10_doing 98 = .ok (.iload_n 1, 1) := by decide +kernel
theorem dX10_doing_99 : decode cX10_doing 99 = .ok (.iaload, 1) := by decide +kernel
theorem dX10_doing_100 : decode cX10_doing 100 = .ok (.ireturn, 1) := by decide +kernel
theorem dX10_doing_101 : decode cX10_doing 101 = .ok (.aload_n 3, 1) := by decide +kernel
theorem dX10_doing_102 : decode cX10_doing 102 = .ok (.getfield 136, 3) := by decide +kernel
theorem dX10_doing_105 : decode cX10_doing 105 = .ok (.iload_n 1, 1) := by decide +kernel
theorem dX10_doing_106 : decode cX10_doing 106 = .ok (.iaload, 1) := by decide +kernel
theorem dX10_doing_107 : decode cX10_doing 107 = .ok (.ireturn, 1) := by decide +kernel
theorem dX10_doing_108 : decode cX10_doing 108 = .ok (.aload_n 3, 1) := by decide +kernel
theorem dX10_doing_109 : decode cX10_doing 109 = .ok (.getfield 139, 3) := by decide +kernel
theorem dX10_doing_112 : decode cX10_doing 112 = .ok (.iload_n 1, 1) := by decide +kernel
theorem dX10_doing_113 : decode cX10_doing 113 = .ok (.iaload, 1) := by decide +kernel
theorem dX10_doing_114 : decode cX10_doing 114 = .ok (.ireturn, 1) := by decide +kernel
theorem dX10_doing_115 : decode cX10_doing 115 = .ok (.aload_n 3, 1) := by decide +kernel
theorem dX10_doing_116 : decode cX10_doing 116 = .ok (.getfield 142, 3) := by decide +kernel
theorem dX10_doing_119 : decode cX10_doing 119 = .ok (.iload_n 1, 1) := by decide +kernel
theorem dX10_doing_120 : decode cX10_doing 120 = .ok (.iaload, 1) := by decide +kernel
theorem dX10_doing_121 : decode cX10_doing 121 = .ok (.ireturn, 1) := by decide +kernel
theorem dX10_doing_122 : decode cX10_doing 122 = .ok (.aload_n 3, 1) := by decide +kernel
theorem dX10_doing_123 : decode cX10_doing 123 = .ok (.getfield 145, 3) := by decide +kernel
theorem dX10_doing_126 : decode cX10_doing 126 = .ok (.iload_n 1, 1) := by decide +kernel
theorem dX10_doing_127 : decode cX10_doing 127 = .ok (.iaload, 1) := by decide +kernel
theorem dX10_doing_128 : decode cX10_doing 128 = .ok (.ireturn, 1) := by decide +kernel
theorem dX10_doing_129 : decode cX10_doing 129 = .ok (.bipush (-2), 2) := by decide +kernel
theorem dX10_doing_131 : decode cX10_doing 131 = .ok (.ireturn, 1) := by decide +kernel
theorem dX10_door_0 : decode cX10_door 0 = .ok (.iload_n 1, 1) := by decide +kernel
theorem dX10_door_1 : decode cX10_door 1 = .ok (.ifCond .lt 17, 3) := by decide +kernel
theorem dX10_door_4 : decode cX10_door 4 = .ok (.iload_n 1, 1) := by decide +kernel
theorem dX10_door_5 : decode cX10_door 5 = .ok (.aload_n 0, 1) := by decide +kernel
theorem dX10_door_6 : decode cX10_door 6 = .ok (.getfield 10, 3) := by decide +kernel
theorem dX10_door_9 : decode cX10_door 9 = .ok (.getfield 98, 3) := by decide +kernel
theorem dX10_door_12 : decode cX10_door 12 = .ok (.getfield 148, 3) := by decide +kernel
theorem dX10_door_15 : decode cX10_door 15 = .ok (.if_icmp .lt 8, 3) := by decide +kernel
theorem dX10_door_18 : decode cX10_door 18 = .ok (.bipush (-2), 2) := by decide +kernel
theorem dX10_door_20 : decode cX10_door 20 = .ok (.goto 15, 3) := by decide +kernel
theorem dX10_door_23 : decode cX10_door 23 = .ok (.aload_n 0, 1) := by decide +kernel
theorem dX10_door_24 : decode cX10_door 24 = .ok (.getfield 10, 3) := by decide +kernel
theorem dX10_door_27 : decode cX10_door 27 = .ok (.getfield 98, 3) := by decide +kernel
theorem dX10_door_30 : decode cX10_door 30 = .ok (.getfield 151, 3) := by decide +kernel
theorem dX10_door_33 : decode cX10_door 33 = .ok (.iload_n 1, 1) := by decide +kernel
theorem dX10_door_34 : decode cX10_door 34 = .ok (.iaload, 1) := by decide +kernel
theorem dX10_door_35 : decode cX10_door 35 = .ok (.ireturn, 1) := by decide +kernel
theorem dX10_putBack_0 : decode cX10_putBack 0 = .ok (.aload_n 0, 1) := by decide +kernel
theorem dX10_putBack_1 : decode cX10_putBack 1 = .ok (.iload_n 1, 1) := by decide +kernel
theorem dX10_putBack_2 : decode cX10_putBack 2 = .ok (.invokevirtual 154, 3) := by decide +kernel
theorem dX10_putBack_5 : decode cX10_putBack 5 = .ok (.istore_n 2, 1) := by decide +kernel
theorem dX10_putBack_6 : decode cX10_putBack 6 = .ok (.iload_n 2, 1) := by decide +kernel
theorem dX10_putBack_7 : decode cX10_putBack 7 = .ok (.ifCond .eq 7, 3) := by decide +kernel
theorem dX10_putBack_10 : decode cX10_putBack 10 = .ok (.iload_n 2, 1) := by decide +kernel
theorem dX10_putBack_11 : decode cX10_putBack 11 = .ok (.goto 24, 3) := by decide +kernel
theorem dX10_putBack_14 : decode cX10_putBack 14 = .ok (.aload_n 0, 1) := by decide +kernel
theorem dX10_putBack_15 : decode cX10_putBack 15 = .ok (.getfield 10, 3) := by decide +kernel
theorem dX10_putBack_18 : decode cX10_putBack 18 = .ok (.getfield 98, 3) := by decide +kernel
theorem dX10_putBack_21 : decode cX10_putBack 21 = .ok (.iload_n 1, 1) := by decide +kernel
theorem dX10_putBack_22 : decode cX10_putBack 22 = .ok (.aload_n 0, 1) := by decide +kernel
theorem dX10_putBack_23 : decode cX10_putBack 23 = .ok (.getfield 47, 3) := by decide +kernel
theorem dX10_putBack_26 : decode cX10_putBack 26 = .ok (.getfield 120, 3) := by decide +kernel
theorem dX10_putBack_29 : decode cX10_putBack 29 = .ok (.invokestatic 158, 3) := by decide +kernel
theorem dX10_putBack_32 : decode cX10_putBack 32 = .ok (.invokevirtual 161, 3) := by decide +kernel
theorem dX10_putBack_35 : decode cX10_putBack 35 = .ok (.ireturn, 1) := by decide +kernel
theorem dX10_open_0 : decode cX10_open 0 = .ok (.aload_n 0, 1) := by decide +kernel
theorem dX10_open_1 : decode cX10_open 1 = .ok (.getfield 10, 3) := by decide +kernel
theorem dX10_open_4 : decode cX10_open 4 = .ok (.getfield 98, 3) := by decide +kernel
theorem dX10_open_7 : decode cX10_open 7 = .ok (.astore_n 1, 1) := by decide +kernel
theorem dX10_open_8 : decode cX10_open 8 = .ok (.aload_n 0, 1) := by decide +kernel
theorem dX10_open_9 : decode cX10_open 9 = .ok (.getfield 47, 3) := by decide +kernel
theorem dX10_open_12 : decode cX10_open 12 = .ok (.getfield 120, 3) := by decide +kernel
theorem dX10_open_15 : decode cX10_open 15 = .ok (.invokestatic 158, 3) := by decide +kernel
theorem dX10_open_18 : decode cX10_open 18 = .ok (.istore_n 2, 1) := by decide +kernel
theorem dX10_open_19 : decode cX10_open 19 = .ok (.iconst 0, 1) := by decide +kernel
theorem dX10_open_20 : decode cX10_open 20 = .ok (.istore_n 3, 1) := by decide +kernel
theorem dX10_open_21 : decode cX10_open 21 = .ok (.iconst 0, 1) := by decide +kernel
theorem dX10_open_22 : decode cX10_open 22 = .ok (.istore 4, 2) := by decide +kernel
theorem dX10_open_24 : decode cX10_open 24 = .ok (.iload 4, 2) := by decide +kernel
theorem dX10_open_26 : decode cX10_open 26 = .ok (.aload_n 1, 1) := by decide +kernel
theorem dX10_open_27 : decode cX10_open 27 = .ok (.getfield 164, 3) := by decide +kernel
theorem dX10_open_30 : decode cX10_open 30 = .ok (.if_icmp .ge 39, 3) := by decide +kernel
theorem dX10_open_33 : decode cX10_open 33 = .ok (.iload_n 2, 1) := by decide +kernel
theorem dX10_open_34 : decode cX10_open 34 = .ok (.iload 4, 2) := by decide +kernel
theorem dX10_open_36 : decode cX10_open 36 = .ok (.ishr, 1) := by decide +kernel
theorem dX10_open_37 : decode cX10_open 37 = .ok (.iconst 1, 1) := by decide +kernel
theorem dX10_open_38 : decode cX10_open 38 = .ok (.iand, 1) := by decide +kernel
theorem dX10_open_39 : decode cX10_open 39 = .ok (.ifCond .ne 24, 3) := by decide +kernel
theorem dX10_open_42 : decode cX10_open 42 = .ok (.aload_n 1, 1) := by decide +kernel
theorem dX10_open_43 : decode cX10_open 43 = .ok (.getfield 142, 3) := by decide +kernel
theorem dX10_open_46 : decode cX10_open 46 = .ok (.iload 4, 2) := by decide +kernel
theorem dX10_open_48 : decode cX10_open 48 = .ok (.iaload, 1) := by decide +kernel
theorem dX10_open_49 : decode cX10_open 49 = .ok (.iload_n 2, 1) := by decide +kernel
theorem dX10_open_50 : decode cX10_open 50 = .ok (.iconst (-1), 1) := by decide +kernel
theorem dX10_open_51 : decode cX10_open 51 = .ok (.ixor, 1) := by decide +kernel
theorem dX10_open_52 : decode cX10_open 52 = .ok (.iand, 1) := by decide +kernel
theorem dX10_open_53 : decode cX10_open 53 = .ok (.ifCond .ne 10, 3) := by decide +kernel
theorem dX10_open_56 : decode cX10_open 56 = .ok (.iload_n 3, 1) := by decide +kernel
theorem dX10_open_57 : decode cX10_open 57 = .ok (.iconst 1, 1) := by decide +kernel
theorem dX10_open_58 : decode cX10_open 58 = .ok (.iload 4, 2) := by decide +kernel
theorem dX10_open_60 : decode cX10_open 60 = .ok (.ishl, 1) := by decide +kernel
theorem dX10_open_61 : decode cX10_open 61 = .ok (.ior, 1) := by decide +kernel
theorem dX10_open_62 : decode cX10_open 62 = .ok (.istore_n 3, 1) := by decide +kernel
theorem dX10_open_63 : decode cX10_open 63 = .ok (.iinc 4 1, 3) := by decide +kernel
theorem dX10_open_66 : decode cX10_open 66 = .ok (.goto (-42), 3) := by decide +kernel
theorem dX10_open_69 : decode cX10_open 69 = .ok (.iload_n 3, 1) := by decide +kernel
theorem dX10_open_70 : decode cX10_open 70 = .ok (.ireturn, 1) := by decide +kernel
theorem dX10_notDone_0 : decode cX10_notDone 0 = .ok (.aload_n 0, 1) := by decide +kernel
theorem dX10_notDone_1 : decode cX10_notDone 1 = .ok (.getfield 10, 3) := by decide +kernel
theorem dX10_notDone_4 : decode cX10_notDone 4 = .ok (.getfield 98, 3) := by decide +kernel
theorem dX10_notDone_7 : decode cX10_notDone 7 = .ok (.iload_n 1, 1) := by decide +kernel
theorem dX10_notDone_8 : decode cX10_notDone 8 = .ok (.invokevirtual 116, 3) := by decide +kernel
theorem dX10_notDone_11 : decode cX10_notDone 11 = .ok (.ifCond .ne 6, 3) := by decide +kernel
theorem dX10_notDone_14 : decode cX10_notDone 14 = .ok (.bipush (-2), 2) := by decide +kernel
theorem dX10_notDone_16 : decode cX10_notDone 16 = .ok (.ireturn, 1) := by decide +kernel
theorem dX10_notDone_17 : decode cX10_notDone 17 = .ok (.aload_n 0, 1) := by decide +kernel
theorem dX10_notDone_18 : decode cX10_notDone 18 = .ok (.getfield 47, 3) := by decide +kernel
theorem dX10_notDone_21 : decode cX10_notDone 21 = .ok (.getfield 120, 3) := by decide +kernel
theorem dX10_notDone_24 : decode cX10_notDone 24 = .ok (.invokestatic 158, 3) := by decide +kernel
theorem dX10_notDone_27 : decode cX10_notDone 27 = .ok (.iload_n 1, 1) := by decide +kernel
theorem dX10_notDone_28 : decode cX10_notDone 28 = .ok (.ishr, 1) := by decide +kernel
theorem dX10_notDone_29 : decode cX10_notDone 29 = .ok (.iconst 1, 1) := by decide +kernel
theorem dX10_notDone_30 : decode cX10_notDone 30 = .ok (.iand, 1) := by decide +kernel
theorem dX10_notDone_31 : decode cX10_notDone 31 = .ok (.ifCond .ne 8, 3) := by decide +kernel
theorem dX10_notDone_34 : decode cX10_notDone 34 = .ok (.bipush (-5), 2) := by decide +kernel
theorem dX10_notDone_36 : decode cX10_notDone 36 = .ok (.goto 4, 3) := by decide +kernel
theorem dX10_notDone_39 : decode cX10_notDone 39 = .ok (.iconst 0, 1) := by decide +kernel
theorem dX10_notDone_40 : decode cX10_notDone 40 = .ok (.ireturn, 1) := by decide +kernel
theorem dX10_does_0 : decode cX10_does 0 = .ok (.aload_n 0, 1) := by decide +kernel
theorem dX10_does_1 : decode cX10_does 1 = .ok (.iconst 0, 1) := by decide +kernel
theorem dX10_does_2 : decode cX10_does 2 = .ok (.iload_n 1, 1) := by decide +kernel
theorem dX10_does_3 : decode cX10_does 3 = .ok (.invokevirtual 167, 3) := by decide +kernel
theorem dX10_does_6 : decode cX10_does 6 = .ok (.istore_n 2, 1) := by decide +kernel
theorem dX10_does_7 : decode cX10_does 7 = .ok (.iload_n 2, 1) := by decide +kernel
theorem dX10_does_8 : decode cX10_does 8 = .ok (.ifCond .ge 10, 3) := by decide +kernel
theorem dX10_does_11 : decode cX10_does 11 = .ok (.bipush (-10), 2) := by decide +kernel
theorem dX10_does_13 : decode cX10_does 13 = .ok (.iload_n 2, 1) := by decide +kernel
theorem dX10_does_14 : decode cX10_does 14 = .ok (.iadd, 1) := by decide +kernel
theorem dX10_does_15 : decode cX10_does 15 = .ok (.goto 14, 3) := by decide +kernel
theorem dX10_does_18 : decode cX10_does 18 = .ok (.aload_n 0, 1) := by decide +kernel
theorem dX10_does_19 : decode cX10_does 19 = .ok (.getfield 47, 3) := by decide +kernel
theorem dX10_does_22 : decode cX10_does 22 = .ok (.getfield 120, 3) := by decide +kernel
theorem dX10_does_25 : decode cX10_does 25 = .ok (.iload_n 1, 1) := by decide +kernel
theorem dX10_does_26 : decode cX10_does 26 = .ok (.invokestatic 123, 3) := by decide +kernel
theorem dX10_does_29 : decode cX10_does 29 = .ok (.ireturn, 1) := by decide +kernel
theorem dX10_drop_0 : decode cX10_drop 0 = .ok (.aload_n 0, 1) := by decide +kernel
theorem dX10_drop_1 : decode cX10_drop 1 = .ok (.iconst 1, 1) := by decide +kernel
theorem dX10_drop_2 : decode cX10_drop 2 = .ok (.iload_n 1, 1) := by decide +kernel
theorem dX10_drop_3 : decode cX10_drop 3 = .ok (.invokevirtual 167, 3) := by decide +kernel
theorem dX10_drop_6 : decode cX10_drop 6 = .ok (.istore_n 2, 1) := by decide +kernel
theorem dX10_drop_7 : decode cX10_drop 7 = .ok (.iload_n 2, 1) := by decide +kernel
theorem dX10_drop_8 : decode cX10_drop 8 = .ok (.ifCond .ge 10, 3) := by decide +kernel
theorem dX10_drop_11 : decode cX10_drop 11 = .ok (.bipush (-10), 2) := by decide +kernel
theorem dX10_drop_13 : decode cX10_drop 13 = .ok (.iload_n 2, 1) := by decide +kernel
theorem dX10_drop_14 : decode cX10_drop 14 = .ok (.iadd, 1) := by decide +kernel
theorem dX10_drop_15 : decode cX10_drop 15 = .ok (.goto 16, 3) := by decide +kernel
theorem dX10_drop_18 : decode cX10_drop 18 = .ok (.aload_n 0, 1) := by decide +kernel
theorem dX10_drop_19 : decode cX10_drop 19 = .ok (.getfield 47, 3) := by decide +kernel
theorem dX10_drop_22 : decode cX10_drop 22 = .ok (.getfield 120, 3) := by decide +kernel
theorem dX10_drop_25 : decode cX10_drop 25 = .ok (.invokestatic 170, 3) := by decide +kernel
theorem dX10_drop_28 : decode cX10_drop 28 = .ok (.invokestatic 173, 3) := by decide +kernel
theorem dX10_drop_31 : decode cX10_drop 31 = .ok (.ireturn, 1) := by decide +kernel
theorem dX10_forge_0 : decode cX10_forge 0 = .ok (.aload_n 0, 1) := by decide +kernel
theorem dX10_forge_1 : decode cX10_forge 1 = .ok (.iconst 2, 1) := by decide +kernel
theorem dX10_forge_2 : decode cX10_forge 2 = .ok (.iload_n 1, 1) := by decide +kernel
theorem dX10_forge_3 : decode cX10_forge 3 = .ok (.invokevirtual 167, 3) := by decide +kernel
theorem dX10_forge_6 : decode cX10_forge 6 = .ok (.istore_n 2, 1) := by decide +kernel
theorem dX10_forge_7 : decode cX10_forge 7 = .ok (.iload_n 2, 1) := by decide +kernel
theorem dX10_forge_8 : decode cX10_forge 8 = .ok (.ifCond .ge 10, 3) := by decide +kernel
theorem dX10_forge_11 : decode cX10_forge 11 = .ok (.bipush (-10), 2) := by decide +kernel
theorem dX10_forge_13 : decode cX10_forge 13 = .ok (.iload_n 2, 1) := by decide +kernel
theorem dX10_forge_14 : decode cX10_forge 14 = .ok (.iadd, 1) := by decide +kernel
theorem dX10_forge_15 : decode cX10_forge 15 = .ok (.goto 23, 3) := by decide +kernel
theorem dX10_forge_18 : decode cX10_forge 18 = .ok (.aload_n 0, 1) := by decide +kernel
theorem dX10_forge_19 : decode cX10_forge 19 = .ok (.getfield 10, 3) := by decide +kernel
theorem dX10_forge_22 : decode cX10_forge 22 = .ok (.getfield 98, 3) := by decide +kernel
theorem dX10_forge_25 : decode cX10_forge 25 = .ok (.aload_n 0, 1) := by decide +kernel
theorem dX10_forge_26 : decode cX10_forge 26 = .ok (.getfield 47, 3) := by decide +kernel
theorem dX10_forge_29 : decode cX10_forge 29 = .ok (.getfield 120, 3) := by decide +kernel
theorem dX10_forge_32 : decode cX10_forge 32 = .ok (.invokestatic 170, 3) := by decide +kernel
theorem dX10_forge_35 : decode cX10_forge 35 = .ok (.invokevirtual 178, 3) := by decide +kernel
theorem dX10_forge_38 : decode cX10_forge 38 = .ok (.ireturn, 1) := by decide +kernel
theorem dX10_ask_0 : decode cX10_ask 0 = .ok (.aload_n 0, 1) := by decide +kernel
theorem dX10_ask_1 : decode cX10_ask 1 = .ok (.getfield 47, 3) := by decide +kernel
theorem dX10_ask_4 : decode cX10_ask 4 = .ok (.getfield 120, 3) := by decide +kernel
theorem dX10_ask_7 : decode cX10_ask 7 = .ok (.istore_n 2, 1) := by decide +kernel
theorem dX10_ask_8 : decode cX10_ask 8 = .ok (.aload_n 0, 1) := by decide +kernel
theorem dX10_ask_9 : decode cX10_ask 9 = .ok (.iconst 3, 1) := by decide +kernel
theorem dX10_ask_10 : decode cX10_ask 10 = .ok (.iload_n 1, 1) := by decide +kernel
theorem dX10_ask_11 : decode cX10_ask 11 = .ok (.invokevirtual 167, 3) := by decide +kernel
theorem dX10_ask_14 : decode cX10_ask 14 = .ok (.istore_n 3, 1) := by decide +kernel
theorem dX10_ask_15 : decode cX10_ask 15 = .ok (.iload_n 3, 1) := by decide +kernel
theorem dX10_ask_16 : decode cX10_ask 16 = .ok (.ifCond .ge 10, 3) := by decide +kernel
theorem dX10_ask_19 : decode cX10_ask 19 = .ok (.bipush (-10), 2) := by decide +kernel
theorem dX10_ask_21 : decode cX10_ask 21 = .ok (.iload_n 3, 1) := by decide +kernel
theorem dX10_ask_22 : decode cX10_ask 22 = .ok (.iadd, 1) := by decide +kernel
theorem dX10_ask_23 : decode cX10_ask 23 = .ok (.goto 20, 3) := by decide +kernel
theorem dX10_ask_26 : decode cX10_ask 26 = .ok (.iload_n 2, 1) := by decide +kernel
theorem dX10_ask_27 : decode cX10_ask 27 = .ok (.invokestatic 181, 3) := by decide +kernel
theorem dX10_ask_30 : decode cX10_ask 30 = .ok (.aload_n 0, 1) := by decide +kernel
theorem dX10_ask_31 : decode cX10_ask 31 = .ok (.getfield 47, 3) := by decide +kernel
theorem dX10_ask_34 : decode cX10_ask 34 = .ok (.getfield 120, 3) := by decide +kernel
theorem dX10_ask_37 : decode cX10_ask 37 = .ok (.invokestatic 181, 3) := by decide +kernel
theorem dX10_ask_40 : decode cX10_ask 40 = .ok (.iconst (-1), 1) := by decide +kernel
theorem dX10_ask_41 : decode cX10_ask 41 = .ok (.ixor, 1) := by decide +kernel
theorem dX10_ask_42 : decode cX10_ask 42 = .ok (.iand, 1) := by decide +kernel
theorem dX10_ask_43 : decode cX10_ask 43 = .ok (.ireturn, 1) := by decide +kernel
theorem dX10_slip_0 : decode cX10_slip 0 = .ok (.aload_n 0, 1) := by decide +kernel
theorem dX10_slip_1 : decode cX10_slip 1 = .ok (.getfield 47, 3) := by decide +kernel
theorem dX10_slip_4 : decode cX10_slip 4 = .ok (.getfield 120, 3) := by decide +kernel
theorem dX10_slip_7 : decode cX10_slip 7 = .ok (.invokestatic 184, 3) := by decide +kernel
theorem dX10_slip_10 : decode cX10_slip 10 = .ok (.istore_n 2, 1) := by decide +kernel
theorem dX10_slip_11 : decode cX10_slip 11 = .ok (.aload_n 0, 1) := by decide +kernel
theorem dX10_slip_12 : decode cX10_slip 12 = .ok (.iconst 4, 1) := by decide +kernel
theorem dX10_slip_13 : decode cX10_slip 13 = .ok (.iload_n 1, 1) := by decide +kernel
theorem dX10_slip_14 : decode cX10_slip 14 = .ok (.invokevirtual 167, 3) := by decide +kernel
theorem dX10_slip_17 : decode cX10_slip 17 = .ok (.istore_n 3, 1) := by decide +kernel
theorem dX10_slip_18 : decode cX10_slip 18 = .ok (.iload_n 3, 1) := by decide +kernel
theorem dX10_slip_19 : decode cX10_slip 19 = .ok (.ifCond .ge 10, 3) := by decide +kernel
theorem dX10_slip_22 : decode cX10_slip 22 = .ok (.bipush (-10), 2) := by decide +kernel
theorem dX10_slip_24 : decode cX10_slip 24 = .ok (.iload_n 3, 1) := by decide +kernel
theorem dX10_slip_25 : decode cX10_slip 25 = .ok (.iadd, 1) := by decide +kernel
theorem dX10_slip_26 : decode cX10_slip 26 = .ok (.goto 4, 3) := by decide +kernel
theorem dX10_slip_29 : decode cX10_slip 29 = .ok (.iload_n 2, 1) := by decide +kernel
theorem dX10_slip_30 : decode cX10_slip 30 = .ok (.ireturn, 1) := by decide +kernel
theorem dX10_enact_0 : decode cX10_enact 0 = .ok (.iload_n 2, 1) := by decide +kernel
theorem dX10_enact_1 : decode cX10_enact 1 = .ok (.ifCond .lt 9, 3) := by decide +kernel
theorem dX10_enact_4 : decode cX10_enact 4 = .ok (.iload_n 2, 1) := by decide +kernel
theorem dX10_enact_5 : decode cX10_enact 5 = .ok (.bipush 9, 2) := by decide +kernel
theorem dX10_enact_7 : decode cX10_enact 7 = .ok (.if_icmp .le 7, 3) := by decide +kernel
theorem dX10_enact_10 : decode cX10_enact 10 = .ok (.iconst (-1), 1) := by decide +kernel
theorem dX10_enact_11 : decode cX10_enact 11 = .ok (.goto 24, 3) := by decide +kernel
