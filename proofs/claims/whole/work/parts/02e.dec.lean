theorem dX11_init_175 : decode cX11_init 175 = .ok (.iconst (-1), 1) := by decide +kernel
theorem dX11_init_176 : decode cX11_init 176 = .ok (.iastore, 1) := by decide +kernel
theorem dX11_init_177 : decode cX11_init 177 = .ok (.putfield 75, 3) := by decide +kernel
theorem dX11_init_180 : decode cX11_init 180 = .ok (.aload_n 0, 1) := by decide +kernel
theorem dX11_init_181 : decode cX11_init 181 = .ok (.iconst 4, 1) := by decide +kernel
theorem dX11_init_182 : decode cX11_init 182 = .ok (.newarray .int, 2) := by decide +kernel
theorem dX11_init_184 : decode cX11_init 184 = .ok (.putfield 78, 3) := by decide +kernel
theorem dX11_init_187 : decode cX11_init 187 = .ok (.aload_n 0, 1) := by decide +kernel
theorem dX11_init_188 : decode cX11_init 188 = .ok (.sipush 160, 3) := by decide +kernel
theorem dX11_init_191 : decode cX11_init 191 = .ok (.newarray .long, 2) := by decide +kernel
theorem dX11_init_193 : decode cX11_init 193 = .ok (.putfield 81, 3) := by decide +kernel
theorem dX11_init_196 : decode cX11_init 196 = .ok (.aload_n 0, 1) := by decide +kernel
theorem dX11_init_197 : decode cX11_init 197 = .ok (.getfield 13, 3) := by decide +kernel
theorem dX11_init_200 : decode cX11_init 200 = .ok (.invokestatic 84, 3) := by decide +kernel
theorem dX11_init_203 : decode cX11_init 203 = .ok (.return_, 1) := by decide +kernel
theorem dX11_plain_0 : decode cX11_plain 0 = .ok (.iconst 0, 1) := by decide +kernel
theorem dX11_plain_1 : decode cX11_plain 1 = .ok (.istore_n 1, 1) := by decide +kernel
theorem dX11_plain_2 : decode cX11_plain 2 = .ok (.iload_n 1, 1) := by decide +kernel
theorem dX11_plain_3 : decode cX11_plain 3 = .ok (.sipush 1075, 3) := by decide +kernel
theorem dX11_plain_6 : decode cX11_plain 6 = .ok (.if_icmp .ge 13, 3) := by decide +kernel
theorem dX11_plain_9 : decode cX11_plain 9 = .ok (.aload_n 0, 1) := by decide +kernel
theorem dX11_plain_10 : decode cX11_plain 10 = .ok (.iload_n 1, 1) := by decide +kernel
theorem dX11_plain_11 : decode cX11_plain 11 = .ok (.iconst 0, 1) := by decide +kernel
theorem dX11_plain_12 : decode cX11_plain 12 = .ok (.iastore, 1) := by decide +kernel
theorem dX11_plain_13 : decode cX11_plain 13 = .ok (.iinc 1 1, 3) := by decide +kernel
theorem dX11_plain_16 : decode cX11_plain 16 = .ok (.goto (-14), 3) := by decide +kernel
theorem dX11_plain_19 : decode cX11_plain 19 = .ok (.return_, 1) := by decide +kernel
theorem dX11_feed_0 : decode cX11_feed 0 = .ok (.aload_n 0, 1) := by decide +kernel
theorem dX11_feed_1 : decode cX11_feed 1 = .ok (.iconst 0, 1) := by decide +kernel
theorem dX11_feed_2 : decode cX11_feed 2 = .ok (.putfield 1, 3) := by decide +kernel
theorem dX11_feed_5 : decode cX11_feed 5 = .ok (.aload_n 0, 1) := by decide +kernel
theorem dX11_feed_6 : decode cX11_feed 6 = .ok (.getfield 88, 3) := by decide +kernel
theorem dX11_feed_9 : decode cX11_feed 9 = .ok (.bipush 20, 2) := by decide +kernel
theorem dX11_feed_11 : decode cX11_feed 11 = .ok (.iadd, 1) := by decide +kernel
theorem dX11_feed_12 : decode cX11_feed 12 = .ok (.sipush 900, 3) := by decide +kernel
theorem dX11_feed_15 : decode cX11_feed 15 = .ok (.if_icmp .le 6, 3) := by decide +kernel
theorem dX11_feed_18 : decode cX11_feed 18 = .ok (.bipush (-5), 2) := by decide +kernel
theorem dX11_feed_20 : decode cX11_feed 20 = .ok (.ireturn, 1) := by decide +kernel
theorem dX11_feed_21 : decode cX11_feed 21 = .ok (.iconst 0, 1) := by decide +kernel
theorem dX11_feed_22 : decode cX11_feed 22 = .ok (.istore 6, 2) := by decide +kernel
theorem dX11_feed_24 : decode cX11_feed 24 = .ok (.iload 6, 2) := by decide +kernel
theorem dX11_feed_26 : decode cX11_feed 26 = .ok (.bipush 20, 2) := by decide +kernel
theorem dX11_feed_28 : decode cX11_feed 28 = .ok (.if_icmp .ge 93, 3) := by decide +kernel
theorem dX11_feed_31 : decode cX11_feed 31 = .ok (.iload 6, 2) := by decide +kernel
theorem dX11_feed_33 : decode cX11_feed 33 = .ok (.iconst 4, 1) := by decide +kernel
theorem dX11_feed_34 : decode cX11_feed 34 = .ok (.if_icmp .ge 7, 3) := by decide +kernel
theorem dX11_feed_37 : decode cX11_feed 37 = .ok (.iload_n 1, 1) := by decide +kernel
theorem dX11_feed_38 : decode cX11_feed 38 = .ok (.goto 39, 3) := by decide +kernel
theorem dX11_feed_41 : decode cX11_feed 41 = .ok (.iload 6, 2) := by decide +kernel
theorem dX11_feed_43 : decode cX11_feed 43 = .ok (.bipush 8, 2) := by decide +kernel
theorem dX11_feed_45 : decode cX11_feed 45 = .ok (.if_icmp .ge 7, 3) := by decide +kernel
theorem dX11_feed_48 : decode cX11_feed 48 = .ok (.iload_n 2, 1) := by decide +kernel
theorem dX11_feed_49 : decode cX11_feed 49 = .ok (.goto 28, 3) := by decide +kernel
theorem dX11_feed_52 : decode cX11_feed 52 = .ok (.iload 6, 2) := by decide +kernel
theorem dX11_feed_54 : decode cX11_feed 54 = .ok (.bipush 12, 2) := by decide +kernel
theorem dX11_feed_56 : decode cX11_feed 56 = .ok (.if_icmp .ge 7, 3) := by decide +kernel
theorem dX11_feed_59 : decode cX11_feed 59 = .ok (.iload_n 3, 1) := by decide +kernel
theorem dX11_feed_60 : decode cX11_feed 60 = .ok (.goto 17, 3) := by decide +kernel
theorem dX11_feed_63 : decode cX11_feed 63 = .ok (.iload 6, 2) := by decide +kernel
theorem dX11_feed_65 : decode cX11_feed 65 = .ok (.bipush 16, 2) := by decide +kernel
theorem dX11_feed_67 : decode cX11_feed 67 = .ok (.if_icmp .ge 8, 3) := by decide +kernel
theorem dX11_feed_70 : decode cX11_feed 70 = .ok (.iload 4, 2) := by decide +kernel
theorem dX11_feed_72 : decode cX11_feed 72 = .ok (.goto 5, 3) := by decide +kernel
theorem dX11_feed_75 : decode cX11_feed 75 = .ok (.iload 5, 2) := by decide +kernel
theorem dX11_feed_77 : decode cX11_feed 77 = .ok (.istore 7, 2) := by decide +kernel
theorem dX11_feed_79 : decode cX11_feed 79 = .ok (.aload_n 0, 1) := by decide +kernel
theorem dX11_feed_80 : decode cX11_feed 80 = .ok (.getfield 21, 3) := by decide +kernel
theorem dX11_feed_83 : decode cX11_feed 83 = .ok (.aload_n 0, 1) := by decide +kernel
theorem dX11_feed_84 : decode cX11_feed 84 = .ok (.getfield 88, 3) := by decide +kernel
theorem dX11_feed_87 : decode cX11_feed 87 = .ok (.iload 7, 2) := by decide +kernel
theorem dX11_feed_89 : decode cX11_feed 89 = .ok (.bipush 24, 2) := by decide +kernel
theorem dX11_feed_91 : decode cX11_feed 91 = .ok (.bipush 8, 2) := by decide +kernel
theorem dX11_feed_93 : decode cX11_feed 93 = .ok (.iload 6, 2) := by decide +kernel
theorem dX11_feed_95 : decode cX11_feed 95 = .ok (.iconst 4, 1) := by decide +kernel
theorem dX11_feed_96 : decode cX11_feed 96 = .ok (.irem, 1) := by decide +kernel
theorem dX11_feed_97 : decode cX11_feed 97 = .ok (.imul, 1) := by decide +kernel
theorem dX11_feed_98 : decode cX11_feed 98 = .ok (.isub, 1) := by decide +kernel
theorem dX11_feed_99 : decode cX11_feed 99 = .ok (.ishr, 1) := by decide +kernel
theorem dX11_feed_100 : decode cX11_feed 100 = .ok (.sipush 255, 3) := by decide +kernel
theorem dX11_feed_103 : decode cX11_feed 103 = .ok (.iand, 1) := by decide +kernel
theorem dX11_feed_104 : decode cX11_feed 104 = .ok (.iastore, 1) := by decide +kernel
theorem dX11_feed_105 : decode cX11_feed 105 = .ok (.aload_n 0, 1) := by decide +kernel
theorem dX11_feed_106 : decode cX11_feed 106 = .ok (.dup, 1) := by decide +kernel
theorem dX11_feed_107 : decode cX11_feed 107 = .ok (.getfield 88, 3) := by decide +kernel
theorem dX11_feed_110 : decode cX11_feed 110 = .ok (.iconst 1, 1) := by decide +kernel
theorem dX11_feed_111 : decode cX11_feed 111 = .ok (.iadd, 1) := by decide +kernel
theorem dX11_feed_112 : decode cX11_feed 112 = .ok (.putfield 88, 3) := by decide +kernel
theorem dX11_feed_115 : decode cX11_feed 115 = .ok (.iinc 6 1, 3) := by decide +kernel
theorem dX11_feed_118 : decode cX11_feed 118 = .ok (.goto (-94), 3) := by decide +kernel
theorem dX11_feed_121 : decode cX11_feed 121 = .ok (.aload_n 0, 1) := by decide +kernel
theorem dX11_feed_122 : decode cX11_feed 122 = .ok (.getfield 88, 3) := by decide +kernel
theorem dX11_feed_125 : decode cX11_feed 125 = .ok (.ireturn, 1) := by decide +kernel
theorem dX11_see_0 : decode cX11_see 0 = .ok (.iload_n 1, 1) := by decide +kernel
theorem dX11_see_1 : decode cX11_see 1 = .ok (.aload_n 0, 1) := by decide +kernel
theorem dX11_see_2 : decode cX11_see 2 = .ok (.getfield 91, 3) := by decide +kernel
theorem dX11_see_5 : decode cX11_see 5 = .ok (.if_icmp .ge 12, 3) := by decide +kernel
theorem dX11_see_8 : decode cX11_see 8 = .ok (.aload_n 0, 1) := by decide +kernel
theorem dX11_see_9 : decode cX11_see 9 = .ok (.getfield 21, 3) := by decide +kernel
theorem dX11_see_12 : decode cX11_see 12 = .ok (.iload_n 1, 1) := by decide +kernel
theorem dX11_see_13 : decode cX11_see 13 = .ok (.iaload, 1) := by decide +kernel
theorem dX11_see_14 : decode cX11_see 14 = .ok (.goto 4, 3) := by decide +kernel
theorem dX11_see_17 : decode cX11_see 17 = .ok (.iconst (-1), 1) := by decide +kernel
theorem dX11_see_18 : decode cX11_see 18 = .ok (.ireturn, 1) := by decide +kernel
theorem dX11_isSmall_0 : decode cX11_isSmall 0 = .ok (.iload_n 0, 1) := by decide +kernel
theorem dX11_isSmall_1 : decode cX11_isSmall 1 = .ok (.bipush 97, 2) := by decide +kernel
theorem dX11_isSmall_3 : decode cX11_isSmall 3 = .ok (.if_icmp .lt 13, 3) := by decide +kernel
theorem dX11_isSmall_6 : decode cX11_isSmall 6 = .ok (.iload_n 0, 1) := by decide +kernel
theorem dX11_isSmall_7 : decode cX11_isSmall 7 = .ok (.bipush 122, 2) := by decide +kernel
theorem dX11_isSmall_9 : decode cX11_isSmall 9 = .ok (.if_icmp .gt 7, 3) := by decide +kernel
theorem dX11_isSmall_12 : decode cX11_isSmall 12 = .ok (.iconst 1, 1) := by decide +kernel
theorem dX11_isSmall_13 : decode cX11_isSmall 13 = .ok (.goto 4, 3) := by decide +kernel
theorem dX11_isSmall_16 : decode cX11_isSmall 16 = .ok (.iconst 0, 1) := by decide +kernel
theorem dX11_isSmall_17 : decode cX11_isSmall 17 = .ok (.ireturn, 1) := by decide +kernel
theorem dX11_isDigit_0 : decode cX11_isDigit 0 = .ok (.iload_n 0, 1) := by decide +kernel
theorem dX11_isDigit_1 : decode cX11_isDigit 1 = .ok (.bipush 48, 2) := by decide +kernel
theorem dX11_isDigit_3 : decode cX11_isDigit 3 = .ok (.if_icmp .lt 13, 3) := by decide +kernel
theorem dX11_isDigit_6 : decode cX11_isDigit 6 = .ok (.iload_n 0, 1) := by decide +kernel
theorem dX11_isDigit_7 : decode cX11_isDigit 7 = .ok (.bipush 57, 2) := by decide +kernel
theorem dX11_isDigit_9 : decode cX11_isDigit 9 = .ok (.if_icmp .gt 7, 3) := by decide +kernel
theorem dX11_isDigit_12 : decode cX11_isDigit 12 = .ok (.iconst 1, 1) := by decide +kernel
theorem dX11_isDigit_13 : decode cX11_isDigit 13 = .ok (.goto 4, 3) := by decide +kernel
theorem dX11_isDigit_16 : decode cX11_isDigit 16 = .ok (.iconst 0, 1) := by decide +kernel
theorem dX11_isDigit_17 : decode cX11_isDigit 17 = .ok (.ireturn, 1) := by decide +kernel
theorem dX11_keyAt_0 : decode cX11_keyAt 0 = .ok (.iconst 0, 1) := by decide +kernel
theorem dX11_keyAt_1 : decode cX11_keyAt 1 = .ok (.istore_n 1, 1) := by decide +kernel
theorem dX11_keyAt_2 : decode cX11_keyAt 2 = .ok (.iconst 1, 1) := by decide +kernel
theorem dX11_keyAt_3 : decode cX11_keyAt 3 = .ok (.istore_n 2, 1) := by decide +kernel
theorem dX11_keyAt_4 : decode cX11_keyAt 4 = .ok (.iload_n 2, 1) := by decide +kernel
theorem dX11_keyAt_5 : decode cX11_keyAt 5 = .ok (.ldc 94, 2) := by decide +kernel
theorem dX11_keyAt_7 : decode cX11_keyAt 7 = .ok (.invokevirtual 96, 3) := by decide +kernel
theorem dX11_keyAt_10 : decode cX11_keyAt 10 = .ok (.if_icmp .ge 113, 3) := by decide +kernel
theorem dX11_keyAt_13 : decode cX11_keyAt 13 = .ok (.iconst 0, 1) := by decide +kernel
theorem dX11_keyAt_14 : decode cX11_keyAt 14 = .ok (.istore_n 3, 1) := by decide +kernel
theorem dX11_keyAt_15 : decode cX11_keyAt 15 = .ok (.ldc 94, 2) := by decide +kernel
theorem dX11_keyAt_17 : decode cX11_keyAt 17 = .ok (.iload_n 2, 1) := by decide +kernel
theorem dX11_keyAt_18 : decode cX11_keyAt 18 = .ok (.iload_n 3, 1) := by decide +kernel
theorem dX11_keyAt_19 : decode cX11_keyAt 19 = .ok (.iadd, 1) := by decide +kernel
theorem dX11_keyAt_20 : decode cX11_keyAt 20 = .ok (.invokevirtual 102, 3) := by decide +kernel
theorem dX11_keyAt_23 : decode cX11_keyAt 23 = .ok (.bipush 32, 2) := by decide +kernel
theorem dX11_keyAt_25 : decode cX11_keyAt 25 = .ok (.if_icmp .eq 44, 3) := by decide +kernel
theorem dX11_keyAt_28 : decode cX11_keyAt 28 = .ok (.aload_n 0, 1) := by decide +kernel
theorem dX11_keyAt_29 : decode cX11_keyAt 29 = .ok (.getfield 106, 3) := by decide +kernel
theorem dX11_keyAt_32 : decode cX11_keyAt 32 = .ok (.iload_n 3, 1) := by decide +kernel
theorem dX11_keyAt_33 : decode cX11_keyAt 33 = .ok (.iadd, 1) := by decide +kernel
theorem dX11_keyAt_34 : decode cX11_keyAt 34 = .ok (.aload_n 0, 1) := by decide +kernel
theorem dX11_keyAt_35 : decode cX11_keyAt 35 = .ok (.getfield 109, 3) := by decide +kernel
theorem dX11_keyAt_38 : decode cX11_keyAt 38 = .ok (.if_icmp .ge 31, 3) := by decide +kernel
theorem dX11_keyAt_41 : decode cX11_keyAt 41 = .ok (.aload_n 0, 1) := by decide +kernel
theorem dX11_keyAt_42 : decode cX11_keyAt 42 = .ok (.getfield 21, 3) := by decide +kernel
theorem dX11_keyAt_45 : decode cX11_keyAt 45 = .ok (.aload_n 0, 1) := by decide +kernel
theorem dX11_keyAt_46 : decode cX11_keyAt 46 = .ok (.getfield 106, 3) := by decide +kernel
theorem dX11_keyAt_49 : decode cX11_keyAt 49 = .ok (.iload_n 3, 1) := by decide +kernel
theorem dX11_keyAt_50 : decode cX11_keyAt 50 = .ok (.iadd, 1) := by decide +kernel
theorem dX11_keyAt_51 : decode cX11_keyAt 51 = .ok (.iaload, 1) := by decide +kernel
theorem dX11_keyAt_52 : decode cX11_keyAt 52 = .ok (.ldc 94, 2) := by decide +kernel
theorem dX11_keyAt_54 : decode cX11_keyAt 54 = .ok (.iload_n 2, 1) := by decide +kernel
theorem dX11_keyAt_55 : decode cX11_keyAt 55 = .ok (.iload_n 3, 1) := by decide +kernel
theorem dX11_keyAt_56 : decode cX11_keyAt 56 = .ok (.iadd, 1) := by decide +kernel
theorem dX11_keyAt_57 : decode cX11_keyAt 57 = .ok (.invokevirtual 102, 3) := by decide +kernel
theorem dX11_keyAt_60 : decode cX11_keyAt 60 = .ok (.if_icmp .ne 9, 3) := by decide +kernel
theorem dX11_keyAt_63 : decode cX11_keyAt 63 = .ok (.iinc 3 1, 3) := by decide +kernel
theorem dX11_keyAt_66 : decode cX11_keyAt 66 = .ok (.goto (-51), 3) := by decide +kernel
theorem dX11_keyAt_69 : decode cX11_keyAt 69 = .ok (.ldc 94, 2) := by decide +kernel
theorem dX11_keyAt_71 : decode cX11_keyAt 71 = .ok (.iload_n 2, 1) := by decide +kernel
theorem dX11_keyAt_72 : decode cX11_keyAt 72 = .ok (.iload_n 3, 1) := by decide +kernel
theorem dX11_keyAt_73 : decode cX11_keyAt 73 = .ok (.iadd, 1) := by decide +kernel
theorem dX11_keyAt_74 : decode cX11_keyAt 74 = .ok (.invokevirtual 102, 3) := by decide +kernel
theorem dX11_keyAt_77 : decode cX11_keyAt 77 = .ok (.bipush 32, 2) := by decide +kernel
theorem dX11_keyAt_79 : decode cX11_keyAt 79 = .ok (.if_icmp .ne 18, 3) := by decide +kernel
theorem dX11_keyAt_82 : decode cX11_keyAt 82 = .ok (.aload_n 0, 1) := by decide +kernel
theorem dX11_keyAt_83 : decode cX11_keyAt 83 = .ok (.getfield 106, 3) := by decide +kernel
theorem dX11_keyAt_86 : decode cX11_keyAt 86 = .ok (.iload_n 3, 1) := by decide +kernel
theorem dX11_keyAt_87 : decode cX11_keyAt 87 = .ok (.iadd, 1) := by decide +kernel
theorem dX11_keyAt_88 : decode cX11_keyAt 88 = .ok (.aload_n 0, 1) := by decide +kernel
theorem dX11_keyAt_89 : decode cX11_keyAt 89 = .ok (.getfield 109, 3) := by decide +kernel
theorem dX11_keyAt_92 : decode cX11_keyAt 92 = .ok (.if_icmp .ne 5, 3) := by decide +kernel
theorem dX11_keyAt_95 : decode cX11_keyAt 95 = .ok (.iload_n 1, 1) := by decide +kernel
theorem dX11_keyAt_96 : decode cX11_keyAt 96 = .ok (.ireturn, 1) := by decide +kernel
theorem dX11_keyAt_97 : decode cX11_keyAt 97 = .ok (.ldc 94, 2) := by decide +kernel
theorem dX11_keyAt_99 : decode cX11_keyAt 99 = .ok (.iload_n 2, 1) := by decide +kernel
theorem dX11_keyAt_100 : decode cX11_keyAt 100 = .ok (.invokevirtual 102, 3) := by decide +kernel
theorem dX11_keyAt_103 : decode cX11_keyAt 103 = .ok (.bipush 32, 2) := by decide +kernel
theorem dX11_keyAt_105 : decode cX11_keyAt 105 = .ok (.if_icmp .eq 9, 3) := by decide +kernel
theorem dX11_keyAt_108 : decode cX11_keyAt 108 = .ok (.iinc 2 1, 3) := by decide +kernel
theorem dX11_keyAt_111 : decode cX11_keyAt 111 = .ok (.goto (-14), 3) := by decide +kernel
theorem dX11_keyAt_114 : decode cX11_keyAt 114 = .ok (.iinc 2 1, 3) := by decide +kernel
theorem dX11_keyAt_117 : decode cX11_keyAt 117 = .ok (.iinc 1 1, 3) := by decide +kernel
theorem dX11_keyAt_120 : decode cX11_keyAt 120 = .ok (.goto (-116), 3) := by decide +kernel
theorem dX11_keyAt_123 : decode cX11_keyAt 123 = .ok (.bipush 22, 2) := by decide +kernel
theorem dX11_keyAt_125 : decode cX11_keyAt 125 = .ok (.ireturn, 1) := by decide +kernel
theorem dX11_next_0 : decode cX11_next 0 = .ok (.aload_n 0, 1) := by decide +kernel
theorem dX11_next_1 : decode cX11_next 1 = .ok (.aload_n 0, 1) := by decide +kernel
theorem dX11_next_2 : decode cX11_next 2 = .ok (.getfield 109, 3) := by decide +kernel
theorem dX11_next_5 : decode cX11_next 5 = .ok (.putfield 106, 3) := by decide +kernel
theorem dX11_next_8 : decode cX11_next 8 = .ok (.aload_n 0, 1) := by decide +kernel
theorem dX11_next_9 : decode cX11_next 9 = .ok (.aload_n 0, 1) := by decide +kernel
theorem dX11_next_10 : decode cX11_next 10 = .ok (.getfield 106, 3) := by decide +kernel
theorem dX11_next_13 : decode cX11_next 13 = .ok (.invokevirtual 112, 3) := by decide +kernel
theorem dX11_next_16 : decode cX11_next 16 = .ok (.bipush 10, 2) := by decide +kernel
theorem dX11_next_18 : decode cX11_next 18 = .ok (.if_icmp .eq 16, 3) := by decide +kernel
theorem dX11_next_21 : decode cX11_next 21 = .ok (.aload_n 0, 1) := by decide +kernel
theorem dX11_next_22 : decode cX11_next 22 = .ok (.aload_n 0, 1) := by decide +kernel
theorem dX11_next_23 : decode cX11_next 23 = .ok (.getfield 106, 3) := by decide +kernel
theorem dX11_next_26 : decode cX11_next 26 = .ok (.invokevirtual 112, 3) := by decide +kernel
theorem dX11_next_29 : decode cX11_next 29 = .ok (.bipush 32, 2) := by decide +kernel
theorem dX11_next_31 : decode cX11_next 31 = .ok (.if_icmp .ne 16, 3) := by decide +kernel
theorem dX11_next_34 : decode cX11_next 34 = .ok (.aload_n 0, 1) := by decide +kernel
theorem dX11_next_35 : decode cX11_next 35 = .ok (.dup, 1) := by decide +kernel
theorem dX11_next_36 : decode cX11_next 36 = .ok (.getfield 106, 3) := by decide +kernel
theorem dX11_next_39 : decode cX11_next 39 = .ok (.iconst 1, 1) := by decide +kernel
theorem dX11_next_40 : decode cX11_next 40 = .ok (.iadd, 1) := by decide +kernel
theorem dX11_next_41 : decode cX11_next 41 = .ok (.putfield 106, 3) := by decide +kernel
theorem dX11_next_44 : decode cX11_next 44 = .ok (.goto (-36), 3) := by decide +kernel
theorem dX11_next_47 : decode cX11_next 47 = .ok (.aload_n 0, 1) := by decide +kernel
theorem dX11_next_48 : decode cX11_next 48 = .ok (.aload_n 0, 1) := by decide +kernel
theorem dX11_next_49 : decode cX11_next 49 = .ok (.getfield 106, 3) := by decide +kernel
theorem dX11_next_52 : decode cX11_next 52 = .ok (.putfield 109, 3) := by decide +kernel
theorem dX11_next_55 : decode cX11_next 55 = .ok (.aload_n 0, 1) := by decide +kernel
theorem dX11_next_56 : decode cX11_next 56 = .ok (.getfield 106, 3) := by decide +kernel
theorem dX11_next_59 : decode cX11_next 59 = .ok (.aload_n 0, 1) := by decide +kernel
theorem dX11_next_60 : decode cX11_next 60 = .ok (.getfield 91, 3) := by decide +kernel
theorem dX11_next_63 : decode cX11_next 63 = .ok (.if_icmp .lt 12, 3) := by decide +kernel
theorem dX11_next_66 : decode cX11_next 66 = .ok (.aload_n 0, 1) := by decide +kernel
theorem dX11_next_67 : decode cX11_next 67 = .ok (.bipush 24, 2) := by decide +kernel
theorem dX11_next_69 : decode cX11_next 69 = .ok (.putfield 116, 3) := by decide +kernel
theorem dX11_next_72 : decode cX11_next 72 = .ok (.goto 222, 3) := by decide +kernel
theorem dX11_next_75 : decode cX11_next 75 = .ok (.aload_n 0, 1) := by decide +kernel
theorem dX11_next_76 : decode cX11_next 76 = .ok (.aload_n 0, 1) := by decide +kernel
theorem dX11_next_77 : decode cX11_next 77 = .ok (.getfield 106, 3) := by decide +kernel
theorem dX11_next_80 : decode cX11_next 80 = .ok (.invokevirtual 112, 3) := by decide +kernel
theorem dX11_next_83 : decode cX11_next 83 = .ok (.invokestatic 119, 3) := by decide +kernel
theorem dX11_next_86 : decode cX11_next 86 = .ok (.ifCond .eq 41, 3) := by decide +kernel
theorem dX11_next_89 : decode cX11_next 89 = .ok (.aload_n 0, 1) := by decide +kernel
theorem dX11_next_90 : decode cX11_next 90 = .ok (.aload_n 0, 1) := by decide +kernel
theorem dX11_next_91 : decode cX11_next 91 = .ok (.getfield 109, 3) := by decide +kernel
theorem dX11_next_94 : decode cX11_next 94 = .ok (.invokevirtual 112, 3) := by decide +kernel
theorem dX11_next_97 : decode cX11_next 97 = .ok (.invokestatic 119, 3) := by decide +kernel
theorem dX11_next_100 : decode cX11_next 100 = .ok (.ifCond .eq 16, 3) := by decide +kernel
theorem dX11_next_103 : decode cX11_next 103 = .ok (.aload_n 0, 1) := by decide +kernel
theorem dX11_next_104 : decode cX11_next 104 = .ok (.dup, 1) := by decide +kernel
theorem dX11_next_105 : decode cX11_next 105 = .ok (.getfield 109, 3) := by decide +kernel
theorem dX11_next_108 : decode cX11_next 108 = .ok (.iconst 1, 1) := by decide +kernel
theorem dX11_next_109 : decode cX11_next 109 = .ok (.iadd, 1) := by decide +kernel
theorem dX11_next_110 : decode cX11_next 110 = .ok (.putfield 109, 3) := by decide +kernel
theorem dX11_next_113 : decode cX11_next 113 = .ok (.goto (-24), 3) := by decide +kernel
theorem dX11_next_116 : decode cX11_next 116 = .ok (.aload_n 0, 1) := by decide +kernel
theorem dX11_next_117 : decode cX11_next 117 = .ok (.aload_n 0, 1) := by decide +kernel
theorem dX11_next_118 : decode cX11_next 118 = .ok (.invokevirtual 123, 3) := by decide +kernel
theorem dX11_next_121 : decode cX11_next 121 = .ok (.putfield 116, 3) := by decide +kernel
theorem dX11_next_124 : decode cX11_next 124 = .ok (.goto 170, 3) := by decide +kernel
theorem dX11_next_127 : decode cX11_next 127 = .ok (.aload_n 0, 1) := by decide +kernel
theorem dX11_next_128 : decode cX11_next 128 = .ok (.aload_n 0, 1) := by decide +kernel
theorem dX11_next_129 : decode cX11_next 129 = .ok (.getfield 106, 3) := by decide +kernel
theorem dX11_next_132 : decode cX11_next 132 = .ok (.invokevirtual 112, 3) := by decide +kernel
theorem dX11_next_135 : decode cX11_next 135 = .ok (.invokestatic 126, 3) := by decide +kernel
theorem dX11_next_138 : decode cX11_next 138 = .ok (.ifCond .eq 98, 3) := by decide +kernel
theorem dX11_next_141 : decode cX11_next 141 = .ok (.aload_n 0, 1) := by decide +kernel
theorem dX11_next_142 : decode cX11_next 142 = .ok (.iconst 0, 1) := by decide +kernel
theorem dX11_next_143 : decode cX11_next 143 = .ok (.putfield 129, 3) := by decide +kernel
theorem dX11_next_146 : decode cX11_next 146 = .ok (.aload_n 0, 1) := by decide +kernel
theorem dX11_next_147 : decode cX11_next 147 = .ok (.aload_n 0, 1) := by decide +kernel
theorem dX11_next_148 : decode cX11_next 148 = .ok (.getfield 109, 3) := by decide +kernel
theorem dX11_next_151 : decode cX11_next 151 = .ok (.invokevirtual 112, 3) := by decide +kernel
theorem dX11_next_154 : decode cX11_next 154 = .ok (.invokestatic 126, 3) := by decide +kernel
theorem dX11_next_157 : decode cX11_next 157 = .ok (.ifCond .eq 52, 3) := by decide +kernel
theorem dX11_next_160 : decode cX11_next 160 = .ok (.aload_n 0, 1) := by decide +kernel
theorem dX11_next_161 : decode cX11_next 161 = .ok (.getfield 109, 3) := by decide +kernel
theorem dX11_next_164 : decode cX11_next 164 = .ok (.aload_n 0, 1) := by decide +kernel
theorem dX11_next_165 : decode cX11_next 165 = .ok (.getfield 106, 3) := by decide +kernel
theorem dX11_next_168 : decode cX11_next 168 = .ok (.isub, 1) := by decide +kernel
theorem dX11_next_169 : decode cX11_next 169 = .ok (.iconst 3, 1) := by decide +kernel
theorem dX11_next_170 : decode cX11_next 170 = .ok (.if_icmp .ge 26, 3) := by decide +kernel
theorem dX11_next_173 : decode cX11_next 173 = .ok (.aload_n 0, 1) := by decide +kernel
theorem dX11_next_174 : decode cX11_next 174 = .ok (.bipush 10, 2) := by decide +kernel
theorem dX11_next_176 : decode cX11_next 176 = .ok (.aload_n 0, 1) := by decide +kernel
theorem dX11_next_177 : decode cX11_next 177 = .ok (.getfield 129, 3) := by decide +kernel
theorem dX11_next_180 : decode cX11_next 180 = .ok (.imul, 1) := by decide +kernel
theorem dX11_next_181 : decode cX11_next 181 = .ok (.aload_n 0, 1) := by decide +kernel
theorem dX11_next_182 : decode cX11_next 182 = .ok (.aload_n 0, 1) := by decide +kernel
theorem dX11_next_183 : decode cX11_next 183 = .ok (.getfield 109, 3) := by decide +kernel
theorem dX11_next_186 : decode cX11_next 186 = .ok (.invokevirtual 112, 3) := by decide +kernel
theorem dX11_next_189 : decode cX11_next 189 = .ok (.iadd, 1) := by decide +kernel
theorem dX11_next_190 : decode cX11_next 190 = .ok (.bipush 48, 2) := by decide +kernel
theorem dX11_next_192 : decode cX11_next 192 = .ok (.isub, 1) := by decide +kernel
theorem dX11_next_193 : decode cX11_next 193 = .ok (.putfield 129, 3) := by decide +kernel
theorem dX11_next_196 : decode cX11_next 196 = .ok (.aload_n 0, 1) := by decide +kernel
theorem dX11_next_197 : decode cX11_next 197 = .ok (.dup, 1) := by decide +kernel
theorem dX11_next_198 : decode cX11_next 198 = .ok (.getfield 109, 3) := by decide +kernel
theorem dX11_next_201 : decode cX11_next 201 = .ok (.iconst 1, 1) := by decide +kernel
theorem dX11_next_202 : decode cX11_next 202 = .ok (.iadd, 1) := by decide +kernel
theorem dX11_next_203 : decode cX11_next 203 = .ok (.putfield 109, 3) := by decide +kernel
theorem dX11_next_206 : decode cX11_next 206 = .ok (.goto (-60), 3) := by decide +kernel
theorem dX11_next_209 : decode cX11_next 209 = .ok (.aload_n 0, 1) := by decide +kernel
theorem dX11_next_210 : decode cX11_next 210 = .ok (.aload_n 0, 1) := by decide +kernel
theorem dX11_next_211 : decode cX11_next 211 = .ok (.getfield 109, 3) := by decide +kernel
theorem dX11_next_214 : decode cX11_next 214 = .ok (.aload_n 0, 1) := by decide +kernel
theorem dX11_next_215 : decode cX11_next 215 = .ok (.getfield 106, 3) := by decide +kernel
theorem dX11_next_218 : decode cX11_next 218 = .ok (.isub, 1) := by decide +kernel
theorem dX11_next_219 : decode cX11_next 219 = .ok (.iconst 3, 1) := by decide +kernel
theorem dX11_next_220 : decode cX11_next 220 = .ok (.if_icmp .le 8, 3) := by decide +kernel
theorem dX11_next_223 : decode cX11_next 223 = .ok (.bipush 25, 2) := by decide +kernel
theorem dX11_next_225 : decode cX11_next 225 = .ok (.goto 5, 3) := by decide +kernel
theorem dX11_next_228 : decode cX11_next 228 = .ok (.bipush 23, 2) := by decide +kernel
theorem dX11_next_230 : decode cX11_next 230 = .ok (.putfield 116, 3) := by decide +kernel
theorem dX11_next_233 : decode cX11_next 233 = .ok (.goto 61, 3) := by decide +kernel
theorem dX11_next_236 : decode cX11_next 236 = .ok (.aload_n 0, 1) := by decide +kernel
theorem dX11_next_237 : decode cX11_next 237 = .ok (.dup, 1) := by decide +kernel
theorem dX11_next_238 : decode cX11_next 238 = .ok (.getfield 109, 3) := by decide +kernel
theorem dX11_next_241 : decode cX11_next 241 = .ok (.iconst 1, 1) := by decide +kernel
theorem dX11_next_242 : decode cX11_next 242 = .ok (.iadd, 1) := by decide +kernel
theorem dX11_next_243 : decode cX11_next 243 = .ok (.putfield 109, 3) := by decide +kernel
theorem dX11_next_246 : decode cX11_next 246 = .ok (.aload_n 0, 1) := by decide +kernel
theorem dX11_next_247 : decode cX11_next 247 = .ok (.bipush 25, 2) := by decide +kernel
theorem dX11_next_249 : decode cX11_next 249 = .ok (.putfield 116, 3) := by decide +kernel
theorem dX11_next_252 : decode cX11_next 252 = .ok (.iconst 0, 1) := by decide +kernel
theorem dX11_next_253 : decode cX11_next 253 = .ok (.istore_n 1, 1) := by decide +kernel
theorem dX11_next_254 : decode cX11_next 254 = .ok (.iload_n 1, 1) := by decide +kernel
theorem dX11_next_255 : decode cX11_next 255 = .ok (.ldc 132, 2) := by decide +kernel
theorem dX11_next_257 : decode cX11_next 257 = .ok (.invokevirtual 96, 3) := by decide +kernel
theorem dX11_next_260 : decode cX11_next 260 = .ok (.if_icmp .ge 34, 3) := by decide +kernel
theorem dX11_next_263 : decode cX11_next 263 = .ok (.aload_n 0, 1) := by decide +kernel
theorem dX11_next_264 : decode cX11_next 264 = .ok (.aload_n 0, 1) := by decide +kernel
theorem dX11_next_265 : decode cX11_next 265 = .ok (.getfield 106, 3) := by decide +kernel
theorem dX11_next_268 : decode cX11_next 268 = .ok (.invokevirtual 112, 3) := by decide +kernel
theorem dX11_next_271 : decode cX11_next 271 = .ok (.ldc 132, 2) := by decide +kernel
theorem dX11_next_273 : decode cX11_next 273 = .ok (.iload_n 1, 1) := by decide +kernel
theorem dX11_next_274 : decode cX11_next 274 = .ok (.invokevirtual 102, 3) := by decide +kernel
theorem dX11_next_277 : decode cX11_next 277 = .ok (.if_icmp .ne 11, 3) := by decide +kernel
theorem dX11_next_280 : decode cX11_next 280 = .ok (.aload_n 0, 1) := by decide +kernel
theorem dX11_next_281 : decode cX11_next 281 = .ok (.bipush 30, 2) := by decide +kernel
theorem dX11_next_283 : decode cX11_next 283 = .ok (.iload_n 1, 1) := by decide +kernel
theorem dX11_next_284 : decode cX11_next 284 = .ok (.iadd, 1) := by decide +kernel
theorem dX11_next_285 : decode cX11_next 285 = .ok (.putfield 116, 3) := by decide +kernel
theorem dX11_next_288 : decode cX11_next 288 = .ok (.iinc 1 1, 3) := by decide +kernel
theorem dX11_next_291 : decode cX11_next 291 = .ok (.goto (-37), 3) := by decide +kernel
theorem dX11_next_294 : decode cX11_next 294 = .ok (.return_, 1) := by decide +kernel
theorem dX11_fails_0 : decode cX11_fails 0 = .ok (.aload_n 0, 1) := by decide +kernel
theorem dX11_fails_1 : decode cX11_fails 1 = .ok (.getfield 134, 3) := by decide +kernel
theorem dX11_fails_4 : decode cX11_fails 4 = .ok (.ifCond .eq 4, 3) := by decide +kernel
theorem dX11_fails_7 : decode cX11_fails 7 = .ok (.return_, 1) := by decide +kernel
theorem dX11_fails_8 : decode cX11_fails 8 = .ok (.aload_n 0, 1) := by decide +kernel
theorem dX11_fails_9 : decode cX11_fails 9 = .ok (.aload_n 0, 1) := by decide +kernel
theorem dX11_fails_10 : decode cX11_fails 10 = .ok (.getfield 116, 3) := by decide +kernel
theorem dX11_fails_13 : decode cX11_fails 13 = .ok (.bipush 25, 2) := by decide +kernel
theorem dX11_fails_15 : decode cX11_fails 15 = .ok (.if_icmp .ne 7, 3) := by decide +kernel
theorem dX11_fails_18 : decode cX11_fails 18 = .ok (.iconst 1, 1) := by decide +kernel
theorem dX11_fails_19 : decode cX11_fails 19 = .ok (.goto 4, 3) := by decide +kernel
theorem dX11_fails_22 : decode cX11_fails 22 = .ok (.iload_n 1, 1) := by decide +kernel
theorem dX11_fails_23 : decode cX11_fails 23 = .ok (.putfield 134, 3) := by decide +kernel
theorem dX11_fails_26 : decode cX11_fails 26 = .ok (.aload_n 0, 1) := by decide +kernel
theorem dX11_fails_27 : decode cX11_fails 27 = .ok (.aload_n 0, 1) := by decide +kernel
theorem dX11_fails_28 : decode cX11_fails 28 = .ok (.getfield 106, 3) := by decide +kernel
theorem dX11_fails_31 : decode cX11_fails 31 = .ok (.putfield 137, 3) := by decide +kernel
theorem dX11_fails_34 : decode cX11_fails 34 = .ok (.return_, 1) := by decide +kernel
theorem dX11_is_0 : decode cX11_is 0 = .ok (.aload_n 0, 1) := by decide +kernel
theorem dX11_is_1 : decode cX11_is 1 = .ok (.getfield 134, 3) := by decide +kernel
theorem dX11_is_4 : decode cX11_is 4 = .ok (.ifCond .ne 15, 3) := by decide +kernel
theorem dX11_is_7 : decode cX11_is 7 = .ok (.aload_n 0, 1) := by decide +kernel
theorem dX11_is_8 : decode cX11_is 8 = .ok (.getfield 116, 3) := by decide +kernel
theorem dX11_is_11 : decode cX11_is 11 = .ok (.iload_n 1, 1) := by decide +kernel
theorem dX11_is_12 : decode cX11_is 12 = .ok (.if_icmp .ne 7, 3) := by decide +kernel
theorem dX11_is_15 : decode cX11_is 15 = .ok (.iconst 1, 1) := by decide +kernel
theorem dX11_is_16 : decode cX11_is 16 = .ok (.goto 4, 3) := by decide +kernel
theorem dX11_is_19 : decode cX11_is 19 = .ok (.iconst 0, 1) := by decide +kernel
theorem dX11_is_20 : decode cX11_is 20 = .ok (.ireturn, 1) := by decide +kernel
theorem dX11_eats_0 : decode cX11_eats 0 = .ok (.aload_n 0, 1) := by decide +kernel
theorem dX11_eats_1 : decode cX11_eats 1 = .ok (.iload_n 1, 1) := by decide +kernel
theorem dX11_eats_2 : decode cX11_eats 2 = .ok (.invokevirtual 140, 3) := by decide +kernel
theorem dX11_eats_5 : decode cX11_eats 5 = .ok (.ifCond .ne 5, 3) := by decide +kernel
theorem dX11_eats_8 : decode cX11_eats 8 = .ok (.iconst 0, 1) := by decide +kernel
theorem dX11_eats_9 : decode cX11_eats 9 = .ok (.ireturn, 1) := by decide +kernel
theorem dX11_eats_10 : decode cX11_eats 10 = .ok (.aload_n 0, 1) := by decide +kernel
theorem dX11_eats_11 : decode cX11_eats 11 = .ok (.invokevirtual 143, 3) := by decide +kernel
theorem dX11_eats_14 : decode cX11_eats 14 = .ok (.iconst 1, 1) := by decide +kernel
theorem dX11_eats_15 : decode cX11_eats 15 = .ok (.ireturn, 1) := by decide +kernel
theorem dX11_takes_0 : decode cX11_takes 0 = .ok (.aload_n 0, 1) := by decide +kernel
theorem dX11_takes_1 : decode cX11_takes 1 = .ok (.bipush 23, 2) := by decide +kernel
theorem dX11_takes_3 : decode cX11_takes 3 = .ok (.invokevirtual 140, 3) := by decide +kernel
theorem dX11_takes_6 : decode cX11_takes 6 = .ok (.ifCond .ne 11, 3) := by decide +kernel
theorem dX11_takes_9 : decode cX11_takes 9 = .ok (.aload_n 0, 1) := by decide +kernel
theorem dX11_takes_10 : decode cX11_takes 10 = .ok (.iconst 2, 1) := by decide +kernel
theorem dX11_takes_11 : decode cX11_takes 11 = .ok (.invokevirtual 146, 3) := by decide +kernel
theorem dX11_takes_14 : decode cX11_takes 14 = .ok (.goto 23, 3) := by decide +kernel
theorem dX11_takes_17 : decode cX11_takes 17 = .ok (.aload_n 0, 1) := by decide +kernel
theorem dX11_takes_18 : decode cX11_takes 18 = .ok (.getfield 129, 3) := by decide +kernel
theorem dX11_takes_21 : decode cX11_takes 21 = .ok (.i2l, 1) := by decide +kernel
theorem dX11_takes_22 : decode cX11_takes 22 = .ok (.iload_n 1, 1) := by decide +kernel
theorem dX11_takes_23 : decode cX11_takes 23 = .ok (.i2l, 1) := by decide +kernel
theorem dX11_takes_24 : decode cX11_takes 24 = .ok (.iload_n 2, 1) := by decide +kernel
theorem dX11_takes_25 : decode cX11_takes 25 = .ok (.i2l, 1) := by decide +kernel
theorem dX11_takes_26 : decode cX11_takes 26 = .ok (.invokestatic 150, 3) := by decide +kernel
theorem dX11_takes_29 : decode cX11_takes 29 = .ok (.ifCond .ne 8, 3) := by decide +kernel
theorem dX11_takes_32 : decode cX11_takes 32 = .ok (.aload_n 0, 1) := by decide +kernel
theorem dX11_takes_33 : decode cX11_takes 33 = .ok (.iconst 3, 1) := by decide +kernel
theorem dX11_takes_34 : decode cX11_takes 34 = .ok (.invokevirtual 146, 3) := by decide +kernel
theorem dX11_takes_37 : decode cX11_takes 37 = .ok (.aload_n 0, 1) := by decide +kernel
theorem dX11_takes_38 : decode cX11_takes 38 = .ok (.getfield 129, 3) := by decide +kernel
theorem dX11_takes_41 : decode cX11_takes 41 = .ok (.istore_n 3, 1) := by decide +kernel
theorem dX11_takes_42 : decode cX11_takes 42 = .ok (.aload_n 0, 1) := by decide +kernel
theorem dX11_takes_43 : decode cX11_takes 43 = .ok (.getfield 134, 3) := by decide +kernel
theorem dX11_takes_46 : decode cX11_takes 46 = .ok (.ifCond .ne 7, 3) := by decide +kernel
theorem dX11_takes_49 : decode cX11_takes 49 = .ok (.aload_n 0, 1) := by decide +kernel
theorem dX11_takes_50 : decode cX11_takes 50 = .ok (.invokevirtual 143, 3) := by decide +kernel
theorem dX11_takes_53 : decode cX11_takes 53 = .ok (.iload_n 3, 1) := by decide +kernel
theorem dX11_takes_54 : decode cX11_takes 54 = .ok (.ireturn, 1) := by decide +kernel
theorem dX11_isIn_0 : decode cX11_isIn 0 = .ok (.lload_n 0, 1) := by decide +kernel
theorem dX11_isIn_1 : decode cX11_isIn 1 = .ok (.iload_n 2, 1) := by decide +kernel
theorem dX11_isIn_2 : decode cX11_isIn 2 = .ok (.lshr, 1) := by decide +kernel
theorem dX11_isIn_3 : decode cX11_isIn 3 = .ok (.lconst 1, 1) := by decide +kernel
theorem dX11_isIn_4 : decode cX11_isIn 4 = .ok (.land, 1) := by decide +kernel
theorem dX11_isIn_5 : decode cX11_isIn 5 = .ok (.lconst 1, 1) := by decide +kernel
theorem dX11_isIn_6 : decode cX11_isIn 6 = .ok (.lcmp, 1) := by decide +kernel
theorem dX11_isIn_7 : decode cX11_isIn 7 = .ok (.ifCond .ne 7, 3) := by decide +kernel
theorem dX11_isIn_10 : decode cX11_isIn 10 = .ok (.iconst 1, 1) := by decide +kernel
theorem dX11_isIn_11 : decode cX11_isIn 11 = .ok (.goto 4, 3) := by decide +kernel
theorem dX11_isIn_14 : decode cX11_isIn 14 = .ok (.iconst 0, 1) := by decide +kernel
theorem dX11_isIn_15 : decode cX11_isIn 15 = .ok (.ireturn, 1) := by decide +kernel
theorem dX11_wordOf_0 : decode cX11_wordOf 0 = .ok (.iload_n 1, 1) := by decide +kernel
theorem dX11_wordOf_1 : decode cX11_wordOf 1 = .ok (.tableswitch 95 2 15 #[71, 73, 75, 95, 95, 95, 95, 95, 95, 81, 95, 95, 77, 79], 71) := by decide +kernel
theorem dX11_wordOf_72 : decode cX11_wordOf 72 = .ok (.iconst 0, 1) := by decide +kernel
theorem dX11_wordOf_73 : decode cX11_wordOf 73 = .ok (.ireturn, 1) := by decide +kernel
theorem dX11_wordOf_74 : decode cX11_wordOf 74 = .ok (.iconst 1, 1) := by decide +kernel
theorem dX11_wordOf_75 : decode cX11_wordOf 75 = .ok (.ireturn, 1) := by decide +kernel
theorem dX11_wordOf_76 : decode cX11_wordOf 76 = .ok (.iconst 2, 1) := by decide +kernel
theorem dX11_wordOf_77 : decode cX11_wordOf 77 = .ok (.ireturn, 1) := by decide +kernel
theorem dX11_wordOf_78 : decode cX11_wordOf 78 = .ok (.iconst 3, 1) := by decide +kernel
theorem dX11_wordOf_79 : decode cX11_wordOf 79 = .ok (.ireturn, 1) := by decide +kernel
theorem dX11_wordOf_80 : decode cX11_wordOf 80 = .ok (.iconst 4, 1) := by decide +kernel
theorem dX11_wordOf_81 : decode cX11_wordOf 81 = .ok (.ireturn, 1) := by decide +kernel
theorem dX11_wordOf_82 : decode cX11_wordOf 82 = .ok (.aload_n 0, 1) := by decide +kernel
theorem dX11_wordOf_83 : decode cX11_wordOf 83 = .ok (.getfield 154, 3) := by decide +kernel
theorem dX11_wordOf_86 : decode cX11_wordOf 86 = .ok (.iconst 1, 1) := by decide +kernel
theorem dX11_wordOf_87 : decode cX11_wordOf 87 = .ok (.if_icmp .ne 7, 3) := by decide +kernel
theorem dX11_wordOf_90 : decode cX11_wordOf 90 = .ok (.iconst 5, 1) := by decide +kernel
theorem dX11_wordOf_91 : decode cX11_wordOf 91 = .ok (.goto 4, 3) := by decide +kernel
theorem dX11_wordOf_94 : decode cX11_wordOf 94 = .ok (.iconst (-1), 1) := by decide +kernel
theorem dX11_wordOf_95 : decode cX11_wordOf 95 = .ok (.ireturn, 1) := by decide +kernel
theorem dX11_wordOf_96 : decode cX11_wordOf 96 = .ok (.iconst (-1), 1) := by decide +kernel
theorem dX11_wordOf_97 : decode cX11_wordOf 97 = .ok (.ireturn, 1) := by decide +kernel
theorem dX11_codes_0 : decode cX11_codes 0 = .ok (.aload_n 0, 1) := by decide +kernel
theorem dX11_codes_1 : decode cX11_codes 1 = .ok (.getfield 134, 3) := by decide +kernel
theorem dX11_codes_4 : decode cX11_codes 4 = .ok (.ifCond .eq 4, 3) := by decide +kernel
theorem dX11_codes_7 : decode cX11_codes 7 = .ok (.return_, 1) := by decide +kernel
theorem dX11_codes_8 : decode cX11_codes 8 = .ok (.aload_n 0, 1) := by decide +kernel
theorem dX11_codes_9 : decode cX11_codes 9 = .ok (.getfield 24, 3) := by decide +kernel
theorem dX11_codes_12 : decode cX11_codes 12 = .ok (.sipush 175, 3) := by decide +kernel
theorem dX11_codes_15 : decode cX11_codes 15 = .ok (.aload_n 0, 1) := by decide +kernel
theorem dX11_codes_16 : decode cX11_codes 16 = .ok (.getfield 24, 3) := by decide +kernel
theorem dX11_codes_19 : decode cX11_codes 19 = .ok (.sipush 174, 3) := by decide +kernel
theorem dX11_codes_22 : decode cX11_codes 22 = .ok (.iaload, 1) := by decide +kernel
theorem dX11_codes_23 : decode cX11_codes 23 = .ok (.iadd, 1) := by decide +kernel
theorem dX11_codes_24 : decode cX11_codes 24 = .ok (.iload_n 1, 1) := by decide +kernel
theorem dX11_codes_25 : decode cX11_codes 25 = .ok (.iastore, 1) := by decide +kernel
theorem dX11_codes_26 : decode cX11_codes 26 = .ok (.aload_n 0, 1) := by decide +kernel
theorem dX11_codes_27 : decode cX11_codes 27 = .ok (.getfield 24, 3) := by decide +kernel
theorem dX11_codes_30 : decode cX11_codes 30 = .ok (.sipush 174, 3) := by decide +kernel
theorem dX11_codes_33 : decode cX11_codes 33 = .ok (.dup2, 1) := by decide +kernel
theorem dX11_codes_34 : decode cX11_codes 34 = .ok (.iaload, 1) := by decide +kernel
theorem dX11_codes_35 : decode cX11_codes 35 = .ok (.iconst 1, 1) := by decide +kernel
theorem dX11_codes_36 : decode cX11_codes 36 = .ok (.iadd, 1) := by decide +kernel
theorem dX11_codes_37 : decode cX11_codes 37 = .ok (.iastore, 1) := by decide +kernel
theorem dX11_codes_38 : decode cX11_codes 38 = .ok (.return_, 1) := by decide +kernel
theorem dX11_goesIn_0 : decode cX11_goesIn 0 = .ok (.iload_n 1, 1) := by decide +kernel
theorem dX11_goesIn_1 : decode cX11_goesIn 1 = .ok (.bipush 6, 2) := by decide +kernel
theorem dX11_goesIn_3 : decode cX11_goesIn 3 = .ok (.if_icmp .ne 8, 3) := by decide +kernel
theorem dX11_goesIn_6 : decode cX11_goesIn 6 = .ok (.aload_n 0, 1) := by decide +kernel
theorem dX11_goesIn_7 : decode cX11_goesIn 7 = .ok (.iconst 4, 1) := by decide +kernel
theorem dX11_goesIn_8 : decode cX11_goesIn 8 = .ok (.invokevirtual 146, 3) := by decide +kernel
theorem dX11_goesIn_11 : decode cX11_goesIn 11 = .ok (.aload_n 0, 1) := by decide +kernel
theorem dX11_goesIn_12 : decode cX11_goesIn 12 = .ok (.getfield 134, 3) := by decide +kernel
theorem dX11_goesIn_15 : decode cX11_goesIn 15 = .ok (.ifCond .ne 7, 3) := by decide +kernel
theorem dX11_goesIn_18 : decode cX11_goesIn 18 = .ok (.aload_n 0, 1) := by decide +kernel
theorem dX11_goesIn_19 : decode cX11_goesIn 19 = .ok (.invokevirtual 143, 3) := by decide +kernel
theorem dX11_goesIn_22 : decode cX11_goesIn 22 = .ok (.aload_n 0, 1) := by decide +kernel
theorem dX11_goesIn_23 : decode cX11_goesIn 23 = .ok (.getfield 134, 3) := by decide +kernel
theorem dX11_goesIn_26 : decode cX11_goesIn 26 = .ok (.ifCond .ne 7, 3) := by decide +kernel
theorem dX11_goesIn_29 : decode cX11_goesIn 29 = .ok (.iconst 1, 1) := by decide +kernel
theorem dX11_goesIn_30 : decode cX11_goesIn 30 = .ok (.goto 4, 3) := by decide +kernel
theorem dX11_goesIn_33 : decode cX11_goesIn 33 = .ok (.iconst 0, 1) := by decide +kernel
theorem dX11_goesIn_34 : decode cX11_goesIn 34 = .ok (.ireturn, 1) := by decide +kernel
theorem dX11_readAtom_0 : decode cX11_readAtom 0 = .ok (.aload_n 0, 1) := by decide +kernel
theorem dX11_readAtom_1 : decode cX11_readAtom 1 = .ok (.bipush 23, 2) := by decide +kernel
theorem dX11_readAtom_3 : decode cX11_readAtom 3 = .ok (.invokevirtual 140, 3) := by decide +kernel
theorem dX11_readAtom_6 : decode cX11_readAtom 6 = .ok (.ifCond .eq 18, 3) := by decide +kernel
theorem dX11_readAtom_9 : decode cX11_readAtom 9 = .ok (.aload_n 0, 1) := by decide +kernel
theorem dX11_readAtom_10 : decode cX11_readAtom 10 = .ok (.aload_n 0, 1) := by decide +kernel
theorem dX11_readAtom_11 : decode cX11_readAtom 11 = .ok (.getfield 129, 3) := by decide +kernel
theorem dX11_readAtom_14 : decode cX11_readAtom 14 = .ok (.invokevirtual 157, 3) := by decide +kernel
theorem dX11_readAtom_17 : decode cX11_readAtom 17 = .ok (.aload_n 0, 1) := by decide +kernel
theorem dX11_readAtom_18 : decode cX11_readAtom 18 = .ok (.invokevirtual 143, 3) := by decide +kernel
theorem dX11_readAtom_21 : decode cX11_readAtom 21 = .ok (.goto 92, 3) := by decide +kernel
theorem dX11_readAtom_24 : decode cX11_readAtom 24 = .ok (.aload_n 0, 1) := by decide +kernel
theorem dX11_readAtom_25 : decode cX11_readAtom 25 = .ok (.getfield 134, 3) := by decide +kernel
theorem dX11_readAtom_28 : decode cX11_readAtom 28 = .ok (.ifCond .ne 38, 3) := by decide +kernel
theorem dX11_readAtom_31 : decode cX11_readAtom 31 = .ok (.aload_n 0, 1) := by decide +kernel
theorem dX11_readAtom_32 : decode cX11_readAtom 32 = .ok (.aload_n 0, 1) := by decide +kernel
theorem dX11_readAtom_33 : decode cX11_readAtom 33 = .ok (.getfield 116, 3) := by decide +kernel
theorem dX11_readAtom_36 : decode cX11_readAtom 36 = .ok (.invokevirtual 160, 3) := by decide +kernel
theorem dX11_readAtom_39 : decode cX11_readAtom 39 = .ok (.iconst (-1), 1) := by decide +kernel
theorem dX11_readAtom_40 : decode cX11_readAtom 40 = .ok (.if_icmp .eq 26, 3) := by decide +kernel
theorem dX11_readAtom_43 : decode cX11_readAtom 43 = .ok (.aload_n 0, 1) := by decide +kernel
theorem dX11_readAtom_44 : decode cX11_readAtom 44 = .ok (.sipush 1000, 3) := by decide +kernel
theorem dX11_readAtom_47 : decode cX11_readAtom 47 = .ok (.aload_n 0, 1) := by decide +kernel
theorem dX11_readAtom_48 : decode cX11_readAtom 48 = .ok (.aload_n 0, 1) := by decide +kernel
theorem dX11_readAtom_49 : decode cX11_readAtom 49 = .ok (.getfield 116, 3) := by decide +kernel
theorem dX11_readAtom_52 : decode cX11_readAtom 52 = .ok (.invokevirtual 160, 3) := by decide +kernel
theorem dX11_readAtom_55 : decode cX11_readAtom 55 = .ok (.iadd, 1) := by decide +kernel
theorem dX11_readAtom_56 : decode cX11_readAtom 56 = .ok (.invokevirtual 157, 3) := by decide +kernel
theorem dX11_readAtom_59 : decode cX11_readAtom 59 = .ok (.aload_n 0, 1) := by decide +kernel
theorem dX11_readAtom_60 : decode cX11_readAtom 60 = .ok (.invokevirtual 143, 3) := by decide +kernel
theorem dX11_readAtom_63 : decode cX11_readAtom 63 = .ok (.goto 50, 3) := by decide +kernel
theorem dX11_readAtom_66 : decode cX11_readAtom 66 = .ok (.aload_n 0, 1) := by decide +kernel
theorem dX11_readAtom_67 : decode cX11_readAtom 67 = .ok (.bipush 35, 2) := by decide +kernel
theorem dX11_readAtom_69 : decode cX11_readAtom 69 = .ok (.invokevirtual 140, 3) := by decide +kernel
theorem dX11_readAtom_72 : decode cX11_readAtom 72 = .ok (.ifCond .eq 36, 3) := by decide +kernel
theorem dX11_readAtom_75 : decode cX11_readAtom 75 = .ok (.aload_n 0, 1) := by decide +kernel
theorem dX11_readAtom_76 : decode cX11_readAtom 76 = .ok (.iload_n 1, 1) := by decide +kernel
theorem dX11_readAtom_77 : decode cX11_readAtom 77 = .ok (.invokevirtual 163, 3) := by decide +kernel
theorem dX11_readAtom_80 : decode cX11_readAtom 80 = .ok (.ifCond .ne 4, 3) := by decide +kernel
theorem dX11_readAtom_83 : decode cX11_readAtom 83 = .ok (.return_, 1) := by decide +kernel
theorem dX11_readAtom_84 : decode cX11_readAtom 84 = .ok (.aload_n 0, 1) := by decide +kernel
theorem dX11_readAtom_85 : decode cX11_readAtom 85 = .ok (.iload_n 1, 1) := by decide +kernel
theorem dX11_readAtom_86 : decode cX11_readAtom 86 = .ok (.iconst 1, 1) := by decide +kernel
theorem dX11_readAtom_87 : decode cX11_readAtom 87 = .ok (.iadd, 1) := by decide +kernel
theorem dX11_readAtom_88 : decode cX11_readAtom 88 = .ok (.invokevirtual 166, 3) := by decide +kernel
theorem dX11_readAtom_91 : decode cX11_readAtom 91 = .ok (.aload_n 0, 1) := by decide +kernel
theorem dX11_readAtom_92 : decode cX11_readAtom 92 = .ok (.bipush 36, 2) := by decide +kernel
theorem dX11_readAtom_94 : decode cX11_readAtom 94 = .ok (.invokevirtual 169, 3) := by decide +kernel
theorem dX11_readAtom_97 : decode cX11_readAtom 97 = .ok (.ifCond .ne 16, 3) := by decide +kernel
theorem dX11_readAtom_100 : decode cX11_readAtom 100 = .ok (.aload_n 0, 1) := by decide +kernel
theorem dX11_readAtom_101 : decode cX11_readAtom 101 = .ok (.iconst 2, 1) := by decide +kernel
theorem dX11_readAtom_102 : decode cX11_readAtom 102 = .ok (.invokevirtual 146, 3) := by decide +kernel
theorem dX11_readAtom_105 : decode cX11_readAtom 105 = .ok (.goto 8, 3) := by decide +kernel
theorem dX11_readAtom_108 : decode cX11_readAtom 108 = .ok (.aload_n 0, 1) := by decide +kernel
theorem dX11_readAtom_109 : decode cX11_readAtom 109 = .ok (.iconst 2, 1) := by decide +kernel
theorem dX11_readAtom_110 : decode cX11_readAtom 110 = .ok (.invokevirtual 146, 3) := by decide +kernel
theorem dX11_readAtom_113 : decode cX11_readAtom 113 = .ok (.return_, 1) := by decide +kernel
theorem dX11_readTerm_0 : decode cX11_readTerm 0 = .ok (.aload_n 0, 1) := by decide +kernel
theorem dX11_readTerm_1 : decode cX11_readTerm 1 = .ok (.iload_n 1, 1) := by decide +kernel
theorem dX11_readTerm_2 : decode cX11_readTerm 2 = .ok (.invokevirtual 172, 3) := by decide +kernel
theorem dX11_readTerm_5 : decode cX11_readTerm 5 = .ok (.aload_n 0, 1) := by decide +kernel
theorem dX11_readTerm_6 : decode cX11_readTerm 6 = .ok (.bipush 34, 2) := by decide +kernel
theorem dX11_readTerm_8 : decode cX11_readTerm 8 = .ok (.invokevirtual 169, 3) := by decide +kernel
theorem dX11_readTerm_11 : decode cX11_readTerm 11 = .ok (.ifCond .eq 18, 3) := by decide +kernel
theorem dX11_readTerm_14 : decode cX11_readTerm 14 = .ok (.aload_n 0, 1) := by decide +kernel
theorem dX11_readTerm_15 : decode cX11_readTerm 15 = .ok (.iload_n 1, 1) := by decide +kernel
theorem dX11_readTerm_16 : decode cX11_readTerm 16 = .ok (.invokevirtual 172, 3) := by decide +kernel
theorem dX11_readTerm_19 : decode cX11_readTerm 19 = .ok (.aload_n 0, 1) := by decide +kernel
theorem dX11_readTerm_20 : decode cX11_readTerm 20 = .ok (.sipush 3002, 3) := by decide +kernel
theorem dX11_readTerm_23 : decode cX11_readTerm 23 = .ok (.invokevirtual 157, 3) := by decide +kernel
theorem dX11_readTerm_26 : decode cX11_readTerm 26 = .ok (.goto (-21), 3) := by decide +kernel
theorem dX11_readTerm_29 : decode cX11_readTerm 29 = .ok (.return_, 1) := by decide +kernel
theorem dX11_readSum_0 : decode cX11_readSum 0 = .ok (.aload_n 0, 1) := by decide +kernel
theorem dX11_readSum_1 : decode cX11_readSum 1 = .ok (.iload_n 1, 1) := by decide +kernel
theorem dX11_readSum_2 : decode cX11_readSum 2 = .ok (.invokevirtual 175, 3) := by decide +kernel
theorem dX11_readSum_5 : decode cX11_readSum 5 = .ok (.aload_n 0, 1) := by decide +kernel
theorem dX11_readSum_6 : decode cX11_readSum 6 = .ok (.bipush 32, 2) := by decide +kernel
theorem dX11_readSum_8 : decode cX11_readSum 8 = .ok (.invokevirtual 140, 3) := by decide +kernel
theorem dX11_readSum_11 : decode cX11_readSum 11 = .ok (.ifCond .ne 12, 3) := by decide +kernel
theorem dX11_readSum_14 : decode cX11_readSum 14 = .ok (.aload_n 0, 1) := by decide +kernel
theorem dX11_readSum_15 : decode cX11_readSum 15 = .ok (.bipush 33, 2) := by decide +kernel
theorem dX11_readSum_17 : decode cX11_readSum 17 = .ok (.invokevirtual 140, 3) := by decide +kernel
theorem dX11_readSum_20 : decode cX11_readSum 20 = .ok (.ifCond .eq 39, 3) := by decide +kernel
theorem dX11_readSum_23 : decode cX11_readSum 23 = .ok (.aload_n 0, 1) := by decide +kernel
theorem dX11_readSum_24 : decode cX11_readSum 24 = .ok (.getfield 116, 3) := by decide +kernel
theorem dX11_readSum_27 : decode cX11_readSum 27 = .ok (.bipush 32, 2) := by decide +kernel
theorem dX11_readSum_29 : decode cX11_readSum 29 = .ok (.if_icmp .ne 9, 3) := by decide +kernel
theorem dX11_readSum_32 : decode cX11_readSum 32 = .ok (.sipush 3000, 3) := by decide +kernel
theorem dX11_readSum_35 : decode cX11_readSum 35 = .ok (.goto 6, 3) := by decide +kernel
theorem dX11_readSum_38 : decode cX11_readSum 38 = .ok (.sipush 3001, 3) := by decide +kernel
theorem dX11_readSum_41 : decode cX11_readSum 41 = .ok (.istore_n 2, 1) := by decide +kernel
theorem dX11_readSum_42 : decode cX11_readSum 42 = .ok (.aload_n 0, 1) := by decide +kernel
theorem dX11_readSum_43 : decode cX11_readSum 43 = .ok (.invokevirtual 143, 3) := by decide +kernel
theorem dX11_readSum_46 : decode cX11_readSum 46 = .ok (.aload_n 0, 1) := by decide +kernel
theorem dX11_readSum_47 : decode cX11_readSum 47 = .ok (.iload_n 1, 1) := by decide +kernel
theorem dX11_readSum_48 : decode cX11_readSum 48 = .ok (.invokevirtual 175, 3) := by decide +kernel
theorem dX11_readSum_51 : decode cX11_readSum 51 = .ok (.aload_n 0, 1) := by decide +kernel
theorem dX11_readSum_52 : decode cX11_readSum 52 = .ok (.iload_n 2, 1) := by decide +kernel
theorem dX11_readSum_53 : decode cX11_readSum 53 = .ok (.invokevirtual 157, 3) := by decide +kernel
theorem dX11_readSum_56 : decode cX11_readSum 56 = .ok (.goto (-51), 3) := by decide +kernel
theorem dX11_readSum_59 : decode cX11_readSum 59 = .ok (.return_, 1) := by decide +kernel
theorem dX11_readUnit_0 : decode cX11_readUnit 0 = .ok (.aload_n 0, 1) := by decide +kernel
theorem dX11_readUnit_1 : decode cX11_readUnit 1 = .ok (.bipush 18, 2) := by decide +kernel
theorem dX11_readUnit_3 : decode cX11_readUnit 3 = .ok (.invokevirtual 140, 3) := by decide +kernel
theorem dX11_readUnit_6 : decode cX11_readUnit 6 = .ok (.ifCond .eq 27, 3) := by decide +kernel
theorem dX11_readUnit_9 : decode cX11_readUnit 9 = .ok (.aload_n 0, 1) := by decide +kernel
theorem dX11_readUnit_10 : decode cX11_readUnit 10 = .ok (.iload_n 1, 1) := by decide +kernel
theorem dX11_readUnit_11 : decode cX11_readUnit 11 = .ok (.invokevirtual 163, 3) := by decide +kernel
theorem dX11_readUnit_14 : decode cX11_readUnit 14 = .ok (.ifCond .ne 4, 3) := by decide +kernel
theorem dX11_readUnit_17 : decode cX11_readUnit 17 = .ok (.return_, 1) := by decide +kernel
theorem dX11_readUnit_18 : decode cX11_readUnit 18 = .ok (.aload_n 0, 1) := by decide +kernel
theorem dX11_readUnit_19 : decode cX11_readUnit 19 = .ok (.iload_n 1, 1) := by decide +kernel
theorem dX11_readUnit_20 : decode cX11_readUnit 20 = .ok (.iconst 1, 1) := by decide +kernel
theorem dX11_readUnit_21 : decode cX11_readUnit 21 = .ok (.iadd, 1) := by decide +kernel
theorem dX11_readUnit_22 : decode cX11_readUnit 22 = .ok (.invokevirtual 178, 3) := by decide +kernel
theorem dX11_readUnit_25 : decode cX11_readUnit 25 = .ok (.aload_n 0, 1) := by decide +kernel
theorem dX11_readUnit_26 : decode cX11_readUnit 26 = .ok (.sipush 3006, 3) := by decide +kernel
theorem dX11_readUnit_29 : decode cX11_readUnit 29 = .ok (.invokevirtual 157, 3) := by decide +kernel
theorem dX11_readUnit_32 : decode cX11_readUnit 32 = .ok (.return_, 1) := by decide +kernel
theorem dX11_readUnit_33 : decode cX11_readUnit 33 = .ok (.aload_n 0, 1) := by decide +kernel
theorem dX11_readUnit_34 : decode cX11_readUnit 34 = .ok (.bipush 37, 2) := by decide +kernel
theorem dX11_readUnit_36 : decode cX11_readUnit 36 = .ok (.invokevirtual 140, 3) := by decide +kernel
theorem dX11_readUnit_39 : decode cX11_readUnit 39 = .ok (.ifCond .eq 34, 3) := by decide +kernel
theorem dX11_readUnit_42 : decode cX11_readUnit 42 = .ok (.aload_n 0, 1) := by decide +kernel
theorem dX11_readUnit_43 : decode cX11_readUnit 43 = .ok (.iload_n 1, 1) := by decide +kernel
theorem dX11_readUnit_44 : decode cX11_readUnit 44 = .ok (.invokevirtual 163, 3) := by decide +kernel
theorem dX11_readUnit_47 : decode cX11_readUnit 47 = .ok (.ifCond .ne 4, 3) := by decide +kernel
theorem dX11_readUnit_50 : decode cX11_readUnit 50 = .ok (.return_, 1) := by decide +kernel
theorem dX11_readUnit_51 : decode cX11_readUnit 51 = .ok (.aload_n 0, 1) := by decide +kernel
theorem dX11_readUnit_52 : decode cX11_readUnit 52 = .ok (.iload_n 1, 1) := by decide +kernel
theorem dX11_readUnit_53 : decode cX11_readUnit 53 = .ok (.iconst 1, 1) := by decide +kernel
theorem dX11_readUnit_54 : decode cX11_readUnit 54 = .ok (.iadd, 1) := by decide +kernel
theorem dX11_readUnit_55 : decode cX11_readUnit 55 = .ok (.invokevirtual 181, 3) := by decide +kernel
theorem dX11_readUnit_58 : decode cX11_readUnit 58 = .ok (.aload_n 0, 1) := by decide +kernel
theorem dX11_readUnit_59 : decode cX11_readUnit 59 = .ok (.bipush 38, 2) := by decide +kernel
theorem dX11_readUnit_61 : decode cX11_readUnit 61 = .ok (.invokevirtual 169, 3) := by decide +kernel
theorem dX11_readUnit_64 : decode cX11_readUnit 64 = .ok (.ifCond .ne 8, 3) := by decide +kernel
theorem dX11_readUnit_67 : decode cX11_readUnit 67 = .ok (.aload_n 0, 1) := by decide +kernel
theorem dX11_readUnit_68 : decode cX11_readUnit 68 = .ok (.iconst 2, 1) := by decide +kernel
theorem dX11_readUnit_69 : decode cX11_readUnit 69 = .ok (.invokevirtual 146, 3) := by decide +kernel
theorem dX11_readUnit_72 : decode cX11_readUnit 72 = .ok (.return_, 1) := by decide +kernel
theorem dX11_readUnit_73 : decode cX11_readUnit 73 = .ok (.aload_n 0, 1) := by decide +kernel
theorem dX11_readUnit_74 : decode cX11_readUnit 74 = .ok (.iload_n 1, 1) := by decide +kernel
theorem dX11_readUnit_75 : decode cX11_readUnit 75 = .ok (.invokevirtual 166, 3) := by decide +kernel
theorem dX11_readUnit_78 : decode cX11_readUnit 78 = .ok (.aload_n 0, 1) := by decide +kernel
theorem dX11_readUnit_79 : decode cX11_readUnit 79 = .ok (.bipush 39, 2) := by decide +kernel
theorem dX11_readUnit_81 : decode cX11_readUnit 81 = .ok (.invokevirtual 140, 3) := by decide +kernel
theorem dX11_readUnit_84 : decode cX11_readUnit 84 = .ok (.ifCond .eq 9, 3) := by decide +kernel
theorem dX11_readUnit_87 : decode cX11_readUnit 87 = .ok (.sipush 3003, 3) := by decide +kernel
theorem dX11_readUnit_90 : decode cX11_readUnit 90 = .ok (.goto 21, 3) := by decide +kernel
theorem dX11_readUnit_93 : decode cX11_readUnit 93 = .ok (.aload_n 0, 1) := by decide +kernel
theorem dX11_readUnit_94 : decode cX11_readUnit 94 = .ok (.bipush 40, 2) := by decide +kernel
theorem dX11_readUnit_96 : decode cX11_readUnit 96 = .ok (.invokevirtual 140, 3) := by decide +kernel
theorem dX11_readUnit_99 : decode cX11_readUnit 99 = .ok (.ifCond .eq 9, 3) := by decide +kernel
theorem dX11_readUnit_102 : decode cX11_readUnit 102 = .ok (.sipush 3004, 3) := by decide +kernel
theorem dX11_readUnit_105 : decode cX11_readUnit 105 = .ok (.goto 6, 3) := by decide +kernel
theorem dX11_readUnit_108 : decode cX11_readUnit 108 = .ok (.sipush 3005, 3) := by decide +kernel
theorem dX11_readUnit_111 : decode cX11_readUnit 111 = .ok (.istore_n 2, 1) := by decide +kernel
theorem dX11_readUnit_112 : decode cX11_readUnit 112 = .ok (.aload_n 0, 1) := by decide +kernel
theorem dX11_readUnit_113 : decode cX11_readUnit 113 = .ok (.bipush 39, 2) := by decide +kernel
theorem dX11_readUnit_115 : decode cX11_readUnit 115 = .ok (.invokevirtual 140, 3) := by decide +kernel
theorem dX11_readUnit_118 : decode cX11_readUnit 118 = .ok (.ifCond .ne 21, 3) := by decide +kernel
theorem dX11_readUnit_121 : decode cX11_readUnit 121 = .ok (.aload_n 0, 1) := by decide +kernel
theorem dX11_readUnit_122 : decode cX11_readUnit 122 = .ok (.bipush 40, 2) := by decide +kernel
theorem dX11_readUnit_124 : decode cX11_readUnit 124 = .ok (.invokevirtual 140, 3) := by decide +kernel
theorem dX11_readUnit_127 : decode cX11_readUnit 127 = .ok (.ifCond .ne 12, 3) := by decide +kernel
theorem dX11_readUnit_130 : decode cX11_readUnit 130 = .ok (.aload_n 0, 1) := by decide +kernel
theorem dX11_readUnit_131 : decode cX11_readUnit 131 = .ok (.bipush 41, 2) := by decide +kernel
theorem dX11_readUnit_133 : decode cX11_readUnit 133 = .ok (.invokevirtual 140, 3) := by decide +kernel
theorem dX11_readUnit_136 : decode cX11_readUnit 136 = .ok (.ifCond .eq 10, 3) := by decide +kernel
theorem dX11_readUnit_139 : decode cX11_readUnit 139 = .ok (.aload_n 0, 1) := by decide +kernel
theorem dX11_readUnit_140 : decode cX11_readUnit 140 = .ok (.invokevirtual 143, 3) := by decide +kernel
theorem dX11_readUnit_143 : decode cX11_readUnit 143 = .ok (.goto 8, 3) := by decide +kernel
theorem dX11_readUnit_146 : decode cX11_readUnit 146 = .ok (.aload_n 0, 1) := by decide +kernel
theorem dX11_readUnit_147 : decode cX11_readUnit 147 = .ok (.iconst 2, 1) := by decide +kernel
theorem dX11_readUnit_148 : decode cX11_readUnit 148 = .ok (.invokevirtual 146, 3) := by decide +kernel
theorem dX11_readUnit_151 : decode cX11_readUnit 151 = .ok (.aload_n 0, 1) := by decide +kernel
theorem dX11_readUnit_152 : decode cX11_readUnit 152 = .ok (.iload_n 1, 1) := by decide +kernel
theorem dX11_readUnit_153 : decode cX11_readUnit 153 = .ok (.invokevirtual 166, 3) := by decide +kernel
theorem dX11_readUnit_156 : decode cX11_readUnit 156 = .ok (.aload_n 0, 1) := by decide +kernel
theorem dX11_readUnit_157 : decode cX11_readUnit 157 = .ok (.iload_n 2, 1) := by decide +kernel
theorem dX11_readUnit_158 : decode cX11_readUnit 158 = .ok (.invokevirtual 157, 3) := by decide +kernel
theorem dX11_readUnit_161 : decode cX11_readUnit 161 = .ok (.return_, 1) := by decide +kernel
theorem dX11_readBoth_0 : decode cX11_readBoth 0 = .ok (.aload_n 0, 1) := by decide +kernel
theorem dX11_readBoth_1 : decode cX11_readBoth 1 = .ok (.iload_n 1, 1) := by decide +kernel
theorem dX11_readBoth_2 : decode cX11_readBoth 2 = .ok (.invokevirtual 178, 3) := by decide +kernel
theorem dX11_readBoth_5 : decode cX11_readBoth 5 = .ok (.aload_n 0, 1) := by decide +kernel
theorem dX11_readBoth_6 : decode cX11_readBoth 6 = .ok (.bipush 16, 2) := by decide +kernel
theorem dX11_readBoth_8 : decode cX11_readBoth 8 = .ok (.invokevirtual 169, 3) := by decide +kernel
theorem dX11_readBoth_11 : decode cX11_readBoth 11 = .ok (.ifCond .eq 18, 3) := by decide +kernel
theorem dX11_readBoth_14 : decode cX11_readBoth 14 = .ok (.aload_n 0, 1) := by decide +kernel
theorem dX11_readBoth_15 : decode cX11_readBoth 15 = .ok (.iload_n 1, 1) := by decide +kernel
theorem dX11_readBoth_16 : decode cX11_readBoth 16 = .ok (.invokevirtual 178, 3) := by decide +kernel
theorem dX11_readBoth_19 : decode cX11_readBoth 19 = .ok (.aload_n 0, 1) := by decide +kernel
theorem dX11_readBoth_20 : decode cX11_readBoth 20 = .ok (.sipush 3007, 3) := by decide +kernel
theorem dX11_readBoth_23 : decode cX11_readBoth 23 = .ok (.invokevirtual 157, 3) := by decide +kernel
theorem dX11_readBoth_26 : decode cX11_readBoth 26 = .ok (.goto (-21), 3) := by decide +kernel
theorem dX11_readBoth_29 : decode cX11_readBoth 29 = .ok (.return_, 1) := by decide +kernel
theorem dX11_readTruth_0 : decode cX11_readTruth 0 = .ok (.aload_n 0, 1) := by decide +kernel
theorem dX11_readTruth_1 : decode cX11_readTruth 1 = .ok (.iload_n 1, 1) := by decide +kernel
theorem dX11_readTruth_2 : decode cX11_readTruth 2 = .ok (.invokevirtual 184, 3) := by decide +kernel
theorem dX11_readTruth_5 : decode cX11_readTruth 5 = .ok (.aload_n 0, 1) := by decide +kernel
theorem dX11_readTruth_6 : decode cX11_readTruth 6 = .ok (.bipush 17, 2) := by decide +kernel
theorem dX11_readTruth_8 : decode cX11_readTruth 8 = .ok (.invokevirtual 169, 3) := by decide +kernel
theorem dX11_readTruth_11 : decode cX11_readTruth 11 = .ok (.ifCond .eq 18, 3) := by decide +kernel
theorem dX11_readTruth_14 : decode cX11_readTruth 14 = .ok (.aload_n 0, 1) := by decide +kernel
theorem dX11_readTruth_15 : decode cX11_readTruth 15 = .ok (.iload_n 1, 1) := by decide +kernel
theorem dX11_readTruth_16 : decode cX11_readTruth 16 = .ok (.invokevirtual 184, 3) := by decide +kernel
theorem dX11_readTruth_19 : decode cX11_readTruth 19 = .ok (.aload_n 0, 1) := by decide +kernel
theorem dX11_readTruth_20 : decode cX11_readTruth 20 = .ok (.sipush 3008, 3) := by decide +kernel
theorem dX11_readTruth_23 : decode cX11_readTruth 23 = .ok (.invokevirtual 157, 3) := by decide +kernel
theorem dX11_readTruth_26 : decode cX11_readTruth 26 = .ok (.goto (-21), 3) := by decide +kernel
theorem dX11_readTruth_29 : decode cX11_readTruth 29 = .ok (.return_, 1) := by decide +kernel
theorem dX11_readFlag_0 : decode cX11_readFlag 0 = .ok (.aload_n 0, 1) := by decide +kernel
theorem dX11_readFlag_1 : decode cX11_readFlag 1 = .ok (.iconst 4, 1) := by decide +kernel
theorem dX11_readFlag_2 : decode cX11_readFlag 2 = .ok (.invokevirtual 169, 3) := by decide +kernel
theorem dX11_readFlag_5 : decode cX11_readFlag 5 = .ok (.ifCond .eq 22, 3) := by decide +kernel
theorem dX11_readFlag_8 : decode cX11_readFlag 8 = .ok (.aload_n 0, 1) := by decide +kernel
theorem dX11_readFlag_9 : decode cX11_readFlag 9 = .ok (.getfield 24, 3) := by decide +kernel
theorem dX11_readFlag_12 : decode cX11_readFlag 12 = .ok (.bipush 18, 2) := by decide +kernel
theorem dX11_readFlag_14 : decode cX11_readFlag 14 = .ok (.iload_n 1, 1) := by decide +kernel
theorem dX11_readFlag_15 : decode cX11_readFlag 15 = .ok (.iadd, 1) := by decide +kernel
theorem dX11_readFlag_16 : decode cX11_readFlag 16 = .ok (.aload_n 0, 1) := by decide +kernel
theorem dX11_readFlag_17 : decode cX11_readFlag 17 = .ok (.iconst 0, 1) := by decide +kernel
theorem dX11_readFlag_18 : decode cX11_readFlag 18 = .ok (.bipush 9, 2) := by decide +kernel
theorem dX11_readFlag_20 : decode cX11_readFlag 20 = .ok (.invokevirtual 187, 3) := by decide +kernel
theorem dX11_readFlag_23 : decode cX11_readFlag 23 = .ok (.iastore, 1) := by decide +kernel
theorem dX11_readFlag_24 : decode cX11_readFlag 24 = .ok (.goto 122, 3) := by decide +kernel
theorem dX11_readFlag_27 : decode cX11_readFlag 27 = .ok (.aload_n 0, 1) := by decide +kernel
theorem dX11_readFlag_28 : decode cX11_readFlag 28 = .ok (.iconst 5, 1) := by decide +kernel
theorem dX11_readFlag_29 : decode cX11_readFlag 29 = .ok (.invokevirtual 169, 3) := by decide +kernel
theorem dX11_readFlag_32 : decode cX11_readFlag 32 = .ok (.ifCond .eq 22, 3) := by decide +kernel
theorem dX11_readFlag_35 : decode cX11_readFlag 35 = .ok (.aload_n 0, 1) := by decide +kernel
theorem dX11_readFlag_36 : decode cX11_readFlag 36 = .ok (.getfield 24, 3) := by decide +kernel
theorem dX11_readFlag_39 : decode cX11_readFlag 39 = .ok (.bipush 26, 2) := by decide +kernel
theorem dX11_readFlag_41 : decode cX11_readFlag 41 = .ok (.iload_n 1, 1) := by decide +kernel
theorem dX11_readFlag_42 : decode cX11_readFlag 42 = .ok (.iadd, 1) := by decide +kernel
theorem dX11_readFlag_43 : decode cX11_readFlag 43 = .ok (.aload_n 0, 1) := by decide +kernel
theorem dX11_readFlag_44 : decode cX11_readFlag 44 = .ok (.iconst 0, 1) := by decide +kernel
theorem dX11_readFlag_45 : decode cX11_readFlag 45 = .ok (.bipush 10, 2) := by decide +kernel
theorem dX11_readFlag_47 : decode cX11_readFlag 47 = .ok (.invokevirtual 187, 3) := by decide +kernel
theorem dX11_readFlag_50 : decode cX11_readFlag 50 = .ok (.iastore, 1) := by decide +kernel
theorem dX11_readFlag_51 : decode cX11_readFlag 51 = .ok (.goto 95, 3) := by decide +kernel
theorem dX11_readFlag_54 : decode cX11_readFlag 54 = .ok (.aload_n 0, 1) := by decide +kernel
theorem dX11_readFlag_55 : decode cX11_readFlag 55 = .ok (.bipush 6, 2) := by decide +kernel
theorem dX11_readFlag_57 : decode cX11_readFlag 57 = .ok (.invokevirtual 169, 3) := by decide +kernel
theorem dX11_readFlag_60 : decode cX11_readFlag 60 = .ok (.ifCond .eq 22, 3) := by decide +kernel
theorem dX11_readFlag_63 : decode cX11_readFlag 63 = .ok (.aload_n 0, 1) := by decide +kernel
theorem dX11_readFlag_64 : decode cX11_readFlag 64 = .ok (.getfield 24, 3) := by decide +kernel
theorem dX11_readFlag_67 : decode cX11_readFlag 67 = .ok (.bipush 34, 2) := by decide +kernel
theorem dX11_readFlag_69 : decode cX11_readFlag 69 = .ok (.iload_n 1, 1) := by decide +kernel
theorem dX11_readFlag_70 : decode cX11_readFlag 70 = .ok (.iadd, 1) := by decide +kernel
theorem dX11_readFlag_71 : decode cX11_readFlag 71 = .ok (.aload_n 0, 1) := by decide +kernel
theorem dX11_readFlag_72 : decode cX11_readFlag 72 = .ok (.iconst 0, 1) := by decide +kernel
theorem dX11_readFlag_73 : decode cX11_readFlag 73 = .ok (.bipush 10, 2) := by decide +kernel
theorem dX11_readFlag_75 : decode cX11_readFlag 75 = .ok (.invokevirtual 187, 3) := by decide +kernel
theorem dX11_readFlag_78 : decode cX11_readFlag 78 = .ok (.iastore, 1) := by decide +kernel
theorem dX11_readFlag_79 : decode cX11_readFlag 79 = .ok (.goto 67, 3) := by decide +kernel
theorem dX11_readFlag_82 : decode cX11_readFlag 82 = .ok (.aload_n 0, 1) := by decide +kernel
theorem dX11_readFlag_83 : decode cX11_readFlag 83 = .ok (.bipush 7, 2) := by decide +kernel
theorem dX11_readFlag_85 : decode cX11_readFlag 85 = .ok (.invokevirtual 169, 3) := by decide +kernel
theorem dX11_readFlag_88 : decode cX11_readFlag 88 = .ok (.ifCond .eq 22, 3) := by decide +kernel
theorem dX11_readFlag_91 : decode cX11_readFlag 91 = .ok (.aload_n 0, 1) := by decide +kernel
theorem dX11_readFlag_92 : decode cX11_readFlag 92 = .ok (.getfield 24, 3) := by decide +kernel
theorem dX11_readFlag_95 : decode cX11_readFlag 95 = .ok (.bipush 42, 2) := by decide +kernel
theorem dX11_readFlag_97 : decode cX11_readFlag 97 = .ok (.iload_n 1, 1) := by decide +kernel
theorem dX11_readFlag_98 : decode cX11_readFlag 98 = .ok (.iadd, 1) := by decide +kernel
theorem dX11_readFlag_99 : decode cX11_readFlag 99 = .ok (.aload_n 0, 1) := by decide +kernel
theorem dX11_readFlag_100 : decode cX11_readFlag 100 = .ok (.iconst 0, 1) := by decide +kernel
theorem dX11_readFlag_101 : decode cX11_readFlag 101 = .ok (.bipush 9, 2) := by decide +kernel
theorem dX11_readFlag_103 : decode cX11_readFlag 103 = .ok (.invokevirtual 187, 3) := by decide +kernel
theorem dX11_readFlag_106 : decode cX11_readFlag 106 = .ok (.iastore, 1) := by decide +kernel
theorem dX11_readFlag_107 : decode cX11_readFlag 107 = .ok (.goto 39, 3) := by decide +kernel
theorem dX11_readFlag_110 : decode cX11_readFlag 110 = .ok (.aload_n 0, 1) := by decide +kernel
theorem dX11_readFlag_111 : decode cX11_readFlag 111 = .ok (.bipush 8, 2) := by decide +kernel
theorem dX11_readFlag_113 : decode cX11_readFlag 113 = .ok (.invokevirtual 169, 3) := by decide +kernel
theorem dX11_readFlag_116 : decode cX11_readFlag 116 = .ok (.ifCond .eq 28, 3) := by decide +kernel
theorem dX11_readFlag_119 : decode cX11_readFlag 119 = .ok (.aload_n 0, 1) := by decide +kernel
theorem dX11_readFlag_120 : decode cX11_readFlag 120 = .ok (.getfield 24, 3) := by decide +kernel
theorem dX11_readFlag_123 : decode cX11_readFlag 123 = .ok (.bipush 50, 2) := by decide +kernel
theorem dX11_readFlag_125 : decode cX11_readFlag 125 = .ok (.iload_n 1, 1) := by decide +kernel
theorem dX11_readFlag_126 : decode cX11_readFlag 126 = .ok (.iadd, 1) := by decide +kernel
theorem dX11_readFlag_127 : decode cX11_readFlag 127 = .ok (.dup2, 1) := by decide +kernel
theorem dX11_readFlag_128 : decode cX11_readFlag 128 = .ok (.iaload, 1) := by decide +kernel
theorem dX11_readFlag_129 : decode cX11_readFlag 129 = .ok (.iconst 1, 1) := by decide +kernel
theorem dX11_readFlag_130 : decode cX11_readFlag 130 = .ok (.aload_n 0, 1) := by decide +kernel
theorem dX11_readFlag_131 : decode cX11_readFlag 131 = .ok (.iconst 0, 1) := by decide +kernel
theorem dX11_readFlag_132 : decode cX11_readFlag 132 = .ok (.iload_n 1, 1) := by decide +kernel
theorem dX11_readFlag_133 : decode cX11_readFlag 133 = .ok (.iconst 1, 1) := by decide +kernel
theorem dX11_readFlag_134 : decode cX11_readFlag 134 = .ok (.isub, 1) := by decide +kernel
theorem dX11_readFlag_135 : decode cX11_readFlag 135 = .ok (.invokevirtual 187, 3) := by decide +kernel
theorem dX11_readFlag_138 : decode cX11_readFlag 138 = .ok (.ishl, 1) := by decide +kernel
theorem dX11_readFlag_139 : decode cX11_readFlag 139 = .ok (.ior, 1) := by decide +kernel
theorem dX11_readFlag_140 : decode cX11_readFlag 140 = .ok (.iastore, 1) := by decide +kernel
theorem dX11_readFlag_141 : decode cX11_readFlag 141 = .ok (.goto 5, 3) := by decide +kernel
theorem dX11_readFlag_144 : decode cX11_readFlag 144 = .ok (.iconst 0, 1) := by decide +kernel
theorem dX11_readFlag_145 : decode cX11_readFlag 145 = .ok (.ireturn, 1) := by decide +kernel
theorem dX11_readFlag_146 : decode cX11_readFlag 146 = .ok (.aload_n 0, 1) := by decide +kernel
theorem dX11_readFlag_147 : decode cX11_readFlag 147 = .ok (.getfield 134, 3) := by decide +kernel
theorem dX11_readFlag_150 : decode cX11_readFlag 150 = .ok (.ifCond .ne 7, 3) := by decide +kernel
theorem dX11_readFlag_153 : decode cX11_readFlag 153 = .ok (.iconst 1, 1) := by decide +kernel
theorem dX11_readFlag_154 : decode cX11_readFlag 154 = .ok (.goto 4, 3) := by decide +kernel
theorem dX11_readFlag_157 : decode cX11_readFlag 157 = .ok (.iconst 0, 1) := by decide +kernel
theorem dX11_readFlag_158 : decode cX11_readFlag 158 = .ok (.ireturn, 1) := by decide +kernel
theorem dX11_readDoing_0 : decode cX11_readDoing 0 = .ok (.aload_n 0, 1) := by decide +kernel
theorem dX11_readDoing_1 : decode cX11_readDoing 1 = .ok (.getfield 24, 3) := by decide +kernel
theorem dX11_readDoing_4 : decode cX11_readDoing 4 = .ok (.iconst 1, 1) := by decide +kernel
theorem dX11_readDoing_5 : decode cX11_readDoing 5 = .ok (.iaload, 1) := by decide +kernel
theorem dX11_readDoing_6 : decode cX11_readDoing 6 = .ok (.istore_n 1, 1) := by decide +kernel
theorem dX11_readDoing_7 : decode cX11_readDoing 7 = .ok (.iload_n 1, 1) := by decide +kernel
theorem dX11_readDoing_8 : decode cX11_readDoing 8 = .ok (.bipush 8, 2) := by decide +kernel
theorem dX11_readDoing_10 : decode cX11_readDoing 10 = .ok (.if_icmp .ne 8, 3) := by decide +kernel
theorem dX11_readDoing_13 : decode cX11_readDoing 13 = .ok (.aload_n 0, 1) := by decide +kernel
theorem dX11_readDoing_14 : decode cX11_readDoing 14 = .ok (.iconst 4, 1) := by decide +kernel
theorem dX11_readDoing_15 : decode cX11_readDoing 15 = .ok (.invokevirtual 146, 3) := by decide +kernel
theorem dX11_readDoing_18 : decode cX11_readDoing 18 = .ok (.aload_n 0, 1) := by decide +kernel
theorem dX11_readDoing_19 : decode cX11_readDoing 19 = .ok (.getfield 134, 3) := by decide +kernel
theorem dX11_readDoing_22 : decode cX11_readDoing 22 = .ok (.ifCond .eq 4, 3) := by decide +kernel
theorem dX11_readDoing_25 : decode cX11_readDoing 25 = .ok (.return_, 1) := by decide +kernel
theorem dX11_readDoing_26 : decode cX11_readDoing 26 = .ok (.aload_n 0, 1) := by decide +kernel
theorem dX11_readDoing_27 : decode cX11_readDoing 27 = .ok (.invokevirtual 143, 3) := by decide +kernel
theorem dX11_readDoing_30 : decode cX11_readDoing 30 = .ok (.aload_n 0, 1) := by decide +kernel
theorem dX11_readDoing_31 : decode cX11_readDoing 31 = .ok (.iconst 3, 1) := by decide +kernel
theorem dX11_readDoing_32 : decode cX11_readDoing 32 = .ok (.invokevirtual 169, 3) := by decide +kernel
theorem dX11_readDoing_35 : decode cX11_readDoing 35 = .ok (.ifCond .ne 8, 3) := by decide +kernel
theorem dX11_readDoing_38 : decode cX11_readDoing 38 = .ok (.aload_n 0, 1) := by decide +kernel
theorem dX11_readDoing_39 : decode cX11_readDoing 39 = .ok (.iconst 2, 1) := by decide +kernel
theorem dX11_readDoing_40 : decode cX11_readDoing 40 = .ok (.invokevirtual 146, 3) := by decide +kernel
theorem dX11_readDoing_43 : decode cX11_readDoing 43 = .ok (.aload_n 0, 1) := by decide +kernel
theorem dX11_readDoing_44 : decode cX11_readDoing 44 = .ok (.getfield 24, 3) := by decide +kernel
theorem dX11_readDoing_47 : decode cX11_readDoing 47 = .ok (.bipush 10, 2) := by decide +kernel
theorem dX11_readDoing_49 : decode cX11_readDoing 49 = .ok (.iload_n 1, 1) := by decide +kernel
theorem dX11_readDoing_50 : decode cX11_readDoing 50 = .ok (.iadd, 1) := by decide +kernel
theorem dX11_readDoing_51 : decode cX11_readDoing 51 = .ok (.aload_n 0, 1) := by decide +kernel
theorem dX11_readDoing_52 : decode cX11_readDoing 52 = .ok (.iconst 1, 1) := by decide +kernel
theorem dX11_readDoing_53 : decode cX11_readDoing 53 = .ok (.bipush 9, 2) := by decide +kernel
theorem dX11_readDoing_55 : decode cX11_readDoing 55 = .ok (.invokevirtual 187, 3) := by decide +kernel
theorem dX11_readDoing_58 : decode cX11_readDoing 58 = .ok (.iastore, 1) := by decide +kernel
theorem dX11_readDoing_59 : decode cX11_readDoing 59 = .ok (.aload_n 0, 1) := by decide +kernel
theorem dX11_readDoing_60 : decode cX11_readDoing 60 = .ok (.getfield 24, 3) := by decide +kernel
theorem dX11_readDoing_63 : decode cX11_readDoing 63 = .ok (.bipush 26, 2) := by decide +kernel
theorem dX11_readDoing_65 : decode cX11_readDoing 65 = .ok (.iload_n 1, 1) := by decide +kernel
theorem dX11_readDoing_66 : decode cX11_readDoing 66 = .ok (.iadd, 1) := by decide +kernel
theorem dX11_readDoing_67 : decode cX11_readDoing 67 = .ok (.iconst 5, 1) := by decide +kernel
theorem dX11_readDoing_68 : decode cX11_readDoing 68 = .ok (.iastore, 1) := by decide +kernel
theorem dX11_readDoing_69 : decode cX11_readDoing 69 = .ok (.aload_n 0, 1) := by decide +kernel
theorem dX11_readDoing_70 : decode cX11_readDoing 70 = .ok (.getfield 24, 3) := by decide +kernel
theorem dX11_readDoing_73 : decode cX11_readDoing 73 = .ok (.bipush 42, 2) := by decide +kernel
theorem dX11_readDoing_75 : decode cX11_readDoing 75 = .ok (.iload_n 1, 1) := by decide +kernel
theorem dX11_readDoing_76 : decode cX11_readDoing 76 = .ok (.iadd, 1) := by decide +kernel
theorem dX11_readDoing_77 : decode cX11_readDoing 77 = .ok (.iconst 1, 1) := by decide +kernel
theorem dX11_readDoing_78 : decode cX11_readDoing 78 = .ok (.iastore, 1) := by decide +kernel
theorem dX11_readDoing_79 : decode cX11_readDoing 79 = .ok (.aload_n 0, 1) := by decide +kernel
theorem dX11_readDoing_80 : decode cX11_readDoing 80 = .ok (.getfield 134, 3) := by decide +kernel
theorem dX11_readDoing_83 : decode cX11_readDoing 83 = .ok (.ifCond .ne 14, 3) := by decide +kernel
theorem dX11_readDoing_86 : decode cX11_readDoing 86 = .ok (.aload_n 0, 1) := by decide +kernel
theorem dX11_readDoing_87 : decode cX11_readDoing 87 = .ok (.iload_n 1, 1) := by decide +kernel
theorem dX11_readDoing_88 : decode cX11_readDoing 88 = .ok (.invokevirtual 191, 3) := by decide +kernel
theorem dX11_readDoing_91 : decode cX11_readDoing 91 = .ok (.ifCond .eq 6, 3) := by decide +kernel
theorem dX11_readDoing_94 : decode cX11_readDoing 94 = .ok (.goto (-15), 3) := by decide +kernel
theorem dX11_readDoing_97 : decode cX11_readDoing 97 = .ok (.aload_n 0, 1) := by decide +kernel
theorem dX11_readDoing_98 : decode cX11_readDoing 98 = .ok (.getfield 134, 3) := by decide +kernel
theorem dX11_readDoing_101 : decode cX11_readDoing 101 = .ok (.ifCond .ne 13, 3) := by decide +kernel
theorem dX11_readDoing_104 : decode cX11_readDoing 104 = .ok (.aload_n 0, 1) := by decide +kernel
theorem dX11_readDoing_105 : decode cX11_readDoing 105 = .ok (.getfield 24, 3) := by decide +kernel
theorem dX11_readDoing_108 : decode cX11_readDoing 108 = .ok (.iconst 1, 1) := by decide +kernel
theorem dX11_readDoing_109 : decode cX11_readDoing 109 = .ok (.dup2, 1) := by decide +kernel
theorem dX11_readDoing_110 : decode cX11_readDoing 110 = .ok (.iaload, 1) := by decide +kernel
theorem dX11_readDoing_111 : decode cX11_readDoing 111 = .ok (.iconst 1, 1) := by decide +kernel
theorem dX11_readDoing_112 : decode cX11_readDoing 112 = .ok (.iadd, 1) := by decide +kernel
theorem dX11_readDoing_113 : decode cX11_readDoing 113 = .ok (.iastore, 1) := by decide +kernel
theorem dX11_readDoing_114 : decode cX11_readDoing 114 = .ok (.return_, 1) := by decide +kernel
theorem dX11_readDoor_0 : decode cX11_readDoor 0 = .ok (.aload_n 0, 1) := by decide +kernel
theorem dX11_readDoor_1 : decode cX11_readDoor 1 = .ok (.getfield 24, 3) := by decide +kernel
theorem dX11_readDoor_4 : decode cX11_readDoor 4 = .ok (.iconst 2, 1) := by decide +kernel
theorem dX11_readDoor_5 : decode cX11_readDoor 5 = .ok (.iaload, 1) := by decide +kernel
theorem dX11_readDoor_6 : decode cX11_readDoor 6 = .ok (.istore_n 1, 1) := by decide +kernel
theorem dX11_readDoor_7 : decode cX11_readDoor 7 = .ok (.iload_n 1, 1) := by decide +kernel
theorem dX11_readDoor_8 : decode cX11_readDoor 8 = .ok (.bipush 8, 2) := by decide +kernel
theorem dX11_readDoor_10 : decode cX11_readDoor 10 = .ok (.if_icmp .ne 8, 3) := by decide +kernel
theorem dX11_readDoor_13 : decode cX11_readDoor 13 = .ok (.aload_n 0, 1) := by decide +kernel
theorem dX11_readDoor_14 : decode cX11_readDoor 14 = .ok (.iconst 4, 1) := by decide +kernel
theorem dX11_readDoor_15 : decode cX11_readDoor 15 = .ok (.invokevirtual 146, 3) := by decide +kernel
theorem dX11_readDoor_18 : decode cX11_readDoor 18 = .ok (.aload_n 0, 1) := by decide +kernel
theorem dX11_readDoor_19 : decode cX11_readDoor 19 = .ok (.getfield 134, 3) := by decide +kernel
theorem dX11_readDoor_22 : decode cX11_readDoor 22 = .ok (.ifCond .eq 4, 3) := by decide +kernel
theorem dX11_readDoor_25 : decode cX11_readDoor 25 = .ok (.return_, 1) := by decide +kernel
theorem dX11_readDoor_26 : decode cX11_readDoor 26 = .ok (.aload_n 0, 1) := by decide +kernel
theorem dX11_readDoor_27 : decode cX11_readDoor 27 = .ok (.invokevirtual 143, 3) := by decide +kernel
theorem dX11_readDoor_30 : decode cX11_readDoor 30 = .ok (.aload_n 0, 1) := by decide +kernel
theorem dX11_readDoor_31 : decode cX11_readDoor 31 = .ok (.getfield 24, 3) := by decide +kernel
theorem dX11_readDoor_34 : decode cX11_readDoor 34 = .ok (.bipush 66, 2) := by decide +kernel
theorem dX11_readDoor_36 : decode cX11_readDoor 36 = .ok (.iload_n 1, 1) := by decide +kernel
theorem dX11_readDoor_37 : decode cX11_readDoor 37 = .ok (.iadd, 1) := by decide +kernel
theorem dX11_readDoor_38 : decode cX11_readDoor 38 = .ok (.aload_n 0, 1) := by decide +kernel
theorem dX11_readDoor_39 : decode cX11_readDoor 39 = .ok (.iconst 0, 1) := by decide +kernel
theorem dX11_readDoor_40 : decode cX11_readDoor 40 = .ok (.bipush 9, 2) := by decide +kernel
theorem dX11_readDoor_42 : decode cX11_readDoor 42 = .ok (.invokevirtual 187, 3) := by decide +kernel
theorem dX11_readDoor_45 : decode cX11_readDoor 45 = .ok (.iastore, 1) := by decide +kernel
theorem dX11_readDoor_46 : decode cX11_readDoor 46 = .ok (.aload_n 0, 1) := by decide +kernel
theorem dX11_readDoor_47 : decode cX11_readDoor 47 = .ok (.getfield 134, 3) := by decide +kernel
theorem dX11_readDoor_50 : decode cX11_readDoor 50 = .ok (.ifCond .ne 13, 3) := by decide +kernel
theorem dX11_readDoor_53 : decode cX11_readDoor 53 = .ok (.aload_n 0, 1) := by decide +kernel
theorem dX11_readDoor_54 : decode cX11_readDoor 54 = .ok (.getfield 24, 3) := by decide +kernel
theorem dX11_readDoor_57 : decode cX11_readDoor 57 = .ok (.iconst 2, 1) := by decide +kernel
theorem dX11_readDoor_58 : decode cX11_readDoor 58 = .ok (.dup2, 1) := by decide +kernel
theorem dX11_readDoor_59 : decode cX11_readDoor 59 = .ok (.iaload, 1) := by decide +kernel
theorem dX11_readDoor_60 : decode cX11_readDoor 60 = .ok (.iconst 1, 1) := by decide +kernel
theorem dX11_readDoor_61 : decode cX11_readDoor 61 = .ok (.iadd, 1) := by decide +kernel
theorem dX11_readDoor_62 : decode cX11_readDoor 62 = .ok (.iastore, 1) := by decide +kernel
theorem dX11_readDoor_63 : decode cX11_readDoor 63 = .ok (.return_, 1) := by decide +kernel
theorem dX11_readClash_0 : decode cX11_readClash 0 = .ok (.aload_n 0, 1) := by decide +kernel
theorem dX11_readClash_1 : decode cX11_readClash 1 = .ok (.invokevirtual 143, 3) := by decide +kernel
theorem dX11_readClash_4 : decode cX11_readClash 4 = .ok (.aload_n 0, 1) := by decide +kernel
theorem dX11_readClash_5 : decode cX11_readClash 5 = .ok (.iconst 0, 1) := by decide +kernel
theorem dX11_readClash_6 : decode cX11_readClash 6 = .ok (.aload_n 0, 1) := by decide +kernel
theorem dX11_readClash_7 : decode cX11_readClash 7 = .ok (.getfield 24, 3) := by decide +kernel
theorem dX11_readClash_10 : decode cX11_readClash 10 = .ok (.iconst 1, 1) := by decide +kernel
theorem dX11_readClash_11 : decode cX11_readClash 11 = .ok (.iaload, 1) := by decide +kernel
theorem dX11_readClash_12 : decode cX11_readClash 12 = .ok (.iconst 1, 1) := by decide +kernel
theorem dX11_readClash_13 : decode cX11_readClash 13 = .ok (.isub, 1) := by decide +kernel
theorem dX11_readClash_14 : decode cX11_readClash 14 = .ok (.invokevirtual 187, 3) := by decide +kernel
theorem dX11_readClash_17 : decode cX11_readClash 17 = .ok (.istore_n 1, 1) := by decide +kernel
theorem dX11_readClash_18 : decode cX11_readClash 18 = .ok (.aload_n 0, 1) := by decide +kernel
theorem dX11_readClash_19 : decode cX11_readClash 19 = .ok (.bipush 23, 2) := by decide +kernel
theorem dX11_readClash_21 : decode cX11_readClash 21 = .ok (.invokevirtual 140, 3) := by decide +kernel
theorem dX11_readClash_24 : decode cX11_readClash 24 = .ok (.ifCond .eq 16, 3) := by decide +kernel
theorem dX11_readClash_27 : decode cX11_readClash 27 = .ok (.aload_n 0, 1) := by decide +kernel
theorem dX11_readClash_28 : decode cX11_readClash 28 = .ok (.getfield 129, 3) := by decide +kernel
theorem dX11_readClash_31 : decode cX11_readClash 31 = .ok (.iload_n 1, 1) := by decide +kernel
theorem dX11_readClash_32 : decode cX11_readClash 32 = .ok (.if_icmp .ne 8, 3) := by decide +kernel
theorem dX11_readClash_35 : decode cX11_readClash 35 = .ok (.aload_n 0, 1) := by decide +kernel
theorem dX11_readClash_36 : decode cX11_readClash 36 = .ok (.iconst 3, 1) := by decide +kernel
theorem dX11_readClash_37 : decode cX11_readClash 37 = .ok (.invokevirtual 146, 3) := by decide +kernel
theorem dX11_readClash_40 : decode cX11_readClash 40 = .ok (.aload_n 0, 1) := by decide +kernel
theorem dX11_readClash_41 : decode cX11_readClash 41 = .ok (.iconst 0, 1) := by decide +kernel
theorem dX11_readClash_42 : decode cX11_readClash 42 = .ok (.aload_n 0, 1) := by decide +kernel
theorem dX11_readClash_43 : decode cX11_readClash 43 = .ok (.getfield 24, 3) := by decide +kernel
theorem dX11_readClash_46 : decode cX11_readClash 46 = .ok (.iconst 1, 1) := by decide +kernel
theorem dX11_readClash_47 : decode cX11_readClash 47 = .ok (.iaload, 1) := by decide +kernel
theorem dX11_readClash_48 : decode cX11_readClash 48 = .ok (.iconst 1, 1) := by decide +kernel
theorem dX11_readClash_49 : decode cX11_readClash 49 = .ok (.isub, 1) := by decide +kernel
theorem dX11_readClash_50 : decode cX11_readClash 50 = .ok (.invokevirtual 187, 3) := by decide +kernel
theorem dX11_readClash_53 : decode cX11_readClash 53 = .ok (.istore_n 2, 1) := by decide +kernel
theorem dX11_readClash_54 : decode cX11_readClash 54 = .ok (.aload_n 0, 1) := by decide +kernel
theorem dX11_readClash_55 : decode cX11_readClash 55 = .ok (.getfield 134, 3) := by decide +kernel
theorem dX11_readClash_58 : decode cX11_readClash 58 = .ok (.ifCond .eq 4, 3) := by decide +kernel
theorem dX11_readClash_61 : decode cX11_readClash 61 = .ok (.return_, 1) := by decide +kernel
theorem dX11_readClash_62 : decode cX11_readClash 62 = .ok (.aload_n 0, 1) := by decide +kernel
theorem dX11_readClash_63 : decode cX11_readClash 63 = .ok (.getfield 24, 3) := by decide +kernel
theorem dX11_readClash_66 : decode cX11_readClash 66 = .ok (.bipush 58, 2) := by decide +kernel
theorem dX11_readClash_68 : decode cX11_readClash 68 = .ok (.iload_n 1, 1) := by decide +kernel
theorem dX11_readClash_69 : decode cX11_readClash 69 = .ok (.iadd, 1) := by decide +kernel
theorem dX11_readClash_70 : decode cX11_readClash 70 = .ok (.dup2, 1) := by decide +kernel
theorem dX11_readClash_71 : decode cX11_readClash 71 = .ok (.iaload, 1) := by decide +kernel
theorem dX11_readClash_72 : decode cX11_readClash 72 = .ok (.iconst 1, 1) := by decide +kernel
theorem dX11_readClash_73 : decode cX11_readClash 73 = .ok (.iload_n 2, 1) := by decide +kernel
theorem dX11_readClash_74 : decode cX11_readClash 74 = .ok (.ishl, 1) := by decide +kernel
theorem dX11_readClash_75 : decode cX11_readClash 75 = .ok (.ior, 1) := by decide +kernel
theorem dX11_readClash_76 : decode cX11_readClash 76 = .ok (.iastore, 1) := by decide +kernel
theorem dX11_readClash_77 : decode cX11_readClash 77 = .ok (.aload_n 0, 1) := by decide +kernel
theorem dX11_readClash_78 : decode cX11_readClash 78 = .ok (.getfield 24, 3) := by decide +kernel
theorem dX11_readClash_81 : decode cX11_readClash 81 = .ok (.bipush 58, 2) := by decide +kernel
theorem dX11_readClash_83 : decode cX11_readClash 83 = .ok (.iload_n 2, 1) := by decide +kernel
theorem dX11_readClash_84 : decode cX11_readClash 84 = .ok (.iadd, 1) := by decide +kernel
theorem dX11_readClash_85 : decode cX11_readClash 85 = .ok (.dup2, 1) := by decide +kernel
theorem dX11_readClash_86 : decode cX11_readClash 86 = .ok (.iaload, 1) := by decide +kernel
theorem dX11_readClash_87 : decode cX11_readClash 87 = .ok (.iconst 1, 1) := by decide +kernel
theorem dX11_readClash_88 : decode cX11_readClash 88 = .ok (.iload_n 1, 1) := by decide +kernel
theorem dX11_readClash_89 : decode cX11_readClash 89 = .ok (.ishl, 1) := by decide +kernel
theorem dX11_readClash_90 : decode cX11_readClash 90 = .ok (.ior, 1) := by decide +kernel
theorem dX11_readClash_91 : decode cX11_readClash 91 = .ok (.iastore, 1) := by decide +kernel
theorem dX11_readClash_92 : decode cX11_readClash 92 = .ok (.return_, 1) := by decide +kernel
theorem dX11_readLaw_0 : decode cX11_readLaw 0 = .ok (.aload_n 0, 1) := by decide +kernel
theorem dX11_readLaw_1 : decode cX11_readLaw 1 = .ok (.invokevirtual 143, 3) := by decide +kernel
theorem dX11_readLaw_4 : decode cX11_readLaw 4 = .ok (.aload_n 0, 1) := by decide +kernel
theorem dX11_readLaw_5 : decode cX11_readLaw 5 = .ok (.bipush 31, 2) := by decide +kernel
theorem dX11_readLaw_7 : decode cX11_readLaw 7 = .ok (.invokevirtual 169, 3) := by decide +kernel
theorem dX11_readLaw_10 : decode cX11_readLaw 10 = .ok (.ifCond .ne 8, 3) := by decide +kernel
theorem dX11_readLaw_13 : decode cX11_readLaw 13 = .ok (.aload_n 0, 1) := by decide +kernel
theorem dX11_readLaw_14 : decode cX11_readLaw 14 = .ok (.iconst 2, 1) := by decide +kernel
theorem dX11_readLaw_15 : decode cX11_readLaw 15 = .ok (.invokevirtual 146, 3) := by decide +kernel
theorem dX11_readLaw_18 : decode cX11_readLaw 18 = .ok (.aload_n 0, 1) := by decide +kernel
theorem dX11_readLaw_19 : decode cX11_readLaw 19 = .ok (.getfield 24, 3) := by decide +kernel
theorem dX11_readLaw_22 : decode cX11_readLaw 22 = .ok (.sipush 174, 3) := by decide +kernel
theorem dX11_readLaw_25 : decode cX11_readLaw 25 = .ok (.iaload, 1) := by decide +kernel
theorem dX11_readLaw_26 : decode cX11_readLaw 26 = .ok (.istore_n 2, 1) := by decide +kernel
theorem dX11_readLaw_27 : decode cX11_readLaw 27 = .ok (.aload_n 0, 1) := by decide +kernel
theorem dX11_readLaw_28 : decode cX11_readLaw 28 = .ok (.iload_n 1, 1) := by decide +kernel
theorem dX11_readLaw_29 : decode cX11_readLaw 29 = .ok (.putfield 154, 3) := by decide +kernel
theorem dX11_readLaw_32 : decode cX11_readLaw 32 = .ok (.aload_n 0, 1) := by decide +kernel
theorem dX11_readLaw_33 : decode cX11_readLaw 33 = .ok (.iconst 0, 1) := by decide +kernel
theorem dX11_readLaw_34 : decode cX11_readLaw 34 = .ok (.invokevirtual 181, 3) := by decide +kernel
theorem dX11_readLaw_37 : decode cX11_readLaw 37 = .ok (.aload_n 0, 1) := by decide +kernel
theorem dX11_readLaw_38 : decode cX11_readLaw 38 = .ok (.getfield 134, 3) := by decide +kernel
theorem dX11_readLaw_41 : decode cX11_readLaw 41 = .ok (.ifCond .eq 4, 3) := by decide +kernel
theorem dX11_readLaw_44 : decode cX11_readLaw 44 = .ok (.return_, 1) := by decide +kernel
theorem dX11_readLaw_45 : decode cX11_readLaw 45 = .ok (.aload_n 0, 1) := by decide +kernel
theorem dX11_readLaw_46 : decode cX11_readLaw 46 = .ok (.getfield 24, 3) := by decide +kernel
theorem dX11_readLaw_49 : decode cX11_readLaw 49 = .ok (.iconst 4, 1) := by decide +kernel
theorem dX11_readLaw_50 : decode cX11_readLaw 50 = .ok (.iload_n 1, 1) := by decide +kernel
theorem dX11_readLaw_51 : decode cX11_readLaw 51 = .ok (.iadd, 1) := by decide +kernel
theorem dX11_readLaw_52 : decode cX11_readLaw 52 = .ok (.iconst 1, 1) := by decide +kernel
theorem dX11_readLaw_53 : decode cX11_readLaw 53 = .ok (.iastore, 1) := by decide +kernel
theorem dX11_readLaw_54 : decode cX11_readLaw 54 = .ok (.aload_n 0, 1) := by decide +kernel
theorem dX11_readLaw_55 : decode cX11_readLaw 55 = .ok (.getfield 24, 3) := by decide +kernel
theorem dX11_readLaw_58 : decode cX11_readLaw 58 = .ok (.bipush 6, 2) := by decide +kernel
theorem dX11_readLaw_60 : decode cX11_readLaw 60 = .ok (.iload_n 1, 1) := by decide +kernel
theorem dX11_readLaw_61 : decode cX11_readLaw 61 = .ok (.iadd, 1) := by decide +kernel
theorem dX11_readLaw_62 : decode cX11_readLaw 62 = .ok (.iload_n 2, 1) := by decide +kernel
theorem dX11_readLaw_63 : decode cX11_readLaw 63 = .ok (.iastore, 1) := by decide +kernel
theorem dX11_readLaw_64 : decode cX11_readLaw 64 = .ok (.aload_n 0, 1) := by decide +kernel
theorem dX11_readLaw_65 : decode cX11_readLaw 65 = .ok (.getfield 24, 3) := by decide +kernel
theorem dX11_readLaw_68 : decode cX11_readLaw 68 = .ok (.bipush 8, 2) := by decide +kernel
theorem dX11_readLaw_70 : decode cX11_readLaw 70 = .ok (.iload_n 1, 1) := by decide +kernel
theorem dX11_readLaw_71 : decode cX11_readLaw 71 = .ok (.iadd, 1) := by decide +kernel
theorem dX11_readLaw_72 : decode cX11_readLaw 72 = .ok (.aload_n 0, 1) := by decide +kernel
theorem dX11_readLaw_73 : decode cX11_readLaw 73 = .ok (.getfield 24, 3) := by decide +kernel
theorem dX11_readLaw_76 : decode cX11_readLaw 76 = .ok (.sipush 174, 3) := by decide +kernel
theorem dX11_readLaw_79 : decode cX11_readLaw 79 = .ok (.iaload, 1) := by decide +kernel
theorem dX11_readLaw_80 : decode cX11_readLaw 80 = .ok (.iload_n 2, 1) := by decide +kernel
theorem dX11_readLaw_81 : decode cX11_readLaw 81 = .ok (.isub, 1) := by decide +kernel
theorem dX11_readLaw_82 : decode cX11_readLaw 82 = .ok (.iastore, 1) := by decide +kernel
theorem dX11_readLaw_83 : decode cX11_readLaw 83 = .ok (.return_, 1) := by decide +kernel
theorem dX11_readLine_0 : decode cX11_readLine 0 = .ok (.aload_n 0, 1) := by decide +kernel
theorem dX11_readLine_1 : decode cX11_readLine 1 = .ok (.getfield 134, 3) := by decide +kernel
theorem dX11_readLine_4 : decode cX11_readLine 4 = .ok (.ifCond .eq 4, 3) := by decide +kernel
theorem dX11_readLine_7 : decode cX11_readLine 7 = .ok (.return_, 1) := by decide +kernel
theorem dX11_readLine_8 : decode cX11_readLine 8 = .ok (.aload_n 0, 1) := by decide +kernel
theorem dX11_readLine_9 : decode cX11_readLine 9 = .ok (.iconst 2, 1) := by decide +kernel
theorem dX11_readLine_10 : decode cX11_readLine 10 = .ok (.invokevirtual 140, 3) := by decide +kernel
theorem dX11_readLine_13 : decode cX11_readLine 13 = .ok (.ifCond .eq 10, 3) := by decide +kernel
theorem dX11_readLine_16 : decode cX11_readLine 16 = .ok (.aload_n 0, 1) := by decide +kernel
theorem dX11_readLine_17 : decode cX11_readLine 17 = .ok (.invokevirtual 194, 3) := by decide +kernel
theorem dX11_readLine_20 : decode cX11_readLine 20 = .ok (.goto 98, 3) := by decide +kernel
theorem dX11_readLine_23 : decode cX11_readLine 23 = .ok (.aload_n 0, 1) := by decide +kernel
theorem dX11_readLine_24 : decode cX11_readLine 24 = .ok (.bipush 9, 2) := by decide +kernel
theorem dX11_readLine_26 : decode cX11_readLine 26 = .ok (.invokevirtual 140, 3) := by decide +kernel
theorem dX11_readLine_29 : decode cX11_readLine 29 = .ok (.ifCond .eq 10, 3) := by decide +kernel
theorem dX11_readLine_32 : decode cX11_readLine 32 = .ok (.aload_n 0, 1) := by decide +kernel
theorem dX11_readLine_33 : decode cX11_readLine 33 = .ok (.invokevirtual 197, 3) := by decide +kernel
theorem dX11_readLine_36 : decode cX11_readLine 36 = .ok (.goto 82, 3) := by decide +kernel
theorem dX11_readLine_39 : decode cX11_readLine 39 = .ok (.aload_n 0, 1) := by decide +kernel
theorem dX11_readLine_40 : decode cX11_readLine 40 = .ok (.bipush 10, 2) := by decide +kernel
theorem dX11_readLine_42 : decode cX11_readLine 42 = .ok (.invokevirtual 140, 3) := by decide +kernel
theorem dX11_readLine_45 : decode cX11_readLine 45 = .ok (.ifCond .eq 10, 3) := by decide +kernel
theorem dX11_readLine_48 : decode cX11_readLine 48 = .ok (.aload_n 0, 1) := by decide +kernel
theorem dX11_readLine_49 : decode cX11_readLine 49 = .ok (.invokevirtual 200, 3) := by decide +kernel
theorem dX11_readLine_52 : decode cX11_readLine 52 = .ok (.goto 66, 3) := by decide +kernel
theorem dX11_readLine_55 : decode cX11_readLine 55 = .ok (.aload_n 0, 1) := by decide +kernel
theorem dX11_readLine_56 : decode cX11_readLine 56 = .ok (.bipush 11, 2) := by decide +kernel
theorem dX11_readLine_58 : decode cX11_readLine 58 = .ok (.invokevirtual 169, 3) := by decide +kernel
theorem dX11_readLine_61 : decode cX11_readLine 61 = .ok (.ifCond .eq 20, 3) := by decide +kernel
theorem dX11_readLine_64 : decode cX11_readLine 64 = .ok (.aload_n 0, 1) := by decide +kernel
theorem dX11_readLine_65 : decode cX11_readLine 65 = .ok (.getfield 24, 3) := by decide +kernel
theorem dX11_readLine_68 : decode cX11_readLine 68 = .ok (.bipush 82, 2) := by decide +kernel
theorem dX11_readLine_70 : decode cX11_readLine 70 = .ok (.aload_n 0, 1) := by decide +kernel
theorem dX11_readLine_71 : decode cX11_readLine 71 = .ok (.iconst 0, 1) := by decide +kernel
theorem dX11_readLine_72 : decode cX11_readLine 72 = .ok (.bipush 9, 2) := by decide +kernel
theorem dX11_readLine_74 : decode cX11_readLine 74 = .ok (.invokevirtual 187, 3) := by decide +kernel
theorem dX11_readLine_77 : decode cX11_readLine 77 = .ok (.iastore, 1) := by decide +kernel
theorem dX11_readLine_78 : decode cX11_readLine 78 = .ok (.goto 40, 3) := by decide +kernel
theorem dX11_readLine_81 : decode cX11_readLine 81 = .ok (.aload_n 0, 1) := by decide +kernel
theorem dX11_readLine_82 : decode cX11_readLine 82 = .ok (.bipush 12, 2) := by decide +kernel
theorem dX11_readLine_84 : decode cX11_readLine 84 = .ok (.invokevirtual 140, 3) := by decide +kernel
theorem dX11_readLine_87 : decode cX11_readLine 87 = .ok (.ifCond .ne 12, 3) := by decide +kernel
theorem dX11_readLine_90 : decode cX11_readLine 90 = .ok (.aload_n 0, 1) := by decide +kernel
theorem dX11_readLine_91 : decode cX11_readLine 91 = .ok (.bipush 13, 2) := by decide +kernel
theorem dX11_readLine_93 : decode cX11_readLine 93 = .ok (.invokevirtual 140, 3) := by decide +kernel
theorem dX11_readLine_96 : decode cX11_readLine 96 = .ok (.ifCond .eq 17, 3) := by decide +kernel
theorem dX11_readLine_99 : decode cX11_readLine 99 = .ok (.aload_n 0, 1) := by decide +kernel
theorem dX11_readLine_100 : decode cX11_readLine 100 = .ok (.aload_n 0, 1) := by decide +kernel
theorem dX11_readLine_101 : decode cX11_readLine 101 = .ok (.getfield 116, 3) := by decide +kernel
theorem dX11_readLine_104 : decode cX11_readLine 104 = .ok (.bipush 12, 2) := by decide +kernel
theorem dX11_readLine_106 : decode cX11_readLine 106 = .ok (.isub, 1) := by decide +kernel
theorem dX11_readLine_107 : decode cX11_readLine 107 = .ok (.invokevirtual 203, 3) := by decide +kernel
theorem dX11_readLine_110 : decode cX11_readLine 110 = .ok (.goto 8, 3) := by decide +kernel
theorem dX11_readLine_113 : decode cX11_readLine 113 = .ok (.aload_n 0, 1) := by decide +kernel
theorem dX11_readLine_114 : decode cX11_readLine 114 = .ok (.iconst 2, 1) := by decide +kernel
theorem dX11_readLine_115 : decode cX11_readLine 115 = .ok (.invokevirtual 146, 3) := by decide +kernel
theorem dX11_readLine_118 : decode cX11_readLine 118 = .ok (.return_, 1) := by decide +kernel
theorem dX11_ends_0 : decode cX11_ends 0 = .ok (.aload_n 0, 1) := by decide +kernel
theorem dX11_ends_1 : decode cX11_ends 1 = .ok (.bipush 30, 2) := by decide +kernel
theorem dX11_ends_3 : decode cX11_ends 3 = .ok (.invokevirtual 169, 3) := by decide +kernel
theorem dX11_ends_6 : decode cX11_ends 6 = .ok (.ifCond .ne 8, 3) := by decide +kernel
theorem dX11_ends_9 : decode cX11_ends 9 = .ok (.aload_n 0, 1) := by decide +kernel
theorem dX11_ends_10 : decode cX11_ends 10 = .ok (.iconst 2, 1) := by decide +kernel
theorem dX11_ends_11 : decode cX11_ends 11 = .ok (.invokevirtual 146, 3) := by decide +kernel
theorem dX11_ends_14 : decode cX11_ends 14 = .ok (.aload_n 0, 1) := by decide +kernel
theorem dX11_ends_15 : decode cX11_ends 15 = .ok (.getfield 24, 3) := by decide +kernel
theorem dX11_ends_18 : decode cX11_ends 18 = .ok (.iconst 0, 1) := by decide +kernel
theorem dX11_ends_19 : decode cX11_ends 19 = .ok (.dup2, 1) := by decide +kernel
theorem dX11_ends_20 : decode cX11_ends 20 = .ok (.iaload, 1) := by decide +kernel
theorem dX11_ends_21 : decode cX11_ends 21 = .ok (.iconst 1, 1) := by decide +kernel
theorem dX11_ends_22 : decode cX11_ends 22 = .ok (.iadd, 1) := by decide +kernel
theorem dX11_ends_23 : decode cX11_ends 23 = .ok (.iastore, 1) := by decide +kernel
theorem dX11_ends_24 : decode cX11_ends 24 = .ok (.return_, 1) := by decide +kernel
theorem dX11_life_0 : decode cX11_life 0 = .ok (.aload_n 0, 1) := by decide +kernel
theorem dX11_life_1 : decode cX11_life 1 = .ok (.iconst 0, 1) := by decide +kernel
theorem dX11_life_2 : decode cX11_life 2 = .ok (.putfield 1, 3) := by decide +kernel
theorem dX11_life_5 : decode cX11_life 5 = .ok (.iload_n 1, 1) := by decide +kernel
theorem dX11_life_6 : decode cX11_life 6 = .ok (.i2l, 1) := by decide +kernel
theorem dX11_life_7 : decode cX11_life 7 = .ok (.lconst 0, 1) := by decide +kernel
theorem dX11_life_8 : decode cX11_life 8 = .ok (.aload_n 0, 1) := by decide +kernel
theorem dX11_life_9 : decode cX11_life 9 = .ok (.getfield 88, 3) := by decide +kernel
theorem dX11_life_12 : decode cX11_life 12 = .ok (.i2l, 1) := by decide +kernel
theorem dX11_life_13 : decode cX11_life 13 = .ok (.invokestatic 150, 3) := by decide +kernel
theorem dX11_life_16 : decode cX11_life 16 = .ok (.ifCond .ne 6, 3) := by decide +kernel
theorem dX11_life_19 : decode cX11_life 19 = .ok (.bipush (-3), 2) := by decide +kernel
theorem dX11_life_21 : decode cX11_life 21 = .ok (.ireturn, 1) := by decide +kernel
theorem dX11_life_22 : decode cX11_life 22 = .ok (.aload_n 0, 1) := by decide +kernel
theorem dX11_life_23 : decode cX11_life 23 = .ok (.iload_n 1, 1) := by decide +kernel
theorem dX11_life_24 : decode cX11_life 24 = .ok (.putfield 91, 3) := by decide +kernel
theorem dX11_life_27 : decode cX11_life 27 = .ok (.aload_n 0, 1) := by decide +kernel
theorem dX11_life_28 : decode cX11_life 28 = .ok (.iconst 0, 1) := by decide +kernel
theorem dX11_life_29 : decode cX11_life 29 = .ok (.putfield 88, 3) := by decide +kernel
theorem dX11_life_32 : decode cX11_life 32 = .ok (.aload_n 0, 1) := by decide +kernel
theorem dX11_life_33 : decode cX11_life 33 = .ok (.iconst 0, 1) := by decide +kernel
theorem dX11_life_34 : decode cX11_life 34 = .ok (.putfield 109, 3) := by decide +kernel
theorem dX11_life_37 : decode cX11_life 37 = .ok (.aload_n 0, 1) := by decide +kernel
theorem dX11_life_38 : decode cX11_life 38 = .ok (.iconst 0, 1) := by decide +kernel
theorem dX11_life_39 : decode cX11_life 39 = .ok (.putfield 134, 3) := by decide +kernel
theorem dX11_life_42 : decode cX11_life 42 = .ok (.aload_n 0, 1) := by decide +kernel
theorem dX11_life_43 : decode cX11_life 43 = .ok (.getfield 24, 3) := by decide +kernel
theorem dX11_life_46 : decode cX11_life 46 = .ok (.invokestatic 84, 3) := by decide +kernel
theorem dX11_life_49 : decode cX11_life 49 = .ok (.aload_n 0, 1) := by decide +kernel
theorem dX11_life_50 : decode cX11_life 50 = .ok (.invokevirtual 143, 3) := by decide +kernel
theorem dX11_life_53 : decode cX11_life 53 = .ok (.aload_n 0, 1) := by decide +kernel
theorem dX11_life_54 : decode cX11_life 54 = .ok (.iconst 0, 1) := by decide +kernel
theorem dX11_life_55 : decode cX11_life 55 = .ok (.invokevirtual 169, 3) := by decide +kernel
theorem dX11_life_58 : decode cX11_life 58 = .ok (.ifCond .eq 11, 3) := by decide +kernel
theorem dX11_life_61 : decode cX11_life 61 = .ok (.aload_n 0, 1) := by decide +kernel
theorem dX11_life_62 : decode cX11_life 62 = .ok (.iconst 1, 1) := by decide +kernel
theorem dX11_life_63 : decode cX11_life 63 = .ok (.invokevirtual 169, 3) := by decide +kernel
theorem dX11_life_66 : decode cX11_life 66 = .ok (.ifCond .ne 8, 3) := by decide +kernel
theorem dX11_life_69 : decode cX11_life 69 = .ok (.aload_n 0, 1) := by decide +kernel
theorem dX11_life_70 : decode cX11_life 70 = .ok (.iconst 2, 1) := by decide +kernel
theorem dX11_life_71 : decode cX11_life 71 = .ok (.invokevirtual 146, 3) := by decide +kernel
theorem dX11_life_74 : decode cX11_life 74 = .ok (.aload_n 0, 1) := by decide +kernel
theorem dX11_life_75 : decode cX11_life 75 = .ok (.getfield 24, 3) := by decide +kernel
theorem dX11_life_78 : decode cX11_life 78 = .ok (.iconst 3, 1) := by decide +kernel
theorem dX11_life_79 : decode cX11_life 79 = .ok (.aload_n 0, 1) := by decide +kernel
theorem dX11_life_80 : decode cX11_life 80 = .ok (.iconst 0, 1) := by decide +kernel
theorem dX11_life_81 : decode cX11_life 81 = .ok (.bipush 40, 2) := by decide +kernel
theorem dX11_life_83 : decode cX11_life 83 = .ok (.invokevirtual 187, 3) := by decide +kernel
theorem dX11_life_86 : decode cX11_life 86 = .ok (.iastore, 1) := by decide +kernel
theorem dX11_life_87 : decode cX11_life 87 = .ok (.aload_n 0, 1) := by decide +kernel
theorem dX11_life_88 : decode cX11_life 88 = .ok (.invokevirtual 206, 3) := by decide +kernel
theorem dX11_life_91 : decode cX11_life 91 = .ok (.aload_n 0, 1) := by decide +kernel
theorem dX11_life_92 : decode cX11_life 92 = .ok (.getfield 134, 3) := by decide +kernel
theorem dX11_life_95 : decode cX11_life 95 = .ok (.ifCond .ne 23, 3) := by decide +kernel
theorem dX11_life_98 : decode cX11_life 98 = .ok (.aload_n 0, 1) := by decide +kernel
theorem dX11_life_99 : decode cX11_life 99 = .ok (.getfield 116, 3) := by decide +kernel
theorem dX11_life_102 : decode cX11_life 102 = .ok (.bipush 24, 2) := by decide +kernel
theorem dX11_life_104 : decode cX11_life 104 = .ok (.if_icmp .eq 14, 3) := by decide +kernel
theorem dX11_life_107 : decode cX11_life 107 = .ok (.aload_n 0, 1) := by decide +kernel
theorem dX11_life_108 : decode cX11_life 108 = .ok (.invokevirtual 209, 3) := by decide +kernel
theorem dX11_life_111 : decode cX11_life 111 = .ok (.aload_n 0, 1) := by decide +kernel
theorem dX11_life_112 : decode cX11_life 112 = .ok (.invokevirtual 206, 3) := by decide +kernel
theorem dX11_life_115 : decode cX11_life 115 = .ok (.goto (-24), 3) := by decide +kernel
theorem dX11_life_118 : decode cX11_life 118 = .ok (.aload_n 0, 1) := by decide +kernel
theorem dX11_life_119 : decode cX11_life 119 = .ok (.aload_n 0, 1) := by decide +kernel
theorem dX11_life_120 : decode cX11_life 120 = .ok (.getfield 134, 3) := by decide +kernel
theorem dX11_life_123 : decode cX11_life 123 = .ok (.putfield 212, 3) := by decide +kernel
theorem dX11_life_126 : decode cX11_life 126 = .ok (.aload_n 0, 1) := by decide +kernel
theorem dX11_life_127 : decode cX11_life 127 = .ok (.aload_n 0, 1) := by decide +kernel
theorem dX11_life_128 : decode cX11_life 128 = .ok (.getfield 134, 3) := by decide +kernel
theorem dX11_life_131 : decode cX11_life 131 = .ok (.ifCond .ne 7, 3) := by decide +kernel
theorem dX11_life_134 : decode cX11_life 134 = .ok (.iconst (-1), 1) := by decide +kernel
theorem dX11_life_135 : decode cX11_life 135 = .ok (.goto 7, 3) := by decide +kernel
theorem dX11_life_138 : decode cX11_life 138 = .ok (.aload_n 0, 1) := by decide +kernel
theorem dX11_life_139 : decode cX11_life 139 = .ok (.getfield 137, 3) := by decide +kernel
theorem dX11_life_142 : decode cX11_life 142 = .ok (.putfield 27, 3) := by decide +kernel
theorem dX11_life_145 : decode cX11_life 145 = .ok (.aload_n 0, 1) := by decide +kernel
theorem dX11_life_146 : decode cX11_life 146 = .ok (.getfield 134, 3) := by decide +kernel
theorem dX11_life_149 : decode cX11_life 149 = .ok (.ifCond .eq 11, 3) := by decide +kernel
theorem dX11_life_152 : decode cX11_life 152 = .ok (.bipush (-30), 2) := by decide +kernel
theorem dX11_life_154 : decode cX11_life 154 = .ok (.aload_n 0, 1) := by decide +kernel
theorem dX11_life_155 : decode cX11_life 155 = .ok (.getfield 134, 3) := by decide +kernel
theorem dX11_life_158 : decode cX11_life 158 = .ok (.isub, 1) := by decide +kernel
theorem dX11_life_159 : decode cX11_life 159 = .ok (.ireturn, 1) := by decide +kernel
theorem dX11_life_160 : decode cX11_life 160 = .ok (.iconst 0, 1) := by decide +kernel
theorem dX11_life_161 : decode cX11_life 161 = .ok (.istore_n 2, 1) := by decide +kernel
theorem dX11_life_162 : decode cX11_life 162 = .ok (.iload_n 2, 1) := by decide +kernel
theorem dX11_life_163 : decode cX11_life 163 = .ok (.sipush 1075, 3) := by decide +kernel
theorem dX11_life_166 : decode cX11_life 166 = .ok (.if_icmp .ge 21, 3) := by decide +kernel
theorem dX11_life_169 : decode cX11_life 169 = .ok (.aload_n 0, 1) := by decide +kernel
theorem dX11_life_170 : decode cX11_life 170 = .ok (.getfield 13, 3) := by decide +kernel
theorem dX11_life_173 : decode cX11_life 173 = .ok (.iload_n 2, 1) := by decide +kernel
theorem dX11_life_174 : decode cX11_life 174 = .ok (.aload_n 0, 1) := by decide +kernel
theorem dX11_life_175 : decode cX11_life 175 = .ok (.getfield 24, 3) := by decide +kernel
theorem dX11_life_178 : decode cX11_life 178 = .ok (.iload_n 2, 1) := by decide +kernel
theorem dX11_life_179 : decode cX11_life 179 = .ok (.iaload, 1) := by decide +kernel
theorem dX11_life_180 : decode cX11_life 180 = .ok (.iastore, 1) := by decide +kernel
theorem dX11_life_181 : decode cX11_life 181 = .ok (.iinc 2 1, 3) := by decide +kernel
theorem dX11_life_184 : decode cX11_life 184 = .ok (.goto (-22), 3) := by decide +kernel
theorem dX11_life_187 : decode cX11_life 187 = .ok (.aload_n 0, 1) := by decide +kernel
theorem dX11_life_188 : decode cX11_life 188 = .ok (.getfield 13, 3) := by decide +kernel
theorem dX11_life_191 : decode cX11_life 191 = .ok (.iconst 0, 1) := by decide +kernel
theorem dX11_life_192 : decode cX11_life 192 = .ok (.iaload, 1) := by decide +kernel
theorem dX11_life_193 : decode cX11_life 193 = .ok (.ireturn, 1) := by decide +kernel
theorem dX11_fault_0 : decode cX11_fault 0 = .ok (.aload_n 0, 1) := by decide +kernel
theorem dX11_fault_1 : decode cX11_fault 1 = .ok (.iconst 0, 1) := by decide +kernel
theorem dX11_fault_2 : decode cX11_fault 2 = .ok (.putfield 1, 3) := by decide +kernel
theorem dX11_fault_5 : decode cX11_fault 5 = .ok (.iload_n 1, 1) := by decide +kernel
theorem dX11_fault_6 : decode cX11_fault 6 = .ok (.ifCond .ne 10, 3) := by decide +kernel
theorem dX11_fault_9 : decode cX11_fault 9 = .ok (.aload_n 0, 1) := by decide +kernel
theorem dX11_fault_10 : decode cX11_fault 10 = .ok (.getfield 212, 3) := by decide +kernel
theorem dX11_fault_13 : decode cX11_fault 13 = .ok (.goto 16, 3) := by decide +kernel
theorem dX11_fault_16 : decode cX11_fault 16 = .ok (.iload_n 1, 1) := by decide +kernel
theorem dX11_fault_17 : decode cX11_fault 17 = .ok (.iconst 1, 1) := by decide +kernel
theorem dX11_fault_18 : decode cX11_fault 18 = .ok (.if_icmp .ne 10, 3) := by decide +kernel
theorem dX11_fault_21 : decode cX11_fault 21 = .ok (.aload_n 0, 1) := by decide +kernel
theorem dX11_fault_22 : decode cX11_fault 22 = .ok (.getfield 27, 3) := by decide +kernel
theorem dX11_fault_25 : decode cX11_fault 25 = .ok (.goto 4, 3) := by decide +kernel
theorem dX11_fault_28 : decode cX11_fault 28 = .ok (.iconst (-1), 1) := by decide +kernel
theorem dX11_fault_29 : decode cX11_fault 29 = .ok (.ireturn, 1) := by decide +kernel
theorem dX11_isDoing_0 : decode cX11_isDoing 0 = .ok (.lload_n 1, 1) := by decide +kernel
theorem dX11_isDoing_1 : decode cX11_isDoing 1 = .ok (.lconst 0, 1) := by decide +kernel
theorem dX11_isDoing_2 : decode cX11_isDoing 2 = .ok (.aload_n 0, 1) := by decide +kernel
theorem dX11_isDoing_3 : decode cX11_isDoing 3 = .ok (.getfield 13, 3) := by decide +kernel
theorem dX11_isDoing_6 : decode cX11_isDoing 6 = .ok (.iconst 1, 1) := by decide +kernel
theorem dX11_isDoing_7 : decode cX11_isDoing 7 = .ok (.iaload, 1) := by decide +kernel
theorem dX11_isDoing_8 : decode cX11_isDoing 8 = .ok (.iconst 1, 1) := by decide +kernel
theorem dX11_isDoing_9 : decode cX11_isDoing 9 = .ok (.isub, 1) := by decide +kernel
theorem dX11_isDoing_10 : decode cX11_isDoing 10 = .ok (.i2l, 1) := by decide +kernel
theorem dX11_isDoing_11 : decode cX11_isDoing 11 = .ok (.invokestatic 150, 3) := by decide +kernel
theorem dX11_isDoing_14 : decode cX11_isDoing 14 = .ok (.ireturn, 1) := by decide +kernel
theorem dX11_isSet_0 : decode cX11_isSet 0 = .ok (.iload_n 1, 1) := by decide +kernel
theorem dX11_isSet_1 : decode cX11_isSet 1 = .ok (.ifCond .lt 19, 3) := by decide +kernel
theorem dX11_isSet_4 : decode cX11_isSet 4 = .ok (.iload_n 1, 1) := by decide +kernel
theorem dX11_isSet_5 : decode cX11_isSet 5 = .ok (.iconst 1, 1) := by decide +kernel
theorem dX11_isSet_6 : decode cX11_isSet 6 = .ok (.aload_n 0, 1) := by decide +kernel
theorem dX11_isSet_7 : decode cX11_isSet 7 = .ok (.getfield 13, 3) := by decide +kernel
theorem dX11_isSet_10 : decode cX11_isSet 10 = .ok (.iconst 1, 1) := by decide +kernel
theorem dX11_isSet_11 : decode cX11_isSet 11 = .ok (.iaload, 1) := by decide +kernel
theorem dX11_isSet_12 : decode cX11_isSet 12 = .ok (.ishl, 1) := by decide +kernel
theorem dX11_isSet_13 : decode cX11_isSet 13 = .ok (.if_icmp .ge 7, 3) := by decide +kernel
theorem dX11_isSet_16 : decode cX11_isSet 16 = .ok (.iconst 1, 1) := by decide +kernel
theorem dX11_isSet_17 : decode cX11_isSet 17 = .ok (.goto 4, 3) := by decide +kernel
theorem dX11_isSet_20 : decode cX11_isSet 20 = .ok (.iconst 0, 1) := by decide +kernel
theorem dX11_isSet_21 : decode cX11_isSet 21 = .ok (.ireturn, 1) := by decide +kernel
theorem dX11_bitsOf_0 : decode cX11_bitsOf 0 = .ok (.iconst 0, 1) := by decide +kernel
theorem dX11_bitsOf_1 : decode cX11_bitsOf 1 = .ok (.istore_n 1, 1) := by decide +kernel
theorem dX11_bitsOf_2 : decode cX11_bitsOf 2 = .ok (.iconst 0, 1) := by decide +kernel
theorem dX11_bitsOf_3 : decode cX11_bitsOf 3 = .ok (.istore_n 2, 1) := by decide +kernel
theorem dX11_bitsOf_4 : decode cX11_bitsOf 4 = .ok (.iload_n 2, 1) := by decide +kernel
theorem dX11_bitsOf_5 : decode cX11_bitsOf 5 = .ok (.bipush 10, 2) := by decide +kernel
theorem dX11_bitsOf_7 : decode cX11_bitsOf 7 = .ok (.if_icmp .ge 17, 3) := by decide +kernel
theorem dX11_bitsOf_10 : decode cX11_bitsOf 10 = .ok (.iload_n 1, 1) := by decide +kernel
theorem dX11_bitsOf_11 : decode cX11_bitsOf 11 = .ok (.iload_n 0, 1) := by decide +kernel
theorem dX11_bitsOf_12 : decode cX11_bitsOf 12 = .ok (.iload_n 2, 1) := by decide +kernel
theorem dX11_bitsOf_13 : decode cX11_bitsOf 13 = .ok (.ishr, 1) := by decide +kernel
theorem dX11_bitsOf_14 : decode cX11_bitsOf 14 = .ok (.iconst 1, 1) := by decide +kernel
theorem dX11_bitsOf_15 : decode cX11_bitsOf 15 = .ok (.iand, 1) := by decide +kernel
theorem dX11_bitsOf_16 : decode cX11_bitsOf 16 = .ok (.iadd, 1) := by decide +kernel
theorem dX11_bitsOf_17 : decode cX11_bitsOf 17 = .ok (.istore_n 1, 1) := by decide +kernel
theorem dX11_bitsOf_18 : decode cX11_bitsOf 18 = .ok (.iinc 2 1, 3) := by decide +kernel
theorem dX11_bitsOf_21 : decode cX11_bitsOf 21 = .ok (.goto (-17), 3) := by decide +kernel
theorem dX11_bitsOf_24 : decode cX11_bitsOf 24 = .ok (.iload_n 1, 1) := by decide +kernel
theorem dX11_bitsOf_25 : decode cX11_bitsOf 25 = .ok (.ireturn, 1) := by decide +kernel
theorem dX11_howIn_0 : decode cX11_howIn 0 = .ok (.iload_n 0, 1) := by decide +kernel
theorem dX11_howIn_1 : decode cX11_howIn 1 = .ok (.iconst 2, 1) := by decide +kernel
theorem dX11_howIn_2 : decode cX11_howIn 2 = .ok (.iload_n 1, 1) := by decide +kernel
theorem dX11_howIn_3 : decode cX11_howIn 3 = .ok (.imul, 1) := by decide +kernel
theorem dX11_howIn_4 : decode cX11_howIn 4 = .ok (.ishr, 1) := by decide +kernel
theorem dX11_howIn_5 : decode cX11_howIn 5 = .ok (.iconst 3, 1) := by decide +kernel
theorem dX11_howIn_6 : decode cX11_howIn 6 = .ok (.iand, 1) := by decide +kernel
theorem dX11_howIn_7 : decode cX11_howIn 7 = .ok (.ireturn, 1) := by decide +kernel
theorem dX11_withHow_0 : decode cX11_withHow 0 = .ok (.iload_n 0, 1) := by decide +kernel
theorem dX11_withHow_1 : decode cX11_withHow 1 = .ok (.iconst 3, 1) := by decide +kernel
theorem dX11_withHow_2 : decode cX11_withHow 2 = .ok (.iconst 2, 1) := by decide +kernel
theorem dX11_withHow_3 : decode cX11_withHow 3 = .ok (.iload_n 1, 1) := by decide +kernel
theorem dX11_withHow_4 : decode cX11_withHow 4 = .ok (.imul, 1) := by decide +kernel
theorem dX11_withHow_5 : decode cX11_withHow 5 = .ok (.ishl, 1) := by decide +kernel
theorem dX11_withHow_6 : decode cX11_withHow 6 = .ok (.iconst (-1), 1) := by decide +kernel
theorem dX11_withHow_7 : decode cX11_withHow 7 = .ok (.ixor, 1) := by decide +kernel
theorem dX11_withHow_8 : decode cX11_withHow 8 = .ok (.iand, 1) := by decide +kernel
theorem dX11_withHow_9 : decode cX11_withHow 9 = .ok (.iload_n 2, 1) := by decide +kernel
theorem dX11_withHow_10 : decode cX11_withHow 10 = .ok (.iconst 2, 1) := by decide +kernel
theorem dX11_withHow_11 : decode cX11_withHow 11 = .ok (.iload_n 1, 1) := by decide +kernel
theorem dX11_withHow_12 : decode cX11_withHow 12 = .ok (.imul, 1) := by decide +kernel
theorem dX11_withHow_13 : decode cX11_withHow 13 = .ok (.ishl, 1) := by decide +kernel
theorem dX11_withHow_14 : decode cX11_withHow 14 = .ok (.ior, 1) := by decide +kernel
theorem dX11_withHow_15 : decode cX11_withHow 15 = .ok (.ireturn, 1) := by decide +kernel
theorem dX11_standNow_0 : decode cX11_standNow 0 = .ok (.iconst 0, 1) := by decide +kernel
theorem dX11_standNow_1 : decode cX11_standNow 1 = .ok (.istore_n 1, 1) := by decide +kernel
theorem dX11_standNow_2 : decode cX11_standNow 2 = .ok (.iconst 0, 1) := by decide +kernel
theorem dX11_standNow_3 : decode cX11_standNow 3 = .ok (.istore_n 2, 1) := by decide +kernel
theorem dX11_standNow_4 : decode cX11_standNow 4 = .ok (.iload_n 2, 1) := by decide +kernel
theorem dX11_standNow_5 : decode cX11_standNow 5 = .ok (.bipush 8, 2) := by decide +kernel
theorem dX11_standNow_7 : decode cX11_standNow 7 = .ok (.if_icmp .ge 25, 3) := by decide +kernel
theorem dX11_standNow_10 : decode cX11_standNow 10 = .ok (.iload_n 1, 1) := by decide +kernel
theorem dX11_standNow_11 : decode cX11_standNow 11 = .ok (.aload_n 0, 1) := by decide +kernel
theorem dX11_standNow_12 : decode cX11_standNow 12 = .ok (.getfield 13, 3) := by decide +kernel
theorem dX11_standNow_15 : decode cX11_standNow 15 = .ok (.bipush 74, 2) := by decide +kernel
theorem dX11_standNow_17 : decode cX11_standNow 17 = .ok (.iload_n 2, 1) := by decide +kernel
theorem dX11_standNow_18 : decode cX11_standNow 18 = .ok (.iadd, 1) := by decide +kernel
theorem dX11_standNow_19 : decode cX11_standNow 19 = .ok (.iaload, 1) := by decide +kernel
theorem dX11_standNow_20 : decode cX11_standNow 20 = .ok (.iconst 2, 1) := by decide +kernel
theorem dX11_standNow_21 : decode cX11_standNow 21 = .ok (.iload_n 2, 1) := by decide +kernel
theorem dX11_standNow_22 : decode cX11_standNow 22 = .ok (.imul, 1) := by decide +kernel
theorem dX11_standNow_23 : decode cX11_standNow 23 = .ok (.ishl, 1) := by decide +kernel
theorem dX11_standNow_24 : decode cX11_standNow 24 = .ok (.ior, 1) := by decide +kernel
theorem dX11_standNow_25 : decode cX11_standNow 25 = .ok (.istore_n 1, 1) := by decide +kernel
theorem dX11_standNow_26 : decode cX11_standNow 26 = .ok (.iinc 2 1, 3) := by decide +kernel
theorem dX11_standNow_29 : decode cX11_standNow 29 = .ok (.goto (-25), 3) := by decide +kernel
theorem dX11_standNow_32 : decode cX11_standNow 32 = .ok (.iload_n 1, 1) := by decide +kernel
theorem dX11_standNow_33 : decode cX11_standNow 33 = .ok (.ireturn, 1) := by decide +kernel
theorem dX11_isStand_0 : decode cX11_isStand 0 = .ok (.iconst 0, 1) := by decide +kernel
theorem dX11_isStand_1 : decode cX11_isStand 1 = .ok (.istore_n 2, 1) := by decide +kernel
theorem dX11_isStand_2 : decode cX11_isStand 2 = .ok (.iload_n 2, 1) := by decide +kernel
theorem dX11_isStand_3 : decode cX11_isStand 3 = .ok (.bipush 8, 2) := by decide +kernel
theorem dX11_isStand_5 : decode cX11_isStand 5 = .ok (.if_icmp .ge 23, 3) := by decide +kernel
theorem dX11_isStand_8 : decode cX11_isStand 8 = .ok (.aload_n 0, 1) := by decide +kernel
theorem dX11_isStand_9 : decode cX11_isStand 9 = .ok (.getfield 13, 3) := by decide +kernel
theorem dX11_isStand_12 : decode cX11_isStand 12 = .ok (.bipush 74, 2) := by decide +kernel
theorem dX11_isStand_14 : decode cX11_isStand 14 = .ok (.iload_n 2, 1) := by decide +kernel
theorem dX11_isStand_15 : decode cX11_isStand 15 = .ok (.iadd, 1) := by decide +kernel
theorem dX11_isStand_16 : decode cX11_isStand 16 = .ok (.iload_n 1, 1) := by decide +kernel
theorem dX11_isStand_17 : decode cX11_isStand 17 = .ok (.iload_n 2, 1) := by decide +kernel
theorem dX11_isStand_18 : decode cX11_isStand 18 = .ok (.invokestatic 215, 3) := by decide +kernel
theorem dX11_isStand_21 : decode cX11_isStand 21 = .ok (.iastore, 1) := by decide +kernel
theorem dX11_isStand_22 : decode cX11_isStand 22 = .ok (.iinc 2 1, 3) := by decide +kernel
theorem dX11_isStand_25 : decode cX11_isStand 25 = .ok (.goto (-23), 3) := by decide +kernel
theorem dX11_isStand_28 : decode cX11_isStand 28 = .ok (.return_, 1) := by decide +kernel
theorem dX11_thoseIn_0 : decode cX11_thoseIn 0 = .ok (.iconst 0, 1) := by decide +kernel
theorem dX11_thoseIn_1 : decode cX11_thoseIn 1 = .ok (.istore_n 3, 1) := by decide +kernel
theorem dX11_thoseIn_2 : decode cX11_thoseIn 2 = .ok (.iconst 0, 1) := by decide +kernel
theorem dX11_thoseIn_3 : decode cX11_thoseIn 3 = .ok (.istore 4, 2) := by decide +kernel
theorem dX11_thoseIn_5 : decode cX11_thoseIn 5 = .ok (.iload 4, 2) := by decide +kernel
theorem dX11_thoseIn_7 : decode cX11_thoseIn 7 = .ok (.aload_n 0, 1) := by decide +kernel
theorem dX11_thoseIn_8 : decode cX11_thoseIn 8 = .ok (.getfield 13, 3) := by decide +kernel
theorem dX11_thoseIn_11 : decode cX11_thoseIn 11 = .ok (.iconst 1, 1) := by decide +kernel
theorem dX11_thoseIn_12 : decode cX11_thoseIn 12 = .ok (.iaload, 1) := by decide +kernel
theorem dX11_thoseIn_13 : decode cX11_thoseIn 13 = .ok (.if_icmp .ge 30, 3) := by decide +kernel
theorem dX11_thoseIn_16 : decode cX11_thoseIn 16 = .ok (.iload_n 3, 1) := by decide +kernel
theorem dX11_thoseIn_17 : decode cX11_thoseIn 17 = .ok (.iload_n 1, 1) := by decide +kernel
theorem dX11_thoseIn_18 : decode cX11_thoseIn 18 = .ok (.iload 4, 2) := by decide +kernel
theorem dX11_thoseIn_20 : decode cX11_thoseIn 20 = .ok (.invokestatic 215, 3) := by decide +kernel
theorem dX11_thoseIn_23 : decode cX11_thoseIn 23 = .ok (.iload_n 2, 1) := by decide +kernel
theorem dX11_thoseIn_24 : decode cX11_thoseIn 24 = .ok (.if_icmp .ne 10, 3) := by decide +kernel
theorem dX11_thoseIn_27 : decode cX11_thoseIn 27 = .ok (.iconst 1, 1) := by decide +kernel
theorem dX11_thoseIn_28 : decode cX11_thoseIn 28 = .ok (.iload 4, 2) := by decide +kernel
theorem dX11_thoseIn_30 : decode cX11_thoseIn 30 = .ok (.ishl, 1) := by decide +kernel
theorem dX11_thoseIn_31 : decode cX11_thoseIn 31 = .ok (.goto 4, 3) := by decide +kernel
theorem dX11_thoseIn_34 : decode cX11_thoseIn 34 = .ok (.iconst 0, 1) := by decide +kernel
theorem dX11_thoseIn_35 : decode cX11_thoseIn 35 = .ok (.ior, 1) := by decide +kernel
theorem dX11_thoseIn_36 : decode cX11_thoseIn 36 = .ok (.istore_n 3, 1) := by decide +kernel
theorem dX11_thoseIn_37 : decode cX11_thoseIn 37 = .ok (.iinc 4 1, 3) := by decide +kernel
theorem dX11_thoseIn_40 : decode cX11_thoseIn 40 = .ok (.goto (-35), 3) := by decide +kernel
theorem dX11_thoseIn_43 : decode cX11_thoseIn 43 = .ok (.iload_n 3, 1) := by decide +kernel
theorem dX11_thoseIn_44 : decode cX11_thoseIn 44 = .ok (.ireturn, 1) := by decide +kernel
theorem dX11_doneIn_0 : decode cX11_doneIn 0 = .ok (.aload_n 0, 1) := by decide +kernel
theorem dX11_doneIn_1 : decode cX11_doneIn 1 = .ok (.iload_n 1, 1) := by decide +kernel
theorem dX11_doneIn_2 : decode cX11_doneIn 2 = .ok (.iconst 1, 1) := by decide +kernel
theorem dX11_doneIn_3 : decode cX11_doneIn 3 = .ok (.invokevirtual 218, 3) := by decide +kernel
theorem dX11_doneIn_6 : decode cX11_doneIn 6 = .ok (.aload_n 0, 1) := by decide +kernel
theorem dX11_doneIn_7 : decode cX11_doneIn 7 = .ok (.iload_n 1, 1) := by decide +kernel
theorem dX11_doneIn_8 : decode cX11_doneIn 8 = .ok (.iconst 2, 1) := by decide +kernel
theorem dX11_doneIn_9 : decode cX11_doneIn 9 = .ok (.invokevirtual 218, 3) := by decide +kernel
theorem dX11_doneIn_12 : decode cX11_doneIn 12 = .ok (.ior, 1) := by decide +kernel
theorem dX11_doneIn_13 : decode cX11_doneIn 13 = .ok (.ireturn, 1) := by decide +kernel
theorem dX11_stubsIn_0 : decode cX11_stubsIn 0 = .ok (.aload_n 0, 1) := by decide +kernel
theorem dX11_stubsIn_1 : decode cX11_stubsIn 1 = .ok (.iload_n 1, 1) := by decide +kernel
theorem dX11_stubsIn_2 : decode cX11_stubsIn 2 = .ok (.iconst 1, 1) := by decide +kernel
theorem dX11_stubsIn_3 : decode cX11_stubsIn 3 = .ok (.invokevirtual 218, 3) := by decide +kernel
theorem dX11_stubsIn_6 : decode cX11_stubsIn 6 = .ok (.aload_n 0, 1) := by decide +kernel
theorem dX11_stubsIn_7 : decode cX11_stubsIn 7 = .ok (.iload_n 1, 1) := by decide +kernel
theorem dX11_stubsIn_8 : decode cX11_stubsIn 8 = .ok (.iconst 3, 1) := by decide +kernel
theorem dX11_stubsIn_9 : decode cX11_stubsIn 9 = .ok (.invokevirtual 218, 3) := by decide +kernel
theorem dX11_stubsIn_12 : decode cX11_stubsIn 12 = .ok (.ior, 1) := by decide +kernel
theorem dX11_stubsIn_13 : decode cX11_stubsIn 13 = .ok (.ireturn, 1) := by decide +kernel
theorem dX11_sizesOf_0 : decode cX11_sizesOf 0 = .ok (.iconst 0, 1) := by decide +kernel
theorem dX11_sizesOf_1 : decode cX11_sizesOf 1 = .ok (.istore_n 2, 1) := by decide +kernel
theorem dX11_sizesOf_2 : decode cX11_sizesOf 2 = .ok (.iconst 0, 1) := by decide +kernel
theorem dX11_sizesOf_3 : decode cX11_sizesOf 3 = .ok (.istore_n 3, 1) := by decide +kernel
theorem dX11_sizesOf_4 : decode cX11_sizesOf 4 = .ok (.iload_n 3, 1) := by decide +kernel
theorem dX11_sizesOf_5 : decode cX11_sizesOf 5 = .ok (.aload_n 0, 1) := by decide +kernel
theorem dX11_sizesOf_6 : decode cX11_sizesOf 6 = .ok (.getfield 13, 3) := by decide +kernel
theorem dX11_sizesOf_9 : decode cX11_sizesOf 9 = .ok (.iconst 1, 1) := by decide +kernel
theorem dX11_sizesOf_10 : decode cX11_sizesOf 10 = .ok (.iaload, 1) := by decide +kernel
theorem dX11_sizesOf_11 : decode cX11_sizesOf 11 = .ok (.if_icmp .ge 34, 3) := by decide +kernel
theorem dX11_sizesOf_14 : decode cX11_sizesOf 14 = .ok (.iload_n 2, 1) := by decide +kernel
theorem dX11_sizesOf_15 : decode cX11_sizesOf 15 = .ok (.iload_n 1, 1) := by decide +kernel
theorem dX11_sizesOf_16 : decode cX11_sizesOf 16 = .ok (.i2l, 1) := by decide +kernel
theorem dX11_sizesOf_17 : decode cX11_sizesOf 17 = .ok (.iload_n 3, 1) := by decide +kernel
theorem dX11_sizesOf_18 : decode cX11_sizesOf 18 = .ok (.invokestatic 221, 3) := by decide +kernel
theorem dX11_sizesOf_21 : decode cX11_sizesOf 21 = .ok (.ifCond .eq 15, 3) := by decide +kernel
theorem dX11_sizesOf_24 : decode cX11_sizesOf 24 = .ok (.aload_n 0, 1) := by decide +kernel
theorem dX11_sizesOf_25 : decode cX11_sizesOf 25 = .ok (.getfield 13, 3) := by decide +kernel
theorem dX11_sizesOf_28 : decode cX11_sizesOf 28 = .ok (.bipush 10, 2) := by decide +kernel
theorem dX11_sizesOf_30 : decode cX11_sizesOf 30 = .ok (.iload_n 3, 1) := by decide +kernel
theorem dX11_sizesOf_31 : decode cX11_sizesOf 31 = .ok (.iadd, 1) := by decide +kernel
theorem dX11_sizesOf_32 : decode cX11_sizesOf 32 = .ok (.iaload, 1) := by decide +kernel
theorem dX11_sizesOf_33 : decode cX11_sizesOf 33 = .ok (.goto 4, 3) := by decide +kernel
theorem dX11_sizesOf_36 : decode cX11_sizesOf 36 = .ok (.iconst 0, 1) := by decide +kernel
theorem dX11_sizesOf_37 : decode cX11_sizesOf 37 = .ok (.iadd, 1) := by decide +kernel
theorem dX11_sizesOf_38 : decode cX11_sizesOf 38 = .ok (.istore_n 2, 1) := by decide +kernel
theorem dX11_sizesOf_39 : decode cX11_sizesOf 39 = .ok (.iinc 3 1, 3) := by decide +kernel
theorem dX11_sizesOf_42 : decode cX11_sizesOf 42 = .ok (.goto (-38), 3) := by decide +kernel
theorem dX11_sizesOf_45 : decode cX11_sizesOf 45 = .ok (.iload_n 2, 1) := by decide +kernel
theorem dX11_sizesOf_46 : decode cX11_sizesOf 46 = .ok (.ireturn, 1) := by decide +kernel
theorem dX11_leftIn_0 : decode cX11_leftIn 0 = .ok (.aload_n 0, 1) := by decide +kernel
theorem dX11_leftIn_1 : decode cX11_leftIn 1 = .ok (.getfield 13, 3) := by decide +kernel
theorem dX11_leftIn_4 : decode cX11_leftIn 4 = .ok (.iconst 3, 1) := by decide +kernel
theorem dX11_leftIn_5 : decode cX11_leftIn 5 = .ok (.iaload, 1) := by decide +kernel
theorem dX11_leftIn_6 : decode cX11_leftIn 6 = .ok (.aload_n 0, 1) := by decide +kernel
theorem dX11_leftIn_7 : decode cX11_leftIn 7 = .ok (.aload_n 0, 1) := by decide +kernel
theorem dX11_leftIn_8 : decode cX11_leftIn 8 = .ok (.iload_n 1, 1) := by decide +kernel
theorem dX11_leftIn_9 : decode cX11_leftIn 9 = .ok (.invokevirtual 225, 3) := by decide +kernel
theorem dX11_leftIn_12 : decode cX11_leftIn 12 = .ok (.invokevirtual 228, 3) := by decide +kernel
theorem dX11_leftIn_15 : decode cX11_leftIn 15 = .ok (.isub, 1) := by decide +kernel
theorem dX11_leftIn_16 : decode cX11_leftIn 16 = .ok (.ireturn, 1) := by decide +kernel
theorem dX11_between_0 : decode cX11_between 0 = .ok (.iload_n 0, 1) := by decide +kernel
theorem dX11_between_1 : decode cX11_between 1 = .ok (.tableswitch 80 3003 3008 #[39, 50, 61, 80, 72, 76], 39) := by decide +kernel
theorem dX11_between_40 : decode cX11_between 40 = .ok (.iload_n 1, 1) := by decide +kernel
theorem dX11_between_41 : decode cX11_between 41 = .ok (.iload_n 2, 1) := by decide +kernel
theorem dX11_between_42 : decode cX11_between 42 = .ok (.if_icmp .ne 7, 3) := by decide +kernel
theorem dX11_between_45 : decode cX11_between 45 = .ok (.iconst 1, 1) := by decide +kernel
