theorem dX0_init_0 : decode cX0_init 0 = .ok (.aload_n 0, 1) := by decide +kernel
theorem dX0_init_1 : decode cX0_init 1 = .ok (.invokespecial 3, 3) := by decide +kernel
theorem dX0_init_4 : decode cX0_init 4 = .ok (.aload_n 0, 1) := by decide +kernel
theorem dX0_init_5 : decode cX0_init 5 = .ok (.bipush 8, 2) := by decide +kernel
theorem dX0_init_7 : decode cX0_init 7 = .ok (.newarray .int, 2) := by decide +kernel
theorem dX0_init_9 : decode cX0_init 9 = .ok (.putfield 9, 3) := by decide +kernel
theorem dX0_init_12 : decode cX0_init 12 = .ok (.return_, 1) := by decide +kernel
theorem dX0_part_0 : decode cX0_part 0 = .ok (.iconst 0, 1) := by decide +kernel
theorem dX0_part_1 : decode cX0_part 1 = .ok (.istore_n 3, 1) := by decide +kernel
theorem dX0_part_2 : decode cX0_part 2 = .ok (.iload_n 3, 1) := by decide +kernel
theorem dX0_part_3 : decode cX0_part 3 = .ok (.bipush 8, 2) := by decide +kernel
theorem dX0_part_5 : decode cX0_part 5 = .ok (.if_icmp .gt 26, 3) := by decide +kernel
theorem dX0_part_8 : decode cX0_part 8 = .ok (.aload_n 0, 1) := by decide +kernel
theorem dX0_part_9 : decode cX0_part 9 = .ok (.getfield 9, 3) := by decide +kernel
theorem dX0_part_12 : decode cX0_part 12 = .ok (.aload_n 1, 1) := by decide +kernel
theorem dX0_part_13 : decode cX0_part 13 = .ok (.iload_n 2, 1) := by decide +kernel
theorem dX0_part_14 : decode cX0_part 14 = .ok (.iconst 0, 1) := by decide +kernel
theorem dX0_part_15 : decode cX0_part 15 = .ok (.iconst 0, 1) := by decide +kernel
theorem dX0_part_16 : decode cX0_part 16 = .ok (.iload_n 3, 1) := by decide +kernel
theorem dX0_part_17 : decode cX0_part 17 = .ok (.invokestatic 15, 3) := by decide +kernel
theorem dX0_part_20 : decode cX0_part 20 = .ok (.ifCond .eq 5, 3) := by decide +kernel
theorem dX0_part_23 : decode cX0_part 23 = .ok (.iload_n 3, 1) := by decide +kernel
theorem dX0_part_24 : decode cX0_part 24 = .ok (.ireturn, 1) := by decide +kernel
theorem dX0_part_25 : decode cX0_part 25 = .ok (.iinc 3 1, 3) := by decide +kernel
theorem dX0_part_28 : decode cX0_part 28 = .ok (.goto (-26), 3) := by decide +kernel
theorem dX0_part_31 : decode cX0_part 31 = .ok (.iconst (-1), 1) := by decide +kernel
theorem dX0_part_32 : decode cX0_part 32 = .ok (.ireturn, 1) := by decide +kernel
theorem dX0_liningOf_0 : decode cX0_liningOf 0 = .ok (.iload_n 1, 1) := by decide +kernel
theorem dX0_liningOf_1 : decode cX0_liningOf 1 = .ok (.ifCond .lt 18, 3) := by decide +kernel
theorem dX0_liningOf_4 : decode cX0_liningOf 4 = .ok (.iload_n 1, 1) := by decide +kernel
theorem dX0_liningOf_5 : decode cX0_liningOf 5 = .ok (.bipush 8, 2) := by decide +kernel
theorem dX0_liningOf_7 : decode cX0_liningOf 7 = .ok (.if_icmp .ge 12, 3) := by decide +kernel
theorem dX0_liningOf_10 : decode cX0_liningOf 10 = .ok (.aload_n 0, 1) := by decide +kernel
theorem dX0_liningOf_11 : decode cX0_liningOf 11 = .ok (.getfield 9, 3) := by decide +kernel
theorem dX0_liningOf_14 : decode cX0_liningOf 14 = .ok (.iload_n 1, 1) := by decide +kernel
theorem dX0_liningOf_15 : decode cX0_liningOf 15 = .ok (.iaload, 1) := by decide +kernel
theorem dX0_liningOf_16 : decode cX0_liningOf 16 = .ok (.goto 4, 3) := by decide +kernel
theorem dX0_liningOf_19 : decode cX0_liningOf 19 = .ok (.iconst (-1), 1) := by decide +kernel
theorem dX0_liningOf_20 : decode cX0_liningOf 20 = .ok (.ireturn, 1) := by decide +kernel
theorem dX0_place_0 : decode cX0_place 0 = .ok (.iload_n 3, 1) := by decide +kernel
theorem dX0_place_1 : decode cX0_place 1 = .ok (.bipush 8, 2) := by decide +kernel
theorem dX0_place_3 : decode cX0_place 3 = .ok (.if_icmp .ge 9, 3) := by decide +kernel
theorem dX0_place_6 : decode cX0_place 6 = .ok (.iload_n 3, 1) := by decide +kernel
theorem dX0_place_7 : decode cX0_place 7 = .ok (.aload_n 0, 1) := by decide +kernel
theorem dX0_place_8 : decode cX0_place 8 = .ok (.arraylength, 1) := by decide +kernel
theorem dX0_place_9 : decode cX0_place 9 = .ok (.if_icmp .lt 5, 3) := by decide +kernel
theorem dX0_place_12 : decode cX0_place 12 = .ok (.iconst 1, 1) := by decide +kernel
theorem dX0_place_13 : decode cX0_place 13 = .ok (.ireturn, 1) := by decide +kernel
theorem dX0_place_14 : decode cX0_place 14 = .ok (.iload_n 2, 1) := by decide +kernel
theorem dX0_place_15 : decode cX0_place 15 = .ok (.iload_n 3, 1) := by decide +kernel
theorem dX0_place_16 : decode cX0_place 16 = .ok (.ishr, 1) := by decide +kernel
theorem dX0_place_17 : decode cX0_place 17 = .ok (.iconst 1, 1) := by decide +kernel
theorem dX0_place_18 : decode cX0_place 18 = .ok (.iand, 1) := by decide +kernel
theorem dX0_place_19 : decode cX0_place 19 = .ok (.ifCond .ne 21, 3) := by decide +kernel
theorem dX0_place_22 : decode cX0_place 22 = .ok (.aload_n 0, 1) := by decide +kernel
theorem dX0_place_23 : decode cX0_place 23 = .ok (.iload_n 3, 1) := by decide +kernel
theorem dX0_place_24 : decode cX0_place 24 = .ok (.iconst (-1), 1) := by decide +kernel
theorem dX0_place_25 : decode cX0_place 25 = .ok (.iastore, 1) := by decide +kernel
theorem dX0_place_26 : decode cX0_place 26 = .ok (.aload_n 0, 1) := by decide +kernel
theorem dX0_place_27 : decode cX0_place 27 = .ok (.aload_n 1, 1) := by decide +kernel
theorem dX0_place_28 : decode cX0_place 28 = .ok (.iload_n 2, 1) := by decide +kernel
theorem dX0_place_29 : decode cX0_place 29 = .ok (.iload_n 3, 1) := by decide +kernel
theorem dX0_place_30 : decode cX0_place 30 = .ok (.iconst 1, 1) := by decide +kernel
theorem dX0_place_31 : decode cX0_place 31 = .ok (.iadd, 1) := by decide +kernel
theorem dX0_place_32 : decode cX0_place 32 = .ok (.iload 4, 2) := by decide +kernel
theorem dX0_place_34 : decode cX0_place 34 = .ok (.iload 5, 2) := by decide +kernel
theorem dX0_place_36 : decode cX0_place 36 = .ok (.invokestatic 15, 3) := by decide +kernel
theorem dX0_place_39 : decode cX0_place 39 = .ok (.ireturn, 1) := by decide +kernel
theorem dX0_place_40 : decode cX0_place 40 = .ok (.iconst 0, 1) := by decide +kernel
theorem dX0_place_41 : decode cX0_place 41 = .ok (.istore 6, 2) := by decide +kernel
theorem dX0_place_43 : decode cX0_place 43 = .ok (.iload 6, 2) := by decide +kernel
theorem dX0_place_45 : decode cX0_place 45 = .ok (.iload 4, 2) := by decide +kernel
theorem dX0_place_47 : decode cX0_place 47 = .ok (.if_icmp .gt 55, 3) := by decide +kernel
theorem dX0_place_50 : decode cX0_place 50 = .ok (.iload 6, 2) := by decide +kernel
theorem dX0_place_52 : decode cX0_place 52 = .ok (.iload 5, 2) := by decide +kernel
theorem dX0_place_54 : decode cX0_place 54 = .ok (.if_icmp .ge 48, 3) := by decide +kernel
theorem dX0_place_57 : decode cX0_place 57 = .ok (.aload_n 0, 1) := by decide +kernel
theorem dX0_place_58 : decode cX0_place 58 = .ok (.iload_n 3, 1) := by decide +kernel
theorem dX0_place_59 : decode cX0_place 59 = .ok (.iload 6, 2) := by decide +kernel
theorem dX0_place_61 : decode cX0_place 61 = .ok (.iastore, 1) := by decide +kernel
theorem dX0_place_62 : decode cX0_place 62 = .ok (.aload_n 0, 1) := by decide +kernel
theorem dX0_place_63 : decode cX0_place 63 = .ok (.aload_n 1, 1) := by decide +kernel
theorem dX0_place_64 : decode cX0_place 64 = .ok (.iload_n 3, 1) := by decide +kernel
theorem dX0_place_65 : decode cX0_place 65 = .ok (.invokestatic 19, 3) := by decide +kernel
theorem dX0_place_68 : decode cX0_place 68 = .ok (.ifCond .eq 28, 3) := by decide +kernel
theorem dX0_place_71 : decode cX0_place 71 = .ok (.aload_n 0, 1) := by decide +kernel
theorem dX0_place_72 : decode cX0_place 72 = .ok (.aload_n 1, 1) := by decide +kernel
theorem dX0_place_73 : decode cX0_place 73 = .ok (.iload_n 2, 1) := by decide +kernel
theorem dX0_place_74 : decode cX0_place 74 = .ok (.iload_n 3, 1) := by decide +kernel
theorem dX0_place_75 : decode cX0_place 75 = .ok (.iconst 1, 1) := by decide +kernel
theorem dX0_place_76 : decode cX0_place 76 = .ok (.iadd, 1) := by decide +kernel
theorem dX0_place_77 : decode cX0_place 77 = .ok (.iload 4, 2) := by decide +kernel
theorem dX0_place_79 : decode cX0_place 79 = .ok (.iload 6, 2) := by decide +kernel
theorem dX0_place_81 : decode cX0_place 81 = .ok (.iconst 1, 1) := by decide +kernel
theorem dX0_place_82 : decode cX0_place 82 = .ok (.iadd, 1) := by decide +kernel
theorem dX0_place_83 : decode cX0_place 83 = .ok (.invokestatic 23, 3) := by decide +kernel
theorem dX0_place_86 : decode cX0_place 86 = .ok (.iload 5, 2) := by decide +kernel
theorem dX0_place_88 : decode cX0_place 88 = .ok (.invokestatic 15, 3) := by decide +kernel
theorem dX0_place_91 : decode cX0_place 91 = .ok (.ifCond .eq 5, 3) := by decide +kernel
theorem dX0_place_94 : decode cX0_place 94 = .ok (.iconst 1, 1) := by decide +kernel
theorem dX0_place_95 : decode cX0_place 95 = .ok (.ireturn, 1) := by decide +kernel
theorem dX0_place_96 : decode cX0_place 96 = .ok (.iinc 6 1, 3) := by decide +kernel
theorem dX0_place_99 : decode cX0_place 99 = .ok (.goto (-56), 3) := by decide +kernel
theorem dX0_place_102 : decode cX0_place 102 = .ok (.iconst 0, 1) := by decide +kernel
theorem dX0_place_103 : decode cX0_place 103 = .ok (.ireturn, 1) := by decide +kernel
theorem dX0_fits_0 : decode cX0_fits 0 = .ok (.iconst 0, 1) := by decide +kernel
theorem dX0_fits_1 : decode cX0_fits 1 = .ok (.istore_n 3, 1) := by decide +kernel
theorem dX0_fits_2 : decode cX0_fits 2 = .ok (.iload_n 3, 1) := by decide +kernel
theorem dX0_fits_3 : decode cX0_fits 3 = .ok (.iload_n 2, 1) := by decide +kernel
theorem dX0_fits_4 : decode cX0_fits 4 = .ok (.if_icmp .ge 34, 3) := by decide +kernel
theorem dX0_fits_7 : decode cX0_fits 7 = .ok (.aload_n 0, 1) := by decide +kernel
theorem dX0_fits_8 : decode cX0_fits 8 = .ok (.iload_n 3, 1) := by decide +kernel
theorem dX0_fits_9 : decode cX0_fits 9 = .ok (.iaload, 1) := by decide +kernel
theorem dX0_fits_10 : decode cX0_fits 10 = .ok (.aload_n 0, 1) := by decide +kernel
theorem dX0_fits_11 : decode cX0_fits 11 = .ok (.iload_n 2, 1) := by decide +kernel
theorem dX0_fits_12 : decode cX0_fits 12 = .ok (.iaload, 1) := by decide +kernel
theorem dX0_fits_13 : decode cX0_fits 13 = .ok (.if_icmp .ne 19, 3) := by decide +kernel
theorem dX0_fits_16 : decode cX0_fits 16 = .ok (.aload_n 1, 1) := by decide +kernel
theorem dX0_fits_17 : decode cX0_fits 17 = .ok (.getfield 29, 3) := by decide +kernel
theorem dX0_fits_20 : decode cX0_fits 20 = .ok (.iload_n 2, 1) := by decide +kernel
theorem dX0_fits_21 : decode cX0_fits 21 = .ok (.iaload, 1) := by decide +kernel
theorem dX0_fits_22 : decode cX0_fits 22 = .ok (.iload_n 3, 1) := by decide +kernel
theorem dX0_fits_23 : decode cX0_fits 23 = .ok (.ishr, 1) := by decide +kernel
theorem dX0_fits_24 : decode cX0_fits 24 = .ok (.iconst 1, 1) := by decide +kernel
theorem dX0_fits_25 : decode cX0_fits 25 = .ok (.iand, 1) := by decide +kernel
theorem dX0_fits_26 : decode cX0_fits 26 = .ok (.iconst 1, 1) := by decide +kernel
theorem dX0_fits_27 : decode cX0_fits 27 = .ok (.if_icmp .ne 5, 3) := by decide +kernel
theorem dX0_fits_30 : decode cX0_fits 30 = .ok (.iconst 0, 1) := by decide +kernel
theorem dX0_fits_31 : decode cX0_fits 31 = .ok (.ireturn, 1) := by decide +kernel
theorem dX0_fits_32 : decode cX0_fits 32 = .ok (.iinc 3 1, 3) := by decide +kernel
theorem dX0_fits_35 : decode cX0_fits 35 = .ok (.goto (-33), 3) := by decide +kernel
theorem dX0_fits_38 : decode cX0_fits 38 = .ok (.iconst 1, 1) := by decide +kernel
theorem dX0_fits_39 : decode cX0_fits 39 = .ok (.ireturn, 1) := by decide +kernel
theorem dX0_greatest_0 : decode cX0_greatest 0 = .ok (.iconst 0, 1) := by decide +kernel
theorem dX0_greatest_1 : decode cX0_greatest 1 = .ok (.istore_n 3, 1) := by decide +kernel
theorem dX0_greatest_2 : decode cX0_greatest 2 = .ok (.iconst 1, 1) := by decide +kernel
theorem dX0_greatest_3 : decode cX0_greatest 3 = .ok (.istore 4, 2) := by decide +kernel
theorem dX0_greatest_5 : decode cX0_greatest 5 = .ok (.iload 4, 2) := by decide +kernel
theorem dX0_greatest_7 : decode cX0_greatest 7 = .ok (.sipush 256, 3) := by decide +kernel
theorem dX0_greatest_10 : decode cX0_greatest 10 = .ok (.if_icmp .ge 42, 3) := by decide +kernel
theorem dX0_greatest_13 : decode cX0_greatest 13 = .ok (.iload 4, 2) := by decide +kernel
theorem dX0_greatest_15 : decode cX0_greatest 15 = .ok (.iload_n 2, 1) := by decide +kernel
theorem dX0_greatest_16 : decode cX0_greatest 16 = .ok (.iconst (-1), 1) := by decide +kernel
theorem dX0_greatest_17 : decode cX0_greatest 17 = .ok (.ixor, 1) := by decide +kernel
theorem dX0_greatest_18 : decode cX0_greatest 18 = .ok (.iand, 1) := by decide +kernel
theorem dX0_greatest_19 : decode cX0_greatest 19 = .ok (.ifCond .ne 27, 3) := by decide +kernel
theorem dX0_greatest_22 : decode cX0_greatest 22 = .ok (.iload 4, 2) := by decide +kernel
theorem dX0_greatest_24 : decode cX0_greatest 24 = .ok (.invokestatic 34, 3) := by decide +kernel
theorem dX0_greatest_27 : decode cX0_greatest 27 = .ok (.iload_n 3, 1) := by decide +kernel
theorem dX0_greatest_28 : decode cX0_greatest 28 = .ok (.invokestatic 34, 3) := by decide +kernel
theorem dX0_greatest_31 : decode cX0_greatest 31 = .ok (.if_icmp .le 15, 3) := by decide +kernel
theorem dX0_greatest_34 : decode cX0_greatest 34 = .ok (.aload_n 1, 1) := by decide +kernel
theorem dX0_greatest_35 : decode cX0_greatest 35 = .ok (.iload 4, 2) := by decide +kernel
theorem dX0_greatest_37 : decode cX0_greatest 37 = .ok (.invokestatic 40, 3) := by decide +kernel
theorem dX0_greatest_40 : decode cX0_greatest 40 = .ok (.ifCond .eq 6, 3) := by decide +kernel
theorem dX0_greatest_43 : decode cX0_greatest 43 = .ok (.iload 4, 2) := by decide +kernel
theorem dX0_greatest_45 : decode cX0_greatest 45 = .ok (.istore_n 3, 1) := by decide +kernel
theorem dX0_greatest_46 : decode cX0_greatest 46 = .ok (.iinc 4 1, 3) := by decide +kernel
theorem dX0_greatest_49 : decode cX0_greatest 49 = .ok (.goto (-44), 3) := by decide +kernel
theorem dX0_greatest_52 : decode cX0_greatest 52 = .ok (.iload_n 3, 1) := by decide +kernel
theorem dX0_greatest_53 : decode cX0_greatest 53 = .ok (.ireturn, 1) := by decide +kernel
theorem dX0_allClash_0 : decode cX0_allClash 0 = .ok (.iconst 0, 1) := by decide +kernel
theorem dX0_allClash_1 : decode cX0_allClash 1 = .ok (.istore_n 2, 1) := by decide +kernel
theorem dX0_allClash_2 : decode cX0_allClash 2 = .ok (.iload_n 2, 1) := by decide +kernel
theorem dX0_allClash_3 : decode cX0_allClash 3 = .ok (.bipush 8, 2) := by decide +kernel
theorem dX0_allClash_5 : decode cX0_allClash 5 = .ok (.if_icmp .ge 37, 3) := by decide +kernel
theorem dX0_allClash_8 : decode cX0_allClash 8 = .ok (.iload_n 1, 1) := by decide +kernel
theorem dX0_allClash_9 : decode cX0_allClash 9 = .ok (.iconst 1, 1) := by decide +kernel
theorem dX0_allClash_10 : decode cX0_allClash 10 = .ok (.iload_n 2, 1) := by decide +kernel
theorem dX0_allClash_11 : decode cX0_allClash 11 = .ok (.ishl, 1) := by decide +kernel
theorem dX0_allClash_12 : decode cX0_allClash 12 = .ok (.iconst (-1), 1) := by decide +kernel
theorem dX0_allClash_13 : decode cX0_allClash 13 = .ok (.ixor, 1) := by decide +kernel
theorem dX0_allClash_14 : decode cX0_allClash 14 = .ok (.iand, 1) := by decide +kernel
theorem dX0_allClash_15 : decode cX0_allClash 15 = .ok (.istore_n 3, 1) := by decide +kernel
theorem dX0_allClash_16 : decode cX0_allClash 16 = .ok (.iload_n 3, 1) := by decide +kernel
theorem dX0_allClash_17 : decode cX0_allClash 17 = .ok (.iload_n 1, 1) := by decide +kernel
theorem dX0_allClash_18 : decode cX0_allClash 18 = .ok (.if_icmp .eq 18, 3) := by decide +kernel
theorem dX0_allClash_21 : decode cX0_allClash 21 = .ok (.iload_n 3, 1) := by decide +kernel
theorem dX0_allClash_22 : decode cX0_allClash 22 = .ok (.aload_n 0, 1) := by decide +kernel
theorem dX0_allClash_23 : decode cX0_allClash 23 = .ok (.getfield 29, 3) := by decide +kernel
theorem dX0_allClash_26 : decode cX0_allClash 26 = .ok (.iload_n 2, 1) := by decide +kernel
theorem dX0_allClash_27 : decode cX0_allClash 27 = .ok (.iaload, 1) := by decide +kernel
theorem dX0_allClash_28 : decode cX0_allClash 28 = .ok (.iconst (-1), 1) := by decide +kernel
theorem dX0_allClash_29 : decode cX0_allClash 29 = .ok (.ixor, 1) := by decide +kernel
theorem dX0_allClash_30 : decode cX0_allClash 30 = .ok (.iand, 1) := by decide +kernel
theorem dX0_allClash_31 : decode cX0_allClash 31 = .ok (.ifCond .eq 5, 3) := by decide +kernel
theorem dX0_allClash_34 : decode cX0_allClash 34 = .ok (.iconst 0, 1) := by decide +kernel
theorem dX0_allClash_35 : decode cX0_allClash 35 = .ok (.ireturn, 1) := by decide +kernel
theorem dX0_allClash_36 : decode cX0_allClash 36 = .ok (.iinc 2 1, 3) := by decide +kernel
theorem dX0_allClash_39 : decode cX0_allClash 39 = .ok (.goto (-37), 3) := by decide +kernel
theorem dX0_allClash_42 : decode cX0_allClash 42 = .ok (.iconst 1, 1) := by decide +kernel
theorem dX0_allClash_43 : decode cX0_allClash 43 = .ok (.ireturn, 1) := by decide +kernel
theorem dX1_init_0 : decode cX1_init 0 = .ok (.aload_n 0, 1) := by decide +kernel
theorem dX1_init_1 : decode cX1_init 1 = .ok (.invokespecial 3, 3) := by decide +kernel
theorem dX1_init_4 : decode cX1_init 4 = .ok (.aload_n 0, 1) := by decide +kernel
theorem dX1_init_5 : decode cX1_init 5 = .ok (.sipush 900, 3) := by decide +kernel
theorem dX1_init_8 : decode cX1_init 8 = .ok (.newarray .int, 2) := by decide +kernel
theorem dX1_init_10 : decode cX1_init 10 = .ok (.putfield 9, 3) := by decide +kernel
theorem dX1_init_13 : decode cX1_init 13 = .ok (.aload_n 0, 1) := by decide +kernel
theorem dX1_init_14 : decode cX1_init 14 = .ok (.bipush 64, 2) := by decide +kernel
theorem dX1_init_16 : decode cX1_init 16 = .ok (.newarray .int, 2) := by decide +kernel
theorem dX1_init_18 : decode cX1_init 18 = .ok (.putfield 15, 3) := by decide +kernel
theorem dX1_init_21 : decode cX1_init 21 = .ok (.aload_n 0, 1) := by decide +kernel
theorem dX1_init_22 : decode cX1_init 22 = .ok (.iconst 0, 1) := by decide +kernel
theorem dX1_init_23 : decode cX1_init 23 = .ok (.putfield 18, 3) := by decide +kernel
theorem dX1_init_26 : decode cX1_init 26 = .ok (.return_, 1) := by decide +kernel
theorem dX1_clear_0 : decode cX1_clear 0 = .ok (.aload_n 0, 1) := by decide +kernel
theorem dX1_clear_1 : decode cX1_clear 1 = .ok (.iconst 0, 1) := by decide +kernel
theorem dX1_clear_2 : decode cX1_clear 2 = .ok (.putfield 18, 3) := by decide +kernel
theorem dX1_clear_5 : decode cX1_clear 5 = .ok (.return_, 1) := by decide +kernel
theorem dX1_told_0 : decode cX1_told 0 = .ok (.aload_n 0, 1) := by decide +kernel
theorem dX1_told_1 : decode cX1_told 1 = .ok (.getfield 18, 3) := by decide +kernel
theorem dX1_told_4 : decode cX1_told 4 = .ok (.ifCond .le 7, 3) := by decide +kernel
theorem dX1_told_7 : decode cX1_told 7 = .ok (.iconst 1, 1) := by decide +kernel
theorem dX1_told_8 : decode cX1_told 8 = .ok (.goto 4, 3) := by decide +kernel
theorem dX1_told_11 : decode cX1_told 11 = .ok (.iconst 0, 1) := by decide +kernel
theorem dX1_told_12 : decode cX1_told 12 = .ok (.ireturn, 1) := by decide +kernel
theorem dX1_step_0 : decode cX1_step 0 = .ok (.aload_n 0, 1) := by decide +kernel
theorem dX1_step_1 : decode cX1_step 1 = .ok (.getfield 18, 3) := by decide +kernel
theorem dX1_step_4 : decode cX1_step 4 = .ok (.sipush 900, 3) := by decide +kernel
theorem dX1_step_7 : decode cX1_step 7 = .ok (.if_icmp .ge 23, 3) := by decide +kernel
theorem dX1_step_10 : decode cX1_step 10 = .ok (.aload_n 0, 1) := by decide +kernel
theorem dX1_step_11 : decode cX1_step 11 = .ok (.getfield 9, 3) := by decide +kernel
theorem dX1_step_14 : decode cX1_step 14 = .ok (.aload_n 0, 1) := by decide +kernel
theorem dX1_step_15 : decode cX1_step 15 = .ok (.getfield 18, 3) := by decide +kernel
theorem dX1_step_18 : decode cX1_step 18 = .ok (.iload_n 1, 1) := by decide +kernel
theorem dX1_step_19 : decode cX1_step 19 = .ok (.iastore, 1) := by decide +kernel
theorem dX1_step_20 : decode cX1_step 20 = .ok (.aload_n 0, 1) := by decide +kernel
theorem dX1_step_21 : decode cX1_step 21 = .ok (.dup, 1) := by decide +kernel
theorem dX1_step_22 : decode cX1_step 22 = .ok (.getfield 18, 3) := by decide +kernel
theorem dX1_step_25 : decode cX1_step 25 = .ok (.iconst 1, 1) := by decide +kernel
theorem dX1_step_26 : decode cX1_step 26 = .ok (.iadd, 1) := by decide +kernel
theorem dX1_step_27 : decode cX1_step 27 = .ok (.putfield 18, 3) := by decide +kernel
theorem dX1_step_30 : decode cX1_step 30 = .ok (.return_, 1) := by decide +kernel
theorem dX1_copyFrom_0 : decode cX1_copyFrom 0 = .ok (.aload_n 0, 1) := by decide +kernel
theorem dX1_copyFrom_1 : decode cX1_copyFrom 1 = .ok (.aload_n 1, 1) := by decide +kernel
theorem dX1_copyFrom_2 : decode cX1_copyFrom 2 = .ok (.getfield 18, 3) := by decide +kernel
theorem dX1_copyFrom_5 : decode cX1_copyFrom 5 = .ok (.putfield 18, 3) := by decide +kernel
theorem dX1_copyFrom_8 : decode cX1_copyFrom 8 = .ok (.aload_n 1, 1) := by decide +kernel
theorem dX1_copyFrom_9 : decode cX1_copyFrom 9 = .ok (.getfield 9, 3) := by decide +kernel
theorem dX1_copyFrom_12 : decode cX1_copyFrom 12 = .ok (.iconst 0, 1) := by decide +kernel
theorem dX1_copyFrom_13 : decode cX1_copyFrom 13 = .ok (.aload_n 0, 1) := by decide +kernel
theorem dX1_copyFrom_14 : decode cX1_copyFrom 14 = .ok (.getfield 9, 3) := by decide +kernel
theorem dX1_copyFrom_17 : decode cX1_copyFrom 17 = .ok (.iconst 0, 1) := by decide +kernel
theorem dX1_copyFrom_18 : decode cX1_copyFrom 18 = .ok (.sipush 900, 3) := by decide +kernel
theorem dX1_copyFrom_21 : decode cX1_copyFrom 21 = .ok (.invokestatic 22, 3) := by decide +kernel
theorem dX1_copyFrom_24 : decode cX1_copyFrom 24 = .ok (.return_, 1) := by decide +kernel
theorem dX1_holds_0 : decode cX1_holds 0 = .ok (.aload_n 1, 1) := by decide +kernel
theorem dX1_holds_1 : decode cX1_holds 1 = .ok (.arraylength, 1) := by decide +kernel
theorem dX1_holds_2 : decode cX1_holds 2 = .ok (.bipush 6, 2) := by decide +kernel
theorem dX1_holds_4 : decode cX1_holds 4 = .ok (.if_icmp .ge 5, 3) := by decide +kernel
theorem dX1_holds_7 : decode cX1_holds 7 = .ok (.iconst 0, 1) := by decide +kernel
theorem dX1_holds_8 : decode cX1_holds 8 = .ok (.ireturn, 1) := by decide +kernel
theorem dX1_holds_9 : decode cX1_holds 9 = .ok (.iconst 0, 1) := by decide +kernel
theorem dX1_holds_10 : decode cX1_holds 10 = .ok (.istore_n 2, 1) := by decide +kernel
theorem dX1_holds_11 : decode cX1_holds 11 = .ok (.iconst 0, 1) := by decide +kernel
theorem dX1_holds_12 : decode cX1_holds 12 = .ok (.istore_n 3, 1) := by decide +kernel
theorem dX1_holds_13 : decode cX1_holds 13 = .ok (.iload_n 3, 1) := by decide +kernel
theorem dX1_holds_14 : decode cX1_holds 14 = .ok (.aload_n 0, 1) := by decide +kernel
theorem dX1_holds_15 : decode cX1_holds 15 = .ok (.getfield 18, 3) := by decide +kernel
theorem dX1_holds_18 : decode cX1_holds 18 = .ok (.if_icmp .ge 132, 3) := by decide +kernel
theorem dX1_holds_21 : decode cX1_holds 21 = .ok (.iload_n 3, 1) := by decide +kernel
theorem dX1_holds_22 : decode cX1_holds 22 = .ok (.sipush 900, 3) := by decide +kernel
theorem dX1_holds_25 : decode cX1_holds 25 = .ok (.if_icmp .ge 125, 3) := by decide +kernel
theorem dX1_holds_28 : decode cX1_holds 28 = .ok (.aload_n 0, 1) := by decide +kernel
theorem dX1_holds_29 : decode cX1_holds 29 = .ok (.getfield 9, 3) := by decide +kernel
theorem dX1_holds_32 : decode cX1_holds 32 = .ok (.iload_n 3, 1) := by decide +kernel
theorem dX1_holds_33 : decode cX1_holds 33 = .ok (.iaload, 1) := by decide +kernel
theorem dX1_holds_34 : decode cX1_holds 34 = .ok (.istore 4, 2) := by decide +kernel
theorem dX1_holds_36 : decode cX1_holds 36 = .ok (.iload 4, 2) := by decide +kernel
theorem dX1_holds_38 : decode cX1_holds 38 = .ok (.bipush (-6), 2) := by decide +kernel
theorem dX1_holds_40 : decode cX1_holds 40 = .ok (.if_icmp .lt 37, 3) := by decide +kernel
theorem dX1_holds_43 : decode cX1_holds 43 = .ok (.iload_n 2, 1) := by decide +kernel
theorem dX1_holds_44 : decode cX1_holds 44 = .ok (.bipush 64, 2) := by decide +kernel
theorem dX1_holds_46 : decode cX1_holds 46 = .ok (.if_icmp .ge 31, 3) := by decide +kernel
theorem dX1_holds_49 : decode cX1_holds 49 = .ok (.aload_n 0, 1) := by decide +kernel
theorem dX1_holds_50 : decode cX1_holds 50 = .ok (.getfield 15, 3) := by decide +kernel
theorem dX1_holds_53 : decode cX1_holds 53 = .ok (.iload_n 2, 1) := by decide +kernel
theorem dX1_holds_54 : decode cX1_holds 54 = .ok (.iload 4, 2) := by decide +kernel
theorem dX1_holds_56 : decode cX1_holds 56 = .ok (.ifCond .lt 8, 3) := by decide +kernel
theorem dX1_holds_59 : decode cX1_holds 59 = .ok (.iload 4, 2) := by decide +kernel
theorem dX1_holds_61 : decode cX1_holds 61 = .ok (.goto 9, 3) := by decide +kernel
theorem dX1_holds_64 : decode cX1_holds 64 = .ok (.aload_n 1, 1) := by decide +kernel
theorem dX1_holds_65 : decode cX1_holds 65 = .ok (.iconst (-1), 1) := by decide +kernel
theorem dX1_holds_66 : decode cX1_holds 66 = .ok (.iload 4, 2) := by decide +kernel
theorem dX1_holds_68 : decode cX1_holds 68 = .ok (.isub, 1) := by decide +kernel
theorem dX1_holds_69 : decode cX1_holds 69 = .ok (.iaload, 1) := by decide +kernel
theorem dX1_holds_70 : decode cX1_holds 70 = .ok (.iastore, 1) := by decide +kernel
theorem dX1_holds_71 : decode cX1_holds 71 = .ok (.iinc 2 1, 3) := by decide +kernel
theorem dX1_holds_74 : decode cX1_holds 74 = .ok (.goto 70, 3) := by decide +kernel
theorem dX1_holds_77 : decode cX1_holds 77 = .ok (.iload 4, 2) := by decide +kernel
theorem dX1_holds_79 : decode cX1_holds 79 = .ok (.bipush (-15), 2) := by decide +kernel
theorem dX1_holds_81 : decode cX1_holds 81 = .ok (.if_icmp .ne 28, 3) := by decide +kernel
theorem dX1_holds_84 : decode cX1_holds 84 = .ok (.iload_n 2, 1) := by decide +kernel
theorem dX1_holds_85 : decode cX1_holds 85 = .ok (.ifCond .le 24, 3) := by decide +kernel
theorem dX1_holds_88 : decode cX1_holds 88 = .ok (.aload_n 0, 1) := by decide +kernel
theorem dX1_holds_89 : decode cX1_holds 89 = .ok (.getfield 15, 3) := by decide +kernel
theorem dX1_holds_92 : decode cX1_holds 92 = .ok (.iload_n 2, 1) := by decide +kernel
theorem dX1_holds_93 : decode cX1_holds 93 = .ok (.iconst 1, 1) := by decide +kernel
theorem dX1_holds_94 : decode cX1_holds 94 = .ok (.isub, 1) := by decide +kernel
theorem dX1_holds_95 : decode cX1_holds 95 = .ok (.iconst 1, 1) := by decide +kernel
theorem dX1_holds_96 : decode cX1_holds 96 = .ok (.aload_n 0, 1) := by decide +kernel
theorem dX1_holds_97 : decode cX1_holds 97 = .ok (.getfield 15, 3) := by decide +kernel
theorem dX1_holds_100 : decode cX1_holds 100 = .ok (.iload_n 2, 1) := by decide +kernel
theorem dX1_holds_101 : decode cX1_holds 101 = .ok (.iconst 1, 1) := by decide +kernel
theorem dX1_holds_102 : decode cX1_holds 102 = .ok (.isub, 1) := by decide +kernel
theorem dX1_holds_103 : decode cX1_holds 103 = .ok (.iaload, 1) := by decide +kernel
theorem dX1_holds_104 : decode cX1_holds 104 = .ok (.isub, 1) := by decide +kernel
theorem dX1_holds_105 : decode cX1_holds 105 = .ok (.iastore, 1) := by decide +kernel
theorem dX1_holds_106 : decode cX1_holds 106 = .ok (.goto 38, 3) := by decide +kernel
theorem dX1_holds_109 : decode cX1_holds 109 = .ok (.iload_n 2, 1) := by decide +kernel
theorem dX1_holds_110 : decode cX1_holds 110 = .ok (.iconst 1, 1) := by decide +kernel
theorem dX1_holds_111 : decode cX1_holds 111 = .ok (.if_icmp .le 33, 3) := by decide +kernel
theorem dX1_holds_114 : decode cX1_holds 114 = .ok (.iinc 2 (-1), 3) := by decide +kernel
theorem dX1_holds_117 : decode cX1_holds 117 = .ok (.aload_n 0, 1) := by decide +kernel
theorem dX1_holds_118 : decode cX1_holds 118 = .ok (.getfield 15, 3) := by decide +kernel
theorem dX1_holds_121 : decode cX1_holds 121 = .ok (.iload_n 2, 1) := by decide +kernel
theorem dX1_holds_122 : decode cX1_holds 122 = .ok (.iconst 1, 1) := by decide +kernel
theorem dX1_holds_123 : decode cX1_holds 123 = .ok (.isub, 1) := by decide +kernel
theorem dX1_holds_124 : decode cX1_holds 124 = .ok (.iload 4, 2) := by decide +kernel
theorem dX1_holds_126 : decode cX1_holds 126 = .ok (.aload_n 0, 1) := by decide +kernel
theorem dX1_holds_127 : decode cX1_holds 127 = .ok (.getfield 15, 3) := by decide +kernel
theorem dX1_holds_130 : decode cX1_holds 130 = .ok (.iload_n 2, 1) := by decide +kernel
theorem dX1_holds_131 : decode cX1_holds 131 = .ok (.iconst 1, 1) := by decide +kernel
theorem dX1_holds_132 : decode cX1_holds 132 = .ok (.isub, 1) := by decide +kernel
theorem dX1_holds_133 : decode cX1_holds 133 = .ok (.iaload, 1) := by decide +kernel
theorem dX1_holds_134 : decode cX1_holds 134 = .ok (.aload_n 0, 1) := by decide +kernel
theorem dX1_holds_135 : decode cX1_holds 135 = .ok (.getfield 15, 3) := by decide +kernel
theorem dX1_holds_138 : decode cX1_holds 138 = .ok (.iload_n 2, 1) := by decide +kernel
theorem dX1_holds_139 : decode cX1_holds 139 = .ok (.iaload, 1) := by decide +kernel
theorem dX1_holds_140 : decode cX1_holds 140 = .ok (.invokestatic 28, 3) := by decide +kernel
theorem dX1_holds_143 : decode cX1_holds 143 = .ok (.iastore, 1) := by decide +kernel
theorem dX1_holds_144 : decode cX1_holds 144 = .ok (.iinc 3 1, 3) := by decide +kernel
theorem dX1_holds_147 : decode cX1_holds 147 = .ok (.goto (-134), 3) := by decide +kernel
theorem dX1_holds_150 : decode cX1_holds 150 = .ok (.iload_n 2, 1) := by decide +kernel
theorem dX1_holds_151 : decode cX1_holds 151 = .ok (.ifCond .le 16, 3) := by decide +kernel
theorem dX1_holds_154 : decode cX1_holds 154 = .ok (.aload_n 0, 1) := by decide +kernel
theorem dX1_holds_155 : decode cX1_holds 155 = .ok (.getfield 15, 3) := by decide +kernel
theorem dX1_holds_158 : decode cX1_holds 158 = .ok (.iconst 0, 1) := by decide +kernel
theorem dX1_holds_159 : decode cX1_holds 159 = .ok (.iaload, 1) := by decide +kernel
theorem dX1_holds_160 : decode cX1_holds 160 = .ok (.ifCond .eq 7, 3) := by decide +kernel
theorem dX1_holds_163 : decode cX1_holds 163 = .ok (.iconst 1, 1) := by decide +kernel
theorem dX1_holds_164 : decode cX1_holds 164 = .ok (.goto 4, 3) := by decide +kernel
theorem dX1_holds_167 : decode cX1_holds 167 = .ok (.iconst 0, 1) := by decide +kernel
theorem dX1_holds_168 : decode cX1_holds 168 = .ok (.ireturn, 1) := by decide +kernel
theorem dX1_both_0 : decode cX1_both 0 = .ok (.iload_n 0, 1) := by decide +kernel
theorem dX1_both_1 : decode cX1_both 1 = .ok (.tableswitch 115 (-14) (-7) #[111, 107, 96, 85, 74, 65, 56, 47], 47) := by decide +kernel
theorem dX1_both_48 : decode cX1_both 48 = .ok (.iload_n 1, 1) := by decide +kernel
theorem dX1_both_49 : decode cX1_both 49 = .ok (.i2l, 1) := by decide +kernel
theorem dX1_both_50 : decode cX1_both 50 = .ok (.iload_n 2, 1) := by decide +kernel
theorem dX1_both_51 : decode cX1_both 51 = .ok (.i2l, 1) := by decide +kernel
theorem dX1_both_52 : decode cX1_both 52 = .ok (.ladd, 1) := by decide +kernel
theorem dX1_both_53 : decode cX1_both 53 = .ok (.lstore_n 3, 1) := by decide +kernel
theorem dX1_both_54 : decode cX1_both 54 = .ok (.goto 64, 3) := by decide +kernel
theorem dX1_both_57 : decode cX1_both 57 = .ok (.iload_n 1, 1) := by decide +kernel
theorem dX1_both_58 : decode cX1_both 58 = .ok (.i2l, 1) := by decide +kernel
theorem dX1_both_59 : decode cX1_both 59 = .ok (.iload_n 2, 1) := by decide +kernel
theorem dX1_both_60 : decode cX1_both 60 = .ok (.i2l, 1) := by decide +kernel
theorem dX1_both_61 : decode cX1_both 61 = .ok (.lsub, 1) := by decide +kernel
theorem dX1_both_62 : decode cX1_both 62 = .ok (.lstore_n 3, 1) := by decide +kernel
theorem dX1_both_63 : decode cX1_both 63 = .ok (.goto 55, 3) := by decide +kernel
theorem dX1_both_66 : decode cX1_both 66 = .ok (.iload_n 1, 1) := by decide +kernel
theorem dX1_both_67 : decode cX1_both 67 = .ok (.i2l, 1) := by decide +kernel
theorem dX1_both_68 : decode cX1_both 68 = .ok (.iload_n 2, 1) := by decide +kernel
theorem dX1_both_69 : decode cX1_both 69 = .ok (.i2l, 1) := by decide +kernel
theorem dX1_both_70 : decode cX1_both 70 = .ok (.lmul, 1) := by decide +kernel
theorem dX1_both_71 : decode cX1_both 71 = .ok (.lstore_n 3, 1) := by decide +kernel
theorem dX1_both_72 : decode cX1_both 72 = .ok (.goto 46, 3) := by decide +kernel
theorem dX1_both_75 : decode cX1_both 75 = .ok (.iload_n 1, 1) := by decide +kernel
theorem dX1_both_76 : decode cX1_both 76 = .ok (.iload_n 2, 1) := by decide +kernel
theorem dX1_both_77 : decode cX1_both 77 = .ok (.if_icmp .ne 7, 3) := by decide +kernel
theorem dX1_both_80 : decode cX1_both 80 = .ok (.iconst 1, 1) := by decide +kernel
theorem dX1_both_81 : decode cX1_both 81 = .ok (.goto 4, 3) := by decide +kernel
theorem dX1_both_84 : decode cX1_both 84 = .ok (.iconst 0, 1) := by decide +kernel
theorem dX1_both_85 : decode cX1_both 85 = .ok (.ireturn, 1) := by decide +kernel
theorem dX1_both_86 : decode cX1_both 86 = .ok (.iload_n 1, 1) := by decide +kernel
theorem dX1_both_87 : decode cX1_both 87 = .ok (.iload_n 2, 1) := by decide +kernel
theorem dX1_both_88 : decode cX1_both 88 = .ok (.if_icmp .ge 7, 3) := by decide +kernel
theorem dX1_both_91 : decode cX1_both 91 = .ok (.iconst 1, 1) := by decide +kernel
theorem dX1_both_92 : decode cX1_both 92 = .ok (.goto 4, 3) := by decide +kernel
theorem dX1_both_95 : decode cX1_both 95 = .ok (.iconst 0, 1) := by decide +kernel
theorem dX1_both_96 : decode cX1_both 96 = .ok (.ireturn, 1) := by decide +kernel
theorem dX1_both_97 : decode cX1_both 97 = .ok (.iload_n 1, 1) := by decide +kernel
theorem dX1_both_98 : decode cX1_both 98 = .ok (.iload_n 2, 1) := by decide +kernel
theorem dX1_both_99 : decode cX1_both 99 = .ok (.if_icmp .le 7, 3) := by decide +kernel
theorem dX1_both_102 : decode cX1_both 102 = .ok (.iconst 1, 1) := by decide +kernel
theorem dX1_both_103 : decode cX1_both 103 = .ok (.goto 4, 3) := by decide +kernel
theorem dX1_both_106 : decode cX1_both 106 = .ok (.iconst 0, 1) := by decide +kernel
theorem dX1_both_107 : decode cX1_both 107 = .ok (.ireturn, 1) := by decide +kernel
theorem dX1_both_108 : decode cX1_both 108 = .ok (.iload_n 1, 1) := by decide +kernel
theorem dX1_both_109 : decode cX1_both 109 = .ok (.iload_n 2, 1) := by decide +kernel
theorem dX1_both_110 : decode cX1_both 110 = .ok (.iand, 1) := by decide +kernel
theorem dX1_both_111 : decode cX1_both 111 = .ok (.ireturn, 1) := by decide +kernel
theorem dX1_both_112 : decode cX1_both 112 = .ok (.iload_n 1, 1) := by decide +kernel
theorem dX1_both_113 : decode cX1_both 113 = .ok (.iload_n 2, 1) := by decide +kernel
theorem dX1_both_114 : decode cX1_both 114 = .ok (.ior, 1) := by decide +kernel
theorem dX1_both_115 : decode cX1_both 115 = .ok (.ireturn, 1) := by decide +kernel
theorem dX1_both_116 : decode cX1_both 116 = .ok (.iconst 0, 1) := by decide +kernel
theorem dX1_both_117 : decode cX1_both 117 = .ok (.ireturn, 1) := by decide +kernel
theorem dX1_both_118 : decode cX1_both 118 = .ok (.lload_n 3, 1) := by decide +kernel
theorem dX1_both_119 : decode cX1_both 119 = .ok (.ldc2_w 32, 3) := by decide +kernel
theorem dX1_both_122 : decode cX1_both 122 = .ok (.lcmp, 1) := by decide +kernel
theorem dX1_both_123 : decode cX1_both 123 = .ok (.ifCond .le 6, 3) := by decide +kernel
theorem dX1_both_126 : decode cX1_both 126 = .ok (.ldc 34, 2) := by decide +kernel
theorem dX1_both_128 : decode cX1_both 128 = .ok (.ireturn, 1) := by decide +kernel
theorem dX1_both_129 : decode cX1_both 129 = .ok (.lload_n 3, 1) := by decide +kernel
theorem dX1_both_130 : decode cX1_both 130 = .ok (.ldc2_w 35, 3) := by decide +kernel
theorem dX1_both_133 : decode cX1_both 133 = .ok (.lcmp, 1) := by decide +kernel
theorem dX1_both_134 : decode cX1_both 134 = .ok (.ifCond .ge 8, 3) := by decide +kernel
theorem dX1_both_137 : decode cX1_both 137 = .ok (.ldc 37, 2) := by decide +kernel
theorem dX1_both_139 : decode cX1_both 139 = .ok (.goto 5, 3) := by decide +kernel
theorem dX1_both_142 : decode cX1_both 142 = .ok (.lload_n 3, 1) := by decide +kernel
theorem dX1_both_143 : decode cX1_both 143 = .ok (.l2i, 1) := by decide +kernel
theorem dX1_both_144 : decode cX1_both 144 = .ok (.ireturn, 1) := by decide +kernel
theorem dX2_init_0 : decode cX2_init 0 = .ok (.aload_n 0, 1) := by decide +kernel
theorem dX2_init_1 : decode cX2_init 1 = .ok (.invokespecial 3, 3) := by decide +kernel
theorem dX2_init_4 : decode cX2_init 4 = .ok (.aload_n 0, 1) := by decide +kernel
theorem dX2_init_5 : decode cX2_init 5 = .ok (.iconst 0, 1) := by decide +kernel
theorem dX2_init_6 : decode cX2_init 6 = .ok (.putfield 9, 3) := by decide +kernel
theorem dX2_init_9 : decode cX2_init 9 = .ok (.aload_n 0, 1) := by decide +kernel
theorem dX2_init_10 : decode cX2_init 10 = .ok (.iconst 0, 1) := by decide +kernel
theorem dX2_init_11 : decode cX2_init 11 = .ok (.putfield 15, 3) := by decide +kernel
theorem dX2_init_14 : decode cX2_init 14 = .ok (.aload_n 0, 1) := by decide +kernel
theorem dX2_init_15 : decode cX2_init 15 = .ok (.iconst 0, 1) := by decide +kernel
theorem dX2_init_16 : decode cX2_init 16 = .ok (.putfield 18, 3) := by decide +kernel
theorem dX2_init_19 : decode cX2_init 19 = .ok (.aload_n 0, 1) := by decide +kernel
theorem dX2_init_20 : decode cX2_init 20 = .ok (.iconst 0, 1) := by decide +kernel
theorem dX2_init_21 : decode cX2_init 21 = .ok (.putfield 21, 3) := by decide +kernel
theorem dX2_init_24 : decode cX2_init 24 = .ok (.aload_n 0, 1) := by decide +kernel
theorem dX2_init_25 : decode cX2_init 25 = .ok (.iconst 0, 1) := by decide +kernel
theorem dX2_init_26 : decode cX2_init 26 = .ok (.putfield 24, 3) := by decide +kernel
theorem dX2_init_29 : decode cX2_init 29 = .ok (.aload_n 0, 1) := by decide +kernel
theorem dX2_init_30 : decode cX2_init 30 = .ok (.bipush 8, 2) := by decide +kernel
theorem dX2_init_32 : decode cX2_init 32 = .ok (.newarray .int, 2) := by decide +kernel
theorem dX2_init_34 : decode cX2_init 34 = .ok (.putfield 27, 3) := by decide +kernel
theorem dX2_init_37 : decode cX2_init 37 = .ok (.aload_n 0, 1) := by decide +kernel
theorem dX2_init_38 : decode cX2_init 38 = .ok (.bipush 8, 2) := by decide +kernel
theorem dX2_init_40 : decode cX2_init 40 = .ok (.newarray .int, 2) := by decide +kernel
theorem dX2_init_42 : decode cX2_init 42 = .ok (.putfield 31, 3) := by decide +kernel
theorem dX2_init_45 : decode cX2_init 45 = .ok (.aload_n 0, 1) := by decide +kernel
theorem dX2_init_46 : decode cX2_init 46 = .ok (.bipush 8, 2) := by decide +kernel
theorem dX2_init_48 : decode cX2_init 48 = .ok (.newarray .int, 2) := by decide +kernel
theorem dX2_init_50 : decode cX2_init 50 = .ok (.putfield 34, 3) := by decide +kernel
theorem dX2_init_53 : decode cX2_init 53 = .ok (.aload_n 0, 1) := by decide +kernel
theorem dX2_init_54 : decode cX2_init 54 = .ok (.bipush 8, 2) := by decide +kernel
theorem dX2_init_56 : decode cX2_init 56 = .ok (.newarray .int, 2) := by decide +kernel
theorem dX2_init_58 : decode cX2_init 58 = .ok (.putfield 37, 3) := by decide +kernel
theorem dX2_init_61 : decode cX2_init 61 = .ok (.aload_n 0, 1) := by decide +kernel
theorem dX2_init_62 : decode cX2_init 62 = .ok (.bipush 8, 2) := by decide +kernel
theorem dX2_init_64 : decode cX2_init 64 = .ok (.newarray .int, 2) := by decide +kernel
theorem dX2_init_66 : decode cX2_init 66 = .ok (.putfield 40, 3) := by decide +kernel
theorem dX2_init_69 : decode cX2_init 69 = .ok (.aload_n 0, 1) := by decide +kernel
theorem dX2_init_70 : decode cX2_init 70 = .ok (.bipush 8, 2) := by decide +kernel
theorem dX2_init_72 : decode cX2_init 72 = .ok (.newarray .int, 2) := by decide +kernel
theorem dX2_init_74 : decode cX2_init 74 = .ok (.putfield 43, 3) := by decide +kernel
theorem dX2_init_77 : decode cX2_init 77 = .ok (.aload_n 0, 1) := by decide +kernel
theorem dX2_init_78 : decode cX2_init 78 = .ok (.bipush 8, 2) := by decide +kernel
theorem dX2_init_80 : decode cX2_init 80 = .ok (.newarray .int, 2) := by decide +kernel
theorem dX2_init_82 : decode cX2_init 82 = .ok (.putfield 46, 3) := by decide +kernel
theorem dX2_init_85 : decode cX2_init 85 = .ok (.aload_n 0, 1) := by decide +kernel
theorem dX2_init_86 : decode cX2_init 86 = .ok (.bipush 8, 2) := by decide +kernel
theorem dX2_init_88 : decode cX2_init 88 = .ok (.newarray .int, 2) := by decide +kernel
theorem dX2_init_90 : decode cX2_init 90 = .ok (.putfield 49, 3) := by decide +kernel
theorem dX2_init_93 : decode cX2_init 93 = .ok (.aload_n 0, 1) := by decide +kernel
theorem dX2_init_94 : decode cX2_init 94 = .ok (.new 52, 3) := by decide +kernel
theorem dX2_init_97 : decode cX2_init 97 = .ok (.dup, 1) := by decide +kernel
theorem dX2_init_98 : decode cX2_init 98 = .ok (.invokespecial 54, 3) := by decide +kernel
theorem dX2_init_101 : decode cX2_init 101 = .ok (.putfield 55, 3) := by decide +kernel
theorem dX2_init_104 : decode cX2_init 104 = .ok (.aload_n 0, 1) := by decide +kernel
theorem dX2_init_105 : decode cX2_init 105 = .ok (.new 52, 3) := by decide +kernel
theorem dX2_init_108 : decode cX2_init 108 = .ok (.dup, 1) := by decide +kernel
theorem dX2_init_109 : decode cX2_init 109 = .ok (.invokespecial 54, 3) := by decide +kernel
theorem dX2_init_112 : decode cX2_init 112 = .ok (.putfield 59, 3) := by decide +kernel
theorem dX2_init_115 : decode cX2_init 115 = .ok (.return_, 1) := by decide +kernel
theorem dX2_clear_0 : decode cX2_clear 0 = .ok (.aload_n 0, 1) := by decide +kernel
theorem dX2_clear_1 : decode cX2_clear 1 = .ok (.iconst 0, 1) := by decide +kernel
theorem dX2_clear_2 : decode cX2_clear 2 = .ok (.putfield 9, 3) := by decide +kernel
theorem dX2_clear_5 : decode cX2_clear 5 = .ok (.aload_n 0, 1) := by decide +kernel
theorem dX2_clear_6 : decode cX2_clear 6 = .ok (.iconst 0, 1) := by decide +kernel
theorem dX2_clear_7 : decode cX2_clear 7 = .ok (.putfield 15, 3) := by decide +kernel
theorem dX2_clear_10 : decode cX2_clear 10 = .ok (.aload_n 0, 1) := by decide +kernel
theorem dX2_clear_11 : decode cX2_clear 11 = .ok (.iconst 0, 1) := by decide +kernel
theorem dX2_clear_12 : decode cX2_clear 12 = .ok (.putfield 18, 3) := by decide +kernel
theorem dX2_clear_15 : decode cX2_clear 15 = .ok (.aload_n 0, 1) := by decide +kernel
theorem dX2_clear_16 : decode cX2_clear 16 = .ok (.iconst 0, 1) := by decide +kernel
theorem dX2_clear_17 : decode cX2_clear 17 = .ok (.putfield 21, 3) := by decide +kernel
theorem dX2_clear_20 : decode cX2_clear 20 = .ok (.aload_n 0, 1) := by decide +kernel
theorem dX2_clear_21 : decode cX2_clear 21 = .ok (.iconst 0, 1) := by decide +kernel
theorem dX2_clear_22 : decode cX2_clear 22 = .ok (.putfield 24, 3) := by decide +kernel
theorem dX2_clear_25 : decode cX2_clear 25 = .ok (.aload_n 0, 1) := by decide +kernel
theorem dX2_clear_26 : decode cX2_clear 26 = .ok (.getfield 55, 3) := by decide +kernel
theorem dX2_clear_29 : decode cX2_clear 29 = .ok (.invokevirtual 62, 3) := by decide +kernel
theorem dX2_clear_32 : decode cX2_clear 32 = .ok (.aload_n 0, 1) := by decide +kernel
theorem dX2_clear_33 : decode cX2_clear 33 = .ok (.getfield 59, 3) := by decide +kernel
theorem dX2_clear_36 : decode cX2_clear 36 = .ok (.invokevirtual 62, 3) := by decide +kernel
theorem dX2_clear_39 : decode cX2_clear 39 = .ok (.return_, 1) := by decide +kernel
theorem dX2_copyFrom_0 : decode cX2_copyFrom 0 = .ok (.aload_n 0, 1) := by decide +kernel
theorem dX2_copyFrom_1 : decode cX2_copyFrom 1 = .ok (.aload_n 1, 1) := by decide +kernel
theorem dX2_copyFrom_2 : decode cX2_copyFrom 2 = .ok (.getfield 9, 3) := by decide +kernel
theorem dX2_copyFrom_5 : decode cX2_copyFrom 5 = .ok (.putfield 9, 3) := by decide +kernel
theorem dX2_copyFrom_8 : decode cX2_copyFrom 8 = .ok (.aload_n 0, 1) := by decide +kernel
theorem dX2_copyFrom_9 : decode cX2_copyFrom 9 = .ok (.aload_n 1, 1) := by decide +kernel
theorem dX2_copyFrom_10 : decode cX2_copyFrom 10 = .ok (.getfield 15, 3) := by decide +kernel
theorem dX2_copyFrom_13 : decode cX2_copyFrom 13 = .ok (.putfield 15, 3) := by decide +kernel
theorem dX2_copyFrom_16 : decode cX2_copyFrom 16 = .ok (.aload_n 0, 1) := by decide +kernel
theorem dX2_copyFrom_17 : decode cX2_copyFrom 17 = .ok (.aload_n 1, 1) := by decide +kernel
theorem dX2_copyFrom_18 : decode cX2_copyFrom 18 = .ok (.getfield 18, 3) := by decide +kernel
theorem dX2_copyFrom_21 : decode cX2_copyFrom 21 = .ok (.putfield 18, 3) := by decide +kernel
theorem dX2_copyFrom_24 : decode cX2_copyFrom 24 = .ok (.aload_n 0, 1) := by decide +kernel
theorem dX2_copyFrom_25 : decode cX2_copyFrom 25 = .ok (.aload_n 1, 1) := by decide +kernel
theorem dX2_copyFrom_26 : decode cX2_copyFrom 26 = .ok (.getfield 21, 3) := by decide +kernel
theorem dX2_copyFrom_29 : decode cX2_copyFrom 29 = .ok (.putfield 21, 3) := by decide +kernel
theorem dX2_copyFrom_32 : decode cX2_copyFrom 32 = .ok (.aload_n 0, 1) := by decide +kernel
theorem dX2_copyFrom_33 : decode cX2_copyFrom 33 = .ok (.aload_n 1, 1) := by decide +kernel
theorem dX2_copyFrom_34 : decode cX2_copyFrom 34 = .ok (.getfield 24, 3) := by decide +kernel
theorem dX2_copyFrom_37 : decode cX2_copyFrom 37 = .ok (.putfield 24, 3) := by decide +kernel
theorem dX2_copyFrom_40 : decode cX2_copyFrom 40 = .ok (.aload_n 1, 1) := by decide +kernel
theorem dX2_copyFrom_41 : decode cX2_copyFrom 41 = .ok (.getfield 27, 3) := by decide +kernel
theorem dX2_copyFrom_44 : decode cX2_copyFrom 44 = .ok (.iconst 0, 1) := by decide +kernel
theorem dX2_copyFrom_45 : decode cX2_copyFrom 45 = .ok (.aload_n 0, 1) := by decide +kernel
theorem dX2_copyFrom_46 : decode cX2_copyFrom 46 = .ok (.getfield 27, 3) := by decide +kernel
theorem dX2_copyFrom_49 : decode cX2_copyFrom 49 = .ok (.iconst 0, 1) := by decide +kernel
theorem dX2_copyFrom_50 : decode cX2_copyFrom 50 = .ok (.bipush 8, 2) := by decide +kernel
theorem dX2_copyFrom_52 : decode cX2_copyFrom 52 = .ok (.invokestatic 65, 3) := by decide +kernel
theorem dX2_copyFrom_55 : decode cX2_copyFrom 55 = .ok (.aload_n 1, 1) := by decide +kernel
theorem dX2_copyFrom_56 : decode cX2_copyFrom 56 = .ok (.getfield 31, 3) := by decide +kernel
theorem dX2_copyFrom_59 : decode cX2_copyFrom 59 = .ok (.iconst 0, 1) := by decide +kernel
theorem dX2_copyFrom_60 : decode cX2_copyFrom 60 = .ok (.aload_n 0, 1) := by decide +kernel
theorem dX2_copyFrom_61 : decode cX2_copyFrom 61 = .ok (.getfield 31, 3) := by decide +kernel
theorem dX2_copyFrom_64 : decode cX2_copyFrom 64 = .ok (.iconst 0, 1) := by decide +kernel
theorem dX2_copyFrom_65 : decode cX2_copyFrom 65 = .ok (.bipush 8, 2) := by decide +kernel
theorem dX2_copyFrom_67 : decode cX2_copyFrom 67 = .ok (.invokestatic 65, 3) := by decide +kernel
theorem dX2_copyFrom_70 : decode cX2_copyFrom 70 = .ok (.aload_n 1, 1) := by decide +kernel
theorem dX2_copyFrom_71 : decode cX2_copyFrom 71 = .ok (.getfield 34, 3) := by decide +kernel
theorem dX2_copyFrom_74 : decode cX2_copyFrom 74 = .ok (.iconst 0, 1) := by decide +kernel
theorem dX2_copyFrom_75 : decode cX2_copyFrom 75 = .ok (.aload_n 0, 1) := by decide +kernel
theorem dX2_copyFrom_76 : decode cX2_copyFrom 76 = .ok (.getfield 34, 3) := by decide +kernel
theorem dX2_copyFrom_79 : decode cX2_copyFrom 79 = .ok (.iconst 0, 1) := by decide +kernel
theorem dX2_copyFrom_80 : decode cX2_copyFrom 80 = .ok (.bipush 8, 2) := by decide +kernel
theorem dX2_copyFrom_82 : decode cX2_copyFrom 82 = .ok (.invokestatic 65, 3) := by decide +kernel
theorem dX2_copyFrom_85 : decode cX2_copyFrom 85 = .ok (.aload_n 1, 1) := by decide +kernel
theorem dX2_copyFrom_86 : decode cX2_copyFrom 86 = .ok (.getfield 37, 3) := by decide +kernel
theorem dX2_copyFrom_89 : decode cX2_copyFrom 89 = .ok (.iconst 0, 1) := by decide +kernel
theorem dX2_copyFrom_90 : decode cX2_copyFrom 90 = .ok (.aload_n 0, 1) := by decide +kernel
theorem dX2_copyFrom_91 : decode cX2_copyFrom 91 = .ok (.getfield 37, 3) := by decide +kernel
theorem dX2_copyFrom_94 : decode cX2_copyFrom 94 = .ok (.iconst 0, 1) := by decide +kernel
theorem dX2_copyFrom_95 : decode cX2_copyFrom 95 = .ok (.bipush 8, 2) := by decide +kernel
theorem dX2_copyFrom_97 : decode cX2_copyFrom 97 = .ok (.invokestatic 65, 3) := by decide +kernel
theorem dX2_copyFrom_100 : decode cX2_copyFrom 100 = .ok (.aload_n 1, 1) := by decide +kernel
theorem dX2_copyFrom_101 : decode cX2_copyFrom 101 = .ok (.getfield 40, 3) := by decide +kernel
theorem dX2_copyFrom_104 : decode cX2_copyFrom 104 = .ok (.iconst 0, 1) := by decide +kernel
theorem dX2_copyFrom_105 : decode cX2_copyFrom 105 = .ok (.aload_n 0, 1) := by decide +kernel
theorem dX2_copyFrom_106 : decode cX2_copyFrom 106 = .ok (.getfield 40, 3) := by decide +kernel
theorem dX2_copyFrom_109 : decode cX2_copyFrom 109 = .ok (.iconst 0, 1) := by decide +kernel
theorem dX2_copyFrom_110 : decode cX2_copyFrom 110 = .ok (.bipush 8, 2) := by decide +kernel
theorem dX2_copyFrom_112 : decode cX2_copyFrom 112 = .ok (.invokestatic 65, 3) := by decide +kernel
theorem dX2_copyFrom_115 : decode cX2_copyFrom 115 = .ok (.aload_n 1, 1) := by decide +kernel
theorem dX2_copyFrom_116 : decode cX2_copyFrom 116 = .ok (.getfield 43, 3) := by decide +kernel
theorem dX2_copyFrom_119 : decode cX2_copyFrom 119 = .ok (.iconst 0, 1) := by decide +kernel
theorem dX2_copyFrom_120 : decode cX2_copyFrom 120 = .ok (.aload_n 0, 1) := by decide +kernel
theorem dX2_copyFrom_121 : decode cX2_copyFrom 121 = .ok (.getfield 43, 3) := by decide +kernel
theorem dX2_copyFrom_124 : decode cX2_copyFrom 124 = .ok (.iconst 0, 1) := by decide +kernel
theorem dX2_copyFrom_125 : decode cX2_copyFrom 125 = .ok (.bipush 8, 2) := by decide +kernel
theorem dX2_copyFrom_127 : decode cX2_copyFrom 127 = .ok (.invokestatic 65, 3) := by decide +kernel
theorem dX2_copyFrom_130 : decode cX2_copyFrom 130 = .ok (.aload_n 1, 1) := by decide +kernel
theorem dX2_copyFrom_131 : decode cX2_copyFrom 131 = .ok (.getfield 46, 3) := by decide +kernel
theorem dX2_copyFrom_134 : decode cX2_copyFrom 134 = .ok (.iconst 0, 1) := by decide +kernel
theorem dX2_copyFrom_135 : decode cX2_copyFrom 135 = .ok (.aload_n 0, 1) := by decide +kernel
theorem dX2_copyFrom_136 : decode cX2_copyFrom 136 = .ok (.getfield 46, 3) := by decide +kernel
theorem dX2_copyFrom_139 : decode cX2_copyFrom 139 = .ok (.iconst 0, 1) := by decide +kernel
theorem dX2_copyFrom_140 : decode cX2_copyFrom 140 = .ok (.bipush 8, 2) := by decide +kernel
theorem dX2_copyFrom_142 : decode cX2_copyFrom 142 = .ok (.invokestatic 65, 3) := by decide +kernel
theorem dX2_copyFrom_145 : decode cX2_copyFrom 145 = .ok (.aload_n 1, 1) := by decide +kernel
theorem dX2_copyFrom_146 : decode cX2_copyFrom 146 = .ok (.getfield 49, 3) := by decide +kernel
theorem dX2_copyFrom_149 : decode cX2_copyFrom 149 = .ok (.iconst 0, 1) := by decide +kernel
theorem dX2_copyFrom_150 : decode cX2_copyFrom 150 = .ok (.aload_n 0, 1) := by decide +kernel
theorem dX2_copyFrom_151 : decode cX2_copyFrom 151 = .ok (.getfield 49, 3) := by decide +kernel
theorem dX2_copyFrom_154 : decode cX2_copyFrom 154 = .ok (.iconst 0, 1) := by decide +kernel
theorem dX2_copyFrom_155 : decode cX2_copyFrom 155 = .ok (.bipush 8, 2) := by decide +kernel
theorem dX2_copyFrom_157 : decode cX2_copyFrom 157 = .ok (.invokestatic 65, 3) := by decide +kernel
theorem dX2_copyFrom_160 : decode cX2_copyFrom 160 = .ok (.aload_n 0, 1) := by decide +kernel
theorem dX2_copyFrom_161 : decode cX2_copyFrom 161 = .ok (.getfield 55, 3) := by decide +kernel
theorem dX2_copyFrom_164 : decode cX2_copyFrom 164 = .ok (.aload_n 1, 1) := by decide +kernel
theorem dX2_copyFrom_165 : decode cX2_copyFrom 165 = .ok (.getfield 55, 3) := by decide +kernel
theorem dX2_copyFrom_168 : decode cX2_copyFrom 168 = .ok (.invokevirtual 71, 3) := by decide +kernel
theorem dX2_copyFrom_171 : decode cX2_copyFrom 171 = .ok (.aload_n 0, 1) := by decide +kernel
theorem dX2_copyFrom_172 : decode cX2_copyFrom 172 = .ok (.getfield 59, 3) := by decide +kernel
theorem dX2_copyFrom_175 : decode cX2_copyFrom 175 = .ok (.aload_n 1, 1) := by decide +kernel
theorem dX2_copyFrom_176 : decode cX2_copyFrom 176 = .ok (.getfield 59, 3) := by decide +kernel
theorem dX2_copyFrom_179 : decode cX2_copyFrom 179 = .ok (.invokevirtual 71, 3) := by decide +kernel
theorem dX2_copyFrom_182 : decode cX2_copyFrom 182 = .ok (.return_, 1) := by decide +kernel
theorem dX2_addDoing_0 : decode cX2_addDoing 0 = .ok (.aload_n 0, 1) := by decide +kernel
theorem dX2_addDoing_1 : decode cX2_addDoing 1 = .ok (.getfield 15, 3) := by decide +kernel
theorem dX2_addDoing_4 : decode cX2_addDoing 4 = .ok (.bipush 8, 2) := by decide +kernel
theorem dX2_addDoing_6 : decode cX2_addDoing 6 = .ok (.if_icmp .ge 83, 3) := by decide +kernel
theorem dX2_addDoing_9 : decode cX2_addDoing 9 = .ok (.aload_n 0, 1) := by decide +kernel
theorem dX2_addDoing_10 : decode cX2_addDoing 10 = .ok (.getfield 27, 3) := by decide +kernel
theorem dX2_addDoing_13 : decode cX2_addDoing 13 = .ok (.aload_n 0, 1) := by decide +kernel
theorem dX2_addDoing_14 : decode cX2_addDoing 14 = .ok (.getfield 15, 3) := by decide +kernel
theorem dX2_addDoing_17 : decode cX2_addDoing 17 = .ok (.iconst 1, 1) := by decide +kernel
theorem dX2_addDoing_18 : decode cX2_addDoing 18 = .ok (.iastore, 1) := by decide +kernel
theorem dX2_addDoing_19 : decode cX2_addDoing 19 = .ok (.aload_n 0, 1) := by decide +kernel
theorem dX2_addDoing_20 : decode cX2_addDoing 20 = .ok (.getfield 31, 3) := by decide +kernel
theorem dX2_addDoing_23 : decode cX2_addDoing 23 = .ok (.aload_n 0, 1) := by decide +kernel
theorem dX2_addDoing_24 : decode cX2_addDoing 24 = .ok (.getfield 15, 3) := by decide +kernel
theorem dX2_addDoing_27 : decode cX2_addDoing 27 = .ok (.iconst 0, 1) := by decide +kernel
theorem dX2_addDoing_28 : decode cX2_addDoing 28 = .ok (.iastore, 1) := by decide +kernel
theorem dX2_addDoing_29 : decode cX2_addDoing 29 = .ok (.aload_n 0, 1) := by decide +kernel
theorem dX2_addDoing_30 : decode cX2_addDoing 30 = .ok (.getfield 34, 3) := by decide +kernel
theorem dX2_addDoing_33 : decode cX2_addDoing 33 = .ok (.aload_n 0, 1) := by decide +kernel
theorem dX2_addDoing_34 : decode cX2_addDoing 34 = .ok (.getfield 15, 3) := by decide +kernel
theorem dX2_addDoing_37 : decode cX2_addDoing 37 = .ok (.iconst 5, 1) := by decide +kernel
theorem dX2_addDoing_38 : decode cX2_addDoing 38 = .ok (.iastore, 1) := by decide +kernel
theorem dX2_addDoing_39 : decode cX2_addDoing 39 = .ok (.aload_n 0, 1) := by decide +kernel
theorem dX2_addDoing_40 : decode cX2_addDoing 40 = .ok (.getfield 37, 3) := by decide +kernel
theorem dX2_addDoing_43 : decode cX2_addDoing 43 = .ok (.aload_n 0, 1) := by decide +kernel
theorem dX2_addDoing_44 : decode cX2_addDoing 44 = .ok (.getfield 15, 3) := by decide +kernel
theorem dX2_addDoing_47 : decode cX2_addDoing 47 = .ok (.iconst 0, 1) := by decide +kernel
theorem dX2_addDoing_48 : decode cX2_addDoing 48 = .ok (.iastore, 1) := by decide +kernel
theorem dX2_addDoing_49 : decode cX2_addDoing 49 = .ok (.aload_n 0, 1) := by decide +kernel
theorem dX2_addDoing_50 : decode cX2_addDoing 50 = .ok (.getfield 40, 3) := by decide +kernel
theorem dX2_addDoing_53 : decode cX2_addDoing 53 = .ok (.aload_n 0, 1) := by decide +kernel
theorem dX2_addDoing_54 : decode cX2_addDoing 54 = .ok (.getfield 15, 3) := by decide +kernel
theorem dX2_addDoing_57 : decode cX2_addDoing 57 = .ok (.iconst 1, 1) := by decide +kernel
theorem dX2_addDoing_58 : decode cX2_addDoing 58 = .ok (.iastore, 1) := by decide +kernel
theorem dX2_addDoing_59 : decode cX2_addDoing 59 = .ok (.aload_n 0, 1) := by decide +kernel
theorem dX2_addDoing_60 : decode cX2_addDoing 60 = .ok (.getfield 43, 3) := by decide +kernel
theorem dX2_addDoing_63 : decode cX2_addDoing 63 = .ok (.aload_n 0, 1) := by decide +kernel
theorem dX2_addDoing_64 : decode cX2_addDoing 64 = .ok (.getfield 15, 3) := by decide +kernel
theorem dX2_addDoing_67 : decode cX2_addDoing 67 = .ok (.iconst 0, 1) := by decide +kernel
theorem dX2_addDoing_68 : decode cX2_addDoing 68 = .ok (.iastore, 1) := by decide +kernel
theorem dX2_addDoing_69 : decode cX2_addDoing 69 = .ok (.aload_n 0, 1) := by decide +kernel
theorem dX2_addDoing_70 : decode cX2_addDoing 70 = .ok (.getfield 46, 3) := by decide +kernel
theorem dX2_addDoing_73 : decode cX2_addDoing 73 = .ok (.aload_n 0, 1) := by decide +kernel
theorem dX2_addDoing_74 : decode cX2_addDoing 74 = .ok (.getfield 15, 3) := by decide +kernel
theorem dX2_addDoing_77 : decode cX2_addDoing 77 = .ok (.iconst 0, 1) := by decide +kernel
theorem dX2_addDoing_78 : decode cX2_addDoing 78 = .ok (.iastore, 1) := by decide +kernel
theorem dX2_addDoing_79 : decode cX2_addDoing 79 = .ok (.aload_n 0, 1) := by decide +kernel
theorem dX2_addDoing_80 : decode cX2_addDoing 80 = .ok (.dup, 1) := by decide +kernel
theorem dX2_addDoing_81 : decode cX2_addDoing 81 = .ok (.getfield 15, 3) := by decide +kernel
theorem dX2_addDoing_84 : decode cX2_addDoing 84 = .ok (.iconst 1, 1) := by decide +kernel
theorem dX2_addDoing_85 : decode cX2_addDoing 85 = .ok (.iadd, 1) := by decide +kernel
theorem dX2_addDoing_86 : decode cX2_addDoing 86 = .ok (.putfield 15, 3) := by decide +kernel
theorem dX2_addDoing_89 : decode cX2_addDoing 89 = .ok (.return_, 1) := by decide +kernel
theorem dX2_addDoor_0 : decode cX2_addDoor 0 = .ok (.aload_n 0, 1) := by decide +kernel
theorem dX2_addDoor_1 : decode cX2_addDoor 1 = .ok (.getfield 18, 3) := by decide +kernel
theorem dX2_addDoor_4 : decode cX2_addDoor 4 = .ok (.bipush 8, 2) := by decide +kernel
theorem dX2_addDoor_6 : decode cX2_addDoor 6 = .ok (.if_icmp .ge 23, 3) := by decide +kernel
theorem dX2_addDoor_9 : decode cX2_addDoor 9 = .ok (.aload_n 0, 1) := by decide +kernel
theorem dX2_addDoor_10 : decode cX2_addDoor 10 = .ok (.getfield 49, 3) := by decide +kernel
theorem dX2_addDoor_13 : decode cX2_addDoor 13 = .ok (.aload_n 0, 1) := by decide +kernel
theorem dX2_addDoor_14 : decode cX2_addDoor 14 = .ok (.getfield 18, 3) := by decide +kernel
theorem dX2_addDoor_17 : decode cX2_addDoor 17 = .ok (.iload_n 1, 1) := by decide +kernel
theorem dX2_addDoor_18 : decode cX2_addDoor 18 = .ok (.iastore, 1) := by decide +kernel
theorem dX2_addDoor_19 : decode cX2_addDoor 19 = .ok (.aload_n 0, 1) := by decide +kernel
theorem dX2_addDoor_20 : decode cX2_addDoor 20 = .ok (.dup, 1) := by decide +kernel
theorem dX2_addDoor_21 : decode cX2_addDoor 21 = .ok (.getfield 18, 3) := by decide +kernel
theorem dX2_addDoor_24 : decode cX2_addDoor 24 = .ok (.iconst 1, 1) := by decide +kernel
theorem dX2_addDoor_25 : decode cX2_addDoor 25 = .ok (.iadd, 1) := by decide +kernel
theorem dX2_addDoor_26 : decode cX2_addDoor 26 = .ok (.putfield 18, 3) := by decide +kernel
theorem dX2_addDoor_29 : decode cX2_addDoor 29 = .ok (.return_, 1) := by decide +kernel
theorem dX2_addClash_0 : decode cX2_addClash 0 = .ok (.aload_n 0, 1) := by decide +kernel
theorem dX2_addClash_1 : decode cX2_addClash 1 = .ok (.iload_n 1, 1) := by decide +kernel
theorem dX2_addClash_2 : decode cX2_addClash 2 = .ok (.invokevirtual 75, 3) := by decide +kernel
theorem dX2_addClash_5 : decode cX2_addClash 5 = .ok (.ifCond .eq 35, 3) := by decide +kernel
theorem dX2_addClash_8 : decode cX2_addClash 8 = .ok (.aload_n 0, 1) := by decide +kernel
theorem dX2_addClash_9 : decode cX2_addClash 9 = .ok (.iload_n 2, 1) := by decide +kernel
theorem dX2_addClash_10 : decode cX2_addClash 10 = .ok (.invokevirtual 75, 3) := by decide +kernel
theorem dX2_addClash_13 : decode cX2_addClash 13 = .ok (.ifCond .eq 27, 3) := by decide +kernel
theorem dX2_addClash_16 : decode cX2_addClash 16 = .ok (.aload_n 0, 1) := by decide +kernel
theorem dX2_addClash_17 : decode cX2_addClash 17 = .ok (.getfield 46, 3) := by decide +kernel
theorem dX2_addClash_20 : decode cX2_addClash 20 = .ok (.iload_n 1, 1) := by decide +kernel
theorem dX2_addClash_21 : decode cX2_addClash 21 = .ok (.dup2, 1) := by decide +kernel
theorem dX2_addClash_22 : decode cX2_addClash 22 = .ok (.iaload, 1) := by decide +kernel
theorem dX2_addClash_23 : decode cX2_addClash 23 = .ok (.iconst 1, 1) := by decide +kernel
theorem dX2_addClash_24 : decode cX2_addClash 24 = .ok (.iload_n 2, 1) := by decide +kernel
theorem dX2_addClash_25 : decode cX2_addClash 25 = .ok (.ishl, 1) := by decide +kernel
theorem dX2_addClash_26 : decode cX2_addClash 26 = .ok (.ior, 1) := by decide +kernel
theorem dX2_addClash_27 : decode cX2_addClash 27 = .ok (.iastore, 1) := by decide +kernel
theorem dX2_addClash_28 : decode cX2_addClash 28 = .ok (.aload_n 0, 1) := by decide +kernel
theorem dX2_addClash_29 : decode cX2_addClash 29 = .ok (.getfield 46, 3) := by decide +kernel
theorem dX2_addClash_32 : decode cX2_addClash 32 = .ok (.iload_n 2, 1) := by decide +kernel
theorem dX2_addClash_33 : decode cX2_addClash 33 = .ok (.dup2, 1) := by decide +kernel
theorem dX2_addClash_34 : decode cX2_addClash 34 = .ok (.iaload, 1) := by decide +kernel
theorem dX2_addClash_35 : decode cX2_addClash 35 = .ok (.iconst 1, 1) := by decide +kernel
theorem dX2_addClash_36 : decode cX2_addClash 36 = .ok (.iload_n 1, 1) := by decide +kernel
theorem dX2_addClash_37 : decode cX2_addClash 37 = .ok (.ishl, 1) := by decide +kernel
theorem dX2_addClash_38 : decode cX2_addClash 38 = .ok (.ior, 1) := by decide +kernel
theorem dX2_addClash_39 : decode cX2_addClash 39 = .ok (.iastore, 1) := by decide +kernel
theorem dX2_addClash_40 : decode cX2_addClash 40 = .ok (.return_, 1) := by decide +kernel
theorem dX2_has_0 : decode cX2_has 0 = .ok (.iload_n 1, 1) := by decide +kernel
theorem dX2_has_1 : decode cX2_has 1 = .ok (.ifCond .lt 21, 3) := by decide +kernel
theorem dX2_has_4 : decode cX2_has 4 = .ok (.iload_n 1, 1) := by decide +kernel
theorem dX2_has_5 : decode cX2_has 5 = .ok (.aload_n 0, 1) := by decide +kernel
theorem dX2_has_6 : decode cX2_has 6 = .ok (.getfield 15, 3) := by decide +kernel
theorem dX2_has_9 : decode cX2_has 9 = .ok (.if_icmp .ge 13, 3) := by decide +kernel
theorem dX2_has_12 : decode cX2_has 12 = .ok (.iload_n 1, 1) := by decide +kernel
theorem dX2_has_13 : decode cX2_has 13 = .ok (.bipush 8, 2) := by decide +kernel
theorem dX2_has_15 : decode cX2_has 15 = .ok (.if_icmp .ge 7, 3) := by decide +kernel
theorem dX2_has_18 : decode cX2_has 18 = .ok (.iconst 1, 1) := by decide +kernel
theorem dX2_has_19 : decode cX2_has 19 = .ok (.goto 4, 3) := by decide +kernel
theorem dX2_has_22 : decode cX2_has 22 = .ok (.iconst 0, 1) := by decide +kernel
theorem dX2_has_23 : decode cX2_has 23 = .ok (.ireturn, 1) := by decide +kernel
theorem dX2_hasAll_0 : decode cX2_hasAll 0 = .ok (.iload_n 1, 1) := by decide +kernel
theorem dX2_hasAll_1 : decode cX2_hasAll 1 = .ok (.iconst (-1), 1) := by decide +kernel
theorem dX2_hasAll_2 : decode cX2_hasAll 2 = .ok (.aload_n 0, 1) := by decide +kernel
theorem dX2_hasAll_3 : decode cX2_hasAll 3 = .ok (.getfield 15, 3) := by decide +kernel
theorem dX2_hasAll_6 : decode cX2_hasAll 6 = .ok (.ishl, 1) := by decide +kernel
theorem dX2_hasAll_7 : decode cX2_hasAll 7 = .ok (.iand, 1) := by decide +kernel
theorem dX2_hasAll_8 : decode cX2_hasAll 8 = .ok (.ifCond .ne 7, 3) := by decide +kernel
theorem dX2_hasAll_11 : decode cX2_hasAll 11 = .ok (.iconst 1, 1) := by decide +kernel
theorem dX2_hasAll_12 : decode cX2_hasAll 12 = .ok (.goto 4, 3) := by decide +kernel
theorem dX2_hasAll_15 : decode cX2_hasAll 15 = .ok (.iconst 0, 1) := by decide +kernel
theorem dX2_hasAll_16 : decode cX2_hasAll 16 = .ok (.ireturn, 1) := by decide +kernel
theorem dX2_roomLeft_0 : decode cX2_roomLeft 0 = .ok (.aload_n 0, 1) := by decide +kernel
theorem dX2_roomLeft_1 : decode cX2_roomLeft 1 = .ok (.getfield 9, 3) := by decide +kernel
theorem dX2_roomLeft_4 : decode cX2_roomLeft 4 = .ok (.istore_n 2, 1) := by decide +kernel
theorem dX2_roomLeft_5 : decode cX2_roomLeft 5 = .ok (.iconst 0, 1) := by decide +kernel
theorem dX2_roomLeft_6 : decode cX2_roomLeft 6 = .ok (.istore_n 3, 1) := by decide +kernel
theorem dX2_roomLeft_7 : decode cX2_roomLeft 7 = .ok (.iload_n 3, 1) := by decide +kernel
theorem dX2_roomLeft_8 : decode cX2_roomLeft 8 = .ok (.aload_n 0, 1) := by decide +kernel
theorem dX2_roomLeft_9 : decode cX2_roomLeft 9 = .ok (.getfield 15, 3) := by decide +kernel
theorem dX2_roomLeft_12 : decode cX2_roomLeft 12 = .ok (.if_icmp .ge 27, 3) := by decide +kernel
theorem dX2_roomLeft_15 : decode cX2_roomLeft 15 = .ok (.iload_n 1, 1) := by decide +kernel
theorem dX2_roomLeft_16 : decode cX2_roomLeft 16 = .ok (.iload_n 3, 1) := by decide +kernel
theorem dX2_roomLeft_17 : decode cX2_roomLeft 17 = .ok (.ishr, 1) := by decide +kernel
theorem dX2_roomLeft_18 : decode cX2_roomLeft 18 = .ok (.iconst 1, 1) := by decide +kernel
theorem dX2_roomLeft_19 : decode cX2_roomLeft 19 = .ok (.iand, 1) := by decide +kernel
theorem dX2_roomLeft_20 : decode cX2_roomLeft 20 = .ok (.iconst 1, 1) := by decide +kernel
theorem dX2_roomLeft_21 : decode cX2_roomLeft 21 = .ok (.if_icmp .ne 12, 3) := by decide +kernel
theorem dX2_roomLeft_24 : decode cX2_roomLeft 24 = .ok (.iload_n 2, 1) := by decide +kernel
theorem dX2_roomLeft_25 : decode cX2_roomLeft 25 = .ok (.aload_n 0, 1) := by decide +kernel
theorem dX2_roomLeft_26 : decode cX2_roomLeft 26 = .ok (.getfield 27, 3) := by decide +kernel
theorem dX2_roomLeft_29 : decode cX2_roomLeft 29 = .ok (.iload_n 3, 1) := by decide +kernel
theorem dX2_roomLeft_30 : decode cX2_roomLeft 30 = .ok (.iaload, 1) := by decide +kernel
theorem dX2_roomLeft_31 : decode cX2_roomLeft 31 = .ok (.isub, 1) := by decide +kernel
theorem dX2_roomLeft_32 : decode cX2_roomLeft 32 = .ok (.istore_n 2, 1) := by decide +kernel
theorem dX2_roomLeft_33 : decode cX2_roomLeft 33 = .ok (.iinc 3 1, 3) := by decide +kernel
theorem dX2_roomLeft_36 : decode cX2_roomLeft 36 = .ok (.goto (-29), 3) := by decide +kernel
theorem dX2_roomLeft_39 : decode cX2_roomLeft 39 = .ok (.iload_n 2, 1) := by decide +kernel
theorem dX2_roomLeft_40 : decode cX2_roomLeft 40 = .ok (.ireturn, 1) := by decide +kernel
theorem dX2_needing_0 : decode cX2_needing 0 = .ok (.iconst 1, 1) := by decide +kernel
theorem dX2_needing_1 : decode cX2_needing 1 = .ok (.iload_n 1, 1) := by decide +kernel
theorem dX2_needing_2 : decode cX2_needing 2 = .ok (.ishl, 1) := by decide +kernel
theorem dX2_needing_3 : decode cX2_needing 3 = .ok (.istore_n 3, 1) := by decide +kernel
theorem dX2_needing_4 : decode cX2_needing 4 = .ok (.iload_n 1, 1) := by decide +kernel
theorem dX2_needing_5 : decode cX2_needing 5 = .ok (.iconst 1, 1) := by decide +kernel
theorem dX2_needing_6 : decode cX2_needing 6 = .ok (.iadd, 1) := by decide +kernel
theorem dX2_needing_7 : decode cX2_needing 7 = .ok (.istore 4, 2) := by decide +kernel
theorem dX2_needing_9 : decode cX2_needing 9 = .ok (.iload 4, 2) := by decide +kernel
theorem dX2_needing_11 : decode cX2_needing 11 = .ok (.aload_n 0, 1) := by decide +kernel
theorem dX2_needing_12 : decode cX2_needing 12 = .ok (.getfield 15, 3) := by decide +kernel
theorem dX2_needing_15 : decode cX2_needing 15 = .ok (.if_icmp .ge 38, 3) := by decide +kernel
theorem dX2_needing_18 : decode cX2_needing 18 = .ok (.iload_n 2, 1) := by decide +kernel
theorem dX2_needing_19 : decode cX2_needing 19 = .ok (.iload 4, 2) := by decide +kernel
theorem dX2_needing_21 : decode cX2_needing 21 = .ok (.ishr, 1) := by decide +kernel
theorem dX2_needing_22 : decode cX2_needing 22 = .ok (.iconst 1, 1) := by decide +kernel
theorem dX2_needing_23 : decode cX2_needing 23 = .ok (.iand, 1) := by decide +kernel
theorem dX2_needing_24 : decode cX2_needing 24 = .ok (.iconst 1, 1) := by decide +kernel
theorem dX2_needing_25 : decode cX2_needing 25 = .ok (.if_icmp .ne 22, 3) := by decide +kernel
theorem dX2_needing_28 : decode cX2_needing 28 = .ok (.aload_n 0, 1) := by decide +kernel
theorem dX2_needing_29 : decode cX2_needing 29 = .ok (.getfield 43, 3) := by decide +kernel
theorem dX2_needing_32 : decode cX2_needing 32 = .ok (.iload 4, 2) := by decide +kernel
theorem dX2_needing_34 : decode cX2_needing 34 = .ok (.iaload, 1) := by decide +kernel
theorem dX2_needing_35 : decode cX2_needing 35 = .ok (.iload_n 3, 1) := by decide +kernel
theorem dX2_needing_36 : decode cX2_needing 36 = .ok (.iand, 1) := by decide +kernel
theorem dX2_needing_37 : decode cX2_needing 37 = .ok (.ifCond .eq 10, 3) := by decide +kernel
theorem dX2_needing_40 : decode cX2_needing 40 = .ok (.iload_n 3, 1) := by decide +kernel
theorem dX2_needing_41 : decode cX2_needing 41 = .ok (.iconst 1, 1) := by decide +kernel
theorem dX2_needing_42 : decode cX2_needing 42 = .ok (.iload 4, 2) := by decide +kernel
theorem dX2_needing_44 : decode cX2_needing 44 = .ok (.ishl, 1) := by decide +kernel
theorem dX2_needing_45 : decode cX2_needing 45 = .ok (.ior, 1) := by decide +kernel
theorem dX2_needing_46 : decode cX2_needing 46 = .ok (.istore_n 3, 1) := by decide +kernel
theorem dX2_needing_47 : decode cX2_needing 47 = .ok (.iinc 4 1, 3) := by decide +kernel
theorem dX2_needing_50 : decode cX2_needing 50 = .ok (.goto (-41), 3) := by decide +kernel
theorem dX2_needing_53 : decode cX2_needing 53 = .ok (.iload_n 3, 1) := by decide +kernel
theorem dX2_needing_54 : decode cX2_needing 54 = .ok (.ireturn, 1) := by decide +kernel
theorem dX2_needed_0 : decode cX2_needed 0 = .ok (.iconst 1, 1) := by decide +kernel
theorem dX2_needed_1 : decode cX2_needed 1 = .ok (.iload_n 1, 1) := by decide +kernel
theorem dX2_needed_2 : decode cX2_needed 2 = .ok (.ishl, 1) := by decide +kernel
theorem dX2_needed_3 : decode cX2_needed 3 = .ok (.istore_n 2, 1) := by decide +kernel
theorem dX2_needed_4 : decode cX2_needed 4 = .ok (.iload_n 1, 1) := by decide +kernel
theorem dX2_needed_5 : decode cX2_needed 5 = .ok (.istore_n 3, 1) := by decide +kernel
theorem dX2_needed_6 : decode cX2_needed 6 = .ok (.iload_n 3, 1) := by decide +kernel
theorem dX2_needed_7 : decode cX2_needed 7 = .ok (.ifCond .lt 27, 3) := by decide +kernel
theorem dX2_needed_10 : decode cX2_needed 10 = .ok (.iload_n 2, 1) := by decide +kernel
theorem dX2_needed_11 : decode cX2_needed 11 = .ok (.iload_n 3, 1) := by decide +kernel
theorem dX2_needed_12 : decode cX2_needed 12 = .ok (.ishr, 1) := by decide +kernel
theorem dX2_needed_13 : decode cX2_needed 13 = .ok (.iconst 1, 1) := by decide +kernel
theorem dX2_needed_14 : decode cX2_needed 14 = .ok (.iand, 1) := by decide +kernel
theorem dX2_needed_15 : decode cX2_needed 15 = .ok (.iconst 1, 1) := by decide +kernel
theorem dX2_needed_16 : decode cX2_needed 16 = .ok (.if_icmp .ne 12, 3) := by decide +kernel
theorem dX2_needed_19 : decode cX2_needed 19 = .ok (.iload_n 2, 1) := by decide +kernel
theorem dX2_needed_20 : decode cX2_needed 20 = .ok (.aload_n 0, 1) := by decide +kernel
theorem dX2_needed_21 : decode cX2_needed 21 = .ok (.getfield 43, 3) := by decide +kernel
theorem dX2_needed_24 : decode cX2_needed 24 = .ok (.iload_n 3, 1) := by decide +kernel
theorem dX2_needed_25 : decode cX2_needed 25 = .ok (.iaload, 1) := by decide +kernel
theorem dX2_needed_26 : decode cX2_needed 26 = .ok (.ior, 1) := by decide +kernel
theorem dX2_needed_27 : decode cX2_needed 27 = .ok (.istore_n 2, 1) := by decide +kernel
theorem dX2_needed_28 : decode cX2_needed 28 = .ok (.iinc 3 (-1), 3) := by decide +kernel
theorem dX2_needed_31 : decode cX2_needed 31 = .ok (.goto (-25), 3) := by decide +kernel
theorem dX2_needed_34 : decode cX2_needed 34 = .ok (.iload_n 2, 1) := by decide +kernel
theorem dX2_needed_35 : decode cX2_needed 35 = .ok (.ireturn, 1) := by decide +kernel
theorem dX2_gainOf_0 : decode cX2_gainOf 0 = .ok (.aload_n 0, 1) := by decide +kernel
theorem dX2_gainOf_1 : decode cX2_gainOf 1 = .ok (.iload_n 1, 1) := by decide +kernel
theorem dX2_gainOf_2 : decode cX2_gainOf 2 = .ok (.iload_n 2, 1) := by decide +kernel
theorem dX2_gainOf_3 : decode cX2_gainOf 3 = .ok (.invokevirtual 79, 3) := by decide +kernel
theorem dX2_gainOf_6 : decode cX2_gainOf 6 = .ok (.istore_n 3, 1) := by decide +kernel
theorem dX2_gainOf_7 : decode cX2_gainOf 7 = .ok (.iconst 0, 1) := by decide +kernel
theorem dX2_gainOf_8 : decode cX2_gainOf 8 = .ok (.istore 4, 2) := by decide +kernel
theorem dX2_gainOf_10 : decode cX2_gainOf 10 = .ok (.iconst 0, 1) := by decide +kernel
theorem dX2_gainOf_11 : decode cX2_gainOf 11 = .ok (.istore 5, 2) := by decide +kernel
theorem dX2_gainOf_13 : decode cX2_gainOf 13 = .ok (.iload 5, 2) := by decide +kernel
theorem dX2_gainOf_15 : decode cX2_gainOf 15 = .ok (.aload_n 0, 1) := by decide +kernel
theorem dX2_gainOf_16 : decode cX2_gainOf 16 = .ok (.getfield 15, 3) := by decide +kernel
theorem dX2_gainOf_19 : decode cX2_gainOf 19 = .ok (.if_icmp .ge 31, 3) := by decide +kernel
theorem dX2_gainOf_22 : decode cX2_gainOf 22 = .ok (.iload_n 3, 1) := by decide +kernel
theorem dX2_gainOf_23 : decode cX2_gainOf 23 = .ok (.iload 5, 2) := by decide +kernel
theorem dX2_gainOf_25 : decode cX2_gainOf 25 = .ok (.ishr, 1) := by decide +kernel
theorem dX2_gainOf_26 : decode cX2_gainOf 26 = .ok (.iconst 1, 1) := by decide +kernel
theorem dX2_gainOf_27 : decode cX2_gainOf 27 = .ok (.iand, 1) := by decide +kernel
theorem dX2_gainOf_28 : decode cX2_gainOf 28 = .ok (.iconst 1, 1) := by decide +kernel
theorem dX2_gainOf_29 : decode cX2_gainOf 29 = .ok (.if_icmp .ne 15, 3) := by decide +kernel
theorem dX2_gainOf_32 : decode cX2_gainOf 32 = .ok (.iload 4, 2) := by decide +kernel
theorem dX2_gainOf_34 : decode cX2_gainOf 34 = .ok (.aload_n 0, 1) := by decide +kernel
theorem dX2_gainOf_35 : decode cX2_gainOf 35 = .ok (.getfield 40, 3) := by decide +kernel
theorem dX2_gainOf_38 : decode cX2_gainOf 38 = .ok (.iload 5, 2) := by decide +kernel
theorem dX2_gainOf_40 : decode cX2_gainOf 40 = .ok (.iaload, 1) := by decide +kernel
theorem dX2_gainOf_41 : decode cX2_gainOf 41 = .ok (.iadd, 1) := by decide +kernel
theorem dX2_gainOf_42 : decode cX2_gainOf 42 = .ok (.istore 4, 2) := by decide +kernel
theorem dX2_gainOf_44 : decode cX2_gainOf 44 = .ok (.iinc 5 1, 3) := by decide +kernel
theorem dX2_gainOf_47 : decode cX2_gainOf 47 = .ok (.goto (-34), 3) := by decide +kernel
theorem dX2_gainOf_50 : decode cX2_gainOf 50 = .ok (.aload_n 0, 1) := by decide +kernel
theorem dX2_gainOf_51 : decode cX2_gainOf 51 = .ok (.getfield 34, 3) := by decide +kernel
theorem dX2_gainOf_54 : decode cX2_gainOf 54 = .ok (.iload_n 1, 1) := by decide +kernel
theorem dX2_gainOf_55 : decode cX2_gainOf 55 = .ok (.iaload, 1) := by decide +kernel
theorem dX2_gainOf_56 : decode cX2_gainOf 56 = .ok (.iload 4, 2) := by decide +kernel
theorem dX2_gainOf_58 : decode cX2_gainOf 58 = .ok (.imul, 1) := by decide +kernel
theorem dX2_gainOf_59 : decode cX2_gainOf 59 = .ok (.ireturn, 1) := by decide +kernel
theorem dX2_gainsOf_0 : decode cX2_gainsOf 0 = .ok (.iconst 0, 1) := by decide +kernel
theorem dX2_gainsOf_1 : decode cX2_gainsOf 1 = .ok (.istore_n 3, 1) := by decide +kernel
theorem dX2_gainsOf_2 : decode cX2_gainsOf 2 = .ok (.iconst 0, 1) := by decide +kernel
theorem dX2_gainsOf_3 : decode cX2_gainsOf 3 = .ok (.istore 4, 2) := by decide +kernel
theorem dX2_gainsOf_5 : decode cX2_gainsOf 5 = .ok (.iload 4, 2) := by decide +kernel
theorem dX2_gainsOf_7 : decode cX2_gainsOf 7 = .ok (.aload_n 0, 1) := by decide +kernel
theorem dX2_gainsOf_8 : decode cX2_gainsOf 8 = .ok (.getfield 15, 3) := by decide +kernel
theorem dX2_gainsOf_11 : decode cX2_gainsOf 11 = .ok (.if_icmp .ge 29, 3) := by decide +kernel
theorem dX2_gainsOf_14 : decode cX2_gainsOf 14 = .ok (.iload_n 1, 1) := by decide +kernel
theorem dX2_gainsOf_15 : decode cX2_gainsOf 15 = .ok (.iload 4, 2) := by decide +kernel
theorem dX2_gainsOf_17 : decode cX2_gainsOf 17 = .ok (.ishr, 1) := by decide +kernel
theorem dX2_gainsOf_18 : decode cX2_gainsOf 18 = .ok (.iconst 1, 1) := by decide +kernel
theorem dX2_gainsOf_19 : decode cX2_gainsOf 19 = .ok (.iand, 1) := by decide +kernel
theorem dX2_gainsOf_20 : decode cX2_gainsOf 20 = .ok (.iconst 1, 1) := by decide +kernel
theorem dX2_gainsOf_21 : decode cX2_gainsOf 21 = .ok (.if_icmp .ne 13, 3) := by decide +kernel
theorem dX2_gainsOf_24 : decode cX2_gainsOf 24 = .ok (.iload_n 3, 1) := by decide +kernel
theorem dX2_gainsOf_25 : decode cX2_gainsOf 25 = .ok (.aload_n 0, 1) := by decide +kernel
theorem dX2_gainsOf_26 : decode cX2_gainsOf 26 = .ok (.iload 4, 2) := by decide +kernel
theorem dX2_gainsOf_28 : decode cX2_gainsOf 28 = .ok (.iload_n 2, 1) := by decide +kernel
theorem dX2_gainsOf_29 : decode cX2_gainsOf 29 = .ok (.invokevirtual 83, 3) := by decide +kernel
theorem dX2_gainsOf_32 : decode cX2_gainsOf 32 = .ok (.iadd, 1) := by decide +kernel
theorem dX2_gainsOf_33 : decode cX2_gainsOf 33 = .ok (.istore_n 3, 1) := by decide +kernel
theorem dX2_gainsOf_34 : decode cX2_gainsOf 34 = .ok (.iinc 4 1, 3) := by decide +kernel
theorem dX2_gainsOf_37 : decode cX2_gainsOf 37 = .ok (.goto (-32), 3) := by decide +kernel
theorem dX2_gainsOf_40 : decode cX2_gainsOf 40 = .ok (.iload_n 3, 1) := by decide +kernel
theorem dX2_gainsOf_41 : decode cX2_gainsOf 41 = .ok (.ireturn, 1) := by decide +kernel
theorem dX2_bestPacked_0 : decode cX2_bestPacked 0 = .ok (.iconst 0, 1) := by decide +kernel
theorem dX2_bestPacked_1 : decode cX2_bestPacked 1 = .ok (.istore_n 2, 1) := by decide +kernel
theorem dX2_bestPacked_2 : decode cX2_bestPacked 2 = .ok (.iconst 0, 1) := by decide +kernel
theorem dX2_bestPacked_3 : decode cX2_bestPacked 3 = .ok (.istore_n 3, 1) := by decide +kernel
theorem dX2_bestPacked_4 : decode cX2_bestPacked 4 = .ok (.iconst 1, 1) := by decide +kernel
theorem dX2_bestPacked_5 : decode cX2_bestPacked 5 = .ok (.istore 4, 2) := by decide +kernel
theorem dX2_bestPacked_7 : decode cX2_bestPacked 7 = .ok (.iload 4, 2) := by decide +kernel
theorem dX2_bestPacked_9 : decode cX2_bestPacked 9 = .ok (.sipush 256, 3) := by decide +kernel
theorem dX2_bestPacked_12 : decode cX2_bestPacked 12 = .ok (.if_icmp .ge 48, 3) := by decide +kernel
theorem dX2_bestPacked_15 : decode cX2_bestPacked 15 = .ok (.iload 4, 2) := by decide +kernel
theorem dX2_bestPacked_17 : decode cX2_bestPacked 17 = .ok (.iload_n 1, 1) := by decide +kernel
theorem dX2_bestPacked_18 : decode cX2_bestPacked 18 = .ok (.iconst (-1), 1) := by decide +kernel
theorem dX2_bestPacked_19 : decode cX2_bestPacked 19 = .ok (.ixor, 1) := by decide +kernel
theorem dX2_bestPacked_20 : decode cX2_bestPacked 20 = .ok (.iand, 1) := by decide +kernel
theorem dX2_bestPacked_21 : decode cX2_bestPacked 21 = .ok (.ifCond .ne 33, 3) := by decide +kernel
theorem dX2_bestPacked_24 : decode cX2_bestPacked 24 = .ok (.aload_n 0, 1) := by decide +kernel
theorem dX2_bestPacked_25 : decode cX2_bestPacked 25 = .ok (.iload 4, 2) := by decide +kernel
theorem dX2_bestPacked_27 : decode cX2_bestPacked 27 = .ok (.invokevirtual 86, 3) := by decide +kernel
theorem dX2_bestPacked_30 : decode cX2_bestPacked 30 = .ok (.ifCond .lt 24, 3) := by decide +kernel
theorem dX2_bestPacked_33 : decode cX2_bestPacked 33 = .ok (.aload_n 0, 1) := by decide +kernel
theorem dX2_bestPacked_34 : decode cX2_bestPacked 34 = .ok (.iload 4, 2) := by decide +kernel
theorem dX2_bestPacked_36 : decode cX2_bestPacked 36 = .ok (.iload_n 1, 1) := by decide +kernel
theorem dX2_bestPacked_37 : decode cX2_bestPacked 37 = .ok (.invokevirtual 90, 3) := by decide +kernel
theorem dX2_bestPacked_40 : decode cX2_bestPacked 40 = .ok (.istore 5, 2) := by decide +kernel
theorem dX2_bestPacked_42 : decode cX2_bestPacked 42 = .ok (.iload 5, 2) := by decide +kernel
theorem dX2_bestPacked_44 : decode cX2_bestPacked 44 = .ok (.iload_n 3, 1) := by decide +kernel
theorem dX2_bestPacked_45 : decode cX2_bestPacked 45 = .ok (.if_icmp .le 9, 3) := by decide +kernel
theorem dX2_bestPacked_48 : decode cX2_bestPacked 48 = .ok (.iload 5, 2) := by decide +kernel
theorem dX2_bestPacked_50 : decode cX2_bestPacked 50 = .ok (.istore_n 3, 1) := by decide +kernel
theorem dX2_bestPacked_51 : decode cX2_bestPacked 51 = .ok (.iload 4, 2) := by decide +kernel
theorem dX2_bestPacked_53 : decode cX2_bestPacked 53 = .ok (.istore_n 2, 1) := by decide +kernel
theorem dX2_bestPacked_54 : decode cX2_bestPacked 54 = .ok (.iinc 4 1, 3) := by decide +kernel
theorem dX2_bestPacked_57 : decode cX2_bestPacked 57 = .ok (.goto (-50), 3) := by decide +kernel
theorem dX2_bestPacked_60 : decode cX2_bestPacked 60 = .ok (.iload_n 2, 1) := by decide +kernel
theorem dX2_bestPacked_61 : decode cX2_bestPacked 61 = .ok (.ireturn, 1) := by decide +kernel
theorem dX2_doorOf_0 : decode cX2_doorOf 0 = .ok (.iload_n 2, 1) := by decide +kernel
theorem dX2_doorOf_1 : decode cX2_doorOf 1 = .ok (.iload_n 1, 1) := by decide +kernel
theorem dX2_doorOf_2 : decode cX2_doorOf 2 = .ok (.ishr, 1) := by decide +kernel
theorem dX2_doorOf_3 : decode cX2_doorOf 3 = .ok (.iconst 1, 1) := by decide +kernel
theorem dX2_doorOf_4 : decode cX2_doorOf 4 = .ok (.iand, 1) := by decide +kernel
theorem dX2_doorOf_5 : decode cX2_doorOf 5 = .ok (.ifCond .ne 5, 3) := by decide +kernel
theorem dX2_doorOf_8 : decode cX2_doorOf 8 = .ok (.iconst (-1), 1) := by decide +kernel
theorem dX2_doorOf_9 : decode cX2_doorOf 9 = .ok (.ireturn, 1) := by decide +kernel
theorem dX2_doorOf_10 : decode cX2_doorOf 10 = .ok (.iconst 0, 1) := by decide +kernel
theorem dX2_doorOf_11 : decode cX2_doorOf 11 = .ok (.istore_n 3, 1) := by decide +kernel
theorem dX2_doorOf_12 : decode cX2_doorOf 12 = .ok (.iconst 0, 1) := by decide +kernel
theorem dX2_doorOf_13 : decode cX2_doorOf 13 = .ok (.istore 4, 2) := by decide +kernel
theorem dX2_doorOf_15 : decode cX2_doorOf 15 = .ok (.iload 4, 2) := by decide +kernel
theorem dX2_doorOf_17 : decode cX2_doorOf 17 = .ok (.iload_n 1, 1) := by decide +kernel
theorem dX2_doorOf_18 : decode cX2_doorOf 18 = .ok (.if_icmp .ge 43, 3) := by decide +kernel
theorem dX2_doorOf_21 : decode cX2_doorOf 21 = .ok (.iload_n 3, 1) := by decide +kernel
theorem dX2_doorOf_22 : decode cX2_doorOf 22 = .ok (.iload_n 2, 1) := by decide +kernel
theorem dX2_doorOf_23 : decode cX2_doorOf 23 = .ok (.iload 4, 2) := by decide +kernel
theorem dX2_doorOf_25 : decode cX2_doorOf 25 = .ok (.ishr, 1) := by decide +kernel
theorem dX2_doorOf_26 : decode cX2_doorOf 26 = .ok (.iconst 1, 1) := by decide +kernel
theorem dX2_doorOf_27 : decode cX2_doorOf 27 = .ok (.iand, 1) := by decide +kernel
theorem dX2_doorOf_28 : decode cX2_doorOf 28 = .ok (.iconst 1, 1) := by decide +kernel
theorem dX2_doorOf_29 : decode cX2_doorOf 29 = .ok (.if_icmp .ne 23, 3) := by decide +kernel
theorem dX2_doorOf_32 : decode cX2_doorOf 32 = .ok (.aload_n 0, 1) := by decide +kernel
theorem dX2_doorOf_33 : decode cX2_doorOf 33 = .ok (.getfield 31, 3) := by decide +kernel
theorem dX2_doorOf_36 : decode cX2_doorOf 36 = .ok (.iload 4, 2) := by decide +kernel
theorem dX2_doorOf_38 : decode cX2_doorOf 38 = .ok (.iaload, 1) := by decide +kernel
theorem dX2_doorOf_39 : decode cX2_doorOf 39 = .ok (.aload_n 0, 1) := by decide +kernel
theorem dX2_doorOf_40 : decode cX2_doorOf 40 = .ok (.getfield 31, 3) := by decide +kernel
theorem dX2_doorOf_43 : decode cX2_doorOf 43 = .ok (.iload_n 1, 1) := by decide +kernel
theorem dX2_doorOf_44 : decode cX2_doorOf 44 = .ok (.iaload, 1) := by decide +kernel
theorem dX2_doorOf_45 : decode cX2_doorOf 45 = .ok (.if_icmp .ne 7, 3) := by decide +kernel
theorem dX2_doorOf_48 : decode cX2_doorOf 48 = .ok (.iconst 1, 1) := by decide +kernel
theorem dX2_doorOf_49 : decode cX2_doorOf 49 = .ok (.goto 4, 3) := by decide +kernel
theorem dX2_doorOf_52 : decode cX2_doorOf 52 = .ok (.iconst 0, 1) := by decide +kernel
theorem dX2_doorOf_53 : decode cX2_doorOf 53 = .ok (.iadd, 1) := by decide +kernel
theorem dX2_doorOf_54 : decode cX2_doorOf 54 = .ok (.istore_n 3, 1) := by decide +kernel
theorem dX2_doorOf_55 : decode cX2_doorOf 55 = .ok (.iinc 4 1, 3) := by decide +kernel
theorem dX2_doorOf_58 : decode cX2_doorOf 58 = .ok (.goto (-43), 3) := by decide +kernel
theorem dX2_doorOf_61 : decode cX2_doorOf 61 = .ok (.iconst 0, 1) := by decide +kernel
theorem dX2_doorOf_62 : decode cX2_doorOf 62 = .ok (.istore 4, 2) := by decide +kernel
theorem dX2_doorOf_64 : decode cX2_doorOf 64 = .ok (.iload 4, 2) := by decide +kernel
theorem dX2_doorOf_66 : decode cX2_doorOf 66 = .ok (.aload_n 0, 1) := by decide +kernel
theorem dX2_doorOf_67 : decode cX2_doorOf 67 = .ok (.getfield 18, 3) := by decide +kernel
theorem dX2_doorOf_70 : decode cX2_doorOf 70 = .ok (.if_icmp .ge 38, 3) := by decide +kernel
theorem dX2_doorOf_73 : decode cX2_doorOf 73 = .ok (.aload_n 0, 1) := by decide +kernel
theorem dX2_doorOf_74 : decode cX2_doorOf 74 = .ok (.getfield 31, 3) := by decide +kernel
theorem dX2_doorOf_77 : decode cX2_doorOf 77 = .ok (.iload_n 1, 1) := by decide +kernel
theorem dX2_doorOf_78 : decode cX2_doorOf 78 = .ok (.iaload, 1) := by decide +kernel
theorem dX2_doorOf_79 : decode cX2_doorOf 79 = .ok (.aload_n 0, 1) := by decide +kernel
theorem dX2_doorOf_80 : decode cX2_doorOf 80 = .ok (.getfield 49, 3) := by decide +kernel
theorem dX2_doorOf_83 : decode cX2_doorOf 83 = .ok (.iload 4, 2) := by decide +kernel
theorem dX2_doorOf_85 : decode cX2_doorOf 85 = .ok (.iaload, 1) := by decide +kernel
theorem dX2_doorOf_86 : decode cX2_doorOf 86 = .ok (.iadd, 1) := by decide +kernel
theorem dX2_doorOf_87 : decode cX2_doorOf 87 = .ok (.bipush 9, 2) := by decide +kernel
theorem dX2_doorOf_89 : decode cX2_doorOf 89 = .ok (.if_icmp .ne 13, 3) := by decide +kernel
theorem dX2_doorOf_92 : decode cX2_doorOf 92 = .ok (.iload_n 3, 1) := by decide +kernel
theorem dX2_doorOf_93 : decode cX2_doorOf 93 = .ok (.ifCond .ne 6, 3) := by decide +kernel
theorem dX2_doorOf_96 : decode cX2_doorOf 96 = .ok (.iload 4, 2) := by decide +kernel
theorem dX2_doorOf_98 : decode cX2_doorOf 98 = .ok (.ireturn, 1) := by decide +kernel
theorem dX2_doorOf_99 : decode cX2_doorOf 99 = .ok (.iinc 3 (-1), 3) := by decide +kernel
theorem dX2_doorOf_102 : decode cX2_doorOf 102 = .ok (.iinc 4 1, 3) := by decide +kernel
theorem dX2_doorOf_105 : decode cX2_doorOf 105 = .ok (.goto (-41), 3) := by decide +kernel
theorem dX2_doorOf_108 : decode cX2_doorOf 108 = .ok (.iconst (-1), 1) := by decide +kernel
theorem dX2_doorOf_109 : decode cX2_doorOf 109 = .ok (.ireturn, 1) := by decide +kernel
theorem dX2_doorsJoined_0 : decode cX2_doorsJoined 0 = .ok (.iconst 0, 1) := by decide +kernel
theorem dX2_doorsJoined_1 : decode cX2_doorsJoined 1 = .ok (.istore_n 2, 1) := by decide +kernel
theorem dX2_doorsJoined_2 : decode cX2_doorsJoined 2 = .ok (.iconst 0, 1) := by decide +kernel
theorem dX2_doorsJoined_3 : decode cX2_doorsJoined 3 = .ok (.istore_n 3, 1) := by decide +kernel
theorem dX2_doorsJoined_4 : decode cX2_doorsJoined 4 = .ok (.iload_n 3, 1) := by decide +kernel
theorem dX2_doorsJoined_5 : decode cX2_doorsJoined 5 = .ok (.aload_n 0, 1) := by decide +kernel
theorem dX2_doorsJoined_6 : decode cX2_doorsJoined 6 = .ok (.getfield 15, 3) := by decide +kernel
theorem dX2_doorsJoined_9 : decode cX2_doorsJoined 9 = .ok (.if_icmp .ge 33, 3) := by decide +kernel
theorem dX2_doorsJoined_12 : decode cX2_doorsJoined 12 = .ok (.aload_n 0, 1) := by decide +kernel
theorem dX2_doorsJoined_13 : decode cX2_doorsJoined 13 = .ok (.iload_n 3, 1) := by decide +kernel
theorem dX2_doorsJoined_14 : decode cX2_doorsJoined 14 = .ok (.iload_n 1, 1) := by decide +kernel
theorem dX2_doorsJoined_15 : decode cX2_doorsJoined 15 = .ok (.invokevirtual 93, 3) := by decide +kernel
theorem dX2_doorsJoined_18 : decode cX2_doorsJoined 18 = .ok (.istore 4, 2) := by decide +kernel
theorem dX2_doorsJoined_20 : decode cX2_doorsJoined 20 = .ok (.iload_n 2, 1) := by decide +kernel
theorem dX2_doorsJoined_21 : decode cX2_doorsJoined 21 = .ok (.iload 4, 2) := by decide +kernel
theorem dX2_doorsJoined_23 : decode cX2_doorsJoined 23 = .ok (.ifCond .ge 7, 3) := by decide +kernel
theorem dX2_doorsJoined_26 : decode cX2_doorsJoined 26 = .ok (.iconst 0, 1) := by decide +kernel
theorem dX2_doorsJoined_27 : decode cX2_doorsJoined 27 = .ok (.goto 7, 3) := by decide +kernel
theorem dX2_doorsJoined_30 : decode cX2_doorsJoined 30 = .ok (.iconst 1, 1) := by decide +kernel
theorem dX2_doorsJoined_31 : decode cX2_doorsJoined 31 = .ok (.iload 4, 2) := by decide +kernel
theorem dX2_doorsJoined_33 : decode cX2_doorsJoined 33 = .ok (.ishl, 1) := by decide +kernel
theorem dX2_doorsJoined_34 : decode cX2_doorsJoined 34 = .ok (.ior, 1) := by decide +kernel
theorem dX2_doorsJoined_35 : decode cX2_doorsJoined 35 = .ok (.istore_n 2, 1) := by decide +kernel
theorem dX2_doorsJoined_36 : decode cX2_doorsJoined 36 = .ok (.iinc 3 1, 3) := by decide +kernel
theorem dX2_doorsJoined_39 : decode cX2_doorsJoined 39 = .ok (.goto (-35), 3) := by decide +kernel
theorem dX2_doorsJoined_42 : decode cX2_doorsJoined 42 = .ok (.iload_n 2, 1) := by decide +kernel
theorem dX2_doorsJoined_43 : decode cX2_doorsJoined 43 = .ok (.ireturn, 1) := by decide +kernel
theorem dX3_init_0 : decode cX3_init 0 = .ok (.aload_n 0, 1) := by decide +kernel
theorem dX3_init_1 : decode cX3_init 1 = .ok (.invokespecial 3, 3) := by decide +kernel
theorem dX3_init_4 : decode cX3_init 4 = .ok (.aload_n 0, 1) := by decide +kernel
theorem dX3_init_5 : decode cX3_init 5 = .ok (.bipush 8, 2) := by decide +kernel
theorem dX3_init_7 : decode cX3_init 7 = .ok (.newarray .int, 2) := by decide +kernel
theorem dX3_init_9 : decode cX3_init 9 = .ok (.putfield 9, 3) := by decide +kernel
theorem dX3_init_12 : decode cX3_init 12 = .ok (.aload_n 0, 1) := by decide +kernel
theorem dX3_init_13 : decode cX3_init 13 = .ok (.sipush 256, 3) := by decide +kernel
theorem dX3_init_16 : decode cX3_init 16 = .ok (.newarray .int, 2) := by decide +kernel
theorem dX3_init_18 : decode cX3_init 18 = .ok (.putfield 15, 3) := by decide +kernel
theorem dX3_init_21 : decode cX3_init 21 = .ok (.aload_n 0, 1) := by decide +kernel
theorem dX3_init_22 : decode cX3_init 22 = .ok (.iconst 0, 1) := by decide +kernel
theorem dX3_init_23 : decode cX3_init 23 = .ok (.putfield 18, 3) := by decide +kernel
theorem dX3_init_26 : decode cX3_init 26 = .ok (.return_, 1) := by decide +kernel
theorem dX3_begin_0 : decode cX3_begin 0 = .ok (.aload_n 0, 1) := by decide +kernel
theorem dX3_begin_1 : decode cX3_begin 1 = .ok (.iload_n 2, 1) := by decide +kernel
theorem dX3_begin_2 : decode cX3_begin 2 = .ok (.putfield 18, 3) := by decide +kernel
theorem dX3_begin_5 : decode cX3_begin 5 = .ok (.aload_n 1, 1) := by decide +kernel
theorem dX3_begin_6 : decode cX3_begin 6 = .ok (.getfield 22, 3) := by decide +kernel
theorem dX3_begin_9 : decode cX3_begin 9 = .ok (.iconst 0, 1) := by decide +kernel
theorem dX3_begin_10 : decode cX3_begin 10 = .ok (.aload_n 0, 1) := by decide +kernel
theorem dX3_begin_11 : decode cX3_begin 11 = .ok (.getfield 9, 3) := by decide +kernel
theorem dX3_begin_14 : decode cX3_begin 14 = .ok (.iconst 0, 1) := by decide +kernel
theorem dX3_begin_15 : decode cX3_begin 15 = .ok (.bipush 8, 2) := by decide +kernel
theorem dX3_begin_17 : decode cX3_begin 17 = .ok (.invokestatic 27, 3) := by decide +kernel
theorem dX3_begin_20 : decode cX3_begin 20 = .ok (.return_, 1) := by decide +kernel
theorem dX3_tellNumber_0 : decode cX3_tellNumber 0 = .ok (.lload_n 1, 1) := by decide +kernel
theorem dX3_tellNumber_1 : decode cX3_tellNumber 1 = .ok (.lconst 0, 1) := by decide +kernel
theorem dX3_tellNumber_2 : decode cX3_tellNumber 2 = .ok (.lcmp, 1) := by decide +kernel
theorem dX3_tellNumber_3 : decode cX3_tellNumber 3 = .ok (.ifCond .lt 11, 3) := by decide +kernel
theorem dX3_tellNumber_6 : decode cX3_tellNumber 6 = .ok (.lload_n 1, 1) := by decide +kernel
theorem dX3_tellNumber_7 : decode cX3_tellNumber 7 = .ok (.ldc2_w 33, 3) := by decide +kernel
theorem dX3_tellNumber_10 : decode cX3_tellNumber 10 = .ok (.lcmp, 1) := by decide +kernel
theorem dX3_tellNumber_11 : decode cX3_tellNumber 11 = .ok (.ifCond .le 5, 3) := by decide +kernel
theorem dX3_tellNumber_14 : decode cX3_tellNumber 14 = .ok (.iconst 0, 1) := by decide +kernel
theorem dX3_tellNumber_15 : decode cX3_tellNumber 15 = .ok (.ireturn, 1) := by decide +kernel
theorem dX3_tellNumber_16 : decode cX3_tellNumber 16 = .ok (.lload_n 1, 1) := by decide +kernel
theorem dX3_tellNumber_17 : decode cX3_tellNumber 17 = .ok (.l2i, 1) := by decide +kernel
theorem dX3_tellNumber_18 : decode cX3_tellNumber 18 = .ok (.bipush 10, 2) := by decide +kernel
theorem dX3_tellNumber_20 : decode cX3_tellNumber 20 = .ok (.idiv, 1) := by decide +kernel
theorem dX3_tellNumber_21 : decode cX3_tellNumber 21 = .ok (.istore_n 3, 1) := by decide +kernel
theorem dX3_tellNumber_22 : decode cX3_tellNumber 22 = .ok (.lload_n 1, 1) := by decide +kernel
theorem dX3_tellNumber_23 : decode cX3_tellNumber 23 = .ok (.l2i, 1) := by decide +kernel
theorem dX3_tellNumber_24 : decode cX3_tellNumber 24 = .ok (.bipush 10, 2) := by decide +kernel
theorem dX3_tellNumber_26 : decode cX3_tellNumber 26 = .ok (.irem, 1) := by decide +kernel
theorem dX3_tellNumber_27 : decode cX3_tellNumber 27 = .ok (.istore 4, 2) := by decide +kernel
theorem dX3_tellNumber_29 : decode cX3_tellNumber 29 = .ok (.iload_n 3, 1) := by decide +kernel
theorem dX3_tellNumber_30 : decode cX3_tellNumber 30 = .ok (.iload 4, 2) := by decide +kernel
theorem dX3_tellNumber_32 : decode cX3_tellNumber 32 = .ok (.if_icmp .eq 26, 3) := by decide +kernel
theorem dX3_tellNumber_35 : decode cX3_tellNumber 35 = .ok (.aload_n 0, 1) := by decide +kernel
theorem dX3_tellNumber_36 : decode cX3_tellNumber 36 = .ok (.getfield 18, 3) := by decide +kernel
theorem dX3_tellNumber_39 : decode cX3_tellNumber 39 = .ok (.iload_n 3, 1) := by decide +kernel
theorem dX3_tellNumber_40 : decode cX3_tellNumber 40 = .ok (.ishr, 1) := by decide +kernel
theorem dX3_tellNumber_41 : decode cX3_tellNumber 41 = .ok (.iconst 1, 1) := by decide +kernel
theorem dX3_tellNumber_42 : decode cX3_tellNumber 42 = .ok (.iand, 1) := by decide +kernel
theorem dX3_tellNumber_43 : decode cX3_tellNumber 43 = .ok (.ifCond .eq 15, 3) := by decide +kernel
theorem dX3_tellNumber_46 : decode cX3_tellNumber 46 = .ok (.aload_n 0, 1) := by decide +kernel
theorem dX3_tellNumber_47 : decode cX3_tellNumber 47 = .ok (.getfield 18, 3) := by decide +kernel
theorem dX3_tellNumber_50 : decode cX3_tellNumber 50 = .ok (.iload 4, 2) := by decide +kernel
theorem dX3_tellNumber_52 : decode cX3_tellNumber 52 = .ok (.ishr, 1) := by decide +kernel
theorem dX3_tellNumber_53 : decode cX3_tellNumber 53 = .ok (.iconst 1, 1) := by decide +kernel
theorem dX3_tellNumber_54 : decode cX3_tellNumber 54 = .ok (.iand, 1) := by decide +kernel
theorem dX3_tellNumber_55 : decode cX3_tellNumber 55 = .ok (.ifCond .ne 5, 3) := by decide +kernel
theorem dX3_tellNumber_58 : decode cX3_tellNumber 58 = .ok (.iconst 0, 1) := by decide +kernel
theorem dX3_tellNumber_59 : decode cX3_tellNumber 59 = .ok (.ireturn, 1) := by decide +kernel
theorem dX3_tellNumber_60 : decode cX3_tellNumber 60 = .ok (.aload_n 0, 1) := by decide +kernel
theorem dX3_tellNumber_61 : decode cX3_tellNumber 61 = .ok (.iload_n 3, 1) := by decide +kernel
theorem dX3_tellNumber_62 : decode cX3_tellNumber 62 = .ok (.iload 4, 2) := by decide +kernel
theorem dX3_tellNumber_64 : decode cX3_tellNumber 64 = .ok (.invokevirtual 35, 3) := by decide +kernel
theorem dX3_tellNumber_67 : decode cX3_tellNumber 67 = .ok (.iconst 1, 1) := by decide +kernel
theorem dX3_tellNumber_68 : decode cX3_tellNumber 68 = .ok (.ireturn, 1) := by decide +kernel
theorem dX3_tell_0 : decode cX3_tell 0 = .ok (.iload_n 2, 1) := by decide +kernel
theorem dX3_tell_1 : decode cX3_tell 1 = .ok (.ifCond .lt 21, 3) := by decide +kernel
theorem dX3_tell_4 : decode cX3_tell 4 = .ok (.iload_n 2, 1) := by decide +kernel
theorem dX3_tell_5 : decode cX3_tell 5 = .ok (.bipush 8, 2) := by decide +kernel
theorem dX3_tell_7 : decode cX3_tell 7 = .ok (.if_icmp .ge 15, 3) := by decide +kernel
theorem dX3_tell_10 : decode cX3_tell 10 = .ok (.aload_n 0, 1) := by decide +kernel
theorem dX3_tell_11 : decode cX3_tell 11 = .ok (.getfield 9, 3) := by decide +kernel
theorem dX3_tell_14 : decode cX3_tell 14 = .ok (.iload_n 2, 1) := by decide +kernel
theorem dX3_tell_15 : decode cX3_tell 15 = .ok (.dup2, 1) := by decide +kernel
theorem dX3_tell_16 : decode cX3_tell 16 = .ok (.iaload, 1) := by decide +kernel
theorem dX3_tell_17 : decode cX3_tell 17 = .ok (.iconst 1, 1) := by decide +kernel
theorem dX3_tell_18 : decode cX3_tell 18 = .ok (.iload_n 1, 1) := by decide +kernel
theorem dX3_tell_19 : decode cX3_tell 19 = .ok (.ishl, 1) := by decide +kernel
theorem dX3_tell_20 : decode cX3_tell 20 = .ok (.ior, 1) := by decide +kernel
theorem dX3_tell_21 : decode cX3_tell 21 = .ok (.iastore, 1) := by decide +kernel
theorem dX3_tell_22 : decode cX3_tell 22 = .ok (.return_, 1) := by decide +kernel
theorem dX3_total_0 : decode cX3_total 0 = .ok (.aload_n 0, 1) := by decide +kernel
theorem dX3_total_1 : decode cX3_total 1 = .ok (.getfield 15, 3) := by decide +kernel
theorem dX3_total_4 : decode cX3_total 4 = .ok (.iconst 0, 1) := by decide +kernel
theorem dX3_total_5 : decode cX3_total 5 = .ok (.iconst 1, 1) := by decide +kernel
theorem dX3_total_6 : decode cX3_total 6 = .ok (.iastore, 1) := by decide +kernel
theorem dX3_total_7 : decode cX3_total 7 = .ok (.iconst 1, 1) := by decide +kernel
theorem dX3_total_8 : decode cX3_total 8 = .ok (.istore_n 1, 1) := by decide +kernel
theorem dX3_total_9 : decode cX3_total 9 = .ok (.iload_n 1, 1) := by decide +kernel
theorem dX3_total_10 : decode cX3_total 10 = .ok (.sipush 256, 3) := by decide +kernel
theorem dX3_total_13 : decode cX3_total 13 = .ok (.if_icmp .ge 82, 3) := by decide +kernel
theorem dX3_total_16 : decode cX3_total 16 = .ok (.aload_n 0, 1) := by decide +kernel
theorem dX3_total_17 : decode cX3_total 17 = .ok (.getfield 15, 3) := by decide +kernel
theorem dX3_total_20 : decode cX3_total 20 = .ok (.iload_n 1, 1) := by decide +kernel
theorem dX3_total_21 : decode cX3_total 21 = .ok (.iconst 0, 1) := by decide +kernel
theorem dX3_total_22 : decode cX3_total 22 = .ok (.iastore, 1) := by decide +kernel
theorem dX3_total_23 : decode cX3_total 23 = .ok (.iconst 0, 1) := by decide +kernel
theorem dX3_total_24 : decode cX3_total 24 = .ok (.istore_n 2, 1) := by decide +kernel
theorem dX3_total_25 : decode cX3_total 25 = .ok (.iload_n 2, 1) := by decide +kernel
theorem dX3_total_26 : decode cX3_total 26 = .ok (.bipush 8, 2) := by decide +kernel
theorem dX3_total_28 : decode cX3_total 28 = .ok (.if_icmp .ge 61, 3) := by decide +kernel
theorem dX3_total_31 : decode cX3_total 31 = .ok (.iload_n 1, 1) := by decide +kernel
theorem dX3_total_32 : decode cX3_total 32 = .ok (.aload_n 0, 1) := by decide +kernel
theorem dX3_total_33 : decode cX3_total 33 = .ok (.getfield 18, 3) := by decide +kernel
theorem dX3_total_36 : decode cX3_total 36 = .ok (.iconst (-1), 1) := by decide +kernel
theorem dX3_total_37 : decode cX3_total 37 = .ok (.ixor, 1) := by decide +kernel
theorem dX3_total_38 : decode cX3_total 38 = .ok (.iand, 1) := by decide +kernel
theorem dX3_total_39 : decode cX3_total 39 = .ok (.ifCond .ne 50, 3) := by decide +kernel
theorem dX3_total_42 : decode cX3_total 42 = .ok (.iload_n 1, 1) := by decide +kernel
theorem dX3_total_43 : decode cX3_total 43 = .ok (.iconst 1, 1) := by decide +kernel
theorem dX3_total_44 : decode cX3_total 44 = .ok (.iload_n 2, 1) := by decide +kernel
theorem dX3_total_45 : decode cX3_total 45 = .ok (.ishl, 1) := by decide +kernel
theorem dX3_total_46 : decode cX3_total 46 = .ok (.iconst (-1), 1) := by decide +kernel
theorem dX3_total_47 : decode cX3_total 47 = .ok (.ixor, 1) := by decide +kernel
theorem dX3_total_48 : decode cX3_total 48 = .ok (.iand, 1) := by decide +kernel
theorem dX3_total_49 : decode cX3_total 49 = .ok (.istore_n 3, 1) := by decide +kernel
theorem dX3_total_50 : decode cX3_total 50 = .ok (.iload_n 3, 1) := by decide +kernel
theorem dX3_total_51 : decode cX3_total 51 = .ok (.iload_n 1, 1) := by decide +kernel
theorem dX3_total_52 : decode cX3_total 52 = .ok (.if_icmp .eq 31, 3) := by decide +kernel
theorem dX3_total_55 : decode cX3_total 55 = .ok (.aload_n 0, 1) := by decide +kernel
theorem dX3_total_56 : decode cX3_total 56 = .ok (.getfield 9, 3) := by decide +kernel
theorem dX3_total_59 : decode cX3_total 59 = .ok (.iload_n 2, 1) := by decide +kernel
theorem dX3_total_60 : decode cX3_total 60 = .ok (.iaload, 1) := by decide +kernel
theorem dX3_total_61 : decode cX3_total 61 = .ok (.iload_n 3, 1) := by decide +kernel
theorem dX3_total_62 : decode cX3_total 62 = .ok (.iconst (-1), 1) := by decide +kernel
theorem dX3_total_63 : decode cX3_total 63 = .ok (.ixor, 1) := by decide +kernel
theorem dX3_total_64 : decode cX3_total 64 = .ok (.iand, 1) := by decide +kernel
theorem dX3_total_65 : decode cX3_total 65 = .ok (.ifCond .ne 18, 3) := by decide +kernel
theorem dX3_total_68 : decode cX3_total 68 = .ok (.aload_n 0, 1) := by decide +kernel
theorem dX3_total_69 : decode cX3_total 69 = .ok (.getfield 15, 3) := by decide +kernel
theorem dX3_total_72 : decode cX3_total 72 = .ok (.iload_n 1, 1) := by decide +kernel
theorem dX3_total_73 : decode cX3_total 73 = .ok (.dup2, 1) := by decide +kernel
theorem dX3_total_74 : decode cX3_total 74 = .ok (.iaload, 1) := by decide +kernel
theorem dX3_total_75 : decode cX3_total 75 = .ok (.aload_n 0, 1) := by decide +kernel
theorem dX3_total_76 : decode cX3_total 76 = .ok (.getfield 15, 3) := by decide +kernel
theorem dX3_total_79 : decode cX3_total 79 = .ok (.iload_n 3, 1) := by decide +kernel
theorem dX3_total_80 : decode cX3_total 80 = .ok (.iaload, 1) := by decide +kernel
theorem dX3_total_81 : decode cX3_total 81 = .ok (.iadd, 1) := by decide +kernel
theorem dX3_total_82 : decode cX3_total 82 = .ok (.iastore, 1) := by decide +kernel
theorem dX3_total_83 : decode cX3_total 83 = .ok (.iinc 2 1, 3) := by decide +kernel
theorem dX3_total_86 : decode cX3_total 86 = .ok (.goto (-61), 3) := by decide +kernel
theorem dX3_total_89 : decode cX3_total 89 = .ok (.iinc 1 1, 3) := by decide +kernel
theorem dX3_total_92 : decode cX3_total 92 = .ok (.goto (-83), 3) := by decide +kernel
theorem dX3_total_95 : decode cX3_total 95 = .ok (.aload_n 0, 1) := by decide +kernel
theorem dX3_total_96 : decode cX3_total 96 = .ok (.getfield 15, 3) := by decide +kernel
theorem dX3_total_99 : decode cX3_total 99 = .ok (.aload_n 0, 1) := by decide +kernel
theorem dX3_total_100 : decode cX3_total 100 = .ok (.getfield 18, 3) := by decide +kernel
theorem dX3_total_103 : decode cX3_total 103 = .ok (.sipush 255, 3) := by decide +kernel
theorem dX3_total_106 : decode cX3_total 106 = .ok (.iand, 1) := by decide +kernel
theorem dX3_total_107 : decode cX3_total 107 = .ok (.iaload, 1) := by decide +kernel
theorem dX3_total_108 : decode cX3_total 108 = .ok (.ireturn, 1) := by decide +kernel
theorem dX3_firstAt_0 : decode cX3_firstAt 0 = .ok (.iload_n 1, 1) := by decide +kernel
theorem dX3_firstAt_1 : decode cX3_firstAt 1 = .ok (.ifCond .lt 21, 3) := by decide +kernel
theorem dX3_firstAt_4 : decode cX3_firstAt 4 = .ok (.iload_n 1, 1) := by decide +kernel
theorem dX3_firstAt_5 : decode cX3_firstAt 5 = .ok (.aload_n 0, 1) := by decide +kernel
theorem dX3_firstAt_6 : decode cX3_firstAt 6 = .ok (.getfield 18, 3) := by decide +kernel
theorem dX3_firstAt_9 : decode cX3_firstAt 9 = .ok (.invokestatic 39, 3) := by decide +kernel
theorem dX3_firstAt_12 : decode cX3_firstAt 12 = .ok (.if_icmp .ge 10, 3) := by decide +kernel
theorem dX3_firstAt_15 : decode cX3_firstAt 15 = .ok (.aload_n 0, 1) := by decide +kernel
theorem dX3_firstAt_16 : decode cX3_firstAt 16 = .ok (.invokevirtual 45, 3) := by decide +kernel
theorem dX3_firstAt_19 : decode cX3_firstAt 19 = .ok (.ifCond .ne 5, 3) := by decide +kernel
theorem dX3_firstAt_22 : decode cX3_firstAt 22 = .ok (.iconst (-1), 1) := by decide +kernel
theorem dX3_firstAt_23 : decode cX3_firstAt 23 = .ok (.ireturn, 1) := by decide +kernel
theorem dX3_firstAt_24 : decode cX3_firstAt 24 = .ok (.iconst 0, 1) := by decide +kernel
theorem dX3_firstAt_25 : decode cX3_firstAt 25 = .ok (.istore_n 2, 1) := by decide +kernel
theorem dX3_firstAt_26 : decode cX3_firstAt 26 = .ok (.iconst (-1), 1) := by decide +kernel
theorem dX3_firstAt_27 : decode cX3_firstAt 27 = .ok (.istore_n 3, 1) := by decide +kernel
theorem dX3_firstAt_28 : decode cX3_firstAt 28 = .ok (.iconst 0, 1) := by decide +kernel
theorem dX3_firstAt_29 : decode cX3_firstAt 29 = .ok (.istore 4, 2) := by decide +kernel
theorem dX3_firstAt_31 : decode cX3_firstAt 31 = .ok (.iload 4, 2) := by decide +kernel
theorem dX3_firstAt_33 : decode cX3_firstAt 33 = .ok (.iload_n 1, 1) := by decide +kernel
theorem dX3_firstAt_34 : decode cX3_firstAt 34 = .ok (.if_icmp .gt 36, 3) := by decide +kernel
theorem dX3_firstAt_37 : decode cX3_firstAt 37 = .ok (.iload 4, 2) := by decide +kernel
theorem dX3_firstAt_39 : decode cX3_firstAt 39 = .ok (.bipush 8, 2) := by decide +kernel
theorem dX3_firstAt_41 : decode cX3_firstAt 41 = .ok (.if_icmp .ge 29, 3) := by decide +kernel
theorem dX3_firstAt_44 : decode cX3_firstAt 44 = .ok (.aload_n 0, 1) := by decide +kernel
theorem dX3_firstAt_45 : decode cX3_firstAt 45 = .ok (.iload_n 2, 1) := by decide +kernel
theorem dX3_firstAt_46 : decode cX3_firstAt 46 = .ok (.invokevirtual 49, 3) := by decide +kernel
theorem dX3_firstAt_49 : decode cX3_firstAt 49 = .ok (.istore_n 3, 1) := by decide +kernel
theorem dX3_firstAt_50 : decode cX3_firstAt 50 = .ok (.iload_n 2, 1) := by decide +kernel
theorem dX3_firstAt_51 : decode cX3_firstAt 51 = .ok (.iload_n 3, 1) := by decide +kernel
theorem dX3_firstAt_52 : decode cX3_firstAt 52 = .ok (.ifCond .ge 7, 3) := by decide +kernel
theorem dX3_firstAt_55 : decode cX3_firstAt 55 = .ok (.iconst 0, 1) := by decide +kernel
theorem dX3_firstAt_56 : decode cX3_firstAt 56 = .ok (.goto 6, 3) := by decide +kernel
theorem dX3_firstAt_59 : decode cX3_firstAt 59 = .ok (.iconst 1, 1) := by decide +kernel
theorem dX3_firstAt_60 : decode cX3_firstAt 60 = .ok (.iload_n 3, 1) := by decide +kernel
theorem dX3_firstAt_61 : decode cX3_firstAt 61 = .ok (.ishl, 1) := by decide +kernel
theorem dX3_firstAt_62 : decode cX3_firstAt 62 = .ok (.ior, 1) := by decide +kernel
theorem dX3_firstAt_63 : decode cX3_firstAt 63 = .ok (.istore_n 2, 1) := by decide +kernel
theorem dX3_firstAt_64 : decode cX3_firstAt 64 = .ok (.iinc 4 1, 3) := by decide +kernel
theorem dX3_firstAt_67 : decode cX3_firstAt 67 = .ok (.goto (-36), 3) := by decide +kernel
theorem dX3_firstAt_70 : decode cX3_firstAt 70 = .ok (.iload_n 3, 1) := by decide +kernel
theorem dX3_firstAt_71 : decode cX3_firstAt 71 = .ok (.ireturn, 1) := by decide +kernel
theorem dX3_firstBehind_0 : decode cX3_firstBehind 0 = .ok (.iconst 0, 1) := by decide +kernel
theorem dX3_firstBehind_1 : decode cX3_firstBehind 1 = .ok (.istore_n 2, 1) := by decide +kernel
theorem dX3_firstBehind_2 : decode cX3_firstBehind 2 = .ok (.iload_n 2, 1) := by decide +kernel
theorem dX3_firstBehind_3 : decode cX3_firstBehind 3 = .ok (.bipush 8, 2) := by decide +kernel
theorem dX3_firstBehind_5 : decode cX3_firstBehind 5 = .ok (.if_icmp .ge 39, 3) := by decide +kernel
theorem dX3_firstBehind_8 : decode cX3_firstBehind 8 = .ok (.aload_n 0, 1) := by decide +kernel
theorem dX3_firstBehind_9 : decode cX3_firstBehind 9 = .ok (.getfield 18, 3) := by decide +kernel
theorem dX3_firstBehind_12 : decode cX3_firstBehind 12 = .ok (.iload_n 1, 1) := by decide +kernel
theorem dX3_firstBehind_13 : decode cX3_firstBehind 13 = .ok (.iconst (-1), 1) := by decide +kernel
theorem dX3_firstBehind_14 : decode cX3_firstBehind 14 = .ok (.ixor, 1) := by decide +kernel
theorem dX3_firstBehind_15 : decode cX3_firstBehind 15 = .ok (.iand, 1) := by decide +kernel
theorem dX3_firstBehind_16 : decode cX3_firstBehind 16 = .ok (.iconst 1, 1) := by decide +kernel
theorem dX3_firstBehind_17 : decode cX3_firstBehind 17 = .ok (.iload_n 2, 1) := by decide +kernel
theorem dX3_firstBehind_18 : decode cX3_firstBehind 18 = .ok (.ishl, 1) := by decide +kernel
theorem dX3_firstBehind_19 : decode cX3_firstBehind 19 = .ok (.iand, 1) := by decide +kernel
theorem dX3_firstBehind_20 : decode cX3_firstBehind 20 = .ok (.ifCond .eq 18, 3) := by decide +kernel
theorem dX3_firstBehind_23 : decode cX3_firstBehind 23 = .ok (.aload_n 0, 1) := by decide +kernel
theorem dX3_firstBehind_24 : decode cX3_firstBehind 24 = .ok (.getfield 9, 3) := by decide +kernel
theorem dX3_firstBehind_27 : decode cX3_firstBehind 27 = .ok (.iload_n 2, 1) := by decide +kernel
theorem dX3_firstBehind_28 : decode cX3_firstBehind 28 = .ok (.iaload, 1) := by decide +kernel
theorem dX3_firstBehind_29 : decode cX3_firstBehind 29 = .ok (.iload_n 1, 1) := by decide +kernel
theorem dX3_firstBehind_30 : decode cX3_firstBehind 30 = .ok (.iconst (-1), 1) := by decide +kernel
theorem dX3_firstBehind_31 : decode cX3_firstBehind 31 = .ok (.ixor, 1) := by decide +kernel
theorem dX3_firstBehind_32 : decode cX3_firstBehind 32 = .ok (.iand, 1) := by decide +kernel
theorem dX3_firstBehind_33 : decode cX3_firstBehind 33 = .ok (.ifCond .ne 5, 3) := by decide +kernel
theorem dX3_firstBehind_36 : decode cX3_firstBehind 36 = .ok (.iload_n 2, 1) := by decide +kernel
theorem dX3_firstBehind_37 : decode cX3_firstBehind 37 = .ok (.ireturn, 1) := by decide +kernel
theorem dX3_firstBehind_38 : decode cX3_firstBehind 38 = .ok (.iinc 2 1, 3) := by decide +kernel
theorem dX3_firstBehind_41 : decode cX3_firstBehind 41 = .ok (.goto (-39), 3) := by decide +kernel
theorem dX3_firstBehind_44 : decode cX3_firstBehind 44 = .ok (.iconst (-1), 1) := by decide +kernel
theorem dX3_firstBehind_45 : decode cX3_firstBehind 45 = .ok (.ireturn, 1) := by decide +kernel
theorem dX4_init_0 : decode cX4_init 0 = .ok (.aload_n 0, 1) := by decide +kernel
theorem dX4_init_1 : decode cX4_init 1 = .ok (.invokespecial 1, 3) := by decide +kernel
theorem dX4_init_4 : decode cX4_init 4 = .ok (.aload_n 0, 1) := by decide +kernel
theorem dX4_init_5 : decode cX4_init 5 = .ok (.bipush 10, 2) := by decide +kernel
theorem dX4_init_7 : decode cX4_init 7 = .ok (.newarray .int, 2) := by decide +kernel
theorem dX4_init_9 : decode cX4_init 9 = .ok (.putfield 9, 3) := by decide +kernel
theorem dX4_init_12 : decode cX4_init 12 = .ok (.aload_n 0, 1) := by decide +kernel
theorem dX4_init_13 : decode cX4_init 13 = .ok (.iconst 0, 1) := by decide +kernel
theorem dX4_init_14 : decode cX4_init 14 = .ok (.putfield 13, 3) := by decide +kernel
theorem dX4_init_17 : decode cX4_init 17 = .ok (.aload_n 0, 1) := by decide +kernel
theorem dX4_init_18 : decode cX4_init 18 = .ok (.iconst 0, 1) := by decide +kernel
theorem dX4_init_19 : decode cX4_init 19 = .ok (.putfield 17, 3) := by decide +kernel
theorem dX4_init_22 : decode cX4_init 22 = .ok (.return_, 1) := by decide +kernel
theorem dX4_begin_0 : decode cX4_begin 0 = .ok (.aload_n 0, 1) := by decide +kernel
theorem dX4_begin_1 : decode cX4_begin 1 = .ok (.iload_n 1, 1) := by decide +kernel
theorem dX4_begin_2 : decode cX4_begin 2 = .ok (.putfield 13, 3) := by decide +kernel
theorem dX4_begin_5 : decode cX4_begin 5 = .ok (.aload_n 0, 1) := by decide +kernel
theorem dX4_begin_6 : decode cX4_begin 6 = .ok (.iconst 0, 1) := by decide +kernel
theorem dX4_begin_7 : decode cX4_begin 7 = .ok (.putfield 17, 3) := by decide +kernel
theorem dX4_begin_10 : decode cX4_begin 10 = .ok (.return_, 1) := by decide +kernel
theorem dX4_goOn_0 : decode cX4_goOn 0 = .ok (.aload_n 0, 1) := by decide +kernel
theorem dX4_goOn_1 : decode cX4_goOn 1 = .ok (.getfield 17, 3) := by decide +kernel
theorem dX4_goOn_4 : decode cX4_goOn 4 = .ok (.bipush 10, 2) := by decide +kernel
theorem dX4_goOn_6 : decode cX4_goOn 6 = .ok (.if_icmp .lt 7, 3) := by decide +kernel
theorem dX4_goOn_9 : decode cX4_goOn 9 = .ok (.aload_n 0, 1) := by decide +kernel
theorem dX4_goOn_10 : decode cX4_goOn 10 = .ok (.invokevirtual 20, 3) := by decide +kernel
theorem dX4_goOn_13 : decode cX4_goOn 13 = .ok (.aload_n 0, 1) := by decide +kernel
theorem dX4_goOn_14 : decode cX4_goOn 14 = .ok (.getfield 9, 3) := by decide +kernel
theorem dX4_goOn_17 : decode cX4_goOn 17 = .ok (.aload_n 0, 1) := by decide +kernel
theorem dX4_goOn_18 : decode cX4_goOn 18 = .ok (.getfield 17, 3) := by decide +kernel
theorem dX4_goOn_21 : decode cX4_goOn 21 = .ok (.aload_n 0, 1) := by decide +kernel
theorem dX4_goOn_22 : decode cX4_goOn 22 = .ok (.getfield 13, 3) := by decide +kernel
theorem dX4_goOn_25 : decode cX4_goOn 25 = .ok (.iastore, 1) := by decide +kernel
theorem dX4_goOn_26 : decode cX4_goOn 26 = .ok (.aload_n 0, 1) := by decide +kernel
theorem dX4_goOn_27 : decode cX4_goOn 27 = .ok (.dup, 1) := by decide +kernel
theorem dX4_goOn_28 : decode cX4_goOn 28 = .ok (.getfield 17, 3) := by decide +kernel
theorem dX4_goOn_31 : decode cX4_goOn 31 = .ok (.iconst 1, 1) := by decide +kernel
theorem dX4_goOn_32 : decode cX4_goOn 32 = .ok (.iadd, 1) := by decide +kernel
theorem dX4_goOn_33 : decode cX4_goOn 33 = .ok (.putfield 17, 3) := by decide +kernel
theorem dX4_goOn_36 : decode cX4_goOn 36 = .ok (.aload_n 0, 1) := by decide +kernel
theorem dX4_goOn_37 : decode cX4_goOn 37 = .ok (.iload_n 1, 1) := by decide +kernel
theorem dX4_goOn_38 : decode cX4_goOn 38 = .ok (.putfield 13, 3) := by decide +kernel
theorem dX4_goOn_41 : decode cX4_goOn 41 = .ok (.return_, 1) := by decide +kernel
theorem dX4_forgetEldest_0 : decode cX4_forgetEldest 0 = .ok (.iconst 1, 1) := by decide +kernel
theorem dX4_forgetEldest_1 : decode cX4_forgetEldest 1 = .ok (.istore_n 1, 1) := by decide +kernel
theorem dX4_forgetEldest_2 : decode cX4_forgetEldest 2 = .ok (.iload_n 1, 1) := by decide +kernel
theorem dX4_forgetEldest_3 : decode cX4_forgetEldest 3 = .ok (.bipush 10, 2) := by decide +kernel
theorem dX4_forgetEldest_5 : decode cX4_forgetEldest 5 = .ok (.if_icmp .ge 23, 3) := by decide +kernel
theorem dX4_forgetEldest_8 : decode cX4_forgetEldest 8 = .ok (.aload_n 0, 1) := by decide +kernel
theorem dX4_forgetEldest_9 : decode cX4_forgetEldest 9 = .ok (.getfield 9, 3) := by decide +kernel
theorem dX4_forgetEldest_12 : decode cX4_forgetEldest 12 = .ok (.iload_n 1, 1) := by decide +kernel
theorem dX4_forgetEldest_13 : decode cX4_forgetEldest 13 = .ok (.iconst 1, 1) := by decide +kernel
theorem dX4_forgetEldest_14 : decode cX4_forgetEldest 14 = .ok (.isub, 1) := by decide +kernel
theorem dX4_forgetEldest_15 : decode cX4_forgetEldest 15 = .ok (.aload_n 0, 1) := by decide +kernel
theorem dX4_forgetEldest_16 : decode cX4_forgetEldest 16 = .ok (.getfield 9, 3) := by decide +kernel
theorem dX4_forgetEldest_19 : decode cX4_forgetEldest 19 = .ok (.iload_n 1, 1) := by decide +kernel
theorem dX4_forgetEldest_20 : decode cX4_forgetEldest 20 = .ok (.iaload, 1) := by decide +kernel
theorem dX4_forgetEldest_21 : decode cX4_forgetEldest 21 = .ok (.iastore, 1) := by decide +kernel
theorem dX4_forgetEldest_22 : decode cX4_forgetEldest 22 = .ok (.iinc 1 1, 3) := by decide +kernel
theorem dX4_forgetEldest_25 : decode cX4_forgetEldest 25 = .ok (.goto (-23), 3) := by decide +kernel
theorem dX4_forgetEldest_28 : decode cX4_forgetEldest 28 = .ok (.aload_n 0, 1) := by decide +kernel
theorem dX4_forgetEldest_29 : decode cX4_forgetEldest 29 = .ok (.bipush 9, 2) := by decide +kernel
theorem dX4_forgetEldest_31 : decode cX4_forgetEldest 31 = .ok (.putfield 17, 3) := by decide +kernel
theorem dX4_forgetEldest_34 : decode cX4_forgetEldest 34 = .ok (.return_, 1) := by decide +kernel
theorem dX4_goBack_0 : decode cX4_goBack 0 = .ok (.iload_n 1, 1) := by decide +kernel
theorem dX4_goBack_1 : decode cX4_goBack 1 = .ok (.ifCond .le 34, 3) := by decide +kernel
theorem dX4_goBack_4 : decode cX4_goBack 4 = .ok (.iload_n 1, 1) := by decide +kernel
theorem dX4_goBack_5 : decode cX4_goBack 5 = .ok (.aload_n 0, 1) := by decide +kernel
theorem dX4_goBack_6 : decode cX4_goBack 6 = .ok (.getfield 17, 3) := by decide +kernel
theorem dX4_goBack_9 : decode cX4_goBack 9 = .ok (.if_icmp .gt 26, 3) := by decide +kernel
theorem dX4_goBack_12 : decode cX4_goBack 12 = .ok (.aload_n 0, 1) := by decide +kernel
theorem dX4_goBack_13 : decode cX4_goBack 13 = .ok (.dup, 1) := by decide +kernel
theorem dX4_goBack_14 : decode cX4_goBack 14 = .ok (.getfield 17, 3) := by decide +kernel
theorem dX4_goBack_17 : decode cX4_goBack 17 = .ok (.iload_n 1, 1) := by decide +kernel
theorem dX4_goBack_18 : decode cX4_goBack 18 = .ok (.isub, 1) := by decide +kernel
theorem dX4_goBack_19 : decode cX4_goBack 19 = .ok (.putfield 17, 3) := by decide +kernel
theorem dX4_goBack_22 : decode cX4_goBack 22 = .ok (.aload_n 0, 1) := by decide +kernel
theorem dX4_goBack_23 : decode cX4_goBack 23 = .ok (.aload_n 0, 1) := by decide +kernel
theorem dX4_goBack_24 : decode cX4_goBack 24 = .ok (.getfield 9, 3) := by decide +kernel
theorem dX4_goBack_27 : decode cX4_goBack 27 = .ok (.aload_n 0, 1) := by decide +kernel
theorem dX4_goBack_28 : decode cX4_goBack 28 = .ok (.getfield 17, 3) := by decide +kernel
theorem dX4_goBack_31 : decode cX4_goBack 31 = .ok (.iaload, 1) := by decide +kernel
theorem dX4_goBack_32 : decode cX4_goBack 32 = .ok (.putfield 13, 3) := by decide +kernel
theorem dX4_goBack_35 : decode cX4_goBack 35 = .ok (.return_, 1) := by decide +kernel
theorem dX5_init_0 : decode cX5_init 0 = .ok (.aload_n 0, 1) := by decide +kernel
theorem dX5_init_1 : decode cX5_init 1 = .ok (.invokespecial 3, 3) := by decide +kernel
theorem dX5_init_4 : decode cX5_init 4 = .ok (.aload_n 0, 1) := by decide +kernel
theorem dX5_init_5 : decode cX5_init 5 = .ok (.new 9, 3) := by decide +kernel
theorem dX5_init_8 : decode cX5_init 8 = .ok (.dup, 1) := by decide +kernel
theorem dX5_init_9 : decode cX5_init 9 = .ok (.invokespecial 11, 3) := by decide +kernel
theorem dX5_init_12 : decode cX5_init 12 = .ok (.putfield 12, 3) := by decide +kernel
theorem dX5_init_15 : decode cX5_init 15 = .ok (.aload_n 0, 1) := by decide +kernel
theorem dX5_init_16 : decode cX5_init 16 = .ok (.iconst 0, 1) := by decide +kernel
theorem dX5_init_17 : decode cX5_init 17 = .ok (.putfield 18, 3) := by decide +kernel
theorem dX5_init_20 : decode cX5_init 20 = .ok (.aload_n 0, 1) := by decide +kernel
theorem dX5_init_21 : decode cX5_init 21 = .ok (.iconst (-1), 1) := by decide +kernel
theorem dX5_init_22 : decode cX5_init 22 = .ok (.putfield 22, 3) := by decide +kernel
theorem dX5_init_25 : decode cX5_init 25 = .ok (.aload_n 0, 1) := by decide +kernel
theorem dX5_init_26 : decode cX5_init 26 = .ok (.sipush 901, 3) := by decide +kernel
theorem dX5_init_29 : decode cX5_init 29 = .ok (.newarray .int, 2) := by decide +kernel
theorem dX5_init_31 : decode cX5_init 31 = .ok (.putfield 25, 3) := by decide +kernel
theorem dX5_init_34 : decode cX5_init 34 = .ok (.aload_n 0, 1) := by decide +kernel
theorem dX5_init_35 : decode cX5_init 35 = .ok (.sipush 901, 3) := by decide +kernel
theorem dX5_init_38 : decode cX5_init 38 = .ok (.newarray .int, 2) := by decide +kernel
theorem dX5_init_40 : decode cX5_init 40 = .ok (.putfield 29, 3) := by decide +kernel
theorem dX5_init_43 : decode cX5_init 43 = .ok (.aload_n 0, 1) := by decide +kernel
theorem dX5_init_44 : decode cX5_init 44 = .ok (.sipush 901, 3) := by decide +kernel
theorem dX5_init_47 : decode cX5_init 47 = .ok (.newarray .int, 2) := by decide +kernel
theorem dX5_init_49 : decode cX5_init 49 = .ok (.putfield 32, 3) := by decide +kernel
theorem dX5_init_52 : decode cX5_init 52 = .ok (.aload_n 0, 1) := by decide +kernel
theorem dX5_init_53 : decode cX5_init 53 = .ok (.iconst 0, 1) := by decide +kernel
theorem dX5_init_54 : decode cX5_init 54 = .ok (.putfield 35, 3) := by decide +kernel
theorem dX5_init_57 : decode cX5_init 57 = .ok (.aload_n 0, 1) := by decide +kernel
theorem dX5_init_58 : decode cX5_init 58 = .ok (.iconst 0, 1) := by decide +kernel
theorem dX5_init_59 : decode cX5_init 59 = .ok (.putfield 38, 3) := by decide +kernel
theorem dX5_init_62 : decode cX5_init 62 = .ok (.aload_n 0, 1) := by decide +kernel
theorem dX5_init_63 : decode cX5_init 63 = .ok (.iconst 0, 1) := by decide +kernel
theorem dX5_init_64 : decode cX5_init 64 = .ok (.putfield 41, 3) := by decide +kernel
theorem dX5_init_67 : decode cX5_init 67 = .ok (.return_, 1) := by decide +kernel
theorem dX5_read_0 : decode cX5_read 0 = .ok (.aload_n 0, 1) := by decide +kernel
theorem dX5_read_1 : decode cX5_read 1 = .ok (.aload_n 1, 1) := by decide +kernel
theorem dX5_read_2 : decode cX5_read 2 = .ok (.iload_n 2, 1) := by decide +kernel
theorem dX5_read_3 : decode cX5_read 3 = .ok (.aload_n 1, 1) := by decide +kernel
theorem dX5_read_4 : decode cX5_read 4 = .ok (.arraylength, 1) := by decide +kernel
theorem dX5_read_5 : decode cX5_read 5 = .ok (.invokestatic 45, 3) := by decide +kernel
theorem dX5_read_8 : decode cX5_read 8 = .ok (.invokevirtual 51, 3) := by decide +kernel
theorem dX5_read_11 : decode cX5_read 11 = .ok (.aload_n 0, 1) := by decide +kernel
theorem dX5_read_12 : decode cX5_read 12 = .ok (.getfield 12, 3) := by decide +kernel
theorem dX5_read_15 : decode cX5_read 15 = .ok (.invokevirtual 55, 3) := by decide +kernel
theorem dX5_read_18 : decode cX5_read 18 = .ok (.aload_n 0, 1) := by decide +kernel
theorem dX5_read_19 : decode cX5_read 19 = .ok (.iconst 0, 1) := by decide +kernel
theorem dX5_read_20 : decode cX5_read 20 = .ok (.putfield 18, 3) := by decide +kernel
theorem dX5_read_23 : decode cX5_read 23 = .ok (.aload_n 0, 1) := by decide +kernel
theorem dX5_read_24 : decode cX5_read 24 = .ok (.iconst (-1), 1) := by decide +kernel
theorem dX5_read_25 : decode cX5_read 25 = .ok (.putfield 22, 3) := by decide +kernel
theorem dX5_read_28 : decode cX5_read 28 = .ok (.aload_n 0, 1) := by decide +kernel
theorem dX5_read_29 : decode cX5_read 29 = .ok (.iconst 0, 1) := by decide +kernel
theorem dX5_read_30 : decode cX5_read 30 = .ok (.putfield 38, 3) := by decide +kernel
theorem dX5_read_33 : decode cX5_read 33 = .ok (.aload_n 0, 1) := by decide +kernel
theorem dX5_read_34 : decode cX5_read 34 = .ok (.invokevirtual 58, 3) := by decide +kernel
theorem dX5_read_37 : decode cX5_read 37 = .ok (.iconst 0, 1) := by decide +kernel
theorem dX5_read_38 : decode cX5_read 38 = .ok (.istore_n 3, 1) := by decide +kernel
theorem dX5_read_39 : decode cX5_read 39 = .ok (.iload_n 3, 1) := by decide +kernel
theorem dX5_read_40 : decode cX5_read 40 = .ok (.sipush 900, 3) := by decide +kernel
theorem dX5_read_43 : decode cX5_read 43 = .ok (.if_icmp .ge 30, 3) := by decide +kernel
theorem dX5_read_46 : decode cX5_read 46 = .ok (.aload_n 0, 1) := by decide +kernel
theorem dX5_read_47 : decode cX5_read 47 = .ok (.getfield 18, 3) := by decide +kernel
theorem dX5_read_50 : decode cX5_read 50 = .ok (.ifCond .ne 23, 3) := by decide +kernel
theorem dX5_read_53 : decode cX5_read 53 = .ok (.aload_n 0, 1) := by decide +kernel
theorem dX5_read_54 : decode cX5_read 54 = .ok (.invokevirtual 61, 3) := by decide +kernel
theorem dX5_read_57 : decode cX5_read 57 = .ok (.sipush 202, 3) := by decide +kernel
theorem dX5_read_60 : decode cX5_read 60 = .ok (.if_icmp .eq 13, 3) := by decide +kernel
theorem dX5_read_63 : decode cX5_read 63 = .ok (.aload_n 0, 1) := by decide +kernel
theorem dX5_read_64 : decode cX5_read 64 = .ok (.invokevirtual 65, 3) := by decide +kernel
theorem dX5_read_67 : decode cX5_read 67 = .ok (.iinc 3 1, 3) := by decide +kernel
theorem dX5_read_70 : decode cX5_read 70 = .ok (.goto (-31), 3) := by decide +kernel
theorem dX5_read_73 : decode cX5_read 73 = .ok (.return_, 1) := by decide +kernel
theorem dX5_scan_0 : decode cX5_scan 0 = .ok (.aload_n 0, 1) := by decide +kernel
theorem dX5_scan_1 : decode cX5_scan 1 = .ok (.iconst 0, 1) := by decide +kernel
theorem dX5_scan_2 : decode cX5_scan 2 = .ok (.putfield 35, 3) := by decide +kernel
theorem dX5_scan_5 : decode cX5_scan 5 = .ok (.iconst 0, 1) := by decide +kernel
theorem dX5_scan_6 : decode cX5_scan 6 = .ok (.istore_n 3, 1) := by decide +kernel
theorem dX5_scan_7 : decode cX5_scan 7 = .ok (.iload_n 3, 1) := by decide +kernel
theorem dX5_scan_8 : decode cX5_scan 8 = .ok (.iload_n 2, 1) := by decide +kernel
theorem dX5_scan_9 : decode cX5_scan 9 = .ok (.if_icmp .ge 163, 3) := by decide +kernel
theorem dX5_scan_12 : decode cX5_scan 12 = .ok (.aload_n 1, 1) := by decide +kernel
theorem dX5_scan_13 : decode cX5_scan 13 = .ok (.iload_n 3, 1) := by decide +kernel
theorem dX5_scan_14 : decode cX5_scan 14 = .ok (.iaload, 1) := by decide +kernel
theorem dX5_scan_15 : decode cX5_scan 15 = .ok (.istore 4, 2) := by decide +kernel
theorem dX5_scan_17 : decode cX5_scan 17 = .ok (.iload 4, 2) := by decide +kernel
theorem dX5_scan_19 : decode cX5_scan 19 = .ok (.bipush 97, 2) := by decide +kernel
theorem dX5_scan_21 : decode cX5_scan 21 = .ok (.if_icmp .lt 43, 3) := by decide +kernel
theorem dX5_scan_24 : decode cX5_scan 24 = .ok (.iload 4, 2) := by decide +kernel
theorem dX5_scan_26 : decode cX5_scan 26 = .ok (.bipush 122, 2) := by decide +kernel
theorem dX5_scan_28 : decode cX5_scan 28 = .ok (.if_icmp .gt 36, 3) := by decide +kernel
theorem dX5_scan_31 : decode cX5_scan 31 = .ok (.aload_n 1, 1) := by decide +kernel
theorem dX5_scan_32 : decode cX5_scan 32 = .ok (.iload_n 2, 1) := by decide +kernel
theorem dX5_scan_33 : decode cX5_scan 33 = .ok (.iload_n 3, 1) := by decide +kernel
