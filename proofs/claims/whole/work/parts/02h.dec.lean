theorem dX11_canLie_2 : decode cX11_canLie 2 = .ok (.iload_n 3, 1) := by decide +kernel
theorem dX11_canLie_3 : decode cX11_canLie 3 = .ok (.iload_n 1, 1) := by decide +kernel
theorem dX11_canLie_4 : decode cX11_canLie 4 = .ok (.if_icmp .ge 38, 3) := by decide +kernel
theorem dX11_canLie_7 : decode cX11_canLie 7 = .ok (.aload_n 0, 1) := by decide +kernel
theorem dX11_canLie_8 : decode cX11_canLie 8 = .ok (.getfield 72, 3) := by decide +kernel
theorem dX11_canLie_11 : decode cX11_canLie 11 = .ok (.iload_n 3, 1) := by decide +kernel
theorem dX11_canLie_12 : decode cX11_canLie 12 = .ok (.iaload, 1) := by decide +kernel
theorem dX11_canLie_13 : decode cX11_canLie 13 = .ok (.iload_n 2, 1) := by decide +kernel
theorem dX11_canLie_14 : decode cX11_canLie 14 = .ok (.if_icmp .ne 22, 3) := by decide +kernel
theorem dX11_canLie_17 : decode cX11_canLie 17 = .ok (.aload_n 0, 1) := by decide +kernel
theorem dX11_canLie_18 : decode cX11_canLie 18 = .ok (.getfield 13, 3) := by decide +kernel
theorem dX11_canLie_21 : decode cX11_canLie 21 = .ok (.bipush 58, 2) := by decide +kernel
theorem dX11_canLie_23 : decode cX11_canLie 23 = .ok (.iload_n 1, 1) := by decide +kernel
theorem dX11_canLie_24 : decode cX11_canLie 24 = .ok (.iadd, 1) := by decide +kernel
theorem dX11_canLie_25 : decode cX11_canLie 25 = .ok (.iaload, 1) := by decide +kernel
theorem dX11_canLie_26 : decode cX11_canLie 26 = .ok (.i2l, 1) := by decide +kernel
theorem dX11_canLie_27 : decode cX11_canLie 27 = .ok (.iload_n 3, 1) := by decide +kernel
theorem dX11_canLie_28 : decode cX11_canLie 28 = .ok (.invokestatic 221, 3) := by decide +kernel
theorem dX11_canLie_31 : decode cX11_canLie 31 = .ok (.ifCond .eq 5, 3) := by decide +kernel
theorem dX11_canLie_34 : decode cX11_canLie 34 = .ok (.iconst 0, 1) := by decide +kernel
theorem dX11_canLie_35 : decode cX11_canLie 35 = .ok (.ireturn, 1) := by decide +kernel
theorem dX11_canLie_36 : decode cX11_canLie 36 = .ok (.iinc 3 1, 3) := by decide +kernel
theorem dX11_canLie_39 : decode cX11_canLie 39 = .ok (.goto (-37), 3) := by decide +kernel
theorem dX11_canLie_42 : decode cX11_canLie 42 = .ok (.iconst 1, 1) := by decide +kernel
theorem dX11_canLie_43 : decode cX11_canLie 43 = .ok (.ireturn, 1) := by decide +kernel
theorem dX11_lays_0 : decode cX11_lays 0 = .ok (.iload_n 1, 1) := by decide +kernel
theorem dX11_lays_1 : decode cX11_lays 1 = .ok (.aload_n 0, 1) := by decide +kernel
theorem dX11_lays_2 : decode cX11_lays 2 = .ok (.getfield 13, 3) := by decide +kernel
theorem dX11_lays_5 : decode cX11_lays 5 = .ok (.iconst 1, 1) := by decide +kernel
theorem dX11_lays_6 : decode cX11_lays 6 = .ok (.iaload, 1) := by decide +kernel
theorem dX11_lays_7 : decode cX11_lays 7 = .ok (.if_icmp .ne 5, 3) := by decide +kernel
theorem dX11_lays_10 : decode cX11_lays 10 = .ok (.iconst 1, 1) := by decide +kernel
theorem dX11_lays_11 : decode cX11_lays 11 = .ok (.ireturn, 1) := by decide +kernel
theorem dX11_lays_12 : decode cX11_lays 12 = .ok (.aload_n 0, 1) := by decide +kernel
theorem dX11_lays_13 : decode cX11_lays 13 = .ok (.getfield 72, 3) := by decide +kernel
theorem dX11_lays_16 : decode cX11_lays 16 = .ok (.iload_n 1, 1) := by decide +kernel
theorem dX11_lays_17 : decode cX11_lays 17 = .ok (.iconst (-1), 1) := by decide +kernel
theorem dX11_lays_18 : decode cX11_lays 18 = .ok (.iastore, 1) := by decide +kernel
theorem dX11_lays_19 : decode cX11_lays 19 = .ok (.aload_n 0, 1) := by decide +kernel
theorem dX11_lays_20 : decode cX11_lays 20 = .ok (.invokevirtual 270, 3) := by decide +kernel
theorem dX11_lays_23 : decode cX11_lays 23 = .ok (.iload_n 1, 1) := by decide +kernel
theorem dX11_lays_24 : decode cX11_lays 24 = .ok (.invokestatic 255, 3) := by decide +kernel
theorem dX11_lays_27 : decode cX11_lays 27 = .ok (.ifCond .ne 12, 3) := by decide +kernel
theorem dX11_lays_30 : decode cX11_lays 30 = .ok (.aload_n 0, 1) := by decide +kernel
theorem dX11_lays_31 : decode cX11_lays 31 = .ok (.iload_n 1, 1) := by decide +kernel
theorem dX11_lays_32 : decode cX11_lays 32 = .ok (.iconst 1, 1) := by decide +kernel
theorem dX11_lays_33 : decode cX11_lays 33 = .ok (.iadd, 1) := by decide +kernel
theorem dX11_lays_34 : decode cX11_lays 34 = .ok (.iload_n 2, 1) := by decide +kernel
theorem dX11_lays_35 : decode cX11_lays 35 = .ok (.invokevirtual 435, 3) := by decide +kernel
theorem dX11_lays_38 : decode cX11_lays 38 = .ok (.ireturn, 1) := by decide +kernel
theorem dX11_lays_39 : decode cX11_lays 39 = .ok (.iconst 0, 1) := by decide +kernel
theorem dX11_lays_40 : decode cX11_lays 40 = .ok (.istore_n 3, 1) := by decide +kernel
theorem dX11_lays_41 : decode cX11_lays 41 = .ok (.iload_n 3, 1) := by decide +kernel
theorem dX11_lays_42 : decode cX11_lays 42 = .ok (.iload_n 2, 1) := by decide +kernel
theorem dX11_lays_43 : decode cX11_lays 43 = .ok (.if_icmp .ge 41, 3) := by decide +kernel
theorem dX11_lays_46 : decode cX11_lays 46 = .ok (.aload_n 0, 1) := by decide +kernel
theorem dX11_lays_47 : decode cX11_lays 47 = .ok (.iload_n 1, 1) := by decide +kernel
theorem dX11_lays_48 : decode cX11_lays 48 = .ok (.iload_n 3, 1) := by decide +kernel
theorem dX11_lays_49 : decode cX11_lays 49 = .ok (.invokevirtual 438, 3) := by decide +kernel
theorem dX11_lays_52 : decode cX11_lays 52 = .ok (.ifCond .ne 6, 3) := by decide +kernel
theorem dX11_lays_55 : decode cX11_lays 55 = .ok (.goto 23, 3) := by decide +kernel
theorem dX11_lays_58 : decode cX11_lays 58 = .ok (.aload_n 0, 1) := by decide +kernel
theorem dX11_lays_59 : decode cX11_lays 59 = .ok (.getfield 72, 3) := by decide +kernel
theorem dX11_lays_62 : decode cX11_lays 62 = .ok (.iload_n 1, 1) := by decide +kernel
theorem dX11_lays_63 : decode cX11_lays 63 = .ok (.iload_n 3, 1) := by decide +kernel
theorem dX11_lays_64 : decode cX11_lays 64 = .ok (.iastore, 1) := by decide +kernel
theorem dX11_lays_65 : decode cX11_lays 65 = .ok (.aload_n 0, 1) := by decide +kernel
theorem dX11_lays_66 : decode cX11_lays 66 = .ok (.iload_n 1, 1) := by decide +kernel
theorem dX11_lays_67 : decode cX11_lays 67 = .ok (.iconst 1, 1) := by decide +kernel
theorem dX11_lays_68 : decode cX11_lays 68 = .ok (.iadd, 1) := by decide +kernel
theorem dX11_lays_69 : decode cX11_lays 69 = .ok (.iload_n 2, 1) := by decide +kernel
theorem dX11_lays_70 : decode cX11_lays 70 = .ok (.invokevirtual 435, 3) := by decide +kernel
theorem dX11_lays_73 : decode cX11_lays 73 = .ok (.ifCond .eq 5, 3) := by decide +kernel
theorem dX11_lays_76 : decode cX11_lays 76 = .ok (.iconst 1, 1) := by decide +kernel
theorem dX11_lays_77 : decode cX11_lays 77 = .ok (.ireturn, 1) := by decide +kernel
theorem dX11_lays_78 : decode cX11_lays 78 = .ok (.iinc 3 1, 3) := by decide +kernel
theorem dX11_lays_81 : decode cX11_lays 81 = .ok (.goto (-40), 3) := by decide +kernel
theorem dX11_lays_84 : decode cX11_lays 84 = .ok (.aload_n 0, 1) := by decide +kernel
theorem dX11_lays_85 : decode cX11_lays 85 = .ok (.getfield 72, 3) := by decide +kernel
theorem dX11_lays_88 : decode cX11_lays 88 = .ok (.iload_n 1, 1) := by decide +kernel
theorem dX11_lays_89 : decode cX11_lays 89 = .ok (.iconst (-1), 1) := by decide +kernel
theorem dX11_lays_90 : decode cX11_lays 90 = .ok (.iastore, 1) := by decide +kernel
theorem dX11_lays_91 : decode cX11_lays 91 = .ok (.iconst 0, 1) := by decide +kernel
theorem dX11_lays_92 : decode cX11_lays 92 = .ok (.ireturn, 1) := by decide +kernel
theorem dX11_linings_0 : decode cX11_linings 0 = .ok (.aload_n 0, 1) := by decide +kernel
theorem dX11_linings_1 : decode cX11_linings 1 = .ok (.iconst 0, 1) := by decide +kernel
theorem dX11_linings_2 : decode cX11_linings 2 = .ok (.putfield 1, 3) := by decide +kernel
theorem dX11_linings_5 : decode cX11_linings 5 = .ok (.aload_n 0, 1) := by decide +kernel
theorem dX11_linings_6 : decode cX11_linings 6 = .ok (.iload_n 1, 1) := by decide +kernel
theorem dX11_linings_7 : decode cX11_linings 7 = .ok (.invokevirtual 419, 3) := by decide +kernel
theorem dX11_linings_10 : decode cX11_linings 10 = .ok (.ifCond .ne 6, 3) := by decide +kernel
theorem dX11_linings_13 : decode cX11_linings 13 = .ok (.bipush (-2), 2) := by decide +kernel
theorem dX11_linings_15 : decode cX11_linings 15 = .ok (.ireturn, 1) := by decide +kernel
theorem dX11_linings_16 : decode cX11_linings 16 = .ok (.iconst 0, 1) := by decide +kernel
theorem dX11_linings_17 : decode cX11_linings 17 = .ok (.istore_n 2, 1) := by decide +kernel
theorem dX11_linings_18 : decode cX11_linings 18 = .ok (.aload_n 0, 1) := by decide +kernel
theorem dX11_linings_19 : decode cX11_linings 19 = .ok (.iconst 0, 1) := by decide +kernel
theorem dX11_linings_20 : decode cX11_linings 20 = .ok (.iload_n 2, 1) := by decide +kernel
theorem dX11_linings_21 : decode cX11_linings 21 = .ok (.invokevirtual 435, 3) := by decide +kernel
theorem dX11_linings_24 : decode cX11_linings 24 = .ok (.ifCond .ne 9, 3) := by decide +kernel
theorem dX11_linings_27 : decode cX11_linings 27 = .ok (.iinc 2 1, 3) := by decide +kernel
theorem dX11_linings_30 : decode cX11_linings 30 = .ok (.goto (-12), 3) := by decide +kernel
theorem dX11_linings_33 : decode cX11_linings 33 = .ok (.iload_n 1, 1) := by decide +kernel
theorem dX11_linings_34 : decode cX11_linings 34 = .ok (.ifCond .ne 7, 3) := by decide +kernel
theorem dX11_linings_37 : decode cX11_linings 37 = .ok (.iload_n 2, 1) := by decide +kernel
theorem dX11_linings_38 : decode cX11_linings 38 = .ok (.goto 12, 3) := by decide +kernel
theorem dX11_linings_41 : decode cX11_linings 41 = .ok (.aload_n 0, 1) := by decide +kernel
theorem dX11_linings_42 : decode cX11_linings 42 = .ok (.getfield 72, 3) := by decide +kernel
theorem dX11_linings_45 : decode cX11_linings 45 = .ok (.iload_n 1, 1) := by decide +kernel
theorem dX11_linings_46 : decode cX11_linings 46 = .ok (.bipush 10, 2) := by decide +kernel
theorem dX11_linings_48 : decode cX11_linings 48 = .ok (.isub, 1) := by decide +kernel
theorem dX11_linings_49 : decode cX11_linings 49 = .ok (.iaload, 1) := by decide +kernel
theorem dX11_linings_50 : decode cX11_linings 50 = .ok (.ireturn, 1) := by decide +kernel
theorem dX11_allClash_0 : decode cX11_allClash 0 = .ok (.iconst 0, 1) := by decide +kernel
theorem dX11_allClash_1 : decode cX11_allClash 1 = .ok (.istore_n 2, 1) := by decide +kernel
theorem dX11_allClash_2 : decode cX11_allClash 2 = .ok (.iload_n 2, 1) := by decide +kernel
theorem dX11_allClash_3 : decode cX11_allClash 3 = .ok (.aload_n 0, 1) := by decide +kernel
theorem dX11_allClash_4 : decode cX11_allClash 4 = .ok (.getfield 13, 3) := by decide +kernel
theorem dX11_allClash_7 : decode cX11_allClash 7 = .ok (.iconst 1, 1) := by decide +kernel
theorem dX11_allClash_8 : decode cX11_allClash 8 = .ok (.iaload, 1) := by decide +kernel
theorem dX11_allClash_9 : decode cX11_allClash 9 = .ok (.if_icmp .ge 42, 3) := by decide +kernel
theorem dX11_allClash_12 : decode cX11_allClash 12 = .ok (.iload_n 1, 1) := by decide +kernel
theorem dX11_allClash_13 : decode cX11_allClash 13 = .ok (.i2l, 1) := by decide +kernel
theorem dX11_allClash_14 : decode cX11_allClash 14 = .ok (.iload_n 2, 1) := by decide +kernel
theorem dX11_allClash_15 : decode cX11_allClash 15 = .ok (.invokestatic 221, 3) := by decide +kernel
theorem dX11_allClash_18 : decode cX11_allClash 18 = .ok (.ifCond .eq 27, 3) := by decide +kernel
theorem dX11_allClash_21 : decode cX11_allClash 21 = .ok (.iload_n 1, 1) := by decide +kernel
theorem dX11_allClash_22 : decode cX11_allClash 22 = .ok (.iconst 1, 1) := by decide +kernel
theorem dX11_allClash_23 : decode cX11_allClash 23 = .ok (.iload_n 2, 1) := by decide +kernel
theorem dX11_allClash_24 : decode cX11_allClash 24 = .ok (.ishl, 1) := by decide +kernel
theorem dX11_allClash_25 : decode cX11_allClash 25 = .ok (.iconst (-1), 1) := by decide +kernel
theorem dX11_allClash_26 : decode cX11_allClash 26 = .ok (.ixor, 1) := by decide +kernel
theorem dX11_allClash_27 : decode cX11_allClash 27 = .ok (.iand, 1) := by decide +kernel
theorem dX11_allClash_28 : decode cX11_allClash 28 = .ok (.aload_n 0, 1) := by decide +kernel
theorem dX11_allClash_29 : decode cX11_allClash 29 = .ok (.getfield 13, 3) := by decide +kernel
theorem dX11_allClash_32 : decode cX11_allClash 32 = .ok (.bipush 58, 2) := by decide +kernel
theorem dX11_allClash_34 : decode cX11_allClash 34 = .ok (.iload_n 2, 1) := by decide +kernel
theorem dX11_allClash_35 : decode cX11_allClash 35 = .ok (.iadd, 1) := by decide +kernel
theorem dX11_allClash_36 : decode cX11_allClash 36 = .ok (.iaload, 1) := by decide +kernel
theorem dX11_allClash_37 : decode cX11_allClash 37 = .ok (.iconst (-1), 1) := by decide +kernel
theorem dX11_allClash_38 : decode cX11_allClash 38 = .ok (.ixor, 1) := by decide +kernel
theorem dX11_allClash_39 : decode cX11_allClash 39 = .ok (.iand, 1) := by decide +kernel
theorem dX11_allClash_40 : decode cX11_allClash 40 = .ok (.ifCond .eq 5, 3) := by decide +kernel
theorem dX11_allClash_43 : decode cX11_allClash 43 = .ok (.iconst 0, 1) := by decide +kernel
theorem dX11_allClash_44 : decode cX11_allClash 44 = .ok (.ireturn, 1) := by decide +kernel
theorem dX11_allClash_45 : decode cX11_allClash 45 = .ok (.iinc 2 1, 3) := by decide +kernel
theorem dX11_allClash_48 : decode cX11_allClash 48 = .ok (.goto (-46), 3) := by decide +kernel
theorem dX11_allClash_51 : decode cX11_allClash 51 = .ok (.iconst 1, 1) := by decide +kernel
theorem dX11_allClash_52 : decode cX11_allClash 52 = .ok (.ireturn, 1) := by decide +kernel
theorem dX11_clique_0 : decode cX11_clique 0 = .ok (.aload_n 0, 1) := by decide +kernel
theorem dX11_clique_1 : decode cX11_clique 1 = .ok (.iconst 0, 1) := by decide +kernel
theorem dX11_clique_2 : decode cX11_clique 2 = .ok (.putfield 1, 3) := by decide +kernel
theorem dX11_clique_5 : decode cX11_clique 5 = .ok (.aload_n 0, 1) := by decide +kernel
theorem dX11_clique_6 : decode cX11_clique 6 = .ok (.aload_n 0, 1) := by decide +kernel
theorem dX11_clique_7 : decode cX11_clique 7 = .ok (.invokevirtual 270, 3) := by decide +kernel
theorem dX11_clique_10 : decode cX11_clique 10 = .ok (.invokevirtual 245, 3) := by decide +kernel
theorem dX11_clique_13 : decode cX11_clique 13 = .ok (.istore_n 1, 1) := by decide +kernel
theorem dX11_clique_14 : decode cX11_clique 14 = .ok (.iconst 0, 1) := by decide +kernel
theorem dX11_clique_15 : decode cX11_clique 15 = .ok (.istore_n 2, 1) := by decide +kernel
theorem dX11_clique_16 : decode cX11_clique 16 = .ok (.iconst 1, 1) := by decide +kernel
theorem dX11_clique_17 : decode cX11_clique 17 = .ok (.istore_n 3, 1) := by decide +kernel
theorem dX11_clique_18 : decode cX11_clique 18 = .ok (.iload_n 3, 1) := by decide +kernel
theorem dX11_clique_19 : decode cX11_clique 19 = .ok (.iconst 1, 1) := by decide +kernel
theorem dX11_clique_20 : decode cX11_clique 20 = .ok (.aload_n 0, 1) := by decide +kernel
theorem dX11_clique_21 : decode cX11_clique 21 = .ok (.getfield 13, 3) := by decide +kernel
theorem dX11_clique_24 : decode cX11_clique 24 = .ok (.iconst 1, 1) := by decide +kernel
theorem dX11_clique_25 : decode cX11_clique 25 = .ok (.iaload, 1) := by decide +kernel
theorem dX11_clique_26 : decode cX11_clique 26 = .ok (.ishl, 1) := by decide +kernel
theorem dX11_clique_27 : decode cX11_clique 27 = .ok (.if_icmp .ge 38, 3) := by decide +kernel
theorem dX11_clique_30 : decode cX11_clique 30 = .ok (.iload_n 3, 1) := by decide +kernel
theorem dX11_clique_31 : decode cX11_clique 31 = .ok (.iload_n 1, 1) := by decide +kernel
theorem dX11_clique_32 : decode cX11_clique 32 = .ok (.iconst (-1), 1) := by decide +kernel
theorem dX11_clique_33 : decode cX11_clique 33 = .ok (.ixor, 1) := by decide +kernel
theorem dX11_clique_34 : decode cX11_clique 34 = .ok (.iand, 1) := by decide +kernel
theorem dX11_clique_35 : decode cX11_clique 35 = .ok (.ifCond .ne 24, 3) := by decide +kernel
theorem dX11_clique_38 : decode cX11_clique 38 = .ok (.iload_n 3, 1) := by decide +kernel
theorem dX11_clique_39 : decode cX11_clique 39 = .ok (.invokestatic 235, 3) := by decide +kernel
theorem dX11_clique_42 : decode cX11_clique 42 = .ok (.iload_n 2, 1) := by decide +kernel
theorem dX11_clique_43 : decode cX11_clique 43 = .ok (.invokestatic 235, 3) := by decide +kernel
theorem dX11_clique_46 : decode cX11_clique 46 = .ok (.if_icmp .le 13, 3) := by decide +kernel
theorem dX11_clique_49 : decode cX11_clique 49 = .ok (.aload_n 0, 1) := by decide +kernel
theorem dX11_clique_50 : decode cX11_clique 50 = .ok (.iload_n 3, 1) := by decide +kernel
theorem dX11_clique_51 : decode cX11_clique 51 = .ok (.invokevirtual 441, 3) := by decide +kernel
theorem dX11_clique_54 : decode cX11_clique 54 = .ok (.ifCond .eq 5, 3) := by decide +kernel
theorem dX11_clique_57 : decode cX11_clique 57 = .ok (.iload_n 3, 1) := by decide +kernel
theorem dX11_clique_58 : decode cX11_clique 58 = .ok (.istore_n 2, 1) := by decide +kernel
theorem dX11_clique_59 : decode cX11_clique 59 = .ok (.iinc 3 1, 3) := by decide +kernel
theorem dX11_clique_62 : decode cX11_clique 62 = .ok (.goto (-44), 3) := by decide +kernel
theorem dX11_clique_65 : decode cX11_clique 65 = .ok (.iload_n 2, 1) := by decide +kernel
theorem dX11_clique_66 : decode cX11_clique 66 = .ok (.ireturn, 1) := by decide +kernel
theorem dX11_forcesFrom_0 : decode cX11_forcesFrom 0 = .ok (.aload_n 0, 1) := by decide +kernel
theorem dX11_forcesFrom_1 : decode cX11_forcesFrom 1 = .ok (.iload_n 1, 1) := by decide +kernel
theorem dX11_forcesFrom_2 : decode cX11_forcesFrom 2 = .ok (.iload_n 2, 1) := by decide +kernel
theorem dX11_forcesFrom_3 : decode cX11_forcesFrom 3 = .ok (.iconst 1, 1) := by decide +kernel
theorem dX11_forcesFrom_4 : decode cX11_forcesFrom 4 = .ok (.invokevirtual 368, 3) := by decide +kernel
theorem dX11_forcesFrom_7 : decode cX11_forcesFrom 7 = .ok (.ifCond .eq 5, 3) := by decide +kernel
theorem dX11_forcesFrom_10 : decode cX11_forcesFrom 10 = .ok (.iconst 1, 1) := by decide +kernel
theorem dX11_forcesFrom_11 : decode cX11_forcesFrom 11 = .ok (.ireturn, 1) := by decide +kernel
theorem dX11_forcesFrom_12 : decode cX11_forcesFrom 12 = .ok (.iconst 0, 1) := by decide +kernel
theorem dX11_forcesFrom_13 : decode cX11_forcesFrom 13 = .ok (.istore 4, 2) := by decide +kernel
theorem dX11_forcesFrom_15 : decode cX11_forcesFrom 15 = .ok (.iload 4, 2) := by decide +kernel
theorem dX11_forcesFrom_17 : decode cX11_forcesFrom 17 = .ok (.bipush 16, 2) := by decide +kernel
theorem dX11_forcesFrom_19 : decode cX11_forcesFrom 19 = .ok (.if_icmp .ge 27, 3) := by decide +kernel
theorem dX11_forcesFrom_22 : decode cX11_forcesFrom 22 = .ok (.iload_n 3, 1) := by decide +kernel
theorem dX11_forcesFrom_23 : decode cX11_forcesFrom 23 = .ok (.ifCond .le 23, 3) := by decide +kernel
theorem dX11_forcesFrom_26 : decode cX11_forcesFrom 26 = .ok (.aload_n 0, 1) := by decide +kernel
theorem dX11_forcesFrom_27 : decode cX11_forcesFrom 27 = .ok (.iload_n 1, 1) := by decide +kernel
theorem dX11_forcesFrom_28 : decode cX11_forcesFrom 28 = .ok (.iload 4, 2) := by decide +kernel
theorem dX11_forcesFrom_30 : decode cX11_forcesFrom 30 = .ok (.iload_n 2, 1) := by decide +kernel
theorem dX11_forcesFrom_31 : decode cX11_forcesFrom 31 = .ok (.iload_n 3, 1) := by decide +kernel
theorem dX11_forcesFrom_32 : decode cX11_forcesFrom 32 = .ok (.invokevirtual 444, 3) := by decide +kernel
theorem dX11_forcesFrom_35 : decode cX11_forcesFrom 35 = .ok (.ifCond .eq 5, 3) := by decide +kernel
theorem dX11_forcesFrom_38 : decode cX11_forcesFrom 38 = .ok (.iconst 1, 1) := by decide +kernel
theorem dX11_forcesFrom_39 : decode cX11_forcesFrom 39 = .ok (.ireturn, 1) := by decide +kernel
theorem dX11_forcesFrom_40 : decode cX11_forcesFrom 40 = .ok (.iinc 4 1, 3) := by decide +kernel
theorem dX11_forcesFrom_43 : decode cX11_forcesFrom 43 = .ok (.goto (-28), 3) := by decide +kernel
theorem dX11_forcesFrom_46 : decode cX11_forcesFrom 46 = .ok (.iload_n 3, 1) := by decide +kernel
theorem dX11_forcesFrom_47 : decode cX11_forcesFrom 47 = .ok (.ifCond .le 19, 3) := by decide +kernel
theorem dX11_forcesFrom_50 : decode cX11_forcesFrom 50 = .ok (.aload_n 0, 1) := by decide +kernel
theorem dX11_forcesFrom_51 : decode cX11_forcesFrom 51 = .ok (.iload_n 1, 1) := by decide +kernel
theorem dX11_forcesFrom_52 : decode cX11_forcesFrom 52 = .ok (.iload_n 2, 1) := by decide +kernel
theorem dX11_forcesFrom_53 : decode cX11_forcesFrom 53 = .ok (.iload_n 3, 1) := by decide +kernel
theorem dX11_forcesFrom_54 : decode cX11_forcesFrom 54 = .ok (.iconst 1, 1) := by decide +kernel
theorem dX11_forcesFrom_55 : decode cX11_forcesFrom 55 = .ok (.isub, 1) := by decide +kernel
theorem dX11_forcesFrom_56 : decode cX11_forcesFrom 56 = .ok (.invokevirtual 447, 3) := by decide +kernel
theorem dX11_forcesFrom_59 : decode cX11_forcesFrom 59 = .ok (.ifCond .eq 7, 3) := by decide +kernel
theorem dX11_forcesFrom_62 : decode cX11_forcesFrom 62 = .ok (.iconst 1, 1) := by decide +kernel
theorem dX11_forcesFrom_63 : decode cX11_forcesFrom 63 = .ok (.goto 4, 3) := by decide +kernel
theorem dX11_forcesFrom_66 : decode cX11_forcesFrom 66 = .ok (.iconst 0, 1) := by decide +kernel
theorem dX11_forcesFrom_67 : decode cX11_forcesFrom 67 = .ok (.ireturn, 1) := by decide +kernel
theorem dX11_forcesBy_0 : decode cX11_forcesBy 0 = .ok (.aload_n 0, 1) := by decide +kernel
theorem dX11_forcesBy_1 : decode cX11_forcesBy 1 = .ok (.iload_n 1, 1) := by decide +kernel
theorem dX11_forcesBy_2 : decode cX11_forcesBy 2 = .ok (.iload_n 2, 1) := by decide +kernel
theorem dX11_forcesBy_3 : decode cX11_forcesBy 3 = .ok (.invokevirtual 361, 3) := by decide +kernel
theorem dX11_forcesBy_6 : decode cX11_forcesBy 6 = .ok (.istore 5, 2) := by decide +kernel
theorem dX11_forcesBy_8 : decode cX11_forcesBy 8 = .ok (.iload 5, 2) := by decide +kernel
theorem dX11_forcesBy_10 : decode cX11_forcesBy 10 = .ok (.iconst (-1), 1) := by decide +kernel
theorem dX11_forcesBy_11 : decode cX11_forcesBy 11 = .ok (.if_icmp .eq 21, 3) := by decide +kernel
theorem dX11_forcesBy_14 : decode cX11_forcesBy 14 = .ok (.aload_n 0, 1) := by decide +kernel
theorem dX11_forcesBy_15 : decode cX11_forcesBy 15 = .ok (.iload 5, 2) := by decide +kernel
theorem dX11_forcesBy_17 : decode cX11_forcesBy 17 = .ok (.iload_n 3, 1) := by decide +kernel
theorem dX11_forcesBy_18 : decode cX11_forcesBy 18 = .ok (.iload 4, 2) := by decide +kernel
theorem dX11_forcesBy_20 : decode cX11_forcesBy 20 = .ok (.iconst 1, 1) := by decide +kernel
theorem dX11_forcesBy_21 : decode cX11_forcesBy 21 = .ok (.isub, 1) := by decide +kernel
theorem dX11_forcesBy_22 : decode cX11_forcesBy 22 = .ok (.invokevirtual 447, 3) := by decide +kernel
theorem dX11_forcesBy_25 : decode cX11_forcesBy 25 = .ok (.ifCond .eq 7, 3) := by decide +kernel
theorem dX11_forcesBy_28 : decode cX11_forcesBy 28 = .ok (.iconst 1, 1) := by decide +kernel
theorem dX11_forcesBy_29 : decode cX11_forcesBy 29 = .ok (.goto 4, 3) := by decide +kernel
theorem dX11_forcesBy_32 : decode cX11_forcesBy 32 = .ok (.iconst 0, 1) := by decide +kernel
theorem dX11_forcesBy_33 : decode cX11_forcesBy 33 = .ok (.ireturn, 1) := by decide +kernel
theorem dX11_officerCant_0 : decode cX11_officerCant 0 = .ok (.aload_n 0, 1) := by decide +kernel
theorem dX11_officerCant_1 : decode cX11_officerCant 1 = .ok (.iload_n 1, 1) := by decide +kernel
theorem dX11_officerCant_2 : decode cX11_officerCant 2 = .ok (.iload_n 2, 1) := by decide +kernel
theorem dX11_officerCant_3 : decode cX11_officerCant 3 = .ok (.iconst 1, 1) := by decide +kernel
theorem dX11_officerCant_4 : decode cX11_officerCant 4 = .ok (.invokevirtual 368, 3) := by decide +kernel
theorem dX11_officerCant_7 : decode cX11_officerCant 7 = .ok (.ifCond .eq 5, 3) := by decide +kernel
theorem dX11_officerCant_10 : decode cX11_officerCant 10 = .ok (.iconst 1, 1) := by decide +kernel
theorem dX11_officerCant_11 : decode cX11_officerCant 11 = .ok (.ireturn, 1) := by decide +kernel
theorem dX11_officerCant_12 : decode cX11_officerCant 12 = .ok (.iload_n 3, 1) := by decide +kernel
theorem dX11_officerCant_13 : decode cX11_officerCant 13 = .ok (.ifCond .ne 5, 3) := by decide +kernel
theorem dX11_officerCant_16 : decode cX11_officerCant 16 = .ok (.iconst 0, 1) := by decide +kernel
theorem dX11_officerCant_17 : decode cX11_officerCant 17 = .ok (.ireturn, 1) := by decide +kernel
theorem dX11_officerCant_18 : decode cX11_officerCant 18 = .ok (.iconst 0, 1) := by decide +kernel
theorem dX11_officerCant_19 : decode cX11_officerCant 19 = .ok (.istore 4, 2) := by decide +kernel
theorem dX11_officerCant_21 : decode cX11_officerCant 21 = .ok (.iload 4, 2) := by decide +kernel
theorem dX11_officerCant_23 : decode cX11_officerCant 23 = .ok (.aload_n 0, 1) := by decide +kernel
theorem dX11_officerCant_24 : decode cX11_officerCant 24 = .ok (.getfield 13, 3) := by decide +kernel
theorem dX11_officerCant_27 : decode cX11_officerCant 27 = .ok (.iconst 1, 1) := by decide +kernel
theorem dX11_officerCant_28 : decode cX11_officerCant 28 = .ok (.iaload, 1) := by decide +kernel
theorem dX11_officerCant_29 : decode cX11_officerCant 29 = .ok (.if_icmp .ge 40, 3) := by decide +kernel
theorem dX11_officerCant_32 : decode cX11_officerCant 32 = .ok (.aload_n 0, 1) := by decide +kernel
theorem dX11_officerCant_33 : decode cX11_officerCant 33 = .ok (.iload_n 1, 1) := by decide +kernel
theorem dX11_officerCant_34 : decode cX11_officerCant 34 = .ok (.iload 4, 2) := by decide +kernel
theorem dX11_officerCant_36 : decode cX11_officerCant 36 = .ok (.invokevirtual 301, 3) := by decide +kernel
theorem dX11_officerCant_39 : decode cX11_officerCant 39 = .ok (.istore 5, 2) := by decide +kernel
theorem dX11_officerCant_41 : decode cX11_officerCant 41 = .ok (.iload 5, 2) := by decide +kernel
theorem dX11_officerCant_43 : decode cX11_officerCant 43 = .ok (.ifCond .eq 20, 3) := by decide +kernel
theorem dX11_officerCant_46 : decode cX11_officerCant 46 = .ok (.aload_n 0, 1) := by decide +kernel
theorem dX11_officerCant_47 : decode cX11_officerCant 47 = .ok (.iload_n 1, 1) := by decide +kernel
theorem dX11_officerCant_48 : decode cX11_officerCant 48 = .ok (.iload 5, 2) := by decide +kernel
theorem dX11_officerCant_50 : decode cX11_officerCant 50 = .ok (.invokestatic 304, 3) := by decide +kernel
theorem dX11_officerCant_53 : decode cX11_officerCant 53 = .ok (.iload_n 2, 1) := by decide +kernel
theorem dX11_officerCant_54 : decode cX11_officerCant 54 = .ok (.iload_n 3, 1) := by decide +kernel
theorem dX11_officerCant_55 : decode cX11_officerCant 55 = .ok (.invokevirtual 450, 3) := by decide +kernel
theorem dX11_officerCant_58 : decode cX11_officerCant 58 = .ok (.ifCond .ne 5, 3) := by decide +kernel
theorem dX11_officerCant_61 : decode cX11_officerCant 61 = .ok (.iconst 0, 1) := by decide +kernel
theorem dX11_officerCant_62 : decode cX11_officerCant 62 = .ok (.ireturn, 1) := by decide +kernel
theorem dX11_officerCant_63 : decode cX11_officerCant 63 = .ok (.iinc 4 1, 3) := by decide +kernel
theorem dX11_officerCant_66 : decode cX11_officerCant 66 = .ok (.goto (-45), 3) := by decide +kernel
theorem dX11_officerCant_69 : decode cX11_officerCant 69 = .ok (.aload_n 0, 1) := by decide +kernel
theorem dX11_officerCant_70 : decode cX11_officerCant 70 = .ok (.iload_n 1, 1) := by decide +kernel
theorem dX11_officerCant_71 : decode cX11_officerCant 71 = .ok (.iload_n 2, 1) := by decide +kernel
theorem dX11_officerCant_72 : decode cX11_officerCant 72 = .ok (.iload_n 3, 1) := by decide +kernel
theorem dX11_officerCant_73 : decode cX11_officerCant 73 = .ok (.invokevirtual 450, 3) := by decide +kernel
theorem dX11_officerCant_76 : decode cX11_officerCant 76 = .ok (.ireturn, 1) := by decide +kernel
theorem dX11_forcedIn_0 : decode cX11_forcedIn 0 = .ok (.iconst 0, 1) := by decide +kernel
theorem dX11_forcedIn_1 : decode cX11_forcedIn 1 = .ok (.istore_n 2, 1) := by decide +kernel
theorem dX11_forcedIn_2 : decode cX11_forcedIn 2 = .ok (.iload_n 2, 1) := by decide +kernel
theorem dX11_forcedIn_3 : decode cX11_forcedIn 3 = .ok (.iconst 3, 1) := by decide +kernel
theorem dX11_forcedIn_4 : decode cX11_forcedIn 4 = .ok (.if_icmp .gt 24, 3) := by decide +kernel
theorem dX11_forcedIn_7 : decode cX11_forcedIn 7 = .ok (.aload_n 0, 1) := by decide +kernel
theorem dX11_forcedIn_8 : decode cX11_forcedIn 8 = .ok (.aload_n 0, 1) := by decide +kernel
theorem dX11_forcedIn_9 : decode cX11_forcedIn 9 = .ok (.invokevirtual 270, 3) := by decide +kernel
theorem dX11_forcedIn_12 : decode cX11_forcedIn 12 = .ok (.iload_n 1, 1) := by decide +kernel
theorem dX11_forcedIn_13 : decode cX11_forcedIn 13 = .ok (.iload_n 2, 1) := by decide +kernel
theorem dX11_forcedIn_14 : decode cX11_forcedIn 14 = .ok (.invokevirtual 450, 3) := by decide +kernel
theorem dX11_forcedIn_17 : decode cX11_forcedIn 17 = .ok (.ifCond .eq 5, 3) := by decide +kernel
theorem dX11_forcedIn_20 : decode cX11_forcedIn 20 = .ok (.iload_n 2, 1) := by decide +kernel
theorem dX11_forcedIn_21 : decode cX11_forcedIn 21 = .ok (.ireturn, 1) := by decide +kernel
theorem dX11_forcedIn_22 : decode cX11_forcedIn 22 = .ok (.iinc 2 1, 3) := by decide +kernel
theorem dX11_forcedIn_25 : decode cX11_forcedIn 25 = .ok (.goto (-23), 3) := by decide +kernel
theorem dX11_forcedIn_28 : decode cX11_forcedIn 28 = .ok (.iconst (-1), 1) := by decide +kernel
theorem dX11_forcedIn_29 : decode cX11_forcedIn 29 = .ok (.ireturn, 1) := by decide +kernel
theorem dX11_forces_0 : decode cX11_forces 0 = .ok (.aload_n 0, 1) := by decide +kernel
theorem dX11_forces_1 : decode cX11_forces 1 = .ok (.iconst 0, 1) := by decide +kernel
theorem dX11_forces_2 : decode cX11_forces 2 = .ok (.putfield 1, 3) := by decide +kernel
theorem dX11_forces_5 : decode cX11_forces 5 = .ok (.aload_n 0, 1) := by decide +kernel
theorem dX11_forces_6 : decode cX11_forces 6 = .ok (.iload_n 1, 1) := by decide +kernel
theorem dX11_forces_7 : decode cX11_forces 7 = .ok (.invokevirtual 378, 3) := by decide +kernel
theorem dX11_forces_10 : decode cX11_forces 10 = .ok (.ifCond .eq 11, 3) := by decide +kernel
theorem dX11_forces_13 : decode cX11_forces 13 = .ok (.aload_n 0, 1) := by decide +kernel
theorem dX11_forces_14 : decode cX11_forces 14 = .ok (.iload_n 1, 1) := by decide +kernel
theorem dX11_forces_15 : decode cX11_forces 15 = .ok (.invokevirtual 453, 3) := by decide +kernel
theorem dX11_forces_18 : decode cX11_forces 18 = .ok (.goto 5, 3) := by decide +kernel
theorem dX11_forces_21 : decode cX11_forces 21 = .ok (.bipush (-3), 2) := by decide +kernel
theorem dX11_forces_23 : decode cX11_forces 23 = .ok (.ireturn, 1) := by decide +kernel
theorem dX11_best_0 : decode cX11_best 0 = .ok (.aload_n 0, 1) := by decide +kernel
theorem dX11_best_1 : decode cX11_best 1 = .ok (.iconst 0, 1) := by decide +kernel
theorem dX11_best_2 : decode cX11_best 2 = .ok (.putfield 1, 3) := by decide +kernel
theorem dX11_best_5 : decode cX11_best 5 = .ok (.aload_n 0, 1) := by decide +kernel
theorem dX11_best_6 : decode cX11_best 6 = .ok (.iload_n 1, 1) := by decide +kernel
theorem dX11_best_7 : decode cX11_best 7 = .ok (.invokevirtual 378, 3) := by decide +kernel
theorem dX11_best_10 : decode cX11_best 10 = .ok (.ifCond .ne 6, 3) := by decide +kernel
theorem dX11_best_13 : decode cX11_best 13 = .ok (.bipush (-3), 2) := by decide +kernel
theorem dX11_best_15 : decode cX11_best 15 = .ok (.ireturn, 1) := by decide +kernel
theorem dX11_best_16 : decode cX11_best 16 = .ok (.aload_n 0, 1) := by decide +kernel
theorem dX11_best_17 : decode cX11_best 17 = .ok (.iload_n 1, 1) := by decide +kernel
theorem dX11_best_18 : decode cX11_best 18 = .ok (.invokevirtual 453, 3) := by decide +kernel
theorem dX11_best_21 : decode cX11_best 21 = .ok (.istore_n 2, 1) := by decide +kernel
theorem dX11_best_22 : decode cX11_best 22 = .ok (.iload_n 2, 1) := by decide +kernel
theorem dX11_best_23 : decode cX11_best 23 = .ok (.iconst 1, 1) := by decide +kernel
theorem dX11_best_24 : decode cX11_best 24 = .ok (.if_icmp .ge 5, 3) := by decide +kernel
theorem dX11_best_27 : decode cX11_best 27 = .ok (.iconst (-1), 1) := by decide +kernel
theorem dX11_best_28 : decode cX11_best 28 = .ok (.ireturn, 1) := by decide +kernel
theorem dX11_best_29 : decode cX11_best 29 = .ok (.iconst 0, 1) := by decide +kernel
theorem dX11_best_30 : decode cX11_best 30 = .ok (.istore_n 3, 1) := by decide +kernel
theorem dX11_best_31 : decode cX11_best 31 = .ok (.iload_n 3, 1) := by decide +kernel
theorem dX11_best_32 : decode cX11_best 32 = .ok (.bipush 16, 2) := by decide +kernel
theorem dX11_best_34 : decode cX11_best 34 = .ok (.if_icmp .ge 28, 3) := by decide +kernel
theorem dX11_best_37 : decode cX11_best 37 = .ok (.aload_n 0, 1) := by decide +kernel
theorem dX11_best_38 : decode cX11_best 38 = .ok (.aload_n 0, 1) := by decide +kernel
theorem dX11_best_39 : decode cX11_best 39 = .ok (.invokevirtual 270, 3) := by decide +kernel
theorem dX11_best_42 : decode cX11_best 42 = .ok (.iload_n 3, 1) := by decide +kernel
theorem dX11_best_43 : decode cX11_best 43 = .ok (.iload_n 1, 1) := by decide +kernel
theorem dX11_best_44 : decode cX11_best 44 = .ok (.iload_n 2, 1) := by decide +kernel
theorem dX11_best_45 : decode cX11_best 45 = .ok (.invokevirtual 444, 3) := by decide +kernel
theorem dX11_best_48 : decode cX11_best 48 = .ok (.ifCond .eq 8, 3) := by decide +kernel
theorem dX11_best_51 : decode cX11_best 51 = .ok (.iload_n 3, 1) := by decide +kernel
theorem dX11_best_52 : decode cX11_best 52 = .ok (.invokestatic 375, 3) := by decide +kernel
theorem dX11_best_55 : decode cX11_best 55 = .ok (.ireturn, 1) := by decide +kernel
theorem dX11_best_56 : decode cX11_best 56 = .ok (.iinc 3 1, 3) := by decide +kernel
theorem dX11_best_59 : decode cX11_best 59 = .ok (.goto (-28), 3) := by decide +kernel
theorem dX11_best_62 : decode cX11_best 62 = .ok (.bipush 99, 2) := by decide +kernel
theorem dX11_best_64 : decode cX11_best 64 = .ok (.ireturn, 1) := by decide +kernel
theorem dX11_needsOf_0 : decode cX11_needsOf 0 = .ok (.iconst 1, 1) := by decide +kernel
theorem dX11_needsOf_1 : decode cX11_needsOf 1 = .ok (.iload_n 1, 1) := by decide +kernel
theorem dX11_needsOf_2 : decode cX11_needsOf 2 = .ok (.ishl, 1) := by decide +kernel
theorem dX11_needsOf_3 : decode cX11_needsOf 3 = .ok (.istore_n 2, 1) := by decide +kernel
theorem dX11_needsOf_4 : decode cX11_needsOf 4 = .ok (.iload_n 1, 1) := by decide +kernel
theorem dX11_needsOf_5 : decode cX11_needsOf 5 = .ok (.istore_n 3, 1) := by decide +kernel
theorem dX11_needsOf_6 : decode cX11_needsOf 6 = .ok (.iload_n 3, 1) := by decide +kernel
theorem dX11_needsOf_7 : decode cX11_needsOf 7 = .ok (.ifCond .lt 34, 3) := by decide +kernel
theorem dX11_needsOf_10 : decode cX11_needsOf 10 = .ok (.iload_n 2, 1) := by decide +kernel
theorem dX11_needsOf_11 : decode cX11_needsOf 11 = .ok (.iload_n 2, 1) := by decide +kernel
theorem dX11_needsOf_12 : decode cX11_needsOf 12 = .ok (.i2l, 1) := by decide +kernel
theorem dX11_needsOf_13 : decode cX11_needsOf 13 = .ok (.iload_n 3, 1) := by decide +kernel
theorem dX11_needsOf_14 : decode cX11_needsOf 14 = .ok (.invokestatic 221, 3) := by decide +kernel
theorem dX11_needsOf_17 : decode cX11_needsOf 17 = .ok (.ifCond .eq 15, 3) := by decide +kernel
theorem dX11_needsOf_20 : decode cX11_needsOf 20 = .ok (.aload_n 0, 1) := by decide +kernel
theorem dX11_needsOf_21 : decode cX11_needsOf 21 = .ok (.getfield 13, 3) := by decide +kernel
theorem dX11_needsOf_24 : decode cX11_needsOf 24 = .ok (.bipush 50, 2) := by decide +kernel
theorem dX11_needsOf_26 : decode cX11_needsOf 26 = .ok (.iload_n 3, 1) := by decide +kernel
theorem dX11_needsOf_27 : decode cX11_needsOf 27 = .ok (.iadd, 1) := by decide +kernel
theorem dX11_needsOf_28 : decode cX11_needsOf 28 = .ok (.iaload, 1) := by decide +kernel
theorem dX11_needsOf_29 : decode cX11_needsOf 29 = .ok (.goto 4, 3) := by decide +kernel
theorem dX11_needsOf_32 : decode cX11_needsOf 32 = .ok (.iconst 0, 1) := by decide +kernel
theorem dX11_needsOf_33 : decode cX11_needsOf 33 = .ok (.ior, 1) := by decide +kernel
theorem dX11_needsOf_34 : decode cX11_needsOf 34 = .ok (.istore_n 2, 1) := by decide +kernel
theorem dX11_needsOf_35 : decode cX11_needsOf 35 = .ok (.iinc 3 (-1), 3) := by decide +kernel
theorem dX11_needsOf_38 : decode cX11_needsOf 38 = .ok (.goto (-32), 3) := by decide +kernel
theorem dX11_needsOf_41 : decode cX11_needsOf 41 = .ok (.iload_n 2, 1) := by decide +kernel
theorem dX11_needsOf_42 : decode cX11_needsOf 42 = .ok (.ireturn, 1) := by decide +kernel
theorem dX11_staysDone_0 : decode cX11_staysDone 0 = .ok (.aload_n 0, 1) := by decide +kernel
theorem dX11_staysDone_1 : decode cX11_staysDone 1 = .ok (.iload_n 2, 1) := by decide +kernel
theorem dX11_staysDone_2 : decode cX11_staysDone 2 = .ok (.invokevirtual 456, 3) := by decide +kernel
theorem dX11_staysDone_5 : decode cX11_staysDone 5 = .ok (.istore_n 3, 1) := by decide +kernel
theorem dX11_staysDone_6 : decode cX11_staysDone 6 = .ok (.ldc2_w 459, 3) := by decide +kernel
theorem dX11_staysDone_9 : decode cX11_staysDone 9 = .ok (.lstore 4, 2) := by decide +kernel
theorem dX11_staysDone_11 : decode cX11_staysDone 11 = .ok (.iconst 0, 1) := by decide +kernel
theorem dX11_staysDone_12 : decode cX11_staysDone 12 = .ok (.istore 6, 2) := by decide +kernel
theorem dX11_staysDone_14 : decode cX11_staysDone 14 = .ok (.iload 6, 2) := by decide +kernel
theorem dX11_staysDone_16 : decode cX11_staysDone 16 = .ok (.iload_n 2, 1) := by decide +kernel
theorem dX11_staysDone_17 : decode cX11_staysDone 17 = .ok (.if_icmp .gt 68, 3) := by decide +kernel
theorem dX11_staysDone_20 : decode cX11_staysDone 20 = .ok (.iload_n 3, 1) := by decide +kernel
theorem dX11_staysDone_21 : decode cX11_staysDone 21 = .ok (.i2l, 1) := by decide +kernel
theorem dX11_staysDone_22 : decode cX11_staysDone 22 = .ok (.iload 6, 2) := by decide +kernel
theorem dX11_staysDone_24 : decode cX11_staysDone 24 = .ok (.invokestatic 221, 3) := by decide +kernel
theorem dX11_staysDone_27 : decode cX11_staysDone 27 = .ok (.ifCond .eq 52, 3) := by decide +kernel
theorem dX11_staysDone_30 : decode cX11_staysDone 30 = .ok (.lload 4, 2) := by decide +kernel
theorem dX11_staysDone_32 : decode cX11_staysDone 32 = .ok (.ldc2_w 461, 3) := by decide +kernel
theorem dX11_staysDone_35 : decode cX11_staysDone 35 = .ok (.ldiv, 1) := by decide +kernel
theorem dX11_staysDone_36 : decode cX11_staysDone 36 = .ok (.bipush 100, 2) := by decide +kernel
theorem dX11_staysDone_38 : decode cX11_staysDone 38 = .ok (.aload_n 0, 1) := by decide +kernel
theorem dX11_staysDone_39 : decode cX11_staysDone 39 = .ok (.getfield 13, 3) := by decide +kernel
theorem dX11_staysDone_42 : decode cX11_staysDone 42 = .ok (.bipush 26, 2) := by decide +kernel
theorem dX11_staysDone_44 : decode cX11_staysDone 44 = .ok (.iload 6, 2) := by decide +kernel
theorem dX11_staysDone_46 : decode cX11_staysDone 46 = .ok (.iadd, 1) := by decide +kernel
theorem dX11_staysDone_47 : decode cX11_staysDone 47 = .ok (.iaload, 1) := by decide +kernel
theorem dX11_staysDone_48 : decode cX11_staysDone 48 = .ok (.iload_n 1, 1) := by decide +kernel
theorem dX11_staysDone_49 : decode cX11_staysDone 49 = .ok (.iload 6, 2) := by decide +kernel
theorem dX11_staysDone_51 : decode cX11_staysDone 51 = .ok (.invokestatic 215, 3) := by decide +kernel
theorem dX11_staysDone_54 : decode cX11_staysDone 54 = .ok (.iconst 1, 1) := by decide +kernel
theorem dX11_staysDone_55 : decode cX11_staysDone 55 = .ok (.if_icmp .ne 16, 3) := by decide +kernel
theorem dX11_staysDone_58 : decode cX11_staysDone 58 = .ok (.aload_n 0, 1) := by decide +kernel
theorem dX11_staysDone_59 : decode cX11_staysDone 59 = .ok (.getfield 13, 3) := by decide +kernel
theorem dX11_staysDone_62 : decode cX11_staysDone 62 = .ok (.bipush 34, 2) := by decide +kernel
theorem dX11_staysDone_64 : decode cX11_staysDone 64 = .ok (.iload 6, 2) := by decide +kernel
theorem dX11_staysDone_66 : decode cX11_staysDone 66 = .ok (.iadd, 1) := by decide +kernel
theorem dX11_staysDone_67 : decode cX11_staysDone 67 = .ok (.iaload, 1) := by decide +kernel
theorem dX11_staysDone_68 : decode cX11_staysDone 68 = .ok (.goto 5, 3) := by decide +kernel
theorem dX11_staysDone_71 : decode cX11_staysDone 71 = .ok (.bipush 10, 2) := by decide +kernel
theorem dX11_staysDone_73 : decode cX11_staysDone 73 = .ok (.imul, 1) := by decide +kernel
theorem dX11_staysDone_74 : decode cX11_staysDone 74 = .ok (.isub, 1) := by decide +kernel
theorem dX11_staysDone_75 : decode cX11_staysDone 75 = .ok (.i2l, 1) := by decide +kernel
theorem dX11_staysDone_76 : decode cX11_staysDone 76 = .ok (.lmul, 1) := by decide +kernel
theorem dX11_staysDone_77 : decode cX11_staysDone 77 = .ok (.lstore 4, 2) := by decide +kernel
theorem dX11_staysDone_79 : decode cX11_staysDone 79 = .ok (.iinc 6 1, 3) := by decide +kernel
theorem dX11_staysDone_82 : decode cX11_staysDone 82 = .ok (.goto (-68), 3) := by decide +kernel
theorem dX11_staysDone_85 : decode cX11_staysDone 85 = .ok (.lload 4, 2) := by decide +kernel
theorem dX11_staysDone_87 : decode cX11_staysDone 87 = .ok (.lreturn, 1) := by decide +kernel
theorem dX11_meanOf_0 : decode cX11_meanOf 0 = .ok (.lconst 0, 1) := by decide +kernel
theorem dX11_meanOf_1 : decode cX11_meanOf 1 = .ok (.lstore_n 2, 1) := by decide +kernel
theorem dX11_meanOf_2 : decode cX11_meanOf 2 = .ok (.iconst 0, 1) := by decide +kernel
theorem dX11_meanOf_3 : decode cX11_meanOf 3 = .ok (.istore 4, 2) := by decide +kernel
theorem dX11_meanOf_5 : decode cX11_meanOf 5 = .ok (.iload 4, 2) := by decide +kernel
theorem dX11_meanOf_7 : decode cX11_meanOf 7 = .ok (.aload_n 0, 1) := by decide +kernel
theorem dX11_meanOf_8 : decode cX11_meanOf 8 = .ok (.getfield 13, 3) := by decide +kernel
theorem dX11_meanOf_11 : decode cX11_meanOf 11 = .ok (.iconst 1, 1) := by decide +kernel
theorem dX11_meanOf_12 : decode cX11_meanOf 12 = .ok (.iaload, 1) := by decide +kernel
theorem dX11_meanOf_13 : decode cX11_meanOf 13 = .ok (.if_icmp .ge 32, 3) := by decide +kernel
theorem dX11_meanOf_16 : decode cX11_meanOf 16 = .ok (.lload_n 2, 1) := by decide +kernel
theorem dX11_meanOf_17 : decode cX11_meanOf 17 = .ok (.iload_n 1, 1) := by decide +kernel
theorem dX11_meanOf_18 : decode cX11_meanOf 18 = .ok (.iload 4, 2) := by decide +kernel
theorem dX11_meanOf_20 : decode cX11_meanOf 20 = .ok (.invokestatic 255, 3) := by decide +kernel
theorem dX11_meanOf_23 : decode cX11_meanOf 23 = .ok (.ifCond .eq 13, 3) := by decide +kernel
theorem dX11_meanOf_26 : decode cX11_meanOf 26 = .ok (.aload_n 0, 1) := by decide +kernel
theorem dX11_meanOf_27 : decode cX11_meanOf 27 = .ok (.iload_n 1, 1) := by decide +kernel
theorem dX11_meanOf_28 : decode cX11_meanOf 28 = .ok (.iload 4, 2) := by decide +kernel
theorem dX11_meanOf_30 : decode cX11_meanOf 30 = .ok (.invokevirtual 463, 3) := by decide +kernel
theorem dX11_meanOf_33 : decode cX11_meanOf 33 = .ok (.goto 4, 3) := by decide +kernel
theorem dX11_meanOf_36 : decode cX11_meanOf 36 = .ok (.lconst 0, 1) := by decide +kernel
theorem dX11_meanOf_37 : decode cX11_meanOf 37 = .ok (.ladd, 1) := by decide +kernel
theorem dX11_meanOf_38 : decode cX11_meanOf 38 = .ok (.lstore_n 2, 1) := by decide +kernel
theorem dX11_meanOf_39 : decode cX11_meanOf 39 = .ok (.iinc 4 1, 3) := by decide +kernel
theorem dX11_meanOf_42 : decode cX11_meanOf 42 = .ok (.goto (-37), 3) := by decide +kernel
theorem dX11_meanOf_45 : decode cX11_meanOf 45 = .ok (.lload_n 2, 1) := by decide +kernel
theorem dX11_meanOf_46 : decode cX11_meanOf 46 = .ok (.lreturn, 1) := by decide +kernel
theorem dX11_common_0 : decode cX11_common 0 = .ok (.lload_n 2, 1) := by decide +kernel
theorem dX11_common_1 : decode cX11_common 1 = .ok (.lconst 0, 1) := by decide +kernel
theorem dX11_common_2 : decode cX11_common 2 = .ok (.lcmp, 1) := by decide +kernel
theorem dX11_common_3 : decode cX11_common 3 = .ok (.ifCond .ne 7, 3) := by decide +kernel
theorem dX11_common_6 : decode cX11_common 6 = .ok (.lload_n 0, 1) := by decide +kernel
theorem dX11_common_7 : decode cX11_common 7 = .ok (.goto 10, 3) := by decide +kernel
theorem dX11_common_10 : decode cX11_common 10 = .ok (.lload_n 2, 1) := by decide +kernel
theorem dX11_common_11 : decode cX11_common 11 = .ok (.lload_n 0, 1) := by decide +kernel
theorem dX11_common_12 : decode cX11_common 12 = .ok (.lload_n 2, 1) := by decide +kernel
theorem dX11_common_13 : decode cX11_common 13 = .ok (.lrem, 1) := by decide +kernel
theorem dX11_common_14 : decode cX11_common 14 = .ok (.invokestatic 467, 3) := by decide +kernel
theorem dX11_common_17 : decode cX11_common 17 = .ok (.lreturn, 1) := by decide +kernel
theorem dX11_part_0 : decode cX11_part 0 = .ok (.iload_n 2, 1) := by decide +kernel
theorem dX11_part_1 : decode cX11_part 1 = .ok (.ifCond .ne 7, 3) := by decide +kernel
theorem dX11_part_4 : decode cX11_part 4 = .ok (.lload_n 0, 1) := by decide +kernel
theorem dX11_part_5 : decode cX11_part 5 = .ok (.goto 6, 3) := by decide +kernel
theorem dX11_part_8 : decode cX11_part 8 = .ok (.ldc2_w 459, 3) := by decide +kernel
theorem dX11_part_11 : decode cX11_part 11 = .ok (.lload_n 0, 1) := by decide +kernel
theorem dX11_part_12 : decode cX11_part 12 = .ok (.ldc2_w 459, 3) := by decide +kernel
theorem dX11_part_15 : decode cX11_part 15 = .ok (.invokestatic 467, 3) := by decide +kernel
theorem dX11_part_18 : decode cX11_part 18 = .ok (.ldiv, 1) := by decide +kernel
theorem dX11_part_19 : decode cX11_part 19 = .ok (.lreturn, 1) := by decide +kernel
theorem dX11_chance_0 : decode cX11_chance 0 = .ok (.aload_n 0, 1) := by decide +kernel
theorem dX11_chance_1 : decode cX11_chance 1 = .ok (.iconst 0, 1) := by decide +kernel
theorem dX11_chance_2 : decode cX11_chance 2 = .ok (.putfield 1, 3) := by decide +kernel
theorem dX11_chance_5 : decode cX11_chance 5 = .ok (.aload_n 0, 1) := by decide +kernel
theorem dX11_chance_6 : decode cX11_chance 6 = .ok (.iload_n 1, 1) := by decide +kernel
theorem dX11_chance_7 : decode cX11_chance 7 = .ok (.i2l, 1) := by decide +kernel
theorem dX11_chance_8 : decode cX11_chance 8 = .ok (.invokevirtual 266, 3) := by decide +kernel
theorem dX11_chance_11 : decode cX11_chance 11 = .ok (.ifCond .eq 13, 3) := by decide +kernel
theorem dX11_chance_14 : decode cX11_chance 14 = .ok (.iload_n 2, 1) := by decide +kernel
theorem dX11_chance_15 : decode cX11_chance 15 = .ok (.i2l, 1) := by decide +kernel
theorem dX11_chance_16 : decode cX11_chance 16 = .ok (.lconst 0, 1) := by decide +kernel
theorem dX11_chance_17 : decode cX11_chance 17 = .ok (.lconst 1, 1) := by decide +kernel
theorem dX11_chance_18 : decode cX11_chance 18 = .ok (.invokestatic 150, 3) := by decide +kernel
theorem dX11_chance_21 : decode cX11_chance 21 = .ok (.ifCond .ne 7, 3) := by decide +kernel
theorem dX11_chance_24 : decode cX11_chance 24 = .ok (.ldc2_w 471, 3) := by decide +kernel
theorem dX11_chance_27 : decode cX11_chance 27 = .ok (.lreturn, 1) := by decide +kernel
theorem dX11_chance_28 : decode cX11_chance 28 = .ok (.aload_n 0, 1) := by decide +kernel
theorem dX11_chance_29 : decode cX11_chance 29 = .ok (.invokevirtual 270, 3) := by decide +kernel
theorem dX11_chance_32 : decode cX11_chance 32 = .ok (.iload_n 1, 1) := by decide +kernel
theorem dX11_chance_33 : decode cX11_chance 33 = .ok (.invokestatic 255, 3) := by decide +kernel
theorem dX11_chance_36 : decode cX11_chance 36 = .ok (.ifCond .eq 19, 3) := by decide +kernel
theorem dX11_chance_39 : decode cX11_chance 39 = .ok (.aload_n 0, 1) := by decide +kernel
theorem dX11_chance_40 : decode cX11_chance 40 = .ok (.aload_n 0, 1) := by decide +kernel
theorem dX11_chance_41 : decode cX11_chance 41 = .ok (.invokevirtual 270, 3) := by decide +kernel
theorem dX11_chance_44 : decode cX11_chance 44 = .ok (.iload_n 1, 1) := by decide +kernel
theorem dX11_chance_45 : decode cX11_chance 45 = .ok (.invokevirtual 463, 3) := by decide +kernel
theorem dX11_chance_48 : decode cX11_chance 48 = .ok (.iload_n 2, 1) := by decide +kernel
theorem dX11_chance_49 : decode cX11_chance 49 = .ok (.invokestatic 473, 3) := by decide +kernel
theorem dX11_chance_52 : decode cX11_chance 52 = .ok (.goto 6, 3) := by decide +kernel
theorem dX11_chance_55 : decode cX11_chance 55 = .ok (.ldc2_w 477, 3) := by decide +kernel
theorem dX11_chance_58 : decode cX11_chance 58 = .ok (.lreturn, 1) := by decide +kernel
theorem dX11_mean_0 : decode cX11_mean 0 = .ok (.aload_n 0, 1) := by decide +kernel
theorem dX11_mean_1 : decode cX11_mean 1 = .ok (.iconst 0, 1) := by decide +kernel
theorem dX11_mean_2 : decode cX11_mean 2 = .ok (.putfield 1, 3) := by decide +kernel
theorem dX11_mean_5 : decode cX11_mean 5 = .ok (.iload_n 1, 1) := by decide +kernel
theorem dX11_mean_6 : decode cX11_mean 6 = .ok (.i2l, 1) := by decide +kernel
theorem dX11_mean_7 : decode cX11_mean 7 = .ok (.lconst 0, 1) := by decide +kernel
theorem dX11_mean_8 : decode cX11_mean 8 = .ok (.lconst 1, 1) := by decide +kernel
theorem dX11_mean_9 : decode cX11_mean 9 = .ok (.invokestatic 150, 3) := by decide +kernel
theorem dX11_mean_12 : decode cX11_mean 12 = .ok (.ifCond .eq 18, 3) := by decide +kernel
theorem dX11_mean_15 : decode cX11_mean 15 = .ok (.aload_n 0, 1) := by decide +kernel
theorem dX11_mean_16 : decode cX11_mean 16 = .ok (.aload_n 0, 1) := by decide +kernel
theorem dX11_mean_17 : decode cX11_mean 17 = .ok (.invokevirtual 270, 3) := by decide +kernel
theorem dX11_mean_20 : decode cX11_mean 20 = .ok (.invokevirtual 479, 3) := by decide +kernel
theorem dX11_mean_23 : decode cX11_mean 23 = .ok (.iload_n 1, 1) := by decide +kernel
theorem dX11_mean_24 : decode cX11_mean 24 = .ok (.invokestatic 473, 3) := by decide +kernel
theorem dX11_mean_27 : decode cX11_mean 27 = .ok (.goto 6, 3) := by decide +kernel
theorem dX11_mean_30 : decode cX11_mean 30 = .ok (.ldc2_w 471, 3) := by decide +kernel
theorem dX11_mean_33 : decode cX11_mean 33 = .ok (.lreturn, 1) := by decide +kernel
theorem dX11_wanted_0 : decode cX11_wanted 0 = .ok (.aload_n 0, 1) := by decide +kernel
theorem dX11_wanted_1 : decode cX11_wanted 1 = .ok (.iconst 0, 1) := by decide +kernel
theorem dX11_wanted_2 : decode cX11_wanted 2 = .ok (.putfield 1, 3) := by decide +kernel
theorem dX11_wanted_5 : decode cX11_wanted 5 = .ok (.iconst (-1), 1) := by decide +kernel
theorem dX11_wanted_6 : decode cX11_wanted 6 = .ok (.istore_n 1, 1) := by decide +kernel
theorem dX11_wanted_7 : decode cX11_wanted 7 = .ok (.ldc2_w 483, 3) := by decide +kernel
theorem dX11_wanted_10 : decode cX11_wanted 10 = .ok (.lstore_n 2, 1) := by decide +kernel
theorem dX11_wanted_11 : decode cX11_wanted 11 = .ok (.iconst 0, 1) := by decide +kernel
theorem dX11_wanted_12 : decode cX11_wanted 12 = .ok (.istore 4, 2) := by decide +kernel
theorem dX11_wanted_14 : decode cX11_wanted 14 = .ok (.iload 4, 2) := by decide +kernel
theorem dX11_wanted_16 : decode cX11_wanted 16 = .ok (.aload_n 0, 1) := by decide +kernel
theorem dX11_wanted_17 : decode cX11_wanted 17 = .ok (.getfield 13, 3) := by decide +kernel
theorem dX11_wanted_20 : decode cX11_wanted 20 = .ok (.iconst 1, 1) := by decide +kernel
theorem dX11_wanted_21 : decode cX11_wanted 21 = .ok (.iaload, 1) := by decide +kernel
theorem dX11_wanted_22 : decode cX11_wanted 22 = .ok (.if_icmp .ge 58, 3) := by decide +kernel
theorem dX11_wanted_25 : decode cX11_wanted 25 = .ok (.aload_n 0, 1) := by decide +kernel
theorem dX11_wanted_26 : decode cX11_wanted 26 = .ok (.getfield 13, 3) := by decide +kernel
theorem dX11_wanted_29 : decode cX11_wanted 29 = .ok (.bipush 74, 2) := by decide +kernel
theorem dX11_wanted_31 : decode cX11_wanted 31 = .ok (.iload 4, 2) := by decide +kernel
theorem dX11_wanted_33 : decode cX11_wanted 33 = .ok (.iadd, 1) := by decide +kernel
theorem dX11_wanted_34 : decode cX11_wanted 34 = .ok (.iaload, 1) := by decide +kernel
theorem dX11_wanted_35 : decode cX11_wanted 35 = .ok (.iconst 2, 1) := by decide +kernel
theorem dX11_wanted_36 : decode cX11_wanted 36 = .ok (.if_icmp .eq 6, 3) := by decide +kernel
theorem dX11_wanted_39 : decode cX11_wanted 39 = .ok (.goto 35, 3) := by decide +kernel
theorem dX11_wanted_42 : decode cX11_wanted 42 = .ok (.aload_n 0, 1) := by decide +kernel
theorem dX11_wanted_43 : decode cX11_wanted 43 = .ok (.aload_n 0, 1) := by decide +kernel
theorem dX11_wanted_44 : decode cX11_wanted 44 = .ok (.invokevirtual 270, 3) := by decide +kernel
theorem dX11_wanted_47 : decode cX11_wanted 47 = .ok (.iload 4, 2) := by decide +kernel
theorem dX11_wanted_49 : decode cX11_wanted 49 = .ok (.iconst 1, 1) := by decide +kernel
theorem dX11_wanted_50 : decode cX11_wanted 50 = .ok (.invokestatic 248, 3) := by decide +kernel
theorem dX11_wanted_53 : decode cX11_wanted 53 = .ok (.invokevirtual 479, 3) := by decide +kernel
theorem dX11_wanted_56 : decode cX11_wanted 56 = .ok (.lstore 5, 2) := by decide +kernel
theorem dX11_wanted_58 : decode cX11_wanted 58 = .ok (.lload 5, 2) := by decide +kernel
theorem dX11_wanted_60 : decode cX11_wanted 60 = .ok (.lload_n 2, 1) := by decide +kernel
theorem dX11_wanted_61 : decode cX11_wanted 61 = .ok (.lcmp, 1) := by decide +kernel
theorem dX11_wanted_62 : decode cX11_wanted 62 = .ok (.ifCond .gt 6, 3) := by decide +kernel
theorem dX11_wanted_65 : decode cX11_wanted 65 = .ok (.goto 9, 3) := by decide +kernel
theorem dX11_wanted_68 : decode cX11_wanted 68 = .ok (.iload 4, 2) := by decide +kernel
theorem dX11_wanted_70 : decode cX11_wanted 70 = .ok (.istore_n 1, 1) := by decide +kernel
theorem dX11_wanted_71 : decode cX11_wanted 71 = .ok (.lload 5, 2) := by decide +kernel
theorem dX11_wanted_73 : decode cX11_wanted 73 = .ok (.lstore_n 2, 1) := by decide +kernel
theorem dX11_wanted_74 : decode cX11_wanted 74 = .ok (.iinc 4 1, 3) := by decide +kernel
theorem dX11_wanted_77 : decode cX11_wanted 77 = .ok (.goto (-63), 3) := by decide +kernel
theorem dX11_wanted_80 : decode cX11_wanted 80 = .ok (.iload_n 1, 1) := by decide +kernel
theorem dX11_wanted_81 : decode cX11_wanted 81 = .ok (.ireturn, 1) := by decide +kernel
theorem dX11_cut_0 : decode cX11_cut 0 = .ok (.iload_n 2, 1) := by decide +kernel
theorem dX11_cut_1 : decode cX11_cut 1 = .ok (.ifCond .ne 10, 3) := by decide +kernel
theorem dX11_cut_4 : decode cX11_cut 4 = .ok (.lload_n 0, 1) := by decide +kernel
theorem dX11_cut_5 : decode cX11_cut 5 = .ok (.l2i, 1) := by decide +kernel
theorem dX11_cut_6 : decode cX11_cut 6 = .ok (.i2b, 1) := by decide +kernel
theorem dX11_cut_7 : decode cX11_cut 7 = .ok (.i2l, 1) := by decide +kernel
theorem dX11_cut_8 : decode cX11_cut 8 = .ok (.goto 27, 3) := by decide +kernel
theorem dX11_cut_11 : decode cX11_cut 11 = .ok (.iload_n 2, 1) := by decide +kernel
theorem dX11_cut_12 : decode cX11_cut 12 = .ok (.iconst 1, 1) := by decide +kernel
theorem dX11_cut_13 : decode cX11_cut 13 = .ok (.if_icmp .ne 10, 3) := by decide +kernel
theorem dX11_cut_16 : decode cX11_cut 16 = .ok (.lload_n 0, 1) := by decide +kernel
theorem dX11_cut_17 : decode cX11_cut 17 = .ok (.l2i, 1) := by decide +kernel
theorem dX11_cut_18 : decode cX11_cut 18 = .ok (.i2s, 1) := by decide +kernel
theorem dX11_cut_19 : decode cX11_cut 19 = .ok (.i2l, 1) := by decide +kernel
theorem dX11_cut_20 : decode cX11_cut 20 = .ok (.goto 15, 3) := by decide +kernel
theorem dX11_cut_23 : decode cX11_cut 23 = .ok (.iload_n 2, 1) := by decide +kernel
theorem dX11_cut_24 : decode cX11_cut 24 = .ok (.iconst 2, 1) := by decide +kernel
theorem dX11_cut_25 : decode cX11_cut 25 = .ok (.if_icmp .ne 9, 3) := by decide +kernel
theorem dX11_cut_28 : decode cX11_cut 28 = .ok (.lload_n 0, 1) := by decide +kernel
theorem dX11_cut_29 : decode cX11_cut 29 = .ok (.l2i, 1) := by decide +kernel
theorem dX11_cut_30 : decode cX11_cut 30 = .ok (.i2l, 1) := by decide +kernel
theorem dX11_cut_31 : decode cX11_cut 31 = .ok (.goto 4, 3) := by decide +kernel
theorem dX11_cut_34 : decode cX11_cut 34 = .ok (.lload_n 0, 1) := by decide +kernel
theorem dX11_cut_35 : decode cX11_cut 35 = .ok (.lreturn, 1) := by decide +kernel
theorem dX11_numbers_0 : decode cX11_numbers 0 = .ok (.aload_n 0, 1) := by decide +kernel
theorem dX11_numbers_1 : decode cX11_numbers 1 = .ok (.iconst 0, 1) := by decide +kernel
theorem dX11_numbers_2 : decode cX11_numbers 2 = .ok (.putfield 1, 3) := by decide +kernel
theorem dX11_numbers_5 : decode cX11_numbers 5 = .ok (.iload_n 1, 1) := by decide +kernel
theorem dX11_numbers_6 : decode cX11_numbers 6 = .ok (.i2l, 1) := by decide +kernel
theorem dX11_numbers_7 : decode cX11_numbers 7 = .ok (.lconst 0, 1) := by decide +kernel
theorem dX11_numbers_8 : decode cX11_numbers 8 = .ok (.ldc2_w 334, 3) := by decide +kernel
theorem dX11_numbers_11 : decode cX11_numbers 11 = .ok (.invokestatic 150, 3) := by decide +kernel
theorem dX11_numbers_14 : decode cX11_numbers 14 = .ok (.ifCond .eq 15, 3) := by decide +kernel
theorem dX11_numbers_17 : decode cX11_numbers 17 = .ok (.iload_n 2, 1) := by decide +kernel
theorem dX11_numbers_18 : decode cX11_numbers 18 = .ok (.i2l, 1) := by decide +kernel
theorem dX11_numbers_19 : decode cX11_numbers 19 = .ok (.lconst 0, 1) := by decide +kernel
theorem dX11_numbers_20 : decode cX11_numbers 20 = .ok (.ldc2_w 334, 3) := by decide +kernel
theorem dX11_numbers_23 : decode cX11_numbers 23 = .ok (.invokestatic 150, 3) := by decide +kernel
theorem dX11_numbers_26 : decode cX11_numbers 26 = .ok (.ifCond .ne 6, 3) := by decide +kernel
theorem dX11_numbers_29 : decode cX11_numbers 29 = .ok (.bipush (-2), 2) := by decide +kernel
theorem dX11_numbers_31 : decode cX11_numbers 31 = .ok (.ireturn, 1) := by decide +kernel
theorem dX11_numbers_32 : decode cX11_numbers 32 = .ok (.iload_n 3, 1) := by decide +kernel
theorem dX11_numbers_33 : decode cX11_numbers 33 = .ok (.i2l, 1) := by decide +kernel
theorem dX11_numbers_34 : decode cX11_numbers 34 = .ok (.lconst 0, 1) := by decide +kernel
theorem dX11_numbers_35 : decode cX11_numbers 35 = .ok (.ldc2_w 321, 3) := by decide +kernel
theorem dX11_numbers_38 : decode cX11_numbers 38 = .ok (.invokestatic 150, 3) := by decide +kernel
theorem dX11_numbers_41 : decode cX11_numbers 41 = .ok (.ifCond .ne 6, 3) := by decide +kernel
theorem dX11_numbers_44 : decode cX11_numbers 44 = .ok (.bipush (-3), 2) := by decide +kernel
theorem dX11_numbers_46 : decode cX11_numbers 46 = .ok (.ireturn, 1) := by decide +kernel
theorem dX11_numbers_47 : decode cX11_numbers 47 = .ok (.aload_n 0, 1) := by decide +kernel
theorem dX11_numbers_48 : decode cX11_numbers 48 = .ok (.getfield 75, 3) := by decide +kernel
theorem dX11_numbers_51 : decode cX11_numbers 51 = .ok (.iload_n 1, 1) := by decide +kernel
theorem dX11_numbers_52 : decode cX11_numbers 52 = .ok (.iload_n 2, 1) := by decide +kernel
theorem dX11_numbers_53 : decode cX11_numbers 53 = .ok (.iastore, 1) := by decide +kernel
theorem dX11_numbers_54 : decode cX11_numbers 54 = .ok (.aload_n 0, 1) := by decide +kernel
theorem dX11_numbers_55 : decode cX11_numbers 55 = .ok (.getfield 78, 3) := by decide +kernel
theorem dX11_numbers_58 : decode cX11_numbers 58 = .ok (.iload_n 1, 1) := by decide +kernel
theorem dX11_numbers_59 : decode cX11_numbers 59 = .ok (.iload_n 3, 1) := by decide +kernel
theorem dX11_numbers_60 : decode cX11_numbers 60 = .ok (.iastore, 1) := by decide +kernel
theorem dX11_numbers_61 : decode cX11_numbers 61 = .ok (.iconst 0, 1) := by decide +kernel
theorem dX11_numbers_62 : decode cX11_numbers 62 = .ok (.istore 4, 2) := by decide +kernel
theorem dX11_numbers_64 : decode cX11_numbers 64 = .ok (.iload 4, 2) := by decide +kernel
theorem dX11_numbers_66 : decode cX11_numbers 66 = .ok (.iload_n 3, 1) := by decide +kernel
theorem dX11_numbers_67 : decode cX11_numbers 67 = .ok (.if_icmp .ge 22, 3) := by decide +kernel
theorem dX11_numbers_70 : decode cX11_numbers 70 = .ok (.aload_n 0, 1) := by decide +kernel
theorem dX11_numbers_71 : decode cX11_numbers 71 = .ok (.getfield 81, 3) := by decide +kernel
theorem dX11_numbers_74 : decode cX11_numbers 74 = .ok (.bipush 40, 2) := by decide +kernel
theorem dX11_numbers_76 : decode cX11_numbers 76 = .ok (.iload_n 1, 1) := by decide +kernel
theorem dX11_numbers_77 : decode cX11_numbers 77 = .ok (.imul, 1) := by decide +kernel
theorem dX11_numbers_78 : decode cX11_numbers 78 = .ok (.iload 4, 2) := by decide +kernel
theorem dX11_numbers_80 : decode cX11_numbers 80 = .ok (.iadd, 1) := by decide +kernel
theorem dX11_numbers_81 : decode cX11_numbers 81 = .ok (.lconst 0, 1) := by decide +kernel
theorem dX11_numbers_82 : decode cX11_numbers 82 = .ok (.lastore, 1) := by decide +kernel
theorem dX11_numbers_83 : decode cX11_numbers 83 = .ok (.iinc 4 1, 3) := by decide +kernel
theorem dX11_numbers_86 : decode cX11_numbers 86 = .ok (.goto (-22), 3) := by decide +kernel
theorem dX11_numbers_89 : decode cX11_numbers 89 = .ok (.iconst 0, 1) := by decide +kernel
theorem dX11_numbers_90 : decode cX11_numbers 90 = .ok (.ireturn, 1) := by decide +kernel
theorem dX11_write_0 : decode cX11_write 0 = .ok (.aload_n 0, 1) := by decide +kernel
theorem dX11_write_1 : decode cX11_write 1 = .ok (.iconst 0, 1) := by decide +kernel
theorem dX11_write_2 : decode cX11_write 2 = .ok (.putfield 1, 3) := by decide +kernel
theorem dX11_write_5 : decode cX11_write 5 = .ok (.aload_n 0, 1) := by decide +kernel
theorem dX11_write_6 : decode cX11_write 6 = .ok (.iload_n 1, 1) := by decide +kernel
theorem dX11_write_7 : decode cX11_write 7 = .ok (.invokevirtual 336, 3) := by decide +kernel
theorem dX11_write_10 : decode cX11_write 10 = .ok (.istore 5, 2) := by decide +kernel
theorem dX11_write_12 : decode cX11_write 12 = .ok (.iload 5, 2) := by decide +kernel
theorem dX11_write_14 : decode cX11_write 14 = .ok (.ifCond .eq 7, 3) := by decide +kernel
theorem dX11_write_17 : decode cX11_write 17 = .ok (.iload 5, 2) := by decide +kernel
theorem dX11_write_19 : decode cX11_write 19 = .ok (.i2l, 1) := by decide +kernel
theorem dX11_write_20 : decode cX11_write 20 = .ok (.lreturn, 1) := by decide +kernel
theorem dX11_write_21 : decode cX11_write 21 = .ok (.iload_n 2, 1) := by decide +kernel
theorem dX11_write_22 : decode cX11_write 22 = .ok (.i2l, 1) := by decide +kernel
theorem dX11_write_23 : decode cX11_write 23 = .ok (.lconst 0, 1) := by decide +kernel
theorem dX11_write_24 : decode cX11_write 24 = .ok (.aload_n 0, 1) := by decide +kernel
theorem dX11_write_25 : decode cX11_write 25 = .ok (.getfield 78, 3) := by decide +kernel
theorem dX11_write_28 : decode cX11_write 28 = .ok (.iload_n 1, 1) := by decide +kernel
theorem dX11_write_29 : decode cX11_write 29 = .ok (.iaload, 1) := by decide +kernel
theorem dX11_write_30 : decode cX11_write 30 = .ok (.iconst 1, 1) := by decide +kernel
theorem dX11_write_31 : decode cX11_write 31 = .ok (.isub, 1) := by decide +kernel
theorem dX11_write_32 : decode cX11_write 32 = .ok (.i2l, 1) := by decide +kernel
theorem dX11_write_33 : decode cX11_write 33 = .ok (.invokestatic 150, 3) := by decide +kernel
theorem dX11_write_36 : decode cX11_write 36 = .ok (.ifCond .ne 7, 3) := by decide +kernel
theorem dX11_write_39 : decode cX11_write 39 = .ok (.ldc2_w 485, 3) := by decide +kernel
theorem dX11_write_42 : decode cX11_write 42 = .ok (.lreturn, 1) := by decide +kernel
theorem dX11_write_43 : decode cX11_write 43 = .ok (.aload_n 0, 1) := by decide +kernel
theorem dX11_write_44 : decode cX11_write 44 = .ok (.getfield 81, 3) := by decide +kernel
theorem dX11_write_47 : decode cX11_write 47 = .ok (.bipush 40, 2) := by decide +kernel
theorem dX11_write_49 : decode cX11_write 49 = .ok (.iload_n 1, 1) := by decide +kernel
theorem dX11_write_50 : decode cX11_write 50 = .ok (.imul, 1) := by decide +kernel
theorem dX11_write_51 : decode cX11_write 51 = .ok (.iload_n 2, 1) := by decide +kernel
theorem dX11_write_52 : decode cX11_write 52 = .ok (.iadd, 1) := by decide +kernel
theorem dX11_write_53 : decode cX11_write 53 = .ok (.lload_n 3, 1) := by decide +kernel
theorem dX11_write_54 : decode cX11_write 54 = .ok (.aload_n 0, 1) := by decide +kernel
theorem dX11_write_55 : decode cX11_write 55 = .ok (.getfield 75, 3) := by decide +kernel
theorem dX11_write_58 : decode cX11_write 58 = .ok (.iload_n 1, 1) := by decide +kernel
theorem dX11_write_59 : decode cX11_write 59 = .ok (.iaload, 1) := by decide +kernel
theorem dX11_write_60 : decode cX11_write 60 = .ok (.invokestatic 487, 3) := by decide +kernel
theorem dX11_write_63 : decode cX11_write 63 = .ok (.lastore, 1) := by decide +kernel
theorem dX11_write_64 : decode cX11_write 64 = .ok (.aload_n 0, 1) := by decide +kernel
theorem dX11_write_65 : decode cX11_write 65 = .ok (.getfield 81, 3) := by decide +kernel
theorem dX11_write_68 : decode cX11_write 68 = .ok (.bipush 40, 2) := by decide +kernel
theorem dX11_write_70 : decode cX11_write 70 = .ok (.iload_n 1, 1) := by decide +kernel
theorem dX11_write_71 : decode cX11_write 71 = .ok (.imul, 1) := by decide +kernel
theorem dX11_write_72 : decode cX11_write 72 = .ok (.iload_n 2, 1) := by decide +kernel
theorem dX11_write_73 : decode cX11_write 73 = .ok (.iadd, 1) := by decide +kernel
theorem dX11_write_74 : decode cX11_write 74 = .ok (.laload, 1) := by decide +kernel
theorem dX11_write_75 : decode cX11_write 75 = .ok (.lreturn, 1) := by decide +kernel
theorem dX11_lists_0 : decode cX11_lists 0 = .ok (.aload_n 0, 1) := by decide +kernel
theorem dX11_lists_1 : decode cX11_lists 1 = .ok (.iconst 0, 1) := by decide +kernel
theorem dX11_lists_2 : decode cX11_lists 2 = .ok (.putfield 1, 3) := by decide +kernel
theorem dX11_lists_5 : decode cX11_lists 5 = .ok (.aload_n 0, 1) := by decide +kernel
theorem dX11_lists_6 : decode cX11_lists 6 = .ok (.iload_n 1, 1) := by decide +kernel
theorem dX11_lists_7 : decode cX11_lists 7 = .ok (.invokevirtual 336, 3) := by decide +kernel
theorem dX11_lists_10 : decode cX11_lists 10 = .ok (.istore_n 3, 1) := by decide +kernel
theorem dX11_lists_11 : decode cX11_lists 11 = .ok (.iload_n 3, 1) := by decide +kernel
theorem dX11_lists_12 : decode cX11_lists 12 = .ok (.ifCond .eq 5, 3) := by decide +kernel
theorem dX11_lists_15 : decode cX11_lists 15 = .ok (.iload_n 3, 1) := by decide +kernel
theorem dX11_lists_16 : decode cX11_lists 16 = .ok (.ireturn, 1) := by decide +kernel
theorem dX11_lists_17 : decode cX11_lists 17 = .ok (.aload_n 0, 1) := by decide +kernel
theorem dX11_lists_18 : decode cX11_lists 18 = .ok (.iload_n 2, 1) := by decide +kernel
theorem dX11_lists_19 : decode cX11_lists 19 = .ok (.invokevirtual 378, 3) := by decide +kernel
theorem dX11_lists_22 : decode cX11_lists 22 = .ok (.ifCond .ne 6, 3) := by decide +kernel
theorem dX11_lists_25 : decode cX11_lists 25 = .ok (.bipush (-3), 2) := by decide +kernel
theorem dX11_lists_27 : decode cX11_lists 27 = .ok (.ireturn, 1) := by decide +kernel
theorem dX11_lists_28 : decode cX11_lists 28 = .ok (.aload_n 0, 1) := by decide +kernel
theorem dX11_lists_29 : decode cX11_lists 29 = .ok (.iload_n 2, 1) := by decide +kernel
theorem dX11_lists_30 : decode cX11_lists 30 = .ok (.iconst 1, 1) := by decide +kernel
theorem dX11_lists_31 : decode cX11_lists 31 = .ok (.invokevirtual 381, 3) := by decide +kernel
theorem dX11_lists_34 : decode cX11_lists 34 = .ok (.istore 4, 2) := by decide +kernel
theorem dX11_lists_36 : decode cX11_lists 36 = .ok (.iload 4, 2) := by decide +kernel
theorem dX11_lists_38 : decode cX11_lists 38 = .ok (.ldc_w 364, 3) := by decide +kernel
theorem dX11_lists_41 : decode cX11_lists 41 = .ok (.if_icmp .ne 6, 3) := by decide +kernel
theorem dX11_lists_44 : decode cX11_lists 44 = .ok (.bipush (-5), 2) := by decide +kernel
theorem dX11_lists_46 : decode cX11_lists 46 = .ok (.ireturn, 1) := by decide +kernel
theorem dX11_lists_47 : decode cX11_lists 47 = .ok (.iload 4, 2) := by decide +kernel
theorem dX11_lists_49 : decode cX11_lists 49 = .ok (.aload_n 0, 1) := by decide +kernel
theorem dX11_lists_50 : decode cX11_lists 50 = .ok (.getfield 78, 3) := by decide +kernel
theorem dX11_lists_53 : decode cX11_lists 53 = .ok (.iload_n 1, 1) := by decide +kernel
theorem dX11_lists_54 : decode cX11_lists 54 = .ok (.iaload, 1) := by decide +kernel
theorem dX11_lists_55 : decode cX11_lists 55 = .ok (.if_icmp .ge 8, 3) := by decide +kernel
theorem dX11_lists_58 : decode cX11_lists 58 = .ok (.iload 4, 2) := by decide +kernel
theorem dX11_lists_60 : decode cX11_lists 60 = .ok (.goto 9, 3) := by decide +kernel
theorem dX11_lists_63 : decode cX11_lists 63 = .ok (.aload_n 0, 1) := by decide +kernel
theorem dX11_lists_64 : decode cX11_lists 64 = .ok (.getfield 78, 3) := by decide +kernel
theorem dX11_lists_67 : decode cX11_lists 67 = .ok (.iload_n 1, 1) := by decide +kernel
theorem dX11_lists_68 : decode cX11_lists 68 = .ok (.iaload, 1) := by decide +kernel
theorem dX11_lists_69 : decode cX11_lists 69 = .ok (.istore 5, 2) := by decide +kernel
theorem dX11_lists_71 : decode cX11_lists 71 = .ok (.iconst 0, 1) := by decide +kernel
theorem dX11_lists_72 : decode cX11_lists 72 = .ok (.istore 6, 2) := by decide +kernel
theorem dX11_lists_74 : decode cX11_lists 74 = .ok (.iload 6, 2) := by decide +kernel
theorem dX11_lists_76 : decode cX11_lists 76 = .ok (.iload 5, 2) := by decide +kernel
theorem dX11_lists_78 : decode cX11_lists 78 = .ok (.if_icmp .ge 28, 3) := by decide +kernel
theorem dX11_lists_81 : decode cX11_lists 81 = .ok (.aload_n 0, 1) := by decide +kernel
theorem dX11_lists_82 : decode cX11_lists 82 = .ok (.getfield 81, 3) := by decide +kernel
theorem dX11_lists_85 : decode cX11_lists 85 = .ok (.bipush 40, 2) := by decide +kernel
theorem dX11_lists_87 : decode cX11_lists 87 = .ok (.iload_n 1, 1) := by decide +kernel
theorem dX11_lists_88 : decode cX11_lists 88 = .ok (.imul, 1) := by decide +kernel
theorem dX11_lists_89 : decode cX11_lists 89 = .ok (.iload 6, 2) := by decide +kernel
theorem dX11_lists_91 : decode cX11_lists 91 = .ok (.iadd, 1) := by decide +kernel
theorem dX11_lists_92 : decode cX11_lists 92 = .ok (.aload_n 0, 1) := by decide +kernel
theorem dX11_lists_93 : decode cX11_lists 93 = .ok (.iload 6, 2) := by decide +kernel
theorem dX11_lists_95 : decode cX11_lists 95 = .ok (.invokevirtual 388, 3) := by decide +kernel
theorem dX11_lists_98 : decode cX11_lists 98 = .ok (.i2l, 1) := by decide +kernel
theorem dX11_lists_99 : decode cX11_lists 99 = .ok (.lastore, 1) := by decide +kernel
theorem dX11_lists_100 : decode cX11_lists 100 = .ok (.iinc 6 1, 3) := by decide +kernel
theorem dX11_lists_103 : decode cX11_lists 103 = .ok (.goto (-29), 3) := by decide +kernel
theorem dX11_lists_106 : decode cX11_lists 106 = .ok (.iload 5, 2) := by decide +kernel
theorem dX11_lists_108 : decode cX11_lists 108 = .ok (.ireturn, 1) := by decide +kernel
theorem dX11_image_0 : decode cX11_image 0 = .ok (.aload_n 0, 1) := by decide +kernel
theorem dX11_image_1 : decode cX11_image 1 = .ok (.iconst 0, 1) := by decide +kernel
theorem dX11_image_2 : decode cX11_image 2 = .ok (.putfield 1, 3) := by decide +kernel
theorem dX11_image_5 : decode cX11_image 5 = .ok (.iload_n 1, 1) := by decide +kernel
theorem dX11_image_6 : decode cX11_image 6 = .ok (.i2l, 1) := by decide +kernel
theorem dX11_image_7 : decode cX11_image 7 = .ok (.lconst 0, 1) := by decide +kernel
theorem dX11_image_8 : decode cX11_image 8 = .ok (.lconst 1, 1) := by decide +kernel
theorem dX11_image_9 : decode cX11_image 9 = .ok (.invokestatic 150, 3) := by decide +kernel
theorem dX11_image_12 : decode cX11_image 12 = .ok (.ifCond .ne 6, 3) := by decide +kernel
theorem dX11_image_15 : decode cX11_image 15 = .ok (.bipush (-2), 2) := by decide +kernel
theorem dX11_image_17 : decode cX11_image 17 = .ok (.ireturn, 1) := by decide +kernel
theorem dX11_image_18 : decode cX11_image 18 = .ok (.iconst 0, 1) := by decide +kernel
theorem dX11_image_19 : decode cX11_image 19 = .ok (.istore_n 2, 1) := by decide +kernel
theorem dX11_image_20 : decode cX11_image 20 = .ok (.iload_n 2, 1) := by decide +kernel
theorem dX11_image_21 : decode cX11_image 21 = .ok (.sipush 1075, 3) := by decide +kernel
theorem dX11_image_24 : decode cX11_image 24 = .ok (.if_icmp .ge 29, 3) := by decide +kernel
theorem dX11_image_27 : decode cX11_image 27 = .ok (.aload_n 0, 1) := by decide +kernel
theorem dX11_image_28 : decode cX11_image 28 = .ok (.getfield 13, 3) := by decide +kernel
theorem dX11_image_31 : decode cX11_image 31 = .ok (.sipush 1075, 3) := by decide +kernel
theorem dX11_image_34 : decode cX11_image 34 = .ok (.iload_n 1, 1) := by decide +kernel
theorem dX11_image_35 : decode cX11_image 35 = .ok (.iconst 1, 1) := by decide +kernel
theorem dX11_image_36 : decode cX11_image 36 = .ok (.iadd, 1) := by decide +kernel
theorem dX11_image_37 : decode cX11_image 37 = .ok (.imul, 1) := by decide +kernel
theorem dX11_image_38 : decode cX11_image 38 = .ok (.iload_n 2, 1) := by decide +kernel
theorem dX11_image_39 : decode cX11_image 39 = .ok (.iadd, 1) := by decide +kernel
theorem dX11_image_40 : decode cX11_image 40 = .ok (.aload_n 0, 1) := by decide +kernel
theorem dX11_image_41 : decode cX11_image 41 = .ok (.getfield 13, 3) := by decide +kernel
theorem dX11_image_44 : decode cX11_image 44 = .ok (.iload_n 2, 1) := by decide +kernel
theorem dX11_image_45 : decode cX11_image 45 = .ok (.iaload, 1) := by decide +kernel
theorem dX11_image_46 : decode cX11_image 46 = .ok (.iastore, 1) := by decide +kernel
theorem dX11_image_47 : decode cX11_image 47 = .ok (.iinc 2 1, 3) := by decide +kernel
theorem dX11_image_50 : decode cX11_image 50 = .ok (.goto (-30), 3) := by decide +kernel
theorem dX11_image_53 : decode cX11_image 53 = .ok (.aload_n 0, 1) := by decide +kernel
theorem dX11_image_54 : decode cX11_image 54 = .ok (.getfield 17, 3) := by decide +kernel
theorem dX11_image_57 : decode cX11_image 57 = .ok (.iload_n 1, 1) := by decide +kernel
theorem dX11_image_58 : decode cX11_image 58 = .ok (.iconst 1, 1) := by decide +kernel
theorem dX11_image_59 : decode cX11_image 59 = .ok (.bastore, 1) := by decide +kernel
theorem dX11_image_60 : decode cX11_image 60 = .ok (.iconst 0, 1) := by decide +kernel
theorem dX11_image_61 : decode cX11_image 61 = .ok (.ireturn, 1) := by decide +kernel
theorem dX11_restore_0 : decode cX11_restore 0 = .ok (.aload_n 0, 1) := by decide +kernel
theorem dX11_restore_1 : decode cX11_restore 1 = .ok (.iconst 0, 1) := by decide +kernel
theorem dX11_restore_2 : decode cX11_restore 2 = .ok (.putfield 1, 3) := by decide +kernel
theorem dX11_restore_5 : decode cX11_restore 5 = .ok (.iload_n 1, 1) := by decide +kernel
theorem dX11_restore_6 : decode cX11_restore 6 = .ok (.i2l, 1) := by decide +kernel
theorem dX11_restore_7 : decode cX11_restore 7 = .ok (.lconst 0, 1) := by decide +kernel
theorem dX11_restore_8 : decode cX11_restore 8 = .ok (.lconst 1, 1) := by decide +kernel
theorem dX11_restore_9 : decode cX11_restore 9 = .ok (.invokestatic 150, 3) := by decide +kernel
theorem dX11_restore_12 : decode cX11_restore 12 = .ok (.ifCond .ne 6, 3) := by decide +kernel
theorem dX11_restore_15 : decode cX11_restore 15 = .ok (.bipush (-2), 2) := by decide +kernel
theorem dX11_restore_17 : decode cX11_restore 17 = .ok (.ireturn, 1) := by decide +kernel
theorem dX11_restore_18 : decode cX11_restore 18 = .ok (.aload_n 0, 1) := by decide +kernel
theorem dX11_restore_19 : decode cX11_restore 19 = .ok (.getfield 17, 3) := by decide +kernel
theorem dX11_restore_22 : decode cX11_restore 22 = .ok (.iload_n 1, 1) := by decide +kernel
theorem dX11_restore_23 : decode cX11_restore 23 = .ok (.baload, 1) := by decide +kernel
theorem dX11_restore_24 : decode cX11_restore 24 = .ok (.ifCond .ne 6, 3) := by decide +kernel
theorem dX11_restore_27 : decode cX11_restore 27 = .ok (.bipush (-5), 2) := by decide +kernel
theorem dX11_restore_29 : decode cX11_restore 29 = .ok (.ireturn, 1) := by decide +kernel
theorem dX11_restore_30 : decode cX11_restore 30 = .ok (.iconst 0, 1) := by decide +kernel
theorem dX11_restore_31 : decode cX11_restore 31 = .ok (.istore_n 2, 1) := by decide +kernel
theorem dX11_restore_32 : decode cX11_restore 32 = .ok (.iload_n 2, 1) := by decide +kernel
theorem dX11_restore_33 : decode cX11_restore 33 = .ok (.sipush 1075, 3) := by decide +kernel
theorem dX11_restore_36 : decode cX11_restore 36 = .ok (.if_icmp .ge 29, 3) := by decide +kernel
theorem dX11_restore_39 : decode cX11_restore 39 = .ok (.aload_n 0, 1) := by decide +kernel
theorem dX11_restore_40 : decode cX11_restore 40 = .ok (.getfield 13, 3) := by decide +kernel
theorem dX11_restore_43 : decode cX11_restore 43 = .ok (.iload_n 2, 1) := by decide +kernel
theorem dX11_restore_44 : decode cX11_restore 44 = .ok (.aload_n 0, 1) := by decide +kernel
theorem dX11_restore_45 : decode cX11_restore 45 = .ok (.getfield 13, 3) := by decide +kernel
theorem dX11_restore_48 : decode cX11_restore 48 = .ok (.sipush 1075, 3) := by decide +kernel
theorem dX11_restore_51 : decode cX11_restore 51 = .ok (.iload_n 1, 1) := by decide +kernel
theorem dX11_restore_52 : decode cX11_restore 52 = .ok (.iconst 1, 1) := by decide +kernel
theorem dX11_restore_53 : decode cX11_restore 53 = .ok (.iadd, 1) := by decide +kernel
theorem dX11_restore_54 : decode cX11_restore 54 = .ok (.imul, 1) := by decide +kernel
theorem dX11_restore_55 : decode cX11_restore 55 = .ok (.iload_n 2, 1) := by decide +kernel
theorem dX11_restore_56 : decode cX11_restore 56 = .ok (.iadd, 1) := by decide +kernel
theorem dX11_restore_57 : decode cX11_restore 57 = .ok (.iaload, 1) := by decide +kernel
theorem dX11_restore_58 : decode cX11_restore 58 = .ok (.iastore, 1) := by decide +kernel
theorem dX11_restore_59 : decode cX11_restore 59 = .ok (.iinc 2 1, 3) := by decide +kernel
theorem dX11_restore_62 : decode cX11_restore 62 = .ok (.goto (-30), 3) := by decide +kernel
theorem dX11_restore_65 : decode cX11_restore 65 = .ok (.aload_n 0, 1) := by decide +kernel
theorem dX11_restore_66 : decode cX11_restore 66 = .ok (.getfield 13, 3) := by decide +kernel
theorem dX11_restore_69 : decode cX11_restore 69 = .ok (.bipush 83, 2) := by decide +kernel
theorem dX11_restore_71 : decode cX11_restore 71 = .ok (.iconst 0, 1) := by decide +kernel
theorem dX11_restore_72 : decode cX11_restore 72 = .ok (.iastore, 1) := by decide +kernel
theorem dX11_restore_73 : decode cX11_restore 73 = .ok (.iconst 0, 1) := by decide +kernel
theorem dX11_restore_74 : decode cX11_restore 74 = .ok (.ireturn, 1) := by decide +kernel
theorem dX11_count_0 : decode cX11_count 0 = .ok (.aload_n 0, 1) := by decide +kernel
theorem dX11_count_1 : decode cX11_count 1 = .ok (.iconst 0, 1) := by decide +kernel
theorem dX11_count_2 : decode cX11_count 2 = .ok (.putfield 1, 3) := by decide +kernel
theorem dX11_count_5 : decode cX11_count 5 = .ok (.iload_n 1, 1) := by decide +kernel
theorem dX11_count_6 : decode cX11_count 6 = .ok (.tableswitch 144 0 10 #[58, 65, 72, 79, 88, 97, 106, 116, 124, 132, 137], 58) := by decide +kernel
theorem dX11_count_64 : decode cX11_count 64 = .ok (.aload_n 0, 1) := by decide +kernel
theorem dX11_count_65 : decode cX11_count 65 = .ok (.getfield 13, 3) := by decide +kernel
theorem dX11_count_68 : decode cX11_count 68 = .ok (.iconst 1, 1) := by decide +kernel
theorem dX11_count_69 : decode cX11_count 69 = .ok (.iaload, 1) := by decide +kernel
theorem dX11_count_70 : decode cX11_count 70 = .ok (.ireturn, 1) := by decide +kernel
theorem dX11_count_71 : decode cX11_count 71 = .ok (.aload_n 0, 1) := by decide +kernel
theorem dX11_count_72 : decode cX11_count 72 = .ok (.getfield 13, 3) := by decide +kernel
theorem dX11_count_75 : decode cX11_count 75 = .ok (.iconst 2, 1) := by decide +kernel
theorem dX11_count_76 : decode cX11_count 76 = .ok (.iaload, 1) := by decide +kernel
theorem dX11_count_77 : decode cX11_count 77 = .ok (.ireturn, 1) := by decide +kernel
theorem dX11_count_78 : decode cX11_count 78 = .ok (.aload_n 0, 1) := by decide +kernel
theorem dX11_count_79 : decode cX11_count 79 = .ok (.getfield 13, 3) := by decide +kernel
theorem dX11_count_82 : decode cX11_count 82 = .ok (.iconst 3, 1) := by decide +kernel
theorem dX11_count_83 : decode cX11_count 83 = .ok (.iaload, 1) := by decide +kernel
theorem dX11_count_84 : decode cX11_count 84 = .ok (.ireturn, 1) := by decide +kernel
theorem dX11_count_85 : decode cX11_count 85 = .ok (.aload_n 0, 1) := by decide +kernel
theorem dX11_count_86 : decode cX11_count 86 = .ok (.aload_n 0, 1) := by decide +kernel
theorem dX11_count_87 : decode cX11_count 87 = .ok (.invokevirtual 270, 3) := by decide +kernel
theorem dX11_count_90 : decode cX11_count 90 = .ok (.invokevirtual 238, 3) := by decide +kernel
theorem dX11_count_93 : decode cX11_count 93 = .ok (.ireturn, 1) := by decide +kernel
theorem dX11_count_94 : decode cX11_count 94 = .ok (.aload_n 0, 1) := by decide +kernel
theorem dX11_count_95 : decode cX11_count 95 = .ok (.aload_n 0, 1) := by decide +kernel
theorem dX11_count_96 : decode cX11_count 96 = .ok (.invokevirtual 270, 3) := by decide +kernel
theorem dX11_count_99 : decode cX11_count 99 = .ok (.invokevirtual 245, 3) := by decide +kernel
theorem dX11_count_102 : decode cX11_count 102 = .ok (.ireturn, 1) := by decide +kernel
theorem dX11_count_103 : decode cX11_count 103 = .ok (.aload_n 0, 1) := by decide +kernel
theorem dX11_count_104 : decode cX11_count 104 = .ok (.aload_n 0, 1) := by decide +kernel
theorem dX11_count_105 : decode cX11_count 105 = .ok (.invokevirtual 270, 3) := by decide +kernel
theorem dX11_count_108 : decode cX11_count 108 = .ok (.invokevirtual 225, 3) := by decide +kernel
theorem dX11_count_111 : decode cX11_count 111 = .ok (.ireturn, 1) := by decide +kernel
theorem dX11_count_112 : decode cX11_count 112 = .ok (.aload_n 0, 1) := by decide +kernel
theorem dX11_count_113 : decode cX11_count 113 = .ok (.aload_n 0, 1) := by decide +kernel
theorem dX11_count_114 : decode cX11_count 114 = .ok (.invokevirtual 270, 3) := by decide +kernel
theorem dX11_count_117 : decode cX11_count 117 = .ok (.iconst 3, 1) := by decide +kernel
theorem dX11_count_118 : decode cX11_count 118 = .ok (.invokevirtual 218, 3) := by decide +kernel
theorem dX11_count_121 : decode cX11_count 121 = .ok (.ireturn, 1) := by decide +kernel
theorem dX11_count_122 : decode cX11_count 122 = .ok (.aload_n 0, 1) := by decide +kernel
theorem dX11_count_123 : decode cX11_count 123 = .ok (.getfield 13, 3) := by decide +kernel
theorem dX11_count_126 : decode cX11_count 126 = .ok (.bipush 82, 2) := by decide +kernel
theorem dX11_count_128 : decode cX11_count 128 = .ok (.iaload, 1) := by decide +kernel
theorem dX11_count_129 : decode cX11_count 129 = .ok (.ireturn, 1) := by decide +kernel
theorem dX11_count_130 : decode cX11_count 130 = .ok (.aload_n 0, 1) := by decide +kernel
theorem dX11_count_131 : decode cX11_count 131 = .ok (.getfield 13, 3) := by decide +kernel
theorem dX11_count_134 : decode cX11_count 134 = .ok (.bipush 83, 2) := by decide +kernel
theorem dX11_count_136 : decode cX11_count 136 = .ok (.iaload, 1) := by decide +kernel
theorem dX11_count_137 : decode cX11_count 137 = .ok (.ireturn, 1) := by decide +kernel
theorem dX11_count_138 : decode cX11_count 138 = .ok (.aload_n 0, 1) := by decide +kernel
theorem dX11_count_139 : decode cX11_count 139 = .ok (.getfield 88, 3) := by decide +kernel
theorem dX11_count_142 : decode cX11_count 142 = .ok (.ireturn, 1) := by decide +kernel
theorem dX11_count_143 : decode cX11_count 143 = .ok (.aload_n 0, 1) := by decide +kernel
theorem dX11_count_144 : decode cX11_count 144 = .ok (.getfield 13, 3) := by decide +kernel
theorem dX11_count_147 : decode cX11_count 147 = .ok (.iconst 0, 1) := by decide +kernel
theorem dX11_count_148 : decode cX11_count 148 = .ok (.iaload, 1) := by decide +kernel
theorem dX11_count_149 : decode cX11_count 149 = .ok (.ireturn, 1) := by decide +kernel
theorem dX11_count_150 : decode cX11_count 150 = .ok (.iconst (-1), 1) := by decide +kernel
theorem dX11_count_151 : decode cX11_count 151 = .ok (.ireturn, 1) := by decide +kernel
theorem dJ6_bitCount_0f7a4_0 : decode cJ6_bitCount_0f7a4 0 = .ok (.iload_n 0, 1) := by decide +kernel
theorem dJ6_bitCount_0f7a4_1 : decode cJ6_bitCount_0f7a4 1 = .ok (.iload_n 0, 1) := by decide +kernel
theorem dJ6_bitCount_0f7a4_2 : decode cJ6_bitCount_0f7a4 2 = .ok (.iconst 1, 1) := by decide +kernel
theorem dJ6_bitCount_0f7a4_3 : decode cJ6_bitCount_0f7a4 3 = .ok (.iushr, 1) := by decide +kernel
theorem dJ6_bitCount_0f7a4_4 : decode cJ6_bitCount_0f7a4 4 = .ok (.ldc_w 265, 3) := by decide +kernel
theorem dJ6_bitCount_0f7a4_7 : decode cJ6_bitCount_0f7a4 7 = .ok (.iand, 1) := by decide +kernel
theorem dJ6_bitCount_0f7a4_8 : decode cJ6_bitCount_0f7a4 8 = .ok (.isub, 1) := by decide +kernel
theorem dJ6_bitCount_0f7a4_9 : decode cJ6_bitCount_0f7a4 9 = .ok (.istore_n 0, 1) := by decide +kernel
theorem dJ6_bitCount_0f7a4_10 : decode cJ6_bitCount_0f7a4 10 = .ok (.iload_n 0, 1) := by decide +kernel
theorem dJ6_bitCount_0f7a4_11 : decode cJ6_bitCount_0f7a4 11 = .ok (.ldc_w 266, 3) := by decide +kernel
theorem dJ6_bitCount_0f7a4_14 : decode cJ6_bitCount_0f7a4 14 = .ok (.iand, 1) := by decide +kernel
theorem dJ6_bitCount_0f7a4_15 : decode cJ6_bitCount_0f7a4 15 = .ok (.iload_n 0, 1) := by decide +kernel
theorem dJ6_bitCount_0f7a4_16 : decode cJ6_bitCount_0f7a4 16 = .ok (.iconst 2, 1) := by decide +kernel
theorem dJ6_bitCount_0f7a4_17 : decode cJ6_bitCount_0f7a4 17 = .ok (.iushr, 1) := by decide +kernel
theorem dJ6_bitCount_0f7a4_18 : decode cJ6_bitCount_0f7a4 18 = .ok (.ldc_w 266, 3) := by decide +kernel
theorem dJ6_bitCount_0f7a4_21 : decode cJ6_bitCount_0f7a4 21 = .ok (.iand, 1) := by decide +kernel
theorem dJ6_bitCount_0f7a4_22 : decode cJ6_bitCount_0f7a4 22 = .ok (.iadd, 1) := by decide +kernel
theorem dJ6_bitCount_0f7a4_23 : decode cJ6_bitCount_0f7a4 23 = .ok (.istore_n 0, 1) := by decide +kernel
theorem dJ6_bitCount_0f7a4_24 : decode cJ6_bitCount_0f7a4 24 = .ok (.iload_n 0, 1) := by decide +kernel
theorem dJ6_bitCount_0f7a4_25 : decode cJ6_bitCount_0f7a4 25 = .ok (.iload_n 0, 1) := by decide +kernel
theorem dJ6_bitCount_0f7a4_26 : decode cJ6_bitCount_0f7a4 26 = .ok (.iconst 4, 1) := by decide +kernel
theorem dJ6_bitCount_0f7a4_27 : decode cJ6_bitCount_0f7a4 27 = .ok (.iushr, 1) := by decide +kernel
theorem dJ6_bitCount_0f7a4_28 : decode cJ6_bitCount_0f7a4 28 = .ok (.iadd, 1) := by decide +kernel
theorem dJ6_bitCount_0f7a4_29 : decode cJ6_bitCount_0f7a4 29 = .ok (.ldc_w 267, 3) := by decide +kernel
theorem dJ6_bitCount_0f7a4_32 : decode cJ6_bitCount_0f7a4 32 = .ok (.iand, 1) := by decide +kernel
theorem dJ6_bitCount_0f7a4_33 : decode cJ6_bitCount_0f7a4 33 = .ok (.istore_n 0, 1) := by decide +kernel
theorem dJ6_bitCount_0f7a4_34 : decode cJ6_bitCount_0f7a4 34 = .ok (.iload_n 0, 1) := by decide +kernel
theorem dJ6_bitCount_0f7a4_35 : decode cJ6_bitCount_0f7a4 35 = .ok (.iload_n 0, 1) := by decide +kernel
theorem dJ6_bitCount_0f7a4_36 : decode cJ6_bitCount_0f7a4 36 = .ok (.bipush 8, 2) := by decide +kernel
theorem dJ6_bitCount_0f7a4_38 : decode cJ6_bitCount_0f7a4 38 = .ok (.iushr, 1) := by decide +kernel
theorem dJ6_bitCount_0f7a4_39 : decode cJ6_bitCount_0f7a4 39 = .ok (.iadd, 1) := by decide +kernel
theorem dJ6_bitCount_0f7a4_40 : decode cJ6_bitCount_0f7a4 40 = .ok (.istore_n 0, 1) := by decide +kernel
theorem dJ6_bitCount_0f7a4_41 : decode cJ6_bitCount_0f7a4 41 = .ok (.iload_n 0, 1) := by decide +kernel
theorem dJ6_bitCount_0f7a4_42 : decode cJ6_bitCount_0f7a4 42 = .ok (.iload_n 0, 1) := by decide +kernel
theorem dJ6_bitCount_0f7a4_43 : decode cJ6_bitCount_0f7a4 43 = .ok (.bipush 16, 2) := by decide +kernel
theorem dJ6_bitCount_0f7a4_45 : decode cJ6_bitCount_0f7a4 45 = .ok (.iushr, 1) := by decide +kernel
theorem dJ6_bitCount_0f7a4_46 : decode cJ6_bitCount_0f7a4 46 = .ok (.iadd, 1) := by decide +kernel
theorem dJ6_bitCount_0f7a4_47 : decode cJ6_bitCount_0f7a4 47 = .ok (.istore_n 0, 1) := by decide +kernel
theorem dJ6_bitCount_0f7a4_48 : decode cJ6_bitCount_0f7a4 48 = .ok (.iload_n 0, 1) := by decide +kernel
theorem dJ6_bitCount_0f7a4_49 : decode cJ6_bitCount_0f7a4 49 = .ok (.bipush 63, 2) := by decide +kernel
theorem dJ6_bitCount_0f7a4_51 : decode cJ6_bitCount_0f7a4 51 = .ok (.iand, 1) := by decide +kernel
theorem dJ6_bitCount_0f7a4_52 : decode cJ6_bitCount_0f7a4 52 = .ok (.ireturn, 1) := by decide +kernel
theorem dJ7_fill_d0a16_0 : decode cJ7_fill_d0a16 0 = .ok (.iconst 0, 1) := by decide +kernel
theorem dJ7_fill_d0a16_1 : decode cJ7_fill_d0a16 1 = .ok (.istore_n 3, 1) := by decide +kernel
theorem dJ7_fill_d0a16_2 : decode cJ7_fill_d0a16 2 = .ok (.aload_n 0, 1) := by decide +kernel
theorem dJ7_fill_d0a16_3 : decode cJ7_fill_d0a16 3 = .ok (.arraylength, 1) := by decide +kernel
theorem dJ7_fill_d0a16_4 : decode cJ7_fill_d0a16 4 = .ok (.istore 4, 2) := by decide +kernel
theorem dJ7_fill_d0a16_6 : decode cJ7_fill_d0a16 6 = .ok (.iload_n 3, 1) := by decide +kernel
theorem dJ7_fill_d0a16_7 : decode cJ7_fill_d0a16 7 = .ok (.iload 4, 2) := by decide +kernel
theorem dJ7_fill_d0a16_9 : decode cJ7_fill_d0a16 9 = .ok (.if_icmp .ge 13, 3) := by decide +kernel
theorem dJ7_fill_d0a16_12 : decode cJ7_fill_d0a16 12 = .ok (.aload_n 0, 1) := by decide +kernel
theorem dJ7_fill_d0a16_13 : decode cJ7_fill_d0a16 13 = .ok (.iload_n 3, 1) := by decide +kernel
theorem dJ7_fill_d0a16_14 : decode cJ7_fill_d0a16 14 = .ok (.lload_n 1, 1) := by decide +kernel
theorem dJ7_fill_d0a16_15 : decode cJ7_fill_d0a16 15 = .ok (.lastore, 1) := by decide +kernel
theorem dJ7_fill_d0a16_16 : decode cJ7_fill_d0a16 16 = .ok (.iinc 3 1, 3) := by decide +kernel
theorem dJ7_fill_d0a16_19 : decode cJ7_fill_d0a16 19 = .ok (.goto (-13), 3) := by decide +kernel
theorem dJ7_fill_d0a16_22 : decode cJ7_fill_d0a16 22 = .ok (.return_, 1) := by decide +kernel
theorem dJ7_fill_53178_0 : decode cJ7_fill_53178 0 = .ok (.iconst 0, 1) := by decide +kernel
theorem dJ7_fill_53178_1 : decode cJ7_fill_53178 1 = .ok (.istore_n 2, 1) := by decide +kernel
theorem dJ7_fill_53178_2 : decode cJ7_fill_53178 2 = .ok (.aload_n 0, 1) := by decide +kernel
theorem dJ7_fill_53178_3 : decode cJ7_fill_53178 3 = .ok (.arraylength, 1) := by decide +kernel
theorem dJ7_fill_53178_4 : decode cJ7_fill_53178 4 = .ok (.istore_n 3, 1) := by decide +kernel
theorem dJ7_fill_53178_5 : decode cJ7_fill_53178 5 = .ok (.iload_n 2, 1) := by decide +kernel
theorem dJ7_fill_53178_6 : decode cJ7_fill_53178 6 = .ok (.iload_n 3, 1) := by decide +kernel
theorem dJ7_fill_53178_7 : decode cJ7_fill_53178 7 = .ok (.if_icmp .ge 13, 3) := by decide +kernel
theorem dJ7_fill_53178_10 : decode cJ7_fill_53178 10 = .ok (.aload_n 0, 1) := by decide +kernel
theorem dJ7_fill_53178_11 : decode cJ7_fill_53178 11 = .ok (.iload_n 2, 1) := by decide +kernel
theorem dJ7_fill_53178_12 : decode cJ7_fill_53178 12 = .ok (.iload_n 1, 1) := by decide +kernel
theorem dJ7_fill_53178_13 : decode cJ7_fill_53178 13 = .ok (.iastore, 1) := by decide +kernel
theorem dJ7_fill_53178_14 : decode cJ7_fill_53178 14 = .ok (.iinc 2 1, 3) := by decide +kernel
theorem dJ7_fill_53178_17 : decode cJ7_fill_53178 17 = .ok (.goto (-12), 3) := by decide +kernel
theorem dJ7_fill_53178_20 : decode cJ7_fill_53178 20 = .ok (.return_, 1) := by decide +kernel
theorem dJ7_fill_031fb_0 : decode cJ7_fill_031fb 0 = .ok (.iconst 0, 1) := by decide +kernel
theorem dJ7_fill_031fb_1 : decode cJ7_fill_031fb 1 = .ok (.istore_n 2, 1) := by decide +kernel
theorem dJ7_fill_031fb_2 : decode cJ7_fill_031fb 2 = .ok (.aload_n 0, 1) := by decide +kernel
theorem dJ7_fill_031fb_3 : decode cJ7_fill_031fb 3 = .ok (.arraylength, 1) := by decide +kernel
theorem dJ7_fill_031fb_4 : decode cJ7_fill_031fb 4 = .ok (.istore_n 3, 1) := by decide +kernel
theorem dJ7_fill_031fb_5 : decode cJ7_fill_031fb 5 = .ok (.iload_n 2, 1) := by decide +kernel
theorem dJ7_fill_031fb_6 : decode cJ7_fill_031fb 6 = .ok (.iload_n 3, 1) := by decide +kernel
theorem dJ7_fill_031fb_7 : decode cJ7_fill_031fb 7 = .ok (.if_icmp .ge 13, 3) := by decide +kernel
theorem dJ7_fill_031fb_10 : decode cJ7_fill_031fb 10 = .ok (.aload_n 0, 1) := by decide +kernel
theorem dJ7_fill_031fb_11 : decode cJ7_fill_031fb 11 = .ok (.iload_n 2, 1) := by decide +kernel
theorem dJ7_fill_031fb_12 : decode cJ7_fill_031fb 12 = .ok (.iload_n 1, 1) := by decide +kernel
theorem dJ7_fill_031fb_13 : decode cJ7_fill_031fb 13 = .ok (.bastore, 1) := by decide +kernel
theorem dJ7_fill_031fb_14 : decode cJ7_fill_031fb 14 = .ok (.iinc 2 1, 3) := by decide +kernel
theorem dJ7_fill_031fb_17 : decode cJ7_fill_031fb 17 = .ok (.goto (-12), 3) := by decide +kernel
theorem dJ7_fill_031fb_20 : decode cJ7_fill_031fb 20 = .ok (.return_, 1) := by decide +kernel
