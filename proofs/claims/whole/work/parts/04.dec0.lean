theorem dX0_init_0 : decode cX0_init 0 = .ok (.aload_n 0, 1) := by decide +kernel
theorem dX0_init_1 : decode cX0_init 1 = .ok (.invokespecial 3, 3) := by decide +kernel
theorem dX0_init_4 : decode cX0_init 4 = .ok (.aload_n 0, 1) := by decide +kernel
theorem dX0_init_5 : decode cX0_init 5 = .ok (.bipush 120, 2) := by decide +kernel
theorem dX0_init_7 : decode cX0_init 7 = .ok (.newarray .int, 2) := by decide +kernel
theorem dX0_init_9 : decode cX0_init 9 = .ok (.putfield 9, 3) := by decide +kernel
theorem dX0_init_12 : decode cX0_init 12 = .ok (.aload_n 0, 1) := by decide +kernel
theorem dX0_init_13 : decode cX0_init 13 = .ok (.bipush 120, 2) := by decide +kernel
theorem dX0_init_15 : decode cX0_init 15 = .ok (.newarray .int, 2) := by decide +kernel
theorem dX0_init_17 : decode cX0_init 17 = .ok (.putfield 15, 3) := by decide +kernel
theorem dX0_init_20 : decode cX0_init 20 = .ok (.aload_n 0, 1) := by decide +kernel
theorem dX0_init_21 : decode cX0_init 21 = .ok (.aload_n 1, 1) := by decide +kernel
theorem dX0_init_22 : decode cX0_init 22 = .ok (.putfield 18, 3) := by decide +kernel
theorem dX0_init_25 : decode cX0_init 25 = .ok (.aload_n 0, 1) := by decide +kernel
theorem dX0_init_26 : decode cX0_init 26 = .ok (.aload_n 2, 1) := by decide +kernel
theorem dX0_init_27 : decode cX0_init 27 = .ok (.putfield 22, 3) := by decide +kernel
theorem dX0_init_30 : decode cX0_init 30 = .ok (.return_, 1) := by decide +kernel
theorem dX0_choose_0 : decode cX0_choose 0 = .ok (.aload_n 0, 1) := by decide +kernel
theorem dX0_choose_1 : decode cX0_choose 1 = .ok (.invokevirtual 26, 3) := by decide +kernel
theorem dX0_choose_4 : decode cX0_choose 4 = .ok (.iload_n 1, 1) := by decide +kernel
theorem dX0_choose_5 : decode cX0_choose 5 = .ok (.ifCond .ne 8, 3) := by decide +kernel
theorem dX0_choose_8 : decode cX0_choose 8 = .ok (.bipush 120, 2) := by decide +kernel
theorem dX0_choose_10 : decode cX0_choose 10 = .ok (.goto 13, 3) := by decide +kernel
theorem dX0_choose_13 : decode cX0_choose 13 = .ok (.iload_n 1, 1) := by decide +kernel
theorem dX0_choose_14 : decode cX0_choose 14 = .ok (.iconst 1, 1) := by decide +kernel
theorem dX0_choose_15 : decode cX0_choose 15 = .ok (.if_icmp .ne 7, 3) := by decide +kernel
theorem dX0_choose_18 : decode cX0_choose 18 = .ok (.iconst 0, 1) := by decide +kernel
theorem dX0_choose_19 : decode cX0_choose 19 = .ok (.goto 4, 3) := by decide +kernel
theorem dX0_choose_22 : decode cX0_choose 22 = .ok (.iconst 1, 1) := by decide +kernel
theorem dX0_choose_23 : decode cX0_choose 23 = .ok (.istore_n 2, 1) := by decide +kernel
theorem dX0_choose_24 : decode cX0_choose 24 = .ok (.iconst 0, 1) := by decide +kernel
theorem dX0_choose_25 : decode cX0_choose 25 = .ok (.istore_n 3, 1) := by decide +kernel
theorem dX0_choose_26 : decode cX0_choose 26 = .ok (.aload_n 0, 1) := by decide +kernel
theorem dX0_choose_27 : decode cX0_choose 27 = .ok (.iconst 0, 1) := by decide +kernel
theorem dX0_choose_28 : decode cX0_choose 28 = .ok (.putfield 29, 3) := by decide +kernel
theorem dX0_choose_31 : decode cX0_choose 31 = .ok (.iconst 0, 1) := by decide +kernel
theorem dX0_choose_32 : decode cX0_choose 32 = .ok (.istore 4, 2) := by decide +kernel
theorem dX0_choose_34 : decode cX0_choose 34 = .ok (.iload 4, 2) := by decide +kernel
theorem dX0_choose_36 : decode cX0_choose 36 = .ok (.aload_n 0, 1) := by decide +kernel
theorem dX0_choose_37 : decode cX0_choose 37 = .ok (.getfield 18, 3) := by decide +kernel
theorem dX0_choose_40 : decode cX0_choose 40 = .ok (.getfield 33, 3) := by decide +kernel
theorem dX0_choose_43 : decode cX0_choose 43 = .ok (.if_icmp .ge 70, 3) := by decide +kernel
theorem dX0_choose_46 : decode cX0_choose 46 = .ok (.iload 4, 2) := by decide +kernel
theorem dX0_choose_48 : decode cX0_choose 48 = .ok (.iload_n 3, 1) := by decide +kernel
theorem dX0_choose_49 : decode cX0_choose 49 = .ok (.if_icmp .lt 58, 3) := by decide +kernel
theorem dX0_choose_52 : decode cX0_choose 52 = .ok (.aload_n 0, 1) := by decide +kernel
theorem dX0_choose_53 : decode cX0_choose 53 = .ok (.getfield 22, 3) := by decide +kernel
theorem dX0_choose_56 : decode cX0_choose 56 = .ok (.getfield 38, 3) := by decide +kernel
theorem dX0_choose_59 : decode cX0_choose 59 = .ok (.iload 4, 2) := by decide +kernel
theorem dX0_choose_61 : decode cX0_choose 61 = .ok (.baload, 1) := by decide +kernel
theorem dX0_choose_62 : decode cX0_choose 62 = .ok (.ifCond .eq 45, 3) := by decide +kernel
theorem dX0_choose_65 : decode cX0_choose 65 = .ok (.aload_n 0, 1) := by decide +kernel
theorem dX0_choose_66 : decode cX0_choose 66 = .ok (.getfield 15, 3) := by decide +kernel
theorem dX0_choose_69 : decode cX0_choose 69 = .ok (.iload 4, 2) := by decide +kernel
theorem dX0_choose_71 : decode cX0_choose 71 = .ok (.iaload, 1) := by decide +kernel
theorem dX0_choose_72 : decode cX0_choose 72 = .ok (.iload_n 2, 1) := by decide +kernel
theorem dX0_choose_73 : decode cX0_choose 73 = .ok (.if_icmp .gt 34, 3) := by decide +kernel
theorem dX0_choose_76 : decode cX0_choose 76 = .ok (.aload_n 0, 1) := by decide +kernel
theorem dX0_choose_77 : decode cX0_choose 77 = .ok (.getfield 9, 3) := by decide +kernel
theorem dX0_choose_80 : decode cX0_choose 80 = .ok (.aload_n 0, 1) := by decide +kernel
theorem dX0_choose_81 : decode cX0_choose 81 = .ok (.getfield 29, 3) := by decide +kernel
theorem dX0_choose_84 : decode cX0_choose 84 = .ok (.iload 4, 2) := by decide +kernel
theorem dX0_choose_86 : decode cX0_choose 86 = .ok (.iastore, 1) := by decide +kernel
theorem dX0_choose_87 : decode cX0_choose 87 = .ok (.aload_n 0, 1) := by decide +kernel
theorem dX0_choose_88 : decode cX0_choose 88 = .ok (.dup, 1) := by decide +kernel
theorem dX0_choose_89 : decode cX0_choose 89 = .ok (.getfield 29, 3) := by decide +kernel
theorem dX0_choose_92 : decode cX0_choose 92 = .ok (.iconst 1, 1) := by decide +kernel
theorem dX0_choose_93 : decode cX0_choose 93 = .ok (.iadd, 1) := by decide +kernel
theorem dX0_choose_94 : decode cX0_choose 94 = .ok (.putfield 29, 3) := by decide +kernel
theorem dX0_choose_97 : decode cX0_choose 97 = .ok (.aload_n 0, 1) := by decide +kernel
theorem dX0_choose_98 : decode cX0_choose 98 = .ok (.getfield 18, 3) := by decide +kernel
theorem dX0_choose_101 : decode cX0_choose 101 = .ok (.iload 4, 2) := by decide +kernel
theorem dX0_choose_103 : decode cX0_choose 103 = .ok (.invokevirtual 44, 3) := by decide +kernel
theorem dX0_choose_106 : decode cX0_choose 106 = .ok (.istore_n 3, 1) := by decide +kernel
theorem dX0_choose_107 : decode cX0_choose 107 = .ok (.iinc 4 1, 3) := by decide +kernel
theorem dX0_choose_110 : decode cX0_choose 110 = .ok (.goto (-76), 3) := by decide +kernel
theorem dX0_choose_113 : decode cX0_choose 113 = .ok (.return_, 1) := by decide +kernel
theorem dX0_countWithin_0 : decode cX0_countWithin 0 = .ok (.iconst 0, 1) := by decide +kernel
theorem dX0_countWithin_1 : decode cX0_countWithin 1 = .ok (.istore_n 1, 1) := by decide +kernel
theorem dX0_countWithin_2 : decode cX0_countWithin 2 = .ok (.iload_n 1, 1) := by decide +kernel
theorem dX0_countWithin_3 : decode cX0_countWithin 3 = .ok (.aload_n 0, 1) := by decide +kernel
theorem dX0_countWithin_4 : decode cX0_countWithin 4 = .ok (.getfield 18, 3) := by decide +kernel
theorem dX0_countWithin_7 : decode cX0_countWithin 7 = .ok (.getfield 33, 3) := by decide +kernel
theorem dX0_countWithin_10 : decode cX0_countWithin 10 = .ok (.if_icmp .ge 16, 3) := by decide +kernel
theorem dX0_countWithin_13 : decode cX0_countWithin 13 = .ok (.aload_n 0, 1) := by decide +kernel
theorem dX0_countWithin_14 : decode cX0_countWithin 14 = .ok (.getfield 15, 3) := by decide +kernel
theorem dX0_countWithin_17 : decode cX0_countWithin 17 = .ok (.iload_n 1, 1) := by decide +kernel
theorem dX0_countWithin_18 : decode cX0_countWithin 18 = .ok (.iconst 0, 1) := by decide +kernel
theorem dX0_countWithin_19 : decode cX0_countWithin 19 = .ok (.iastore, 1) := by decide +kernel
theorem dX0_countWithin_20 : decode cX0_countWithin 20 = .ok (.iinc 1 1, 3) := by decide +kernel
theorem dX0_countWithin_23 : decode cX0_countWithin 23 = .ok (.goto (-21), 3) := by decide +kernel
theorem dX0_countWithin_26 : decode cX0_countWithin 26 = .ok (.aload_n 0, 1) := by decide +kernel
theorem dX0_countWithin_27 : decode cX0_countWithin 27 = .ok (.getfield 18, 3) := by decide +kernel
theorem dX0_countWithin_30 : decode cX0_countWithin 30 = .ok (.getfield 33, 3) := by decide +kernel
theorem dX0_countWithin_33 : decode cX0_countWithin 33 = .ok (.iconst 1, 1) := by decide +kernel
theorem dX0_countWithin_34 : decode cX0_countWithin 34 = .ok (.isub, 1) := by decide +kernel
theorem dX0_countWithin_35 : decode cX0_countWithin 35 = .ok (.istore_n 1, 1) := by decide +kernel
theorem dX0_countWithin_36 : decode cX0_countWithin 36 = .ok (.iload_n 1, 1) := by decide +kernel
theorem dX0_countWithin_37 : decode cX0_countWithin 37 = .ok (.ifCond .le 63, 3) := by decide +kernel
theorem dX0_countWithin_40 : decode cX0_countWithin 40 = .ok (.aload_n 0, 1) := by decide +kernel
theorem dX0_countWithin_41 : decode cX0_countWithin 41 = .ok (.getfield 18, 3) := by decide +kernel
theorem dX0_countWithin_44 : decode cX0_countWithin 44 = .ok (.getfield 48, 3) := by decide +kernel
theorem dX0_countWithin_47 : decode cX0_countWithin 47 = .ok (.iload_n 1, 1) := by decide +kernel
theorem dX0_countWithin_48 : decode cX0_countWithin 48 = .ok (.iaload, 1) := by decide +kernel
theorem dX0_countWithin_49 : decode cX0_countWithin 49 = .ok (.istore_n 2, 1) := by decide +kernel
theorem dX0_countWithin_50 : decode cX0_countWithin 50 = .ok (.iload_n 2, 1) := by decide +kernel
theorem dX0_countWithin_51 : decode cX0_countWithin 51 = .ok (.ifCond .lt 43, 3) := by decide +kernel
theorem dX0_countWithin_54 : decode cX0_countWithin 54 = .ok (.aload_n 0, 1) := by decide +kernel
theorem dX0_countWithin_55 : decode cX0_countWithin 55 = .ok (.getfield 15, 3) := by decide +kernel
theorem dX0_countWithin_58 : decode cX0_countWithin 58 = .ok (.iload_n 2, 1) := by decide +kernel
theorem dX0_countWithin_59 : decode cX0_countWithin 59 = .ok (.dup2, 1) := by decide +kernel
theorem dX0_countWithin_60 : decode cX0_countWithin 60 = .ok (.iaload, 1) := by decide +kernel
theorem dX0_countWithin_61 : decode cX0_countWithin 61 = .ok (.aload_n 0, 1) := by decide +kernel
theorem dX0_countWithin_62 : decode cX0_countWithin 62 = .ok (.getfield 22, 3) := by decide +kernel
theorem dX0_countWithin_65 : decode cX0_countWithin 65 = .ok (.getfield 38, 3) := by decide +kernel
theorem dX0_countWithin_68 : decode cX0_countWithin 68 = .ok (.iload_n 1, 1) := by decide +kernel
theorem dX0_countWithin_69 : decode cX0_countWithin 69 = .ok (.baload, 1) := by decide +kernel
theorem dX0_countWithin_70 : decode cX0_countWithin 70 = .ok (.ifCond .eq 16, 3) := by decide +kernel
theorem dX0_countWithin_73 : decode cX0_countWithin 73 = .ok (.aload_n 0, 1) := by decide +kernel
theorem dX0_countWithin_74 : decode cX0_countWithin 74 = .ok (.getfield 15, 3) := by decide +kernel
theorem dX0_countWithin_77 : decode cX0_countWithin 77 = .ok (.iload_n 1, 1) := by decide +kernel
theorem dX0_countWithin_78 : decode cX0_countWithin 78 = .ok (.iaload, 1) := by decide +kernel
theorem dX0_countWithin_79 : decode cX0_countWithin 79 = .ok (.ifCond .ne 7, 3) := by decide +kernel
theorem dX0_countWithin_82 : decode cX0_countWithin 82 = .ok (.iconst 1, 1) := by decide +kernel
theorem dX0_countWithin_83 : decode cX0_countWithin 83 = .ok (.goto 9, 3) := by decide +kernel
theorem dX0_countWithin_86 : decode cX0_countWithin 86 = .ok (.aload_n 0, 1) := by decide +kernel
theorem dX0_countWithin_87 : decode cX0_countWithin 87 = .ok (.getfield 15, 3) := by decide +kernel
theorem dX0_countWithin_90 : decode cX0_countWithin 90 = .ok (.iload_n 1, 1) := by decide +kernel
theorem dX0_countWithin_91 : decode cX0_countWithin 91 = .ok (.iaload, 1) := by decide +kernel
theorem dX0_countWithin_92 : decode cX0_countWithin 92 = .ok (.iadd, 1) := by decide +kernel
theorem dX0_countWithin_93 : decode cX0_countWithin 93 = .ok (.iastore, 1) := by decide +kernel
theorem dX0_countWithin_94 : decode cX0_countWithin 94 = .ok (.iinc 1 (-1), 3) := by decide +kernel
theorem dX0_countWithin_97 : decode cX0_countWithin 97 = .ok (.goto (-61), 3) := by decide +kernel
theorem dX0_countWithin_100 : decode cX0_countWithin 100 = .ok (.return_, 1) := by decide +kernel
theorem dX1_init_0 : decode cX1_init 0 = .ok (.aload_n 0, 1) := by decide +kernel
theorem dX1_init_1 : decode cX1_init 1 = .ok (.invokespecial 3, 3) := by decide +kernel
theorem dX1_init_4 : decode cX1_init 4 = .ok (.aload_n 0, 1) := by decide +kernel
theorem dX1_init_5 : decode cX1_init 5 = .ok (.bipush 120, 2) := by decide +kernel
theorem dX1_init_7 : decode cX1_init 7 = .ok (.newarray .int, 2) := by decide +kernel
theorem dX1_init_9 : decode cX1_init 9 = .ok (.putfield 9, 3) := by decide +kernel
theorem dX1_init_12 : decode cX1_init 12 = .ok (.aload_n 0, 1) := by decide +kernel
theorem dX1_init_13 : decode cX1_init 13 = .ok (.bipush 120, 2) := by decide +kernel
theorem dX1_init_15 : decode cX1_init 15 = .ok (.newarray .int, 2) := by decide +kernel
theorem dX1_init_17 : decode cX1_init 17 = .ok (.putfield 15, 3) := by decide +kernel
theorem dX1_init_20 : decode cX1_init 20 = .ok (.aload_n 0, 1) := by decide +kernel
theorem dX1_init_21 : decode cX1_init 21 = .ok (.bipush 120, 2) := by decide +kernel
theorem dX1_init_23 : decode cX1_init 23 = .ok (.newarray .int, 2) := by decide +kernel
theorem dX1_init_25 : decode cX1_init 25 = .ok (.putfield 18, 3) := by decide +kernel
theorem dX1_init_28 : decode cX1_init 28 = .ok (.aload_n 0, 1) := by decide +kernel
theorem dX1_init_29 : decode cX1_init 29 = .ok (.bipush 120, 2) := by decide +kernel
theorem dX1_init_31 : decode cX1_init 31 = .ok (.newarray .int, 2) := by decide +kernel
theorem dX1_init_33 : decode cX1_init 33 = .ok (.putfield 21, 3) := by decide +kernel
theorem dX1_init_36 : decode cX1_init 36 = .ok (.aload_n 0, 1) := by decide +kernel
theorem dX1_init_37 : decode cX1_init 37 = .ok (.bipush 120, 2) := by decide +kernel
theorem dX1_init_39 : decode cX1_init 39 = .ok (.newarray .int, 2) := by decide +kernel
theorem dX1_init_41 : decode cX1_init 41 = .ok (.putfield 24, 3) := by decide +kernel
theorem dX1_init_44 : decode cX1_init 44 = .ok (.aload_n 0, 1) := by decide +kernel
theorem dX1_init_45 : decode cX1_init 45 = .ok (.bipush 26, 2) := by decide +kernel
theorem dX1_init_47 : decode cX1_init 47 = .ok (.newarray .int, 2) := by decide +kernel
theorem dX1_init_49 : decode cX1_init 49 = .ok (.putfield 27, 3) := by decide +kernel
theorem dX1_init_52 : decode cX1_init 52 = .ok (.aload_n 0, 1) := by decide +kernel
theorem dX1_init_53 : decode cX1_init 53 = .ok (.bipush 120, 2) := by decide +kernel
theorem dX1_init_55 : decode cX1_init 55 = .ok (.newarray .int, 2) := by decide +kernel
theorem dX1_init_57 : decode cX1_init 57 = .ok (.putfield 30, 3) := by decide +kernel
theorem dX1_init_60 : decode cX1_init 60 = .ok (.aload_n 0, 1) := by decide +kernel
theorem dX1_init_61 : decode cX1_init 61 = .ok (.bipush 120, 2) := by decide +kernel
theorem dX1_init_63 : decode cX1_init 63 = .ok (.newarray .boolean, 2) := by decide +kernel
theorem dX1_init_65 : decode cX1_init 65 = .ok (.putfield 33, 3) := by decide +kernel
theorem dX1_init_68 : decode cX1_init 68 = .ok (.aload_n 0, 1) := by decide +kernel
theorem dX1_init_69 : decode cX1_init 69 = .ok (.aload_n 1, 1) := by decide +kernel
theorem dX1_init_70 : decode cX1_init 70 = .ok (.putfield 37, 3) := by decide +kernel
theorem dX1_init_73 : decode cX1_init 73 = .ok (.aload_n 0, 1) := by decide +kernel
theorem dX1_init_74 : decode cX1_init 74 = .ok (.aload_n 2, 1) := by decide +kernel
theorem dX1_init_75 : decode cX1_init 75 = .ok (.putfield 41, 3) := by decide +kernel
theorem dX1_init_78 : decode cX1_init 78 = .ok (.return_, 1) := by decide +kernel
theorem dX1_forgetMatched_0 : decode cX1_forgetMatched 0 = .ok (.aload_n 0, 1) := by decide +kernel
theorem dX1_forgetMatched_1 : decode cX1_forgetMatched 1 = .ok (.iconst 0, 1) := by decide +kernel
theorem dX1_forgetMatched_2 : decode cX1_forgetMatched 2 = .ok (.putfield 44, 3) := by decide +kernel
theorem dX1_forgetMatched_5 : decode cX1_forgetMatched 5 = .ok (.return_, 1) := by decide +kernel
theorem dX1_forgetDifferences_0 : decode cX1_forgetDifferences 0 = .ok (.iconst 0, 1) := by decide +kernel
theorem dX1_forgetDifferences_1 : decode cX1_forgetDifferences 1 = .ok (.istore_n 1, 1) := by decide +kernel
theorem dX1_forgetDifferences_2 : decode cX1_forgetDifferences 2 = .ok (.iload_n 1, 1) := by decide +kernel
theorem dX1_forgetDifferences_3 : decode cX1_forgetDifferences 3 = .ok (.bipush 26, 2) := by decide +kernel
theorem dX1_forgetDifferences_5 : decode cX1_forgetDifferences 5 = .ok (.if_icmp .ge 16, 3) := by decide +kernel
theorem dX1_forgetDifferences_8 : decode cX1_forgetDifferences 8 = .ok (.aload_n 0, 1) := by decide +kernel
theorem dX1_forgetDifferences_9 : decode cX1_forgetDifferences 9 = .ok (.getfield 27, 3) := by decide +kernel
theorem dX1_forgetDifferences_12 : decode cX1_forgetDifferences 12 = .ok (.iload_n 1, 1) := by decide +kernel
theorem dX1_forgetDifferences_13 : decode cX1_forgetDifferences 13 = .ok (.iconst 0, 1) := by decide +kernel
theorem dX1_forgetDifferences_14 : decode cX1_forgetDifferences 14 = .ok (.iastore, 1) := by decide +kernel
theorem dX1_forgetDifferences_15 : decode cX1_forgetDifferences 15 = .ok (.iinc 1 1, 3) := by decide +kernel
theorem dX1_forgetDifferences_18 : decode cX1_forgetDifferences 18 = .ok (.goto (-16), 3) := by decide +kernel
theorem dX1_forgetDifferences_21 : decode cX1_forgetDifferences 21 = .ok (.aload_n 0, 1) := by decide +kernel
theorem dX1_forgetDifferences_22 : decode cX1_forgetDifferences 22 = .ok (.iconst 0, 1) := by decide +kernel
theorem dX1_forgetDifferences_23 : decode cX1_forgetDifferences 23 = .ok (.putfield 44, 3) := by decide +kernel
theorem dX1_forgetDifferences_26 : decode cX1_forgetDifferences 26 = .ok (.return_, 1) := by decide +kernel
theorem dX1_mustDiffer_0 : decode cX1_mustDiffer 0 = .ok (.aload_n 0, 1) := by decide +kernel
theorem dX1_mustDiffer_1 : decode cX1_mustDiffer 1 = .ok (.getfield 27, 3) := by decide +kernel
theorem dX1_mustDiffer_4 : decode cX1_mustDiffer 4 = .ok (.iload_n 1, 1) := by decide +kernel
theorem dX1_mustDiffer_5 : decode cX1_mustDiffer 5 = .ok (.iaload, 1) := by decide +kernel
theorem dX1_mustDiffer_6 : decode cX1_mustDiffer 6 = .ok (.iload_n 2, 1) := by decide +kernel
theorem dX1_mustDiffer_7 : decode cX1_mustDiffer 7 = .ok (.ishr, 1) := by decide +kernel
theorem dX1_mustDiffer_8 : decode cX1_mustDiffer 8 = .ok (.iconst 1, 1) := by decide +kernel
theorem dX1_mustDiffer_9 : decode cX1_mustDiffer 9 = .ok (.iand, 1) := by decide +kernel
theorem dX1_mustDiffer_10 : decode cX1_mustDiffer 10 = .ok (.iconst 1, 1) := by decide +kernel
theorem dX1_mustDiffer_11 : decode cX1_mustDiffer 11 = .ok (.if_icmp .ne 7, 3) := by decide +kernel
theorem dX1_mustDiffer_14 : decode cX1_mustDiffer 14 = .ok (.iconst 1, 1) := by decide +kernel
theorem dX1_mustDiffer_15 : decode cX1_mustDiffer 15 = .ok (.goto 4, 3) := by decide +kernel
theorem dX1_mustDiffer_18 : decode cX1_mustDiffer 18 = .ok (.iconst 0, 1) := by decide +kernel
theorem dX1_mustDiffer_19 : decode cX1_mustDiffer 19 = .ok (.ireturn, 1) := by decide +kernel
theorem dX1_setDiffer_0 : decode cX1_setDiffer 0 = .ok (.iconst 1, 1) := by decide +kernel
theorem dX1_setDiffer_1 : decode cX1_setDiffer 1 = .ok (.iload_n 2, 1) := by decide +kernel
theorem dX1_setDiffer_2 : decode cX1_setDiffer 2 = .ok (.ishl, 1) := by decide +kernel
theorem dX1_setDiffer_3 : decode cX1_setDiffer 3 = .ok (.istore 4, 2) := by decide +kernel
theorem dX1_setDiffer_5 : decode cX1_setDiffer 5 = .ok (.iconst 1, 1) := by decide +kernel
theorem dX1_setDiffer_6 : decode cX1_setDiffer 6 = .ok (.iload_n 1, 1) := by decide +kernel
theorem dX1_setDiffer_7 : decode cX1_setDiffer 7 = .ok (.ishl, 1) := by decide +kernel
theorem dX1_setDiffer_8 : decode cX1_setDiffer 8 = .ok (.istore 5, 2) := by decide +kernel
theorem dX1_setDiffer_10 : decode cX1_setDiffer 10 = .ok (.aload_n 0, 1) := by decide +kernel
theorem dX1_setDiffer_11 : decode cX1_setDiffer 11 = .ok (.getfield 27, 3) := by decide +kernel
theorem dX1_setDiffer_14 : decode cX1_setDiffer 14 = .ok (.iload_n 1, 1) := by decide +kernel
theorem dX1_setDiffer_15 : decode cX1_setDiffer 15 = .ok (.iload_n 3, 1) := by decide +kernel
theorem dX1_setDiffer_16 : decode cX1_setDiffer 16 = .ok (.ifCond .eq 15, 3) := by decide +kernel
theorem dX1_setDiffer_19 : decode cX1_setDiffer 19 = .ok (.aload_n 0, 1) := by decide +kernel
theorem dX1_setDiffer_20 : decode cX1_setDiffer 20 = .ok (.getfield 27, 3) := by decide +kernel
theorem dX1_setDiffer_23 : decode cX1_setDiffer 23 = .ok (.iload_n 1, 1) := by decide +kernel
theorem dX1_setDiffer_24 : decode cX1_setDiffer 24 = .ok (.iaload, 1) := by decide +kernel
theorem dX1_setDiffer_25 : decode cX1_setDiffer 25 = .ok (.iload 4, 2) := by decide +kernel
theorem dX1_setDiffer_27 : decode cX1_setDiffer 27 = .ok (.ior, 1) := by decide +kernel
theorem dX1_setDiffer_28 : decode cX1_setDiffer 28 = .ok (.goto 14, 3) := by decide +kernel
theorem dX1_setDiffer_31 : decode cX1_setDiffer 31 = .ok (.aload_n 0, 1) := by decide +kernel
theorem dX1_setDiffer_32 : decode cX1_setDiffer 32 = .ok (.getfield 27, 3) := by decide +kernel
theorem dX1_setDiffer_35 : decode cX1_setDiffer 35 = .ok (.iload_n 1, 1) := by decide +kernel
theorem dX1_setDiffer_36 : decode cX1_setDiffer 36 = .ok (.iaload, 1) := by decide +kernel
theorem dX1_setDiffer_37 : decode cX1_setDiffer 37 = .ok (.iload 4, 2) := by decide +kernel
theorem dX1_setDiffer_39 : decode cX1_setDiffer 39 = .ok (.iconst (-1), 1) := by decide +kernel
theorem dX1_setDiffer_40 : decode cX1_setDiffer 40 = .ok (.ixor, 1) := by decide +kernel
theorem dX1_setDiffer_41 : decode cX1_setDiffer 41 = .ok (.iand, 1) := by decide +kernel
theorem dX1_setDiffer_42 : decode cX1_setDiffer 42 = .ok (.iastore, 1) := by decide +kernel
theorem dX1_setDiffer_43 : decode cX1_setDiffer 43 = .ok (.aload_n 0, 1) := by decide +kernel
theorem dX1_setDiffer_44 : decode cX1_setDiffer 44 = .ok (.getfield 27, 3) := by decide +kernel
theorem dX1_setDiffer_47 : decode cX1_setDiffer 47 = .ok (.iload_n 2, 1) := by decide +kernel
theorem dX1_setDiffer_48 : decode cX1_setDiffer 48 = .ok (.iload_n 3, 1) := by decide +kernel
theorem dX1_setDiffer_49 : decode cX1_setDiffer 49 = .ok (.ifCond .eq 15, 3) := by decide +kernel
theorem dX1_setDiffer_52 : decode cX1_setDiffer 52 = .ok (.aload_n 0, 1) := by decide +kernel
theorem dX1_setDiffer_53 : decode cX1_setDiffer 53 = .ok (.getfield 27, 3) := by decide +kernel
theorem dX1_setDiffer_56 : decode cX1_setDiffer 56 = .ok (.iload_n 2, 1) := by decide +kernel
theorem dX1_setDiffer_57 : decode cX1_setDiffer 57 = .ok (.iaload, 1) := by decide +kernel
theorem dX1_setDiffer_58 : decode cX1_setDiffer 58 = .ok (.iload 5, 2) := by decide +kernel
theorem dX1_setDiffer_60 : decode cX1_setDiffer 60 = .ok (.ior, 1) := by decide +kernel
theorem dX1_setDiffer_61 : decode cX1_setDiffer 61 = .ok (.goto 14, 3) := by decide +kernel
theorem dX1_setDiffer_64 : decode cX1_setDiffer 64 = .ok (.aload_n 0, 1) := by decide +kernel
theorem dX1_setDiffer_65 : decode cX1_setDiffer 65 = .ok (.getfield 27, 3) := by decide +kernel
theorem dX1_setDiffer_68 : decode cX1_setDiffer 68 = .ok (.iload_n 2, 1) := by decide +kernel
theorem dX1_setDiffer_69 : decode cX1_setDiffer 69 = .ok (.iaload, 1) := by decide +kernel
theorem dX1_setDiffer_70 : decode cX1_setDiffer 70 = .ok (.iload 5, 2) := by decide +kernel
theorem dX1_setDiffer_72 : decode cX1_setDiffer 72 = .ok (.iconst (-1), 1) := by decide +kernel
theorem dX1_setDiffer_73 : decode cX1_setDiffer 73 = .ok (.ixor, 1) := by decide +kernel
theorem dX1_setDiffer_74 : decode cX1_setDiffer 74 = .ok (.iand, 1) := by decide +kernel
theorem dX1_setDiffer_75 : decode cX1_setDiffer 75 = .ok (.iastore, 1) := by decide +kernel
theorem dX1_setDiffer_76 : decode cX1_setDiffer 76 = .ok (.aload_n 0, 1) := by decide +kernel
theorem dX1_setDiffer_77 : decode cX1_setDiffer 77 = .ok (.iconst 0, 1) := by decide +kernel
theorem dX1_setDiffer_78 : decode cX1_setDiffer 78 = .ok (.putfield 44, 3) := by decide +kernel
theorem dX1_setDiffer_81 : decode cX1_setDiffer 81 = .ok (.return_, 1) := by decide +kernel
theorem dX1_countMatched_0 : decode cX1_countMatched 0 = .ok (.aload_n 0, 1) := by decide +kernel
theorem dX1_countMatched_1 : decode cX1_countMatched 1 = .ok (.invokevirtual 48, 3) := by decide +kernel
theorem dX1_countMatched_4 : decode cX1_countMatched 4 = .ok (.aload_n 0, 1) := by decide +kernel
theorem dX1_countMatched_5 : decode cX1_countMatched 5 = .ok (.getfield 51, 3) := by decide +kernel
theorem dX1_countMatched_8 : decode cX1_countMatched 8 = .ok (.ireturn, 1) := by decide +kernel
theorem dX1_matchedAt_0 : decode cX1_matchedAt 0 = .ok (.aload_n 0, 1) := by decide +kernel
theorem dX1_matchedAt_1 : decode cX1_matchedAt 1 = .ok (.invokevirtual 48, 3) := by decide +kernel
theorem dX1_matchedAt_4 : decode cX1_matchedAt 4 = .ok (.iload_n 1, 1) := by decide +kernel
theorem dX1_matchedAt_5 : decode cX1_matchedAt 5 = .ok (.ifCond .lt 20, 3) := by decide +kernel
theorem dX1_matchedAt_8 : decode cX1_matchedAt 8 = .ok (.iload_n 1, 1) := by decide +kernel
theorem dX1_matchedAt_9 : decode cX1_matchedAt 9 = .ok (.aload_n 0, 1) := by decide +kernel
theorem dX1_matchedAt_10 : decode cX1_matchedAt 10 = .ok (.getfield 51, 3) := by decide +kernel
theorem dX1_matchedAt_13 : decode cX1_matchedAt 13 = .ok (.if_icmp .ge 12, 3) := by decide +kernel
theorem dX1_matchedAt_16 : decode cX1_matchedAt 16 = .ok (.aload_n 0, 1) := by decide +kernel
theorem dX1_matchedAt_17 : decode cX1_matchedAt 17 = .ok (.getfield 30, 3) := by decide +kernel
theorem dX1_matchedAt_20 : decode cX1_matchedAt 20 = .ok (.iload_n 1, 1) := by decide +kernel
theorem dX1_matchedAt_21 : decode cX1_matchedAt 21 = .ok (.iaload, 1) := by decide +kernel
theorem dX1_matchedAt_22 : decode cX1_matchedAt 22 = .ok (.goto 4, 3) := by decide +kernel
theorem dX1_matchedAt_25 : decode cX1_matchedAt 25 = .ok (.iconst (-1), 1) := by decide +kernel
theorem dX1_matchedAt_26 : decode cX1_matchedAt 26 = .ok (.ireturn, 1) := by decide +kernel
theorem dX1_firstNode_0 : decode cX1_firstNode 0 = .ok (.aload_n 0, 1) := by decide +kernel
theorem dX1_firstNode_1 : decode cX1_firstNode 1 = .ok (.getfield 41, 3) := by decide +kernel
theorem dX1_firstNode_4 : decode cX1_firstNode 4 = .ok (.getfield 55, 3) := by decide +kernel
theorem dX1_firstNode_7 : decode cX1_firstNode 7 = .ok (.iload_n 1, 1) := by decide +kernel
theorem dX1_firstNode_8 : decode cX1_firstNode 8 = .ok (.iaload, 1) := by decide +kernel
theorem dX1_firstNode_9 : decode cX1_firstNode 9 = .ok (.istore_n 2, 1) := by decide +kernel
theorem dX1_firstNode_10 : decode cX1_firstNode 10 = .ok (.iload_n 2, 1) := by decide +kernel
theorem dX1_firstNode_11 : decode cX1_firstNode 11 = .ok (.iconst (-1), 1) := by decide +kernel
theorem dX1_firstNode_12 : decode cX1_firstNode 12 = .ok (.if_icmp .ne 7, 3) := by decide +kernel
theorem dX1_firstNode_15 : decode cX1_firstNode 15 = .ok (.iconst (-1), 1) := by decide +kernel
theorem dX1_firstNode_16 : decode cX1_firstNode 16 = .ok (.goto 9, 3) := by decide +kernel
theorem dX1_firstNode_19 : decode cX1_firstNode 19 = .ok (.aload_n 0, 1) := by decide +kernel
theorem dX1_firstNode_20 : decode cX1_firstNode 20 = .ok (.getfield 9, 3) := by decide +kernel
theorem dX1_firstNode_23 : decode cX1_firstNode 23 = .ok (.iload_n 2, 1) := by decide +kernel
theorem dX1_firstNode_24 : decode cX1_firstNode 24 = .ok (.iaload, 1) := by decide +kernel
theorem dX1_firstNode_25 : decode cX1_firstNode 25 = .ok (.ireturn, 1) := by decide +kernel
theorem dX1_howMany_0 : decode cX1_howMany 0 = .ok (.aload_n 0, 1) := by decide +kernel
theorem dX1_howMany_1 : decode cX1_howMany 1 = .ok (.getfield 41, 3) := by decide +kernel
theorem dX1_howMany_4 : decode cX1_howMany 4 = .ok (.getfield 55, 3) := by decide +kernel
theorem dX1_howMany_7 : decode cX1_howMany 7 = .ok (.iload_n 1, 1) := by decide +kernel
theorem dX1_howMany_8 : decode cX1_howMany 8 = .ok (.iaload, 1) := by decide +kernel
theorem dX1_howMany_9 : decode cX1_howMany 9 = .ok (.istore_n 2, 1) := by decide +kernel
theorem dX1_howMany_10 : decode cX1_howMany 10 = .ok (.iload_n 2, 1) := by decide +kernel
theorem dX1_howMany_11 : decode cX1_howMany 11 = .ok (.iconst (-1), 1) := by decide +kernel
theorem dX1_howMany_12 : decode cX1_howMany 12 = .ok (.if_icmp .ne 7, 3) := by decide +kernel
theorem dX1_howMany_15 : decode cX1_howMany 15 = .ok (.iconst (-1), 1) := by decide +kernel
theorem dX1_howMany_16 : decode cX1_howMany 16 = .ok (.goto 9, 3) := by decide +kernel
theorem dX1_howMany_19 : decode cX1_howMany 19 = .ok (.aload_n 0, 1) := by decide +kernel
theorem dX1_howMany_20 : decode cX1_howMany 20 = .ok (.getfield 15, 3) := by decide +kernel
theorem dX1_howMany_23 : decode cX1_howMany 23 = .ok (.iload_n 2, 1) := by decide +kernel
theorem dX1_howMany_24 : decode cX1_howMany 24 = .ok (.iaload, 1) := by decide +kernel
theorem dX1_howMany_25 : decode cX1_howMany 25 = .ok (.ireturn, 1) := by decide +kernel
theorem dX1_findAll_0 : decode cX1_findAll 0 = .ok (.aload_n 0, 1) := by decide +kernel
theorem dX1_findAll_1 : decode cX1_findAll 1 = .ok (.getfield 44, 3) := by decide +kernel
theorem dX1_findAll_4 : decode cX1_findAll 4 = .ok (.ifCond .eq 4, 3) := by decide +kernel
theorem dX1_findAll_7 : decode cX1_findAll 7 = .ok (.return_, 1) := by decide +kernel
theorem dX1_findAll_8 : decode cX1_findAll 8 = .ok (.aload_n 0, 1) := by decide +kernel
theorem dX1_findAll_9 : decode cX1_findAll 9 = .ok (.iconst 0, 1) := by decide +kernel
theorem dX1_findAll_10 : decode cX1_findAll 10 = .ok (.putfield 51, 3) := by decide +kernel
theorem dX1_findAll_13 : decode cX1_findAll 13 = .ok (.iconst 0, 1) := by decide +kernel
theorem dX1_findAll_14 : decode cX1_findAll 14 = .ok (.istore_n 1, 1) := by decide +kernel
theorem dX1_findAll_15 : decode cX1_findAll 15 = .ok (.iload_n 1, 1) := by decide +kernel
theorem dX1_findAll_16 : decode cX1_findAll 16 = .ok (.aload_n 0, 1) := by decide +kernel
theorem dX1_findAll_17 : decode cX1_findAll 17 = .ok (.getfield 37, 3) := by decide +kernel
theorem dX1_findAll_20 : decode cX1_findAll 20 = .ok (.getfield 60, 3) := by decide +kernel
theorem dX1_findAll_23 : decode cX1_findAll 23 = .ok (.if_icmp .ge 49, 3) := by decide +kernel
theorem dX1_findAll_26 : decode cX1_findAll 26 = .ok (.aload_n 0, 1) := by decide +kernel
theorem dX1_findAll_27 : decode cX1_findAll 27 = .ok (.getfield 33, 3) := by decide +kernel
theorem dX1_findAll_30 : decode cX1_findAll 30 = .ok (.iload_n 1, 1) := by decide +kernel
theorem dX1_findAll_31 : decode cX1_findAll 31 = .ok (.aload_n 0, 1) := by decide +kernel
theorem dX1_findAll_32 : decode cX1_findAll 32 = .ok (.iload_n 1, 1) := by decide +kernel
theorem dX1_findAll_33 : decode cX1_findAll 33 = .ok (.invokevirtual 63, 3) := by decide +kernel
theorem dX1_findAll_36 : decode cX1_findAll 36 = .ok (.bastore, 1) := by decide +kernel
theorem dX1_findAll_37 : decode cX1_findAll 37 = .ok (.aload_n 0, 1) := by decide +kernel
theorem dX1_findAll_38 : decode cX1_findAll 38 = .ok (.getfield 33, 3) := by decide +kernel
theorem dX1_findAll_41 : decode cX1_findAll 41 = .ok (.iload_n 1, 1) := by decide +kernel
theorem dX1_findAll_42 : decode cX1_findAll 42 = .ok (.baload, 1) := by decide +kernel
theorem dX1_findAll_43 : decode cX1_findAll 43 = .ok (.ifCond .eq 23, 3) := by decide +kernel
theorem dX1_findAll_46 : decode cX1_findAll 46 = .ok (.aload_n 0, 1) := by decide +kernel
theorem dX1_findAll_47 : decode cX1_findAll 47 = .ok (.getfield 30, 3) := by decide +kernel
theorem dX1_findAll_50 : decode cX1_findAll 50 = .ok (.aload_n 0, 1) := by decide +kernel
theorem dX1_findAll_51 : decode cX1_findAll 51 = .ok (.getfield 51, 3) := by decide +kernel
theorem dX1_findAll_54 : decode cX1_findAll 54 = .ok (.iload_n 1, 1) := by decide +kernel
theorem dX1_findAll_55 : decode cX1_findAll 55 = .ok (.iastore, 1) := by decide +kernel
theorem dX1_findAll_56 : decode cX1_findAll 56 = .ok (.aload_n 0, 1) := by decide +kernel
theorem dX1_findAll_57 : decode cX1_findAll 57 = .ok (.dup, 1) := by decide +kernel
theorem dX1_findAll_58 : decode cX1_findAll 58 = .ok (.getfield 51, 3) := by decide +kernel
theorem dX1_findAll_61 : decode cX1_findAll 61 = .ok (.iconst 1, 1) := by decide +kernel
theorem dX1_findAll_62 : decode cX1_findAll 62 = .ok (.iadd, 1) := by decide +kernel
theorem dX1_findAll_63 : decode cX1_findAll 63 = .ok (.putfield 51, 3) := by decide +kernel
theorem dX1_findAll_66 : decode cX1_findAll 66 = .ok (.iinc 1 1, 3) := by decide +kernel
theorem dX1_findAll_69 : decode cX1_findAll 69 = .ok (.goto (-54), 3) := by decide +kernel
theorem dX1_findAll_72 : decode cX1_findAll 72 = .ok (.aload_n 0, 1) := by decide +kernel
theorem dX1_findAll_73 : decode cX1_findAll 73 = .ok (.iconst 1, 1) := by decide +kernel
theorem dX1_findAll_74 : decode cX1_findAll 74 = .ok (.putfield 44, 3) := by decide +kernel
theorem dX1_findAll_77 : decode cX1_findAll 77 = .ok (.return_, 1) := by decide +kernel
theorem dX1_preparePattern_0 : decode cX1_preparePattern 0 = .ok (.aload_n 0, 1) := by decide +kernel
theorem dX1_preparePattern_1 : decode cX1_preparePattern 1 = .ok (.aload_n 0, 1) := by decide +kernel
theorem dX1_preparePattern_2 : decode cX1_preparePattern 2 = .ok (.getfield 41, 3) := by decide +kernel
theorem dX1_preparePattern_5 : decode cX1_preparePattern 5 = .ok (.getfield 60, 3) := by decide +kernel
theorem dX1_preparePattern_8 : decode cX1_preparePattern 8 = .ok (.putfield 67, 3) := by decide +kernel
theorem dX1_preparePattern_11 : decode cX1_preparePattern 11 = .ok (.aload_n 0, 1) := by decide +kernel
theorem dX1_preparePattern_12 : decode cX1_preparePattern 12 = .ok (.aload_n 0, 1) := by decide +kernel
theorem dX1_preparePattern_13 : decode cX1_preparePattern 13 = .ok (.getfield 41, 3) := by decide +kernel
theorem dX1_preparePattern_16 : decode cX1_preparePattern 16 = .ok (.getfield 60, 3) := by decide +kernel
theorem dX1_preparePattern_19 : decode cX1_preparePattern 19 = .ok (.putfield 70, 3) := by decide +kernel
theorem dX1_preparePattern_22 : decode cX1_preparePattern 22 = .ok (.iconst (-1), 1) := by decide +kernel
theorem dX1_preparePattern_23 : decode cX1_preparePattern 23 = .ok (.istore_n 1, 1) := by decide +kernel
theorem dX1_preparePattern_24 : decode cX1_preparePattern 24 = .ok (.iconst 0, 1) := by decide +kernel
theorem dX1_preparePattern_25 : decode cX1_preparePattern 25 = .ok (.istore_n 2, 1) := by decide +kernel
theorem dX1_preparePattern_26 : decode cX1_preparePattern 26 = .ok (.iload_n 2, 1) := by decide +kernel
theorem dX1_preparePattern_27 : decode cX1_preparePattern 27 = .ok (.aload_n 0, 1) := by decide +kernel
theorem dX1_preparePattern_28 : decode cX1_preparePattern 28 = .ok (.getfield 41, 3) := by decide +kernel
theorem dX1_preparePattern_31 : decode cX1_preparePattern 31 = .ok (.getfield 60, 3) := by decide +kernel
theorem dX1_preparePattern_34 : decode cX1_preparePattern 34 = .ok (.if_icmp .ge 84, 3) := by decide +kernel
theorem dX1_preparePattern_37 : decode cX1_preparePattern 37 = .ok (.aload_n 0, 1) := by decide +kernel
theorem dX1_preparePattern_38 : decode cX1_preparePattern 38 = .ok (.getfield 24, 3) := by decide +kernel
theorem dX1_preparePattern_41 : decode cX1_preparePattern 41 = .ok (.iload_n 2, 1) := by decide +kernel
theorem dX1_preparePattern_42 : decode cX1_preparePattern 42 = .ok (.aload_n 0, 1) := by decide +kernel
theorem dX1_preparePattern_43 : decode cX1_preparePattern 43 = .ok (.iload_n 2, 1) := by decide +kernel
theorem dX1_preparePattern_44 : decode cX1_preparePattern 44 = .ok (.invokevirtual 73, 3) := by decide +kernel
theorem dX1_preparePattern_47 : decode cX1_preparePattern 47 = .ok (.iastore, 1) := by decide +kernel
theorem dX1_preparePattern_48 : decode cX1_preparePattern 48 = .ok (.aload_n 0, 1) := by decide +kernel
theorem dX1_preparePattern_49 : decode cX1_preparePattern 49 = .ok (.getfield 41, 3) := by decide +kernel
theorem dX1_preparePattern_52 : decode cX1_preparePattern 52 = .ok (.getfield 77, 3) := by decide +kernel
theorem dX1_preparePattern_55 : decode cX1_preparePattern 55 = .ok (.iload_n 2, 1) := by decide +kernel
theorem dX1_preparePattern_56 : decode cX1_preparePattern 56 = .ok (.iaload, 1) := by decide +kernel
theorem dX1_preparePattern_57 : decode cX1_preparePattern 57 = .ok (.iconst 3, 1) := by decide +kernel
theorem dX1_preparePattern_58 : decode cX1_preparePattern 58 = .ok (.if_icmp .ne 8, 3) := by decide +kernel
theorem dX1_preparePattern_61 : decode cX1_preparePattern 61 = .ok (.aload_n 0, 1) := by decide +kernel
theorem dX1_preparePattern_62 : decode cX1_preparePattern 62 = .ok (.iload_n 2, 1) := by decide +kernel
theorem dX1_preparePattern_63 : decode cX1_preparePattern 63 = .ok (.putfield 70, 3) := by decide +kernel
theorem dX1_preparePattern_66 : decode cX1_preparePattern 66 = .ok (.aload_n 0, 1) := by decide +kernel
theorem dX1_preparePattern_67 : decode cX1_preparePattern 67 = .ok (.getfield 41, 3) := by decide +kernel
theorem dX1_preparePattern_70 : decode cX1_preparePattern 70 = .ok (.getfield 77, 3) := by decide +kernel
theorem dX1_preparePattern_73 : decode cX1_preparePattern 73 = .ok (.iload_n 2, 1) := by decide +kernel
theorem dX1_preparePattern_74 : decode cX1_preparePattern 74 = .ok (.iaload, 1) := by decide +kernel
theorem dX1_preparePattern_75 : decode cX1_preparePattern 75 = .ok (.iconst 2, 1) := by decide +kernel
theorem dX1_preparePattern_76 : decode cX1_preparePattern 76 = .ok (.if_icmp .ne 36, 3) := by decide +kernel
theorem dX1_preparePattern_79 : decode cX1_preparePattern 79 = .ok (.iload_n 1, 1) := by decide +kernel
theorem dX1_preparePattern_80 : decode cX1_preparePattern 80 = .ok (.iconst (-1), 1) := by decide +kernel
theorem dX1_preparePattern_81 : decode cX1_preparePattern 81 = .ok (.if_icmp .eq 29, 3) := by decide +kernel
theorem dX1_preparePattern_84 : decode cX1_preparePattern 84 = .ok (.aload_n 0, 1) := by decide +kernel
theorem dX1_preparePattern_85 : decode cX1_preparePattern 85 = .ok (.getfield 41, 3) := by decide +kernel
theorem dX1_preparePattern_88 : decode cX1_preparePattern 88 = .ok (.getfield 80, 3) := by decide +kernel
theorem dX1_preparePattern_91 : decode cX1_preparePattern 91 = .ok (.iload_n 1, 1) := by decide +kernel
theorem dX1_preparePattern_92 : decode cX1_preparePattern 92 = .ok (.iaload, 1) := by decide +kernel
theorem dX1_preparePattern_93 : decode cX1_preparePattern 93 = .ok (.aload_n 0, 1) := by decide +kernel
theorem dX1_preparePattern_94 : decode cX1_preparePattern 94 = .ok (.getfield 41, 3) := by decide +kernel
theorem dX1_preparePattern_97 : decode cX1_preparePattern 97 = .ok (.getfield 80, 3) := by decide +kernel
theorem dX1_preparePattern_100 : decode cX1_preparePattern 100 = .ok (.iload_n 2, 1) := by decide +kernel
theorem dX1_preparePattern_101 : decode cX1_preparePattern 101 = .ok (.iaload, 1) := by decide +kernel
theorem dX1_preparePattern_102 : decode cX1_preparePattern 102 = .ok (.if_icmp .ne 8, 3) := by decide +kernel
theorem dX1_preparePattern_105 : decode cX1_preparePattern 105 = .ok (.aload_n 0, 1) := by decide +kernel
theorem dX1_preparePattern_106 : decode cX1_preparePattern 106 = .ok (.iload_n 1, 1) := by decide +kernel
theorem dX1_preparePattern_107 : decode cX1_preparePattern 107 = .ok (.putfield 67, 3) := by decide +kernel
theorem dX1_preparePattern_110 : decode cX1_preparePattern 110 = .ok (.iload_n 2, 1) := by decide +kernel
theorem dX1_preparePattern_111 : decode cX1_preparePattern 111 = .ok (.istore_n 1, 1) := by decide +kernel
theorem dX1_preparePattern_112 : decode cX1_preparePattern 112 = .ok (.iinc 2 1, 3) := by decide +kernel
theorem dX1_preparePattern_115 : decode cX1_preparePattern 115 = .ok (.goto (-89), 3) := by decide +kernel
theorem dX1_preparePattern_118 : decode cX1_preparePattern 118 = .ok (.return_, 1) := by decide +kernel
theorem dX1_countSingles_0 : decode cX1_countSingles 0 = .ok (.aload_n 0, 1) := by decide +kernel
theorem dX1_countSingles_1 : decode cX1_countSingles 1 = .ok (.getfield 41, 3) := by decide +kernel
theorem dX1_countSingles_4 : decode cX1_countSingles 4 = .ok (.getfield 77, 3) := by decide +kernel
theorem dX1_countSingles_7 : decode cX1_countSingles 7 = .ok (.iload_n 1, 1) := by decide +kernel
theorem dX1_countSingles_8 : decode cX1_countSingles 8 = .ok (.iaload, 1) := by decide +kernel
theorem dX1_countSingles_9 : decode cX1_countSingles 9 = .ok (.iconst 2, 1) := by decide +kernel
theorem dX1_countSingles_10 : decode cX1_countSingles 10 = .ok (.if_icmp .ne 15, 3) := by decide +kernel
theorem dX1_countSingles_13 : decode cX1_countSingles 13 = .ok (.aload_n 0, 1) := by decide +kernel
theorem dX1_countSingles_14 : decode cX1_countSingles 14 = .ok (.getfield 41, 3) := by decide +kernel
theorem dX1_countSingles_17 : decode cX1_countSingles 17 = .ok (.getfield 80, 3) := by decide +kernel
theorem dX1_countSingles_20 : decode cX1_countSingles 20 = .ok (.iload_n 1, 1) := by decide +kernel
theorem dX1_countSingles_21 : decode cX1_countSingles 21 = .ok (.iaload, 1) := by decide +kernel
theorem dX1_countSingles_22 : decode cX1_countSingles 22 = .ok (.goto 4, 3) := by decide +kernel
theorem dX1_countSingles_25 : decode cX1_countSingles 25 = .ok (.iload_n 1, 1) := by decide +kernel
theorem dX1_countSingles_26 : decode cX1_countSingles 26 = .ok (.istore_n 2, 1) := by decide +kernel
theorem dX1_countSingles_27 : decode cX1_countSingles 27 = .ok (.iconst 0, 1) := by decide +kernel
theorem dX1_countSingles_28 : decode cX1_countSingles 28 = .ok (.istore_n 3, 1) := by decide +kernel
theorem dX1_countSingles_29 : decode cX1_countSingles 29 = .ok (.iload_n 1, 1) := by decide +kernel
theorem dX1_countSingles_30 : decode cX1_countSingles 30 = .ok (.iconst 1, 1) := by decide +kernel
theorem dX1_countSingles_31 : decode cX1_countSingles 31 = .ok (.iadd, 1) := by decide +kernel
theorem dX1_countSingles_32 : decode cX1_countSingles 32 = .ok (.istore 4, 2) := by decide +kernel
theorem dX1_countSingles_34 : decode cX1_countSingles 34 = .ok (.iload 4, 2) := by decide +kernel
theorem dX1_countSingles_36 : decode cX1_countSingles 36 = .ok (.aload_n 0, 1) := by decide +kernel
theorem dX1_countSingles_37 : decode cX1_countSingles 37 = .ok (.getfield 41, 3) := by decide +kernel
theorem dX1_countSingles_40 : decode cX1_countSingles 40 = .ok (.getfield 60, 3) := by decide +kernel
theorem dX1_countSingles_43 : decode cX1_countSingles 43 = .ok (.if_icmp .ge 40, 3) := by decide +kernel
theorem dX1_countSingles_46 : decode cX1_countSingles 46 = .ok (.aload_n 0, 1) := by decide +kernel
theorem dX1_countSingles_47 : decode cX1_countSingles 47 = .ok (.getfield 41, 3) := by decide +kernel
theorem dX1_countSingles_50 : decode cX1_countSingles 50 = .ok (.getfield 80, 3) := by decide +kernel
theorem dX1_countSingles_53 : decode cX1_countSingles 53 = .ok (.iload 4, 2) := by decide +kernel
theorem dX1_countSingles_55 : decode cX1_countSingles 55 = .ok (.iaload, 1) := by decide +kernel
theorem dX1_countSingles_56 : decode cX1_countSingles 56 = .ok (.iload_n 2, 1) := by decide +kernel
theorem dX1_countSingles_57 : decode cX1_countSingles 57 = .ok (.if_icmp .ne 20, 3) := by decide +kernel
theorem dX1_countSingles_60 : decode cX1_countSingles 60 = .ok (.aload_n 0, 1) := by decide +kernel
theorem dX1_countSingles_61 : decode cX1_countSingles 61 = .ok (.getfield 41, 3) := by decide +kernel
theorem dX1_countSingles_64 : decode cX1_countSingles 64 = .ok (.getfield 77, 3) := by decide +kernel
theorem dX1_countSingles_67 : decode cX1_countSingles 67 = .ok (.iload 4, 2) := by decide +kernel
theorem dX1_countSingles_69 : decode cX1_countSingles 69 = .ok (.iaload, 1) := by decide +kernel
theorem dX1_countSingles_70 : decode cX1_countSingles 70 = .ok (.iconst 2, 1) := by decide +kernel
theorem dX1_countSingles_71 : decode cX1_countSingles 71 = .ok (.if_icmp .eq 6, 3) := by decide +kernel
theorem dX1_countSingles_74 : decode cX1_countSingles 74 = .ok (.iinc 3 1, 3) := by decide +kernel
theorem dX1_countSingles_77 : decode cX1_countSingles 77 = .ok (.iinc 4 1, 3) := by decide +kernel
theorem dX1_countSingles_80 : decode cX1_countSingles 80 = .ok (.goto (-46), 3) := by decide +kernel
theorem dX1_countSingles_83 : decode cX1_countSingles 83 = .ok (.iload_n 3, 1) := by decide +kernel
theorem dX1_countSingles_84 : decode cX1_countSingles 84 = .ok (.ireturn, 1) := by decide +kernel
theorem dX1_findWay_0 : decode cX1_findWay 0 = .ok (.aload_n 0, 1) := by decide +kernel
theorem dX1_findWay_1 : decode cX1_findWay 1 = .ok (.getfield 67, 3) := by decide +kernel
theorem dX1_findWay_4 : decode cX1_findWay 4 = .ok (.aload_n 0, 1) := by decide +kernel
theorem dX1_findWay_5 : decode cX1_findWay 5 = .ok (.getfield 70, 3) := by decide +kernel
theorem dX1_findWay_8 : decode cX1_findWay 8 = .ok (.if_icmp .ge 7, 3) := by decide +kernel
theorem dX1_findWay_11 : decode cX1_findWay 11 = .ok (.iconst 1, 1) := by decide +kernel
theorem dX1_findWay_12 : decode cX1_findWay 12 = .ok (.goto 4, 3) := by decide +kernel
theorem dX1_findWay_15 : decode cX1_findWay 15 = .ok (.iconst 0, 1) := by decide +kernel
theorem dX1_findWay_16 : decode cX1_findWay 16 = .ok (.istore_n 2, 1) := by decide +kernel
theorem dX1_findWay_17 : decode cX1_findWay 17 = .ok (.aload_n 0, 1) := by decide +kernel
theorem dX1_findWay_18 : decode cX1_findWay 18 = .ok (.getfield 67, 3) := by decide +kernel
theorem dX1_findWay_21 : decode cX1_findWay 21 = .ok (.aload_n 0, 1) := by decide +kernel
theorem dX1_findWay_22 : decode cX1_findWay 22 = .ok (.getfield 70, 3) := by decide +kernel
theorem dX1_findWay_25 : decode cX1_findWay 25 = .ok (.invokestatic 83, 3) := by decide +kernel
theorem dX1_findWay_28 : decode cX1_findWay 28 = .ok (.istore_n 3, 1) := by decide +kernel
theorem dX1_findWay_29 : decode cX1_findWay 29 = .ok (.aload_n 0, 1) := by decide +kernel
theorem dX1_findWay_30 : decode cX1_findWay 30 = .ok (.getfield 67, 3) := by decide +kernel
theorem dX1_findWay_33 : decode cX1_findWay 33 = .ok (.aload_n 0, 1) := by decide +kernel
theorem dX1_findWay_34 : decode cX1_findWay 34 = .ok (.getfield 70, 3) := by decide +kernel
theorem dX1_findWay_37 : decode cX1_findWay 37 = .ok (.invokestatic 89, 3) := by decide +kernel
theorem dX1_findWay_40 : decode cX1_findWay 40 = .ok (.istore 4, 2) := by decide +kernel
theorem dX1_findWay_42 : decode cX1_findWay 42 = .ok (.iconst 0, 1) := by decide +kernel
theorem dX1_findWay_43 : decode cX1_findWay 43 = .ok (.istore 5, 2) := by decide +kernel
theorem dX1_findWay_45 : decode cX1_findWay 45 = .ok (.iconst 0, 1) := by decide +kernel
theorem dX1_findWay_46 : decode cX1_findWay 46 = .ok (.istore 6, 2) := by decide +kernel
theorem dX1_findWay_48 : decode cX1_findWay 48 = .ok (.aload_n 0, 1) := by decide +kernel
theorem dX1_findWay_49 : decode cX1_findWay 49 = .ok (.getfield 37, 3) := by decide +kernel
theorem dX1_findWay_52 : decode cX1_findWay 52 = .ok (.getfield 60, 3) := by decide +kernel
theorem dX1_findWay_55 : decode cX1_findWay 55 = .ok (.iconst 1, 1) := by decide +kernel
theorem dX1_findWay_56 : decode cX1_findWay 56 = .ok (.iadd, 1) := by decide +kernel
theorem dX1_findWay_57 : decode cX1_findWay 57 = .ok (.aload_n 0, 1) := by decide +kernel
theorem dX1_findWay_58 : decode cX1_findWay 58 = .ok (.getfield 37, 3) := by decide +kernel
theorem dX1_findWay_61 : decode cX1_findWay 61 = .ok (.getfield 60, 3) := by decide +kernel
theorem dX1_findWay_64 : decode cX1_findWay 64 = .ok (.iconst 1, 1) := by decide +kernel
theorem dX1_findWay_65 : decode cX1_findWay 65 = .ok (.iadd, 1) := by decide +kernel
theorem dX1_findWay_66 : decode cX1_findWay 66 = .ok (.imul, 1) := by decide +kernel
theorem dX1_findWay_67 : decode cX1_findWay 67 = .ok (.istore 7, 2) := by decide +kernel
theorem dX1_findWay_69 : decode cX1_findWay 69 = .ok (.iconst 0, 1) := by decide +kernel
theorem dX1_findWay_70 : decode cX1_findWay 70 = .ok (.istore 8, 2) := by decide +kernel
theorem dX1_findWay_72 : decode cX1_findWay 72 = .ok (.iload 8, 2) := by decide +kernel
theorem dX1_findWay_74 : decode cX1_findWay 74 = .ok (.iload 7, 2) := by decide +kernel
theorem dX1_findWay_76 : decode cX1_findWay 76 = .ok (.if_icmp .ge 90, 3) := by decide +kernel
theorem dX1_findWay_79 : decode cX1_findWay 79 = .ok (.aload_n 0, 1) := by decide +kernel
theorem dX1_findWay_80 : decode cX1_findWay 80 = .ok (.iload_n 2, 1) := by decide +kernel
theorem dX1_findWay_81 : decode cX1_findWay 81 = .ok (.ifCond .eq 8, 3) := by decide +kernel
theorem dX1_findWay_84 : decode cX1_findWay 84 = .ok (.iload 5, 2) := by decide +kernel
theorem dX1_findWay_86 : decode cX1_findWay 86 = .ok (.goto 5, 3) := by decide +kernel
theorem dX1_findWay_89 : decode cX1_findWay 89 = .ok (.iload 6, 2) := by decide +kernel
theorem dX1_findWay_91 : decode cX1_findWay 91 = .ok (.putfield 92, 3) := by decide +kernel
theorem dX1_findWay_94 : decode cX1_findWay 94 = .ok (.aload_n 0, 1) := by decide +kernel
theorem dX1_findWay_95 : decode cX1_findWay 95 = .ok (.iload_n 2, 1) := by decide +kernel
theorem dX1_findWay_96 : decode cX1_findWay 96 = .ok (.ifCond .eq 8, 3) := by decide +kernel
theorem dX1_findWay_99 : decode cX1_findWay 99 = .ok (.iload 6, 2) := by decide +kernel
theorem dX1_findWay_101 : decode cX1_findWay 101 = .ok (.goto 5, 3) := by decide +kernel
theorem dX1_findWay_104 : decode cX1_findWay 104 = .ok (.iload 5, 2) := by decide +kernel
theorem dX1_findWay_106 : decode cX1_findWay 106 = .ok (.putfield 95, 3) := by decide +kernel
theorem dX1_findWay_109 : decode cX1_findWay 109 = .ok (.aload_n 0, 1) := by decide +kernel
theorem dX1_findWay_110 : decode cX1_findWay 110 = .ok (.iload_n 1, 1) := by decide +kernel
theorem dX1_findWay_111 : decode cX1_findWay 111 = .ok (.invokevirtual 98, 3) := by decide +kernel
theorem dX1_findWay_114 : decode cX1_findWay 114 = .ok (.istore 9, 2) := by decide +kernel
theorem dX1_findWay_116 : decode cX1_findWay 116 = .ok (.iload 9, 2) := by decide +kernel
theorem dX1_findWay_118 : decode cX1_findWay 118 = .ok (.aload_n 0, 1) := by decide +kernel
theorem dX1_findWay_119 : decode cX1_findWay 119 = .ok (.getfield 41, 3) := by decide +kernel
theorem dX1_findWay_122 : decode cX1_findWay 122 = .ok (.getfield 60, 3) := by decide +kernel
theorem dX1_findWay_125 : decode cX1_findWay 125 = .ok (.if_icmp .lt 5, 3) := by decide +kernel
theorem dX1_findWay_128 : decode cX1_findWay 128 = .ok (.iconst 1, 1) := by decide +kernel
theorem dX1_findWay_129 : decode cX1_findWay 129 = .ok (.ireturn, 1) := by decide +kernel
theorem dX1_findWay_130 : decode cX1_findWay 130 = .ok (.iload 9, 2) := by decide +kernel
theorem dX1_findWay_132 : decode cX1_findWay 132 = .ok (.iload 4, 2) := by decide +kernel
theorem dX1_findWay_134 : decode cX1_findWay 134 = .ok (.if_icmp .le 9, 3) := by decide +kernel
theorem dX1_findWay_137 : decode cX1_findWay 137 = .ok (.iinc 6 1, 3) := by decide +kernel
theorem dX1_findWay_140 : decode cX1_findWay 140 = .ok (.goto 20, 3) := by decide +kernel
theorem dX1_findWay_143 : decode cX1_findWay 143 = .ok (.iload 9, 2) := by decide +kernel
theorem dX1_findWay_145 : decode cX1_findWay 145 = .ok (.iload_n 3, 1) := by decide +kernel
theorem dX1_findWay_146 : decode cX1_findWay 146 = .ok (.if_icmp .le 12, 3) := by decide +kernel
theorem dX1_findWay_149 : decode cX1_findWay 149 = .ok (.iinc 5 1, 3) := by decide +kernel
theorem dX1_findWay_152 : decode cX1_findWay 152 = .ok (.iconst 0, 1) := by decide +kernel
theorem dX1_findWay_153 : decode cX1_findWay 153 = .ok (.istore 6, 2) := by decide +kernel
theorem dX1_findWay_155 : decode cX1_findWay 155 = .ok (.goto 5, 3) := by decide +kernel
theorem dX1_findWay_158 : decode cX1_findWay 158 = .ok (.iconst 0, 1) := by decide +kernel
theorem dX1_findWay_159 : decode cX1_findWay 159 = .ok (.ireturn, 1) := by decide +kernel
theorem dX1_findWay_160 : decode cX1_findWay 160 = .ok (.iinc 8 1, 3) := by decide +kernel
theorem dX1_findWay_163 : decode cX1_findWay 163 = .ok (.goto (-91), 3) := by decide +kernel
theorem dX1_findWay_166 : decode cX1_findWay 166 = .ok (.iconst 0, 1) := by decide +kernel
theorem dX1_findWay_167 : decode cX1_findWay 167 = .ok (.ireturn, 1) := by decide +kernel
theorem dX1_firstFailing_0 : decode cX1_firstFailing 0 = .ok (.iconst 0, 1) := by decide +kernel
theorem dX1_firstFailing_1 : decode cX1_firstFailing 1 = .ok (.istore_n 2, 1) := by decide +kernel
theorem dX1_firstFailing_2 : decode cX1_firstFailing 2 = .ok (.iload_n 2, 1) := by decide +kernel
theorem dX1_firstFailing_3 : decode cX1_firstFailing 3 = .ok (.aload_n 0, 1) := by decide +kernel
theorem dX1_firstFailing_4 : decode cX1_firstFailing 4 = .ok (.getfield 41, 3) := by decide +kernel
theorem dX1_firstFailing_7 : decode cX1_firstFailing 7 = .ok (.getfield 60, 3) := by decide +kernel
theorem dX1_firstFailing_10 : decode cX1_firstFailing 10 = .ok (.if_icmp .ge 133, 3) := by decide +kernel
theorem dX1_firstFailing_13 : decode cX1_firstFailing 13 = .ok (.aload_n 0, 1) := by decide +kernel
theorem dX1_firstFailing_14 : decode cX1_firstFailing 14 = .ok (.getfield 41, 3) := by decide +kernel
theorem dX1_firstFailing_17 : decode cX1_firstFailing 17 = .ok (.getfield 77, 3) := by decide +kernel
theorem dX1_firstFailing_20 : decode cX1_firstFailing 20 = .ok (.iload_n 2, 1) := by decide +kernel
theorem dX1_firstFailing_21 : decode cX1_firstFailing 21 = .ok (.iaload, 1) := by decide +kernel
theorem dX1_firstFailing_22 : decode cX1_firstFailing 22 = .ok (.iconst 2, 1) := by decide +kernel
theorem dX1_firstFailing_23 : decode cX1_firstFailing 23 = .ok (.if_icmp .ne 12, 3) := by decide +kernel
theorem dX1_firstFailing_26 : decode cX1_firstFailing 26 = .ok (.aload_n 0, 1) := by decide +kernel
theorem dX1_firstFailing_27 : decode cX1_firstFailing 27 = .ok (.iload_n 2, 1) := by decide +kernel
theorem dX1_firstFailing_28 : decode cX1_firstFailing 28 = .ok (.invokevirtual 101, 3) := by decide +kernel
theorem dX1_firstFailing_31 : decode cX1_firstFailing 31 = .ok (.istore_n 3, 1) := by decide +kernel
theorem dX1_firstFailing_32 : decode cX1_firstFailing 32 = .ok (.goto 99, 3) := by decide +kernel
theorem dX1_firstFailing_35 : decode cX1_firstFailing 35 = .ok (.aload_n 0, 1) := by decide +kernel
theorem dX1_firstFailing_36 : decode cX1_firstFailing 36 = .ok (.iload_n 2, 1) := by decide +kernel
theorem dX1_firstFailing_37 : decode cX1_firstFailing 37 = .ok (.iload_n 1, 1) := by decide +kernel
theorem dX1_firstFailing_38 : decode cX1_firstFailing 38 = .ok (.invokevirtual 104, 3) := by decide +kernel
theorem dX1_firstFailing_41 : decode cX1_firstFailing 41 = .ok (.ifCond .ne 8, 3) := by decide +kernel
theorem dX1_firstFailing_44 : decode cX1_firstFailing 44 = .ok (.iconst 0, 1) := by decide +kernel
theorem dX1_firstFailing_45 : decode cX1_firstFailing 45 = .ok (.istore_n 3, 1) := by decide +kernel
theorem dX1_firstFailing_46 : decode cX1_firstFailing 46 = .ok (.goto 85, 3) := by decide +kernel
theorem dX1_firstFailing_49 : decode cX1_firstFailing 49 = .ok (.aload_n 0, 1) := by decide +kernel
theorem dX1_firstFailing_50 : decode cX1_firstFailing 50 = .ok (.getfield 41, 3) := by decide +kernel
theorem dX1_firstFailing_53 : decode cX1_firstFailing 53 = .ok (.getfield 77, 3) := by decide +kernel
theorem dX1_firstFailing_56 : decode cX1_firstFailing 56 = .ok (.iload_n 2, 1) := by decide +kernel
theorem dX1_firstFailing_57 : decode cX1_firstFailing 57 = .ok (.iaload, 1) := by decide +kernel
theorem dX1_firstFailing_58 : decode cX1_firstFailing 58 = .ok (.ifCond .ne 18, 3) := by decide +kernel
theorem dX1_firstFailing_61 : decode cX1_firstFailing 61 = .ok (.aload_n 0, 1) := by decide +kernel
theorem dX1_firstFailing_62 : decode cX1_firstFailing 62 = .ok (.iload_n 2, 1) := by decide +kernel
theorem dX1_firstFailing_63 : decode cX1_firstFailing 63 = .ok (.aload_n 0, 1) := by decide +kernel
theorem dX1_firstFailing_64 : decode cX1_firstFailing 64 = .ok (.getfield 9, 3) := by decide +kernel
theorem dX1_firstFailing_67 : decode cX1_firstFailing 67 = .ok (.iload_n 2, 1) := by decide +kernel
theorem dX1_firstFailing_68 : decode cX1_firstFailing 68 = .ok (.iaload, 1) := by decide +kernel
theorem dX1_firstFailing_69 : decode cX1_firstFailing 69 = .ok (.invokevirtual 108, 3) := by decide +kernel
theorem dX1_firstFailing_72 : decode cX1_firstFailing 72 = .ok (.istore_n 3, 1) := by decide +kernel
theorem dX1_firstFailing_73 : decode cX1_firstFailing 73 = .ok (.goto 58, 3) := by decide +kernel
theorem dX1_firstFailing_76 : decode cX1_firstFailing 76 = .ok (.aload_n 0, 1) := by decide +kernel
theorem dX1_firstFailing_77 : decode cX1_firstFailing 77 = .ok (.getfield 41, 3) := by decide +kernel
theorem dX1_firstFailing_80 : decode cX1_firstFailing 80 = .ok (.getfield 77, 3) := by decide +kernel
theorem dX1_firstFailing_83 : decode cX1_firstFailing 83 = .ok (.iload_n 2, 1) := by decide +kernel
theorem dX1_firstFailing_84 : decode cX1_firstFailing 84 = .ok (.iaload, 1) := by decide +kernel
theorem dX1_firstFailing_85 : decode cX1_firstFailing 85 = .ok (.iconst 1, 1) := by decide +kernel
theorem dX1_firstFailing_86 : decode cX1_firstFailing 86 = .ok (.if_icmp .ne 18, 3) := by decide +kernel
theorem dX1_firstFailing_89 : decode cX1_firstFailing 89 = .ok (.aload_n 0, 1) := by decide +kernel
theorem dX1_firstFailing_90 : decode cX1_firstFailing 90 = .ok (.iload_n 2, 1) := by decide +kernel
theorem dX1_firstFailing_91 : decode cX1_firstFailing 91 = .ok (.aload_n 0, 1) := by decide +kernel
theorem dX1_firstFailing_92 : decode cX1_firstFailing 92 = .ok (.getfield 9, 3) := by decide +kernel
theorem dX1_firstFailing_95 : decode cX1_firstFailing 95 = .ok (.iload_n 2, 1) := by decide +kernel
theorem dX1_firstFailing_96 : decode cX1_firstFailing 96 = .ok (.iaload, 1) := by decide +kernel
theorem dX1_firstFailing_97 : decode cX1_firstFailing 97 = .ok (.invokevirtual 111, 3) := by decide +kernel
theorem dX1_firstFailing_100 : decode cX1_firstFailing 100 = .ok (.istore_n 3, 1) := by decide +kernel
theorem dX1_firstFailing_101 : decode cX1_firstFailing 101 = .ok (.goto 30, 3) := by decide +kernel
theorem dX1_firstFailing_104 : decode cX1_firstFailing 104 = .ok (.aload_n 0, 1) := by decide +kernel
theorem dX1_firstFailing_105 : decode cX1_firstFailing 105 = .ok (.getfield 95, 3) := by decide +kernel
theorem dX1_firstFailing_108 : decode cX1_firstFailing 108 = .ok (.aload_n 0, 1) := by decide +kernel
theorem dX1_firstFailing_109 : decode cX1_firstFailing 109 = .ok (.getfield 37, 3) := by decide +kernel
theorem dX1_firstFailing_112 : decode cX1_firstFailing 112 = .ok (.getfield 114, 3) := by decide +kernel
theorem dX1_firstFailing_115 : decode cX1_firstFailing 115 = .ok (.aload_n 0, 1) := by decide +kernel
theorem dX1_firstFailing_116 : decode cX1_firstFailing 116 = .ok (.getfield 9, 3) := by decide +kernel
theorem dX1_firstFailing_119 : decode cX1_firstFailing 119 = .ok (.iload_n 2, 1) := by decide +kernel
theorem dX1_firstFailing_120 : decode cX1_firstFailing 120 = .ok (.iaload, 1) := by decide +kernel
theorem dX1_firstFailing_121 : decode cX1_firstFailing 121 = .ok (.iaload, 1) := by decide +kernel
theorem dX1_firstFailing_122 : decode cX1_firstFailing 122 = .ok (.if_icmp .ge 7, 3) := by decide +kernel
theorem dX1_firstFailing_125 : decode cX1_firstFailing 125 = .ok (.iconst 1, 1) := by decide +kernel
theorem dX1_firstFailing_126 : decode cX1_firstFailing 126 = .ok (.goto 4, 3) := by decide +kernel
theorem dX1_firstFailing_129 : decode cX1_firstFailing 129 = .ok (.iconst 0, 1) := by decide +kernel
theorem dX1_firstFailing_130 : decode cX1_firstFailing 130 = .ok (.istore_n 3, 1) := by decide +kernel
theorem dX1_firstFailing_131 : decode cX1_firstFailing 131 = .ok (.iload_n 3, 1) := by decide +kernel
theorem dX1_firstFailing_132 : decode cX1_firstFailing 132 = .ok (.ifCond .ne 5, 3) := by decide +kernel
theorem dX1_firstFailing_135 : decode cX1_firstFailing 135 = .ok (.iload_n 2, 1) := by decide +kernel
theorem dX1_firstFailing_136 : decode cX1_firstFailing 136 = .ok (.ireturn, 1) := by decide +kernel
theorem dX1_firstFailing_137 : decode cX1_firstFailing 137 = .ok (.iinc 2 1, 3) := by decide +kernel
theorem dX1_firstFailing_140 : decode cX1_firstFailing 140 = .ok (.goto (-138), 3) := by decide +kernel
theorem dX1_firstFailing_143 : decode cX1_firstFailing 143 = .ok (.aload_n 0, 1) := by decide +kernel
theorem dX1_firstFailing_144 : decode cX1_firstFailing 144 = .ok (.getfield 41, 3) := by decide +kernel
theorem dX1_firstFailing_147 : decode cX1_firstFailing 147 = .ok (.getfield 60, 3) := by decide +kernel
theorem dX1_firstFailing_150 : decode cX1_firstFailing 150 = .ok (.ireturn, 1) := by decide +kernel
theorem dX1_seatPiece_0 : decode cX1_seatPiece 0 = .ok (.iload_n 1, 1) := by decide +kernel
theorem dX1_seatPiece_1 : decode cX1_seatPiece 1 = .ok (.ifCond .ne 7, 3) := by decide +kernel
theorem dX1_seatPiece_4 : decode cX1_seatPiece 4 = .ok (.iload_n 2, 1) := by decide +kernel
theorem dX1_seatPiece_5 : decode cX1_seatPiece 5 = .ok (.goto 16, 3) := by decide +kernel
theorem dX1_seatPiece_8 : decode cX1_seatPiece 8 = .ok (.aload_n 0, 1) := by decide +kernel
theorem dX1_seatPiece_9 : decode cX1_seatPiece 9 = .ok (.aload_n 0, 1) := by decide +kernel
theorem dX1_seatPiece_10 : decode cX1_seatPiece 10 = .ok (.getfield 41, 3) := by decide +kernel
theorem dX1_seatPiece_13 : decode cX1_seatPiece 13 = .ok (.getfield 80, 3) := by decide +kernel
theorem dX1_seatPiece_16 : decode cX1_seatPiece 16 = .ok (.iload_n 1, 1) := by decide +kernel
theorem dX1_seatPiece_17 : decode cX1_seatPiece 17 = .ok (.iaload, 1) := by decide +kernel
theorem dX1_seatPiece_18 : decode cX1_seatPiece 18 = .ok (.invokevirtual 117, 3) := by decide +kernel
theorem dX1_seatPiece_21 : decode cX1_seatPiece 21 = .ok (.istore_n 3, 1) := by decide +kernel
theorem dX1_seatPiece_22 : decode cX1_seatPiece 22 = .ok (.aload_n 0, 1) := by decide +kernel
theorem dX1_seatPiece_23 : decode cX1_seatPiece 23 = .ok (.getfield 9, 3) := by decide +kernel
theorem dX1_seatPiece_26 : decode cX1_seatPiece 26 = .ok (.iload_n 1, 1) := by decide +kernel
theorem dX1_seatPiece_27 : decode cX1_seatPiece 27 = .ok (.iload_n 3, 1) := by decide +kernel
theorem dX1_seatPiece_28 : decode cX1_seatPiece 28 = .ok (.iastore, 1) := by decide +kernel
theorem dX1_seatPiece_29 : decode cX1_seatPiece 29 = .ok (.aload_n 0, 1) := by decide +kernel
theorem dX1_seatPiece_30 : decode cX1_seatPiece 30 = .ok (.getfield 15, 3) := by decide +kernel
theorem dX1_seatPiece_33 : decode cX1_seatPiece 33 = .ok (.iload_n 1, 1) := by decide +kernel
theorem dX1_seatPiece_34 : decode cX1_seatPiece 34 = .ok (.iconst 1, 1) := by decide +kernel
theorem dX1_seatPiece_35 : decode cX1_seatPiece 35 = .ok (.iastore, 1) := by decide +kernel
theorem dX1_seatPiece_36 : decode cX1_seatPiece 36 = .ok (.iload_n 3, 1) := by decide +kernel
theorem dX1_seatPiece_37 : decode cX1_seatPiece 37 = .ok (.ifCond .lt 18, 3) := by decide +kernel
theorem dX1_seatPiece_40 : decode cX1_seatPiece 40 = .ok (.iload_n 3, 1) := by decide +kernel
theorem dX1_seatPiece_41 : decode cX1_seatPiece 41 = .ok (.aload_n 0, 1) := by decide +kernel
theorem dX1_seatPiece_42 : decode cX1_seatPiece 42 = .ok (.getfield 37, 3) := by decide +kernel
theorem dX1_seatPiece_45 : decode cX1_seatPiece 45 = .ok (.getfield 60, 3) := by decide +kernel
theorem dX1_seatPiece_48 : decode cX1_seatPiece 48 = .ok (.if_icmp .ge 7, 3) := by decide +kernel
theorem dX1_seatPiece_51 : decode cX1_seatPiece 51 = .ok (.iconst 1, 1) := by decide +kernel
theorem dX1_seatPiece_52 : decode cX1_seatPiece 52 = .ok (.goto 4, 3) := by decide +kernel
theorem dX1_seatPiece_55 : decode cX1_seatPiece 55 = .ok (.iconst 0, 1) := by decide +kernel
theorem dX1_seatPiece_56 : decode cX1_seatPiece 56 = .ok (.ireturn, 1) := by decide +kernel
theorem dX1_nextNode_0 : decode cX1_nextNode 0 = .ok (.iload_n 1, 1) := by decide +kernel
theorem dX1_nextNode_1 : decode cX1_nextNode 1 = .ok (.ifCond .ge 5, 3) := by decide +kernel
theorem dX1_nextNode_4 : decode cX1_nextNode 4 = .ok (.iconst (-1), 1) := by decide +kernel
theorem dX1_nextNode_5 : decode cX1_nextNode 5 = .ok (.ireturn, 1) := by decide +kernel
theorem dX1_nextNode_6 : decode cX1_nextNode 6 = .ok (.aload_n 0, 1) := by decide +kernel
theorem dX1_nextNode_7 : decode cX1_nextNode 7 = .ok (.getfield 41, 3) := by decide +kernel
theorem dX1_nextNode_10 : decode cX1_nextNode 10 = .ok (.getfield 77, 3) := by decide +kernel
theorem dX1_nextNode_13 : decode cX1_nextNode 13 = .ok (.iload_n 1, 1) := by decide +kernel
theorem dX1_nextNode_14 : decode cX1_nextNode 14 = .ok (.iaload, 1) := by decide +kernel
theorem dX1_nextNode_15 : decode cX1_nextNode 15 = .ok (.iconst 3, 1) := by decide +kernel
theorem dX1_nextNode_16 : decode cX1_nextNode 16 = .ok (.if_icmp .ne 15, 3) := by decide +kernel
theorem dX1_nextNode_19 : decode cX1_nextNode 19 = .ok (.aload_n 0, 1) := by decide +kernel
theorem dX1_nextNode_20 : decode cX1_nextNode 20 = .ok (.getfield 9, 3) := by decide +kernel
theorem dX1_nextNode_23 : decode cX1_nextNode 23 = .ok (.iload_n 1, 1) := by decide +kernel
theorem dX1_nextNode_24 : decode cX1_nextNode 24 = .ok (.iaload, 1) := by decide +kernel
theorem dX1_nextNode_25 : decode cX1_nextNode 25 = .ok (.aload_n 0, 1) := by decide +kernel
theorem dX1_nextNode_26 : decode cX1_nextNode 26 = .ok (.getfield 95, 3) := by decide +kernel
theorem dX1_nextNode_29 : decode cX1_nextNode 29 = .ok (.iadd, 1) := by decide +kernel
theorem dX1_nextNode_30 : decode cX1_nextNode 30 = .ok (.ireturn, 1) := by decide +kernel
theorem dX1_nextNode_31 : decode cX1_nextNode 31 = .ok (.aload_n 0, 1) := by decide +kernel
theorem dX1_nextNode_32 : decode cX1_nextNode 32 = .ok (.getfield 18, 3) := by decide +kernel
theorem dX1_nextNode_35 : decode cX1_nextNode 35 = .ok (.iload_n 1, 1) := by decide +kernel
theorem dX1_nextNode_36 : decode cX1_nextNode 36 = .ok (.iaload, 1) := by decide +kernel
theorem dX1_nextNode_37 : decode cX1_nextNode 37 = .ok (.istore_n 2, 1) := by decide +kernel
theorem dX1_nextNode_38 : decode cX1_nextNode 38 = .ok (.aload_n 0, 1) := by decide +kernel
theorem dX1_nextNode_39 : decode cX1_nextNode 39 = .ok (.getfield 21, 3) := by decide +kernel
theorem dX1_nextNode_42 : decode cX1_nextNode 42 = .ok (.iload_n 1, 1) := by decide +kernel
theorem dX1_nextNode_43 : decode cX1_nextNode 43 = .ok (.iaload, 1) := by decide +kernel
theorem dX1_nextNode_44 : decode cX1_nextNode 44 = .ok (.ifCond .le 18, 3) := by decide +kernel
theorem dX1_nextNode_47 : decode cX1_nextNode 47 = .ok (.iload_n 2, 1) := by decide +kernel
theorem dX1_nextNode_48 : decode cX1_nextNode 48 = .ok (.ifCond .lt 14, 3) := by decide +kernel
theorem dX1_nextNode_51 : decode cX1_nextNode 51 = .ok (.iload_n 2, 1) := by decide +kernel
theorem dX1_nextNode_52 : decode cX1_nextNode 52 = .ok (.aload_n 0, 1) := by decide +kernel
theorem dX1_nextNode_53 : decode cX1_nextNode 53 = .ok (.getfield 37, 3) := by decide +kernel
theorem dX1_nextNode_56 : decode cX1_nextNode 56 = .ok (.getfield 60, 3) := by decide +kernel
theorem dX1_nextNode_59 : decode cX1_nextNode 59 = .ok (.if_icmp .lt 5, 3) := by decide +kernel
theorem dX1_nextNode_62 : decode cX1_nextNode 62 = .ok (.iconst (-1), 1) := by decide +kernel
theorem dX1_nextNode_63 : decode cX1_nextNode 63 = .ok (.ireturn, 1) := by decide +kernel
theorem dX1_nextNode_64 : decode cX1_nextNode 64 = .ok (.aload_n 0, 1) := by decide +kernel
theorem dX1_nextNode_65 : decode cX1_nextNode 65 = .ok (.getfield 18, 3) := by decide +kernel
theorem dX1_nextNode_68 : decode cX1_nextNode 68 = .ok (.iload_n 1, 1) := by decide +kernel
theorem dX1_nextNode_69 : decode cX1_nextNode 69 = .ok (.iload_n 2, 1) := by decide +kernel
theorem dX1_nextNode_70 : decode cX1_nextNode 70 = .ok (.aload_n 0, 1) := by decide +kernel
theorem dX1_nextNode_71 : decode cX1_nextNode 71 = .ok (.getfield 37, 3) := by decide +kernel
theorem dX1_nextNode_74 : decode cX1_nextNode 74 = .ok (.getfield 114, 3) := by decide +kernel
theorem dX1_nextNode_77 : decode cX1_nextNode 77 = .ok (.iload_n 2, 1) := by decide +kernel
theorem dX1_nextNode_78 : decode cX1_nextNode 78 = .ok (.iaload, 1) := by decide +kernel
theorem dX1_nextNode_79 : decode cX1_nextNode 79 = .ok (.iadd, 1) := by decide +kernel
theorem dX1_nextNode_80 : decode cX1_nextNode 80 = .ok (.iastore, 1) := by decide +kernel
theorem dX1_nextNode_81 : decode cX1_nextNode 81 = .ok (.aload_n 0, 1) := by decide +kernel
theorem dX1_nextNode_82 : decode cX1_nextNode 82 = .ok (.getfield 21, 3) := by decide +kernel
theorem dX1_nextNode_85 : decode cX1_nextNode 85 = .ok (.iload_n 1, 1) := by decide +kernel
theorem dX1_nextNode_86 : decode cX1_nextNode 86 = .ok (.dup2, 1) := by decide +kernel
theorem dX1_nextNode_87 : decode cX1_nextNode 87 = .ok (.iaload, 1) := by decide +kernel
theorem dX1_nextNode_88 : decode cX1_nextNode 88 = .ok (.iconst 1, 1) := by decide +kernel
theorem dX1_nextNode_89 : decode cX1_nextNode 89 = .ok (.isub, 1) := by decide +kernel
theorem dX1_nextNode_90 : decode cX1_nextNode 90 = .ok (.iastore, 1) := by decide +kernel
theorem dX1_nextNode_91 : decode cX1_nextNode 91 = .ok (.iload_n 2, 1) := by decide +kernel
theorem dX1_nextNode_92 : decode cX1_nextNode 92 = .ok (.ireturn, 1) := by decide +kernel
theorem dX1_termFits_0 : decode cX1_termFits 0 = .ok (.aload_n 0, 1) := by decide +kernel
theorem dX1_termFits_1 : decode cX1_termFits 1 = .ok (.getfield 37, 3) := by decide +kernel
theorem dX1_termFits_4 : decode cX1_termFits 4 = .ok (.getfield 120, 3) := by decide +kernel
theorem dX1_termFits_7 : decode cX1_termFits 7 = .ok (.iload_n 2, 1) := by decide +kernel
theorem dX1_termFits_8 : decode cX1_termFits 8 = .ok (.iaload, 1) := by decide +kernel
theorem dX1_termFits_9 : decode cX1_termFits 9 = .ok (.istore_n 3, 1) := by decide +kernel
theorem dX1_termFits_10 : decode cX1_termFits 10 = .ok (.aload_n 0, 1) := by decide +kernel
theorem dX1_termFits_11 : decode cX1_termFits 11 = .ok (.getfield 41, 3) := by decide +kernel
theorem dX1_termFits_14 : decode cX1_termFits 14 = .ok (.getfield 120, 3) := by decide +kernel
theorem dX1_termFits_17 : decode cX1_termFits 17 = .ok (.iload_n 1, 1) := by decide +kernel
theorem dX1_termFits_18 : decode cX1_termFits 18 = .ok (.iaload, 1) := by decide +kernel
theorem dX1_termFits_19 : decode cX1_termFits 19 = .ok (.istore 4, 2) := by decide +kernel
theorem dX1_termFits_21 : decode cX1_termFits 21 = .ok (.aload_n 0, 1) := by decide +kernel
theorem dX1_termFits_22 : decode cX1_termFits 22 = .ok (.getfield 37, 3) := by decide +kernel
theorem dX1_termFits_25 : decode cX1_termFits 25 = .ok (.iload_n 2, 1) := by decide +kernel
theorem dX1_termFits_26 : decode cX1_termFits 26 = .ok (.aload_n 0, 1) := by decide +kernel
theorem dX1_termFits_27 : decode cX1_termFits 27 = .ok (.getfield 41, 3) := by decide +kernel
theorem dX1_termFits_30 : decode cX1_termFits 30 = .ok (.iload_n 1, 1) := by decide +kernel
theorem dX1_termFits_31 : decode cX1_termFits 31 = .ok (.invokestatic 123, 3) := by decide +kernel
theorem dX1_termFits_34 : decode cX1_termFits 34 = .ok (.ifCond .ne 5, 3) := by decide +kernel
theorem dX1_termFits_37 : decode cX1_termFits 37 = .ok (.iconst 0, 1) := by decide +kernel
theorem dX1_termFits_38 : decode cX1_termFits 38 = .ok (.ireturn, 1) := by decide +kernel
theorem dX1_termFits_39 : decode cX1_termFits 39 = .ok (.iload_n 3, 1) := by decide +kernel
theorem dX1_termFits_40 : decode cX1_termFits 40 = .ok (.iconst (-1), 1) := by decide +kernel
theorem dX1_termFits_41 : decode cX1_termFits 41 = .ok (.if_icmp .eq 9, 3) := by decide +kernel
theorem dX1_termFits_44 : decode cX1_termFits 44 = .ok (.iload 4, 2) := by decide +kernel
theorem dX1_termFits_46 : decode cX1_termFits 46 = .ok (.iconst (-1), 1) := by decide +kernel
theorem dX1_termFits_47 : decode cX1_termFits 47 = .ok (.if_icmp .ne 15, 3) := by decide +kernel
theorem dX1_termFits_50 : decode cX1_termFits 50 = .ok (.iload_n 3, 1) := by decide +kernel
theorem dX1_termFits_51 : decode cX1_termFits 51 = .ok (.iload 4, 2) := by decide +kernel
theorem dX1_termFits_53 : decode cX1_termFits 53 = .ok (.if_icmp .ne 7, 3) := by decide +kernel
theorem dX1_termFits_56 : decode cX1_termFits 56 = .ok (.iconst 1, 1) := by decide +kernel
theorem dX1_termFits_57 : decode cX1_termFits 57 = .ok (.goto 4, 3) := by decide +kernel
theorem dX1_termFits_60 : decode cX1_termFits 60 = .ok (.iconst 0, 1) := by decide +kernel
theorem dX1_termFits_61 : decode cX1_termFits 61 = .ok (.ireturn, 1) := by decide +kernel
theorem dX1_termFits_62 : decode cX1_termFits 62 = .ok (.aload_n 0, 1) := by decide +kernel
theorem dX1_termFits_63 : decode cX1_termFits 63 = .ok (.getfield 18, 3) := by decide +kernel
theorem dX1_termFits_66 : decode cX1_termFits 66 = .ok (.iload_n 1, 1) := by decide +kernel
theorem dX1_termFits_67 : decode cX1_termFits 67 = .ok (.iload_n 2, 1) := by decide +kernel
theorem dX1_termFits_68 : decode cX1_termFits 68 = .ok (.iconst 1, 1) := by decide +kernel
theorem dX1_termFits_69 : decode cX1_termFits 69 = .ok (.iadd, 1) := by decide +kernel
theorem dX1_termFits_70 : decode cX1_termFits 70 = .ok (.iastore, 1) := by decide +kernel
theorem dX1_termFits_71 : decode cX1_termFits 71 = .ok (.aload_n 0, 1) := by decide +kernel
theorem dX1_termFits_72 : decode cX1_termFits 72 = .ok (.getfield 21, 3) := by decide +kernel
theorem dX1_termFits_75 : decode cX1_termFits 75 = .ok (.iload_n 1, 1) := by decide +kernel
theorem dX1_termFits_76 : decode cX1_termFits 76 = .ok (.iload_n 3, 1) := by decide +kernel
theorem dX1_termFits_77 : decode cX1_termFits 77 = .ok (.iastore, 1) := by decide +kernel
theorem dX1_termFits_78 : decode cX1_termFits 78 = .ok (.aload_n 0, 1) := by decide +kernel
theorem dX1_termFits_79 : decode cX1_termFits 79 = .ok (.getfield 24, 3) := by decide +kernel
theorem dX1_termFits_82 : decode cX1_termFits 82 = .ok (.iload_n 1, 1) := by decide +kernel
theorem dX1_termFits_83 : decode cX1_termFits 83 = .ok (.iaload, 1) := by decide +kernel
theorem dX1_termFits_84 : decode cX1_termFits 84 = .ok (.iload 4, 2) := by decide +kernel
theorem dX1_termFits_86 : decode cX1_termFits 86 = .ok (.if_icmp .ge 7, 3) := by decide +kernel
theorem dX1_termFits_89 : decode cX1_termFits 89 = .ok (.iconst 1, 1) := by decide +kernel
theorem dX1_termFits_90 : decode cX1_termFits 90 = .ok (.goto 4, 3) := by decide +kernel
theorem dX1_termFits_93 : decode cX1_termFits 93 = .ok (.iconst 0, 1) := by decide +kernel
theorem dX1_termFits_94 : decode cX1_termFits 94 = .ok (.istore 5, 2) := by decide +kernel
theorem dX1_termFits_96 : decode cX1_termFits 96 = .ok (.iload 5, 2) := by decide +kernel
theorem dX1_termFits_98 : decode cX1_termFits 98 = .ok (.ifCond .eq 21, 3) := by decide +kernel
theorem dX1_termFits_101 : decode cX1_termFits 101 = .ok (.iload_n 3, 1) := by decide +kernel
theorem dX1_termFits_102 : decode cX1_termFits 102 = .ok (.aload_n 0, 1) := by decide +kernel
theorem dX1_termFits_103 : decode cX1_termFits 103 = .ok (.getfield 24, 3) := by decide +kernel
theorem dX1_termFits_106 : decode cX1_termFits 106 = .ok (.iload_n 1, 1) := by decide +kernel
theorem dX1_termFits_107 : decode cX1_termFits 107 = .ok (.iaload, 1) := by decide +kernel
theorem dX1_termFits_108 : decode cX1_termFits 108 = .ok (.if_icmp .lt 7, 3) := by decide +kernel
theorem dX1_termFits_111 : decode cX1_termFits 111 = .ok (.iconst 1, 1) := by decide +kernel
theorem dX1_termFits_112 : decode cX1_termFits 112 = .ok (.goto 18, 3) := by decide +kernel
theorem dX1_termFits_115 : decode cX1_termFits 115 = .ok (.iconst 0, 1) := by decide +kernel
theorem dX1_termFits_116 : decode cX1_termFits 116 = .ok (.goto 14, 3) := by decide +kernel
theorem dX1_termFits_119 : decode cX1_termFits 119 = .ok (.iload_n 3, 1) := by decide +kernel
theorem dX1_termFits_120 : decode cX1_termFits 120 = .ok (.iload 4, 2) := by decide +kernel
theorem dX1_termFits_122 : decode cX1_termFits 122 = .ok (.if_icmp .ne 7, 3) := by decide +kernel
theorem dX1_termFits_125 : decode cX1_termFits 125 = .ok (.iconst 1, 1) := by decide +kernel
theorem dX1_termFits_126 : decode cX1_termFits 126 = .ok (.goto 4, 3) := by decide +kernel
theorem dX1_termFits_129 : decode cX1_termFits 129 = .ok (.iconst 0, 1) := by decide +kernel
theorem dX1_termFits_130 : decode cX1_termFits 130 = .ok (.ireturn, 1) := by decide +kernel
theorem dX1_holeFits_0 : decode cX1_holeFits 0 = .ok (.aload_n 0, 1) := by decide +kernel
theorem dX1_holeFits_1 : decode cX1_holeFits 1 = .ok (.getfield 41, 3) := by decide +kernel
theorem dX1_holeFits_4 : decode cX1_holeFits 4 = .ok (.getfield 127, 3) := by decide +kernel
theorem dX1_holeFits_7 : decode cX1_holeFits 7 = .ok (.iload_n 1, 1) := by decide +kernel
theorem dX1_holeFits_8 : decode cX1_holeFits 8 = .ok (.iaload, 1) := by decide +kernel
theorem dX1_holeFits_9 : decode cX1_holeFits 9 = .ok (.istore_n 3, 1) := by decide +kernel
theorem dX1_holeFits_10 : decode cX1_holeFits 10 = .ok (.aload_n 0, 1) := by decide +kernel
theorem dX1_holeFits_11 : decode cX1_holeFits 11 = .ok (.getfield 41, 3) := by decide +kernel
theorem dX1_holeFits_14 : decode cX1_holeFits 14 = .ok (.getfield 55, 3) := by decide +kernel
theorem dX1_holeFits_17 : decode cX1_holeFits 17 = .ok (.iload_n 3, 1) := by decide +kernel
theorem dX1_holeFits_18 : decode cX1_holeFits 18 = .ok (.iaload, 1) := by decide +kernel
theorem dX1_holeFits_19 : decode cX1_holeFits 19 = .ok (.istore 4, 2) := by decide +kernel
theorem dX1_holeFits_21 : decode cX1_holeFits 21 = .ok (.iload 4, 2) := by decide +kernel
theorem dX1_holeFits_23 : decode cX1_holeFits 23 = .ok (.iload_n 1, 1) := by decide +kernel
theorem dX1_holeFits_24 : decode cX1_holeFits 24 = .ok (.if_icmp .eq 36, 3) := by decide +kernel
theorem dX1_holeFits_27 : decode cX1_holeFits 27 = .ok (.aload_n 0, 1) := by decide +kernel
theorem dX1_holeFits_28 : decode cX1_holeFits 28 = .ok (.getfield 37, 3) := by decide +kernel
theorem dX1_holeFits_31 : decode cX1_holeFits 31 = .ok (.getfield 130, 3) := by decide +kernel
theorem dX1_holeFits_34 : decode cX1_holeFits 34 = .ok (.aload_n 0, 1) := by decide +kernel
theorem dX1_holeFits_35 : decode cX1_holeFits 35 = .ok (.getfield 9, 3) := by decide +kernel
theorem dX1_holeFits_38 : decode cX1_holeFits 38 = .ok (.iload 4, 2) := by decide +kernel
theorem dX1_holeFits_40 : decode cX1_holeFits 40 = .ok (.iaload, 1) := by decide +kernel
theorem dX1_holeFits_41 : decode cX1_holeFits 41 = .ok (.iaload, 1) := by decide +kernel
theorem dX1_holeFits_42 : decode cX1_holeFits 42 = .ok (.aload_n 0, 1) := by decide +kernel
theorem dX1_holeFits_43 : decode cX1_holeFits 43 = .ok (.getfield 37, 3) := by decide +kernel
theorem dX1_holeFits_46 : decode cX1_holeFits 46 = .ok (.getfield 130, 3) := by decide +kernel
theorem dX1_holeFits_49 : decode cX1_holeFits 49 = .ok (.iload_n 2, 1) := by decide +kernel
theorem dX1_holeFits_50 : decode cX1_holeFits 50 = .ok (.iaload, 1) := by decide +kernel
theorem dX1_holeFits_51 : decode cX1_holeFits 51 = .ok (.if_icmp .ne 7, 3) := by decide +kernel
theorem dX1_holeFits_54 : decode cX1_holeFits 54 = .ok (.iconst 1, 1) := by decide +kernel
theorem dX1_holeFits_55 : decode cX1_holeFits 55 = .ok (.goto 4, 3) := by decide +kernel
theorem dX1_holeFits_58 : decode cX1_holeFits 58 = .ok (.iconst 0, 1) := by decide +kernel
theorem dX1_holeFits_59 : decode cX1_holeFits 59 = .ok (.ireturn, 1) := by decide +kernel
theorem dX1_holeFits_60 : decode cX1_holeFits 60 = .ok (.aload_n 0, 1) := by decide +kernel
theorem dX1_holeFits_61 : decode cX1_holeFits 61 = .ok (.getfield 27, 3) := by decide +kernel
theorem dX1_holeFits_64 : decode cX1_holeFits 64 = .ok (.iload_n 3, 1) := by decide +kernel
theorem dX1_holeFits_65 : decode cX1_holeFits 65 = .ok (.iaload, 1) := by decide +kernel
theorem dX1_holeFits_66 : decode cX1_holeFits 66 = .ok (.ifCond .ne 5, 3) := by decide +kernel
theorem dX1_holeFits_69 : decode cX1_holeFits 69 = .ok (.iconst 1, 1) := by decide +kernel
theorem dX1_holeFits_70 : decode cX1_holeFits 70 = .ok (.ireturn, 1) := by decide +kernel
theorem dX1_holeFits_71 : decode cX1_holeFits 71 = .ok (.iconst 0, 1) := by decide +kernel
theorem dX1_holeFits_72 : decode cX1_holeFits 72 = .ok (.istore 5, 2) := by decide +kernel
theorem dX1_holeFits_74 : decode cX1_holeFits 74 = .ok (.iload 5, 2) := by decide +kernel
theorem dX1_holeFits_76 : decode cX1_holeFits 76 = .ok (.bipush 26, 2) := by decide +kernel
theorem dX1_holeFits_78 : decode cX1_holeFits 78 = .ok (.if_icmp .ge 86, 3) := by decide +kernel
theorem dX1_holeFits_81 : decode cX1_holeFits 81 = .ok (.aload_n 0, 1) := by decide +kernel
theorem dX1_holeFits_82 : decode cX1_holeFits 82 = .ok (.getfield 41, 3) := by decide +kernel
theorem dX1_holeFits_85 : decode cX1_holeFits 85 = .ok (.getfield 55, 3) := by decide +kernel
theorem dX1_holeFits_88 : decode cX1_holeFits 88 = .ok (.iload 5, 2) := by decide +kernel
theorem dX1_holeFits_90 : decode cX1_holeFits 90 = .ok (.iaload, 1) := by decide +kernel
theorem dX1_holeFits_91 : decode cX1_holeFits 91 = .ok (.istore 6, 2) := by decide +kernel
theorem dX1_holeFits_93 : decode cX1_holeFits 93 = .ok (.aload_n 0, 1) := by decide +kernel
theorem dX1_holeFits_94 : decode cX1_holeFits 94 = .ok (.iload_n 3, 1) := by decide +kernel
theorem dX1_holeFits_95 : decode cX1_holeFits 95 = .ok (.iload 5, 2) := by decide +kernel
theorem dX1_holeFits_97 : decode cX1_holeFits 97 = .ok (.invokevirtual 133, 3) := by decide +kernel
theorem dX1_holeFits_100 : decode cX1_holeFits 100 = .ok (.ifCond .eq 58, 3) := by decide +kernel
theorem dX1_holeFits_103 : decode cX1_holeFits 103 = .ok (.iload 6, 2) := by decide +kernel
theorem dX1_holeFits_105 : decode cX1_holeFits 105 = .ok (.iconst (-1), 1) := by decide +kernel
theorem dX1_holeFits_106 : decode cX1_holeFits 106 = .ok (.if_icmp .eq 52, 3) := by decide +kernel
theorem dX1_holeFits_109 : decode cX1_holeFits 109 = .ok (.iload 6, 2) := by decide +kernel
theorem dX1_holeFits_111 : decode cX1_holeFits 111 = .ok (.iload_n 1, 1) := by decide +kernel
theorem dX1_holeFits_112 : decode cX1_holeFits 112 = .ok (.if_icmp .ge 46, 3) := by decide +kernel
theorem dX1_holeFits_115 : decode cX1_holeFits 115 = .ok (.aload_n 0, 1) := by decide +kernel
theorem dX1_holeFits_116 : decode cX1_holeFits 116 = .ok (.getfield 41, 3) := by decide +kernel
theorem dX1_holeFits_119 : decode cX1_holeFits 119 = .ok (.getfield 77, 3) := by decide +kernel
theorem dX1_holeFits_122 : decode cX1_holeFits 122 = .ok (.iload 6, 2) := by decide +kernel
theorem dX1_holeFits_124 : decode cX1_holeFits 124 = .ok (.iaload, 1) := by decide +kernel
theorem dX1_holeFits_125 : decode cX1_holeFits 125 = .ok (.iconst 1, 1) := by decide +kernel
theorem dX1_holeFits_126 : decode cX1_holeFits 126 = .ok (.if_icmp .ne 32, 3) := by decide +kernel
theorem dX1_holeFits_129 : decode cX1_holeFits 129 = .ok (.aload_n 0, 1) := by decide +kernel
theorem dX1_holeFits_130 : decode cX1_holeFits 130 = .ok (.getfield 37, 3) := by decide +kernel
theorem dX1_holeFits_133 : decode cX1_holeFits 133 = .ok (.getfield 130, 3) := by decide +kernel
theorem dX1_holeFits_136 : decode cX1_holeFits 136 = .ok (.aload_n 0, 1) := by decide +kernel
theorem dX1_holeFits_137 : decode cX1_holeFits 137 = .ok (.getfield 9, 3) := by decide +kernel
theorem dX1_holeFits_140 : decode cX1_holeFits 140 = .ok (.iload 6, 2) := by decide +kernel
theorem dX1_holeFits_142 : decode cX1_holeFits 142 = .ok (.iaload, 1) := by decide +kernel
theorem dX1_holeFits_143 : decode cX1_holeFits 143 = .ok (.iaload, 1) := by decide +kernel
theorem dX1_holeFits_144 : decode cX1_holeFits 144 = .ok (.aload_n 0, 1) := by decide +kernel
theorem dX1_holeFits_145 : decode cX1_holeFits 145 = .ok (.getfield 37, 3) := by decide +kernel
theorem dX1_holeFits_148 : decode cX1_holeFits 148 = .ok (.getfield 130, 3) := by decide +kernel
theorem dX1_holeFits_151 : decode cX1_holeFits 151 = .ok (.iload_n 2, 1) := by decide +kernel
theorem dX1_holeFits_152 : decode cX1_holeFits 152 = .ok (.iaload, 1) := by decide +kernel
theorem dX1_holeFits_153 : decode cX1_holeFits 153 = .ok (.if_icmp .ne 5, 3) := by decide +kernel
theorem dX1_holeFits_156 : decode cX1_holeFits 156 = .ok (.iconst 0, 1) := by decide +kernel
theorem dX1_holeFits_157 : decode cX1_holeFits 157 = .ok (.ireturn, 1) := by decide +kernel
theorem dX1_holeFits_158 : decode cX1_holeFits 158 = .ok (.iinc 5 1, 3) := by decide +kernel
theorem dX1_holeFits_161 : decode cX1_holeFits 161 = .ok (.goto (-87), 3) := by decide +kernel
theorem dX1_holeFits_164 : decode cX1_holeFits 164 = .ok (.iconst 1, 1) := by decide +kernel
theorem dX1_holeFits_165 : decode cX1_holeFits 165 = .ok (.ireturn, 1) := by decide +kernel
theorem dX1_rowFits_0 : decode cX1_rowFits 0 = .ok (.aload_n 0, 1) := by decide +kernel
theorem dX1_rowFits_1 : decode cX1_rowFits 1 = .ok (.getfield 41, 3) := by decide +kernel
theorem dX1_rowFits_4 : decode cX1_rowFits 4 = .ok (.getfield 80, 3) := by decide +kernel
theorem dX1_rowFits_7 : decode cX1_rowFits 7 = .ok (.iload_n 1, 1) := by decide +kernel
theorem dX1_rowFits_8 : decode cX1_rowFits 8 = .ok (.iaload, 1) := by decide +kernel
theorem dX1_rowFits_9 : decode cX1_rowFits 9 = .ok (.istore_n 2, 1) := by decide +kernel
