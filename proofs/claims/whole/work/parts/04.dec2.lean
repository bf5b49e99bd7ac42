theorem dX4_readLettered_28 : decode cX4_readLettered 28 = .ok (.iload_n 3, 1) := by decide +kernel
theorem dX4_readLettered_29 : decode cX4_readLettered 29 = .ok (.putfield 25, 3) := by decide +kernel
theorem dX4_readLettered_32 : decode cX4_readLettered 32 = .ok (.iconst 0, 1) := by decide +kernel
theorem dX4_readLettered_33 : decode cX4_readLettered 33 = .ok (.ireturn, 1) := by decide +kernel
theorem dX4_readLettered_34 : decode cX4_readLettered 34 = .ok (.aload_n 1, 1) := by decide +kernel
theorem dX4_readLettered_35 : decode cX4_readLettered 35 = .ok (.getfield 34, 3) := by decide +kernel
theorem dX4_readLettered_38 : decode cX4_readLettered 38 = .ok (.iload_n 3, 1) := by decide +kernel
theorem dX4_readLettered_39 : decode cX4_readLettered 39 = .ok (.iaload, 1) := by decide +kernel
theorem dX4_readLettered_40 : decode cX4_readLettered 40 = .ok (.bipush 97, 2) := by decide +kernel
theorem dX4_readLettered_42 : decode cX4_readLettered 42 = .ok (.isub, 1) := by decide +kernel
theorem dX4_readLettered_43 : decode cX4_readLettered 43 = .ok (.istore 4, 2) := by decide +kernel
theorem dX4_readLettered_45 : decode cX4_readLettered 45 = .ok (.aload_n 1, 1) := by decide +kernel
theorem dX4_readLettered_46 : decode cX4_readLettered 46 = .ok (.iload 4, 2) := by decide +kernel
theorem dX4_readLettered_48 : decode cX4_readLettered 48 = .ok (.invokevirtual 109, 3) := by decide +kernel
theorem dX4_readLettered_51 : decode cX4_readLettered 51 = .ok (.istore 5, 2) := by decide +kernel
theorem dX4_readLettered_53 : decode cX4_readLettered 53 = .ok (.iload 5, 2) := by decide +kernel
theorem dX4_readLettered_55 : decode cX4_readLettered 55 = .ok (.iconst (-1), 1) := by decide +kernel
theorem dX4_readLettered_56 : decode cX4_readLettered 56 = .ok (.if_icmp .eq 9, 3) := by decide +kernel
theorem dX4_readLettered_59 : decode cX4_readLettered 59 = .ok (.iload 5, 2) := by decide +kernel
theorem dX4_readLettered_61 : decode cX4_readLettered 61 = .ok (.iload_n 2, 1) := by decide +kernel
theorem dX4_readLettered_62 : decode cX4_readLettered 62 = .ok (.if_icmp .ne 15, 3) := by decide +kernel
theorem dX4_readLettered_65 : decode cX4_readLettered 65 = .ok (.aload_n 0, 1) := by decide +kernel
theorem dX4_readLettered_66 : decode cX4_readLettered 66 = .ok (.aload_n 1, 1) := by decide +kernel
theorem dX4_readLettered_67 : decode cX4_readLettered 67 = .ok (.iload_n 2, 1) := by decide +kernel
theorem dX4_readLettered_68 : decode cX4_readLettered 68 = .ok (.iload_n 3, 1) := by decide +kernel
theorem dX4_readLettered_69 : decode cX4_readLettered 69 = .ok (.iconst 1, 1) := by decide +kernel
theorem dX4_readLettered_70 : decode cX4_readLettered 70 = .ok (.iadd, 1) := by decide +kernel
theorem dX4_readLettered_71 : decode cX4_readLettered 71 = .ok (.invokevirtual 102, 3) := by decide +kernel
theorem dX4_readLettered_74 : decode cX4_readLettered 74 = .ok (.ifCond .ne 5, 3) := by decide +kernel
theorem dX4_readLettered_77 : decode cX4_readLettered 77 = .ok (.iconst 0, 1) := by decide +kernel
theorem dX4_readLettered_78 : decode cX4_readLettered 78 = .ok (.ireturn, 1) := by decide +kernel
theorem dX4_readLettered_79 : decode cX4_readLettered 79 = .ok (.aload_n 1, 1) := by decide +kernel
theorem dX4_readLettered_80 : decode cX4_readLettered 80 = .ok (.getfield 58, 3) := by decide +kernel
theorem dX4_readLettered_83 : decode cX4_readLettered 83 = .ok (.iconst 1, 1) := by decide +kernel
theorem dX4_readLettered_84 : decode cX4_readLettered 84 = .ok (.isub, 1) := by decide +kernel
theorem dX4_readLettered_85 : decode cX4_readLettered 85 = .ok (.istore 6, 2) := by decide +kernel
theorem dX4_readLettered_87 : decode cX4_readLettered 87 = .ok (.aload_n 1, 1) := by decide +kernel
theorem dX4_readLettered_88 : decode cX4_readLettered 88 = .ok (.getfield 113, 3) := by decide +kernel
theorem dX4_readLettered_91 : decode cX4_readLettered 91 = .ok (.iload 6, 2) := by decide +kernel
theorem dX4_readLettered_93 : decode cX4_readLettered 93 = .ok (.iload 4, 2) := by decide +kernel
theorem dX4_readLettered_95 : decode cX4_readLettered 95 = .ok (.iastore, 1) := by decide +kernel
theorem dX4_readLettered_96 : decode cX4_readLettered 96 = .ok (.iload 5, 2) := by decide +kernel
theorem dX4_readLettered_98 : decode cX4_readLettered 98 = .ok (.iconst (-1), 1) := by decide +kernel
theorem dX4_readLettered_99 : decode cX4_readLettered 99 = .ok (.if_icmp .ne 12, 3) := by decide +kernel
theorem dX4_readLettered_102 : decode cX4_readLettered 102 = .ok (.aload_n 1, 1) := by decide +kernel
theorem dX4_readLettered_103 : decode cX4_readLettered 103 = .ok (.getfield 61, 3) := by decide +kernel
theorem dX4_readLettered_106 : decode cX4_readLettered 106 = .ok (.iload 4, 2) := by decide +kernel
theorem dX4_readLettered_108 : decode cX4_readLettered 108 = .ok (.iload 6, 2) := by decide +kernel
theorem dX4_readLettered_110 : decode cX4_readLettered 110 = .ok (.iastore, 1) := by decide +kernel
theorem dX4_readLettered_111 : decode cX4_readLettered 111 = .ok (.iload_n 2, 1) := by decide +kernel
theorem dX4_readLettered_112 : decode cX4_readLettered 112 = .ok (.iconst 2, 1) := by decide +kernel
theorem dX4_readLettered_113 : decode cX4_readLettered 113 = .ok (.if_icmp .ne 13, 3) := by decide +kernel
theorem dX4_readLettered_116 : decode cX4_readLettered 116 = .ok (.aload_n 0, 1) := by decide +kernel
theorem dX4_readLettered_117 : decode cX4_readLettered 117 = .ok (.dup, 1) := by decide +kernel
theorem dX4_readLettered_118 : decode cX4_readLettered 118 = .ok (.getfield 48, 3) := by decide +kernel
theorem dX4_readLettered_121 : decode cX4_readLettered 121 = .ok (.iconst 1, 1) := by decide +kernel
theorem dX4_readLettered_122 : decode cX4_readLettered 122 = .ok (.iadd, 1) := by decide +kernel
theorem dX4_readLettered_123 : decode cX4_readLettered 123 = .ok (.putfield 48, 3) := by decide +kernel
theorem dX4_readLettered_126 : decode cX4_readLettered 126 = .ok (.aload_n 0, 1) := by decide +kernel
theorem dX4_readLettered_127 : decode cX4_readLettered 127 = .ok (.iconst 4, 1) := by decide +kernel
theorem dX4_readLettered_128 : decode cX4_readLettered 128 = .ok (.putfield 31, 3) := by decide +kernel
theorem dX4_readLettered_131 : decode cX4_readLettered 131 = .ok (.iconst 1, 1) := by decide +kernel
theorem dX4_readLettered_132 : decode cX4_readLettered 132 = .ok (.ireturn, 1) := by decide +kernel
theorem dX4_readDeep_0 : decode cX4_readDeep 0 = .ok (.aload_n 0, 1) := by decide +kernel
theorem dX4_readDeep_1 : decode cX4_readDeep 1 = .ok (.aload_n 1, 1) := by decide +kernel
theorem dX4_readDeep_2 : decode cX4_readDeep 2 = .ok (.getfield 58, 3) := by decide +kernel
theorem dX4_readDeep_5 : decode cX4_readDeep 5 = .ok (.putfield 51, 3) := by decide +kernel
theorem dX4_readDeep_8 : decode cX4_readDeep 8 = .ok (.aload_n 0, 1) := by decide +kernel
theorem dX4_readDeep_9 : decode cX4_readDeep 9 = .ok (.iconst 1, 1) := by decide +kernel
theorem dX4_readDeep_10 : decode cX4_readDeep 10 = .ok (.putfield 54, 3) := by decide +kernel
theorem dX4_readDeep_13 : decode cX4_readDeep 13 = .ok (.aload_n 0, 1) := by decide +kernel
theorem dX4_readDeep_14 : decode cX4_readDeep 14 = .ok (.iconst 2, 1) := by decide +kernel
theorem dX4_readDeep_15 : decode cX4_readDeep 15 = .ok (.putfield 31, 3) := by decide +kernel
theorem dX4_readDeep_18 : decode cX4_readDeep 18 = .ok (.aload_n 0, 1) := by decide +kernel
theorem dX4_readDeep_19 : decode cX4_readDeep 19 = .ok (.aload_n 1, 1) := by decide +kernel
theorem dX4_readDeep_20 : decode cX4_readDeep 20 = .ok (.iconst 3, 1) := by decide +kernel
theorem dX4_readDeep_21 : decode cX4_readDeep 21 = .ok (.aload_n 0, 1) := by decide +kernel
theorem dX4_readDeep_22 : decode cX4_readDeep 22 = .ok (.getfield 25, 3) := by decide +kernel
theorem dX4_readDeep_25 : decode cX4_readDeep 25 = .ok (.iconst 1, 1) := by decide +kernel
theorem dX4_readDeep_26 : decode cX4_readDeep 26 = .ok (.iadd, 1) := by decide +kernel
theorem dX4_readDeep_27 : decode cX4_readDeep 27 = .ok (.invokevirtual 102, 3) := by decide +kernel
theorem dX4_readDeep_30 : decode cX4_readDeep 30 = .ok (.ireturn, 1) := by decide +kernel
theorem dX4_addPiece_0 : decode cX4_addPiece 0 = .ok (.aload_n 1, 1) := by decide +kernel
theorem dX4_addPiece_1 : decode cX4_addPiece 1 = .ok (.getfield 58, 3) := by decide +kernel
theorem dX4_addPiece_4 : decode cX4_addPiece 4 = .ok (.istore 4, 2) := by decide +kernel
theorem dX4_addPiece_6 : decode cX4_addPiece 6 = .ok (.iload 4, 2) := by decide +kernel
theorem dX4_addPiece_8 : decode cX4_addPiece 8 = .ok (.bipush 120, 2) := by decide +kernel
theorem dX4_addPiece_10 : decode cX4_addPiece 10 = .ok (.if_icmp .lt 5, 3) := by decide +kernel
theorem dX4_addPiece_13 : decode cX4_addPiece 13 = .ok (.iconst 0, 1) := by decide +kernel
theorem dX4_addPiece_14 : decode cX4_addPiece 14 = .ok (.ireturn, 1) := by decide +kernel
theorem dX4_addPiece_15 : decode cX4_addPiece 15 = .ok (.aload_n 1, 1) := by decide +kernel
theorem dX4_addPiece_16 : decode cX4_addPiece 16 = .ok (.getfield 99, 3) := by decide +kernel
theorem dX4_addPiece_19 : decode cX4_addPiece 19 = .ok (.iload 4, 2) := by decide +kernel
theorem dX4_addPiece_21 : decode cX4_addPiece 21 = .ok (.iload_n 2, 1) := by decide +kernel
theorem dX4_addPiece_22 : decode cX4_addPiece 22 = .ok (.iastore, 1) := by decide +kernel
theorem dX4_addPiece_23 : decode cX4_addPiece 23 = .ok (.aload_n 1, 1) := by decide +kernel
theorem dX4_addPiece_24 : decode cX4_addPiece 24 = .ok (.getfield 116, 3) := by decide +kernel
theorem dX4_addPiece_27 : decode cX4_addPiece 27 = .ok (.iload 4, 2) := by decide +kernel
theorem dX4_addPiece_29 : decode cX4_addPiece 29 = .ok (.aload_n 0, 1) := by decide +kernel
theorem dX4_addPiece_30 : decode cX4_addPiece 30 = .ok (.getfield 25, 3) := by decide +kernel
theorem dX4_addPiece_33 : decode cX4_addPiece 33 = .ok (.iastore, 1) := by decide +kernel
theorem dX4_addPiece_34 : decode cX4_addPiece 34 = .ok (.aload_n 1, 1) := by decide +kernel
theorem dX4_addPiece_35 : decode cX4_addPiece 35 = .ok (.getfield 119, 3) := by decide +kernel
theorem dX4_addPiece_38 : decode cX4_addPiece 38 = .ok (.iload 4, 2) := by decide +kernel
theorem dX4_addPiece_40 : decode cX4_addPiece 40 = .ok (.iload_n 3, 1) := by decide +kernel
theorem dX4_addPiece_41 : decode cX4_addPiece 41 = .ok (.iastore, 1) := by decide +kernel
theorem dX4_addPiece_42 : decode cX4_addPiece 42 = .ok (.aload_n 1, 1) := by decide +kernel
theorem dX4_addPiece_43 : decode cX4_addPiece 43 = .ok (.getfield 122, 3) := by decide +kernel
theorem dX4_addPiece_46 : decode cX4_addPiece 46 = .ok (.iload 4, 2) := by decide +kernel
theorem dX4_addPiece_48 : decode cX4_addPiece 48 = .ok (.iload_n 3, 1) := by decide +kernel
theorem dX4_addPiece_49 : decode cX4_addPiece 49 = .ok (.iastore, 1) := by decide +kernel
theorem dX4_addPiece_50 : decode cX4_addPiece 50 = .ok (.aload_n 1, 1) := by decide +kernel
theorem dX4_addPiece_51 : decode cX4_addPiece 51 = .ok (.getfield 125, 3) := by decide +kernel
theorem dX4_addPiece_54 : decode cX4_addPiece 54 = .ok (.iload 4, 2) := by decide +kernel
theorem dX4_addPiece_56 : decode cX4_addPiece 56 = .ok (.aload_n 0, 1) := by decide +kernel
theorem dX4_addPiece_57 : decode cX4_addPiece 57 = .ok (.getfield 28, 3) := by decide +kernel
theorem dX4_addPiece_60 : decode cX4_addPiece 60 = .ok (.iastore, 1) := by decide +kernel
theorem dX4_addPiece_61 : decode cX4_addPiece 61 = .ok (.aload_n 1, 1) := by decide +kernel
theorem dX4_addPiece_62 : decode cX4_addPiece 62 = .ok (.getfield 128, 3) := by decide +kernel
theorem dX4_addPiece_65 : decode cX4_addPiece 65 = .ok (.iload 4, 2) := by decide +kernel
theorem dX4_addPiece_67 : decode cX4_addPiece 67 = .ok (.iconst (-1), 1) := by decide +kernel
theorem dX4_addPiece_68 : decode cX4_addPiece 68 = .ok (.iastore, 1) := by decide +kernel
theorem dX4_addPiece_69 : decode cX4_addPiece 69 = .ok (.aload_n 1, 1) := by decide +kernel
theorem dX4_addPiece_70 : decode cX4_addPiece 70 = .ok (.getfield 131, 3) := by decide +kernel
theorem dX4_addPiece_73 : decode cX4_addPiece 73 = .ok (.iload 4, 2) := by decide +kernel
theorem dX4_addPiece_75 : decode cX4_addPiece 75 = .ok (.iconst 1, 1) := by decide +kernel
theorem dX4_addPiece_76 : decode cX4_addPiece 76 = .ok (.iastore, 1) := by decide +kernel
theorem dX4_addPiece_77 : decode cX4_addPiece 77 = .ok (.aload_n 1, 1) := by decide +kernel
theorem dX4_addPiece_78 : decode cX4_addPiece 78 = .ok (.getfield 113, 3) := by decide +kernel
theorem dX4_addPiece_81 : decode cX4_addPiece 81 = .ok (.iload 4, 2) := by decide +kernel
theorem dX4_addPiece_83 : decode cX4_addPiece 83 = .ok (.iconst (-1), 1) := by decide +kernel
theorem dX4_addPiece_84 : decode cX4_addPiece 84 = .ok (.iastore, 1) := by decide +kernel
theorem dX4_addPiece_85 : decode cX4_addPiece 85 = .ok (.aload_n 0, 1) := by decide +kernel
theorem dX4_addPiece_86 : decode cX4_addPiece 86 = .ok (.getfield 28, 3) := by decide +kernel
theorem dX4_addPiece_89 : decode cX4_addPiece 89 = .ok (.iconst (-1), 1) := by decide +kernel
theorem dX4_addPiece_90 : decode cX4_addPiece 90 = .ok (.if_icmp .eq 28, 3) := by decide +kernel
theorem dX4_addPiece_93 : decode cX4_addPiece 93 = .ok (.aload_n 1, 1) := by decide +kernel
theorem dX4_addPiece_94 : decode cX4_addPiece 94 = .ok (.getfield 99, 3) := by decide +kernel
theorem dX4_addPiece_97 : decode cX4_addPiece 97 = .ok (.aload_n 0, 1) := by decide +kernel
theorem dX4_addPiece_98 : decode cX4_addPiece 98 = .ok (.getfield 28, 3) := by decide +kernel
theorem dX4_addPiece_101 : decode cX4_addPiece 101 = .ok (.iaload, 1) := by decide +kernel
theorem dX4_addPiece_102 : decode cX4_addPiece 102 = .ok (.ifCond .ne 16, 3) := by decide +kernel
theorem dX4_addPiece_105 : decode cX4_addPiece 105 = .ok (.aload_n 1, 1) := by decide +kernel
theorem dX4_addPiece_106 : decode cX4_addPiece 106 = .ok (.getfield 128, 3) := by decide +kernel
theorem dX4_addPiece_109 : decode cX4_addPiece 109 = .ok (.aload_n 0, 1) := by decide +kernel
theorem dX4_addPiece_110 : decode cX4_addPiece 110 = .ok (.getfield 28, 3) := by decide +kernel
theorem dX4_addPiece_113 : decode cX4_addPiece 113 = .ok (.dup2, 1) := by decide +kernel
theorem dX4_addPiece_114 : decode cX4_addPiece 114 = .ok (.iaload, 1) := by decide +kernel
theorem dX4_addPiece_115 : decode cX4_addPiece 115 = .ok (.iconst 1, 1) := by decide +kernel
theorem dX4_addPiece_116 : decode cX4_addPiece 116 = .ok (.iadd, 1) := by decide +kernel
theorem dX4_addPiece_117 : decode cX4_addPiece 117 = .ok (.iastore, 1) := by decide +kernel
theorem dX4_addPiece_118 : decode cX4_addPiece 118 = .ok (.aload_n 1, 1) := by decide +kernel
theorem dX4_addPiece_119 : decode cX4_addPiece 119 = .ok (.iload 4, 2) := by decide +kernel
theorem dX4_addPiece_121 : decode cX4_addPiece 121 = .ok (.iconst 1, 1) := by decide +kernel
theorem dX4_addPiece_122 : decode cX4_addPiece 122 = .ok (.iadd, 1) := by decide +kernel
theorem dX4_addPiece_123 : decode cX4_addPiece 123 = .ok (.putfield 58, 3) := by decide +kernel
theorem dX4_addPiece_126 : decode cX4_addPiece 126 = .ok (.aload_n 0, 1) := by decide +kernel
theorem dX4_addPiece_127 : decode cX4_addPiece 127 = .ok (.iload_n 3, 1) := by decide +kernel
theorem dX4_addPiece_128 : decode cX4_addPiece 128 = .ok (.putfield 25, 3) := by decide +kernel
theorem dX4_addPiece_131 : decode cX4_addPiece 131 = .ok (.iconst 1, 1) := by decide +kernel
theorem dX4_addPiece_132 : decode cX4_addPiece 132 = .ok (.ireturn, 1) := by decide +kernel
theorem dX4_readOpening_0 : decode cX4_readOpening 0 = .ok (.aload_n 0, 1) := by decide +kernel
theorem dX4_readOpening_1 : decode cX4_readOpening 1 = .ok (.getfield 45, 3) := by decide +kernel
theorem dX4_readOpening_4 : decode cX4_readOpening 4 = .ok (.bipush 12, 2) := by decide +kernel
theorem dX4_readOpening_6 : decode cX4_readOpening 6 = .ok (.if_icmp .ge 10, 3) := by decide +kernel
theorem dX4_readOpening_9 : decode cX4_readOpening 9 = .ok (.aload_n 1, 1) := by decide +kernel
theorem dX4_readOpening_10 : decode cX4_readOpening 10 = .ok (.getfield 58, 3) := by decide +kernel
theorem dX4_readOpening_13 : decode cX4_readOpening 13 = .ok (.ifCond .ne 5, 3) := by decide +kernel
theorem dX4_readOpening_16 : decode cX4_readOpening 16 = .ok (.iconst 0, 1) := by decide +kernel
theorem dX4_readOpening_17 : decode cX4_readOpening 17 = .ok (.ireturn, 1) := by decide +kernel
theorem dX4_readOpening_18 : decode cX4_readOpening 18 = .ok (.aload_n 0, 1) := by decide +kernel
theorem dX4_readOpening_19 : decode cX4_readOpening 19 = .ok (.aload_n 1, 1) := by decide +kernel
theorem dX4_readOpening_20 : decode cX4_readOpening 20 = .ok (.getfield 58, 3) := by decide +kernel
theorem dX4_readOpening_23 : decode cX4_readOpening 23 = .ok (.iconst 1, 1) := by decide +kernel
theorem dX4_readOpening_24 : decode cX4_readOpening 24 = .ok (.isub, 1) := by decide +kernel
theorem dX4_readOpening_25 : decode cX4_readOpening 25 = .ok (.putfield 28, 3) := by decide +kernel
theorem dX4_readOpening_28 : decode cX4_readOpening 28 = .ok (.aload_n 0, 1) := by decide +kernel
theorem dX4_readOpening_29 : decode cX4_readOpening 29 = .ok (.dup, 1) := by decide +kernel
theorem dX4_readOpening_30 : decode cX4_readOpening 30 = .ok (.getfield 45, 3) := by decide +kernel
theorem dX4_readOpening_33 : decode cX4_readOpening 33 = .ok (.iconst 1, 1) := by decide +kernel
theorem dX4_readOpening_34 : decode cX4_readOpening 34 = .ok (.iadd, 1) := by decide +kernel
theorem dX4_readOpening_35 : decode cX4_readOpening 35 = .ok (.putfield 45, 3) := by decide +kernel
theorem dX4_readOpening_38 : decode cX4_readOpening 38 = .ok (.aload_n 0, 1) := by decide +kernel
theorem dX4_readOpening_39 : decode cX4_readOpening 39 = .ok (.dup, 1) := by decide +kernel
theorem dX4_readOpening_40 : decode cX4_readOpening 40 = .ok (.getfield 25, 3) := by decide +kernel
theorem dX4_readOpening_43 : decode cX4_readOpening 43 = .ok (.iconst 1, 1) := by decide +kernel
theorem dX4_readOpening_44 : decode cX4_readOpening 44 = .ok (.iadd, 1) := by decide +kernel
theorem dX4_readOpening_45 : decode cX4_readOpening 45 = .ok (.putfield 25, 3) := by decide +kernel
theorem dX4_readOpening_48 : decode cX4_readOpening 48 = .ok (.aload_n 1, 1) := by decide +kernel
theorem dX4_readOpening_49 : decode cX4_readOpening 49 = .ok (.getfield 99, 3) := by decide +kernel
theorem dX4_readOpening_52 : decode cX4_readOpening 52 = .ok (.aload_n 0, 1) := by decide +kernel
theorem dX4_readOpening_53 : decode cX4_readOpening 53 = .ok (.getfield 28, 3) := by decide +kernel
theorem dX4_readOpening_56 : decode cX4_readOpening 56 = .ok (.iaload, 1) := by decide +kernel
theorem dX4_readOpening_57 : decode cX4_readOpening 57 = .ok (.ifCond .ne 21, 3) := by decide +kernel
theorem dX4_readOpening_60 : decode cX4_readOpening 60 = .ok (.aload_n 1, 1) := by decide +kernel
theorem dX4_readOpening_61 : decode cX4_readOpening 61 = .ok (.getfield 128, 3) := by decide +kernel
theorem dX4_readOpening_64 : decode cX4_readOpening 64 = .ok (.aload_n 0, 1) := by decide +kernel
theorem dX4_readOpening_65 : decode cX4_readOpening 65 = .ok (.getfield 28, 3) := by decide +kernel
theorem dX4_readOpening_68 : decode cX4_readOpening 68 = .ok (.iconst 0, 1) := by decide +kernel
theorem dX4_readOpening_69 : decode cX4_readOpening 69 = .ok (.iastore, 1) := by decide +kernel
theorem dX4_readOpening_70 : decode cX4_readOpening 70 = .ok (.aload_n 0, 1) := by decide +kernel
theorem dX4_readOpening_71 : decode cX4_readOpening 71 = .ok (.iconst 1, 1) := by decide +kernel
theorem dX4_readOpening_72 : decode cX4_readOpening 72 = .ok (.putfield 31, 3) := by decide +kernel
theorem dX4_readOpening_75 : decode cX4_readOpening 75 = .ok (.goto 8, 3) := by decide +kernel
theorem dX4_readOpening_78 : decode cX4_readOpening 78 = .ok (.aload_n 0, 1) := by decide +kernel
theorem dX4_readOpening_79 : decode cX4_readOpening 79 = .ok (.iconst 0, 1) := by decide +kernel
theorem dX4_readOpening_80 : decode cX4_readOpening 80 = .ok (.putfield 31, 3) := by decide +kernel
theorem dX4_readOpening_83 : decode cX4_readOpening 83 = .ok (.iconst 1, 1) := by decide +kernel
theorem dX4_readOpening_84 : decode cX4_readOpening 84 = .ok (.ireturn, 1) := by decide +kernel
theorem dX4_readBehindPiece_0 : decode cX4_readBehindPiece 0 = .ok (.iload_n 2, 1) := by decide +kernel
theorem dX4_readBehindPiece_1 : decode cX4_readBehindPiece 1 = .ok (.bipush 41, 2) := by decide +kernel
theorem dX4_readBehindPiece_3 : decode cX4_readBehindPiece 3 = .ok (.if_icmp .ne 9, 3) := by decide +kernel
theorem dX4_readBehindPiece_6 : decode cX4_readBehindPiece 6 = .ok (.aload_n 0, 1) := by decide +kernel
theorem dX4_readBehindPiece_7 : decode cX4_readBehindPiece 7 = .ok (.aload_n 1, 1) := by decide +kernel
theorem dX4_readBehindPiece_8 : decode cX4_readBehindPiece 8 = .ok (.invokevirtual 71, 3) := by decide +kernel
theorem dX4_readBehindPiece_11 : decode cX4_readBehindPiece 11 = .ok (.ireturn, 1) := by decide +kernel
theorem dX4_readBehindPiece_12 : decode cX4_readBehindPiece 12 = .ok (.iload_n 2, 1) := by decide +kernel
theorem dX4_readBehindPiece_13 : decode cX4_readBehindPiece 13 = .ok (.bipush 44, 2) := by decide +kernel
theorem dX4_readBehindPiece_15 : decode cX4_readBehindPiece 15 = .ok (.if_icmp .ne 11, 3) := by decide +kernel
theorem dX4_readBehindPiece_18 : decode cX4_readBehindPiece 18 = .ok (.aload_n 0, 1) := by decide +kernel
theorem dX4_readBehindPiece_19 : decode cX4_readBehindPiece 19 = .ok (.aload_n 1, 1) := by decide +kernel
theorem dX4_readBehindPiece_20 : decode cX4_readBehindPiece 20 = .ok (.invokevirtual 96, 3) := by decide +kernel
theorem dX4_readBehindPiece_23 : decode cX4_readBehindPiece 23 = .ok (.ifCond .ne 5, 3) := by decide +kernel
theorem dX4_readBehindPiece_26 : decode cX4_readBehindPiece 26 = .ok (.iconst 0, 1) := by decide +kernel
theorem dX4_readBehindPiece_27 : decode cX4_readBehindPiece 27 = .ok (.ireturn, 1) := by decide +kernel
theorem dX4_readBehindPiece_28 : decode cX4_readBehindPiece 28 = .ok (.aload_n 0, 1) := by decide +kernel
theorem dX4_readBehindPiece_29 : decode cX4_readBehindPiece 29 = .ok (.dup, 1) := by decide +kernel
theorem dX4_readBehindPiece_30 : decode cX4_readBehindPiece 30 = .ok (.getfield 25, 3) := by decide +kernel
theorem dX4_readBehindPiece_33 : decode cX4_readBehindPiece 33 = .ok (.iconst 1, 1) := by decide +kernel
theorem dX4_readBehindPiece_34 : decode cX4_readBehindPiece 34 = .ok (.iadd, 1) := by decide +kernel
theorem dX4_readBehindPiece_35 : decode cX4_readBehindPiece 35 = .ok (.putfield 25, 3) := by decide +kernel
theorem dX4_readBehindPiece_38 : decode cX4_readBehindPiece 38 = .ok (.aload_n 0, 1) := by decide +kernel
theorem dX4_readBehindPiece_39 : decode cX4_readBehindPiece 39 = .ok (.iconst 0, 1) := by decide +kernel
theorem dX4_readBehindPiece_40 : decode cX4_readBehindPiece 40 = .ok (.putfield 31, 3) := by decide +kernel
theorem dX4_readBehindPiece_43 : decode cX4_readBehindPiece 43 = .ok (.iconst 1, 1) := by decide +kernel
theorem dX4_readBehindPiece_44 : decode cX4_readBehindPiece 44 = .ok (.ireturn, 1) := by decide +kernel
theorem dX4_readClosing_0 : decode cX4_readClosing 0 = .ok (.aload_n 0, 1) := by decide +kernel
theorem dX4_readClosing_1 : decode cX4_readClosing 1 = .ok (.getfield 28, 3) := by decide +kernel
theorem dX4_readClosing_4 : decode cX4_readClosing 4 = .ok (.iconst (-1), 1) := by decide +kernel
theorem dX4_readClosing_5 : decode cX4_readClosing 5 = .ok (.if_icmp .ne 5, 3) := by decide +kernel
theorem dX4_readClosing_8 : decode cX4_readClosing 8 = .ok (.iconst 0, 1) := by decide +kernel
theorem dX4_readClosing_9 : decode cX4_readClosing 9 = .ok (.ireturn, 1) := by decide +kernel
theorem dX4_readClosing_10 : decode cX4_readClosing 10 = .ok (.aload_n 0, 1) := by decide +kernel
theorem dX4_readClosing_11 : decode cX4_readClosing 11 = .ok (.dup, 1) := by decide +kernel
theorem dX4_readClosing_12 : decode cX4_readClosing 12 = .ok (.getfield 25, 3) := by decide +kernel
theorem dX4_readClosing_15 : decode cX4_readClosing 15 = .ok (.iconst 1, 1) := by decide +kernel
theorem dX4_readClosing_16 : decode cX4_readClosing 16 = .ok (.iadd, 1) := by decide +kernel
theorem dX4_readClosing_17 : decode cX4_readClosing 17 = .ok (.putfield 25, 3) := by decide +kernel
theorem dX4_readClosing_20 : decode cX4_readClosing 20 = .ok (.aload_n 0, 1) := by decide +kernel
theorem dX4_readClosing_21 : decode cX4_readClosing 21 = .ok (.dup, 1) := by decide +kernel
theorem dX4_readClosing_22 : decode cX4_readClosing 22 = .ok (.getfield 45, 3) := by decide +kernel
theorem dX4_readClosing_25 : decode cX4_readClosing 25 = .ok (.iconst 1, 1) := by decide +kernel
theorem dX4_readClosing_26 : decode cX4_readClosing 26 = .ok (.isub, 1) := by decide +kernel
theorem dX4_readClosing_27 : decode cX4_readClosing 27 = .ok (.putfield 45, 3) := by decide +kernel
theorem dX4_readClosing_30 : decode cX4_readClosing 30 = .ok (.aload_n 1, 1) := by decide +kernel
theorem dX4_readClosing_31 : decode cX4_readClosing 31 = .ok (.getfield 122, 3) := by decide +kernel
theorem dX4_readClosing_34 : decode cX4_readClosing 34 = .ok (.aload_n 0, 1) := by decide +kernel
theorem dX4_readClosing_35 : decode cX4_readClosing 35 = .ok (.getfield 28, 3) := by decide +kernel
theorem dX4_readClosing_38 : decode cX4_readClosing 38 = .ok (.aload_n 0, 1) := by decide +kernel
theorem dX4_readClosing_39 : decode cX4_readClosing 39 = .ok (.getfield 25, 3) := by decide +kernel
theorem dX4_readClosing_42 : decode cX4_readClosing 42 = .ok (.iastore, 1) := by decide +kernel
theorem dX4_readClosing_43 : decode cX4_readClosing 43 = .ok (.aload_n 1, 1) := by decide +kernel
theorem dX4_readClosing_44 : decode cX4_readClosing 44 = .ok (.getfield 131, 3) := by decide +kernel
theorem dX4_readClosing_47 : decode cX4_readClosing 47 = .ok (.aload_n 0, 1) := by decide +kernel
theorem dX4_readClosing_48 : decode cX4_readClosing 48 = .ok (.getfield 28, 3) := by decide +kernel
theorem dX4_readClosing_51 : decode cX4_readClosing 51 = .ok (.aload_n 1, 1) := by decide +kernel
theorem dX4_readClosing_52 : decode cX4_readClosing 52 = .ok (.getfield 58, 3) := by decide +kernel
theorem dX4_readClosing_55 : decode cX4_readClosing 55 = .ok (.aload_n 0, 1) := by decide +kernel
theorem dX4_readClosing_56 : decode cX4_readClosing 56 = .ok (.getfield 28, 3) := by decide +kernel
theorem dX4_readClosing_59 : decode cX4_readClosing 59 = .ok (.isub, 1) := by decide +kernel
theorem dX4_readClosing_60 : decode cX4_readClosing 60 = .ok (.iastore, 1) := by decide +kernel
theorem dX4_readClosing_61 : decode cX4_readClosing 61 = .ok (.aload_n 0, 1) := by decide +kernel
theorem dX4_readClosing_62 : decode cX4_readClosing 62 = .ok (.getfield 28, 3) := by decide +kernel
theorem dX4_readClosing_65 : decode cX4_readClosing 65 = .ok (.aload_n 0, 1) := by decide +kernel
theorem dX4_readClosing_66 : decode cX4_readClosing 66 = .ok (.getfield 51, 3) := by decide +kernel
theorem dX4_readClosing_69 : decode cX4_readClosing 69 = .ok (.if_icmp .ne 8, 3) := by decide +kernel
theorem dX4_readClosing_72 : decode cX4_readClosing 72 = .ok (.aload_n 0, 1) := by decide +kernel
theorem dX4_readClosing_73 : decode cX4_readClosing 73 = .ok (.iconst 0, 1) := by decide +kernel
theorem dX4_readClosing_74 : decode cX4_readClosing 74 = .ok (.putfield 54, 3) := by decide +kernel
theorem dX4_readClosing_77 : decode cX4_readClosing 77 = .ok (.aload_n 0, 1) := by decide +kernel
theorem dX4_readClosing_78 : decode cX4_readClosing 78 = .ok (.aload_n 1, 1) := by decide +kernel
theorem dX4_readClosing_79 : decode cX4_readClosing 79 = .ok (.getfield 125, 3) := by decide +kernel
theorem dX4_readClosing_82 : decode cX4_readClosing 82 = .ok (.aload_n 0, 1) := by decide +kernel
theorem dX4_readClosing_83 : decode cX4_readClosing 83 = .ok (.getfield 28, 3) := by decide +kernel
theorem dX4_readClosing_86 : decode cX4_readClosing 86 = .ok (.iaload, 1) := by decide +kernel
theorem dX4_readClosing_87 : decode cX4_readClosing 87 = .ok (.putfield 28, 3) := by decide +kernel
theorem dX4_readClosing_90 : decode cX4_readClosing 90 = .ok (.aload_n 0, 1) := by decide +kernel
theorem dX4_readClosing_91 : decode cX4_readClosing 91 = .ok (.iconst 4, 1) := by decide +kernel
theorem dX4_readClosing_92 : decode cX4_readClosing 92 = .ok (.putfield 31, 3) := by decide +kernel
theorem dX4_readClosing_95 : decode cX4_readClosing 95 = .ok (.iconst 1, 1) := by decide +kernel
theorem dX4_readClosing_96 : decode cX4_readClosing 96 = .ok (.ireturn, 1) := by decide +kernel
theorem dX5_init_0 : decode cX5_init 0 = .ok (.aload_n 0, 1) := by decide +kernel
theorem dX5_init_1 : decode cX5_init 1 = .ok (.invokespecial 3, 3) := by decide +kernel
theorem dX5_init_4 : decode cX5_init 4 = .ok (.aload_n 0, 1) := by decide +kernel
theorem dX5_init_5 : decode cX5_init 5 = .ok (.sipush 240, 3) := by decide +kernel
theorem dX5_init_8 : decode cX5_init 8 = .ok (.newarray .int, 2) := by decide +kernel
theorem dX5_init_10 : decode cX5_init 10 = .ok (.putfield 9, 3) := by decide +kernel
theorem dX5_init_13 : decode cX5_init 13 = .ok (.aload_n 0, 1) := by decide +kernel
theorem dX5_init_14 : decode cX5_init 14 = .ok (.bipush 120, 2) := by decide +kernel
theorem dX5_init_16 : decode cX5_init 16 = .ok (.newarray .int, 2) := by decide +kernel
theorem dX5_init_18 : decode cX5_init 18 = .ok (.putfield 15, 3) := by decide +kernel
theorem dX5_init_21 : decode cX5_init 21 = .ok (.aload_n 0, 1) := by decide +kernel
theorem dX5_init_22 : decode cX5_init 22 = .ok (.bipush 120, 2) := by decide +kernel
theorem dX5_init_24 : decode cX5_init 24 = .ok (.newarray .int, 2) := by decide +kernel
theorem dX5_init_26 : decode cX5_init 26 = .ok (.putfield 18, 3) := by decide +kernel
theorem dX5_init_29 : decode cX5_init 29 = .ok (.aload_n 0, 1) := by decide +kernel
theorem dX5_init_30 : decode cX5_init 30 = .ok (.bipush 120, 2) := by decide +kernel
theorem dX5_init_32 : decode cX5_init 32 = .ok (.newarray .int, 2) := by decide +kernel
theorem dX5_init_34 : decode cX5_init 34 = .ok (.putfield 21, 3) := by decide +kernel
theorem dX5_init_37 : decode cX5_init 37 = .ok (.aload_n 0, 1) := by decide +kernel
theorem dX5_init_38 : decode cX5_init 38 = .ok (.bipush 120, 2) := by decide +kernel
theorem dX5_init_40 : decode cX5_init 40 = .ok (.newarray .int, 2) := by decide +kernel
theorem dX5_init_42 : decode cX5_init 42 = .ok (.putfield 24, 3) := by decide +kernel
theorem dX5_init_45 : decode cX5_init 45 = .ok (.aload_n 0, 1) := by decide +kernel
theorem dX5_init_46 : decode cX5_init 46 = .ok (.bipush 120, 2) := by decide +kernel
theorem dX5_init_48 : decode cX5_init 48 = .ok (.newarray .int, 2) := by decide +kernel
theorem dX5_init_50 : decode cX5_init 50 = .ok (.putfield 27, 3) := by decide +kernel
theorem dX5_init_53 : decode cX5_init 53 = .ok (.aload_n 0, 1) := by decide +kernel
theorem dX5_init_54 : decode cX5_init 54 = .ok (.bipush 120, 2) := by decide +kernel
theorem dX5_init_56 : decode cX5_init 56 = .ok (.newarray .int, 2) := by decide +kernel
theorem dX5_init_58 : decode cX5_init 58 = .ok (.putfield 30, 3) := by decide +kernel
theorem dX5_init_61 : decode cX5_init 61 = .ok (.aload_n 0, 1) := by decide +kernel
theorem dX5_init_62 : decode cX5_init 62 = .ok (.bipush 120, 2) := by decide +kernel
theorem dX5_init_64 : decode cX5_init 64 = .ok (.newarray .int, 2) := by decide +kernel
theorem dX5_init_66 : decode cX5_init 66 = .ok (.putfield 33, 3) := by decide +kernel
theorem dX5_init_69 : decode cX5_init 69 = .ok (.aload_n 0, 1) := by decide +kernel
theorem dX5_init_70 : decode cX5_init 70 = .ok (.bipush 120, 2) := by decide +kernel
theorem dX5_init_72 : decode cX5_init 72 = .ok (.newarray .int, 2) := by decide +kernel
theorem dX5_init_74 : decode cX5_init 74 = .ok (.putfield 36, 3) := by decide +kernel
theorem dX5_init_77 : decode cX5_init 77 = .ok (.aload_n 0, 1) := by decide +kernel
theorem dX5_init_78 : decode cX5_init 78 = .ok (.bipush 26, 2) := by decide +kernel
theorem dX5_init_80 : decode cX5_init 80 = .ok (.newarray .int, 2) := by decide +kernel
theorem dX5_init_82 : decode cX5_init 82 = .ok (.putfield 39, 3) := by decide +kernel
theorem dX5_init_85 : decode cX5_init 85 = .ok (.aload_n 0, 1) := by decide +kernel
theorem dX5_init_86 : decode cX5_init 86 = .ok (.bipush 120, 2) := by decide +kernel
theorem dX5_init_88 : decode cX5_init 88 = .ok (.newarray .int, 2) := by decide +kernel
theorem dX5_init_90 : decode cX5_init 90 = .ok (.putfield 42, 3) := by decide +kernel
theorem dX5_init_93 : decode cX5_init 93 = .ok (.return_, 1) := by decide +kernel
theorem dX5_load_0 : decode cX5_load 0 = .ok (.aload_n 0, 1) := by decide +kernel
theorem dX5_load_1 : decode cX5_load 1 = .ok (.iconst 0, 1) := by decide +kernel
theorem dX5_load_2 : decode cX5_load 2 = .ok (.putfield 45, 3) := by decide +kernel
theorem dX5_load_5 : decode cX5_load 5 = .ok (.aload_n 0, 1) := by decide +kernel
theorem dX5_load_6 : decode cX5_load 6 = .ok (.aload_n 1, 1) := by decide +kernel
theorem dX5_load_7 : decode cX5_load 7 = .ok (.iconst 0, 1) := by decide +kernel
theorem dX5_load_8 : decode cX5_load 8 = .ok (.iload_n 2, 1) := by decide +kernel
theorem dX5_load_9 : decode cX5_load 9 = .ok (.invokevirtual 49, 3) := by decide +kernel
theorem dX5_load_12 : decode cX5_load 12 = .ok (.pop, 1) := by decide +kernel
theorem dX5_load_13 : decode cX5_load 13 = .ok (.return_, 1) := by decide +kernel
theorem dX5_copyOf_0 : decode cX5_copyOf 0 = .ok (.aload_n 0, 1) := by decide +kernel
theorem dX5_copyOf_1 : decode cX5_copyOf 1 = .ok (.aload_n 1, 1) := by decide +kernel
theorem dX5_copyOf_2 : decode cX5_copyOf 2 = .ok (.getfield 45, 3) := by decide +kernel
theorem dX5_copyOf_5 : decode cX5_copyOf 5 = .ok (.putfield 45, 3) := by decide +kernel
theorem dX5_copyOf_8 : decode cX5_copyOf 8 = .ok (.aload_n 0, 1) := by decide +kernel
theorem dX5_copyOf_9 : decode cX5_copyOf 9 = .ok (.aload_n 1, 1) := by decide +kernel
theorem dX5_copyOf_10 : decode cX5_copyOf 10 = .ok (.getfield 53, 3) := by decide +kernel
theorem dX5_copyOf_13 : decode cX5_copyOf 13 = .ok (.putfield 53, 3) := by decide +kernel
theorem dX5_copyOf_16 : decode cX5_copyOf 16 = .ok (.aload_n 1, 1) := by decide +kernel
theorem dX5_copyOf_17 : decode cX5_copyOf 17 = .ok (.getfield 9, 3) := by decide +kernel
theorem dX5_copyOf_20 : decode cX5_copyOf 20 = .ok (.iconst 0, 1) := by decide +kernel
theorem dX5_copyOf_21 : decode cX5_copyOf 21 = .ok (.aload_n 0, 1) := by decide +kernel
theorem dX5_copyOf_22 : decode cX5_copyOf 22 = .ok (.getfield 9, 3) := by decide +kernel
theorem dX5_copyOf_25 : decode cX5_copyOf 25 = .ok (.iconst 0, 1) := by decide +kernel
theorem dX5_copyOf_26 : decode cX5_copyOf 26 = .ok (.aload_n 0, 1) := by decide +kernel
theorem dX5_copyOf_27 : decode cX5_copyOf 27 = .ok (.getfield 45, 3) := by decide +kernel
theorem dX5_copyOf_30 : decode cX5_copyOf 30 = .ok (.invokestatic 56, 3) := by decide +kernel
theorem dX5_copyOf_33 : decode cX5_copyOf 33 = .ok (.aload_n 1, 1) := by decide +kernel
theorem dX5_copyOf_34 : decode cX5_copyOf 34 = .ok (.getfield 15, 3) := by decide +kernel
theorem dX5_copyOf_37 : decode cX5_copyOf 37 = .ok (.iconst 0, 1) := by decide +kernel
theorem dX5_copyOf_38 : decode cX5_copyOf 38 = .ok (.aload_n 0, 1) := by decide +kernel
theorem dX5_copyOf_39 : decode cX5_copyOf 39 = .ok (.getfield 15, 3) := by decide +kernel
theorem dX5_copyOf_42 : decode cX5_copyOf 42 = .ok (.iconst 0, 1) := by decide +kernel
theorem dX5_copyOf_43 : decode cX5_copyOf 43 = .ok (.aload_n 0, 1) := by decide +kernel
theorem dX5_copyOf_44 : decode cX5_copyOf 44 = .ok (.getfield 53, 3) := by decide +kernel
theorem dX5_copyOf_47 : decode cX5_copyOf 47 = .ok (.invokestatic 56, 3) := by decide +kernel
theorem dX5_copyOf_50 : decode cX5_copyOf 50 = .ok (.aload_n 1, 1) := by decide +kernel
theorem dX5_copyOf_51 : decode cX5_copyOf 51 = .ok (.getfield 18, 3) := by decide +kernel
theorem dX5_copyOf_54 : decode cX5_copyOf 54 = .ok (.iconst 0, 1) := by decide +kernel
theorem dX5_copyOf_55 : decode cX5_copyOf 55 = .ok (.aload_n 0, 1) := by decide +kernel
theorem dX5_copyOf_56 : decode cX5_copyOf 56 = .ok (.getfield 18, 3) := by decide +kernel
theorem dX5_copyOf_59 : decode cX5_copyOf 59 = .ok (.iconst 0, 1) := by decide +kernel
theorem dX5_copyOf_60 : decode cX5_copyOf 60 = .ok (.aload_n 0, 1) := by decide +kernel
theorem dX5_copyOf_61 : decode cX5_copyOf 61 = .ok (.getfield 53, 3) := by decide +kernel
theorem dX5_copyOf_64 : decode cX5_copyOf 64 = .ok (.invokestatic 56, 3) := by decide +kernel
theorem dX5_copyOf_67 : decode cX5_copyOf 67 = .ok (.aload_n 1, 1) := by decide +kernel
theorem dX5_copyOf_68 : decode cX5_copyOf 68 = .ok (.getfield 21, 3) := by decide +kernel
theorem dX5_copyOf_71 : decode cX5_copyOf 71 = .ok (.iconst 0, 1) := by decide +kernel
theorem dX5_copyOf_72 : decode cX5_copyOf 72 = .ok (.aload_n 0, 1) := by decide +kernel
theorem dX5_copyOf_73 : decode cX5_copyOf 73 = .ok (.getfield 21, 3) := by decide +kernel
theorem dX5_copyOf_76 : decode cX5_copyOf 76 = .ok (.iconst 0, 1) := by decide +kernel
theorem dX5_copyOf_77 : decode cX5_copyOf 77 = .ok (.aload_n 0, 1) := by decide +kernel
theorem dX5_copyOf_78 : decode cX5_copyOf 78 = .ok (.getfield 53, 3) := by decide +kernel
theorem dX5_copyOf_81 : decode cX5_copyOf 81 = .ok (.invokestatic 56, 3) := by decide +kernel
theorem dX5_copyOf_84 : decode cX5_copyOf 84 = .ok (.aload_n 1, 1) := by decide +kernel
theorem dX5_copyOf_85 : decode cX5_copyOf 85 = .ok (.getfield 24, 3) := by decide +kernel
theorem dX5_copyOf_88 : decode cX5_copyOf 88 = .ok (.iconst 0, 1) := by decide +kernel
theorem dX5_copyOf_89 : decode cX5_copyOf 89 = .ok (.aload_n 0, 1) := by decide +kernel
theorem dX5_copyOf_90 : decode cX5_copyOf 90 = .ok (.getfield 24, 3) := by decide +kernel
theorem dX5_copyOf_93 : decode cX5_copyOf 93 = .ok (.iconst 0, 1) := by decide +kernel
theorem dX5_copyOf_94 : decode cX5_copyOf 94 = .ok (.aload_n 0, 1) := by decide +kernel
theorem dX5_copyOf_95 : decode cX5_copyOf 95 = .ok (.getfield 53, 3) := by decide +kernel
theorem dX5_copyOf_98 : decode cX5_copyOf 98 = .ok (.invokestatic 56, 3) := by decide +kernel
theorem dX5_copyOf_101 : decode cX5_copyOf 101 = .ok (.aload_n 1, 1) := by decide +kernel
theorem dX5_copyOf_102 : decode cX5_copyOf 102 = .ok (.getfield 27, 3) := by decide +kernel
theorem dX5_copyOf_105 : decode cX5_copyOf 105 = .ok (.iconst 0, 1) := by decide +kernel
theorem dX5_copyOf_106 : decode cX5_copyOf 106 = .ok (.aload_n 0, 1) := by decide +kernel
theorem dX5_copyOf_107 : decode cX5_copyOf 107 = .ok (.getfield 27, 3) := by decide +kernel
theorem dX5_copyOf_110 : decode cX5_copyOf 110 = .ok (.iconst 0, 1) := by decide +kernel
theorem dX5_copyOf_111 : decode cX5_copyOf 111 = .ok (.aload_n 0, 1) := by decide +kernel
theorem dX5_copyOf_112 : decode cX5_copyOf 112 = .ok (.getfield 53, 3) := by decide +kernel
theorem dX5_copyOf_115 : decode cX5_copyOf 115 = .ok (.invokestatic 56, 3) := by decide +kernel
theorem dX5_copyOf_118 : decode cX5_copyOf 118 = .ok (.aload_n 1, 1) := by decide +kernel
theorem dX5_copyOf_119 : decode cX5_copyOf 119 = .ok (.getfield 30, 3) := by decide +kernel
theorem dX5_copyOf_122 : decode cX5_copyOf 122 = .ok (.iconst 0, 1) := by decide +kernel
theorem dX5_copyOf_123 : decode cX5_copyOf 123 = .ok (.aload_n 0, 1) := by decide +kernel
theorem dX5_copyOf_124 : decode cX5_copyOf 124 = .ok (.getfield 30, 3) := by decide +kernel
theorem dX5_copyOf_127 : decode cX5_copyOf 127 = .ok (.iconst 0, 1) := by decide +kernel
theorem dX5_copyOf_128 : decode cX5_copyOf 128 = .ok (.aload_n 0, 1) := by decide +kernel
theorem dX5_copyOf_129 : decode cX5_copyOf 129 = .ok (.getfield 53, 3) := by decide +kernel
theorem dX5_copyOf_132 : decode cX5_copyOf 132 = .ok (.invokestatic 56, 3) := by decide +kernel
theorem dX5_copyOf_135 : decode cX5_copyOf 135 = .ok (.aload_n 1, 1) := by decide +kernel
theorem dX5_copyOf_136 : decode cX5_copyOf 136 = .ok (.getfield 33, 3) := by decide +kernel
theorem dX5_copyOf_139 : decode cX5_copyOf 139 = .ok (.iconst 0, 1) := by decide +kernel
theorem dX5_copyOf_140 : decode cX5_copyOf 140 = .ok (.aload_n 0, 1) := by decide +kernel
theorem dX5_copyOf_141 : decode cX5_copyOf 141 = .ok (.getfield 33, 3) := by decide +kernel
theorem dX5_copyOf_144 : decode cX5_copyOf 144 = .ok (.iconst 0, 1) := by decide +kernel
theorem dX5_copyOf_145 : decode cX5_copyOf 145 = .ok (.aload_n 0, 1) := by decide +kernel
theorem dX5_copyOf_146 : decode cX5_copyOf 146 = .ok (.getfield 53, 3) := by decide +kernel
theorem dX5_copyOf_149 : decode cX5_copyOf 149 = .ok (.invokestatic 56, 3) := by decide +kernel
theorem dX5_copyOf_152 : decode cX5_copyOf 152 = .ok (.aload_n 1, 1) := by decide +kernel
theorem dX5_copyOf_153 : decode cX5_copyOf 153 = .ok (.getfield 36, 3) := by decide +kernel
theorem dX5_copyOf_156 : decode cX5_copyOf 156 = .ok (.iconst 0, 1) := by decide +kernel
theorem dX5_copyOf_157 : decode cX5_copyOf 157 = .ok (.aload_n 0, 1) := by decide +kernel
theorem dX5_copyOf_158 : decode cX5_copyOf 158 = .ok (.getfield 36, 3) := by decide +kernel
theorem dX5_copyOf_161 : decode cX5_copyOf 161 = .ok (.iconst 0, 1) := by decide +kernel
theorem dX5_copyOf_162 : decode cX5_copyOf 162 = .ok (.aload_n 0, 1) := by decide +kernel
theorem dX5_copyOf_163 : decode cX5_copyOf 163 = .ok (.getfield 53, 3) := by decide +kernel
theorem dX5_copyOf_166 : decode cX5_copyOf 166 = .ok (.invokestatic 56, 3) := by decide +kernel
theorem dX5_copyOf_169 : decode cX5_copyOf 169 = .ok (.aload_n 1, 1) := by decide +kernel
theorem dX5_copyOf_170 : decode cX5_copyOf 170 = .ok (.getfield 39, 3) := by decide +kernel
theorem dX5_copyOf_173 : decode cX5_copyOf 173 = .ok (.iconst 0, 1) := by decide +kernel
theorem dX5_copyOf_174 : decode cX5_copyOf 174 = .ok (.aload_n 0, 1) := by decide +kernel
theorem dX5_copyOf_175 : decode cX5_copyOf 175 = .ok (.getfield 39, 3) := by decide +kernel
theorem dX5_copyOf_178 : decode cX5_copyOf 178 = .ok (.iconst 0, 1) := by decide +kernel
theorem dX5_copyOf_179 : decode cX5_copyOf 179 = .ok (.bipush 26, 2) := by decide +kernel
theorem dX5_copyOf_181 : decode cX5_copyOf 181 = .ok (.invokestatic 56, 3) := by decide +kernel
theorem dX5_copyOf_184 : decode cX5_copyOf 184 = .ok (.return_, 1) := by decide +kernel
theorem dX5_append_0 : decode cX5_append 0 = .ok (.iload_n 3, 1) := by decide +kernel
theorem dX5_append_1 : decode cX5_append 1 = .ok (.iload_n 2, 1) := by decide +kernel
theorem dX5_append_2 : decode cX5_append 2 = .ok (.isub, 1) := by decide +kernel
theorem dX5_append_3 : decode cX5_append 3 = .ok (.istore 4, 2) := by decide +kernel
theorem dX5_append_5 : decode cX5_append 5 = .ok (.iload_n 2, 1) := by decide +kernel
theorem dX5_append_6 : decode cX5_append 6 = .ok (.ifCond .lt 27, 3) := by decide +kernel
theorem dX5_append_9 : decode cX5_append 9 = .ok (.iload 4, 2) := by decide +kernel
theorem dX5_append_11 : decode cX5_append 11 = .ok (.ifCond .lt 22, 3) := by decide +kernel
theorem dX5_append_14 : decode cX5_append 14 = .ok (.iload_n 3, 1) := by decide +kernel
theorem dX5_append_15 : decode cX5_append 15 = .ok (.aload_n 1, 1) := by decide +kernel
theorem dX5_append_16 : decode cX5_append 16 = .ok (.arraylength, 1) := by decide +kernel
theorem dX5_append_17 : decode cX5_append 17 = .ok (.if_icmp .gt 16, 3) := by decide +kernel
theorem dX5_append_20 : decode cX5_append 20 = .ok (.iload 4, 2) := by decide +kernel
theorem dX5_append_22 : decode cX5_append 22 = .ok (.sipush 240, 3) := by decide +kernel
theorem dX5_append_25 : decode cX5_append 25 = .ok (.aload_n 0, 1) := by decide +kernel
theorem dX5_append_26 : decode cX5_append 26 = .ok (.getfield 45, 3) := by decide +kernel
theorem dX5_append_29 : decode cX5_append 29 = .ok (.isub, 1) := by decide +kernel
theorem dX5_append_30 : decode cX5_append 30 = .ok (.if_icmp .le 5, 3) := by decide +kernel
theorem dX5_append_33 : decode cX5_append 33 = .ok (.iconst 0, 1) := by decide +kernel
theorem dX5_append_34 : decode cX5_append 34 = .ok (.ireturn, 1) := by decide +kernel
theorem dX5_append_35 : decode cX5_append 35 = .ok (.aload_n 1, 1) := by decide +kernel
theorem dX5_append_36 : decode cX5_append 36 = .ok (.iload_n 2, 1) := by decide +kernel
theorem dX5_append_37 : decode cX5_append 37 = .ok (.aload_n 0, 1) := by decide +kernel
theorem dX5_append_38 : decode cX5_append 38 = .ok (.getfield 9, 3) := by decide +kernel
theorem dX5_append_41 : decode cX5_append 41 = .ok (.aload_n 0, 1) := by decide +kernel
theorem dX5_append_42 : decode cX5_append 42 = .ok (.getfield 45, 3) := by decide +kernel
theorem dX5_append_45 : decode cX5_append 45 = .ok (.iload 4, 2) := by decide +kernel
theorem dX5_append_47 : decode cX5_append 47 = .ok (.invokestatic 56, 3) := by decide +kernel
theorem dX5_append_50 : decode cX5_append 50 = .ok (.aload_n 0, 1) := by decide +kernel
theorem dX5_append_51 : decode cX5_append 51 = .ok (.dup, 1) := by decide +kernel
theorem dX5_append_52 : decode cX5_append 52 = .ok (.getfield 45, 3) := by decide +kernel
theorem dX5_append_55 : decode cX5_append 55 = .ok (.iload 4, 2) := by decide +kernel
theorem dX5_append_57 : decode cX5_append 57 = .ok (.iadd, 1) := by decide +kernel
theorem dX5_append_58 : decode cX5_append 58 = .ok (.putfield 45, 3) := by decide +kernel
theorem dX5_append_61 : decode cX5_append 61 = .ok (.iconst 1, 1) := by decide +kernel
theorem dX5_append_62 : decode cX5_append 62 = .ok (.ireturn, 1) := by decide +kernel
theorem dX5_kindOf_0 : decode cX5_kindOf 0 = .ok (.aload_n 0, 1) := by decide +kernel
theorem dX5_kindOf_1 : decode cX5_kindOf 1 = .ok (.getfield 39, 3) := by decide +kernel
theorem dX5_kindOf_4 : decode cX5_kindOf 4 = .ok (.iload_n 1, 1) := by decide +kernel
theorem dX5_kindOf_5 : decode cX5_kindOf 5 = .ok (.iaload, 1) := by decide +kernel
theorem dX5_kindOf_6 : decode cX5_kindOf 6 = .ok (.istore_n 2, 1) := by decide +kernel
theorem dX5_kindOf_7 : decode cX5_kindOf 7 = .ok (.iload_n 2, 1) := by decide +kernel
theorem dX5_kindOf_8 : decode cX5_kindOf 8 = .ok (.iconst (-1), 1) := by decide +kernel
theorem dX5_kindOf_9 : decode cX5_kindOf 9 = .ok (.if_icmp .ne 7, 3) := by decide +kernel
theorem dX5_kindOf_12 : decode cX5_kindOf 12 = .ok (.iconst (-1), 1) := by decide +kernel
theorem dX5_kindOf_13 : decode cX5_kindOf 13 = .ok (.goto 9, 3) := by decide +kernel
theorem dX5_kindOf_16 : decode cX5_kindOf 16 = .ok (.aload_n 0, 1) := by decide +kernel
theorem dX5_kindOf_17 : decode cX5_kindOf 17 = .ok (.getfield 15, 3) := by decide +kernel
theorem dX5_kindOf_20 : decode cX5_kindOf 20 = .ok (.iload_n 2, 1) := by decide +kernel
theorem dX5_kindOf_21 : decode cX5_kindOf 21 = .ok (.iaload, 1) := by decide +kernel
theorem dX5_kindOf_22 : decode cX5_kindOf 22 = .ok (.ireturn, 1) := by decide +kernel
theorem dX5_next_0 : decode cX5_next 0 = .ok (.iload_n 1, 1) := by decide +kernel
theorem dX5_next_1 : decode cX5_next 1 = .ok (.ifCond .lt 22, 3) := by decide +kernel
theorem dX5_next_4 : decode cX5_next 4 = .ok (.iload_n 1, 1) := by decide +kernel
theorem dX5_next_5 : decode cX5_next 5 = .ok (.aload_n 0, 1) := by decide +kernel
theorem dX5_next_6 : decode cX5_next 6 = .ok (.getfield 53, 3) := by decide +kernel
theorem dX5_next_9 : decode cX5_next 9 = .ok (.if_icmp .ge 14, 3) := by decide +kernel
theorem dX5_next_12 : decode cX5_next 12 = .ok (.iload_n 1, 1) := by decide +kernel
theorem dX5_next_13 : decode cX5_next 13 = .ok (.aload_n 0, 1) := by decide +kernel
theorem dX5_next_14 : decode cX5_next 14 = .ok (.getfield 33, 3) := by decide +kernel
theorem dX5_next_17 : decode cX5_next 17 = .ok (.iload_n 1, 1) := by decide +kernel
theorem dX5_next_18 : decode cX5_next 18 = .ok (.iaload, 1) := by decide +kernel
theorem dX5_next_19 : decode cX5_next 19 = .ok (.iadd, 1) := by decide +kernel
theorem dX5_next_20 : decode cX5_next 20 = .ok (.goto 7, 3) := by decide +kernel
theorem dX5_next_23 : decode cX5_next 23 = .ok (.aload_n 0, 1) := by decide +kernel
theorem dX5_next_24 : decode cX5_next 24 = .ok (.getfield 53, 3) := by decide +kernel
theorem dX5_next_27 : decode cX5_next 27 = .ok (.ireturn, 1) := by decide +kernel
theorem dX5_lastByteBehind_0 : decode cX5_lastByteBehind 0 = .ok (.iload_n 1, 1) := by decide +kernel
theorem dX5_lastByteBehind_1 : decode cX5_lastByteBehind 1 = .ok (.istore_n 3, 1) := by decide +kernel
theorem dX5_lastByteBehind_2 : decode cX5_lastByteBehind 2 = .ok (.iconst 1, 1) := by decide +kernel
theorem dX5_lastByteBehind_3 : decode cX5_lastByteBehind 3 = .ok (.istore 4, 2) := by decide +kernel
theorem dX5_lastByteBehind_5 : decode cX5_lastByteBehind 5 = .ok (.iload 4, 2) := by decide +kernel
theorem dX5_lastByteBehind_7 : decode cX5_lastByteBehind 7 = .ok (.iload_n 2, 1) := by decide +kernel
theorem dX5_lastByteBehind_8 : decode cX5_lastByteBehind 8 = .ok (.if_icmp .ge 15, 3) := by decide +kernel
theorem dX5_lastByteBehind_11 : decode cX5_lastByteBehind 11 = .ok (.aload_n 0, 1) := by decide +kernel
theorem dX5_lastByteBehind_12 : decode cX5_lastByteBehind 12 = .ok (.iload_n 3, 1) := by decide +kernel
theorem dX5_lastByteBehind_13 : decode cX5_lastByteBehind 13 = .ok (.invokevirtual 62, 3) := by decide +kernel
theorem dX5_lastByteBehind_16 : decode cX5_lastByteBehind 16 = .ok (.istore_n 3, 1) := by decide +kernel
theorem dX5_lastByteBehind_17 : decode cX5_lastByteBehind 17 = .ok (.iinc 4 1, 3) := by decide +kernel
theorem dX5_lastByteBehind_20 : decode cX5_lastByteBehind 20 = .ok (.goto (-15), 3) := by decide +kernel
theorem dX5_lastByteBehind_23 : decode cX5_lastByteBehind 23 = .ok (.iload_n 3, 1) := by decide +kernel
theorem dX5_lastByteBehind_24 : decode cX5_lastByteBehind 24 = .ok (.ifCond .lt 20, 3) := by decide +kernel
theorem dX5_lastByteBehind_27 : decode cX5_lastByteBehind 27 = .ok (.iload_n 3, 1) := by decide +kernel
theorem dX5_lastByteBehind_28 : decode cX5_lastByteBehind 28 = .ok (.aload_n 0, 1) := by decide +kernel
theorem dX5_lastByteBehind_29 : decode cX5_lastByteBehind 29 = .ok (.getfield 53, 3) := by decide +kernel
theorem dX5_lastByteBehind_32 : decode cX5_lastByteBehind 32 = .ok (.if_icmp .ge 12, 3) := by decide +kernel
theorem dX5_lastByteBehind_35 : decode cX5_lastByteBehind 35 = .ok (.aload_n 0, 1) := by decide +kernel
theorem dX5_lastByteBehind_36 : decode cX5_lastByteBehind 36 = .ok (.getfield 24, 3) := by decide +kernel
theorem dX5_lastByteBehind_39 : decode cX5_lastByteBehind 39 = .ok (.iload_n 3, 1) := by decide +kernel
theorem dX5_lastByteBehind_40 : decode cX5_lastByteBehind 40 = .ok (.iaload, 1) := by decide +kernel
theorem dX5_lastByteBehind_41 : decode cX5_lastByteBehind 41 = .ok (.goto 4, 3) := by decide +kernel
theorem dX5_lastByteBehind_44 : decode cX5_lastByteBehind 44 = .ok (.iconst 0, 1) := by decide +kernel
theorem dX5_lastByteBehind_45 : decode cX5_lastByteBehind 45 = .ok (.ireturn, 1) := by decide +kernel
theorem dX5_markAlike_0 : decode cX5_markAlike 0 = .ok (.aload_n 0, 1) := by decide +kernel
theorem dX5_markAlike_1 : decode cX5_markAlike 1 = .ok (.getfield 53, 3) := by decide +kernel
theorem dX5_markAlike_4 : decode cX5_markAlike 4 = .ok (.iconst 1, 1) := by decide +kernel
theorem dX5_markAlike_5 : decode cX5_markAlike 5 = .ok (.isub, 1) := by decide +kernel
theorem dX5_markAlike_6 : decode cX5_markAlike 6 = .ok (.istore_n 1, 1) := by decide +kernel
theorem dX5_markAlike_7 : decode cX5_markAlike 7 = .ok (.iload_n 1, 1) := by decide +kernel
theorem dX5_markAlike_8 : decode cX5_markAlike 8 = .ok (.ifCond .lt 73, 3) := by decide +kernel
theorem dX5_markAlike_11 : decode cX5_markAlike 11 = .ok (.aload_n 0, 1) := by decide +kernel
theorem dX5_markAlike_12 : decode cX5_markAlike 12 = .ok (.getfield 42, 3) := by decide +kernel
theorem dX5_markAlike_15 : decode cX5_markAlike 15 = .ok (.iload_n 1, 1) := by decide +kernel
theorem dX5_markAlike_16 : decode cX5_markAlike 16 = .ok (.iload_n 1, 1) := by decide +kernel
theorem dX5_markAlike_17 : decode cX5_markAlike 17 = .ok (.iastore, 1) := by decide +kernel
theorem dX5_markAlike_18 : decode cX5_markAlike 18 = .ok (.iload_n 1, 1) := by decide +kernel
theorem dX5_markAlike_19 : decode cX5_markAlike 19 = .ok (.iconst 1, 1) := by decide +kernel
theorem dX5_markAlike_20 : decode cX5_markAlike 20 = .ok (.iadd, 1) := by decide +kernel
theorem dX5_markAlike_21 : decode cX5_markAlike 21 = .ok (.istore_n 2, 1) := by decide +kernel
theorem dX5_markAlike_22 : decode cX5_markAlike 22 = .ok (.iload_n 2, 1) := by decide +kernel
theorem dX5_markAlike_23 : decode cX5_markAlike 23 = .ok (.aload_n 0, 1) := by decide +kernel
theorem dX5_markAlike_24 : decode cX5_markAlike 24 = .ok (.getfield 53, 3) := by decide +kernel
theorem dX5_markAlike_27 : decode cX5_markAlike 27 = .ok (.if_icmp .ge 48, 3) := by decide +kernel
theorem dX5_markAlike_30 : decode cX5_markAlike 30 = .ok (.aload_n 0, 1) := by decide +kernel
theorem dX5_markAlike_31 : decode cX5_markAlike 31 = .ok (.getfield 33, 3) := by decide +kernel
theorem dX5_markAlike_34 : decode cX5_markAlike 34 = .ok (.iload_n 2, 1) := by decide +kernel
theorem dX5_markAlike_35 : decode cX5_markAlike 35 = .ok (.iaload, 1) := by decide +kernel
theorem dX5_markAlike_36 : decode cX5_markAlike 36 = .ok (.aload_n 0, 1) := by decide +kernel
theorem dX5_markAlike_37 : decode cX5_markAlike 37 = .ok (.getfield 33, 3) := by decide +kernel
theorem dX5_markAlike_40 : decode cX5_markAlike 40 = .ok (.iload_n 1, 1) := by decide +kernel
theorem dX5_markAlike_41 : decode cX5_markAlike 41 = .ok (.iaload, 1) := by decide +kernel
theorem dX5_markAlike_42 : decode cX5_markAlike 42 = .ok (.if_icmp .ne 27, 3) := by decide +kernel
theorem dX5_markAlike_45 : decode cX5_markAlike 45 = .ok (.aload_n 0, 1) := by decide +kernel
theorem dX5_markAlike_46 : decode cX5_markAlike 46 = .ok (.iload_n 1, 1) := by decide +kernel
theorem dX5_markAlike_47 : decode cX5_markAlike 47 = .ok (.iload_n 2, 1) := by decide +kernel
theorem dX5_markAlike_48 : decode cX5_markAlike 48 = .ok (.invokevirtual 66, 3) := by decide +kernel
theorem dX5_markAlike_51 : decode cX5_markAlike 51 = .ok (.ifCond .eq 18, 3) := by decide +kernel
theorem dX5_markAlike_54 : decode cX5_markAlike 54 = .ok (.aload_n 0, 1) := by decide +kernel
theorem dX5_markAlike_55 : decode cX5_markAlike 55 = .ok (.getfield 42, 3) := by decide +kernel
theorem dX5_markAlike_58 : decode cX5_markAlike 58 = .ok (.iload_n 1, 1) := by decide +kernel
theorem dX5_markAlike_59 : decode cX5_markAlike 59 = .ok (.aload_n 0, 1) := by decide +kernel
theorem dX5_markAlike_60 : decode cX5_markAlike 60 = .ok (.getfield 42, 3) := by decide +kernel
theorem dX5_markAlike_63 : decode cX5_markAlike 63 = .ok (.iload_n 2, 1) := by decide +kernel
theorem dX5_markAlike_64 : decode cX5_markAlike 64 = .ok (.iaload, 1) := by decide +kernel
theorem dX5_markAlike_65 : decode cX5_markAlike 65 = .ok (.iastore, 1) := by decide +kernel
theorem dX5_markAlike_66 : decode cX5_markAlike 66 = .ok (.goto 9, 3) := by decide +kernel
theorem dX5_markAlike_69 : decode cX5_markAlike 69 = .ok (.iinc 2 1, 3) := by decide +kernel
theorem dX5_markAlike_72 : decode cX5_markAlike 72 = .ok (.goto (-50), 3) := by decide +kernel
theorem dX5_markAlike_75 : decode cX5_markAlike 75 = .ok (.iinc 1 (-1), 3) := by decide +kernel
theorem dX5_markAlike_78 : decode cX5_markAlike 78 = .ok (.goto (-71), 3) := by decide +kernel
theorem dX5_markAlike_81 : decode cX5_markAlike 81 = .ok (.return_, 1) := by decide +kernel
theorem dX5_looksAlike_0 : decode cX5_looksAlike 0 = .ok (.aload_n 0, 1) := by decide +kernel
theorem dX5_looksAlike_1 : decode cX5_looksAlike 1 = .ok (.getfield 30, 3) := by decide +kernel
theorem dX5_looksAlike_4 : decode cX5_looksAlike 4 = .ok (.iload_n 1, 1) := by decide +kernel
theorem dX5_looksAlike_5 : decode cX5_looksAlike 5 = .ok (.iaload, 1) := by decide +kernel
theorem dX5_looksAlike_6 : decode cX5_looksAlike 6 = .ok (.aload_n 0, 1) := by decide +kernel
theorem dX5_looksAlike_7 : decode cX5_looksAlike 7 = .ok (.getfield 30, 3) := by decide +kernel
theorem dX5_looksAlike_10 : decode cX5_looksAlike 10 = .ok (.iload_n 2, 1) := by decide +kernel
theorem dX5_looksAlike_11 : decode cX5_looksAlike 11 = .ok (.iaload, 1) := by decide +kernel
theorem dX5_looksAlike_12 : decode cX5_looksAlike 12 = .ok (.if_icmp .ne 13, 3) := by decide +kernel
theorem dX5_looksAlike_15 : decode cX5_looksAlike 15 = .ok (.aload_n 0, 1) := by decide +kernel
theorem dX5_looksAlike_16 : decode cX5_looksAlike 16 = .ok (.iload_n 1, 1) := by decide +kernel
theorem dX5_looksAlike_17 : decode cX5_looksAlike 17 = .ok (.aload_n 0, 1) := by decide +kernel
theorem dX5_looksAlike_18 : decode cX5_looksAlike 18 = .ok (.iload_n 2, 1) := by decide +kernel
theorem dX5_looksAlike_19 : decode cX5_looksAlike 19 = .ok (.invokestatic 70, 3) := by decide +kernel
theorem dX5_looksAlike_22 : decode cX5_looksAlike 22 = .ok (.ifCond .ne 5, 3) := by decide +kernel
theorem dX5_looksAlike_25 : decode cX5_looksAlike 25 = .ok (.iconst 0, 1) := by decide +kernel
theorem dX5_looksAlike_26 : decode cX5_looksAlike 26 = .ok (.ireturn, 1) := by decide +kernel
theorem dX5_looksAlike_27 : decode cX5_looksAlike 27 = .ok (.iload_n 1, 1) := by decide +kernel
theorem dX5_looksAlike_28 : decode cX5_looksAlike 28 = .ok (.iconst 1, 1) := by decide +kernel
theorem dX5_looksAlike_29 : decode cX5_looksAlike 29 = .ok (.iadd, 1) := by decide +kernel
theorem dX5_looksAlike_30 : decode cX5_looksAlike 30 = .ok (.istore_n 3, 1) := by decide +kernel
theorem dX5_looksAlike_31 : decode cX5_looksAlike 31 = .ok (.iload_n 2, 1) := by decide +kernel
theorem dX5_looksAlike_32 : decode cX5_looksAlike 32 = .ok (.iconst 1, 1) := by decide +kernel
theorem dX5_looksAlike_33 : decode cX5_looksAlike 33 = .ok (.iadd, 1) := by decide +kernel
theorem dX5_looksAlike_34 : decode cX5_looksAlike 34 = .ok (.istore 4, 2) := by decide +kernel
theorem dX5_looksAlike_36 : decode cX5_looksAlike 36 = .ok (.iconst 0, 1) := by decide +kernel
theorem dX5_looksAlike_37 : decode cX5_looksAlike 37 = .ok (.istore 5, 2) := by decide +kernel
theorem dX5_looksAlike_39 : decode cX5_looksAlike 39 = .ok (.iload 5, 2) := by decide +kernel
theorem dX5_looksAlike_41 : decode cX5_looksAlike 41 = .ok (.aload_n 0, 1) := by decide +kernel
theorem dX5_looksAlike_42 : decode cX5_looksAlike 42 = .ok (.getfield 30, 3) := by decide +kernel
theorem dX5_looksAlike_45 : decode cX5_looksAlike 45 = .ok (.iload_n 1, 1) := by decide +kernel
theorem dX5_looksAlike_46 : decode cX5_looksAlike 46 = .ok (.iaload, 1) := by decide +kernel
theorem dX5_looksAlike_47 : decode cX5_looksAlike 47 = .ok (.if_icmp .ge 58, 3) := by decide +kernel
theorem dX5_looksAlike_50 : decode cX5_looksAlike 50 = .ok (.iload_n 3, 1) := by decide +kernel
theorem dX5_looksAlike_51 : decode cX5_looksAlike 51 = .ok (.aload_n 0, 1) := by decide +kernel
theorem dX5_looksAlike_52 : decode cX5_looksAlike 52 = .ok (.getfield 53, 3) := by decide +kernel
theorem dX5_looksAlike_55 : decode cX5_looksAlike 55 = .ok (.if_icmp .ge 28, 3) := by decide +kernel
theorem dX5_looksAlike_58 : decode cX5_looksAlike 58 = .ok (.iload 4, 2) := by decide +kernel
theorem dX5_looksAlike_60 : decode cX5_looksAlike 60 = .ok (.aload_n 0, 1) := by decide +kernel
theorem dX5_looksAlike_61 : decode cX5_looksAlike 61 = .ok (.getfield 53, 3) := by decide +kernel
theorem dX5_looksAlike_64 : decode cX5_looksAlike 64 = .ok (.if_icmp .ge 19, 3) := by decide +kernel
theorem dX5_looksAlike_67 : decode cX5_looksAlike 67 = .ok (.aload_n 0, 1) := by decide +kernel
theorem dX5_looksAlike_68 : decode cX5_looksAlike 68 = .ok (.getfield 42, 3) := by decide +kernel
theorem dX5_looksAlike_71 : decode cX5_looksAlike 71 = .ok (.iload_n 3, 1) := by decide +kernel
theorem dX5_looksAlike_72 : decode cX5_looksAlike 72 = .ok (.iaload, 1) := by decide +kernel
theorem dX5_looksAlike_73 : decode cX5_looksAlike 73 = .ok (.aload_n 0, 1) := by decide +kernel
theorem dX5_looksAlike_74 : decode cX5_looksAlike 74 = .ok (.getfield 42, 3) := by decide +kernel
theorem dX5_looksAlike_77 : decode cX5_looksAlike 77 = .ok (.iload 4, 2) := by decide +kernel
theorem dX5_looksAlike_79 : decode cX5_looksAlike 79 = .ok (.iaload, 1) := by decide +kernel
theorem dX5_looksAlike_80 : decode cX5_looksAlike 80 = .ok (.if_icmp .eq 5, 3) := by decide +kernel
theorem dX5_looksAlike_83 : decode cX5_looksAlike 83 = .ok (.iconst 0, 1) := by decide +kernel
theorem dX5_looksAlike_84 : decode cX5_looksAlike 84 = .ok (.ireturn, 1) := by decide +kernel
theorem dX5_looksAlike_85 : decode cX5_looksAlike 85 = .ok (.aload_n 0, 1) := by decide +kernel
theorem dX5_looksAlike_86 : decode cX5_looksAlike 86 = .ok (.iload_n 3, 1) := by decide +kernel
theorem dX5_looksAlike_87 : decode cX5_looksAlike 87 = .ok (.invokevirtual 62, 3) := by decide +kernel
theorem dX5_looksAlike_90 : decode cX5_looksAlike 90 = .ok (.istore_n 3, 1) := by decide +kernel
theorem dX5_looksAlike_91 : decode cX5_looksAlike 91 = .ok (.aload_n 0, 1) := by decide +kernel
theorem dX5_looksAlike_92 : decode cX5_looksAlike 92 = .ok (.iload 4, 2) := by decide +kernel
theorem dX5_looksAlike_94 : decode cX5_looksAlike 94 = .ok (.invokevirtual 62, 3) := by decide +kernel
theorem dX5_looksAlike_97 : decode cX5_looksAlike 97 = .ok (.istore 4, 2) := by decide +kernel
theorem dX5_looksAlike_99 : decode cX5_looksAlike 99 = .ok (.iinc 5 1, 3) := by decide +kernel
theorem dX5_looksAlike_102 : decode cX5_looksAlike 102 = .ok (.goto (-63), 3) := by decide +kernel
theorem dX5_looksAlike_105 : decode cX5_looksAlike 105 = .ok (.iconst 1, 1) := by decide +kernel
theorem dX5_looksAlike_106 : decode cX5_looksAlike 106 = .ok (.ireturn, 1) := by decide +kernel
theorem dX5_sameAtom_0 : decode cX5_sameAtom 0 = .ok (.aload_n 0, 1) := by decide +kernel
theorem dX5_sameAtom_1 : decode cX5_sameAtom 1 = .ok (.getfield 18, 3) := by decide +kernel
theorem dX5_sameAtom_4 : decode cX5_sameAtom 4 = .ok (.iload_n 1, 1) := by decide +kernel
theorem dX5_sameAtom_5 : decode cX5_sameAtom 5 = .ok (.iaload, 1) := by decide +kernel
theorem dX5_sameAtom_6 : decode cX5_sameAtom 6 = .ok (.istore 4, 2) := by decide +kernel
theorem dX5_sameAtom_8 : decode cX5_sameAtom 8 = .ok (.aload_n 2, 1) := by decide +kernel
theorem dX5_sameAtom_9 : decode cX5_sameAtom 9 = .ok (.getfield 18, 3) := by decide +kernel
theorem dX5_sameAtom_12 : decode cX5_sameAtom 12 = .ok (.iload_n 3, 1) := by decide +kernel
theorem dX5_sameAtom_13 : decode cX5_sameAtom 13 = .ok (.iaload, 1) := by decide +kernel
theorem dX5_sameAtom_14 : decode cX5_sameAtom 14 = .ok (.istore 5, 2) := by decide +kernel
theorem dX5_sameAtom_16 : decode cX5_sameAtom 16 = .ok (.aload_n 0, 1) := by decide +kernel
theorem dX5_sameAtom_17 : decode cX5_sameAtom 17 = .ok (.getfield 21, 3) := by decide +kernel
theorem dX5_sameAtom_20 : decode cX5_sameAtom 20 = .ok (.iload_n 1, 1) := by decide +kernel
theorem dX5_sameAtom_21 : decode cX5_sameAtom 21 = .ok (.iaload, 1) := by decide +kernel
theorem dX5_sameAtom_22 : decode cX5_sameAtom 22 = .ok (.iload 4, 2) := by decide +kernel
theorem dX5_sameAtom_24 : decode cX5_sameAtom 24 = .ok (.isub, 1) := by decide +kernel
theorem dX5_sameAtom_25 : decode cX5_sameAtom 25 = .ok (.istore 6, 2) := by decide +kernel
theorem dX5_sameAtom_27 : decode cX5_sameAtom 27 = .ok (.iload 6, 2) := by decide +kernel
theorem dX5_sameAtom_29 : decode cX5_sameAtom 29 = .ok (.aload_n 2, 1) := by decide +kernel
theorem dX5_sameAtom_30 : decode cX5_sameAtom 30 = .ok (.getfield 21, 3) := by decide +kernel
theorem dX5_sameAtom_33 : decode cX5_sameAtom 33 = .ok (.iload_n 3, 1) := by decide +kernel
theorem dX5_sameAtom_34 : decode cX5_sameAtom 34 = .ok (.iaload, 1) := by decide +kernel
theorem dX5_sameAtom_35 : decode cX5_sameAtom 35 = .ok (.iload 5, 2) := by decide +kernel
theorem dX5_sameAtom_37 : decode cX5_sameAtom 37 = .ok (.isub, 1) := by decide +kernel
theorem dX5_sameAtom_38 : decode cX5_sameAtom 38 = .ok (.if_icmp .eq 5, 3) := by decide +kernel
theorem dX5_sameAtom_41 : decode cX5_sameAtom 41 = .ok (.iconst 0, 1) := by decide +kernel
theorem dX5_sameAtom_42 : decode cX5_sameAtom 42 = .ok (.ireturn, 1) := by decide +kernel
theorem dX5_sameAtom_43 : decode cX5_sameAtom 43 = .ok (.iconst 0, 1) := by decide +kernel
theorem dX5_sameAtom_44 : decode cX5_sameAtom 44 = .ok (.istore 7, 2) := by decide +kernel
theorem dX5_sameAtom_46 : decode cX5_sameAtom 46 = .ok (.iload 7, 2) := by decide +kernel
theorem dX5_sameAtom_48 : decode cX5_sameAtom 48 = .ok (.iload 6, 2) := by decide +kernel
theorem dX5_sameAtom_50 : decode cX5_sameAtom 50 = .ok (.if_icmp .ge 34, 3) := by decide +kernel
theorem dX5_sameAtom_53 : decode cX5_sameAtom 53 = .ok (.aload_n 0, 1) := by decide +kernel
theorem dX5_sameAtom_54 : decode cX5_sameAtom 54 = .ok (.getfield 9, 3) := by decide +kernel
theorem dX5_sameAtom_57 : decode cX5_sameAtom 57 = .ok (.iload 4, 2) := by decide +kernel
theorem dX5_sameAtom_59 : decode cX5_sameAtom 59 = .ok (.iload 7, 2) := by decide +kernel
theorem dX5_sameAtom_61 : decode cX5_sameAtom 61 = .ok (.iadd, 1) := by decide +kernel
theorem dX5_sameAtom_62 : decode cX5_sameAtom 62 = .ok (.iaload, 1) := by decide +kernel
theorem dX5_sameAtom_63 : decode cX5_sameAtom 63 = .ok (.aload_n 2, 1) := by decide +kernel
theorem dX5_sameAtom_64 : decode cX5_sameAtom 64 = .ok (.getfield 9, 3) := by decide +kernel
theorem dX5_sameAtom_67 : decode cX5_sameAtom 67 = .ok (.iload 5, 2) := by decide +kernel
theorem dX5_sameAtom_69 : decode cX5_sameAtom 69 = .ok (.iload 7, 2) := by decide +kernel
theorem dX5_sameAtom_71 : decode cX5_sameAtom 71 = .ok (.iadd, 1) := by decide +kernel
theorem dX5_sameAtom_72 : decode cX5_sameAtom 72 = .ok (.iaload, 1) := by decide +kernel
theorem dX5_sameAtom_73 : decode cX5_sameAtom 73 = .ok (.if_icmp .eq 5, 3) := by decide +kernel
theorem dX5_sameAtom_76 : decode cX5_sameAtom 76 = .ok (.iconst 0, 1) := by decide +kernel
theorem dX5_sameAtom_77 : decode cX5_sameAtom 77 = .ok (.ireturn, 1) := by decide +kernel
theorem dX5_sameAtom_78 : decode cX5_sameAtom 78 = .ok (.iinc 7 1, 3) := by decide +kernel
theorem dX5_sameAtom_81 : decode cX5_sameAtom 81 = .ok (.goto (-35), 3) := by decide +kernel
theorem dX5_sameAtom_84 : decode cX5_sameAtom 84 = .ok (.iconst 1, 1) := by decide +kernel
theorem dX5_sameAtom_85 : decode cX5_sameAtom 85 = .ok (.ireturn, 1) := by decide +kernel
theorem dX6_init_0 : decode cX6_init 0 = .ok (.aload_n 0, 1) := by decide +kernel
theorem dX6_init_1 : decode cX6_init 1 = .ok (.invokespecial 3, 3) := by decide +kernel
theorem dX6_init_4 : decode cX6_init 4 = .ok (.aload_n 0, 1) := by decide +kernel
theorem dX6_init_5 : decode cX6_init 5 = .ok (.sipush 260, 3) := by decide +kernel
theorem dX6_init_8 : decode cX6_init 8 = .ok (.newarray .int, 2) := by decide +kernel
theorem dX6_init_10 : decode cX6_init 10 = .ok (.putfield 9, 3) := by decide +kernel
theorem dX6_init_13 : decode cX6_init 13 = .ok (.aload_n 0, 1) := by decide +kernel
theorem dX6_init_14 : decode cX6_init 14 = .ok (.getfield 9, 3) := by decide +kernel
theorem dX6_init_17 : decode cX6_init 17 = .ok (.iconst 0, 1) := by decide +kernel
theorem dX6_init_18 : decode cX6_init 18 = .ok (.bipush 97, 2) := by decide +kernel
theorem dX6_init_20 : decode cX6_init 20 = .ok (.iastore, 1) := by decide +kernel
theorem dX6_init_21 : decode cX6_init 21 = .ok (.aload_n 0, 1) := by decide +kernel
theorem dX6_init_22 : decode cX6_init 22 = .ok (.new 13, 3) := by decide +kernel
theorem dX6_init_25 : decode cX6_init 25 = .ok (.dup, 1) := by decide +kernel
theorem dX6_init_26 : decode cX6_init 26 = .ok (.invokespecial 15, 3) := by decide +kernel
theorem dX6_init_29 : decode cX6_init 29 = .ok (.putfield 16, 3) := by decide +kernel
theorem dX6_init_32 : decode cX6_init 32 = .ok (.aload_n 0, 1) := by decide +kernel
theorem dX6_init_33 : decode cX6_init 33 = .ok (.new 13, 3) := by decide +kernel
theorem dX6_init_36 : decode cX6_init 36 = .ok (.dup, 1) := by decide +kernel
theorem dX6_init_37 : decode cX6_init 37 = .ok (.invokespecial 15, 3) := by decide +kernel
theorem dX6_init_40 : decode cX6_init 40 = .ok (.putfield 20, 3) := by decide +kernel
theorem dX6_init_43 : decode cX6_init 43 = .ok (.aload_n 0, 1) := by decide +kernel
theorem dX6_init_44 : decode cX6_init 44 = .ok (.new 13, 3) := by decide +kernel
theorem dX6_init_47 : decode cX6_init 47 = .ok (.dup, 1) := by decide +kernel
theorem dX6_init_48 : decode cX6_init 48 = .ok (.invokespecial 15, 3) := by decide +kernel
theorem dX6_init_51 : decode cX6_init 51 = .ok (.putfield 23, 3) := by decide +kernel
theorem dX6_init_54 : decode cX6_init 54 = .ok (.aload_n 0, 1) := by decide +kernel
theorem dX6_init_55 : decode cX6_init 55 = .ok (.new 13, 3) := by decide +kernel
theorem dX6_init_58 : decode cX6_init 58 = .ok (.dup, 1) := by decide +kernel
theorem dX6_init_59 : decode cX6_init 59 = .ok (.invokespecial 15, 3) := by decide +kernel
theorem dX6_init_62 : decode cX6_init 62 = .ok (.putfield 26, 3) := by decide +kernel
theorem dX6_init_65 : decode cX6_init 65 = .ok (.aload_n 0, 1) := by decide +kernel
theorem dX6_init_66 : decode cX6_init 66 = .ok (.new 29, 3) := by decide +kernel
theorem dX6_init_69 : decode cX6_init 69 = .ok (.dup, 1) := by decide +kernel
theorem dX6_init_70 : decode cX6_init 70 = .ok (.invokespecial 31, 3) := by decide +kernel
theorem dX6_init_73 : decode cX6_init 73 = .ok (.putfield 32, 3) := by decide +kernel
theorem dX6_init_76 : decode cX6_init 76 = .ok (.aload_n 0, 1) := by decide +kernel
theorem dX6_init_77 : decode cX6_init 77 = .ok (.new 36, 3) := by decide +kernel
theorem dX6_init_80 : decode cX6_init 80 = .ok (.dup, 1) := by decide +kernel
theorem dX6_init_81 : decode cX6_init 81 = .ok (.aload_n 0, 1) := by decide +kernel
theorem dX6_init_82 : decode cX6_init 82 = .ok (.getfield 16, 3) := by decide +kernel
theorem dX6_init_85 : decode cX6_init 85 = .ok (.aload_n 0, 1) := by decide +kernel
theorem dX6_init_86 : decode cX6_init 86 = .ok (.getfield 20, 3) := by decide +kernel
theorem dX6_init_89 : decode cX6_init 89 = .ok (.invokespecial 38, 3) := by decide +kernel
theorem dX6_init_92 : decode cX6_init 92 = .ok (.putfield 41, 3) := by decide +kernel
theorem dX6_init_95 : decode cX6_init 95 = .ok (.aload_n 0, 1) := by decide +kernel
theorem dX6_init_96 : decode cX6_init 96 = .ok (.new 45, 3) := by decide +kernel
theorem dX6_init_99 : decode cX6_init 99 = .ok (.dup, 1) := by decide +kernel
theorem dX6_init_100 : decode cX6_init 100 = .ok (.aload_n 0, 1) := by decide +kernel
theorem dX6_init_101 : decode cX6_init 101 = .ok (.getfield 16, 3) := by decide +kernel
theorem dX6_init_104 : decode cX6_init 104 = .ok (.aload_n 0, 1) := by decide +kernel
theorem dX6_init_105 : decode cX6_init 105 = .ok (.getfield 41, 3) := by decide +kernel
theorem dX6_init_108 : decode cX6_init 108 = .ok (.invokespecial 47, 3) := by decide +kernel
theorem dX6_init_111 : decode cX6_init 111 = .ok (.putfield 50, 3) := by decide +kernel
theorem dX6_init_114 : decode cX6_init 114 = .ok (.aload_n 0, 1) := by decide +kernel
theorem dX6_init_115 : decode cX6_init 115 = .ok (.new 54, 3) := by decide +kernel
theorem dX6_init_118 : decode cX6_init 118 = .ok (.dup, 1) := by decide +kernel
theorem dX6_init_119 : decode cX6_init 119 = .ok (.aload_n 0, 1) := by decide +kernel
theorem dX6_init_120 : decode cX6_init 120 = .ok (.getfield 16, 3) := by decide +kernel
theorem dX6_init_123 : decode cX6_init 123 = .ok (.aload_n 0, 1) := by decide +kernel
theorem dX6_init_124 : decode cX6_init 124 = .ok (.getfield 23, 3) := by decide +kernel
theorem dX6_init_127 : decode cX6_init 127 = .ok (.aload_n 0, 1) := by decide +kernel
theorem dX6_init_128 : decode cX6_init 128 = .ok (.getfield 41, 3) := by decide +kernel
theorem dX6_init_131 : decode cX6_init 131 = .ok (.invokespecial 56, 3) := by decide +kernel
theorem dX6_init_134 : decode cX6_init 134 = .ok (.putfield 59, 3) := by decide +kernel
theorem dX6_init_137 : decode cX6_init 137 = .ok (.aload_n 0, 1) := by decide +kernel
theorem dX6_init_138 : decode cX6_init 138 = .ok (.new 63, 3) := by decide +kernel
theorem dX6_init_141 : decode cX6_init 141 = .ok (.dup, 1) := by decide +kernel
theorem dX6_init_142 : decode cX6_init 142 = .ok (.invokespecial 65, 3) := by decide +kernel
theorem dX6_init_145 : decode cX6_init 145 = .ok (.putfield 66, 3) := by decide +kernel
theorem dX6_init_148 : decode cX6_init 148 = .ok (.aload_n 0, 1) := by decide +kernel
theorem dX6_init_149 : decode cX6_init 149 = .ok (.getfield 26, 3) := by decide +kernel
theorem dX6_init_152 : decode cX6_init 152 = .ok (.aload_n 0, 1) := by decide +kernel
theorem dX6_init_153 : decode cX6_init 153 = .ok (.getfield 9, 3) := by decide +kernel
theorem dX6_init_156 : decode cX6_init 156 = .ok (.iconst 1, 1) := by decide +kernel
theorem dX6_init_157 : decode cX6_init 157 = .ok (.invokevirtual 70, 3) := by decide +kernel
theorem dX6_init_160 : decode cX6_init 160 = .ok (.aload_n 0, 1) := by decide +kernel
theorem dX6_init_161 : decode cX6_init 161 = .ok (.getfield 32, 3) := by decide +kernel
theorem dX6_init_164 : decode cX6_init 164 = .ok (.aload_n 0, 1) := by decide +kernel
theorem dX6_init_165 : decode cX6_init 165 = .ok (.getfield 26, 3) := by decide +kernel
theorem dX6_init_168 : decode cX6_init 168 = .ok (.iconst 0, 1) := by decide +kernel
theorem dX6_init_169 : decode cX6_init 169 = .ok (.invokevirtual 74, 3) := by decide +kernel
theorem dX6_init_172 : decode cX6_init 172 = .ok (.pop, 1) := by decide +kernel
theorem dX6_init_173 : decode cX6_init 173 = .ok (.aload_n 0, 1) := by decide +kernel
theorem dX6_init_174 : decode cX6_init 174 = .ok (.iconst 0, 1) := by decide +kernel
theorem dX6_init_175 : decode cX6_init 175 = .ok (.invokevirtual 78, 3) := by decide +kernel
theorem dX6_init_178 : decode cX6_init 178 = .ok (.aload_n 0, 1) := by decide +kernel
theorem dX6_init_179 : decode cX6_init 179 = .ok (.iconst 1, 1) := by decide +kernel
theorem dX6_init_180 : decode cX6_init 180 = .ok (.invokevirtual 78, 3) := by decide +kernel
theorem dX6_init_183 : decode cX6_init 183 = .ok (.aload_n 0, 1) := by decide +kernel
theorem dX6_init_184 : decode cX6_init 184 = .ok (.iconst 2, 1) := by decide +kernel
theorem dX6_init_185 : decode cX6_init 185 = .ok (.invokevirtual 78, 3) := by decide +kernel
theorem dX6_init_188 : decode cX6_init 188 = .ok (.return_, 1) := by decide +kernel
theorem dX6_feed_0 : decode cX6_feed 0 = .ok (.aload_n 0, 1) := by decide +kernel
theorem dX6_feed_1 : decode cX6_feed 1 = .ok (.iload_n 1, 1) := by decide +kernel
theorem dX6_feed_2 : decode cX6_feed 2 = .ok (.aload_n 0, 1) := by decide +kernel
theorem dX6_feed_3 : decode cX6_feed 3 = .ok (.getfield 82, 3) := by decide +kernel
theorem dX6_feed_6 : decode cX6_feed 6 = .ok (.invokevirtual 86, 3) := by decide +kernel
theorem dX6_feed_9 : decode cX6_feed 9 = .ok (.istore 6, 2) := by decide +kernel
theorem dX6_feed_11 : decode cX6_feed 11 = .ok (.aload_n 0, 1) := by decide +kernel
theorem dX6_feed_12 : decode cX6_feed 12 = .ok (.iload_n 2, 1) := by decide +kernel
theorem dX6_feed_13 : decode cX6_feed 13 = .ok (.iload 6, 2) := by decide +kernel
theorem dX6_feed_15 : decode cX6_feed 15 = .ok (.invokevirtual 86, 3) := by decide +kernel
theorem dX6_feed_18 : decode cX6_feed 18 = .ok (.istore 6, 2) := by decide +kernel
theorem dX6_feed_20 : decode cX6_feed 20 = .ok (.aload_n 0, 1) := by decide +kernel
theorem dX6_feed_21 : decode cX6_feed 21 = .ok (.iload_n 3, 1) := by decide +kernel
theorem dX6_feed_22 : decode cX6_feed 22 = .ok (.iload 6, 2) := by decide +kernel
theorem dX6_feed_24 : decode cX6_feed 24 = .ok (.invokevirtual 86, 3) := by decide +kernel
theorem dX6_feed_27 : decode cX6_feed 27 = .ok (.istore 6, 2) := by decide +kernel
theorem dX6_feed_29 : decode cX6_feed 29 = .ok (.aload_n 0, 1) := by decide +kernel
theorem dX6_feed_30 : decode cX6_feed 30 = .ok (.iload 4, 2) := by decide +kernel
theorem dX6_feed_32 : decode cX6_feed 32 = .ok (.iload 6, 2) := by decide +kernel
theorem dX6_feed_34 : decode cX6_feed 34 = .ok (.invokevirtual 86, 3) := by decide +kernel
theorem dX6_feed_37 : decode cX6_feed 37 = .ok (.istore 6, 2) := by decide +kernel
theorem dX6_feed_39 : decode cX6_feed 39 = .ok (.aload_n 0, 1) := by decide +kernel
theorem dX6_feed_40 : decode cX6_feed 40 = .ok (.iload 5, 2) := by decide +kernel
theorem dX6_feed_42 : decode cX6_feed 42 = .ok (.iload 6, 2) := by decide +kernel
theorem dX6_feed_44 : decode cX6_feed 44 = .ok (.invokevirtual 86, 3) := by decide +kernel
theorem dX6_feed_47 : decode cX6_feed 47 = .ok (.istore 6, 2) := by decide +kernel
theorem dX6_feed_49 : decode cX6_feed 49 = .ok (.iload 6, 2) := by decide +kernel
theorem dX6_feed_51 : decode cX6_feed 51 = .ok (.sipush 240, 3) := by decide +kernel
theorem dX6_feed_54 : decode cX6_feed 54 = .ok (.if_icmp .le 5, 3) := by decide +kernel
theorem dX6_feed_57 : decode cX6_feed 57 = .ok (.iconst (-1), 1) := by decide +kernel
theorem dX6_feed_58 : decode cX6_feed 58 = .ok (.ireturn, 1) := by decide +kernel
theorem dX6_feed_59 : decode cX6_feed 59 = .ok (.aload_n 0, 1) := by decide +kernel
theorem dX6_feed_60 : decode cX6_feed 60 = .ok (.iload 6, 2) := by decide +kernel
theorem dX6_feed_62 : decode cX6_feed 62 = .ok (.putfield 82, 3) := by decide +kernel
theorem dX6_feed_65 : decode cX6_feed 65 = .ok (.iload 6, 2) := by decide +kernel
theorem dX6_feed_67 : decode cX6_feed 67 = .ok (.ireturn, 1) := by decide +kernel
theorem dX6_end_0 : decode cX6_end 0 = .ok (.iload_n 1, 1) := by decide +kernel
theorem dX6_end_1 : decode cX6_end 1 = .ok (.ifCond .lt 11, 3) := by decide +kernel
theorem dX6_end_4 : decode cX6_end 4 = .ok (.iload_n 1, 1) := by decide +kernel
theorem dX6_end_5 : decode cX6_end 5 = .ok (.aload_n 0, 1) := by decide +kernel
theorem dX6_end_6 : decode cX6_end 6 = .ok (.getfield 82, 3) := by decide +kernel
theorem dX6_end_9 : decode cX6_end 9 = .ok (.if_icmp .le 5, 3) := by decide +kernel
theorem dX6_end_12 : decode cX6_end 12 = .ok (.iconst 0, 1) := by decide +kernel
theorem dX6_end_13 : decode cX6_end 13 = .ok (.ireturn, 1) := by decide +kernel
theorem dX6_end_14 : decode cX6_end 14 = .ok (.aload_n 0, 1) := by decide +kernel
theorem dX6_end_15 : decode cX6_end 15 = .ok (.iload_n 1, 1) := by decide +kernel
theorem dX6_end_16 : decode cX6_end 16 = .ok (.putfield 82, 3) := by decide +kernel
theorem dX6_end_19 : decode cX6_end 19 = .ok (.iconst 1, 1) := by decide +kernel
theorem dX6_end_20 : decode cX6_end 20 = .ok (.ireturn, 1) := by decide +kernel
theorem dX6_fault_0 : decode cX6_fault 0 = .ok (.aload_n 0, 1) := by decide +kernel
theorem dX6_fault_1 : decode cX6_fault 1 = .ok (.iload_n 1, 1) := by decide +kernel
theorem dX6_fault_2 : decode cX6_fault 2 = .ok (.invokevirtual 90, 3) := by decide +kernel
theorem dX6_fault_5 : decode cX6_fault 5 = .ok (.ireturn, 1) := by decide +kernel
theorem dX6_take_0 : decode cX6_take 0 = .ok (.aload_n 0, 1) := by decide +kernel
theorem dX6_take_1 : decode cX6_take 1 = .ok (.iload_n 1, 1) := by decide +kernel
theorem dX6_take_2 : decode cX6_take 2 = .ok (.invokevirtual 90, 3) := by decide +kernel
theorem dX6_take_5 : decode cX6_take 5 = .ok (.iconst (-1), 1) := by decide +kernel
theorem dX6_take_6 : decode cX6_take 6 = .ok (.if_icmp .eq 5, 3) := by decide +kernel
theorem dX6_take_9 : decode cX6_take 9 = .ok (.iconst 0, 1) := by decide +kernel
theorem dX6_take_10 : decode cX6_take 10 = .ok (.ireturn, 1) := by decide +kernel
theorem dX6_take_11 : decode cX6_take 11 = .ok (.aload_n 0, 1) := by decide +kernel
theorem dX6_take_12 : decode cX6_take 12 = .ok (.iload_n 1, 1) := by decide +kernel
theorem dX6_take_13 : decode cX6_take 13 = .ok (.invokevirtual 78, 3) := by decide +kernel
theorem dX6_take_16 : decode cX6_take 16 = .ok (.aload_n 0, 1) := by decide +kernel
theorem dX6_take_17 : decode cX6_take 17 = .ok (.iconst 0, 1) := by decide +kernel
theorem dX6_take_18 : decode cX6_take 18 = .ok (.putfield 82, 3) := by decide +kernel
theorem dX6_take_21 : decode cX6_take 21 = .ok (.iload_n 1, 1) := by decide +kernel
theorem dX6_take_22 : decode cX6_take 22 = .ok (.ifCond .ne 13, 3) := by decide +kernel
theorem dX6_take_25 : decode cX6_take 25 = .ok (.aload_n 0, 1) := by decide +kernel
theorem dX6_take_26 : decode cX6_take 26 = .ok (.getfield 66, 3) := by decide +kernel
theorem dX6_take_29 : decode cX6_take 29 = .ok (.invokevirtual 94, 3) := by decide +kernel
theorem dX6_take_32 : decode cX6_take 32 = .ok (.goto 15, 3) := by decide +kernel
theorem dX6_take_35 : decode cX6_take 35 = .ok (.iload_n 1, 1) := by decide +kernel
theorem dX6_take_36 : decode cX6_take 36 = .ok (.iconst 1, 1) := by decide +kernel
theorem dX6_take_37 : decode cX6_take 37 = .ok (.if_icmp .ne 10, 3) := by decide +kernel
theorem dX6_take_40 : decode cX6_take 40 = .ok (.aload_n 0, 1) := by decide +kernel
theorem dX6_take_41 : decode cX6_take 41 = .ok (.getfield 41, 3) := by decide +kernel
theorem dX6_take_44 : decode cX6_take 44 = .ok (.invokevirtual 97, 3) := by decide +kernel
theorem dX6_take_47 : decode cX6_take 47 = .ok (.iconst 1, 1) := by decide +kernel
theorem dX6_take_48 : decode cX6_take 48 = .ok (.ireturn, 1) := by decide +kernel
theorem dX6_differ_0 : decode cX6_differ 0 = .ok (.iload_n 1, 1) := by decide +kernel
theorem dX6_differ_1 : decode cX6_differ 1 = .ok (.invokestatic 100, 3) := by decide +kernel
theorem dX6_differ_4 : decode cX6_differ 4 = .ok (.ifCond .eq 28, 3) := by decide +kernel
theorem dX6_differ_7 : decode cX6_differ 7 = .ok (.iload_n 2, 1) := by decide +kernel
theorem dX6_differ_8 : decode cX6_differ 8 = .ok (.invokestatic 100, 3) := by decide +kernel
theorem dX6_differ_11 : decode cX6_differ 11 = .ok (.ifCond .eq 21, 3) := by decide +kernel
theorem dX6_differ_14 : decode cX6_differ 14 = .ok (.iload_n 1, 1) := by decide +kernel
theorem dX6_differ_15 : decode cX6_differ 15 = .ok (.iload_n 2, 1) := by decide +kernel
theorem dX6_differ_16 : decode cX6_differ 16 = .ok (.if_icmp .eq 16, 3) := by decide +kernel
theorem dX6_differ_19 : decode cX6_differ 19 = .ok (.aload_n 0, 1) := by decide +kernel
theorem dX6_differ_20 : decode cX6_differ 20 = .ok (.getfield 41, 3) := by decide +kernel
theorem dX6_differ_23 : decode cX6_differ 23 = .ok (.iload_n 1, 1) := by decide +kernel
theorem dX6_differ_24 : decode cX6_differ 24 = .ok (.iload_n 2, 1) := by decide +kernel
theorem dX6_differ_25 : decode cX6_differ 25 = .ok (.invokevirtual 104, 3) := by decide +kernel
theorem dX6_differ_28 : decode cX6_differ 28 = .ok (.iload_n 3, 1) := by decide +kernel
theorem dX6_differ_29 : decode cX6_differ 29 = .ok (.if_icmp .ne 5, 3) := by decide +kernel
theorem dX6_differ_32 : decode cX6_differ 32 = .ok (.iconst 0, 1) := by decide +kernel
theorem dX6_differ_33 : decode cX6_differ 33 = .ok (.ireturn, 1) := by decide +kernel
theorem dX6_differ_34 : decode cX6_differ 34 = .ok (.aload_n 0, 1) := by decide +kernel
theorem dX6_differ_35 : decode cX6_differ 35 = .ok (.getfield 41, 3) := by decide +kernel
theorem dX6_differ_38 : decode cX6_differ 38 = .ok (.iload_n 1, 1) := by decide +kernel
theorem dX6_differ_39 : decode cX6_differ 39 = .ok (.iload_n 2, 1) := by decide +kernel
theorem dX6_differ_40 : decode cX6_differ 40 = .ok (.iload_n 3, 1) := by decide +kernel
theorem dX6_differ_41 : decode cX6_differ 41 = .ok (.invokevirtual 108, 3) := by decide +kernel
theorem dX6_differ_44 : decode cX6_differ 44 = .ok (.iconst 1, 1) := by decide +kernel
